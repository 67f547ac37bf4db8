/-! ===== the twelve constructors ===== -/
def dV : DecidableEq Value := inferInstance
def dCE : DecidableEq CE := inferInstance
def dZ (a b : Option (List CE)) : Decidable (a = b) := match a, b with
  | none, none => isTrue rfl
  | some x, some y => match (@instDecidableEqList _ dCE x y : Decidable (x = y)) with
    | isTrue h => isTrue (congrArg some h)
    | isFalse h => isFalse (fun e => h (Option.some.inj e))
  | none, some _ => isFalse (fun e => by cases e)
  | some _, none => isFalse (fun e => by cases e)
def zC0 : List CE := [.inr (.inr (0, [.ref 1, .int 0])), .inl (600, [])]
def zC1 : List CE := [.inr (.inr (1, [.ref 1, .ref 2, .int 0, .int 0, .int 0, .int 0, .int 0])), .inl (864, []), .inl (6, [])]
def zC2 : List CE := [.inr (.inr (2, [.ref 1, .int 0, .ref 2, .ref 3, .ref 4, .ref 5, .int 0, .ref 6, .ref 7])), .inl (400, []), .inl (16, []), .inl (16, []), .inl (16, []), .inl (16, []), .inl (11, []), .inl (32, [])]
def zC3 : List CE := [.inr (.inr (3, [.ref 1, .int 0])), .inl (80, [])]
def zC4 : List CE := [.inr (.inr (4, [.ref 1, .ref 4, .ref 5, .ref 6, .ref 7, .ref 8, .ref 9, .int 0])), .inr (.inr (1, [.ref 2, .ref 3, .int 0, .int 0, .int 0, .int 0, .int 0])), .inl (864, []), .inl (6, []), .inl (17, []), .inl (17, []), .inl (5, []), .inl (5, []), .inl (96, []), .inl (96, [])]
def zC5 : List CE := [.inr (.inr (5, [.ref 1, .ref 2, .ref 3, .int 0, .int 0, .int 0, .int 0, .int 0, .ref 4, .ref 12])), .inl (401, []), .inl (401, []), .inl (401, []), .inr (.inr (2, [.ref 5, .int 0, .ref 6, .ref 7, .ref 8, .ref 9, .int 0, .ref 10, .ref 11])), .inl (400, []), .inl (16, []), .inl (16, []), .inl (16, []), .inl (16, []), .inl (11, []), .inl (32, []), .inr (.inr (3, [.ref 13, .int 0])), .inl (80, [])]
def zC6 : List CE := [.inr (.inr (6, [.ref 1, .ref 4, .ref 6, .ref 14, .ref 16, .ref 18, .ref 20])), .inr (.inr (1, [.ref 2, .ref 3, .int 0, .int 0, .int 0, .int 0, .int 0])), .inl (864, []), .inl (6, []), .inr (.inr (0, [.ref 5, .int 0])), .inl (600, []), .inr (.inr (2, [.ref 7, .int 0, .ref 8, .ref 9, .ref 10, .ref 11, .int 0, .ref 12, .ref 13])), .inl (400, []), .inl (16, []), .inl (16, []), .inl (16, []), .inl (16, []), .inl (11, []), .inl (32, []), .inr (.inr (3, [.ref 15, .int 0])), .inl (80, []), .inr (.inr (3, [.ref 17, .int 0])), .inl (80, []), .inr (.inr (3, [.ref 19, .int 0])), .inl (80, []), .inr (.inr (9, [.ref 21, .ref 23, .ref 25, .ref 27, .ref 29, .ref 31, .ref 33, .int 1234567, .ref 35])), .inr (.inr (8, [.ref 22, .int 0])), .inl (8, []), .inr (.inr (8, [.ref 24, .int 0])), .inl (8, []), .inr (.inr (8, [.ref 26, .int 0])), .inl (7, []), .inr (.inr (8, [.ref 28, .int 0])), .inl (12, []), .inr (.inr (8, [.ref 30, .int 0])), .inl (7, []), .inr (.inr (8, [.ref 32, .int 0])), .inl (8, []), .inr (.inr (8, [.ref 34, .int 0])), .inl (10, []), .inl (9, [])]
def zC7 : List CE := [.inr (.inr (7, [.ref 1, .ref 2, .ref 3, .ref 4])), .inl (128, []), .inl (128, []), .inl (10, []), .inl (10, [])]
def zC9 : List CE := [.inr (.inr (9, [.ref 1, .ref 3, .ref 5, .ref 7, .ref 9, .ref 11, .ref 13, .int 1234567, .ref 15])), .inr (.inr (8, [.ref 2, .int 0])), .inl (8, []), .inr (.inr (8, [.ref 4, .int 0])), .inl (8, []), .inr (.inr (8, [.ref 6, .int 0])), .inl (7, []), .inr (.inr (8, [.ref 8, .int 0])), .inl (12, []), .inr (.inr (8, [.ref 10, .int 0])), .inl (7, []), .inr (.inr (8, [.ref 12, .int 0])), .inl (8, []), .inr (.inr (8, [.ref 14, .int 0])), .inl (10, []), .inl (9, [])]
def zC10 : List CE := [.inr (.inr (10, [.ref 1, .ref 37, .int 0, .ref 73, .ref 74, .int 0, .int 0, .ref 75, .int 0, .ref 76, .int 0, .int (-1), .ref 90, .ref 100])), .inr (.inr (6, [.ref 2, .ref 5, .ref 7, .ref 15, .ref 17, .ref 19, .ref 21])), .inr (.inr (1, [.ref 3, .ref 4, .int 0, .int 0, .int 0, .int 0, .int 0])), .inl (864, []), .inl (6, []), .inr (.inr (0, [.ref 6, .int 0])), .inl (600, []), .inr (.inr (2, [.ref 8, .int 0, .ref 9, .ref 10, .ref 11, .ref 12, .int 0, .ref 13, .ref 14])), .inl (400, []), .inl (16, []), .inl (16, []), .inl (16, []), .inl (16, []), .inl (11, []), .inl (32, []), .inr (.inr (3, [.ref 16, .int 0])), .inl (80, []), .inr (.inr (3, [.ref 18, .int 0])), .inl (80, []), .inr (.inr (3, [.ref 20, .int 0])), .inl (80, []), .inr (.inr (9, [.ref 22, .ref 24, .ref 26, .ref 28, .ref 30, .ref 32, .ref 34, .int 1234567, .ref 36])), .inr (.inr (8, [.ref 23, .int 0])), .inl (8, []), .inr (.inr (8, [.ref 25, .int 0])), .inl (8, []), .inr (.inr (8, [.ref 27, .int 0])), .inl (7, []), .inr (.inr (8, [.ref 29, .int 0])), .inl (12, []), .inr (.inr (8, [.ref 31, .int 0])), .inl (7, []), .inr (.inr (8, [.ref 33, .int 0])), .inl (8, []), .inr (.inr (8, [.ref 35, .int 0])), .inl (10, []), .inl (9, []), .inr (.inr (6, [.ref 38, .ref 41, .ref 43, .ref 51, .ref 53, .ref 55, .ref 57])), .inr (.inr (1, [.ref 39, .ref 40, .int 0, .int 0, .int 0, .int 0, .int 0])), .inl (864, []), .inl (6, []), .inr (.inr (0, [.ref 42, .int 0])), .inl (600, []), .inr (.inr (2, [.ref 44, .int 0, .ref 45, .ref 46, .ref 47, .ref 48, .int 0, .ref 49, .ref 50])), .inl (400, []), .inl (16, []), .inl (16, []), .inl (16, []), .inl (16, []), .inl (11, []), .inl (32, []), .inr (.inr (3, [.ref 52, .int 0])), .inl (80, []), .inr (.inr (3, [.ref 54, .int 0])), .inl (80, []), .inr (.inr (3, [.ref 56, .int 0])), .inl (80, []), .inr (.inr (9, [.ref 58, .ref 60, .ref 62, .ref 64, .ref 66, .ref 68, .ref 70, .int 1234567, .ref 72])), .inr (.inr (8, [.ref 59, .int 0])), .inl (8, []), .inr (.inr (8, [.ref 61, .int 0])), .inl (8, []), .inr (.inr (8, [.ref 63, .int 0])), .inl (7, []), .inr (.inr (8, [.ref 65, .int 0])), .inl (12, []), .inr (.inr (8, [.ref 67, .int 0])), .inl (7, []), .inr (.inr (8, [.ref 69, .int 0])), .inl (8, []), .inr (.inr (8, [.ref 71, .int 0])), .inl (10, []), .inl (9, []), .inr (.inl (6, [some 105, some 108, some 111, some 114, some 117, some 120])), .inl (6, []), .inl (400, []), .inr (.inr (5, [.ref 77, .ref 78, .ref 79, .int 0, .int 0, .int 0, .int 0, .int 0, .ref 80, .ref 88])), .inl (401, []), .inl (401, []), .inl (401, []), .inr (.inr (2, [.ref 81, .int 0, .ref 82, .ref 83, .ref 84, .ref 85, .int 0, .ref 86, .ref 87])), .inl (400, []), .inl (16, []), .inl (16, []), .inl (16, []), .inl (16, []), .inl (11, []), .inl (32, []), .inr (.inr (3, [.ref 89, .int 0])), .inl (80, []), .inr (.inr (4, [.ref 91, .ref 94, .ref 95, .ref 96, .ref 97, .ref 98, .ref 99, .int 0])), .inr (.inr (1, [.ref 92, .ref 93, .int 0, .int 0, .int 0, .int 0, .int 0])), .inl (864, []), .inl (6, []), .inl (17, []), .inl (17, []), .inl (5, []), .inl (5, []), .inl (96, []), .inl (96, []), .inr (.inr (7, [.ref 101, .ref 102, .ref 103, .ref 104])), .inl (128, []), .inl (128, []), .inl (10, []), .inl (10, []), .inr (.inr (1, [.ref 106, .ref 107, .int 0, .int 0, .int 0, .int 0, .int 0])), .inl (864, []), .inl (6, []), .inr (.inr (1, [.ref 109, .ref 110, .int 0, .int 0, .int 0, .int 0, .int 0])), .inl (864, []), .inl (6, []), .inr (.inr (1, [.ref 112, .ref 113, .int 0, .int 0, .int 0, .int 0, .int 0])), .inl (864, []), .inl (6, []), .inr (.inr (1, [.ref 115, .ref 116, .int 0, .int 0, .int 0, .int 0, .int 0])), .inl (864, []), .inl (6, []), .inr (.inr (1, [.ref 118, .ref 119, .int 0, .int 0, .int 0, .int 0, .int 0])), .inl (864, []), .inl (6, []), .inr (.inr (1, [.ref 121, .ref 122, .int 0, .int 0, .int 0, .int 0, .int 0])), .inl (864, []), .inl (6, [])]
def zC11 : List CE := [.inr (.inr (11, [.int 0, .ref 1, .ref 2, .int 0, .ref 3, .int 0, .int 0, .ref 4, .ref 5, .ref 6, .ref 7, .int 0, .int 0, .int 0, .int 0, .int 0, .ref 8, .ref 9, .ref 10, .ref 11, .ref 12, .ref 13, .ref 14, .ref 15, .int 0, .int 0, .int 0, .ref 16, .int 0, .int 0, .int 0, .int 0, .int (-1), .int 0, .ref 17, .int 0, .ref 18, .int 0, .ref 19, .ref 20, .ref 21, .int 0, .ref 22, .int 0, .ref 23, .ref 24, .int 0, .ref 25, .ref 26, .ref 27, .ref 28, .int 0, .ref 29, .int 0, .int 0, .int 0, .ref 30, .int 0, .ref 31, .ref 32, .ref 33, .int 0, .ref 34, .ref 35, .int 0, .ref 36, .ref 37, .ref 38, .ref 39, .int 0, .int 0, .int 0, .ref 40])), .inl (773, []), .inl (4638, []), .inl (773, []), .inl (6, []), .inl (96, []), .inl (600, []), .inl (400, []), .inl (170, [(169, 32), (168, 114), (167, 111), (166, 111), (165, 100), (164, 32), (163, 110), (162, 119), (161, 111), (160, 100), (159, 32), (158, 112), (157, 117), (156, 32), (155, 110), (154, 101), (153, 115), (152, 111), (151, 111), (150, 108), (149, 32), (148, 100), (147, 110), (146, 101), (145, 109), (144, 32), (143, 101), (142, 114), (141, 97), (140, 98), (139, 32), (138, 116), (137, 114), (136, 101), (135, 115), (134, 101), (133, 100), (132, 32), (131, 101), (130, 118), (129, 97), (128, 101), (127, 108), (126, 32), (125, 104), (124, 99), (123, 116), (122, 97), (121, 119), (120, 32), (119, 112), (118, 101), (117, 116), (116, 115), (115, 32), (114, 116), (113, 104), (112, 103), (111, 105), (110, 108), (109, 102), (108, 32), (107, 110), (106, 111), (105, 32), (104, 116), (103, 104), (102, 103), (101, 105), (100, 110), (99, 32), (98, 101), (97, 100), (96, 105), (95, 114), (94, 116), (93, 115), (92, 32), (91, 100), (90, 101), (89, 108), (88, 105), (87, 97), (86, 102), (85, 32), (84, 100), (83, 114), (82, 97), (81, 101), (80, 104), (79, 32), (78, 114), (77, 101), (76, 98), (75, 109), (74, 117), (73, 110), (72, 32), (71, 116), (70, 104), (69, 103), (68, 105), (67, 101), (66, 104), (65, 32), (64, 116), (63, 101), (62, 112), (61, 114), (60, 97), (59, 99), (58, 32), (57, 107), (56, 110), (55, 97), (54, 114), (53, 32), (52, 101), (51, 115), (50, 111), (49, 111), (48, 108), (47, 32), (46, 114), (45, 97), (44, 101), (43, 119), (42, 32), (41, 116), (40, 104), (39, 103), (38, 105), (37, 101), (36, 119), (35, 32), (34, 116), (33, 111), (32, 110), (31, 32), (30, 100), (29, 110), (28, 97), (27, 32), (26, 114), (25, 111), (24, 32), (23, 110), (22, 101), (21, 104), (20, 119), (19, 32), (18, 115), (17, 101), (16, 115), (15, 105), (14, 114), (13, 32), (12, 115), (11, 114), (10, 97), (9, 101), (8, 119), (7, 32), (6, 115), (5, 107), (4, 97), (3, 101), (2, 114), (1, 99), (0, 32)]), .inl (2, []), .inl (48, []), .inl (48, []), .inl (48, []), .inl (48, []), .inl (1200, []), .inl (1200, []), .inl (40, []), .inl (96, []), .inl (160, []), .inl (64, []), .inl (11, []), .inl (420, []), .inl (17, []), .inl (8, []), .inl (8, []), .inl (7, []), .inl (4, []), .inl (289, []), .inl (96, []), .inl (8, []), .inl (12, []), .inl (7, []), .inl (128, []), .inl (128, []), .inl (8, []), .inl (3, []), .inl (10, []), .inl (10, []), .inl (10, []), .inl (9, []), .inl (3200, [])]
def zR7 : List CE := [.inr (.inr (8, [.ref 1, .int 0])), .inl (7, [])]
def zR8 : List CE := [.inr (.inr (8, [.ref 1, .int 0])), .inl (8, [])]
def zR10 : List CE := [.inr (.inr (8, [.ref 1, .int 0])), .inl (10, [])]
def zR12 : List CE := [.inr (.inr (8, [.ref 1, .int 0])), .inl (12, [])]
def zT (n k : Nat) (av : List Value) : Option (List CE) := match k, av with
  | 0, [] => if Nat.ble 1 n then some zC0 else none
  | 1, [] => if Nat.ble 1 n then some zC1 else none
  | 2, [] => if Nat.ble 1 n then some zC2 else none
  | 3, [] => if Nat.ble 1 n then some zC3 else none
  | 4, [] => if Nat.ble 2 n then some zC4 else none
  | 5, [] => if Nat.ble 2 n then some zC5 else none
  | 6, [] => if Nat.ble 3 n then some zC6 else none
  | 7, [] => if Nat.ble 1 n then some zC7 else none
  | 9, [] => if Nat.ble 2 n then some zC9 else none
  | 10, [] => if Nat.ble 4 n then some zC10 else none
  | 11, [] => if Nat.ble 5 n then some zC11 else none
  | 8, [.int x] => if Nat.ble 1 n then (if x = 7 then some zR7 else if x = 8 then some zR8 else if x = 10 then some zR10 else if x = 12 then some zR12 else none) else none
  | _, _ => none
theorem hz0 (d : Nat) : ∀ k av Zc, zT 0 k av = some Zc → CtC (d + 0) (ctab k) k av Zc ∧ (∀ as, av.map (rv as) = av) := by
  intro k av Zc h
  unfold zT at h
  split at h
  · cases h
  · cases h
  · cases h
  · cases h
  · cases h
  · cases h
  · cases h
  · cases h
  · cases h
  · cases h
  · cases h
  · cases h
  · cases h
set_option maxRecDepth 1000000 in
theorem xqc0 : xc (zT 0) prog_2_method_1_code 0 1 1 (zC0.length - 1) (slS 1 zC0) 2000 0 (entL 1 (.ref 0 :: [])) [] [.inr (.inr (0, dfl 0))] = some zC0 := @of_decide_eq_true _ (dZ _ _) (by decide +kernel)
theorem qc0 (d : Nat) : CtC (d + 1) (ctab 0) 0 [] zC0 := ctc_of (own := 0) (d := d + 0) ct_ok0 (by decide +kernel) (fun _ => rfl) (by intro v hv; simp at hv) (by decide +kernel) (fun p l e s m args below meth c D cA cQ A q Q X hret => xc_ok (Cc := zT 0) rfl (hz0 d) X hret 2000 0 _ _ _ (by simp) (ck1_ent (by decide +kernel)) xqc0)
set_option maxRecDepth 1000000 in
theorem xqc1 : xc (zT 0) prog_3_method_1_code 1 1 1 (zC1.length - 1) (slS 1 zC1) 2000 0 (entL 1 (.ref 0 :: [])) [] [.inr (.inr (1, dfl 1))] = some zC1 := @of_decide_eq_true _ (dZ _ _) (by decide +kernel)
theorem qc1 (d : Nat) : CtC (d + 1) (ctab 1) 1 [] zC1 := ctc_of (own := 1) (d := d + 0) ct_ok1 (by decide +kernel) (fun _ => rfl) (by intro v hv; simp at hv) (by decide +kernel) (fun p l e s m args below meth c D cA cQ A q Q X hret => xc_ok (Cc := zT 0) rfl (hz0 d) X hret 2000 0 _ _ _ (by simp) (ck1_ent (by decide +kernel)) xqc1)
set_option maxRecDepth 1000000 in
theorem xqc2 : xc (zT 0) prog_4_method_1_code 2 1 1 (zC2.length - 1) (slS 1 zC2) 2000 0 (entL 1 (.ref 0 :: [])) [] [.inr (.inr (2, dfl 2))] = some zC2 := @of_decide_eq_true _ (dZ _ _) (by decide +kernel)
theorem qc2 (d : Nat) : CtC (d + 1) (ctab 2) 2 [] zC2 := ctc_of (own := 2) (d := d + 0) ct_ok2 (by decide +kernel) (fun _ => rfl) (by intro v hv; simp at hv) (by decide +kernel) (fun p l e s m args below meth c D cA cQ A q Q X hret => xc_ok (Cc := zT 0) rfl (hz0 d) X hret 2000 0 _ _ _ (by simp) (ck1_ent (by decide +kernel)) xqc2)
set_option maxRecDepth 1000000 in
theorem xqc3 : xc (zT 0) prog_5_method_1_code 3 1 1 (zC3.length - 1) (slS 1 zC3) 2000 0 (entL 1 (.ref 0 :: [])) [] [.inr (.inr (3, dfl 3))] = some zC3 := @of_decide_eq_true _ (dZ _ _) (by decide +kernel)
theorem qc3 (d : Nat) : CtC (d + 1) (ctab 3) 3 [] zC3 := ctc_of (own := 3) (d := d + 0) ct_ok3 (by decide +kernel) (fun _ => rfl) (by intro v hv; simp at hv) (by decide +kernel) (fun p l e s m args below meth c D cA cQ A q Q X hret => xc_ok (Cc := zT 0) rfl (hz0 d) X hret 2000 0 _ _ _ (by simp) (ck1_ent (by decide +kernel)) xqc3)
set_option maxRecDepth 1000000 in
theorem xqc7 : xc (zT 0) prog_9_method_1_code 7 1 1 (zC7.length - 1) (slS 1 zC7) 2000 0 (entL 1 (.ref 0 :: [])) [] [.inr (.inr (7, dfl 7))] = some zC7 := @of_decide_eq_true _ (dZ _ _) (by decide +kernel)
theorem qc7 (d : Nat) : CtC (d + 1) (ctab 7) 7 [] zC7 := ctc_of (own := 7) (d := d + 0) ct_ok7 (by decide +kernel) (fun _ => rfl) (by intro v hv; simp at hv) (by decide +kernel) (fun p l e s m args below meth c D cA cQ A q Q X hret => xc_ok (Cc := zT 0) rfl (hz0 d) X hret 2000 0 _ _ _ (by simp) (ck1_ent (by decide +kernel)) xqc7)
set_option maxRecDepth 1000000 in
theorem xqr7 : xc (zT 0) prog_10_method_1_code 8 2 1 (zR7.length - 1) (slS 1 zR7) 2000 0 (entL 2 (.ref 0 :: [.int 7])) [] [.inr (.inr (8, dfl 8))] = some zR7 := @of_decide_eq_true _ (dZ _ _) (by decide +kernel)
theorem qr7 (d : Nat) : CtC (d + 1) (ctab 8) 8 [.int 7] zR7 := ctc_of (own := 8) (d := d + 0) ct_ok8 (by decide +kernel) (fun _ => rfl) (by intro v hv; simp at hv; subst hv; rfl) (by decide +kernel) (fun p l e s m args below meth c D cA cQ A q Q X hret => xc_ok (Cc := zT 0) rfl (hz0 d) X hret 2000 0 _ _ _ (by simp) (ck1_ent (by decide +kernel)) xqr7)
set_option maxRecDepth 1000000 in
theorem xqr8 : xc (zT 0) prog_10_method_1_code 8 2 1 (zR8.length - 1) (slS 1 zR8) 2000 0 (entL 2 (.ref 0 :: [.int 8])) [] [.inr (.inr (8, dfl 8))] = some zR8 := @of_decide_eq_true _ (dZ _ _) (by decide +kernel)
theorem qr8 (d : Nat) : CtC (d + 1) (ctab 8) 8 [.int 8] zR8 := ctc_of (own := 8) (d := d + 0) ct_ok8 (by decide +kernel) (fun _ => rfl) (by intro v hv; simp at hv; subst hv; rfl) (by decide +kernel) (fun p l e s m args below meth c D cA cQ A q Q X hret => xc_ok (Cc := zT 0) rfl (hz0 d) X hret 2000 0 _ _ _ (by simp) (ck1_ent (by decide +kernel)) xqr8)
set_option maxRecDepth 1000000 in
theorem xqr10 : xc (zT 0) prog_10_method_1_code 8 2 1 (zR10.length - 1) (slS 1 zR10) 2000 0 (entL 2 (.ref 0 :: [.int 10])) [] [.inr (.inr (8, dfl 8))] = some zR10 := @of_decide_eq_true _ (dZ _ _) (by decide +kernel)
theorem qr10 (d : Nat) : CtC (d + 1) (ctab 8) 8 [.int 10] zR10 := ctc_of (own := 8) (d := d + 0) ct_ok8 (by decide +kernel) (fun _ => rfl) (by intro v hv; simp at hv; subst hv; rfl) (by decide +kernel) (fun p l e s m args below meth c D cA cQ A q Q X hret => xc_ok (Cc := zT 0) rfl (hz0 d) X hret 2000 0 _ _ _ (by simp) (ck1_ent (by decide +kernel)) xqr10)
set_option maxRecDepth 1000000 in
theorem xqr12 : xc (zT 0) prog_10_method_1_code 8 2 1 (zR12.length - 1) (slS 1 zR12) 2000 0 (entL 2 (.ref 0 :: [.int 12])) [] [.inr (.inr (8, dfl 8))] = some zR12 := @of_decide_eq_true _ (dZ _ _) (by decide +kernel)
theorem qr12 (d : Nat) : CtC (d + 1) (ctab 8) 8 [.int 12] zR12 := ctc_of (own := 8) (d := d + 0) ct_ok8 (by decide +kernel) (fun _ => rfl) (by intro v hv; simp at hv; subst hv; rfl) (by decide +kernel) (fun p l e s m args below meth c D cA cQ A q Q X hret => xc_ok (Cc := zT 0) rfl (hz0 d) X hret 2000 0 _ _ _ (by simp) (ck1_ent (by decide +kernel)) xqr12)
theorem hz1 (d : Nat) : ∀ k av Zc, zT 1 k av = some Zc → CtC (d + 1) (ctab k) k av Zc ∧ (∀ as, av.map (rv as) = av) := by
  intro k av Zc h
  unfold zT at h
  split at h
  · cases h; exact ⟨qc0 (d + 0), fun _ => rfl⟩
  · cases h; exact ⟨qc1 (d + 0), fun _ => rfl⟩
  · cases h; exact ⟨qc2 (d + 0), fun _ => rfl⟩
  · cases h; exact ⟨qc3 (d + 0), fun _ => rfl⟩
  · cases h
  · cases h
  · cases h
  · cases h; exact ⟨qc7 (d + 0), fun _ => rfl⟩
  · cases h
  · cases h
  · cases h
  · rename_i x
    simp only [show Nat.ble 1 1 = true from rfl, if_true] at h
    split at h
    · rename_i e; cases h; subst e; exact ⟨qr7 (d + 0), fun _ => rfl⟩
    split at h
    · rename_i e; cases h; subst e; exact ⟨qr8 (d + 0), fun _ => rfl⟩
    split at h
    · rename_i e; cases h; subst e; exact ⟨qr10 (d + 0), fun _ => rfl⟩
    split at h
    · rename_i e; cases h; subst e; exact ⟨qr12 (d + 0), fun _ => rfl⟩
    cases h
  · cases h
set_option maxRecDepth 1000000 in
theorem xqc4 : xc (zT 1) prog_6_method_1_code 4 1 1 (zC4.length - 1) (slS 1 zC4) 2000 0 (entL 1 (.ref 0 :: [])) [] [.inr (.inr (4, dfl 4))] = some zC4 := @of_decide_eq_true _ (dZ _ _) (by decide +kernel)
theorem qc4 (d : Nat) : CtC (d + 2) (ctab 4) 4 [] zC4 := ctc_of (own := 4) (d := d + 1) ct_ok4 (by decide +kernel) (fun _ => rfl) (by intro v hv; simp at hv) (by decide +kernel) (fun p l e s m args below meth c D cA cQ A q Q X hret => xc_ok (Cc := zT 1) rfl (hz1 d) X hret 2000 0 _ _ _ (by simp) (ck1_ent (by decide +kernel)) xqc4)
set_option maxRecDepth 1000000 in
theorem xqc5 : xc (zT 1) prog_7_method_1_code 5 1 1 (zC5.length - 1) (slS 1 zC5) 2000 0 (entL 1 (.ref 0 :: [])) [] [.inr (.inr (5, dfl 5))] = some zC5 := @of_decide_eq_true _ (dZ _ _) (by decide +kernel)
theorem qc5 (d : Nat) : CtC (d + 2) (ctab 5) 5 [] zC5 := ctc_of (own := 5) (d := d + 1) ct_ok5 (by decide +kernel) (fun _ => rfl) (by intro v hv; simp at hv) (by decide +kernel) (fun p l e s m args below meth c D cA cQ A q Q X hret => xc_ok (Cc := zT 1) rfl (hz1 d) X hret 2000 0 _ _ _ (by simp) (ck1_ent (by decide +kernel)) xqc5)
set_option maxRecDepth 1000000 in
theorem xqc9 : xc (zT 1) prog_11_method_1_code 9 1 1 (zC9.length - 1) (slS 1 zC9) 2000 0 (entL 1 (.ref 0 :: [])) [] [.inr (.inr (9, dfl 9))] = some zC9 := @of_decide_eq_true _ (dZ _ _) (by decide +kernel)
theorem qc9 (d : Nat) : CtC (d + 2) (ctab 9) 9 [] zC9 := ctc_of (own := 9) (d := d + 1) ct_ok9 (by decide +kernel) (fun _ => rfl) (by intro v hv; simp at hv) (by decide +kernel) (fun p l e s m args below meth c D cA cQ A q Q X hret => xc_ok (Cc := zT 1) rfl (hz1 d) X hret 2000 0 _ _ _ (by simp) (ck1_ent (by decide +kernel)) xqc9)
theorem hz2 (d : Nat) : ∀ k av Zc, zT 2 k av = some Zc → CtC (d + 2) (ctab k) k av Zc ∧ (∀ as, av.map (rv as) = av) := by
  intro k av Zc h
  unfold zT at h
  split at h
  · cases h; exact ⟨qc0 (d + 1), fun _ => rfl⟩
  · cases h; exact ⟨qc1 (d + 1), fun _ => rfl⟩
  · cases h; exact ⟨qc2 (d + 1), fun _ => rfl⟩
  · cases h; exact ⟨qc3 (d + 1), fun _ => rfl⟩
  · cases h; exact ⟨qc4 (d + 0), fun _ => rfl⟩
  · cases h; exact ⟨qc5 (d + 0), fun _ => rfl⟩
  · cases h
  · cases h; exact ⟨qc7 (d + 1), fun _ => rfl⟩
  · cases h; exact ⟨qc9 (d + 0), fun _ => rfl⟩
  · cases h
  · cases h
  · rename_i x
    simp only [show Nat.ble 1 2 = true from rfl, if_true] at h
    split at h
    · rename_i e; cases h; subst e; exact ⟨qr7 (d + 1), fun _ => rfl⟩
    split at h
    · rename_i e; cases h; subst e; exact ⟨qr8 (d + 1), fun _ => rfl⟩
    split at h
    · rename_i e; cases h; subst e; exact ⟨qr10 (d + 1), fun _ => rfl⟩
    split at h
    · rename_i e; cases h; subst e; exact ⟨qr12 (d + 1), fun _ => rfl⟩
    cases h
  · cases h
set_option maxRecDepth 1000000 in
theorem xqc6 : xc (zT 2) prog_8_method_1_code 6 1 1 (zC6.length - 1) (slS 1 zC6) 2000 0 (entL 1 (.ref 0 :: [])) [] [.inr (.inr (6, dfl 6))] = some zC6 := @of_decide_eq_true _ (dZ _ _) (by decide +kernel)
theorem qc6 (d : Nat) : CtC (d + 3) (ctab 6) 6 [] zC6 := ctc_of (own := 6) (d := d + 2) ct_ok6 (by decide +kernel) (fun _ => rfl) (by intro v hv; simp at hv) (by decide +kernel) (fun p l e s m args below meth c D cA cQ A q Q X hret => xc_ok (Cc := zT 2) rfl (hz2 d) X hret 2000 0 _ _ _ (by simp) (ck1_ent (by decide +kernel)) xqc6)
theorem hz3 (d : Nat) : ∀ k av Zc, zT 3 k av = some Zc → CtC (d + 3) (ctab k) k av Zc ∧ (∀ as, av.map (rv as) = av) := by
  intro k av Zc h
  unfold zT at h
  split at h
  · cases h; exact ⟨qc0 (d + 2), fun _ => rfl⟩
  · cases h; exact ⟨qc1 (d + 2), fun _ => rfl⟩
  · cases h; exact ⟨qc2 (d + 2), fun _ => rfl⟩
  · cases h; exact ⟨qc3 (d + 2), fun _ => rfl⟩
  · cases h; exact ⟨qc4 (d + 1), fun _ => rfl⟩
  · cases h; exact ⟨qc5 (d + 1), fun _ => rfl⟩
  · cases h; exact ⟨qc6 (d + 0), fun _ => rfl⟩
  · cases h; exact ⟨qc7 (d + 2), fun _ => rfl⟩
  · cases h; exact ⟨qc9 (d + 1), fun _ => rfl⟩
  · cases h
  · cases h
  · rename_i x
    simp only [show Nat.ble 1 3 = true from rfl, if_true] at h
    split at h
    · rename_i e; cases h; subst e; exact ⟨qr7 (d + 2), fun _ => rfl⟩
    split at h
    · rename_i e; cases h; subst e; exact ⟨qr8 (d + 2), fun _ => rfl⟩
    split at h
    · rename_i e; cases h; subst e; exact ⟨qr10 (d + 2), fun _ => rfl⟩
    split at h
    · rename_i e; cases h; subst e; exact ⟨qr12 (d + 2), fun _ => rfl⟩
    cases h
  · cases h
set_option maxRecDepth 1000000 in
theorem xqc10 : xc (zT 3) prog_1_method_1_code 10 2 1 (zC10.length - 1) (slS 1 zC10) 2000 0 (entL 2 (.ref 0 :: [])) [] [.inr (.inr (10, dfl 10))] = some zC10 := @of_decide_eq_true _ (dZ _ _) (by decide +kernel)
theorem qc10 (d : Nat) : CtC (d + 4) (ctab 10) 10 [] zC10 := ctc_of (own := 10) (d := d + 3) ct_ok10 (by decide +kernel) (fun _ => rfl) (by intro v hv; simp at hv) (by decide +kernel) (fun p l e s m args below meth c D cA cQ A q Q X hret => xc_ok (Cc := zT 3) rfl (hz3 d) X hret 2000 0 _ _ _ (by simp) (ck1_ent (by decide +kernel)) xqc10)

section Tab
variable {ξ : Nat → Nat} {β : Bool} {xs : Nat → Int32} {L : Nat}
def t_X9_init_0 : List (Nat × am_F) := [(0, im_al 0 1), (1, im_obj 4), (4, im_al 0 5), (5, im_new q_SH 1 2 8), (8, im_dup 9), (9, im_inv q_SH 1 4 0 12), (12, im_pr q_SH 9 5 15), (15, im_al 0 16), (16, im_new q_SH 4 12 19), (19, im_dup 20), (20, im_inv q_SH 4 20 0 23), (23, im_pr q_SH 9 6 26), (26, im_al 0 27), (27, im_new q_SH 5 5 30), (30, im_dup 31), (31, im_inv q_SH 5 21 0 34), (34, im_pr q_SH 9 7 37), (37, im_al 0 38), (38, im_ic 20 40), (40, im_newa q_SH .int 42)]
set_option maxRecDepth 20000 in
theorem o_X9_init_0 : ∀ q ∈ t_X9_init_0, am_ok vwCl q_SH ξ (q_E ξ β xs L) q_EN q_KD q_ML (cX9_init, 6, RX9, "<init>", none, []) q.1 q.2 :=
  List.forall_mem_cons.mpr ⟨⟨mo_al _ _, Or.inl (ok_aload_n (k := 0) rfl (by decide +kernel))⟩,
  List.forall_mem_cons.mpr ⟨⟨mo_obj _, Or.inl (ok_obj (am_in2 57 rfl rfl) (am_in1 33 rfl rfl) (am_in1 34 rfl rfl) (by decide +kernel))⟩,
  List.forall_mem_cons.mpr ⟨⟨mo_al _ _, Or.inl (ok_aload_n (k := 0) rfl (by decide +kernel))⟩,
  List.forall_mem_cons.mpr ⟨⟨mo_new _ _ _ _, Or.inl (ok_new (T := TX1) rfl inX1 tyX1 tyX1_ok (by decide +kernel) (am_in2 58 rfl rfl) (am_in2 59 rfl rfl) (am_in1 9 rfl rfl) (by decide +kernel))⟩,
  List.forall_mem_cons.mpr ⟨⟨mo_dup _, Or.inl (ok_dup (by decide +kernel))⟩,
  List.forall_mem_cons.mpr ⟨⟨mo_inv _ _ _ _ _, Or.inr (Or.inl (ok_invIN (host := "LandBonds") (T := TX1) (N := 2) rfl cw_X1_init (by decide) (by decide) (fun _ _ _ h => q_nw2 60 h rfl rfl) ci_X1_init rfl (show Cond.initialized (yX1_init).cls ∈ am_ts from ci9_RX1) ⟨by decide +kernel, by decide +kernel, by decide +kernel⟩ rfl (by decide +kernel)))⟩,
  List.forall_mem_cons.mpr ⟨⟨mo_pr _ _ _ _, Or.inl (ok_prF (C := RX9) (T := TX9) (N := 20) (ci := 9) (k := 5) rfl inX9 (by decide) fl_X9_12 (by decide +kernel) tyX9 tyX9_ok nmX9 (by decide +kernel) rfl rfl (ty := .object "LandBonds$Calendar") (by decide +kernel) (fun _ => ⟨rfl, rfl⟩) (by decide +kernel))⟩,
  List.forall_mem_cons.mpr ⟨⟨mo_al _ _, Or.inl (ok_aload_n (k := 0) rfl (by decide +kernel))⟩,
  List.forall_mem_cons.mpr ⟨⟨mo_new _ _ _ _, Or.inl (ok_new (T := TX4) rfl inX4 tyX4 tyX4_ok (by decide +kernel) (am_in2 72 rfl rfl) (am_in2 73 rfl rfl) (am_in1 10 rfl rfl) (by decide +kernel))⟩,
  List.forall_mem_cons.mpr ⟨⟨mo_dup _, Or.inl (ok_dup (by decide +kernel))⟩,
  List.forall_mem_cons.mpr ⟨⟨mo_inv _ _ _ _ _, Or.inr (Or.inl (ok_invIN (host := "LandBonds") (T := TX4) (N := 12) rfl cw_X4_init (by decide) (by decide) (fun _ _ _ h => q_nw2 74 h rfl rfl) ci_X4_init rfl (show Cond.initialized (yX4_init).cls ∈ am_ts from ci9_RX4) ⟨by decide +kernel, by decide +kernel, by decide +kernel⟩ rfl (by decide +kernel)))⟩,
  List.forall_mem_cons.mpr ⟨⟨mo_pr _ _ _ _, Or.inl (ok_prF (C := RX9) (T := TX9) (N := 20) (ci := 9) (k := 6) rfl inX9 (by decide) fl_X9_21 (by decide +kernel) tyX9 tyX9_ok nmX9 (by decide +kernel) rfl rfl (ty := .object "LandBonds$Happening") (by decide +kernel) (fun _ => ⟨rfl, rfl⟩) (by decide +kernel))⟩,
  List.forall_mem_cons.mpr ⟨⟨mo_al _ _, Or.inl (ok_aload_n (k := 0) rfl (by decide +kernel))⟩,
  List.forall_mem_cons.mpr ⟨⟨mo_new _ _ _ _, Or.inl (ok_new (T := TX5) rfl inX5 tyX5 tyX5_ok (by decide +kernel) (am_in2 115 rfl rfl) (am_in2 116 rfl rfl) (am_in1 11 rfl rfl) (by decide +kernel))⟩,
  List.forall_mem_cons.mpr ⟨⟨mo_dup _, Or.inl (ok_dup (by decide +kernel))⟩,
  List.forall_mem_cons.mpr ⟨⟨mo_inv _ _ _ _ _, Or.inr (Or.inl (ok_invIN (host := "LandBonds") (T := TX5) (N := 5) rfl cw_X5_init (by decide) (by decide) (fun _ _ _ h => q_nw2 117 h rfl rfl) ci_X5_init rfl (show Cond.initialized (yX5_init).cls ∈ am_ts from ci9_RX5) ⟨by decide +kernel, by decide +kernel, by decide +kernel⟩ rfl (by decide +kernel)))⟩,
  List.forall_mem_cons.mpr ⟨⟨mo_pr _ _ _ _, Or.inl (ok_prF (C := RX9) (T := TX9) (N := 20) (ci := 9) (k := 7) rfl inX9 (by decide) fl_X9_28 (by decide +kernel) tyX9 tyX9_ok nmX9 (by decide +kernel) rfl rfl (ty := .object "LandBonds$Ledger") (by decide +kernel) (fun _ => ⟨rfl, rfl⟩) (by decide +kernel))⟩,
  List.forall_mem_cons.mpr ⟨⟨mo_al _ _, Or.inl (ok_aload_n (k := 0) rfl (by decide +kernel))⟩,
  List.forall_mem_cons.mpr ⟨⟨mo_ic _ _, Or.inl (ok_bipush (n := 20) (v := 20) (by decide) (by decide +kernel))⟩,
  List.forall_mem_cons.mpr ⟨⟨mo_newa _ _ _, Or.inl (ok_newi (am_in1 54 rfl rfl) (by decide +kernel))⟩,
  fun _ h => absurd h List.not_mem_nil⟩⟩⟩⟩⟩⟩⟩⟩⟩⟩⟩⟩⟩⟩⟩⟩⟩⟩⟩⟩
def t_X9_init_1 : List (Nat × am_F) := [(42, im_pr q_SH 9 8 45), (45, im_al 0 46), (46, im_ic 20 48), (48, im_newa q_SH .int 50), (50, im_pr q_SH 9 9 53), (53, im_al 0 54), (54, im_ic 20 56), (56, im_newa q_SH .int 58), (58, im_pr q_SH 9 10 61), (61, im_al 0 62), (62, im_ic 20 64), (64, im_newa q_SH .int 66), (66, im_pr q_SH 9 11 69), (69, im_al 0 70), (70, im_ic 20 72), (72, im_newa q_SH .int 74), (74, im_pr q_SH 9 12 77), (77, im_al 0 78), (78, im_ic 20 80), (80, im_newa q_SH .int 82)]
set_option maxRecDepth 20000 in
theorem o_X9_init_1 : ∀ q ∈ t_X9_init_1, am_ok vwCl q_SH ξ (q_E ξ β xs L) q_EN q_KD q_ML (cX9_init, 6, RX9, "<init>", none, []) q.1 q.2 :=
  List.forall_mem_cons.mpr ⟨⟨mo_pr _ _ _ _, Or.inl (ok_prF (C := RX9) (T := TX9) (N := 20) (ci := 9) (k := 8) rfl inX9 (by decide) fl_X9_32 (by decide +kernel) tyX9 tyX9_ok nmX9 (by decide +kernel) rfl rfl (ty := .array .int) (by decide +kernel) (fun _ => ⟨rfl, rfl⟩) (by decide +kernel))⟩,
  List.forall_mem_cons.mpr ⟨⟨mo_al _ _, Or.inl (ok_aload_n (k := 0) rfl (by decide +kernel))⟩,
  List.forall_mem_cons.mpr ⟨⟨mo_ic _ _, Or.inl (ok_bipush (n := 20) (v := 20) (by decide) (by decide +kernel))⟩,
  List.forall_mem_cons.mpr ⟨⟨mo_newa _ _ _, Or.inl (ok_newi (am_in1 54 rfl rfl) (by decide +kernel))⟩,
  List.forall_mem_cons.mpr ⟨⟨mo_pr _ _ _ _, Or.inl (ok_prF (C := RX9) (T := TX9) (N := 20) (ci := 9) (k := 9) rfl inX9 (by decide) fl_X9_36 (by decide +kernel) tyX9 tyX9_ok nmX9 (by decide +kernel) rfl rfl (ty := .array .int) (by decide +kernel) (fun _ => ⟨rfl, rfl⟩) (by decide +kernel))⟩,
  List.forall_mem_cons.mpr ⟨⟨mo_al _ _, Or.inl (ok_aload_n (k := 0) rfl (by decide +kernel))⟩,
  List.forall_mem_cons.mpr ⟨⟨mo_ic _ _, Or.inl (ok_bipush (n := 20) (v := 20) (by decide) (by decide +kernel))⟩,
  List.forall_mem_cons.mpr ⟨⟨mo_newa _ _ _, Or.inl (ok_newi (am_in1 54 rfl rfl) (by decide +kernel))⟩,
  List.forall_mem_cons.mpr ⟨⟨mo_pr _ _ _ _, Or.inl (ok_prF (C := RX9) (T := TX9) (N := 20) (ci := 9) (k := 10) rfl inX9 (by decide) fl_X9_39 (by decide +kernel) tyX9 tyX9_ok nmX9 (by decide +kernel) rfl rfl (ty := .array .int) (by decide +kernel) (fun _ => ⟨rfl, rfl⟩) (by decide +kernel))⟩,
  List.forall_mem_cons.mpr ⟨⟨mo_al _ _, Or.inl (ok_aload_n (k := 0) rfl (by decide +kernel))⟩,
  List.forall_mem_cons.mpr ⟨⟨mo_ic _ _, Or.inl (ok_bipush (n := 20) (v := 20) (by decide) (by decide +kernel))⟩,
  List.forall_mem_cons.mpr ⟨⟨mo_newa _ _ _, Or.inl (ok_newi (am_in1 54 rfl rfl) (by decide +kernel))⟩,
  List.forall_mem_cons.mpr ⟨⟨mo_pr _ _ _ _, Or.inl (ok_prF (C := RX9) (T := TX9) (N := 20) (ci := 9) (k := 11) rfl inX9 (by decide) fl_X9_42 (by decide +kernel) tyX9 tyX9_ok nmX9 (by decide +kernel) rfl rfl (ty := .array .int) (by decide +kernel) (fun _ => ⟨rfl, rfl⟩) (by decide +kernel))⟩,
  List.forall_mem_cons.mpr ⟨⟨mo_al _ _, Or.inl (ok_aload_n (k := 0) rfl (by decide +kernel))⟩,
  List.forall_mem_cons.mpr ⟨⟨mo_ic _ _, Or.inl (ok_bipush (n := 20) (v := 20) (by decide) (by decide +kernel))⟩,
  List.forall_mem_cons.mpr ⟨⟨mo_newa _ _ _, Or.inl (ok_newi (am_in1 54 rfl rfl) (by decide +kernel))⟩,
  List.forall_mem_cons.mpr ⟨⟨mo_pr _ _ _ _, Or.inl (ok_prF (C := RX9) (T := TX9) (N := 20) (ci := 9) (k := 12) rfl inX9 (by decide) fl_X9_45 (by decide +kernel) tyX9 tyX9_ok nmX9 (by decide +kernel) rfl rfl (ty := .array .int) (by decide +kernel) (fun _ => ⟨rfl, rfl⟩) (by decide +kernel))⟩,
  List.forall_mem_cons.mpr ⟨⟨mo_al _ _, Or.inl (ok_aload_n (k := 0) rfl (by decide +kernel))⟩,
  List.forall_mem_cons.mpr ⟨⟨mo_ic _ _, Or.inl (ok_bipush (n := 20) (v := 20) (by decide) (by decide +kernel))⟩,
  List.forall_mem_cons.mpr ⟨⟨mo_newa _ _ _, Or.inl (ok_newi (am_in1 54 rfl rfl) (by decide +kernel))⟩,
  fun _ h => absurd h List.not_mem_nil⟩⟩⟩⟩⟩⟩⟩⟩⟩⟩⟩⟩⟩⟩⟩⟩⟩⟩⟩⟩
def t_X9_init_2 : List (Nat × am_F) := [(82, im_pr q_SH 9 13 85), (85, im_al 0 86), (86, im_ic 12 88), (88, im_newa q_SH .int 90), (90, im_pr q_SH 9 14 93), (93, im_al 0 94), (94, im_ic 12 96), (96, im_newa q_SH .int 98), (98, im_pr q_SH 9 15 101), (101, im_al 0 102), (102, im_ic 5 103), (103, im_newa q_SH .int 105), (105, im_pr q_SH 9 16 108), (108, im_al 0 109), (109, im_ic 64 111), (111, im_newa q_SH .int 113), (113, im_pr q_SH 9 17 116), (116, im_al 0 117), (117, im_al 1 118), (118, im_pr q_SH 9 1 121)]
set_option maxRecDepth 20000 in
theorem o_X9_init_2 : ∀ q ∈ t_X9_init_2, am_ok vwCl q_SH ξ (q_E ξ β xs L) q_EN q_KD q_ML (cX9_init, 6, RX9, "<init>", none, []) q.1 q.2 :=
  List.forall_mem_cons.mpr ⟨⟨mo_pr _ _ _ _, Or.inl (ok_prF (C := RX9) (T := TX9) (N := 20) (ci := 9) (k := 13) rfl inX9 (by decide) fl_X9_48 (by decide +kernel) tyX9 tyX9_ok nmX9 (by decide +kernel) rfl rfl (ty := .array .int) (by decide +kernel) (fun _ => ⟨rfl, rfl⟩) (by decide +kernel))⟩,
  List.forall_mem_cons.mpr ⟨⟨mo_al _ _, Or.inl (ok_aload_n (k := 0) rfl (by decide +kernel))⟩,
  List.forall_mem_cons.mpr ⟨⟨mo_ic _ _, Or.inl (ok_bipush (n := 12) (v := 12) (by decide) (by decide +kernel))⟩,
  List.forall_mem_cons.mpr ⟨⟨mo_newa _ _ _, Or.inl (ok_newi (am_in1 54 rfl rfl) (by decide +kernel))⟩,
  List.forall_mem_cons.mpr ⟨⟨mo_pr _ _ _ _, Or.inl (ok_prF (C := RX9) (T := TX9) (N := 20) (ci := 9) (k := 14) rfl inX9 (by decide) fl_X9_51 (by decide +kernel) tyX9 tyX9_ok nmX9 (by decide +kernel) rfl rfl (ty := .array .int) (by decide +kernel) (fun _ => ⟨rfl, rfl⟩) (by decide +kernel))⟩,
  List.forall_mem_cons.mpr ⟨⟨mo_al _ _, Or.inl (ok_aload_n (k := 0) rfl (by decide +kernel))⟩,
  List.forall_mem_cons.mpr ⟨⟨mo_ic _ _, Or.inl (ok_bipush (n := 12) (v := 12) (by decide) (by decide +kernel))⟩,
  List.forall_mem_cons.mpr ⟨⟨mo_newa _ _ _, Or.inl (ok_newi (am_in1 54 rfl rfl) (by decide +kernel))⟩,
  List.forall_mem_cons.mpr ⟨⟨mo_pr _ _ _ _, Or.inl (ok_prF (C := RX9) (T := TX9) (N := 20) (ci := 9) (k := 15) rfl inX9 (by decide) fl_X9_54 (by decide +kernel) tyX9 tyX9_ok nmX9 (by decide +kernel) rfl rfl (ty := .array .int) (by decide +kernel) (fun _ => ⟨rfl, rfl⟩) (by decide +kernel))⟩,
  List.forall_mem_cons.mpr ⟨⟨mo_al _ _, Or.inl (ok_aload_n (k := 0) rfl (by decide +kernel))⟩,
  List.forall_mem_cons.mpr ⟨⟨mo_ic _ _, Or.inl (ok_iconst (n := 5) (v := 5) (by decide) (by decide +kernel))⟩,
  List.forall_mem_cons.mpr ⟨⟨mo_newa _ _ _, Or.inl (ok_newi (am_in1 54 rfl rfl) (by decide +kernel))⟩,
  List.forall_mem_cons.mpr ⟨⟨mo_pr _ _ _ _, Or.inl (ok_prF (C := RX9) (T := TX9) (N := 20) (ci := 9) (k := 16) rfl inX9 (by decide) fl_X9_57 (by decide +kernel) tyX9 tyX9_ok nmX9 (by decide +kernel) rfl rfl (ty := .array .int) (by decide +kernel) (fun _ => ⟨rfl, rfl⟩) (by decide +kernel))⟩,
  List.forall_mem_cons.mpr ⟨⟨mo_al _ _, Or.inl (ok_aload_n (k := 0) rfl (by decide +kernel))⟩,
  List.forall_mem_cons.mpr ⟨⟨mo_ic _ _, Or.inl (ok_bipush (n := 64) (v := 64) (by decide) (by decide +kernel))⟩,
  List.forall_mem_cons.mpr ⟨⟨mo_newa _ _ _, Or.inl (ok_newi (am_in1 54 rfl rfl) (by decide +kernel))⟩,
  List.forall_mem_cons.mpr ⟨⟨mo_pr _ _ _ _, Or.inl (ok_prF (C := RX9) (T := TX9) (N := 20) (ci := 9) (k := 17) rfl inX9 (by decide) fl_X9_60 (by decide +kernel) tyX9 tyX9_ok nmX9 (by decide +kernel) rfl rfl (ty := .array .int) (by decide +kernel) (fun _ => ⟨rfl, rfl⟩) (by decide +kernel))⟩,
  List.forall_mem_cons.mpr ⟨⟨mo_al _ _, Or.inl (ok_aload_n (k := 0) rfl (by decide +kernel))⟩,
  List.forall_mem_cons.mpr ⟨⟨mo_al _ _, Or.inl (ok_aload_n (k := 1) rfl (by decide +kernel))⟩,
  List.forall_mem_cons.mpr ⟨⟨mo_pr _ _ _ _, Or.inl (ok_prF (C := RX9) (T := TX9) (N := 20) (ci := 9) (k := 1) rfl inX9 (by decide) fl_X9_63 (by decide +kernel) tyX9 tyX9_ok nmX9 (by decide +kernel) rfl rfl (ty := .object "LandBonds$Places") (by decide +kernel) (fun _ => ⟨rfl, rfl⟩) (by decide +kernel))⟩,
  fun _ h => absurd h List.not_mem_nil⟩⟩⟩⟩⟩⟩⟩⟩⟩⟩⟩⟩⟩⟩⟩⟩⟩⟩⟩⟩
def t_X9_init_3 : List (Nat × am_F) := [(121, im_al 0 122), (122, im_al 2 123), (123, im_pr q_SH 9 0 126), (126, im_al 0 127), (127, im_al 3 128), (128, im_pr q_SH 9 2 131), (131, im_al 0 132), (132, im_al 4 134), (134, im_pr q_SH 9 3 137), (137, im_al 0 138), (138, im_al 5 140), (140, im_pr q_SH 9 4 143), (143, im_al 0 144), (144, im_lc (-1) 147), (147, im_pl q_SH 9 19 150), (150, im_ret0e)]
set_option maxRecDepth 20000 in
theorem o_X9_init_3 : ∀ q ∈ t_X9_init_3, am_ok vwCl q_SH ξ (q_E ξ β xs L) q_EN q_KD q_ML (cX9_init, 6, RX9, "<init>", none, []) q.1 q.2 :=
  List.forall_mem_cons.mpr ⟨⟨mo_al _ _, Or.inl (ok_aload_n (k := 0) rfl (by decide +kernel))⟩,
  List.forall_mem_cons.mpr ⟨⟨mo_al _ _, Or.inl (ok_aload_n (k := 2) rfl (by decide +kernel))⟩,
  List.forall_mem_cons.mpr ⟨⟨mo_pr _ _ _ _, Or.inl (ok_prF (C := RX9) (T := TX9) (N := 20) (ci := 9) (k := 0) rfl inX9 (by decide) fl_X9_67 (by decide +kernel) tyX9 tyX9_ok nmX9 (by decide +kernel) rfl rfl (ty := .object "LandBonds$Persons") (by decide +kernel) (fun _ => ⟨rfl, rfl⟩) (by decide +kernel))⟩,
  List.forall_mem_cons.mpr ⟨⟨mo_al _ _, Or.inl (ok_aload_n (k := 0) rfl (by decide +kernel))⟩,
  List.forall_mem_cons.mpr ⟨⟨mo_al _ _, Or.inl (ok_aload_n (k := 3) rfl (by decide +kernel))⟩,
  List.forall_mem_cons.mpr ⟨⟨mo_pr _ _ _ _, Or.inl (ok_prF (C := RX9) (T := TX9) (N := 20) (ci := 9) (k := 2) rfl inX9 (by decide) fl_X9_71 (by decide +kernel) tyX9 tyX9_ok nmX9 (by decide +kernel) rfl rfl (ty := .object "LandBonds$Facts") (by decide +kernel) (fun _ => ⟨rfl, rfl⟩) (by decide +kernel))⟩,
  List.forall_mem_cons.mpr ⟨⟨mo_al _ _, Or.inl (ok_aload_n (k := 0) rfl (by decide +kernel))⟩,
  List.forall_mem_cons.mpr ⟨⟨mo_al _ _, Or.inl (ok_aload (by decide +kernel))⟩,
  List.forall_mem_cons.mpr ⟨⟨mo_pr _ _ _ _, Or.inl (ok_prF (C := RX9) (T := TX9) (N := 20) (ci := 9) (k := 3) rfl inX9 (by decide) fl_X9_75 (by decide +kernel) tyX9 tyX9_ok nmX9 (by decide +kernel) rfl rfl (ty := .object "LandBonds$Acts") (by decide +kernel) (fun _ => ⟨rfl, rfl⟩) (by decide +kernel))⟩,
  List.forall_mem_cons.mpr ⟨⟨mo_al _ _, Or.inl (ok_aload_n (k := 0) rfl (by decide +kernel))⟩,
  List.forall_mem_cons.mpr ⟨⟨mo_al _ _, Or.inl (ok_aload (by decide +kernel))⟩,
  List.forall_mem_cons.mpr ⟨⟨mo_pr _ _ _ _, Or.inl (ok_prF (C := RX9) (T := TX9) (N := 20) (ci := 9) (k := 4) rfl inX9 (by decide) fl_X9_79 (by decide +kernel) tyX9 tyX9_ok nmX9 (by decide +kernel) rfl rfl (ty := .object "LandBonds$Doubts") (by decide +kernel) (fun _ => ⟨rfl, rfl⟩) (by decide +kernel))⟩,
  List.forall_mem_cons.mpr ⟨⟨mo_al _ _, Or.inl (ok_aload_n (k := 0) rfl (by decide +kernel))⟩,
  List.forall_mem_cons.mpr ⟨⟨mo_lc _ _, Or.inl (ok_ldc2 (v := (-1)) (am_in2 142 rfl rfl) (by decide +kernel))⟩,
  List.forall_mem_cons.mpr ⟨⟨mo_pl _ _ _ _, Or.inl (ok_pl (ty := .int) (C := RX9) (T := TX9) (N := 20) (ci := 9) (k := 19) rfl inX9 (by decide) fl_X9_85 (by decide +kernel) tyX9 tyX9_ok nmX9 (by decide +kernel) (by decide +kernel) (by decide +kernel))⟩,
  List.forall_mem_cons.mpr ⟨⟨mo_ret0e, Or.inr (Or.inr (ok_ret0 rfl (by decide +kernel)))⟩,
  fun _ h => absurd h List.not_mem_nil⟩⟩⟩⟩⟩⟩⟩⟩⟩⟩⟩⟩⟩⟩⟩⟩
def t_X9_init : List (Nat × am_F) := t_X9_init_0 ++ (t_X9_init_1 ++ (t_X9_init_2 ++ (t_X9_init_3)))
theorem o_X9_init : ∀ q ∈ t_X9_init, am_ok vwCl q_SH ξ (q_E ξ β xs L) q_EN q_KD q_ML (cX9_init, 6, RX9, "<init>", none, []) q.1 q.2 := List.forall_mem_append.mpr ⟨o_X9_init_0, List.forall_mem_append.mpr ⟨o_X9_init_1, List.forall_mem_append.mpr ⟨o_X9_init_2, o_X9_init_3⟩⟩⟩
def t_X9_live_0 : List (Nat × am_F) := [(0, im_al 0 1), (1, im_gr q_SH 9 4 4), (4, im_gi q_SH 2 6 7), (7, im_i2l 8), (8, im_lc 27 11), (11, im_lbin (fun x y => x * y) 12), (12, im_il 1 13), (13, im_i2l 14), (14, im_lbin (fun x y => x + y) 15), (15, im_lc 73000 18), (18, im_lbin (fun x y => x * y) 19), (19, im_il 2 20), (20, im_i2l 21), (21, im_lbin (fun x y => x + y) 22), (22, im_ls 4 24), (24, im_ll 4 26), (26, im_lc 13 29), (29, im_lbin (fun x y => x * y) 30), (30, im_il 3 31), (31, im_ic 1 32)]
set_option maxRecDepth 20000 in
theorem o_X9_live_0 : ∀ q ∈ t_X9_live_0, am_ok vwCl q_SH ξ (q_E ξ β xs L) q_EN q_KD q_ML (cX9_live, 9, RX9, "live", none, []) q.1 q.2 :=
  List.forall_mem_cons.mpr ⟨⟨mo_al _ _, Or.inl (ok_aload_n (k := 0) rfl (by decide +kernel))⟩,
  List.forall_mem_cons.mpr ⟨⟨mo_gr _ _ _ _, Or.inl (ok_gr (C := RX9) (T := TX9) (N := 20) (ci := 9) (k := 4) rfl inX9 (by decide) fl_X9_79 (by decide +kernel) (by decide +kernel))⟩,
  List.forall_mem_cons.mpr ⟨⟨mo_gi _ _ _ _, Or.inl (ok_gi (C := RX2) (T := TX2) (N := 7) (ci := 2) (k := 6) rfl inX2 (by decide) fl_X9_89 (by decide +kernel) (by decide +kernel))⟩,
  List.forall_mem_cons.mpr ⟨⟨mo_i2l _, Or.inl (ok_i2l (by decide +kernel))⟩,
  List.forall_mem_cons.mpr ⟨⟨mo_lc _ _, Or.inl (ok_ldc2 (v := 27) (am_in4 178 rfl rfl) (by decide +kernel))⟩,
  List.forall_mem_cons.mpr ⟨⟨mo_lbin _ _, Or.inl (ok_lmul (by decide +kernel))⟩,
  List.forall_mem_cons.mpr ⟨⟨mo_il _ _, Or.inl (ok_iload_n (k := 1) rfl (by decide +kernel))⟩,
  List.forall_mem_cons.mpr ⟨⟨mo_i2l _, Or.inl (ok_i2l (by decide +kernel))⟩,
  List.forall_mem_cons.mpr ⟨⟨mo_lbin _ _, Or.inl (ok_ladd (by decide +kernel))⟩,
  List.forall_mem_cons.mpr ⟨⟨mo_lc _ _, Or.inl (ok_ldc2 (v := 73000) (am_in4 179 rfl rfl) (by decide +kernel))⟩,
  List.forall_mem_cons.mpr ⟨⟨mo_lbin _ _, Or.inl (ok_lmul (by decide +kernel))⟩,
  List.forall_mem_cons.mpr ⟨⟨mo_il _ _, Or.inl (ok_iload_n (k := 2) rfl (by decide +kernel))⟩,
  List.forall_mem_cons.mpr ⟨⟨mo_i2l _, Or.inl (ok_i2l (by decide +kernel))⟩,
  List.forall_mem_cons.mpr ⟨⟨mo_lbin _ _, Or.inl (ok_ladd (by decide +kernel))⟩,
  List.forall_mem_cons.mpr ⟨⟨mo_ls _ _, Or.inl (ok_lstore (by decide) (by decide +kernel))⟩,
  List.forall_mem_cons.mpr ⟨⟨mo_ll _ _, Or.inl (ok_lload (by decide +kernel))⟩,
  List.forall_mem_cons.mpr ⟨⟨mo_lc _ _, Or.inl (ok_ldc2 (v := 13) (am_in4 180 rfl rfl) (by decide +kernel))⟩,
  List.forall_mem_cons.mpr ⟨⟨mo_lbin _ _, Or.inl (ok_lmul (by decide +kernel))⟩,
  List.forall_mem_cons.mpr ⟨⟨mo_il _ _, Or.inl (ok_iload_n (k := 3) rfl (by decide +kernel))⟩,
  List.forall_mem_cons.mpr ⟨⟨mo_ic _ _, Or.inl (ok_iconst (n := 1) (v := 1) (by decide) (by decide +kernel))⟩,
  fun _ h => absurd h List.not_mem_nil⟩⟩⟩⟩⟩⟩⟩⟩⟩⟩⟩⟩⟩⟩⟩⟩⟩⟩⟩⟩
def t_X9_live_1 : List (Nat × am_F) := [(32, im_bin (fun x y => x + y) 33), (33, im_i2l 34), (34, im_lbin (fun x y => x + y) 35), (35, im_ls 4 37), (37, im_ll 4 39), (39, im_al 0 40), (40, im_gl q_SH 9 19 43), (43, im_lcmp 44), (44, im_if1 ib_ne 48 47), (47, im_ret0e), (48, im_al 0 49), (49, im_ll 4 51), (51, im_pl q_SH 9 19 54), (54, im_al 0 55), (55, im_al 0 56), (56, im_gr q_SH 9 3 59), (59, im_al 0 60), (60, im_gr q_SH 9 4 63), (63, im_gi q_SH 2 6 66), (66, im_inv q_SH 0 1 1 69)]
set_option maxRecDepth 20000 in
theorem o_X9_live_1 : ∀ q ∈ t_X9_live_1, am_ok vwCl q_SH ξ (q_E ξ β xs L) q_EN q_KD q_ML (cX9_live, 9, RX9, "live", none, []) q.1 q.2 :=
  List.forall_mem_cons.mpr ⟨⟨mo_bin _ _, Or.inl (ok_iadd (by decide +kernel))⟩,
  List.forall_mem_cons.mpr ⟨⟨mo_i2l _, Or.inl (ok_i2l (by decide +kernel))⟩,
  List.forall_mem_cons.mpr ⟨⟨mo_lbin _ _, Or.inl (ok_ladd (by decide +kernel))⟩,
  List.forall_mem_cons.mpr ⟨⟨mo_ls _ _, Or.inl (ok_lstore (by decide) (by decide +kernel))⟩,
  List.forall_mem_cons.mpr ⟨⟨mo_ll _ _, Or.inl (ok_lload (by decide +kernel))⟩,
  List.forall_mem_cons.mpr ⟨⟨mo_al _ _, Or.inl (ok_aload_n (k := 0) rfl (by decide +kernel))⟩,
  List.forall_mem_cons.mpr ⟨⟨mo_gl _ _ _ _, Or.inl (ok_gl (C := RX9) (T := TX9) (N := 20) (ci := 9) (k := 19) rfl inX9 (by decide) fl_X9_85 (by decide +kernel) (by decide +kernel))⟩,
  List.forall_mem_cons.mpr ⟨⟨mo_lcmp _, Or.inl (ok_lcmp (by decide +kernel))⟩,
  List.forall_mem_cons.mpr ⟨⟨mo_if1 _ _ _, Or.inl (ok_if_ne (off := 4) (by decide) (by decide +kernel))⟩,
  List.forall_mem_cons.mpr ⟨⟨mo_ret0e, Or.inr (Or.inr (ok_ret0 rfl (by decide +kernel)))⟩,
  List.forall_mem_cons.mpr ⟨⟨mo_al _ _, Or.inl (ok_aload_n (k := 0) rfl (by decide +kernel))⟩,
  List.forall_mem_cons.mpr ⟨⟨mo_ll _ _, Or.inl (ok_lload (by decide +kernel))⟩,
  List.forall_mem_cons.mpr ⟨⟨mo_pl _ _ _ _, Or.inl (ok_pl (ty := .int) (C := RX9) (T := TX9) (N := 20) (ci := 9) (k := 19) rfl inX9 (by decide) fl_X9_85 (by decide +kernel) tyX9 tyX9_ok nmX9 (by decide +kernel) (by decide +kernel) (by decide +kernel))⟩,
  List.forall_mem_cons.mpr ⟨⟨mo_al _ _, Or.inl (ok_aload_n (k := 0) rfl (by decide +kernel))⟩,
  List.forall_mem_cons.mpr ⟨⟨mo_al _ _, Or.inl (ok_aload_n (k := 0) rfl (by decide +kernel))⟩,
  List.forall_mem_cons.mpr ⟨⟨mo_gr _ _ _ _, Or.inl (ok_gr (C := RX9) (T := TX9) (N := 20) (ci := 9) (k := 3) rfl inX9 (by decide) fl_X9_75 (by decide +kernel) (by decide +kernel))⟩,
  List.forall_mem_cons.mpr ⟨⟨mo_al _ _, Or.inl (ok_aload_n (k := 0) rfl (by decide +kernel))⟩,
  List.forall_mem_cons.mpr ⟨⟨mo_gr _ _ _ _, Or.inl (ok_gr (C := RX9) (T := TX9) (N := 20) (ci := 9) (k := 4) rfl inX9 (by decide) fl_X9_79 (by decide +kernel) (by decide +kernel))⟩,
  List.forall_mem_cons.mpr ⟨⟨mo_gi _ _ _ _, Or.inl (ok_gi (C := RX2) (T := TX2) (N := 7) (ci := 2) (k := 6) rfl inX2 (by decide) fl_X9_89 (by decide +kernel) (by decide +kernel))⟩,
  List.forall_mem_cons.mpr ⟨⟨mo_inv _ _ _ _ _, Or.inr (Or.inl (ok_inv (T := TX0) (N := 16) rfl cw_X0_known (by decide) (by decide) ml_X9_101 ci_X0_known cv_X0_known (show Cond.initialized (yX0_known).cls ∈ am_ts from ci9_RX0) ⟨by decide +kernel, by decide +kernel, by decide +kernel⟩ rfl (by decide +kernel)))⟩,
  fun _ h => absurd h List.not_mem_nil⟩⟩⟩⟩⟩⟩⟩⟩⟩⟩⟩⟩⟩⟩⟩⟩⟩⟩⟩⟩
def t_X9_live_2 : List (Nat × am_F) := [(69, im_pi q_SH 9 18 72), (72, im_il 3 73), (73, im_ic (-1) 74), (74, im_if2 ic_eq 91 77), (77, im_al 0 78), (78, im_dup 79), (79, im_gi q_SH 9 18 82), (82, im_ic 1 83), (83, im_il 3 84), (84, im_bin (fun x y => x <<< (y &&& 31)) 85), (85, im_ic (-1) 86), (86, im_bin (fun x y => x ^^^ y) 87), (87, im_bin (fun x y => x &&& y) 88), (88, im_pi q_SH 9 18 91), (91, im_al 0 92), (92, im_inv q_SH 9 54 0 95), (95, im_al 0 96), (96, im_il 1 97), (97, im_il 2 98), (98, im_inv q_SH 9 55 2 101)]
set_option maxRecDepth 20000 in
theorem o_X9_live_2 : ∀ q ∈ t_X9_live_2, am_ok vwCl q_SH ξ (q_E ξ β xs L) q_EN q_KD q_ML (cX9_live, 9, RX9, "live", none, []) q.1 q.2 :=
  List.forall_mem_cons.mpr ⟨⟨mo_pi _ _ _ _, Or.inl (ok_pi (ty := .int) (C := RX9) (T := TX9) (N := 20) (ci := 9) (k := 18) rfl inX9 (by decide) fl_X9_107 (by decide +kernel) tyX9 tyX9_ok nmX9 (by decide +kernel) (by decide +kernel) (by decide +kernel))⟩,
  List.forall_mem_cons.mpr ⟨⟨mo_il _ _, Or.inl (ok_iload_n (k := 3) rfl (by decide +kernel))⟩,
  List.forall_mem_cons.mpr ⟨⟨mo_ic _ _, Or.inl (ok_iconst (n := (-1)) (v := (-1)) (by decide) (by decide +kernel))⟩,
  List.forall_mem_cons.mpr ⟨⟨mo_if2 _ _ _, Or.inl (ok_icmp_eq (off := 17) (by decide) (by decide +kernel))⟩,
  List.forall_mem_cons.mpr ⟨⟨mo_al _ _, Or.inl (ok_aload_n (k := 0) rfl (by decide +kernel))⟩,
  List.forall_mem_cons.mpr ⟨⟨mo_dup _, Or.inl (ok_dup (by decide +kernel))⟩,
  List.forall_mem_cons.mpr ⟨⟨mo_gi _ _ _ _, Or.inl (ok_gi (C := RX9) (T := TX9) (N := 20) (ci := 9) (k := 18) rfl inX9 (by decide) fl_X9_107 (by decide +kernel) (by decide +kernel))⟩,
  List.forall_mem_cons.mpr ⟨⟨mo_ic _ _, Or.inl (ok_iconst (n := 1) (v := 1) (by decide) (by decide +kernel))⟩,
  List.forall_mem_cons.mpr ⟨⟨mo_il _ _, Or.inl (ok_iload_n (k := 3) rfl (by decide +kernel))⟩,
  List.forall_mem_cons.mpr ⟨⟨mo_bin _ _, Or.inl (ok_ishl (by decide +kernel))⟩,
  List.forall_mem_cons.mpr ⟨⟨mo_ic _ _, Or.inl (ok_iconst (n := (-1)) (v := (-1)) (by decide) (by decide +kernel))⟩,
  List.forall_mem_cons.mpr ⟨⟨mo_bin _ _, Or.inl (ok_ixor (by decide +kernel))⟩,
  List.forall_mem_cons.mpr ⟨⟨mo_bin _ _, Or.inl (ok_iand (by decide +kernel))⟩,
  List.forall_mem_cons.mpr ⟨⟨mo_pi _ _ _ _, Or.inl (ok_pi (ty := .int) (C := RX9) (T := TX9) (N := 20) (ci := 9) (k := 18) rfl inX9 (by decide) fl_X9_107 (by decide +kernel) tyX9 tyX9_ok nmX9 (by decide +kernel) (by decide +kernel) (by decide +kernel))⟩,
  List.forall_mem_cons.mpr ⟨⟨mo_al _ _, Or.inl (ok_aload_n (k := 0) rfl (by decide +kernel))⟩,
  List.forall_mem_cons.mpr ⟨⟨mo_inv _ _ _ _ _, Or.inr (Or.inl (ok_inv (T := TX9) (N := 20) rfl cw_X9_begin (by decide) (by decide) ml_X9_109 ci_X9_begin cv_X9_begin (show Cond.initialized (yX9_begin).cls ∈ am_ts from ci9_RX9) ⟨by decide +kernel, by decide +kernel, by decide +kernel⟩ rfl (by decide +kernel)))⟩,
  List.forall_mem_cons.mpr ⟨⟨mo_al _ _, Or.inl (ok_aload_n (k := 0) rfl (by decide +kernel))⟩,
  List.forall_mem_cons.mpr ⟨⟨mo_il _ _, Or.inl (ok_iload_n (k := 1) rfl (by decide +kernel))⟩,
  List.forall_mem_cons.mpr ⟨⟨mo_il _ _, Or.inl (ok_iload_n (k := 2) rfl (by decide +kernel))⟩,
  List.forall_mem_cons.mpr ⟨⟨mo_inv _ _ _ _ _, Or.inr (Or.inl (ok_inv (T := TX9) (N := 20) rfl cw_X9_putHappenings (by decide) (by decide) ml_X9_112 ci_X9_putHappenings cv_X9_putHappenings (show Cond.initialized (yX9_putHappenings).cls ∈ am_ts from ci9_RX9) ⟨by decide +kernel, by decide +kernel, by decide +kernel⟩ rfl (by decide +kernel)))⟩,
  fun _ h => absurd h List.not_mem_nil⟩⟩⟩⟩⟩⟩⟩⟩⟩⟩⟩⟩⟩⟩⟩⟩⟩⟩⟩⟩
def t_X9_live_3 : List (Nat × am_F) := [(101, im_ic 0 102), (102, im_is 6 104), (104, im_il 6 106), (106, im_al 0 107), (107, im_gr q_SH 9 5 110), (110, im_gi q_SH 1 1 113), (113, im_if2 ic_ge 224 116), (116, im_al 0 117), (117, im_gr q_SH 9 6 120), (120, im_al 0 121), (121, im_gr q_SH 9 5 124), (124, im_il 6 126), (126, im_inv q_SH 1 9 1 129), (129, im_pi q_SH 4 0 132), (132, im_al 0 133), (133, im_gr q_SH 9 6 136), (136, im_al 0 137), (137, im_gr q_SH 9 5 140), (140, im_il 6 142), (142, im_inv q_SH 1 10 1 145)]
set_option maxRecDepth 20000 in
theorem o_X9_live_3 : ∀ q ∈ t_X9_live_3, am_ok vwCl q_SH ξ (q_E ξ β xs L) q_EN q_KD q_ML (cX9_live, 9, RX9, "live", none, []) q.1 q.2 :=
  List.forall_mem_cons.mpr ⟨⟨mo_ic _ _, Or.inl (ok_iconst (n := 0) (v := 0) (by decide) (by decide +kernel))⟩,
  List.forall_mem_cons.mpr ⟨⟨mo_is _ _, Or.inl (ok_istore (by decide) (by decide +kernel))⟩,
  List.forall_mem_cons.mpr ⟨⟨mo_il _ _, Or.inl (ok_iload (by decide +kernel))⟩,
  List.forall_mem_cons.mpr ⟨⟨mo_al _ _, Or.inl (ok_aload_n (k := 0) rfl (by decide +kernel))⟩,
  List.forall_mem_cons.mpr ⟨⟨mo_gr _ _ _ _, Or.inl (ok_gr (C := RX9) (T := TX9) (N := 20) (ci := 9) (k := 5) rfl inX9 (by decide) fl_X9_12 (by decide +kernel) (by decide +kernel))⟩,
  List.forall_mem_cons.mpr ⟨⟨mo_gi _ _ _ _, Or.inl (ok_gi (C := RX1) (T := TX1) (N := 2) (ci := 1) (k := 1) rfl inX1 (by decide) fl_X9_116 (by decide +kernel) (by decide +kernel))⟩,
  List.forall_mem_cons.mpr ⟨⟨mo_if2 _ _ _, Or.inl (ok_icmp_ge (off := 111) (by decide) (by decide +kernel))⟩,
  List.forall_mem_cons.mpr ⟨⟨mo_al _ _, Or.inl (ok_aload_n (k := 0) rfl (by decide +kernel))⟩,
  List.forall_mem_cons.mpr ⟨⟨mo_gr _ _ _ _, Or.inl (ok_gr (C := RX9) (T := TX9) (N := 20) (ci := 9) (k := 6) rfl inX9 (by decide) fl_X9_21 (by decide +kernel) (by decide +kernel))⟩,
  List.forall_mem_cons.mpr ⟨⟨mo_al _ _, Or.inl (ok_aload_n (k := 0) rfl (by decide +kernel))⟩,
  List.forall_mem_cons.mpr ⟨⟨mo_gr _ _ _ _, Or.inl (ok_gr (C := RX9) (T := TX9) (N := 20) (ci := 9) (k := 5) rfl inX9 (by decide) fl_X9_12 (by decide +kernel) (by decide +kernel))⟩,
  List.forall_mem_cons.mpr ⟨⟨mo_il _ _, Or.inl (ok_iload (by decide +kernel))⟩,
  List.forall_mem_cons.mpr ⟨⟨mo_inv _ _ _ _ _, Or.inr (Or.inl (ok_inv (T := TX1) (N := 2) rfl cw_X1_dayAt (by decide) (by decide) ml_X9_119 ci_X1_dayAt cv_X1_dayAt (show Cond.initialized (yX1_dayAt).cls ∈ am_ts from ci9_RX1) ⟨by decide +kernel, by decide +kernel, by decide +kernel⟩ rfl (by decide +kernel)))⟩,
  List.forall_mem_cons.mpr ⟨⟨mo_pi _ _ _ _, Or.inl (ok_pi (ty := .int) (C := RX4) (T := TX4) (N := 12) (ci := 4) (k := 0) rfl inX4 (by decide) fl_X9_122 (by decide +kernel) tyX4 tyX4_ok nmX4 (by decide +kernel) (by decide +kernel) (by decide +kernel))⟩,
  List.forall_mem_cons.mpr ⟨⟨mo_al _ _, Or.inl (ok_aload_n (k := 0) rfl (by decide +kernel))⟩,
  List.forall_mem_cons.mpr ⟨⟨mo_gr _ _ _ _, Or.inl (ok_gr (C := RX9) (T := TX9) (N := 20) (ci := 9) (k := 6) rfl inX9 (by decide) fl_X9_21 (by decide +kernel) (by decide +kernel))⟩,
  List.forall_mem_cons.mpr ⟨⟨mo_al _ _, Or.inl (ok_aload_n (k := 0) rfl (by decide +kernel))⟩,
  List.forall_mem_cons.mpr ⟨⟨mo_gr _ _ _ _, Or.inl (ok_gr (C := RX9) (T := TX9) (N := 20) (ci := 9) (k := 5) rfl inX9 (by decide) fl_X9_12 (by decide +kernel) (by decide +kernel))⟩,
  List.forall_mem_cons.mpr ⟨⟨mo_il _ _, Or.inl (ok_iload (by decide +kernel))⟩,
  List.forall_mem_cons.mpr ⟨⟨mo_inv _ _ _ _ _, Or.inr (Or.inl (ok_inv (T := TX1) (N := 2) rfl cw_X1_factAt (by decide) (by decide) ml_X9_125 ci_X1_factAt cv_X1_factAt (show Cond.initialized (yX1_factAt).cls ∈ am_ts from ci9_RX1) ⟨by decide +kernel, by decide +kernel, by decide +kernel⟩ rfl (by decide +kernel)))⟩,
  fun _ h => absurd h List.not_mem_nil⟩⟩⟩⟩⟩⟩⟩⟩⟩⟩⟩⟩⟩⟩⟩⟩⟩⟩⟩⟩
def t_X9_live_4 : List (Nat × am_F) := [(145, im_pi q_SH 4 4 148), (148, im_al 0 149), (149, im_gr q_SH 9 6 152), (152, im_gi q_SH 4 4 155), (155, im_ic (-1) 156), (156, im_if2 ic_ne 175 159), (159, im_al 0 160), (160, im_al 0 161), (161, im_gr q_SH 9 5 164), (164, im_il 6 166), (166, im_inv q_SH 1 11 1 169), (169, im_inv q_SH 9 56 1 172), (172, im_go 186), (175, im_al 0 176), (176, im_al 0 177), (177, im_gr q_SH 9 6 180), (180, im_gi q_SH 4 4 183), (183, im_inv q_SH 9 57 1 186), (186, im_al 0 187), (187, im_inv q_SH 9 60 0 190)]
set_option maxRecDepth 20000 in
theorem o_X9_live_4 : ∀ q ∈ t_X9_live_4, am_ok vwCl q_SH ξ (q_E ξ β xs L) q_EN q_KD q_ML (cX9_live, 9, RX9, "live", none, []) q.1 q.2 :=
  List.forall_mem_cons.mpr ⟨⟨mo_pi _ _ _ _, Or.inl (ok_pi (ty := .int) (C := RX4) (T := TX4) (N := 12) (ci := 4) (k := 4) rfl inX4 (by decide) fl_X9_128 (by decide +kernel) tyX4 tyX4_ok nmX4 (by decide +kernel) (by decide +kernel) (by decide +kernel))⟩,
  List.forall_mem_cons.mpr ⟨⟨mo_al _ _, Or.inl (ok_aload_n (k := 0) rfl (by decide +kernel))⟩,
  List.forall_mem_cons.mpr ⟨⟨mo_gr _ _ _ _, Or.inl (ok_gr (C := RX9) (T := TX9) (N := 20) (ci := 9) (k := 6) rfl inX9 (by decide) fl_X9_21 (by decide +kernel) (by decide +kernel))⟩,
  List.forall_mem_cons.mpr ⟨⟨mo_gi _ _ _ _, Or.inl (ok_gi (C := RX4) (T := TX4) (N := 12) (ci := 4) (k := 4) rfl inX4 (by decide) fl_X9_128 (by decide +kernel) (by decide +kernel))⟩,
  List.forall_mem_cons.mpr ⟨⟨mo_ic _ _, Or.inl (ok_iconst (n := (-1)) (v := (-1)) (by decide) (by decide +kernel))⟩,
  List.forall_mem_cons.mpr ⟨⟨mo_if2 _ _ _, Or.inl (ok_icmp_ne (off := 19) (by decide) (by decide +kernel))⟩,
  List.forall_mem_cons.mpr ⟨⟨mo_al _ _, Or.inl (ok_aload_n (k := 0) rfl (by decide +kernel))⟩,
  List.forall_mem_cons.mpr ⟨⟨mo_al _ _, Or.inl (ok_aload_n (k := 0) rfl (by decide +kernel))⟩,
  List.forall_mem_cons.mpr ⟨⟨mo_gr _ _ _ _, Or.inl (ok_gr (C := RX9) (T := TX9) (N := 20) (ci := 9) (k := 5) rfl inX9 (by decide) fl_X9_12 (by decide +kernel) (by decide +kernel))⟩,
  List.forall_mem_cons.mpr ⟨⟨mo_il _ _, Or.inl (ok_iload (by decide +kernel))⟩,
  List.forall_mem_cons.mpr ⟨⟨mo_inv _ _ _ _ _, Or.inr (Or.inl (ok_inv (T := TX1) (N := 2) rfl cw_X1_actAt (by decide) (by decide) ml_X9_131 ci_X1_actAt cv_X1_actAt (show Cond.initialized (yX1_actAt).cls ∈ am_ts from ci9_RX1) ⟨by decide +kernel, by decide +kernel, by decide +kernel⟩ rfl (by decide +kernel)))⟩,
  List.forall_mem_cons.mpr ⟨⟨mo_inv _ _ _ _ _, Or.inr (Or.inl (ok_inv (T := TX9) (N := 20) rfl cw_X9_beginAct (by decide) (by decide) ml_X9_134 ci_X9_beginAct cv_X9_beginAct (show Cond.initialized (yX9_beginAct).cls ∈ am_ts from ci9_RX9) ⟨by decide +kernel, by decide +kernel, by decide +kernel⟩ rfl (by decide +kernel)))⟩,
  List.forall_mem_cons.mpr ⟨⟨mo_go _, Or.inl (ok_goto (off := 14) (by decide) (by decide +kernel))⟩,
  List.forall_mem_cons.mpr ⟨⟨mo_al _ _, Or.inl (ok_aload_n (k := 0) rfl (by decide +kernel))⟩,
  List.forall_mem_cons.mpr ⟨⟨mo_al _ _, Or.inl (ok_aload_n (k := 0) rfl (by decide +kernel))⟩,
  List.forall_mem_cons.mpr ⟨⟨mo_gr _ _ _ _, Or.inl (ok_gr (C := RX9) (T := TX9) (N := 20) (ci := 9) (k := 6) rfl inX9 (by decide) fl_X9_21 (by decide +kernel) (by decide +kernel))⟩,
  List.forall_mem_cons.mpr ⟨⟨mo_gi _ _ _ _, Or.inl (ok_gi (C := RX4) (T := TX4) (N := 12) (ci := 4) (k := 4) rfl inX4 (by decide) fl_X9_128 (by decide +kernel) (by decide +kernel))⟩,
  List.forall_mem_cons.mpr ⟨⟨mo_inv _ _ _ _ _, Or.inr (Or.inl (ok_inv (T := TX9) (N := 20) rfl cw_X9_happen (by decide) (by decide) ml_X9_138 ci_X9_happen cv_X9_happen (show Cond.initialized (yX9_happen).cls ∈ am_ts from ci9_RX9) ⟨by decide +kernel, by decide +kernel, by decide +kernel⟩ rfl (by decide +kernel)))⟩,
  List.forall_mem_cons.mpr ⟨⟨mo_al _ _, Or.inl (ok_aload_n (k := 0) rfl (by decide +kernel))⟩,
  List.forall_mem_cons.mpr ⟨⟨mo_inv _ _ _ _ _, Or.inr (Or.inl (ok_inv (T := TX9) (N := 20) rfl cw_X9_countAsked (by decide) (by decide) ml_X9_141 ci_X9_countAsked cv_X9_countAsked (show Cond.initialized (yX9_countAsked).cls ∈ am_ts from ci9_RX9) ⟨by decide +kernel, by decide +kernel, by decide +kernel⟩ rfl (by decide +kernel)))⟩,
  fun _ h => absurd h List.not_mem_nil⟩⟩⟩⟩⟩⟩⟩⟩⟩⟩⟩⟩⟩⟩⟩⟩⟩⟩⟩⟩
def t_X9_live_5 : List (Nat × am_F) := [(190, im_is 7 192), (192, im_ic 0 193), (193, im_is 8 195), (195, im_il 8 197), (197, im_il 7 199), (199, im_if2 ic_ge 218 202), (202, im_al 0 203), (203, im_al 0 204), (204, im_il 8 206), (206, im_inv q_SH 9 61 1 209), (209, im_inv q_SH 9 62 1 212), (212, im_iinc 8 1 215), (215, im_go 195), (218, im_iinc 6 1 221), (221, im_go 104), (224, im_ret0e)]
set_option maxRecDepth 20000 in
theorem o_X9_live_5 : ∀ q ∈ t_X9_live_5, am_ok vwCl q_SH ξ (q_E ξ β xs L) q_EN q_KD q_ML (cX9_live, 9, RX9, "live", none, []) q.1 q.2 :=
  List.forall_mem_cons.mpr ⟨⟨mo_is _ _, Or.inl (ok_istore (by decide) (by decide +kernel))⟩,
  List.forall_mem_cons.mpr ⟨⟨mo_ic _ _, Or.inl (ok_iconst (n := 0) (v := 0) (by decide) (by decide +kernel))⟩,
  List.forall_mem_cons.mpr ⟨⟨mo_is _ _, Or.inl (ok_istore (by decide) (by decide +kernel))⟩,
  List.forall_mem_cons.mpr ⟨⟨mo_il _ _, Or.inl (ok_iload (by decide +kernel))⟩,
  List.forall_mem_cons.mpr ⟨⟨mo_il _ _, Or.inl (ok_iload (by decide +kernel))⟩,
  List.forall_mem_cons.mpr ⟨⟨mo_if2 _ _ _, Or.inl (ok_icmp_ge (off := 19) (by decide) (by decide +kernel))⟩,
  List.forall_mem_cons.mpr ⟨⟨mo_al _ _, Or.inl (ok_aload_n (k := 0) rfl (by decide +kernel))⟩,
  List.forall_mem_cons.mpr ⟨⟨mo_al _ _, Or.inl (ok_aload_n (k := 0) rfl (by decide +kernel))⟩,
  List.forall_mem_cons.mpr ⟨⟨mo_il _ _, Or.inl (ok_iload (by decide +kernel))⟩,
  List.forall_mem_cons.mpr ⟨⟨mo_inv _ _ _ _ _, Or.inr (Or.inl (ok_inv (T := TX9) (N := 20) rfl cw_X9_askedAt (by decide) (by decide) ml_X9_145 ci_X9_askedAt cv_X9_askedAt (show Cond.initialized (yX9_askedAt).cls ∈ am_ts from ci9_RX9) ⟨by decide +kernel, by decide +kernel, by decide +kernel⟩ rfl (by decide +kernel)))⟩,
  List.forall_mem_cons.mpr ⟨⟨mo_inv _ _ _ _ _, Or.inr (Or.inl (ok_inv (T := TX9) (N := 20) rfl cw_X9_ask (by decide) (by decide) ml_X9_148 ci_X9_ask cv_X9_ask (show Cond.initialized (yX9_ask).cls ∈ am_ts from ci9_RX9) ⟨by decide +kernel, by decide +kernel, by decide +kernel⟩ rfl (by decide +kernel)))⟩,
  List.forall_mem_cons.mpr ⟨⟨mo_iinc _ _ _, Or.inl (ok_iinc (n := 1) (v := 1) (by decide) (by decide) (by decide +kernel))⟩,
  List.forall_mem_cons.mpr ⟨⟨mo_go _, Or.inl (ok_goto (off := (-20)) (by decide) (by decide +kernel))⟩,
  List.forall_mem_cons.mpr ⟨⟨mo_iinc _ _ _, Or.inl (ok_iinc (n := 1) (v := 1) (by decide) (by decide) (by decide +kernel))⟩,
  List.forall_mem_cons.mpr ⟨⟨mo_go _, Or.inl (ok_goto (off := (-117)) (by decide) (by decide +kernel))⟩,
  List.forall_mem_cons.mpr ⟨⟨mo_ret0e, Or.inr (Or.inr (ok_ret0 rfl (by decide +kernel)))⟩,
  fun _ h => absurd h List.not_mem_nil⟩⟩⟩⟩⟩⟩⟩⟩⟩⟩⟩⟩⟩⟩⟩⟩
def t_X9_live : List (Nat × am_F) := t_X9_live_0 ++ (t_X9_live_1 ++ (t_X9_live_2 ++ (t_X9_live_3 ++ (t_X9_live_4 ++ (t_X9_live_5)))))
theorem o_X9_live : ∀ q ∈ t_X9_live, am_ok vwCl q_SH ξ (q_E ξ β xs L) q_EN q_KD q_ML (cX9_live, 9, RX9, "live", none, []) q.1 q.2 := List.forall_mem_append.mpr ⟨o_X9_live_0, List.forall_mem_append.mpr ⟨o_X9_live_1, List.forall_mem_append.mpr ⟨o_X9_live_2, List.forall_mem_append.mpr ⟨o_X9_live_3, List.forall_mem_append.mpr ⟨o_X9_live_4, o_X9_live_5⟩⟩⟩⟩⟩
def t_X9_holders_0 : List (Nat × am_F) := [(0, im_ic 0 1), (1, im_is 2 2), (2, im_ic 0 3), (3, im_is 3 4), (4, im_il 3 5), (5, im_al 0 6), (6, im_gr q_SH 9 0 9), (9, im_gi q_SH 7 3 12), (12, im_if2 ic_ge 36 15), (15, im_il 2 16), (16, im_al 0 17), (17, im_gr q_SH 9 8 20), (20, im_il 3 21), (21, im_ald q_SH .int 22), (22, im_il 1 23), (23, im_bin (fun x y => x >>> (y &&& 31)) 24), (24, im_ic 1 25), (25, im_bin (fun x y => x &&& y) 26), (26, im_il 3 27), (27, im_bin (fun x y => x <<< (y &&& 31)) 28)]
set_option maxRecDepth 20000 in
theorem o_X9_holders_0 : ∀ q ∈ t_X9_holders_0, am_ok vwCl q_SH ξ (q_E ξ β xs L) q_EN q_KD q_ML (cX9_holders, 4, RX9, "holders", (some .int), []) q.1 q.2 :=
  List.forall_mem_cons.mpr ⟨⟨mo_ic _ _, Or.inl (ok_iconst (n := 0) (v := 0) (by decide) (by decide +kernel))⟩,
  List.forall_mem_cons.mpr ⟨⟨mo_is _ _, Or.inl (ok_istore_n (k := 2) rfl (by decide) (by decide +kernel))⟩,
  List.forall_mem_cons.mpr ⟨⟨mo_ic _ _, Or.inl (ok_iconst (n := 0) (v := 0) (by decide) (by decide +kernel))⟩,
  List.forall_mem_cons.mpr ⟨⟨mo_is _ _, Or.inl (ok_istore_n (k := 3) rfl (by decide) (by decide +kernel))⟩,
  List.forall_mem_cons.mpr ⟨⟨mo_il _ _, Or.inl (ok_iload_n (k := 3) rfl (by decide +kernel))⟩,
  List.forall_mem_cons.mpr ⟨⟨mo_al _ _, Or.inl (ok_aload_n (k := 0) rfl (by decide +kernel))⟩,
  List.forall_mem_cons.mpr ⟨⟨mo_gr _ _ _ _, Or.inl (ok_gr (C := RX9) (T := TX9) (N := 20) (ci := 9) (k := 0) rfl inX9 (by decide) fl_X9_67 (by decide +kernel) (by decide +kernel))⟩,
  List.forall_mem_cons.mpr ⟨⟨mo_gi _ _ _ _, Or.inl (ok_gi (C := RX7) (T := TX7) (N := 4) (ci := 7) (k := 3) rfl inX7 (by decide) fl_X9_151 (by decide +kernel) (by decide +kernel))⟩,
  List.forall_mem_cons.mpr ⟨⟨mo_if2 _ _ _, Or.inl (ok_icmp_ge (off := 24) (by decide) (by decide +kernel))⟩,
  List.forall_mem_cons.mpr ⟨⟨mo_il _ _, Or.inl (ok_iload_n (k := 2) rfl (by decide +kernel))⟩,
  List.forall_mem_cons.mpr ⟨⟨mo_al _ _, Or.inl (ok_aload_n (k := 0) rfl (by decide +kernel))⟩,
  List.forall_mem_cons.mpr ⟨⟨mo_gr _ _ _ _, Or.inl (ok_gr (C := RX9) (T := TX9) (N := 20) (ci := 9) (k := 8) rfl inX9 (by decide) fl_X9_32 (by decide +kernel) (by decide +kernel))⟩,
  List.forall_mem_cons.mpr ⟨⟨mo_il _ _, Or.inl (ok_iload_n (k := 3) rfl (by decide +kernel))⟩,
  List.forall_mem_cons.mpr ⟨⟨mo_ald _ _ _, Or.inl (ok_iald (by decide +kernel))⟩,
  List.forall_mem_cons.mpr ⟨⟨mo_il _ _, Or.inl (ok_iload_n (k := 1) rfl (by decide +kernel))⟩,
  List.forall_mem_cons.mpr ⟨⟨mo_bin _ _, Or.inl (ok_ishr (by decide +kernel))⟩,
  List.forall_mem_cons.mpr ⟨⟨mo_ic _ _, Or.inl (ok_iconst (n := 1) (v := 1) (by decide) (by decide +kernel))⟩,
  List.forall_mem_cons.mpr ⟨⟨mo_bin _ _, Or.inl (ok_iand (by decide +kernel))⟩,
  List.forall_mem_cons.mpr ⟨⟨mo_il _ _, Or.inl (ok_iload_n (k := 3) rfl (by decide +kernel))⟩,
  List.forall_mem_cons.mpr ⟨⟨mo_bin _ _, Or.inl (ok_ishl (by decide +kernel))⟩,
  fun _ h => absurd h List.not_mem_nil⟩⟩⟩⟩⟩⟩⟩⟩⟩⟩⟩⟩⟩⟩⟩⟩⟩⟩⟩⟩
def t_X9_holders_1 : List (Nat × am_F) := [(28, im_bin (fun x y => x ||| y) 29), (29, im_is 2 30), (30, im_iinc 3 1 33), (33, im_go 4), (36, im_il 2 37), (37, im_reti)]
set_option maxRecDepth 20000 in
theorem o_X9_holders_1 : ∀ q ∈ t_X9_holders_1, am_ok vwCl q_SH ξ (q_E ξ β xs L) q_EN q_KD q_ML (cX9_holders, 4, RX9, "holders", (some .int), []) q.1 q.2 :=
  List.forall_mem_cons.mpr ⟨⟨mo_bin _ _, Or.inl (ok_ior (by decide +kernel))⟩,
  List.forall_mem_cons.mpr ⟨⟨mo_is _ _, Or.inl (ok_istore_n (k := 2) rfl (by decide) (by decide +kernel))⟩,
  List.forall_mem_cons.mpr ⟨⟨mo_iinc _ _ _, Or.inl (ok_iinc (n := 1) (v := 1) (by decide) (by decide) (by decide +kernel))⟩,
  List.forall_mem_cons.mpr ⟨⟨mo_go _, Or.inl (ok_goto (off := (-29)) (by decide) (by decide +kernel))⟩,
  List.forall_mem_cons.mpr ⟨⟨mo_il _ _, Or.inl (ok_iload_n (k := 2) rfl (by decide +kernel))⟩,
  List.forall_mem_cons.mpr ⟨⟨mo_reti, Or.inr (Or.inr (ok_reti rfl (by decide +kernel)))⟩,
  fun _ h => absurd h List.not_mem_nil⟩⟩⟩⟩⟩⟩
def t_X9_holders : List (Nat × am_F) := t_X9_holders_0 ++ (t_X9_holders_1)
theorem o_X9_holders : ∀ q ∈ t_X9_holders, am_ok vwCl q_SH ξ (q_E ξ β xs L) q_EN q_KD q_ML (cX9_holders, 4, RX9, "holders", (some .int), []) q.1 q.2 := List.forall_mem_append.mpr ⟨o_X9_holders_0, o_X9_holders_1⟩
def t_X9_begin_0 : List (Nat × am_F) := [(0, im_al 0 1), (1, im_gr q_SH 9 7 4), (4, im_inv q_SH 5 22 0 7), (7, im_al 0 8), (8, im_gr q_SH 9 8 11), (11, im_ic 0 12), (12, im_invs 201 2 15), (15, im_al 0 16), (16, im_gr q_SH 9 9 19), (19, im_ic (-1) 20), (20, im_invs 201 2 23), (23, im_al 0 24), (24, im_gr q_SH 9 10 27), (27, im_ic (-1) 28), (28, im_invs 201 2 31), (31, im_al 0 32), (32, im_gr q_SH 9 11 35), (35, im_ic (-1) 36), (36, im_invs 201 2 39), (39, im_al 0 40)]
set_option maxRecDepth 20000 in
theorem o_X9_begin_0 : ∀ q ∈ t_X9_begin_0, am_ok vwCl q_SH ξ (q_E ξ β xs L) q_EN q_KD q_ML (cX9_begin, 1, RX9, "begin", none, []) q.1 q.2 :=
  List.forall_mem_cons.mpr ⟨⟨mo_al _ _, Or.inl (ok_aload_n (k := 0) rfl (by decide +kernel))⟩,
  List.forall_mem_cons.mpr ⟨⟨mo_gr _ _ _ _, Or.inl (ok_gr (C := RX9) (T := TX9) (N := 20) (ci := 9) (k := 7) rfl inX9 (by decide) fl_X9_28 (by decide +kernel) (by decide +kernel))⟩,
  List.forall_mem_cons.mpr ⟨⟨mo_inv _ _ _ _ _, Or.inr (Or.inl (ok_inv (T := TX5) (N := 5) rfl cw_X5_clear (by decide) (by decide) ml_X9_154 ci_X5_clear cv_X5_clear (show Cond.initialized (yX5_clear).cls ∈ am_ts from ci9_RX5) ⟨by decide +kernel, by decide +kernel, by decide +kernel⟩ rfl (by decide +kernel)))⟩,
  List.forall_mem_cons.mpr ⟨⟨mo_al _ _, Or.inl (ok_aload_n (k := 0) rfl (by decide +kernel))⟩,
  List.forall_mem_cons.mpr ⟨⟨mo_gr _ _ _ _, Or.inl (ok_gr (C := RX9) (T := TX9) (N := 20) (ci := 9) (k := 8) rfl inX9 (by decide) fl_X9_32 (by decide +kernel) (by decide +kernel))⟩,
  List.forall_mem_cons.mpr ⟨⟨mo_ic _ _, Or.inl (ok_iconst (n := 0) (v := 0) (by decide) (by decide +kernel))⟩,
  List.forall_mem_cons.mpr ⟨⟨mo_invs _ _ _, Or.inr (Or.inl (ok_invs cw_J7_fill_53178 (by decide) (by decide) ml_X9_157 cs_J7_fill_53178 (show Cond.initialized (yJ7_fill_53178).cls ∈ am_ts from ci9_RJ7) ⟨by decide +kernel, by decide +kernel, by decide +kernel⟩ rfl (by decide +kernel)))⟩,
  List.forall_mem_cons.mpr ⟨⟨mo_al _ _, Or.inl (ok_aload_n (k := 0) rfl (by decide +kernel))⟩,
  List.forall_mem_cons.mpr ⟨⟨mo_gr _ _ _ _, Or.inl (ok_gr (C := RX9) (T := TX9) (N := 20) (ci := 9) (k := 9) rfl inX9 (by decide) fl_X9_36 (by decide +kernel) (by decide +kernel))⟩,
  List.forall_mem_cons.mpr ⟨⟨mo_ic _ _, Or.inl (ok_iconst (n := (-1)) (v := (-1)) (by decide) (by decide +kernel))⟩,
  List.forall_mem_cons.mpr ⟨⟨mo_invs _ _ _, Or.inr (Or.inl (ok_invs cw_J7_fill_53178 (by decide) (by decide) ml_X9_157 cs_J7_fill_53178 (show Cond.initialized (yJ7_fill_53178).cls ∈ am_ts from ci9_RJ7) ⟨by decide +kernel, by decide +kernel, by decide +kernel⟩ rfl (by decide +kernel)))⟩,
  List.forall_mem_cons.mpr ⟨⟨mo_al _ _, Or.inl (ok_aload_n (k := 0) rfl (by decide +kernel))⟩,
  List.forall_mem_cons.mpr ⟨⟨mo_gr _ _ _ _, Or.inl (ok_gr (C := RX9) (T := TX9) (N := 20) (ci := 9) (k := 10) rfl inX9 (by decide) fl_X9_39 (by decide +kernel) (by decide +kernel))⟩,
  List.forall_mem_cons.mpr ⟨⟨mo_ic _ _, Or.inl (ok_iconst (n := (-1)) (v := (-1)) (by decide) (by decide +kernel))⟩,
  List.forall_mem_cons.mpr ⟨⟨mo_invs _ _ _, Or.inr (Or.inl (ok_invs cw_J7_fill_53178 (by decide) (by decide) ml_X9_157 cs_J7_fill_53178 (show Cond.initialized (yJ7_fill_53178).cls ∈ am_ts from ci9_RJ7) ⟨by decide +kernel, by decide +kernel, by decide +kernel⟩ rfl (by decide +kernel)))⟩,
  List.forall_mem_cons.mpr ⟨⟨mo_al _ _, Or.inl (ok_aload_n (k := 0) rfl (by decide +kernel))⟩,
  List.forall_mem_cons.mpr ⟨⟨mo_gr _ _ _ _, Or.inl (ok_gr (C := RX9) (T := TX9) (N := 20) (ci := 9) (k := 11) rfl inX9 (by decide) fl_X9_42 (by decide +kernel) (by decide +kernel))⟩,
  List.forall_mem_cons.mpr ⟨⟨mo_ic _ _, Or.inl (ok_iconst (n := (-1)) (v := (-1)) (by decide) (by decide +kernel))⟩,
  List.forall_mem_cons.mpr ⟨⟨mo_invs _ _ _, Or.inr (Or.inl (ok_invs cw_J7_fill_53178 (by decide) (by decide) ml_X9_157 cs_J7_fill_53178 (show Cond.initialized (yJ7_fill_53178).cls ∈ am_ts from ci9_RJ7) ⟨by decide +kernel, by decide +kernel, by decide +kernel⟩ rfl (by decide +kernel)))⟩,
  List.forall_mem_cons.mpr ⟨⟨mo_al _ _, Or.inl (ok_aload_n (k := 0) rfl (by decide +kernel))⟩,
  fun _ h => absurd h List.not_mem_nil⟩⟩⟩⟩⟩⟩⟩⟩⟩⟩⟩⟩⟩⟩⟩⟩⟩⟩⟩⟩
def t_X9_begin_1 : List (Nat × am_F) := [(40, im_gr q_SH 9 12 43), (43, im_ic (-1) 44), (44, im_invs 201 2 47), (47, im_al 0 48), (48, im_gr q_SH 9 13 51), (51, im_ic (-1) 52), (52, im_invs 201 2 55), (55, im_al 0 56), (56, im_gr q_SH 9 15 59), (59, im_ic (-1) 60), (60, im_invs 201 2 63), (63, im_al 0 64), (64, im_gr q_SH 9 1 67), (67, im_gr q_SH 8 0 70), (70, im_ic 0 71), (71, im_al 0 72), (72, im_gr q_SH 9 14 75), (75, im_ic 0 76), (76, im_ic 12 78), (78, im_acopy q_SH 81)]
set_option maxRecDepth 20000 in
theorem o_X9_begin_1 : ∀ q ∈ t_X9_begin_1, am_ok vwCl q_SH ξ (q_E ξ β xs L) q_EN q_KD q_ML (cX9_begin, 1, RX9, "begin", none, []) q.1 q.2 :=
  List.forall_mem_cons.mpr ⟨⟨mo_gr _ _ _ _, Or.inl (ok_gr (C := RX9) (T := TX9) (N := 20) (ci := 9) (k := 12) rfl inX9 (by decide) fl_X9_45 (by decide +kernel) (by decide +kernel))⟩,
  List.forall_mem_cons.mpr ⟨⟨mo_ic _ _, Or.inl (ok_iconst (n := (-1)) (v := (-1)) (by decide) (by decide +kernel))⟩,
  List.forall_mem_cons.mpr ⟨⟨mo_invs _ _ _, Or.inr (Or.inl (ok_invs cw_J7_fill_53178 (by decide) (by decide) ml_X9_157 cs_J7_fill_53178 (show Cond.initialized (yJ7_fill_53178).cls ∈ am_ts from ci9_RJ7) ⟨by decide +kernel, by decide +kernel, by decide +kernel⟩ rfl (by decide +kernel)))⟩,
  List.forall_mem_cons.mpr ⟨⟨mo_al _ _, Or.inl (ok_aload_n (k := 0) rfl (by decide +kernel))⟩,
  List.forall_mem_cons.mpr ⟨⟨mo_gr _ _ _ _, Or.inl (ok_gr (C := RX9) (T := TX9) (N := 20) (ci := 9) (k := 13) rfl inX9 (by decide) fl_X9_48 (by decide +kernel) (by decide +kernel))⟩,
  List.forall_mem_cons.mpr ⟨⟨mo_ic _ _, Or.inl (ok_iconst (n := (-1)) (v := (-1)) (by decide) (by decide +kernel))⟩,
  List.forall_mem_cons.mpr ⟨⟨mo_invs _ _ _, Or.inr (Or.inl (ok_invs cw_J7_fill_53178 (by decide) (by decide) ml_X9_157 cs_J7_fill_53178 (show Cond.initialized (yJ7_fill_53178).cls ∈ am_ts from ci9_RJ7) ⟨by decide +kernel, by decide +kernel, by decide +kernel⟩ rfl (by decide +kernel)))⟩,
  List.forall_mem_cons.mpr ⟨⟨mo_al _ _, Or.inl (ok_aload_n (k := 0) rfl (by decide +kernel))⟩,
  List.forall_mem_cons.mpr ⟨⟨mo_gr _ _ _ _, Or.inl (ok_gr (C := RX9) (T := TX9) (N := 20) (ci := 9) (k := 15) rfl inX9 (by decide) fl_X9_54 (by decide +kernel) (by decide +kernel))⟩,
  List.forall_mem_cons.mpr ⟨⟨mo_ic _ _, Or.inl (ok_iconst (n := (-1)) (v := (-1)) (by decide) (by decide +kernel))⟩,
  List.forall_mem_cons.mpr ⟨⟨mo_invs _ _ _, Or.inr (Or.inl (ok_invs cw_J7_fill_53178 (by decide) (by decide) ml_X9_157 cs_J7_fill_53178 (show Cond.initialized (yJ7_fill_53178).cls ∈ am_ts from ci9_RJ7) ⟨by decide +kernel, by decide +kernel, by decide +kernel⟩ rfl (by decide +kernel)))⟩,
  List.forall_mem_cons.mpr ⟨⟨mo_al _ _, Or.inl (ok_aload_n (k := 0) rfl (by decide +kernel))⟩,
  List.forall_mem_cons.mpr ⟨⟨mo_gr _ _ _ _, Or.inl (ok_gr (C := RX9) (T := TX9) (N := 20) (ci := 9) (k := 1) rfl inX9 (by decide) fl_X9_63 (by decide +kernel) (by decide +kernel))⟩,
  List.forall_mem_cons.mpr ⟨⟨mo_gr _ _ _ _, Or.inl (ok_gr (C := RX8) (T := TX8) (N := 3) (ci := 8) (k := 0) rfl inX8 (by decide) fl_X9_163 (by decide +kernel) (by decide +kernel))⟩,
  List.forall_mem_cons.mpr ⟨⟨mo_ic _ _, Or.inl (ok_iconst (n := 0) (v := 0) (by decide) (by decide +kernel))⟩,
  List.forall_mem_cons.mpr ⟨⟨mo_al _ _, Or.inl (ok_aload_n (k := 0) rfl (by decide +kernel))⟩,
  List.forall_mem_cons.mpr ⟨⟨mo_gr _ _ _ _, Or.inl (ok_gr (C := RX9) (T := TX9) (N := 20) (ci := 9) (k := 14) rfl inX9 (by decide) fl_X9_51 (by decide +kernel) (by decide +kernel))⟩,
  List.forall_mem_cons.mpr ⟨⟨mo_ic _ _, Or.inl (ok_iconst (n := 0) (v := 0) (by decide) (by decide +kernel))⟩,
  List.forall_mem_cons.mpr ⟨⟨mo_ic _ _, Or.inl (ok_bipush (n := 12) (v := 12) (by decide) (by decide +kernel))⟩,
  List.forall_mem_cons.mpr ⟨⟨mo_acopy _ _, Or.inl (ok_acopy (am_in4 194 rfl rfl) (am_in4 196 rfl rfl) (am_in4 195 rfl rfl) (am_in1 25 rfl rfl) (by decide +kernel))⟩,
  fun _ h => absurd h List.not_mem_nil⟩⟩⟩⟩⟩⟩⟩⟩⟩⟩⟩⟩⟩⟩⟩⟩⟩⟩⟩⟩
def t_X9_begin_2 : List (Nat × am_F) := [(81, im_ret0e)]
set_option maxRecDepth 20000 in
theorem o_X9_begin_2 : ∀ q ∈ t_X9_begin_2, am_ok vwCl q_SH ξ (q_E ξ β xs L) q_EN q_KD q_ML (cX9_begin, 1, RX9, "begin", none, []) q.1 q.2 :=
  List.forall_mem_cons.mpr ⟨⟨mo_ret0e, Or.inr (Or.inr (ok_ret0 rfl (by decide +kernel)))⟩,
  fun _ h => absurd h List.not_mem_nil⟩
def t_X9_begin : List (Nat × am_F) := t_X9_begin_0 ++ (t_X9_begin_1 ++ (t_X9_begin_2))
theorem o_X9_begin : ∀ q ∈ t_X9_begin, am_ok vwCl q_SH ξ (q_E ξ β xs L) q_EN q_KD q_ML (cX9_begin, 1, RX9, "begin", none, []) q.1 q.2 := List.forall_mem_append.mpr ⟨o_X9_begin_0, List.forall_mem_append.mpr ⟨o_X9_begin_1, o_X9_begin_2⟩⟩
def t_X9_putHappenings_0 : List (Nat × am_F) := [(0, im_al 0 1), (1, im_gr q_SH 9 5 4), (4, im_inv q_SH 1 5 0 7), (7, im_ic 0 8), (8, im_is 3 9), (9, im_il 3 10), (10, im_al 0 11), (11, im_gr q_SH 9 3 14), (14, im_gi q_SH 0 15 17), (17, im_if2 ic_ge 68 20), (20, im_al 0 21), (21, im_gi q_SH 9 18 24), (24, im_il 3 25), (25, im_bin (fun x y => x >>> (y &&& 31)) 26), (26, im_ic 1 27), (27, im_bin (fun x y => x &&& y) 28), (28, im_ic 1 29), (29, im_if2 ic_ne 62 32), (32, im_al 0 33), (33, im_gr q_SH 9 3 36)]
set_option maxRecDepth 20000 in
theorem o_X9_putHappenings_0 : ∀ q ∈ t_X9_putHappenings_0, am_ok vwCl q_SH ξ (q_E ξ β xs L) q_EN q_KD q_ML (cX9_putHappenings, 5, RX9, "putHappenings", none, []) q.1 q.2 :=
  List.forall_mem_cons.mpr ⟨⟨mo_al _ _, Or.inl (ok_aload_n (k := 0) rfl (by decide +kernel))⟩,
  List.forall_mem_cons.mpr ⟨⟨mo_gr _ _ _ _, Or.inl (ok_gr (C := RX9) (T := TX9) (N := 20) (ci := 9) (k := 5) rfl inX9 (by decide) fl_X9_12 (by decide +kernel) (by decide +kernel))⟩,
  List.forall_mem_cons.mpr ⟨⟨mo_inv _ _ _ _ _, Or.inr (Or.inl (ok_inv (T := TX1) (N := 2) rfl cw_X1_clear (by decide) (by decide) ml_X9_174 ci_X1_clear cv_X1_clear (show Cond.initialized (yX1_clear).cls ∈ am_ts from ci9_RX1) ⟨by decide +kernel, by decide +kernel, by decide +kernel⟩ rfl (by decide +kernel)))⟩,
  List.forall_mem_cons.mpr ⟨⟨mo_ic _ _, Or.inl (ok_iconst (n := 0) (v := 0) (by decide) (by decide +kernel))⟩,
  List.forall_mem_cons.mpr ⟨⟨mo_is _ _, Or.inl (ok_istore_n (k := 3) rfl (by decide) (by decide +kernel))⟩,
  List.forall_mem_cons.mpr ⟨⟨mo_il _ _, Or.inl (ok_iload_n (k := 3) rfl (by decide +kernel))⟩,
  List.forall_mem_cons.mpr ⟨⟨mo_al _ _, Or.inl (ok_aload_n (k := 0) rfl (by decide +kernel))⟩,
  List.forall_mem_cons.mpr ⟨⟨mo_gr _ _ _ _, Or.inl (ok_gr (C := RX9) (T := TX9) (N := 20) (ci := 9) (k := 3) rfl inX9 (by decide) fl_X9_75 (by decide +kernel) (by decide +kernel))⟩,
  List.forall_mem_cons.mpr ⟨⟨mo_gi _ _ _ _, Or.inl (ok_gi (C := RX0) (T := TX0) (N := 16) (ci := 0) (k := 15) rfl inX0 (by decide) fl_X9_175 (by decide +kernel) (by decide +kernel))⟩,
  List.forall_mem_cons.mpr ⟨⟨mo_if2 _ _ _, Or.inl (ok_icmp_ge (off := 51) (by decide) (by decide +kernel))⟩,
  List.forall_mem_cons.mpr ⟨⟨mo_al _ _, Or.inl (ok_aload_n (k := 0) rfl (by decide +kernel))⟩,
  List.forall_mem_cons.mpr ⟨⟨mo_gi _ _ _ _, Or.inl (ok_gi (C := RX9) (T := TX9) (N := 20) (ci := 9) (k := 18) rfl inX9 (by decide) fl_X9_107 (by decide +kernel) (by decide +kernel))⟩,
  List.forall_mem_cons.mpr ⟨⟨mo_il _ _, Or.inl (ok_iload_n (k := 3) rfl (by decide +kernel))⟩,
  List.forall_mem_cons.mpr ⟨⟨mo_bin _ _, Or.inl (ok_ishr (by decide +kernel))⟩,
  List.forall_mem_cons.mpr ⟨⟨mo_ic _ _, Or.inl (ok_iconst (n := 1) (v := 1) (by decide) (by decide +kernel))⟩,
  List.forall_mem_cons.mpr ⟨⟨mo_bin _ _, Or.inl (ok_iand (by decide +kernel))⟩,
  List.forall_mem_cons.mpr ⟨⟨mo_ic _ _, Or.inl (ok_iconst (n := 1) (v := 1) (by decide) (by decide +kernel))⟩,
  List.forall_mem_cons.mpr ⟨⟨mo_if2 _ _ _, Or.inl (ok_icmp_ne (off := 33) (by decide) (by decide +kernel))⟩,
  List.forall_mem_cons.mpr ⟨⟨mo_al _ _, Or.inl (ok_aload_n (k := 0) rfl (by decide +kernel))⟩,
  List.forall_mem_cons.mpr ⟨⟨mo_gr _ _ _ _, Or.inl (ok_gr (C := RX9) (T := TX9) (N := 20) (ci := 9) (k := 3) rfl inX9 (by decide) fl_X9_75 (by decide +kernel) (by decide +kernel))⟩,
  fun _ h => absurd h List.not_mem_nil⟩⟩⟩⟩⟩⟩⟩⟩⟩⟩⟩⟩⟩⟩⟩⟩⟩⟩⟩⟩
def t_X9_putHappenings_1 : List (Nat × am_F) := [(36, im_gr q_SH 0 1 39), (39, im_il 3 40), (40, im_ald q_SH .int 41), (41, im_il 2 42), (42, im_if2 ic_gt 62 45), (45, im_al 0 46), (46, im_gr q_SH 9 5 49), (49, im_il 3 50), (50, im_al 0 51), (51, im_gr q_SH 9 3 54), (54, im_gr q_SH 0 1 57), (57, im_il 3 58), (58, im_ald q_SH .int 59), (59, im_inv q_SH 1 6 2 62), (62, im_iinc 3 1 65), (65, im_go 9), (68, im_ic 0 69), (69, im_is 3 70), (70, im_il 3 71), (71, im_al 0 72)]
set_option maxRecDepth 20000 in
theorem o_X9_putHappenings_1 : ∀ q ∈ t_X9_putHappenings_1, am_ok vwCl q_SH ξ (q_E ξ β xs L) q_EN q_KD q_ML (cX9_putHappenings, 5, RX9, "putHappenings", none, []) q.1 q.2 :=
  List.forall_mem_cons.mpr ⟨⟨mo_gr _ _ _ _, Or.inl (ok_gr (C := RX0) (T := TX0) (N := 16) (ci := 0) (k := 1) rfl inX0 (by decide) fl_X9_176 (by decide +kernel) (by decide +kernel))⟩,
  List.forall_mem_cons.mpr ⟨⟨mo_il _ _, Or.inl (ok_iload_n (k := 3) rfl (by decide +kernel))⟩,
  List.forall_mem_cons.mpr ⟨⟨mo_ald _ _ _, Or.inl (ok_iald (by decide +kernel))⟩,
  List.forall_mem_cons.mpr ⟨⟨mo_il _ _, Or.inl (ok_iload_n (k := 2) rfl (by decide +kernel))⟩,
  List.forall_mem_cons.mpr ⟨⟨mo_if2 _ _ _, Or.inl (ok_icmp_gt (off := 20) (by decide) (by decide +kernel))⟩,
  List.forall_mem_cons.mpr ⟨⟨mo_al _ _, Or.inl (ok_aload_n (k := 0) rfl (by decide +kernel))⟩,
  List.forall_mem_cons.mpr ⟨⟨mo_gr _ _ _ _, Or.inl (ok_gr (C := RX9) (T := TX9) (N := 20) (ci := 9) (k := 5) rfl inX9 (by decide) fl_X9_12 (by decide +kernel) (by decide +kernel))⟩,
  List.forall_mem_cons.mpr ⟨⟨mo_il _ _, Or.inl (ok_iload_n (k := 3) rfl (by decide +kernel))⟩,
  List.forall_mem_cons.mpr ⟨⟨mo_al _ _, Or.inl (ok_aload_n (k := 0) rfl (by decide +kernel))⟩,
  List.forall_mem_cons.mpr ⟨⟨mo_gr _ _ _ _, Or.inl (ok_gr (C := RX9) (T := TX9) (N := 20) (ci := 9) (k := 3) rfl inX9 (by decide) fl_X9_75 (by decide +kernel) (by decide +kernel))⟩,
  List.forall_mem_cons.mpr ⟨⟨mo_gr _ _ _ _, Or.inl (ok_gr (C := RX0) (T := TX0) (N := 16) (ci := 0) (k := 1) rfl inX0 (by decide) fl_X9_176 (by decide +kernel) (by decide +kernel))⟩,
  List.forall_mem_cons.mpr ⟨⟨mo_il _ _, Or.inl (ok_iload_n (k := 3) rfl (by decide +kernel))⟩,
  List.forall_mem_cons.mpr ⟨⟨mo_ald _ _ _, Or.inl (ok_iald (by decide +kernel))⟩,
  List.forall_mem_cons.mpr ⟨⟨mo_inv _ _ _ _ _, Or.inr (Or.inl (ok_inv (T := TX1) (N := 2) rfl cw_X1_putAct (by decide) (by decide) ml_X9_179 ci_X1_putAct cv_X1_putAct (show Cond.initialized (yX1_putAct).cls ∈ am_ts from ci9_RX1) ⟨by decide +kernel, by decide +kernel, by decide +kernel⟩ rfl (by decide +kernel)))⟩,
  List.forall_mem_cons.mpr ⟨⟨mo_iinc _ _ _, Or.inl (ok_iinc (n := 1) (v := 1) (by decide) (by decide) (by decide +kernel))⟩,
  List.forall_mem_cons.mpr ⟨⟨mo_go _, Or.inl (ok_goto (off := (-56)) (by decide) (by decide +kernel))⟩,
  List.forall_mem_cons.mpr ⟨⟨mo_ic _ _, Or.inl (ok_iconst (n := 0) (v := 0) (by decide) (by decide +kernel))⟩,
  List.forall_mem_cons.mpr ⟨⟨mo_is _ _, Or.inl (ok_istore_n (k := 3) rfl (by decide) (by decide +kernel))⟩,
  List.forall_mem_cons.mpr ⟨⟨mo_il _ _, Or.inl (ok_iload_n (k := 3) rfl (by decide +kernel))⟩,
  List.forall_mem_cons.mpr ⟨⟨mo_al _ _, Or.inl (ok_aload_n (k := 0) rfl (by decide +kernel))⟩,
  fun _ h => absurd h List.not_mem_nil⟩⟩⟩⟩⟩⟩⟩⟩⟩⟩⟩⟩⟩⟩⟩⟩⟩⟩⟩⟩
def t_X9_putHappenings_2 : List (Nat × am_F) := [(72, im_gr q_SH 9 2 75), (75, im_gi q_SH 3 8 78), (78, im_if2 ic_ge 132 81), (81, im_al 0 82), (82, im_gr q_SH 9 4 85), (85, im_il 1 86), (86, im_il 3 87), (87, im_inv q_SH 2 15 2 90), (90, im_is 4 92), (92, im_il 4 94), (94, im_il 2 95), (95, im_if2 ic_gt 126 98), (98, im_al 0 99), (99, im_gr q_SH 9 2 102), (102, im_il 3 103), (103, im_al 0 104), (104, im_gr q_SH 9 4 107), (107, im_gi q_SH 2 6 110), (110, im_inv q_SH 3 18 2 113), (113, im_if1 ib_eq 126 116)]
set_option maxRecDepth 20000 in
theorem o_X9_putHappenings_2 : ∀ q ∈ t_X9_putHappenings_2, am_ok vwCl q_SH ξ (q_E ξ β xs L) q_EN q_KD q_ML (cX9_putHappenings, 5, RX9, "putHappenings", none, []) q.1 q.2 :=
  List.forall_mem_cons.mpr ⟨⟨mo_gr _ _ _ _, Or.inl (ok_gr (C := RX9) (T := TX9) (N := 20) (ci := 9) (k := 2) rfl inX9 (by decide) fl_X9_71 (by decide +kernel) (by decide +kernel))⟩,
  List.forall_mem_cons.mpr ⟨⟨mo_gi _ _ _ _, Or.inl (ok_gi (C := RX3) (T := TX3) (N := 9) (ci := 3) (k := 8) rfl inX3 (by decide) fl_X9_182 (by decide +kernel) (by decide +kernel))⟩,
  List.forall_mem_cons.mpr ⟨⟨mo_if2 _ _ _, Or.inl (ok_icmp_ge (off := 54) (by decide) (by decide +kernel))⟩,
  List.forall_mem_cons.mpr ⟨⟨mo_al _ _, Or.inl (ok_aload_n (k := 0) rfl (by decide +kernel))⟩,
  List.forall_mem_cons.mpr ⟨⟨mo_gr _ _ _ _, Or.inl (ok_gr (C := RX9) (T := TX9) (N := 20) (ci := 9) (k := 4) rfl inX9 (by decide) fl_X9_79 (by decide +kernel) (by decide +kernel))⟩,
  List.forall_mem_cons.mpr ⟨⟨mo_il _ _, Or.inl (ok_iload_n (k := 1) rfl (by decide +kernel))⟩,
  List.forall_mem_cons.mpr ⟨⟨mo_il _ _, Or.inl (ok_iload_n (k := 3) rfl (by decide +kernel))⟩,
  List.forall_mem_cons.mpr ⟨⟨mo_inv _ _ _ _ _, Or.inr (Or.inl (ok_inv (T := TX2) (N := 7) rfl cw_X2_dayIn (by decide) (by decide) ml_X9_185 ci_X2_dayIn cv_X2_dayIn (show Cond.initialized (yX2_dayIn).cls ∈ am_ts from ci9_RX2) ⟨by decide +kernel, by decide +kernel, by decide +kernel⟩ rfl (by decide +kernel)))⟩,
  List.forall_mem_cons.mpr ⟨⟨mo_is _ _, Or.inl (ok_istore (by decide) (by decide +kernel))⟩,
  List.forall_mem_cons.mpr ⟨⟨mo_il _ _, Or.inl (ok_iload (by decide +kernel))⟩,
  List.forall_mem_cons.mpr ⟨⟨mo_il _ _, Or.inl (ok_iload_n (k := 2) rfl (by decide +kernel))⟩,
  List.forall_mem_cons.mpr ⟨⟨mo_if2 _ _ _, Or.inl (ok_icmp_gt (off := 31) (by decide) (by decide +kernel))⟩,
  List.forall_mem_cons.mpr ⟨⟨mo_al _ _, Or.inl (ok_aload_n (k := 0) rfl (by decide +kernel))⟩,
  List.forall_mem_cons.mpr ⟨⟨mo_gr _ _ _ _, Or.inl (ok_gr (C := RX9) (T := TX9) (N := 20) (ci := 9) (k := 2) rfl inX9 (by decide) fl_X9_71 (by decide +kernel) (by decide +kernel))⟩,
  List.forall_mem_cons.mpr ⟨⟨mo_il _ _, Or.inl (ok_iload_n (k := 3) rfl (by decide +kernel))⟩,
  List.forall_mem_cons.mpr ⟨⟨mo_al _ _, Or.inl (ok_aload_n (k := 0) rfl (by decide +kernel))⟩,
  List.forall_mem_cons.mpr ⟨⟨mo_gr _ _ _ _, Or.inl (ok_gr (C := RX9) (T := TX9) (N := 20) (ci := 9) (k := 4) rfl inX9 (by decide) fl_X9_79 (by decide +kernel) (by decide +kernel))⟩,
  List.forall_mem_cons.mpr ⟨⟨mo_gi _ _ _ _, Or.inl (ok_gi (C := RX2) (T := TX2) (N := 7) (ci := 2) (k := 6) rfl inX2 (by decide) fl_X9_89 (by decide +kernel) (by decide +kernel))⟩,
  List.forall_mem_cons.mpr ⟨⟨mo_inv _ _ _ _ _, Or.inr (Or.inl (ok_inv (T := TX3) (N := 9) rfl cw_X3_isKnown (by decide) (by decide) ml_X9_189 ci_X3_isKnown cv_X3_isKnown (show Cond.initialized (yX3_isKnown).cls ∈ am_ts from ci9_RX3) ⟨by decide +kernel, by decide +kernel, by decide +kernel⟩ rfl (by decide +kernel)))⟩,
  List.forall_mem_cons.mpr ⟨⟨mo_if1 _ _ _, Or.inl (ok_if_eq (off := 13) (by decide) (by decide +kernel))⟩,
  fun _ h => absurd h List.not_mem_nil⟩⟩⟩⟩⟩⟩⟩⟩⟩⟩⟩⟩⟩⟩⟩⟩⟩⟩⟩⟩
def t_X9_putHappenings_3 : List (Nat × am_F) := [(116, im_al 0 117), (117, im_gr q_SH 9 5 120), (120, im_il 3 121), (121, im_il 4 123), (123, im_inv q_SH 1 7 2 126), (126, im_iinc 3 1 129), (129, im_go 70), (132, im_ret0e)]
set_option maxRecDepth 20000 in
theorem o_X9_putHappenings_3 : ∀ q ∈ t_X9_putHappenings_3, am_ok vwCl q_SH ξ (q_E ξ β xs L) q_EN q_KD q_ML (cX9_putHappenings, 5, RX9, "putHappenings", none, []) q.1 q.2 :=
  List.forall_mem_cons.mpr ⟨⟨mo_al _ _, Or.inl (ok_aload_n (k := 0) rfl (by decide +kernel))⟩,
  List.forall_mem_cons.mpr ⟨⟨mo_gr _ _ _ _, Or.inl (ok_gr (C := RX9) (T := TX9) (N := 20) (ci := 9) (k := 5) rfl inX9 (by decide) fl_X9_12 (by decide +kernel) (by decide +kernel))⟩,
  List.forall_mem_cons.mpr ⟨⟨mo_il _ _, Or.inl (ok_iload_n (k := 3) rfl (by decide +kernel))⟩,
  List.forall_mem_cons.mpr ⟨⟨mo_il _ _, Or.inl (ok_iload (by decide +kernel))⟩,
  List.forall_mem_cons.mpr ⟨⟨mo_inv _ _ _ _ _, Or.inr (Or.inl (ok_inv (T := TX1) (N := 2) rfl cw_X1_putFact (by decide) (by decide) ml_X9_193 ci_X1_putFact cv_X1_putFact (show Cond.initialized (yX1_putFact).cls ∈ am_ts from ci9_RX1) ⟨by decide +kernel, by decide +kernel, by decide +kernel⟩ rfl (by decide +kernel)))⟩,
  List.forall_mem_cons.mpr ⟨⟨mo_iinc _ _ _, Or.inl (ok_iinc (n := 1) (v := 1) (by decide) (by decide) (by decide +kernel))⟩,
  List.forall_mem_cons.mpr ⟨⟨mo_go _, Or.inl (ok_goto (off := (-59)) (by decide) (by decide +kernel))⟩,
  List.forall_mem_cons.mpr ⟨⟨mo_ret0e, Or.inr (Or.inr (ok_ret0 rfl (by decide +kernel)))⟩,
  fun _ h => absurd h List.not_mem_nil⟩⟩⟩⟩⟩⟩⟩⟩
def t_X9_putHappenings : List (Nat × am_F) := t_X9_putHappenings_0 ++ (t_X9_putHappenings_1 ++ (t_X9_putHappenings_2 ++ (t_X9_putHappenings_3)))
theorem o_X9_putHappenings : ∀ q ∈ t_X9_putHappenings, am_ok vwCl q_SH ξ (q_E ξ β xs L) q_EN q_KD q_ML (cX9_putHappenings, 5, RX9, "putHappenings", none, []) q.1 q.2 := List.forall_mem_append.mpr ⟨o_X9_putHappenings_0, List.forall_mem_append.mpr ⟨o_X9_putHappenings_1, List.forall_mem_append.mpr ⟨o_X9_putHappenings_2, o_X9_putHappenings_3⟩⟩⟩
def t_X9_beginAct_0 : List (Nat × am_F) := [(0, im_al 0 1), (1, im_gr q_SH 9 3 4), (4, im_al 0 5), (5, im_gi q_SH 9 18 8), (8, im_al 0 9), (9, im_gr q_SH 9 6 12), (12, im_gi q_SH 4 0 15), (15, im_inv q_SH 0 2 2 18), (18, im_is 2 19), (19, im_il 2 20), (20, im_il 1 21), (21, im_bin (fun x y => x >>> (y &&& 31)) 22), (22, im_ic 1 23), (23, im_bin (fun x y => x &&& y) 24), (24, im_ic 1 25), (25, im_if2 ic_ne 32 28), (28, im_ic 1 29), (29, im_go 33), (32, im_ic 0 33), (33, im_is 3 34)]
set_option maxRecDepth 20000 in
theorem o_X9_beginAct_0 : ∀ q ∈ t_X9_beginAct_0, am_ok vwCl q_SH ξ (q_E ξ β xs L) q_EN q_KD q_ML (cX9_beginAct, 4, RX9, "beginAct", none, []) q.1 q.2 :=
  List.forall_mem_cons.mpr ⟨⟨mo_al _ _, Or.inl (ok_aload_n (k := 0) rfl (by decide +kernel))⟩,
  List.forall_mem_cons.mpr ⟨⟨mo_gr _ _ _ _, Or.inl (ok_gr (C := RX9) (T := TX9) (N := 20) (ci := 9) (k := 3) rfl inX9 (by decide) fl_X9_75 (by decide +kernel) (by decide +kernel))⟩,
  List.forall_mem_cons.mpr ⟨⟨mo_al _ _, Or.inl (ok_aload_n (k := 0) rfl (by decide +kernel))⟩,
  List.forall_mem_cons.mpr ⟨⟨mo_gi _ _ _ _, Or.inl (ok_gi (C := RX9) (T := TX9) (N := 20) (ci := 9) (k := 18) rfl inX9 (by decide) fl_X9_107 (by decide +kernel) (by decide +kernel))⟩,
  List.forall_mem_cons.mpr ⟨⟨mo_al _ _, Or.inl (ok_aload_n (k := 0) rfl (by decide +kernel))⟩,
  List.forall_mem_cons.mpr ⟨⟨mo_gr _ _ _ _, Or.inl (ok_gr (C := RX9) (T := TX9) (N := 20) (ci := 9) (k := 6) rfl inX9 (by decide) fl_X9_21 (by decide +kernel) (by decide +kernel))⟩,
  List.forall_mem_cons.mpr ⟨⟨mo_gi _ _ _ _, Or.inl (ok_gi (C := RX4) (T := TX4) (N := 12) (ci := 4) (k := 0) rfl inX4 (by decide) fl_X9_122 (by decide +kernel) (by decide +kernel))⟩,
  List.forall_mem_cons.mpr ⟨⟨mo_inv _ _ _ _ _, Or.inr (Or.inl (ok_inv (T := TX0) (N := 16) rfl cw_X0_inForce (by decide) (by decide) ml_X9_196 ci_X0_inForce cv_X0_inForce (show Cond.initialized (yX0_inForce).cls ∈ am_ts from ci9_RX0) ⟨by decide +kernel, by decide +kernel, by decide +kernel⟩ rfl (by decide +kernel)))⟩,
  List.forall_mem_cons.mpr ⟨⟨mo_is _ _, Or.inl (ok_istore_n (k := 2) rfl (by decide) (by decide +kernel))⟩,
  List.forall_mem_cons.mpr ⟨⟨mo_il _ _, Or.inl (ok_iload_n (k := 2) rfl (by decide +kernel))⟩,
  List.forall_mem_cons.mpr ⟨⟨mo_il _ _, Or.inl (ok_iload_n (k := 1) rfl (by decide +kernel))⟩,
  List.forall_mem_cons.mpr ⟨⟨mo_bin _ _, Or.inl (ok_ishr (by decide +kernel))⟩,
  List.forall_mem_cons.mpr ⟨⟨mo_ic _ _, Or.inl (ok_iconst (n := 1) (v := 1) (by decide) (by decide +kernel))⟩,
  List.forall_mem_cons.mpr ⟨⟨mo_bin _ _, Or.inl (ok_iand (by decide +kernel))⟩,
  List.forall_mem_cons.mpr ⟨⟨mo_ic _ _, Or.inl (ok_iconst (n := 1) (v := 1) (by decide) (by decide +kernel))⟩,
  List.forall_mem_cons.mpr ⟨⟨mo_if2 _ _ _, Or.inl (ok_icmp_ne (off := 7) (by decide) (by decide +kernel))⟩,
  List.forall_mem_cons.mpr ⟨⟨mo_ic _ _, Or.inl (ok_iconst (n := 1) (v := 1) (by decide) (by decide +kernel))⟩,
  List.forall_mem_cons.mpr ⟨⟨mo_go _, Or.inl (ok_goto (off := 4) (by decide) (by decide +kernel))⟩,
  List.forall_mem_cons.mpr ⟨⟨mo_ic _ _, Or.inl (ok_iconst (n := 0) (v := 0) (by decide) (by decide +kernel))⟩,
  List.forall_mem_cons.mpr ⟨⟨mo_is _ _, Or.inl (ok_istore_n (k := 3) rfl (by decide) (by decide +kernel))⟩,
  fun _ h => absurd h List.not_mem_nil⟩⟩⟩⟩⟩⟩⟩⟩⟩⟩⟩⟩⟩⟩⟩⟩⟩⟩⟩⟩
def t_X9_beginAct_1 : List (Nat × am_F) := [(34, im_al 0 35), (35, im_gr q_SH 9 6 38), (38, im_ic 6 40), (40, im_pi q_SH 4 1 43), (43, im_al 0 44), (44, im_gr q_SH 9 6 47), (47, im_ic (-1) 48), (48, im_pi q_SH 4 2 51), (51, im_al 0 52), (52, im_gr q_SH 9 6 55), (55, im_al 0 56), (56, im_gr q_SH 9 3 59), (59, im_gr q_SH 0 0 62), (62, im_il 1 63), (63, im_ald q_SH .int 64), (64, im_pi q_SH 4 3 67), (67, im_al 0 68), (68, im_gr q_SH 9 6 71), (71, im_il 3 72), (72, im_if1 ib_eq 88 75)]
set_option maxRecDepth 20000 in
theorem o_X9_beginAct_1 : ∀ q ∈ t_X9_beginAct_1, am_ok vwCl q_SH ξ (q_E ξ β xs L) q_EN q_KD q_ML (cX9_beginAct, 4, RX9, "beginAct", none, []) q.1 q.2 :=
  List.forall_mem_cons.mpr ⟨⟨mo_al _ _, Or.inl (ok_aload_n (k := 0) rfl (by decide +kernel))⟩,
  List.forall_mem_cons.mpr ⟨⟨mo_gr _ _ _ _, Or.inl (ok_gr (C := RX9) (T := TX9) (N := 20) (ci := 9) (k := 6) rfl inX9 (by decide) fl_X9_21 (by decide +kernel) (by decide +kernel))⟩,
  List.forall_mem_cons.mpr ⟨⟨mo_ic _ _, Or.inl (ok_bipush (n := 6) (v := 6) (by decide) (by decide +kernel))⟩,
  List.forall_mem_cons.mpr ⟨⟨mo_pi _ _ _ _, Or.inl (ok_pi (ty := .int) (C := RX4) (T := TX4) (N := 12) (ci := 4) (k := 1) rfl inX4 (by decide) fl_X9_199 (by decide +kernel) tyX4 tyX4_ok nmX4 (by decide +kernel) (by decide +kernel) (by decide +kernel))⟩,
  List.forall_mem_cons.mpr ⟨⟨mo_al _ _, Or.inl (ok_aload_n (k := 0) rfl (by decide +kernel))⟩,
  List.forall_mem_cons.mpr ⟨⟨mo_gr _ _ _ _, Or.inl (ok_gr (C := RX9) (T := TX9) (N := 20) (ci := 9) (k := 6) rfl inX9 (by decide) fl_X9_21 (by decide +kernel) (by decide +kernel))⟩,
  List.forall_mem_cons.mpr ⟨⟨mo_ic _ _, Or.inl (ok_iconst (n := (-1)) (v := (-1)) (by decide) (by decide +kernel))⟩,
  List.forall_mem_cons.mpr ⟨⟨mo_pi _ _ _ _, Or.inl (ok_pi (ty := .int) (C := RX4) (T := TX4) (N := 12) (ci := 4) (k := 2) rfl inX4 (by decide) fl_X9_202 (by decide +kernel) tyX4 tyX4_ok nmX4 (by decide +kernel) (by decide +kernel) (by decide +kernel))⟩,
  List.forall_mem_cons.mpr ⟨⟨mo_al _ _, Or.inl (ok_aload_n (k := 0) rfl (by decide +kernel))⟩,
  List.forall_mem_cons.mpr ⟨⟨mo_gr _ _ _ _, Or.inl (ok_gr (C := RX9) (T := TX9) (N := 20) (ci := 9) (k := 6) rfl inX9 (by decide) fl_X9_21 (by decide +kernel) (by decide +kernel))⟩,
  List.forall_mem_cons.mpr ⟨⟨mo_al _ _, Or.inl (ok_aload_n (k := 0) rfl (by decide +kernel))⟩,
  List.forall_mem_cons.mpr ⟨⟨mo_gr _ _ _ _, Or.inl (ok_gr (C := RX9) (T := TX9) (N := 20) (ci := 9) (k := 3) rfl inX9 (by decide) fl_X9_75 (by decide +kernel) (by decide +kernel))⟩,
  List.forall_mem_cons.mpr ⟨⟨mo_gr _ _ _ _, Or.inl (ok_gr (C := RX0) (T := TX0) (N := 16) (ci := 0) (k := 0) rfl inX0 (by decide) fl_X9_205 (by decide +kernel) (by decide +kernel))⟩,
  List.forall_mem_cons.mpr ⟨⟨mo_il _ _, Or.inl (ok_iload_n (k := 1) rfl (by decide +kernel))⟩,
  List.forall_mem_cons.mpr ⟨⟨mo_ald _ _ _, Or.inl (ok_iald (by decide +kernel))⟩,
  List.forall_mem_cons.mpr ⟨⟨mo_pi _ _ _ _, Or.inl (ok_pi (ty := .int) (C := RX4) (T := TX4) (N := 12) (ci := 4) (k := 3) rfl inX4 (by decide) fl_X9_208 (by decide +kernel) tyX4 tyX4_ok nmX4 (by decide +kernel) (by decide +kernel) (by decide +kernel))⟩,
  List.forall_mem_cons.mpr ⟨⟨mo_al _ _, Or.inl (ok_aload_n (k := 0) rfl (by decide +kernel))⟩,
  List.forall_mem_cons.mpr ⟨⟨mo_gr _ _ _ _, Or.inl (ok_gr (C := RX9) (T := TX9) (N := 20) (ci := 9) (k := 6) rfl inX9 (by decide) fl_X9_21 (by decide +kernel) (by decide +kernel))⟩,
  List.forall_mem_cons.mpr ⟨⟨mo_il _ _, Or.inl (ok_iload_n (k := 3) rfl (by decide +kernel))⟩,
  List.forall_mem_cons.mpr ⟨⟨mo_if1 _ _ _, Or.inl (ok_if_eq (off := 16) (by decide) (by decide +kernel))⟩,
  fun _ h => absurd h List.not_mem_nil⟩⟩⟩⟩⟩⟩⟩⟩⟩⟩⟩⟩⟩⟩⟩⟩⟩⟩⟩⟩
def t_X9_beginAct_2 : List (Nat × am_F) := [(75, im_al 0 76), (76, im_gr q_SH 9 3 79), (79, im_il 2 80), (80, im_ic 6 82), (82, im_inv q_SH 0 3 2 85), (85, im_go 89), (88, im_ic 0 89), (89, im_pi q_SH 4 5 92), (92, im_al 0 93), (93, im_gr q_SH 9 6 96), (96, im_ic (-1) 97), (97, im_pi q_SH 4 6 100), (100, im_al 0 101), (101, im_gr q_SH 9 6 104), (104, im_ic (-1) 105), (105, im_pi q_SH 4 7 108), (108, im_al 0 109), (109, im_gr q_SH 9 6 112), (112, im_al 0 113), (113, im_gr q_SH 9 3 116)]
set_option maxRecDepth 20000 in
theorem o_X9_beginAct_2 : ∀ q ∈ t_X9_beginAct_2, am_ok vwCl q_SH ξ (q_E ξ β xs L) q_EN q_KD q_ML (cX9_beginAct, 4, RX9, "beginAct", none, []) q.1 q.2 :=
  List.forall_mem_cons.mpr ⟨⟨mo_al _ _, Or.inl (ok_aload_n (k := 0) rfl (by decide +kernel))⟩,
  List.forall_mem_cons.mpr ⟨⟨mo_gr _ _ _ _, Or.inl (ok_gr (C := RX9) (T := TX9) (N := 20) (ci := 9) (k := 3) rfl inX9 (by decide) fl_X9_75 (by decide +kernel) (by decide +kernel))⟩,
  List.forall_mem_cons.mpr ⟨⟨mo_il _ _, Or.inl (ok_iload_n (k := 2) rfl (by decide +kernel))⟩,
  List.forall_mem_cons.mpr ⟨⟨mo_ic _ _, Or.inl (ok_bipush (n := 6) (v := 6) (by decide) (by decide +kernel))⟩,
  List.forall_mem_cons.mpr ⟨⟨mo_inv _ _ _ _ _, Or.inr (Or.inl (ok_inv (T := TX0) (N := 16) rfl cw_X0_having (by decide) (by decide) ml_X9_211 ci_X0_having cv_X0_having (show Cond.initialized (yX0_having).cls ∈ am_ts from ci9_RX0) ⟨by decide +kernel, by decide +kernel, by decide +kernel⟩ rfl (by decide +kernel)))⟩,
  List.forall_mem_cons.mpr ⟨⟨mo_go _, Or.inl (ok_goto (off := 4) (by decide) (by decide +kernel))⟩,
  List.forall_mem_cons.mpr ⟨⟨mo_ic _ _, Or.inl (ok_iconst (n := 0) (v := 0) (by decide) (by decide +kernel))⟩,
  List.forall_mem_cons.mpr ⟨⟨mo_pi _ _ _ _, Or.inl (ok_pi (ty := .int) (C := RX4) (T := TX4) (N := 12) (ci := 4) (k := 5) rfl inX4 (by decide) fl_X9_214 (by decide +kernel) tyX4 tyX4_ok nmX4 (by decide +kernel) (by decide +kernel) (by decide +kernel))⟩,
  List.forall_mem_cons.mpr ⟨⟨mo_al _ _, Or.inl (ok_aload_n (k := 0) rfl (by decide +kernel))⟩,
  List.forall_mem_cons.mpr ⟨⟨mo_gr _ _ _ _, Or.inl (ok_gr (C := RX9) (T := TX9) (N := 20) (ci := 9) (k := 6) rfl inX9 (by decide) fl_X9_21 (by decide +kernel) (by decide +kernel))⟩,
  List.forall_mem_cons.mpr ⟨⟨mo_ic _ _, Or.inl (ok_iconst (n := (-1)) (v := (-1)) (by decide) (by decide +kernel))⟩,
  List.forall_mem_cons.mpr ⟨⟨mo_pi _ _ _ _, Or.inl (ok_pi (ty := .int) (C := RX4) (T := TX4) (N := 12) (ci := 4) (k := 6) rfl inX4 (by decide) fl_X9_217 (by decide +kernel) tyX4 tyX4_ok nmX4 (by decide +kernel) (by decide +kernel) (by decide +kernel))⟩,
  List.forall_mem_cons.mpr ⟨⟨mo_al _ _, Or.inl (ok_aload_n (k := 0) rfl (by decide +kernel))⟩,
  List.forall_mem_cons.mpr ⟨⟨mo_gr _ _ _ _, Or.inl (ok_gr (C := RX9) (T := TX9) (N := 20) (ci := 9) (k := 6) rfl inX9 (by decide) fl_X9_21 (by decide +kernel) (by decide +kernel))⟩,
  List.forall_mem_cons.mpr ⟨⟨mo_ic _ _, Or.inl (ok_iconst (n := (-1)) (v := (-1)) (by decide) (by decide +kernel))⟩,
  List.forall_mem_cons.mpr ⟨⟨mo_pi _ _ _ _, Or.inl (ok_pi (ty := .int) (C := RX4) (T := TX4) (N := 12) (ci := 4) (k := 7) rfl inX4 (by decide) fl_X9_220 (by decide +kernel) tyX4 tyX4_ok nmX4 (by decide +kernel) (by decide +kernel) (by decide +kernel))⟩,
  List.forall_mem_cons.mpr ⟨⟨mo_al _ _, Or.inl (ok_aload_n (k := 0) rfl (by decide +kernel))⟩,
  List.forall_mem_cons.mpr ⟨⟨mo_gr _ _ _ _, Or.inl (ok_gr (C := RX9) (T := TX9) (N := 20) (ci := 9) (k := 6) rfl inX9 (by decide) fl_X9_21 (by decide +kernel) (by decide +kernel))⟩,
  List.forall_mem_cons.mpr ⟨⟨mo_al _ _, Or.inl (ok_aload_n (k := 0) rfl (by decide +kernel))⟩,
  List.forall_mem_cons.mpr ⟨⟨mo_gr _ _ _ _, Or.inl (ok_gr (C := RX9) (T := TX9) (N := 20) (ci := 9) (k := 3) rfl inX9 (by decide) fl_X9_75 (by decide +kernel) (by decide +kernel))⟩,
  fun _ h => absurd h List.not_mem_nil⟩⟩⟩⟩⟩⟩⟩⟩⟩⟩⟩⟩⟩⟩⟩⟩⟩⟩⟩⟩
def t_X9_beginAct_3 : List (Nat × am_F) := [(116, im_gr q_SH 0 0 119), (119, im_il 1 120), (120, im_ald q_SH .int 121), (121, im_pi q_SH 4 10 124), (124, im_al 0 125), (125, im_gr q_SH 9 6 128), (128, im_al 0 129), (129, im_gr q_SH 9 3 132), (132, im_gr q_SH 0 0 135), (135, im_il 1 136), (136, im_ald q_SH .int 137), (137, im_pi q_SH 4 11 140), (140, im_ret0e)]
set_option maxRecDepth 20000 in
theorem o_X9_beginAct_3 : ∀ q ∈ t_X9_beginAct_3, am_ok vwCl q_SH ξ (q_E ξ β xs L) q_EN q_KD q_ML (cX9_beginAct, 4, RX9, "beginAct", none, []) q.1 q.2 :=
  List.forall_mem_cons.mpr ⟨⟨mo_gr _ _ _ _, Or.inl (ok_gr (C := RX0) (T := TX0) (N := 16) (ci := 0) (k := 0) rfl inX0 (by decide) fl_X9_205 (by decide +kernel) (by decide +kernel))⟩,
  List.forall_mem_cons.mpr ⟨⟨mo_il _ _, Or.inl (ok_iload_n (k := 1) rfl (by decide +kernel))⟩,
  List.forall_mem_cons.mpr ⟨⟨mo_ald _ _ _, Or.inl (ok_iald (by decide +kernel))⟩,
  List.forall_mem_cons.mpr ⟨⟨mo_pi _ _ _ _, Or.inl (ok_pi (ty := .int) (C := RX4) (T := TX4) (N := 12) (ci := 4) (k := 10) rfl inX4 (by decide) fl_X9_223 (by decide +kernel) tyX4 tyX4_ok nmX4 (by decide +kernel) (by decide +kernel) (by decide +kernel))⟩,
  List.forall_mem_cons.mpr ⟨⟨mo_al _ _, Or.inl (ok_aload_n (k := 0) rfl (by decide +kernel))⟩,
  List.forall_mem_cons.mpr ⟨⟨mo_gr _ _ _ _, Or.inl (ok_gr (C := RX9) (T := TX9) (N := 20) (ci := 9) (k := 6) rfl inX9 (by decide) fl_X9_21 (by decide +kernel) (by decide +kernel))⟩,
  List.forall_mem_cons.mpr ⟨⟨mo_al _ _, Or.inl (ok_aload_n (k := 0) rfl (by decide +kernel))⟩,
  List.forall_mem_cons.mpr ⟨⟨mo_gr _ _ _ _, Or.inl (ok_gr (C := RX9) (T := TX9) (N := 20) (ci := 9) (k := 3) rfl inX9 (by decide) fl_X9_75 (by decide +kernel) (by decide +kernel))⟩,
  List.forall_mem_cons.mpr ⟨⟨mo_gr _ _ _ _, Or.inl (ok_gr (C := RX0) (T := TX0) (N := 16) (ci := 0) (k := 0) rfl inX0 (by decide) fl_X9_205 (by decide +kernel) (by decide +kernel))⟩,
  List.forall_mem_cons.mpr ⟨⟨mo_il _ _, Or.inl (ok_iload_n (k := 1) rfl (by decide +kernel))⟩,
  List.forall_mem_cons.mpr ⟨⟨mo_ald _ _ _, Or.inl (ok_iald (by decide +kernel))⟩,
  List.forall_mem_cons.mpr ⟨⟨mo_pi _ _ _ _, Or.inl (ok_pi (ty := .int) (C := RX4) (T := TX4) (N := 12) (ci := 4) (k := 11) rfl inX4 (by decide) fl_X9_225 (by decide +kernel) tyX4 tyX4_ok nmX4 (by decide +kernel) (by decide +kernel) (by decide +kernel))⟩,
  List.forall_mem_cons.mpr ⟨⟨mo_ret0e, Or.inr (Or.inr (ok_ret0 rfl (by decide +kernel)))⟩,
  fun _ h => absurd h List.not_mem_nil⟩⟩⟩⟩⟩⟩⟩⟩⟩⟩⟩⟩⟩
def t_X9_beginAct : List (Nat × am_F) := t_X9_beginAct_0 ++ (t_X9_beginAct_1 ++ (t_X9_beginAct_2 ++ (t_X9_beginAct_3)))
theorem o_X9_beginAct : ∀ q ∈ t_X9_beginAct, am_ok vwCl q_SH ξ (q_E ξ β xs L) q_EN q_KD q_ML (cX9_beginAct, 4, RX9, "beginAct", none, []) q.1 q.2 := List.forall_mem_append.mpr ⟨o_X9_beginAct_0, List.forall_mem_append.mpr ⟨o_X9_beginAct_1, List.forall_mem_append.mpr ⟨o_X9_beginAct_2, o_X9_beginAct_3⟩⟩⟩
def t_X9_happen_0 : List (Nat × am_F) := [(0, im_al 0 1), (1, im_gr q_SH 9 2 4), (4, im_gr q_SH 3 0 7), (7, im_il 1 8), (8, im_ald q_SH .int 9), (9, im_is 2 10), (10, im_al 0 11), (11, im_gr q_SH 9 6 14), (14, im_il 2 15), (15, im_pi q_SH 4 1 18), (18, im_al 0 19), (19, im_gr q_SH 9 6 22), (22, im_al 0 23), (23, im_gr q_SH 9 2 26), (26, im_gr q_SH 3 3 29), (29, im_il 1 30), (30, im_ald q_SH .int 31), (31, im_pi q_SH 4 2 34), (34, im_al 0 35), (35, im_gr q_SH 9 6 38)]
set_option maxRecDepth 20000 in
theorem o_X9_happen_0 : ∀ q ∈ t_X9_happen_0, am_ok vwCl q_SH ξ (q_E ξ β xs L) q_EN q_KD q_ML (cX9_happen, 3, RX9, "happen", none, []) q.1 q.2 :=
  List.forall_mem_cons.mpr ⟨⟨mo_al _ _, Or.inl (ok_aload_n (k := 0) rfl (by decide +kernel))⟩,
  List.forall_mem_cons.mpr ⟨⟨mo_gr _ _ _ _, Or.inl (ok_gr (C := RX9) (T := TX9) (N := 20) (ci := 9) (k := 2) rfl inX9 (by decide) fl_X9_71 (by decide +kernel) (by decide +kernel))⟩,
  List.forall_mem_cons.mpr ⟨⟨mo_gr _ _ _ _, Or.inl (ok_gr (C := RX3) (T := TX3) (N := 9) (ci := 3) (k := 0) rfl inX3 (by decide) fl_X9_228 (by decide +kernel) (by decide +kernel))⟩,
  List.forall_mem_cons.mpr ⟨⟨mo_il _ _, Or.inl (ok_iload_n (k := 1) rfl (by decide +kernel))⟩,
  List.forall_mem_cons.mpr ⟨⟨mo_ald _ _ _, Or.inl (ok_iald (by decide +kernel))⟩,
  List.forall_mem_cons.mpr ⟨⟨mo_is _ _, Or.inl (ok_istore_n (k := 2) rfl (by decide) (by decide +kernel))⟩,
  List.forall_mem_cons.mpr ⟨⟨mo_al _ _, Or.inl (ok_aload_n (k := 0) rfl (by decide +kernel))⟩,
  List.forall_mem_cons.mpr ⟨⟨mo_gr _ _ _ _, Or.inl (ok_gr (C := RX9) (T := TX9) (N := 20) (ci := 9) (k := 6) rfl inX9 (by decide) fl_X9_21 (by decide +kernel) (by decide +kernel))⟩,
  List.forall_mem_cons.mpr ⟨⟨mo_il _ _, Or.inl (ok_iload_n (k := 2) rfl (by decide +kernel))⟩,
  List.forall_mem_cons.mpr ⟨⟨mo_pi _ _ _ _, Or.inl (ok_pi (ty := .int) (C := RX4) (T := TX4) (N := 12) (ci := 4) (k := 1) rfl inX4 (by decide) fl_X9_199 (by decide +kernel) tyX4 tyX4_ok nmX4 (by decide +kernel) (by decide +kernel) (by decide +kernel))⟩,
  List.forall_mem_cons.mpr ⟨⟨mo_al _ _, Or.inl (ok_aload_n (k := 0) rfl (by decide +kernel))⟩,
  List.forall_mem_cons.mpr ⟨⟨mo_gr _ _ _ _, Or.inl (ok_gr (C := RX9) (T := TX9) (N := 20) (ci := 9) (k := 6) rfl inX9 (by decide) fl_X9_21 (by decide +kernel) (by decide +kernel))⟩,
  List.forall_mem_cons.mpr ⟨⟨mo_al _ _, Or.inl (ok_aload_n (k := 0) rfl (by decide +kernel))⟩,
  List.forall_mem_cons.mpr ⟨⟨mo_gr _ _ _ _, Or.inl (ok_gr (C := RX9) (T := TX9) (N := 20) (ci := 9) (k := 2) rfl inX9 (by decide) fl_X9_71 (by decide +kernel) (by decide +kernel))⟩,
  List.forall_mem_cons.mpr ⟨⟨mo_gr _ _ _ _, Or.inl (ok_gr (C := RX3) (T := TX3) (N := 9) (ci := 3) (k := 3) rfl inX3 (by decide) fl_X9_231 (by decide +kernel) (by decide +kernel))⟩,
  List.forall_mem_cons.mpr ⟨⟨mo_il _ _, Or.inl (ok_iload_n (k := 1) rfl (by decide +kernel))⟩,
  List.forall_mem_cons.mpr ⟨⟨mo_ald _ _ _, Or.inl (ok_iald (by decide +kernel))⟩,
  List.forall_mem_cons.mpr ⟨⟨mo_pi _ _ _ _, Or.inl (ok_pi (ty := .int) (C := RX4) (T := TX4) (N := 12) (ci := 4) (k := 2) rfl inX4 (by decide) fl_X9_202 (by decide +kernel) tyX4 tyX4_ok nmX4 (by decide +kernel) (by decide +kernel) (by decide +kernel))⟩,
  List.forall_mem_cons.mpr ⟨⟨mo_al _ _, Or.inl (ok_aload_n (k := 0) rfl (by decide +kernel))⟩,
  List.forall_mem_cons.mpr ⟨⟨mo_gr _ _ _ _, Or.inl (ok_gr (C := RX9) (T := TX9) (N := 20) (ci := 9) (k := 6) rfl inX9 (by decide) fl_X9_21 (by decide +kernel) (by decide +kernel))⟩,
  fun _ h => absurd h List.not_mem_nil⟩⟩⟩⟩⟩⟩⟩⟩⟩⟩⟩⟩⟩⟩⟩⟩⟩⟩⟩⟩
def t_X9_happen_1 : List (Nat × am_F) := [(38, im_il 2 39), (39, im_ic 1 40), (40, im_if2 ic_ne 47 43), (43, im_ic (-1) 44), (44, im_go 56), (47, im_al 0 48), (48, im_gr q_SH 9 2 51), (51, im_gr q_SH 3 2 54), (54, im_il 1 55), (55, im_ald q_SH .int 56), (56, im_pi q_SH 4 3 59), (59, im_al 0 60), (60, im_gr q_SH 9 6 63), (63, im_il 2 64), (64, im_ic 6 66), (66, im_if2 ic_ne 73 69), (69, im_ic 0 70), (70, im_go 99), (73, im_al 0 74), (74, im_gr q_SH 9 3 77)]
set_option maxRecDepth 20000 in
theorem o_X9_happen_1 : ∀ q ∈ t_X9_happen_1, am_ok vwCl q_SH ξ (q_E ξ β xs L) q_EN q_KD q_ML (cX9_happen, 3, RX9, "happen", none, []) q.1 q.2 :=
  List.forall_mem_cons.mpr ⟨⟨mo_il _ _, Or.inl (ok_iload_n (k := 2) rfl (by decide +kernel))⟩,
  List.forall_mem_cons.mpr ⟨⟨mo_ic _ _, Or.inl (ok_iconst (n := 1) (v := 1) (by decide) (by decide +kernel))⟩,
  List.forall_mem_cons.mpr ⟨⟨mo_if2 _ _ _, Or.inl (ok_icmp_ne (off := 7) (by decide) (by decide +kernel))⟩,
  List.forall_mem_cons.mpr ⟨⟨mo_ic _ _, Or.inl (ok_iconst (n := (-1)) (v := (-1)) (by decide) (by decide +kernel))⟩,
  List.forall_mem_cons.mpr ⟨⟨mo_go _, Or.inl (ok_goto (off := 12) (by decide) (by decide +kernel))⟩,
  List.forall_mem_cons.mpr ⟨⟨mo_al _ _, Or.inl (ok_aload_n (k := 0) rfl (by decide +kernel))⟩,
  List.forall_mem_cons.mpr ⟨⟨mo_gr _ _ _ _, Or.inl (ok_gr (C := RX9) (T := TX9) (N := 20) (ci := 9) (k := 2) rfl inX9 (by decide) fl_X9_71 (by decide +kernel) (by decide +kernel))⟩,
  List.forall_mem_cons.mpr ⟨⟨mo_gr _ _ _ _, Or.inl (ok_gr (C := RX3) (T := TX3) (N := 9) (ci := 3) (k := 2) rfl inX3 (by decide) fl_X9_233 (by decide +kernel) (by decide +kernel))⟩,
  List.forall_mem_cons.mpr ⟨⟨mo_il _ _, Or.inl (ok_iload_n (k := 1) rfl (by decide +kernel))⟩,
  List.forall_mem_cons.mpr ⟨⟨mo_ald _ _ _, Or.inl (ok_iald (by decide +kernel))⟩,
  List.forall_mem_cons.mpr ⟨⟨mo_pi _ _ _ _, Or.inl (ok_pi (ty := .int) (C := RX4) (T := TX4) (N := 12) (ci := 4) (k := 3) rfl inX4 (by decide) fl_X9_208 (by decide +kernel) tyX4 tyX4_ok nmX4 (by decide +kernel) (by decide +kernel) (by decide +kernel))⟩,
  List.forall_mem_cons.mpr ⟨⟨mo_al _ _, Or.inl (ok_aload_n (k := 0) rfl (by decide +kernel))⟩,
  List.forall_mem_cons.mpr ⟨⟨mo_gr _ _ _ _, Or.inl (ok_gr (C := RX9) (T := TX9) (N := 20) (ci := 9) (k := 6) rfl inX9 (by decide) fl_X9_21 (by decide +kernel) (by decide +kernel))⟩,
  List.forall_mem_cons.mpr ⟨⟨mo_il _ _, Or.inl (ok_iload_n (k := 2) rfl (by decide +kernel))⟩,
  List.forall_mem_cons.mpr ⟨⟨mo_ic _ _, Or.inl (ok_bipush (n := 6) (v := 6) (by decide) (by decide +kernel))⟩,
  List.forall_mem_cons.mpr ⟨⟨mo_if2 _ _ _, Or.inl (ok_icmp_ne (off := 7) (by decide) (by decide +kernel))⟩,
  List.forall_mem_cons.mpr ⟨⟨mo_ic _ _, Or.inl (ok_iconst (n := 0) (v := 0) (by decide) (by decide +kernel))⟩,
  List.forall_mem_cons.mpr ⟨⟨mo_go _, Or.inl (ok_goto (off := 29) (by decide) (by decide +kernel))⟩,
  List.forall_mem_cons.mpr ⟨⟨mo_al _ _, Or.inl (ok_aload_n (k := 0) rfl (by decide +kernel))⟩,
  List.forall_mem_cons.mpr ⟨⟨mo_gr _ _ _ _, Or.inl (ok_gr (C := RX9) (T := TX9) (N := 20) (ci := 9) (k := 3) rfl inX9 (by decide) fl_X9_75 (by decide +kernel) (by decide +kernel))⟩,
  fun _ h => absurd h List.not_mem_nil⟩⟩⟩⟩⟩⟩⟩⟩⟩⟩⟩⟩⟩⟩⟩⟩⟩⟩⟩⟩
def t_X9_happen_2 : List (Nat × am_F) := [(77, im_al 0 78), (78, im_gr q_SH 9 3 81), (81, im_al 0 82), (82, im_gi q_SH 9 18 85), (85, im_al 0 86), (86, im_gr q_SH 9 6 89), (89, im_gi q_SH 4 0 92), (92, im_inv q_SH 0 2 2 95), (95, im_il 2 96), (96, im_inv q_SH 0 3 2 99), (99, im_pi q_SH 4 5 102), (102, im_al 0 103), (103, im_gr q_SH 9 6 106), (106, im_al 0 107), (107, im_gr q_SH 9 2 110), (110, im_gr q_SH 3 1 113), (113, im_il 1 114), (114, im_ald q_SH .int 115), (115, im_pi q_SH 4 6 118), (118, im_al 0 119)]
set_option maxRecDepth 20000 in
theorem o_X9_happen_2 : ∀ q ∈ t_X9_happen_2, am_ok vwCl q_SH ξ (q_E ξ β xs L) q_EN q_KD q_ML (cX9_happen, 3, RX9, "happen", none, []) q.1 q.2 :=
  List.forall_mem_cons.mpr ⟨⟨mo_al _ _, Or.inl (ok_aload_n (k := 0) rfl (by decide +kernel))⟩,
  List.forall_mem_cons.mpr ⟨⟨mo_gr _ _ _ _, Or.inl (ok_gr (C := RX9) (T := TX9) (N := 20) (ci := 9) (k := 3) rfl inX9 (by decide) fl_X9_75 (by decide +kernel) (by decide +kernel))⟩,
  List.forall_mem_cons.mpr ⟨⟨mo_al _ _, Or.inl (ok_aload_n (k := 0) rfl (by decide +kernel))⟩,
  List.forall_mem_cons.mpr ⟨⟨mo_gi _ _ _ _, Or.inl (ok_gi (C := RX9) (T := TX9) (N := 20) (ci := 9) (k := 18) rfl inX9 (by decide) fl_X9_107 (by decide +kernel) (by decide +kernel))⟩,
  List.forall_mem_cons.mpr ⟨⟨mo_al _ _, Or.inl (ok_aload_n (k := 0) rfl (by decide +kernel))⟩,
  List.forall_mem_cons.mpr ⟨⟨mo_gr _ _ _ _, Or.inl (ok_gr (C := RX9) (T := TX9) (N := 20) (ci := 9) (k := 6) rfl inX9 (by decide) fl_X9_21 (by decide +kernel) (by decide +kernel))⟩,
  List.forall_mem_cons.mpr ⟨⟨mo_gi _ _ _ _, Or.inl (ok_gi (C := RX4) (T := TX4) (N := 12) (ci := 4) (k := 0) rfl inX4 (by decide) fl_X9_122 (by decide +kernel) (by decide +kernel))⟩,
  List.forall_mem_cons.mpr ⟨⟨mo_inv _ _ _ _ _, Or.inr (Or.inl (ok_inv (T := TX0) (N := 16) rfl cw_X0_inForce (by decide) (by decide) ml_X9_196 ci_X0_inForce cv_X0_inForce (show Cond.initialized (yX0_inForce).cls ∈ am_ts from ci9_RX0) ⟨by decide +kernel, by decide +kernel, by decide +kernel⟩ rfl (by decide +kernel)))⟩,
  List.forall_mem_cons.mpr ⟨⟨mo_il _ _, Or.inl (ok_iload_n (k := 2) rfl (by decide +kernel))⟩,
  List.forall_mem_cons.mpr ⟨⟨mo_inv _ _ _ _ _, Or.inr (Or.inl (ok_inv (T := TX0) (N := 16) rfl cw_X0_having (by decide) (by decide) ml_X9_211 ci_X0_having cv_X0_having (show Cond.initialized (yX0_having).cls ∈ am_ts from ci9_RX0) ⟨by decide +kernel, by decide +kernel, by decide +kernel⟩ rfl (by decide +kernel)))⟩,
  List.forall_mem_cons.mpr ⟨⟨mo_pi _ _ _ _, Or.inl (ok_pi (ty := .int) (C := RX4) (T := TX4) (N := 12) (ci := 4) (k := 5) rfl inX4 (by decide) fl_X9_214 (by decide +kernel) tyX4 tyX4_ok nmX4 (by decide +kernel) (by decide +kernel) (by decide +kernel))⟩,
  List.forall_mem_cons.mpr ⟨⟨mo_al _ _, Or.inl (ok_aload_n (k := 0) rfl (by decide +kernel))⟩,
  List.forall_mem_cons.mpr ⟨⟨mo_gr _ _ _ _, Or.inl (ok_gr (C := RX9) (T := TX9) (N := 20) (ci := 9) (k := 6) rfl inX9 (by decide) fl_X9_21 (by decide +kernel) (by decide +kernel))⟩,
  List.forall_mem_cons.mpr ⟨⟨mo_al _ _, Or.inl (ok_aload_n (k := 0) rfl (by decide +kernel))⟩,
  List.forall_mem_cons.mpr ⟨⟨mo_gr _ _ _ _, Or.inl (ok_gr (C := RX9) (T := TX9) (N := 20) (ci := 9) (k := 2) rfl inX9 (by decide) fl_X9_71 (by decide +kernel) (by decide +kernel))⟩,
  List.forall_mem_cons.mpr ⟨⟨mo_gr _ _ _ _, Or.inl (ok_gr (C := RX3) (T := TX3) (N := 9) (ci := 3) (k := 1) rfl inX3 (by decide) fl_X9_235 (by decide +kernel) (by decide +kernel))⟩,
  List.forall_mem_cons.mpr ⟨⟨mo_il _ _, Or.inl (ok_iload_n (k := 1) rfl (by decide +kernel))⟩,
  List.forall_mem_cons.mpr ⟨⟨mo_ald _ _ _, Or.inl (ok_iald (by decide +kernel))⟩,
  List.forall_mem_cons.mpr ⟨⟨mo_pi _ _ _ _, Or.inl (ok_pi (ty := .int) (C := RX4) (T := TX4) (N := 12) (ci := 4) (k := 6) rfl inX4 (by decide) fl_X9_217 (by decide +kernel) tyX4 tyX4_ok nmX4 (by decide +kernel) (by decide +kernel) (by decide +kernel))⟩,
  List.forall_mem_cons.mpr ⟨⟨mo_al _ _, Or.inl (ok_aload_n (k := 0) rfl (by decide +kernel))⟩,
  fun _ h => absurd h List.not_mem_nil⟩⟩⟩⟩⟩⟩⟩⟩⟩⟩⟩⟩⟩⟩⟩⟩⟩⟩⟩⟩
def t_X9_happen_3 : List (Nat × am_F) := [(119, im_gr q_SH 9 6 122), (122, im_il 2 123), (123, im_ic 1 124), (124, im_if2 ic_ne 139 127), (127, im_al 0 128), (128, im_gr q_SH 9 2 131), (131, im_gr q_SH 3 2 134), (134, im_il 1 135), (135, im_ald q_SH .int 136), (136, im_go 140), (139, im_ic (-1) 140), (140, im_pi q_SH 4 7 143), (143, im_al 0 144), (144, im_gr q_SH 9 6 147), (147, im_ic 0 148), (148, im_pi q_SH 4 10 151), (151, im_al 0 152), (152, im_gr q_SH 9 6 155), (155, im_al 0 156), (156, im_gr q_SH 9 1 159)]
set_option maxRecDepth 20000 in
theorem o_X9_happen_3 : ∀ q ∈ t_X9_happen_3, am_ok vwCl q_SH ξ (q_E ξ β xs L) q_EN q_KD q_ML (cX9_happen, 3, RX9, "happen", none, []) q.1 q.2 :=
  List.forall_mem_cons.mpr ⟨⟨mo_gr _ _ _ _, Or.inl (ok_gr (C := RX9) (T := TX9) (N := 20) (ci := 9) (k := 6) rfl inX9 (by decide) fl_X9_21 (by decide +kernel) (by decide +kernel))⟩,
  List.forall_mem_cons.mpr ⟨⟨mo_il _ _, Or.inl (ok_iload_n (k := 2) rfl (by decide +kernel))⟩,
  List.forall_mem_cons.mpr ⟨⟨mo_ic _ _, Or.inl (ok_iconst (n := 1) (v := 1) (by decide) (by decide +kernel))⟩,
  List.forall_mem_cons.mpr ⟨⟨mo_if2 _ _ _, Or.inl (ok_icmp_ne (off := 15) (by decide) (by decide +kernel))⟩,
  List.forall_mem_cons.mpr ⟨⟨mo_al _ _, Or.inl (ok_aload_n (k := 0) rfl (by decide +kernel))⟩,
  List.forall_mem_cons.mpr ⟨⟨mo_gr _ _ _ _, Or.inl (ok_gr (C := RX9) (T := TX9) (N := 20) (ci := 9) (k := 2) rfl inX9 (by decide) fl_X9_71 (by decide +kernel) (by decide +kernel))⟩,
  List.forall_mem_cons.mpr ⟨⟨mo_gr _ _ _ _, Or.inl (ok_gr (C := RX3) (T := TX3) (N := 9) (ci := 3) (k := 2) rfl inX3 (by decide) fl_X9_233 (by decide +kernel) (by decide +kernel))⟩,
  List.forall_mem_cons.mpr ⟨⟨mo_il _ _, Or.inl (ok_iload_n (k := 1) rfl (by decide +kernel))⟩,
  List.forall_mem_cons.mpr ⟨⟨mo_ald _ _ _, Or.inl (ok_iald (by decide +kernel))⟩,
  List.forall_mem_cons.mpr ⟨⟨mo_go _, Or.inl (ok_goto (off := 4) (by decide) (by decide +kernel))⟩,
  List.forall_mem_cons.mpr ⟨⟨mo_ic _ _, Or.inl (ok_iconst (n := (-1)) (v := (-1)) (by decide) (by decide +kernel))⟩,
  List.forall_mem_cons.mpr ⟨⟨mo_pi _ _ _ _, Or.inl (ok_pi (ty := .int) (C := RX4) (T := TX4) (N := 12) (ci := 4) (k := 7) rfl inX4 (by decide) fl_X9_220 (by decide +kernel) tyX4 tyX4_ok nmX4 (by decide +kernel) (by decide +kernel) (by decide +kernel))⟩,
  List.forall_mem_cons.mpr ⟨⟨mo_al _ _, Or.inl (ok_aload_n (k := 0) rfl (by decide +kernel))⟩,
  List.forall_mem_cons.mpr ⟨⟨mo_gr _ _ _ _, Or.inl (ok_gr (C := RX9) (T := TX9) (N := 20) (ci := 9) (k := 6) rfl inX9 (by decide) fl_X9_21 (by decide +kernel) (by decide +kernel))⟩,
  List.forall_mem_cons.mpr ⟨⟨mo_ic _ _, Or.inl (ok_iconst (n := 0) (v := 0) (by decide) (by decide +kernel))⟩,
  List.forall_mem_cons.mpr ⟨⟨mo_pi _ _ _ _, Or.inl (ok_pi (ty := .int) (C := RX4) (T := TX4) (N := 12) (ci := 4) (k := 10) rfl inX4 (by decide) fl_X9_223 (by decide +kernel) tyX4 tyX4_ok nmX4 (by decide +kernel) (by decide +kernel) (by decide +kernel))⟩,
  List.forall_mem_cons.mpr ⟨⟨mo_al _ _, Or.inl (ok_aload_n (k := 0) rfl (by decide +kernel))⟩,
  List.forall_mem_cons.mpr ⟨⟨mo_gr _ _ _ _, Or.inl (ok_gr (C := RX9) (T := TX9) (N := 20) (ci := 9) (k := 6) rfl inX9 (by decide) fl_X9_21 (by decide +kernel) (by decide +kernel))⟩,
  List.forall_mem_cons.mpr ⟨⟨mo_al _ _, Or.inl (ok_aload_n (k := 0) rfl (by decide +kernel))⟩,
  List.forall_mem_cons.mpr ⟨⟨mo_gr _ _ _ _, Or.inl (ok_gr (C := RX9) (T := TX9) (N := 20) (ci := 9) (k := 1) rfl inX9 (by decide) fl_X9_63 (by decide +kernel) (by decide +kernel))⟩,
  fun _ h => absurd h List.not_mem_nil⟩⟩⟩⟩⟩⟩⟩⟩⟩⟩⟩⟩⟩⟩⟩⟩⟩⟩⟩⟩
def t_X9_happen_4 : List (Nat × am_F) := [(159, im_gi q_SH 8 2 162), (162, im_ic 1 163), (163, im_bin (fun x y => x - y) 164), (164, im_pi q_SH 4 11 167), (167, im_il 2 168), (168, im_if1 ib_ne 185 171), (171, im_al 0 172), (172, im_al 0 173), (173, im_gr q_SH 9 6 176), (176, im_gi q_SH 4 6 179), (179, im_inv q_SH 9 58 1 182), (182, im_go 301), (185, im_il 2 186), (186, im_ic 1 187), (187, im_if2 ic_ne 211 190), (190, im_al 0 191), (191, im_al 0 192), (192, im_gr q_SH 9 6 195), (195, im_gi q_SH 4 6 198), (198, im_al 0 199)]
set_option maxRecDepth 20000 in
theorem o_X9_happen_4 : ∀ q ∈ t_X9_happen_4, am_ok vwCl q_SH ξ (q_E ξ β xs L) q_EN q_KD q_ML (cX9_happen, 3, RX9, "happen", none, []) q.1 q.2 :=
  List.forall_mem_cons.mpr ⟨⟨mo_gi _ _ _ _, Or.inl (ok_gi (C := RX8) (T := TX8) (N := 3) (ci := 8) (k := 2) rfl inX8 (by decide) fl_X9_237 (by decide +kernel) (by decide +kernel))⟩,
  List.forall_mem_cons.mpr ⟨⟨mo_ic _ _, Or.inl (ok_iconst (n := 1) (v := 1) (by decide) (by decide +kernel))⟩,
  List.forall_mem_cons.mpr ⟨⟨mo_bin _ _, Or.inl (ok_isub (by decide +kernel))⟩,
  List.forall_mem_cons.mpr ⟨⟨mo_pi _ _ _ _, Or.inl (ok_pi (ty := .int) (C := RX4) (T := TX4) (N := 12) (ci := 4) (k := 11) rfl inX4 (by decide) fl_X9_225 (by decide +kernel) tyX4 tyX4_ok nmX4 (by decide +kernel) (by decide +kernel) (by decide +kernel))⟩,
  List.forall_mem_cons.mpr ⟨⟨mo_il _ _, Or.inl (ok_iload_n (k := 2) rfl (by decide +kernel))⟩,
  List.forall_mem_cons.mpr ⟨⟨mo_if1 _ _ _, Or.inl (ok_if_ne (off := 17) (by decide) (by decide +kernel))⟩,
  List.forall_mem_cons.mpr ⟨⟨mo_al _ _, Or.inl (ok_aload_n (k := 0) rfl (by decide +kernel))⟩,
  List.forall_mem_cons.mpr ⟨⟨mo_al _ _, Or.inl (ok_aload_n (k := 0) rfl (by decide +kernel))⟩,
  List.forall_mem_cons.mpr ⟨⟨mo_gr _ _ _ _, Or.inl (ok_gr (C := RX9) (T := TX9) (N := 20) (ci := 9) (k := 6) rfl inX9 (by decide) fl_X9_21 (by decide +kernel) (by decide +kernel))⟩,
  List.forall_mem_cons.mpr ⟨⟨mo_gi _ _ _ _, Or.inl (ok_gi (C := RX4) (T := TX4) (N := 12) (ci := 4) (k := 6) rfl inX4 (by decide) fl_X9_217 (by decide +kernel) (by decide +kernel))⟩,
  List.forall_mem_cons.mpr ⟨⟨mo_inv _ _ _ _ _, Or.inr (Or.inl (ok_inv (T := TX9) (N := 20) rfl cw_X9_bear (by decide) (by decide) ml_X9_240 ci_X9_bear cv_X9_bear (show Cond.initialized (yX9_bear).cls ∈ am_ts from ci9_RX9) ⟨by decide +kernel, by decide +kernel, by decide +kernel⟩ rfl (by decide +kernel)))⟩,
  List.forall_mem_cons.mpr ⟨⟨mo_go _, Or.inl (ok_goto (off := 119) (by decide) (by decide +kernel))⟩,
  List.forall_mem_cons.mpr ⟨⟨mo_il _ _, Or.inl (ok_iload_n (k := 2) rfl (by decide +kernel))⟩,
  List.forall_mem_cons.mpr ⟨⟨mo_ic _ _, Or.inl (ok_iconst (n := 1) (v := 1) (by decide) (by decide +kernel))⟩,
  List.forall_mem_cons.mpr ⟨⟨mo_if2 _ _ _, Or.inl (ok_icmp_ne (off := 24) (by decide) (by decide +kernel))⟩,
  List.forall_mem_cons.mpr ⟨⟨mo_al _ _, Or.inl (ok_aload_n (k := 0) rfl (by decide +kernel))⟩,
  List.forall_mem_cons.mpr ⟨⟨mo_al _ _, Or.inl (ok_aload_n (k := 0) rfl (by decide +kernel))⟩,
  List.forall_mem_cons.mpr ⟨⟨mo_gr _ _ _ _, Or.inl (ok_gr (C := RX9) (T := TX9) (N := 20) (ci := 9) (k := 6) rfl inX9 (by decide) fl_X9_21 (by decide +kernel) (by decide +kernel))⟩,
  List.forall_mem_cons.mpr ⟨⟨mo_gi _ _ _ _, Or.inl (ok_gi (C := RX4) (T := TX4) (N := 12) (ci := 4) (k := 6) rfl inX4 (by decide) fl_X9_217 (by decide +kernel) (by decide +kernel))⟩,
  List.forall_mem_cons.mpr ⟨⟨mo_al _ _, Or.inl (ok_aload_n (k := 0) rfl (by decide +kernel))⟩,
  fun _ h => absurd h List.not_mem_nil⟩⟩⟩⟩⟩⟩⟩⟩⟩⟩⟩⟩⟩⟩⟩⟩⟩⟩⟩⟩
def t_X9_happen_5 : List (Nat × am_F) := [(199, im_gr q_SH 9 6 202), (202, im_gi q_SH 4 7 205), (205, im_inv q_SH 9 59 2 208), (208, im_go 301), (211, im_il 2 212), (212, im_ic 5 213), (213, im_if2 ic_ne 257 216), (216, im_al 0 217), (217, im_gr q_SH 9 14 220), (220, im_al 0 221), (221, im_gr q_SH 9 6 224), (224, im_gi q_SH 4 2 227), (227, im_al 0 228), (228, im_gr q_SH 9 6 231), (231, im_gi q_SH 4 3 234), (234, im_ast q_SH .int (fun x => x) 235), (235, im_al 0 236), (236, im_gr q_SH 9 15 239), (239, im_al 0 240), (240, im_gr q_SH 9 6 243)]
set_option maxRecDepth 20000 in
theorem o_X9_happen_5 : ∀ q ∈ t_X9_happen_5, am_ok vwCl q_SH ξ (q_E ξ β xs L) q_EN q_KD q_ML (cX9_happen, 3, RX9, "happen", none, []) q.1 q.2 :=
  List.forall_mem_cons.mpr ⟨⟨mo_gr _ _ _ _, Or.inl (ok_gr (C := RX9) (T := TX9) (N := 20) (ci := 9) (k := 6) rfl inX9 (by decide) fl_X9_21 (by decide +kernel) (by decide +kernel))⟩,
  List.forall_mem_cons.mpr ⟨⟨mo_gi _ _ _ _, Or.inl (ok_gi (C := RX4) (T := TX4) (N := 12) (ci := 4) (k := 7) rfl inX4 (by decide) fl_X9_220 (by decide +kernel) (by decide +kernel))⟩,
  List.forall_mem_cons.mpr ⟨⟨mo_inv _ _ _ _ _, Or.inr (Or.inl (ok_inv (T := TX9) (N := 20) rfl cw_X9_wed (by decide) (by decide) ml_X9_243 ci_X9_wed cv_X9_wed (show Cond.initialized (yX9_wed).cls ∈ am_ts from ci9_RX9) ⟨by decide +kernel, by decide +kernel, by decide +kernel⟩ rfl (by decide +kernel)))⟩,
  List.forall_mem_cons.mpr ⟨⟨mo_go _, Or.inl (ok_goto (off := 93) (by decide) (by decide +kernel))⟩,
  List.forall_mem_cons.mpr ⟨⟨mo_il _ _, Or.inl (ok_iload_n (k := 2) rfl (by decide +kernel))⟩,
  List.forall_mem_cons.mpr ⟨⟨mo_ic _ _, Or.inl (ok_iconst (n := 5) (v := 5) (by decide) (by decide +kernel))⟩,
  List.forall_mem_cons.mpr ⟨⟨mo_if2 _ _ _, Or.inl (ok_icmp_ne (off := 44) (by decide) (by decide +kernel))⟩,
  List.forall_mem_cons.mpr ⟨⟨mo_al _ _, Or.inl (ok_aload_n (k := 0) rfl (by decide +kernel))⟩,
  List.forall_mem_cons.mpr ⟨⟨mo_gr _ _ _ _, Or.inl (ok_gr (C := RX9) (T := TX9) (N := 20) (ci := 9) (k := 14) rfl inX9 (by decide) fl_X9_51 (by decide +kernel) (by decide +kernel))⟩,
  List.forall_mem_cons.mpr ⟨⟨mo_al _ _, Or.inl (ok_aload_n (k := 0) rfl (by decide +kernel))⟩,
  List.forall_mem_cons.mpr ⟨⟨mo_gr _ _ _ _, Or.inl (ok_gr (C := RX9) (T := TX9) (N := 20) (ci := 9) (k := 6) rfl inX9 (by decide) fl_X9_21 (by decide +kernel) (by decide +kernel))⟩,
  List.forall_mem_cons.mpr ⟨⟨mo_gi _ _ _ _, Or.inl (ok_gi (C := RX4) (T := TX4) (N := 12) (ci := 4) (k := 2) rfl inX4 (by decide) fl_X9_202 (by decide +kernel) (by decide +kernel))⟩,
  List.forall_mem_cons.mpr ⟨⟨mo_al _ _, Or.inl (ok_aload_n (k := 0) rfl (by decide +kernel))⟩,
  List.forall_mem_cons.mpr ⟨⟨mo_gr _ _ _ _, Or.inl (ok_gr (C := RX9) (T := TX9) (N := 20) (ci := 9) (k := 6) rfl inX9 (by decide) fl_X9_21 (by decide +kernel) (by decide +kernel))⟩,
  List.forall_mem_cons.mpr ⟨⟨mo_gi _ _ _ _, Or.inl (ok_gi (C := RX4) (T := TX4) (N := 12) (ci := 4) (k := 3) rfl inX4 (by decide) fl_X9_208 (by decide +kernel) (by decide +kernel))⟩,
  List.forall_mem_cons.mpr ⟨⟨mo_ast _ _ _ _, Or.inl (ok_iast (by decide +kernel))⟩,
  List.forall_mem_cons.mpr ⟨⟨mo_al _ _, Or.inl (ok_aload_n (k := 0) rfl (by decide +kernel))⟩,
  List.forall_mem_cons.mpr ⟨⟨mo_gr _ _ _ _, Or.inl (ok_gr (C := RX9) (T := TX9) (N := 20) (ci := 9) (k := 15) rfl inX9 (by decide) fl_X9_54 (by decide +kernel) (by decide +kernel))⟩,
  List.forall_mem_cons.mpr ⟨⟨mo_al _ _, Or.inl (ok_aload_n (k := 0) rfl (by decide +kernel))⟩,
  List.forall_mem_cons.mpr ⟨⟨mo_gr _ _ _ _, Or.inl (ok_gr (C := RX9) (T := TX9) (N := 20) (ci := 9) (k := 6) rfl inX9 (by decide) fl_X9_21 (by decide +kernel) (by decide +kernel))⟩,
  fun _ h => absurd h List.not_mem_nil⟩⟩⟩⟩⟩⟩⟩⟩⟩⟩⟩⟩⟩⟩⟩⟩⟩⟩⟩⟩
def t_X9_happen_6 : List (Nat × am_F) := [(243, im_gi q_SH 4 2 246), (246, im_al 0 247), (247, im_gr q_SH 9 6 250), (250, im_gi q_SH 4 0 253), (253, im_ast q_SH .int (fun x => x) 254), (254, im_go 301), (257, im_il 2 258), (258, im_ic 6 260), (260, im_if2 ic_ne 301 263), (263, im_al 0 264), (264, im_gr q_SH 9 12 267), (267, im_al 0 268), (268, im_gr q_SH 9 6 271), (271, im_gi q_SH 4 6 274), (274, im_al 0 275), (275, im_gr q_SH 9 6 278), (278, im_gi q_SH 4 2 281), (281, im_ast q_SH .int (fun x => x) 282), (282, im_al 0 283), (283, im_gr q_SH 9 13 286)]
set_option maxRecDepth 20000 in
theorem o_X9_happen_6 : ∀ q ∈ t_X9_happen_6, am_ok vwCl q_SH ξ (q_E ξ β xs L) q_EN q_KD q_ML (cX9_happen, 3, RX9, "happen", none, []) q.1 q.2 :=
  List.forall_mem_cons.mpr ⟨⟨mo_gi _ _ _ _, Or.inl (ok_gi (C := RX4) (T := TX4) (N := 12) (ci := 4) (k := 2) rfl inX4 (by decide) fl_X9_202 (by decide +kernel) (by decide +kernel))⟩,
  List.forall_mem_cons.mpr ⟨⟨mo_al _ _, Or.inl (ok_aload_n (k := 0) rfl (by decide +kernel))⟩,
  List.forall_mem_cons.mpr ⟨⟨mo_gr _ _ _ _, Or.inl (ok_gr (C := RX9) (T := TX9) (N := 20) (ci := 9) (k := 6) rfl inX9 (by decide) fl_X9_21 (by decide +kernel) (by decide +kernel))⟩,
  List.forall_mem_cons.mpr ⟨⟨mo_gi _ _ _ _, Or.inl (ok_gi (C := RX4) (T := TX4) (N := 12) (ci := 4) (k := 0) rfl inX4 (by decide) fl_X9_122 (by decide +kernel) (by decide +kernel))⟩,
  List.forall_mem_cons.mpr ⟨⟨mo_ast _ _ _ _, Or.inl (ok_iast (by decide +kernel))⟩,
  List.forall_mem_cons.mpr ⟨⟨mo_go _, Or.inl (ok_goto (off := 47) (by decide) (by decide +kernel))⟩,
  List.forall_mem_cons.mpr ⟨⟨mo_il _ _, Or.inl (ok_iload_n (k := 2) rfl (by decide +kernel))⟩,
  List.forall_mem_cons.mpr ⟨⟨mo_ic _ _, Or.inl (ok_bipush (n := 6) (v := 6) (by decide) (by decide +kernel))⟩,
  List.forall_mem_cons.mpr ⟨⟨mo_if2 _ _ _, Or.inl (ok_icmp_ne (off := 41) (by decide) (by decide +kernel))⟩,
  List.forall_mem_cons.mpr ⟨⟨mo_al _ _, Or.inl (ok_aload_n (k := 0) rfl (by decide +kernel))⟩,
  List.forall_mem_cons.mpr ⟨⟨mo_gr _ _ _ _, Or.inl (ok_gr (C := RX9) (T := TX9) (N := 20) (ci := 9) (k := 12) rfl inX9 (by decide) fl_X9_45 (by decide +kernel) (by decide +kernel))⟩,
  List.forall_mem_cons.mpr ⟨⟨mo_al _ _, Or.inl (ok_aload_n (k := 0) rfl (by decide +kernel))⟩,
  List.forall_mem_cons.mpr ⟨⟨mo_gr _ _ _ _, Or.inl (ok_gr (C := RX9) (T := TX9) (N := 20) (ci := 9) (k := 6) rfl inX9 (by decide) fl_X9_21 (by decide +kernel) (by decide +kernel))⟩,
  List.forall_mem_cons.mpr ⟨⟨mo_gi _ _ _ _, Or.inl (ok_gi (C := RX4) (T := TX4) (N := 12) (ci := 4) (k := 6) rfl inX4 (by decide) fl_X9_217 (by decide +kernel) (by decide +kernel))⟩,
  List.forall_mem_cons.mpr ⟨⟨mo_al _ _, Or.inl (ok_aload_n (k := 0) rfl (by decide +kernel))⟩,
  List.forall_mem_cons.mpr ⟨⟨mo_gr _ _ _ _, Or.inl (ok_gr (C := RX9) (T := TX9) (N := 20) (ci := 9) (k := 6) rfl inX9 (by decide) fl_X9_21 (by decide +kernel) (by decide +kernel))⟩,
  List.forall_mem_cons.mpr ⟨⟨mo_gi _ _ _ _, Or.inl (ok_gi (C := RX4) (T := TX4) (N := 12) (ci := 4) (k := 2) rfl inX4 (by decide) fl_X9_202 (by decide +kernel) (by decide +kernel))⟩,
  List.forall_mem_cons.mpr ⟨⟨mo_ast _ _ _ _, Or.inl (ok_iast (by decide +kernel))⟩,
  List.forall_mem_cons.mpr ⟨⟨mo_al _ _, Or.inl (ok_aload_n (k := 0) rfl (by decide +kernel))⟩,
  List.forall_mem_cons.mpr ⟨⟨mo_gr _ _ _ _, Or.inl (ok_gr (C := RX9) (T := TX9) (N := 20) (ci := 9) (k := 13) rfl inX9 (by decide) fl_X9_48 (by decide +kernel) (by decide +kernel))⟩,
  fun _ h => absurd h List.not_mem_nil⟩⟩⟩⟩⟩⟩⟩⟩⟩⟩⟩⟩⟩⟩⟩⟩⟩⟩⟩⟩
def t_X9_happen_7 : List (Nat × am_F) := [(286, im_al 0 287), (287, im_gr q_SH 9 6 290), (290, im_gi q_SH 4 6 293), (293, im_al 0 294), (294, im_gr q_SH 9 6 297), (297, im_gi q_SH 4 0 300), (300, im_ast q_SH .int (fun x => x) 301), (301, im_ret0e)]
set_option maxRecDepth 20000 in
theorem o_X9_happen_7 : ∀ q ∈ t_X9_happen_7, am_ok vwCl q_SH ξ (q_E ξ β xs L) q_EN q_KD q_ML (cX9_happen, 3, RX9, "happen", none, []) q.1 q.2 :=
  List.forall_mem_cons.mpr ⟨⟨mo_al _ _, Or.inl (ok_aload_n (k := 0) rfl (by decide +kernel))⟩,
  List.forall_mem_cons.mpr ⟨⟨mo_gr _ _ _ _, Or.inl (ok_gr (C := RX9) (T := TX9) (N := 20) (ci := 9) (k := 6) rfl inX9 (by decide) fl_X9_21 (by decide +kernel) (by decide +kernel))⟩,
  List.forall_mem_cons.mpr ⟨⟨mo_gi _ _ _ _, Or.inl (ok_gi (C := RX4) (T := TX4) (N := 12) (ci := 4) (k := 6) rfl inX4 (by decide) fl_X9_217 (by decide +kernel) (by decide +kernel))⟩,
  List.forall_mem_cons.mpr ⟨⟨mo_al _ _, Or.inl (ok_aload_n (k := 0) rfl (by decide +kernel))⟩,
  List.forall_mem_cons.mpr ⟨⟨mo_gr _ _ _ _, Or.inl (ok_gr (C := RX9) (T := TX9) (N := 20) (ci := 9) (k := 6) rfl inX9 (by decide) fl_X9_21 (by decide +kernel) (by decide +kernel))⟩,
  List.forall_mem_cons.mpr ⟨⟨mo_gi _ _ _ _, Or.inl (ok_gi (C := RX4) (T := TX4) (N := 12) (ci := 4) (k := 0) rfl inX4 (by decide) fl_X9_122 (by decide +kernel) (by decide +kernel))⟩,
  List.forall_mem_cons.mpr ⟨⟨mo_ast _ _ _ _, Or.inl (ok_iast (by decide +kernel))⟩,
  List.forall_mem_cons.mpr ⟨⟨mo_ret0e, Or.inr (Or.inr (ok_ret0 rfl (by decide +kernel)))⟩,
  fun _ h => absurd h List.not_mem_nil⟩⟩⟩⟩⟩⟩⟩⟩
def t_X9_happen : List (Nat × am_F) := t_X9_happen_0 ++ (t_X9_happen_1 ++ (t_X9_happen_2 ++ (t_X9_happen_3 ++ (t_X9_happen_4 ++ (t_X9_happen_5 ++ (t_X9_happen_6 ++ (t_X9_happen_7)))))))
theorem o_X9_happen : ∀ q ∈ t_X9_happen, am_ok vwCl q_SH ξ (q_E ξ β xs L) q_EN q_KD q_ML (cX9_happen, 3, RX9, "happen", none, []) q.1 q.2 := List.forall_mem_append.mpr ⟨o_X9_happen_0, List.forall_mem_append.mpr ⟨o_X9_happen_1, List.forall_mem_append.mpr ⟨o_X9_happen_2, List.forall_mem_append.mpr ⟨o_X9_happen_3, List.forall_mem_append.mpr ⟨o_X9_happen_4, List.forall_mem_append.mpr ⟨o_X9_happen_5, List.forall_mem_append.mpr ⟨o_X9_happen_6, o_X9_happen_7⟩⟩⟩⟩⟩⟩⟩
def t_X9_bear_0 : List (Nat × am_F) := [(0, im_al 0 1), (1, im_gr q_SH 9 9 4), (4, im_il 1 5), (5, im_ald q_SH .int 6), (6, im_ic (-1) 7), (7, im_if2 ic_eq 19 10), (10, im_al 0 11), (11, im_gr q_SH 9 6 14), (14, im_ic 0 15), (15, im_pi q_SH 4 5 18), (18, im_ret0e), (19, im_al 0 20), (20, im_gr q_SH 9 9 23), (23, im_il 1 24), (24, im_al 0 25), (25, im_gr q_SH 9 6 28), (28, im_gi q_SH 4 0 31), (31, im_ast q_SH .int (fun x => x) 32), (32, im_al 0 33), (33, im_gr q_SH 9 10 36)]
set_option maxRecDepth 20000 in
theorem o_X9_bear_0 : ∀ q ∈ t_X9_bear_0, am_ok vwCl q_SH ξ (q_E ξ β xs L) q_EN q_KD q_ML (cX9_bear, 2, RX9, "bear", none, []) q.1 q.2 :=
  List.forall_mem_cons.mpr ⟨⟨mo_al _ _, Or.inl (ok_aload_n (k := 0) rfl (by decide +kernel))⟩,
  List.forall_mem_cons.mpr ⟨⟨mo_gr _ _ _ _, Or.inl (ok_gr (C := RX9) (T := TX9) (N := 20) (ci := 9) (k := 9) rfl inX9 (by decide) fl_X9_36 (by decide +kernel) (by decide +kernel))⟩,
  List.forall_mem_cons.mpr ⟨⟨mo_il _ _, Or.inl (ok_iload_n (k := 1) rfl (by decide +kernel))⟩,
  List.forall_mem_cons.mpr ⟨⟨mo_ald _ _ _, Or.inl (ok_iald (by decide +kernel))⟩,
  List.forall_mem_cons.mpr ⟨⟨mo_ic _ _, Or.inl (ok_iconst (n := (-1)) (v := (-1)) (by decide) (by decide +kernel))⟩,
  List.forall_mem_cons.mpr ⟨⟨mo_if2 _ _ _, Or.inl (ok_icmp_eq (off := 12) (by decide) (by decide +kernel))⟩,
  List.forall_mem_cons.mpr ⟨⟨mo_al _ _, Or.inl (ok_aload_n (k := 0) rfl (by decide +kernel))⟩,
  List.forall_mem_cons.mpr ⟨⟨mo_gr _ _ _ _, Or.inl (ok_gr (C := RX9) (T := TX9) (N := 20) (ci := 9) (k := 6) rfl inX9 (by decide) fl_X9_21 (by decide +kernel) (by decide +kernel))⟩,
  List.forall_mem_cons.mpr ⟨⟨mo_ic _ _, Or.inl (ok_iconst (n := 0) (v := 0) (by decide) (by decide +kernel))⟩,
  List.forall_mem_cons.mpr ⟨⟨mo_pi _ _ _ _, Or.inl (ok_pi (ty := .int) (C := RX4) (T := TX4) (N := 12) (ci := 4) (k := 5) rfl inX4 (by decide) fl_X9_214 (by decide +kernel) tyX4 tyX4_ok nmX4 (by decide +kernel) (by decide +kernel) (by decide +kernel))⟩,
  List.forall_mem_cons.mpr ⟨⟨mo_ret0e, Or.inr (Or.inr (ok_ret0 rfl (by decide +kernel)))⟩,
  List.forall_mem_cons.mpr ⟨⟨mo_al _ _, Or.inl (ok_aload_n (k := 0) rfl (by decide +kernel))⟩,
  List.forall_mem_cons.mpr ⟨⟨mo_gr _ _ _ _, Or.inl (ok_gr (C := RX9) (T := TX9) (N := 20) (ci := 9) (k := 9) rfl inX9 (by decide) fl_X9_36 (by decide +kernel) (by decide +kernel))⟩,
  List.forall_mem_cons.mpr ⟨⟨mo_il _ _, Or.inl (ok_iload_n (k := 1) rfl (by decide +kernel))⟩,
  List.forall_mem_cons.mpr ⟨⟨mo_al _ _, Or.inl (ok_aload_n (k := 0) rfl (by decide +kernel))⟩,
  List.forall_mem_cons.mpr ⟨⟨mo_gr _ _ _ _, Or.inl (ok_gr (C := RX9) (T := TX9) (N := 20) (ci := 9) (k := 6) rfl inX9 (by decide) fl_X9_21 (by decide +kernel) (by decide +kernel))⟩,
  List.forall_mem_cons.mpr ⟨⟨mo_gi _ _ _ _, Or.inl (ok_gi (C := RX4) (T := TX4) (N := 12) (ci := 4) (k := 0) rfl inX4 (by decide) fl_X9_122 (by decide +kernel) (by decide +kernel))⟩,
  List.forall_mem_cons.mpr ⟨⟨mo_ast _ _ _ _, Or.inl (ok_iast (by decide +kernel))⟩,
  List.forall_mem_cons.mpr ⟨⟨mo_al _ _, Or.inl (ok_aload_n (k := 0) rfl (by decide +kernel))⟩,
  List.forall_mem_cons.mpr ⟨⟨mo_gr _ _ _ _, Or.inl (ok_gr (C := RX9) (T := TX9) (N := 20) (ci := 9) (k := 10) rfl inX9 (by decide) fl_X9_39 (by decide +kernel) (by decide +kernel))⟩,
  fun _ h => absurd h List.not_mem_nil⟩⟩⟩⟩⟩⟩⟩⟩⟩⟩⟩⟩⟩⟩⟩⟩⟩⟩⟩⟩
def t_X9_bear_1 : List (Nat × am_F) := [(36, im_il 1 37), (37, im_al 0 38), (38, im_gr q_SH 9 6 41), (41, im_gi q_SH 4 2 44), (44, im_ast q_SH .int (fun x => x) 45), (45, im_ret0e)]
set_option maxRecDepth 20000 in
theorem o_X9_bear_1 : ∀ q ∈ t_X9_bear_1, am_ok vwCl q_SH ξ (q_E ξ β xs L) q_EN q_KD q_ML (cX9_bear, 2, RX9, "bear", none, []) q.1 q.2 :=
  List.forall_mem_cons.mpr ⟨⟨mo_il _ _, Or.inl (ok_iload_n (k := 1) rfl (by decide +kernel))⟩,
  List.forall_mem_cons.mpr ⟨⟨mo_al _ _, Or.inl (ok_aload_n (k := 0) rfl (by decide +kernel))⟩,
  List.forall_mem_cons.mpr ⟨⟨mo_gr _ _ _ _, Or.inl (ok_gr (C := RX9) (T := TX9) (N := 20) (ci := 9) (k := 6) rfl inX9 (by decide) fl_X9_21 (by decide +kernel) (by decide +kernel))⟩,
  List.forall_mem_cons.mpr ⟨⟨mo_gi _ _ _ _, Or.inl (ok_gi (C := RX4) (T := TX4) (N := 12) (ci := 4) (k := 2) rfl inX4 (by decide) fl_X9_202 (by decide +kernel) (by decide +kernel))⟩,
  List.forall_mem_cons.mpr ⟨⟨mo_ast _ _ _ _, Or.inl (ok_iast (by decide +kernel))⟩,
  List.forall_mem_cons.mpr ⟨⟨mo_ret0e, Or.inr (Or.inr (ok_ret0 rfl (by decide +kernel)))⟩,
  fun _ h => absurd h List.not_mem_nil⟩⟩⟩⟩⟩⟩
def t_X9_bear : List (Nat × am_F) := t_X9_bear_0 ++ (t_X9_bear_1)
theorem o_X9_bear : ∀ q ∈ t_X9_bear, am_ok vwCl q_SH ξ (q_E ξ β xs L) q_EN q_KD q_ML (cX9_bear, 2, RX9, "bear", none, []) q.1 q.2 := List.forall_mem_append.mpr ⟨o_X9_bear_0, o_X9_bear_1⟩
def t_X9_wed_0 : List (Nat × am_F) := [(0, im_al 0 1), (1, im_gr q_SH 9 11 4), (4, im_il 1 5), (5, im_il 2 6), (6, im_ast q_SH .int (fun x => x) 7), (7, im_al 0 8), (8, im_gr q_SH 9 11 11), (11, im_il 2 12), (12, im_il 1 13), (13, im_ast q_SH .int (fun x => x) 14), (14, im_al 0 15), (15, im_gr q_SH 9 6 18), (18, im_al 0 19), (19, im_gr q_SH 9 8 22), (22, im_il 1 23), (23, im_ald q_SH .int 24), (24, im_pi q_SH 4 8 27), (27, im_al 0 28), (28, im_gr q_SH 9 6 31), (31, im_al 0 32)]
set_option maxRecDepth 20000 in
theorem o_X9_wed_0 : ∀ q ∈ t_X9_wed_0, am_ok vwCl q_SH ξ (q_E ξ β xs L) q_EN q_KD q_ML (cX9_wed, 3, RX9, "wed", none, []) q.1 q.2 :=
  List.forall_mem_cons.mpr ⟨⟨mo_al _ _, Or.inl (ok_aload_n (k := 0) rfl (by decide +kernel))⟩,
  List.forall_mem_cons.mpr ⟨⟨mo_gr _ _ _ _, Or.inl (ok_gr (C := RX9) (T := TX9) (N := 20) (ci := 9) (k := 11) rfl inX9 (by decide) fl_X9_42 (by decide +kernel) (by decide +kernel))⟩,
  List.forall_mem_cons.mpr ⟨⟨mo_il _ _, Or.inl (ok_iload_n (k := 1) rfl (by decide +kernel))⟩,
  List.forall_mem_cons.mpr ⟨⟨mo_il _ _, Or.inl (ok_iload_n (k := 2) rfl (by decide +kernel))⟩,
  List.forall_mem_cons.mpr ⟨⟨mo_ast _ _ _ _, Or.inl (ok_iast (by decide +kernel))⟩,
  List.forall_mem_cons.mpr ⟨⟨mo_al _ _, Or.inl (ok_aload_n (k := 0) rfl (by decide +kernel))⟩,
  List.forall_mem_cons.mpr ⟨⟨mo_gr _ _ _ _, Or.inl (ok_gr (C := RX9) (T := TX9) (N := 20) (ci := 9) (k := 11) rfl inX9 (by decide) fl_X9_42 (by decide +kernel) (by decide +kernel))⟩,
  List.forall_mem_cons.mpr ⟨⟨mo_il _ _, Or.inl (ok_iload_n (k := 2) rfl (by decide +kernel))⟩,
  List.forall_mem_cons.mpr ⟨⟨mo_il _ _, Or.inl (ok_iload_n (k := 1) rfl (by decide +kernel))⟩,
  List.forall_mem_cons.mpr ⟨⟨mo_ast _ _ _ _, Or.inl (ok_iast (by decide +kernel))⟩,
  List.forall_mem_cons.mpr ⟨⟨mo_al _ _, Or.inl (ok_aload_n (k := 0) rfl (by decide +kernel))⟩,
  List.forall_mem_cons.mpr ⟨⟨mo_gr _ _ _ _, Or.inl (ok_gr (C := RX9) (T := TX9) (N := 20) (ci := 9) (k := 6) rfl inX9 (by decide) fl_X9_21 (by decide +kernel) (by decide +kernel))⟩,
  List.forall_mem_cons.mpr ⟨⟨mo_al _ _, Or.inl (ok_aload_n (k := 0) rfl (by decide +kernel))⟩,
  List.forall_mem_cons.mpr ⟨⟨mo_gr _ _ _ _, Or.inl (ok_gr (C := RX9) (T := TX9) (N := 20) (ci := 9) (k := 8) rfl inX9 (by decide) fl_X9_32 (by decide +kernel) (by decide +kernel))⟩,
  List.forall_mem_cons.mpr ⟨⟨mo_il _ _, Or.inl (ok_iload_n (k := 1) rfl (by decide +kernel))⟩,
  List.forall_mem_cons.mpr ⟨⟨mo_ald _ _ _, Or.inl (ok_iald (by decide +kernel))⟩,
  List.forall_mem_cons.mpr ⟨⟨mo_pi _ _ _ _, Or.inl (ok_pi (ty := .int) (C := RX4) (T := TX4) (N := 12) (ci := 4) (k := 8) rfl inX4 (by decide) fl_X9_246 (by decide +kernel) tyX4 tyX4_ok nmX4 (by decide +kernel) (by decide +kernel) (by decide +kernel))⟩,
  List.forall_mem_cons.mpr ⟨⟨mo_al _ _, Or.inl (ok_aload_n (k := 0) rfl (by decide +kernel))⟩,
  List.forall_mem_cons.mpr ⟨⟨mo_gr _ _ _ _, Or.inl (ok_gr (C := RX9) (T := TX9) (N := 20) (ci := 9) (k := 6) rfl inX9 (by decide) fl_X9_21 (by decide +kernel) (by decide +kernel))⟩,
  List.forall_mem_cons.mpr ⟨⟨mo_al _ _, Or.inl (ok_aload_n (k := 0) rfl (by decide +kernel))⟩,
  fun _ h => absurd h List.not_mem_nil⟩⟩⟩⟩⟩⟩⟩⟩⟩⟩⟩⟩⟩⟩⟩⟩⟩⟩⟩⟩
def t_X9_wed_1 : List (Nat × am_F) := [(32, im_gr q_SH 9 8 35), (35, im_il 2 36), (36, im_ald q_SH .int 37), (37, im_pi q_SH 4 9 40), (40, im_ret0e)]
set_option maxRecDepth 20000 in
theorem o_X9_wed_1 : ∀ q ∈ t_X9_wed_1, am_ok vwCl q_SH ξ (q_E ξ β xs L) q_EN q_KD q_ML (cX9_wed, 3, RX9, "wed", none, []) q.1 q.2 :=
  List.forall_mem_cons.mpr ⟨⟨mo_gr _ _ _ _, Or.inl (ok_gr (C := RX9) (T := TX9) (N := 20) (ci := 9) (k := 8) rfl inX9 (by decide) fl_X9_32 (by decide +kernel) (by decide +kernel))⟩,
  List.forall_mem_cons.mpr ⟨⟨mo_il _ _, Or.inl (ok_iload_n (k := 2) rfl (by decide +kernel))⟩,
  List.forall_mem_cons.mpr ⟨⟨mo_ald _ _ _, Or.inl (ok_iald (by decide +kernel))⟩,
  List.forall_mem_cons.mpr ⟨⟨mo_pi _ _ _ _, Or.inl (ok_pi (ty := .int) (C := RX4) (T := TX4) (N := 12) (ci := 4) (k := 9) rfl inX4 (by decide) fl_X9_249 (by decide +kernel) tyX4 tyX4_ok nmX4 (by decide +kernel) (by decide +kernel) (by decide +kernel))⟩,
  List.forall_mem_cons.mpr ⟨⟨mo_ret0e, Or.inr (Or.inr (ok_ret0 rfl (by decide +kernel)))⟩,
  fun _ h => absurd h List.not_mem_nil⟩⟩⟩⟩⟩
def t_X9_wed : List (Nat × am_F) := t_X9_wed_0 ++ (t_X9_wed_1)
theorem o_X9_wed : ∀ q ∈ t_X9_wed, am_ok vwCl q_SH ξ (q_E ξ β xs L) q_EN q_KD q_ML (cX9_wed, 3, RX9, "wed", none, []) q.1 q.2 := List.forall_mem_append.mpr ⟨o_X9_wed_0, o_X9_wed_1⟩
def t_X9_countAsked_0 : List (Nat × am_F) := [(0, im_al 0 1), (1, im_gr q_SH 9 6 4), (4, im_gi q_SH 4 5 7), (7, im_if1 ib_ne 12 10), (10, im_ic 0 11), (11, im_reti), (12, im_al 0 13), (13, im_gr q_SH 9 6 16), (16, im_gi q_SH 4 6 19), (19, im_ic (-1) 20), (20, im_if2 ic_ne 31 23), (23, im_al 0 24), (24, im_gr q_SH 9 0 27), (27, im_gi q_SH 7 3 30), (30, im_reti), (31, im_al 0 32), (32, im_gr q_SH 9 6 35), (35, im_gi q_SH 4 7 38), (38, im_ic (-1) 39), (39, im_if2 ic_ne 46 42)]
set_option maxRecDepth 20000 in
theorem o_X9_countAsked_0 : ∀ q ∈ t_X9_countAsked_0, am_ok vwCl q_SH ξ (q_E ξ β xs L) q_EN q_KD q_ML (cX9_countAsked, 1, RX9, "countAsked", (some .int), []) q.1 q.2 :=
  List.forall_mem_cons.mpr ⟨⟨mo_al _ _, Or.inl (ok_aload_n (k := 0) rfl (by decide +kernel))⟩,
  List.forall_mem_cons.mpr ⟨⟨mo_gr _ _ _ _, Or.inl (ok_gr (C := RX9) (T := TX9) (N := 20) (ci := 9) (k := 6) rfl inX9 (by decide) fl_X9_21 (by decide +kernel) (by decide +kernel))⟩,
  List.forall_mem_cons.mpr ⟨⟨mo_gi _ _ _ _, Or.inl (ok_gi (C := RX4) (T := TX4) (N := 12) (ci := 4) (k := 5) rfl inX4 (by decide) fl_X9_214 (by decide +kernel) (by decide +kernel))⟩,
  List.forall_mem_cons.mpr ⟨⟨mo_if1 _ _ _, Or.inl (ok_if_ne (off := 5) (by decide) (by decide +kernel))⟩,
  List.forall_mem_cons.mpr ⟨⟨mo_ic _ _, Or.inl (ok_iconst (n := 0) (v := 0) (by decide) (by decide +kernel))⟩,
  List.forall_mem_cons.mpr ⟨⟨mo_reti, Or.inr (Or.inr (ok_reti rfl (by decide +kernel)))⟩,
  List.forall_mem_cons.mpr ⟨⟨mo_al _ _, Or.inl (ok_aload_n (k := 0) rfl (by decide +kernel))⟩,
  List.forall_mem_cons.mpr ⟨⟨mo_gr _ _ _ _, Or.inl (ok_gr (C := RX9) (T := TX9) (N := 20) (ci := 9) (k := 6) rfl inX9 (by decide) fl_X9_21 (by decide +kernel) (by decide +kernel))⟩,
  List.forall_mem_cons.mpr ⟨⟨mo_gi _ _ _ _, Or.inl (ok_gi (C := RX4) (T := TX4) (N := 12) (ci := 4) (k := 6) rfl inX4 (by decide) fl_X9_217 (by decide +kernel) (by decide +kernel))⟩,
  List.forall_mem_cons.mpr ⟨⟨mo_ic _ _, Or.inl (ok_iconst (n := (-1)) (v := (-1)) (by decide) (by decide +kernel))⟩,
  List.forall_mem_cons.mpr ⟨⟨mo_if2 _ _ _, Or.inl (ok_icmp_ne (off := 11) (by decide) (by decide +kernel))⟩,
  List.forall_mem_cons.mpr ⟨⟨mo_al _ _, Or.inl (ok_aload_n (k := 0) rfl (by decide +kernel))⟩,
  List.forall_mem_cons.mpr ⟨⟨mo_gr _ _ _ _, Or.inl (ok_gr (C := RX9) (T := TX9) (N := 20) (ci := 9) (k := 0) rfl inX9 (by decide) fl_X9_67 (by decide +kernel) (by decide +kernel))⟩,
  List.forall_mem_cons.mpr ⟨⟨mo_gi _ _ _ _, Or.inl (ok_gi (C := RX7) (T := TX7) (N := 4) (ci := 7) (k := 3) rfl inX7 (by decide) fl_X9_151 (by decide +kernel) (by decide +kernel))⟩,
  List.forall_mem_cons.mpr ⟨⟨mo_reti, Or.inr (Or.inr (ok_reti rfl (by decide +kernel)))⟩,
  List.forall_mem_cons.mpr ⟨⟨mo_al _ _, Or.inl (ok_aload_n (k := 0) rfl (by decide +kernel))⟩,
  List.forall_mem_cons.mpr ⟨⟨mo_gr _ _ _ _, Or.inl (ok_gr (C := RX9) (T := TX9) (N := 20) (ci := 9) (k := 6) rfl inX9 (by decide) fl_X9_21 (by decide +kernel) (by decide +kernel))⟩,
  List.forall_mem_cons.mpr ⟨⟨mo_gi _ _ _ _, Or.inl (ok_gi (C := RX4) (T := TX4) (N := 12) (ci := 4) (k := 7) rfl inX4 (by decide) fl_X9_220 (by decide +kernel) (by decide +kernel))⟩,
  List.forall_mem_cons.mpr ⟨⟨mo_ic _ _, Or.inl (ok_iconst (n := (-1)) (v := (-1)) (by decide) (by decide +kernel))⟩,
  List.forall_mem_cons.mpr ⟨⟨mo_if2 _ _ _, Or.inl (ok_icmp_ne (off := 7) (by decide) (by decide +kernel))⟩,
  fun _ h => absurd h List.not_mem_nil⟩⟩⟩⟩⟩⟩⟩⟩⟩⟩⟩⟩⟩⟩⟩⟩⟩⟩⟩⟩
def t_X9_countAsked_1 : List (Nat × am_F) := [(42, im_ic 1 43), (43, im_go 47), (46, im_ic 2 47), (47, im_reti)]
set_option maxRecDepth 20000 in
theorem o_X9_countAsked_1 : ∀ q ∈ t_X9_countAsked_1, am_ok vwCl q_SH ξ (q_E ξ β xs L) q_EN q_KD q_ML (cX9_countAsked, 1, RX9, "countAsked", (some .int), []) q.1 q.2 :=
  List.forall_mem_cons.mpr ⟨⟨mo_ic _ _, Or.inl (ok_iconst (n := 1) (v := 1) (by decide) (by decide +kernel))⟩,
  List.forall_mem_cons.mpr ⟨⟨mo_go _, Or.inl (ok_goto (off := 4) (by decide) (by decide +kernel))⟩,
  List.forall_mem_cons.mpr ⟨⟨mo_ic _ _, Or.inl (ok_iconst (n := 2) (v := 2) (by decide) (by decide +kernel))⟩,
  List.forall_mem_cons.mpr ⟨⟨mo_reti, Or.inr (Or.inr (ok_reti rfl (by decide +kernel)))⟩,
  fun _ h => absurd h List.not_mem_nil⟩⟩⟩⟩
def t_X9_countAsked : List (Nat × am_F) := t_X9_countAsked_0 ++ (t_X9_countAsked_1)
theorem o_X9_countAsked : ∀ q ∈ t_X9_countAsked, am_ok vwCl q_SH ξ (q_E ξ β xs L) q_EN q_KD q_ML (cX9_countAsked, 1, RX9, "countAsked", (some .int), []) q.1 q.2 := List.forall_mem_append.mpr ⟨o_X9_countAsked_0, o_X9_countAsked_1⟩
def t_X9_askedAt_0 : List (Nat × am_F) := [(0, im_al 0 1), (1, im_gr q_SH 9 6 4), (4, im_gi q_SH 4 6 7), (7, im_ic (-1) 8), (8, im_if2 ic_ne 13 11), (11, im_il 1 12), (12, im_reti), (13, im_il 1 14), (14, im_if1 ib_ne 27 17), (17, im_al 0 18), (18, im_gr q_SH 9 6 21), (21, im_gi q_SH 4 6 24), (24, im_go 34), (27, im_al 0 28), (28, im_gr q_SH 9 6 31), (31, im_gi q_SH 4 7 34), (34, im_reti)]
set_option maxRecDepth 20000 in
theorem o_X9_askedAt_0 : ∀ q ∈ t_X9_askedAt_0, am_ok vwCl q_SH ξ (q_E ξ β xs L) q_EN q_KD q_ML (cX9_askedAt, 2, RX9, "askedAt", (some .int), []) q.1 q.2 :=
  List.forall_mem_cons.mpr ⟨⟨mo_al _ _, Or.inl (ok_aload_n (k := 0) rfl (by decide +kernel))⟩,
  List.forall_mem_cons.mpr ⟨⟨mo_gr _ _ _ _, Or.inl (ok_gr (C := RX9) (T := TX9) (N := 20) (ci := 9) (k := 6) rfl inX9 (by decide) fl_X9_21 (by decide +kernel) (by decide +kernel))⟩,
  List.forall_mem_cons.mpr ⟨⟨mo_gi _ _ _ _, Or.inl (ok_gi (C := RX4) (T := TX4) (N := 12) (ci := 4) (k := 6) rfl inX4 (by decide) fl_X9_217 (by decide +kernel) (by decide +kernel))⟩,
  List.forall_mem_cons.mpr ⟨⟨mo_ic _ _, Or.inl (ok_iconst (n := (-1)) (v := (-1)) (by decide) (by decide +kernel))⟩,
  List.forall_mem_cons.mpr ⟨⟨mo_if2 _ _ _, Or.inl (ok_icmp_ne (off := 5) (by decide) (by decide +kernel))⟩,
  List.forall_mem_cons.mpr ⟨⟨mo_il _ _, Or.inl (ok_iload_n (k := 1) rfl (by decide +kernel))⟩,
  List.forall_mem_cons.mpr ⟨⟨mo_reti, Or.inr (Or.inr (ok_reti rfl (by decide +kernel)))⟩,
  List.forall_mem_cons.mpr ⟨⟨mo_il _ _, Or.inl (ok_iload_n (k := 1) rfl (by decide +kernel))⟩,
  List.forall_mem_cons.mpr ⟨⟨mo_if1 _ _ _, Or.inl (ok_if_ne (off := 13) (by decide) (by decide +kernel))⟩,
  List.forall_mem_cons.mpr ⟨⟨mo_al _ _, Or.inl (ok_aload_n (k := 0) rfl (by decide +kernel))⟩,
  List.forall_mem_cons.mpr ⟨⟨mo_gr _ _ _ _, Or.inl (ok_gr (C := RX9) (T := TX9) (N := 20) (ci := 9) (k := 6) rfl inX9 (by decide) fl_X9_21 (by decide +kernel) (by decide +kernel))⟩,
  List.forall_mem_cons.mpr ⟨⟨mo_gi _ _ _ _, Or.inl (ok_gi (C := RX4) (T := TX4) (N := 12) (ci := 4) (k := 6) rfl inX4 (by decide) fl_X9_217 (by decide +kernel) (by decide +kernel))⟩,
  List.forall_mem_cons.mpr ⟨⟨mo_go _, Or.inl (ok_goto (off := 10) (by decide) (by decide +kernel))⟩,
  List.forall_mem_cons.mpr ⟨⟨mo_al _ _, Or.inl (ok_aload_n (k := 0) rfl (by decide +kernel))⟩,
  List.forall_mem_cons.mpr ⟨⟨mo_gr _ _ _ _, Or.inl (ok_gr (C := RX9) (T := TX9) (N := 20) (ci := 9) (k := 6) rfl inX9 (by decide) fl_X9_21 (by decide +kernel) (by decide +kernel))⟩,
  List.forall_mem_cons.mpr ⟨⟨mo_gi _ _ _ _, Or.inl (ok_gi (C := RX4) (T := TX4) (N := 12) (ci := 4) (k := 7) rfl inX4 (by decide) fl_X9_220 (by decide +kernel) (by decide +kernel))⟩,
  List.forall_mem_cons.mpr ⟨⟨mo_reti, Or.inr (Or.inr (ok_reti rfl (by decide +kernel)))⟩,
  fun _ h => absurd h List.not_mem_nil⟩⟩⟩⟩⟩⟩⟩⟩⟩⟩⟩⟩⟩⟩⟩⟩⟩
def t_X9_askedAt : List (Nat × am_F) := t_X9_askedAt_0
theorem o_X9_askedAt : ∀ q ∈ t_X9_askedAt, am_ok vwCl q_SH ξ (q_E ξ β xs L) q_EN q_KD q_ML (cX9_askedAt, 2, RX9, "askedAt", (some .int), []) q.1 q.2 := o_X9_askedAt_0
def t_X9_ask_0 : List (Nat × am_F) := [(0, im_al 0 1), (1, im_gr q_SH 9 6 4), (4, im_gi q_SH 4 10 7), (7, im_is 2 8), (8, im_il 2 9), (9, im_al 0 10), (10, im_gr q_SH 9 6 13), (13, im_gi q_SH 4 11 16), (16, im_if2 ic_gt 42 19), (19, im_il 2 20), (20, im_ic 5 21), (21, im_if2 ic_ge 42 24), (24, im_al 0 25), (25, im_gr q_SH 9 16 28), (28, im_il 2 29), (29, im_al 0 30), (30, im_il 1 31), (31, im_il 2 32), (32, im_inv q_SH 9 63 2 35), (35, im_ast q_SH .int (fun x => x) 36)]
set_option maxRecDepth 20000 in
theorem o_X9_ask_0 : ∀ q ∈ t_X9_ask_0, am_ok vwCl q_SH ξ (q_E ξ β xs L) q_EN q_KD q_ML (cX9_ask, 3, RX9, "ask", none, []) q.1 q.2 :=
  List.forall_mem_cons.mpr ⟨⟨mo_al _ _, Or.inl (ok_aload_n (k := 0) rfl (by decide +kernel))⟩,
  List.forall_mem_cons.mpr ⟨⟨mo_gr _ _ _ _, Or.inl (ok_gr (C := RX9) (T := TX9) (N := 20) (ci := 9) (k := 6) rfl inX9 (by decide) fl_X9_21 (by decide +kernel) (by decide +kernel))⟩,
  List.forall_mem_cons.mpr ⟨⟨mo_gi _ _ _ _, Or.inl (ok_gi (C := RX4) (T := TX4) (N := 12) (ci := 4) (k := 10) rfl inX4 (by decide) fl_X9_223 (by decide +kernel) (by decide +kernel))⟩,
  List.forall_mem_cons.mpr ⟨⟨mo_is _ _, Or.inl (ok_istore_n (k := 2) rfl (by decide) (by decide +kernel))⟩,
  List.forall_mem_cons.mpr ⟨⟨mo_il _ _, Or.inl (ok_iload_n (k := 2) rfl (by decide +kernel))⟩,
  List.forall_mem_cons.mpr ⟨⟨mo_al _ _, Or.inl (ok_aload_n (k := 0) rfl (by decide +kernel))⟩,
  List.forall_mem_cons.mpr ⟨⟨mo_gr _ _ _ _, Or.inl (ok_gr (C := RX9) (T := TX9) (N := 20) (ci := 9) (k := 6) rfl inX9 (by decide) fl_X9_21 (by decide +kernel) (by decide +kernel))⟩,
  List.forall_mem_cons.mpr ⟨⟨mo_gi _ _ _ _, Or.inl (ok_gi (C := RX4) (T := TX4) (N := 12) (ci := 4) (k := 11) rfl inX4 (by decide) fl_X9_225 (by decide +kernel) (by decide +kernel))⟩,
  List.forall_mem_cons.mpr ⟨⟨mo_if2 _ _ _, Or.inl (ok_icmp_gt (off := 26) (by decide) (by decide +kernel))⟩,
  List.forall_mem_cons.mpr ⟨⟨mo_il _ _, Or.inl (ok_iload_n (k := 2) rfl (by decide +kernel))⟩,
  List.forall_mem_cons.mpr ⟨⟨mo_ic _ _, Or.inl (ok_iconst (n := 5) (v := 5) (by decide) (by decide +kernel))⟩,
  List.forall_mem_cons.mpr ⟨⟨mo_if2 _ _ _, Or.inl (ok_icmp_ge (off := 21) (by decide) (by decide +kernel))⟩,
  List.forall_mem_cons.mpr ⟨⟨mo_al _ _, Or.inl (ok_aload_n (k := 0) rfl (by decide +kernel))⟩,
  List.forall_mem_cons.mpr ⟨⟨mo_gr _ _ _ _, Or.inl (ok_gr (C := RX9) (T := TX9) (N := 20) (ci := 9) (k := 16) rfl inX9 (by decide) fl_X9_57 (by decide +kernel) (by decide +kernel))⟩,
  List.forall_mem_cons.mpr ⟨⟨mo_il _ _, Or.inl (ok_iload_n (k := 2) rfl (by decide +kernel))⟩,
  List.forall_mem_cons.mpr ⟨⟨mo_al _ _, Or.inl (ok_aload_n (k := 0) rfl (by decide +kernel))⟩,
  List.forall_mem_cons.mpr ⟨⟨mo_il _ _, Or.inl (ok_iload_n (k := 1) rfl (by decide +kernel))⟩,
  List.forall_mem_cons.mpr ⟨⟨mo_il _ _, Or.inl (ok_iload_n (k := 2) rfl (by decide +kernel))⟩,
  List.forall_mem_cons.mpr ⟨⟨mo_inv _ _ _ _ _, Or.inr (Or.inl (ok_inv (T := TX9) (N := 20) rfl cw_X9_choose (by decide) (by decide) ml_X9_252 ci_X9_choose cv_X9_choose (show Cond.initialized (yX9_choose).cls ∈ am_ts from ci9_RX9) ⟨by decide +kernel, by decide +kernel, by decide +kernel⟩ rfl (by decide +kernel)))⟩,
  List.forall_mem_cons.mpr ⟨⟨mo_ast _ _ _ _, Or.inl (ok_iast (by decide +kernel))⟩,
  fun _ h => absurd h List.not_mem_nil⟩⟩⟩⟩⟩⟩⟩⟩⟩⟩⟩⟩⟩⟩⟩⟩⟩⟩⟩⟩
def t_X9_ask_1 : List (Nat × am_F) := [(36, im_iinc 2 1 39), (39, im_go 8), (42, im_al 0 43), (43, im_gr q_SH 9 6 46), (46, im_gi q_SH 4 10 49), (49, im_is 2 50), (50, im_il 2 51), (51, im_al 0 52), (52, im_gr q_SH 9 6 55), (55, im_gi q_SH 4 11 58), (58, im_if2 ic_gt 94 61), (61, im_il 2 62), (62, im_ic 5 63), (63, im_if2 ic_ge 94 66), (66, im_al 0 67), (67, im_gr q_SH 9 16 70), (70, im_il 2 71), (71, im_ald q_SH .int 72), (72, im_ic (-1) 73), (73, im_if2 ic_eq 88 76)]
set_option maxRecDepth 20000 in
theorem o_X9_ask_1 : ∀ q ∈ t_X9_ask_1, am_ok vwCl q_SH ξ (q_E ξ β xs L) q_EN q_KD q_ML (cX9_ask, 3, RX9, "ask", none, []) q.1 q.2 :=
  List.forall_mem_cons.mpr ⟨⟨mo_iinc _ _ _, Or.inl (ok_iinc (n := 1) (v := 1) (by decide) (by decide) (by decide +kernel))⟩,
  List.forall_mem_cons.mpr ⟨⟨mo_go _, Or.inl (ok_goto (off := (-31)) (by decide) (by decide +kernel))⟩,
  List.forall_mem_cons.mpr ⟨⟨mo_al _ _, Or.inl (ok_aload_n (k := 0) rfl (by decide +kernel))⟩,
  List.forall_mem_cons.mpr ⟨⟨mo_gr _ _ _ _, Or.inl (ok_gr (C := RX9) (T := TX9) (N := 20) (ci := 9) (k := 6) rfl inX9 (by decide) fl_X9_21 (by decide +kernel) (by decide +kernel))⟩,
  List.forall_mem_cons.mpr ⟨⟨mo_gi _ _ _ _, Or.inl (ok_gi (C := RX4) (T := TX4) (N := 12) (ci := 4) (k := 10) rfl inX4 (by decide) fl_X9_223 (by decide +kernel) (by decide +kernel))⟩,
  List.forall_mem_cons.mpr ⟨⟨mo_is _ _, Or.inl (ok_istore_n (k := 2) rfl (by decide) (by decide +kernel))⟩,
  List.forall_mem_cons.mpr ⟨⟨mo_il _ _, Or.inl (ok_iload_n (k := 2) rfl (by decide +kernel))⟩,
  List.forall_mem_cons.mpr ⟨⟨mo_al _ _, Or.inl (ok_aload_n (k := 0) rfl (by decide +kernel))⟩,
  List.forall_mem_cons.mpr ⟨⟨mo_gr _ _ _ _, Or.inl (ok_gr (C := RX9) (T := TX9) (N := 20) (ci := 9) (k := 6) rfl inX9 (by decide) fl_X9_21 (by decide +kernel) (by decide +kernel))⟩,
  List.forall_mem_cons.mpr ⟨⟨mo_gi _ _ _ _, Or.inl (ok_gi (C := RX4) (T := TX4) (N := 12) (ci := 4) (k := 11) rfl inX4 (by decide) fl_X9_225 (by decide +kernel) (by decide +kernel))⟩,
  List.forall_mem_cons.mpr ⟨⟨mo_if2 _ _ _, Or.inl (ok_icmp_gt (off := 36) (by decide) (by decide +kernel))⟩,
  List.forall_mem_cons.mpr ⟨⟨mo_il _ _, Or.inl (ok_iload_n (k := 2) rfl (by decide +kernel))⟩,
  List.forall_mem_cons.mpr ⟨⟨mo_ic _ _, Or.inl (ok_iconst (n := 5) (v := 5) (by decide) (by decide +kernel))⟩,
  List.forall_mem_cons.mpr ⟨⟨mo_if2 _ _ _, Or.inl (ok_icmp_ge (off := 31) (by decide) (by decide +kernel))⟩,
  List.forall_mem_cons.mpr ⟨⟨mo_al _ _, Or.inl (ok_aload_n (k := 0) rfl (by decide +kernel))⟩,
  List.forall_mem_cons.mpr ⟨⟨mo_gr _ _ _ _, Or.inl (ok_gr (C := RX9) (T := TX9) (N := 20) (ci := 9) (k := 16) rfl inX9 (by decide) fl_X9_57 (by decide +kernel) (by decide +kernel))⟩,
  List.forall_mem_cons.mpr ⟨⟨mo_il _ _, Or.inl (ok_iload_n (k := 2) rfl (by decide +kernel))⟩,
  List.forall_mem_cons.mpr ⟨⟨mo_ald _ _ _, Or.inl (ok_iald (by decide +kernel))⟩,
  List.forall_mem_cons.mpr ⟨⟨mo_ic _ _, Or.inl (ok_iconst (n := (-1)) (v := (-1)) (by decide) (by decide +kernel))⟩,
  List.forall_mem_cons.mpr ⟨⟨mo_if2 _ _ _, Or.inl (ok_icmp_eq (off := 15) (by decide) (by decide +kernel))⟩,
  fun _ h => absurd h List.not_mem_nil⟩⟩⟩⟩⟩⟩⟩⟩⟩⟩⟩⟩⟩⟩⟩⟩⟩⟩⟩⟩
def t_X9_ask_2 : List (Nat × am_F) := [(76, im_al 0 77), (77, im_il 1 78), (78, im_il 2 79), (79, im_al 0 80), (80, im_gr q_SH 9 16 83), (83, im_il 2 84), (84, im_ald q_SH .int 85), (85, im_inv q_SH 9 67 3 88), (88, im_iinc 2 1 91), (91, im_go 50), (94, im_ret0e)]
set_option maxRecDepth 20000 in
theorem o_X9_ask_2 : ∀ q ∈ t_X9_ask_2, am_ok vwCl q_SH ξ (q_E ξ β xs L) q_EN q_KD q_ML (cX9_ask, 3, RX9, "ask", none, []) q.1 q.2 :=
  List.forall_mem_cons.mpr ⟨⟨mo_al _ _, Or.inl (ok_aload_n (k := 0) rfl (by decide +kernel))⟩,
  List.forall_mem_cons.mpr ⟨⟨mo_il _ _, Or.inl (ok_iload_n (k := 1) rfl (by decide +kernel))⟩,
  List.forall_mem_cons.mpr ⟨⟨mo_il _ _, Or.inl (ok_iload_n (k := 2) rfl (by decide +kernel))⟩,
  List.forall_mem_cons.mpr ⟨⟨mo_al _ _, Or.inl (ok_aload_n (k := 0) rfl (by decide +kernel))⟩,
  List.forall_mem_cons.mpr ⟨⟨mo_gr _ _ _ _, Or.inl (ok_gr (C := RX9) (T := TX9) (N := 20) (ci := 9) (k := 16) rfl inX9 (by decide) fl_X9_57 (by decide +kernel) (by decide +kernel))⟩,
  List.forall_mem_cons.mpr ⟨⟨mo_il _ _, Or.inl (ok_iload_n (k := 2) rfl (by decide +kernel))⟩,
  List.forall_mem_cons.mpr ⟨⟨mo_ald _ _ _, Or.inl (ok_iald (by decide +kernel))⟩,
  List.forall_mem_cons.mpr ⟨⟨mo_inv _ _ _ _ _, Or.inr (Or.inl (ok_inv (T := TX9) (N := 20) rfl cw_X9_change (by decide) (by decide) ml_X9_255 ci_X9_change cv_X9_change (show Cond.initialized (yX9_change).cls ∈ am_ts from ci9_RX9) ⟨by decide +kernel, by decide +kernel, by decide +kernel⟩ rfl (by decide +kernel)))⟩,
  List.forall_mem_cons.mpr ⟨⟨mo_iinc _ _ _, Or.inl (ok_iinc (n := 1) (v := 1) (by decide) (by decide) (by decide +kernel))⟩,
  List.forall_mem_cons.mpr ⟨⟨mo_go _, Or.inl (ok_goto (off := (-41)) (by decide) (by decide +kernel))⟩,
  List.forall_mem_cons.mpr ⟨⟨mo_ret0e, Or.inr (Or.inr (ok_ret0 rfl (by decide +kernel)))⟩,
  fun _ h => absurd h List.not_mem_nil⟩⟩⟩⟩⟩⟩⟩⟩⟩⟩⟩
def t_X9_ask : List (Nat × am_F) := t_X9_ask_0 ++ (t_X9_ask_1 ++ (t_X9_ask_2))
theorem o_X9_ask : ∀ q ∈ t_X9_ask, am_ok vwCl q_SH ξ (q_E ξ β xs L) q_EN q_KD q_ML (cX9_ask, 3, RX9, "ask", none, []) q.1 q.2 := List.forall_mem_append.mpr ⟨o_X9_ask_0, List.forall_mem_append.mpr ⟨o_X9_ask_1, o_X9_ask_2⟩⟩
def t_X9_choose_0 : List (Nat × am_F) := [(0, im_al 0 1), (1, im_gr q_SH 9 8 4), (4, im_il 1 5), (5, im_ald q_SH .int 6), (6, im_il 2 7), (7, im_bin (fun x y => x >>> (y &&& 31)) 8), (8, im_ic 1 9), (9, im_bin (fun x y => x &&& y) 10), (10, im_ic 1 11), (11, im_if2 ic_ne 18 14), (14, im_ic 1 15), (15, im_go 19), (18, im_ic 0 19), (19, im_is 3 20), (20, im_ic 0 21), (21, im_is 4 23), (23, im_il 4 25), (25, im_al 0 26), (26, im_gr q_SH 9 3 29), (29, im_gi q_SH 0 15 32)]
set_option maxRecDepth 20000 in
theorem o_X9_choose_0 : ∀ q ∈ t_X9_choose_0, am_ok vwCl q_SH ξ (q_E ξ β xs L) q_EN q_KD q_ML (cX9_choose, 8, RX9, "choose", (some .int), []) q.1 q.2 :=
  List.forall_mem_cons.mpr ⟨⟨mo_al _ _, Or.inl (ok_aload_n (k := 0) rfl (by decide +kernel))⟩,
  List.forall_mem_cons.mpr ⟨⟨mo_gr _ _ _ _, Or.inl (ok_gr (C := RX9) (T := TX9) (N := 20) (ci := 9) (k := 8) rfl inX9 (by decide) fl_X9_32 (by decide +kernel) (by decide +kernel))⟩,
  List.forall_mem_cons.mpr ⟨⟨mo_il _ _, Or.inl (ok_iload_n (k := 1) rfl (by decide +kernel))⟩,
  List.forall_mem_cons.mpr ⟨⟨mo_ald _ _ _, Or.inl (ok_iald (by decide +kernel))⟩,
  List.forall_mem_cons.mpr ⟨⟨mo_il _ _, Or.inl (ok_iload_n (k := 2) rfl (by decide +kernel))⟩,
  List.forall_mem_cons.mpr ⟨⟨mo_bin _ _, Or.inl (ok_ishr (by decide +kernel))⟩,
  List.forall_mem_cons.mpr ⟨⟨mo_ic _ _, Or.inl (ok_iconst (n := 1) (v := 1) (by decide) (by decide +kernel))⟩,
  List.forall_mem_cons.mpr ⟨⟨mo_bin _ _, Or.inl (ok_iand (by decide +kernel))⟩,
  List.forall_mem_cons.mpr ⟨⟨mo_ic _ _, Or.inl (ok_iconst (n := 1) (v := 1) (by decide) (by decide +kernel))⟩,
  List.forall_mem_cons.mpr ⟨⟨mo_if2 _ _ _, Or.inl (ok_icmp_ne (off := 7) (by decide) (by decide +kernel))⟩,
  List.forall_mem_cons.mpr ⟨⟨mo_ic _ _, Or.inl (ok_iconst (n := 1) (v := 1) (by decide) (by decide +kernel))⟩,
  List.forall_mem_cons.mpr ⟨⟨mo_go _, Or.inl (ok_goto (off := 4) (by decide) (by decide +kernel))⟩,
  List.forall_mem_cons.mpr ⟨⟨mo_ic _ _, Or.inl (ok_iconst (n := 0) (v := 0) (by decide) (by decide +kernel))⟩,
  List.forall_mem_cons.mpr ⟨⟨mo_is _ _, Or.inl (ok_istore_n (k := 3) rfl (by decide) (by decide +kernel))⟩,
  List.forall_mem_cons.mpr ⟨⟨mo_ic _ _, Or.inl (ok_iconst (n := 0) (v := 0) (by decide) (by decide +kernel))⟩,
  List.forall_mem_cons.mpr ⟨⟨mo_is _ _, Or.inl (ok_istore (by decide) (by decide +kernel))⟩,
  List.forall_mem_cons.mpr ⟨⟨mo_il _ _, Or.inl (ok_iload (by decide +kernel))⟩,
  List.forall_mem_cons.mpr ⟨⟨mo_al _ _, Or.inl (ok_aload_n (k := 0) rfl (by decide +kernel))⟩,
  List.forall_mem_cons.mpr ⟨⟨mo_gr _ _ _ _, Or.inl (ok_gr (C := RX9) (T := TX9) (N := 20) (ci := 9) (k := 3) rfl inX9 (by decide) fl_X9_75 (by decide +kernel) (by decide +kernel))⟩,
  List.forall_mem_cons.mpr ⟨⟨mo_gi _ _ _ _, Or.inl (ok_gi (C := RX0) (T := TX0) (N := 16) (ci := 0) (k := 15) rfl inX0 (by decide) fl_X9_175 (by decide +kernel) (by decide +kernel))⟩,
  fun _ h => absurd h List.not_mem_nil⟩⟩⟩⟩⟩⟩⟩⟩⟩⟩⟩⟩⟩⟩⟩⟩⟩⟩⟩⟩
def t_X9_choose_1 : List (Nat × am_F) := [(32, im_if2 ic_ge 214 35), (35, im_al 0 36), (36, im_gr q_SH 9 6 39), (39, im_gi q_SH 4 5 42), (42, im_il 4 44), (44, im_bin (fun x y => x >>> (y &&& 31)) 45), (45, im_ic 1 46), (46, im_bin (fun x y => x &&& y) 47), (47, im_if1 ib_eq 208 50), (50, im_al 0 51), (51, im_gr q_SH 9 3 54), (54, im_gr q_SH 0 0 57), (57, im_il 4 59), (59, im_ald q_SH .int 60), (60, im_il 2 61), (61, im_if2 ic_eq 67 64), (64, im_go 208), (67, im_ic 0 68), (68, im_is 5 70), (70, im_il 5 72)]
set_option maxRecDepth 20000 in
theorem o_X9_choose_1 : ∀ q ∈ t_X9_choose_1, am_ok vwCl q_SH ξ (q_E ξ β xs L) q_EN q_KD q_ML (cX9_choose, 8, RX9, "choose", (some .int), []) q.1 q.2 :=
  List.forall_mem_cons.mpr ⟨⟨mo_if2 _ _ _, Or.inl (ok_icmp_ge (off := 182) (by decide) (by decide +kernel))⟩,
  List.forall_mem_cons.mpr ⟨⟨mo_al _ _, Or.inl (ok_aload_n (k := 0) rfl (by decide +kernel))⟩,
  List.forall_mem_cons.mpr ⟨⟨mo_gr _ _ _ _, Or.inl (ok_gr (C := RX9) (T := TX9) (N := 20) (ci := 9) (k := 6) rfl inX9 (by decide) fl_X9_21 (by decide +kernel) (by decide +kernel))⟩,
  List.forall_mem_cons.mpr ⟨⟨mo_gi _ _ _ _, Or.inl (ok_gi (C := RX4) (T := TX4) (N := 12) (ci := 4) (k := 5) rfl inX4 (by decide) fl_X9_214 (by decide +kernel) (by decide +kernel))⟩,
  List.forall_mem_cons.mpr ⟨⟨mo_il _ _, Or.inl (ok_iload (by decide +kernel))⟩,
  List.forall_mem_cons.mpr ⟨⟨mo_bin _ _, Or.inl (ok_ishr (by decide +kernel))⟩,
  List.forall_mem_cons.mpr ⟨⟨mo_ic _ _, Or.inl (ok_iconst (n := 1) (v := 1) (by decide) (by decide +kernel))⟩,
  List.forall_mem_cons.mpr ⟨⟨mo_bin _ _, Or.inl (ok_iand (by decide +kernel))⟩,
  List.forall_mem_cons.mpr ⟨⟨mo_if1 _ _ _, Or.inl (ok_if_eq (off := 161) (by decide) (by decide +kernel))⟩,
  List.forall_mem_cons.mpr ⟨⟨mo_al _ _, Or.inl (ok_aload_n (k := 0) rfl (by decide +kernel))⟩,
  List.forall_mem_cons.mpr ⟨⟨mo_gr _ _ _ _, Or.inl (ok_gr (C := RX9) (T := TX9) (N := 20) (ci := 9) (k := 3) rfl inX9 (by decide) fl_X9_75 (by decide +kernel) (by decide +kernel))⟩,
  List.forall_mem_cons.mpr ⟨⟨mo_gr _ _ _ _, Or.inl (ok_gr (C := RX0) (T := TX0) (N := 16) (ci := 0) (k := 0) rfl inX0 (by decide) fl_X9_205 (by decide +kernel) (by decide +kernel))⟩,
  List.forall_mem_cons.mpr ⟨⟨mo_il _ _, Or.inl (ok_iload (by decide +kernel))⟩,
  List.forall_mem_cons.mpr ⟨⟨mo_ald _ _ _, Or.inl (ok_iald (by decide +kernel))⟩,
  List.forall_mem_cons.mpr ⟨⟨mo_il _ _, Or.inl (ok_iload_n (k := 2) rfl (by decide +kernel))⟩,
  List.forall_mem_cons.mpr ⟨⟨mo_if2 _ _ _, Or.inl (ok_icmp_eq (off := 6) (by decide) (by decide +kernel))⟩,
  List.forall_mem_cons.mpr ⟨⟨mo_go _, Or.inl (ok_goto (off := 144) (by decide) (by decide +kernel))⟩,
  List.forall_mem_cons.mpr ⟨⟨mo_ic _ _, Or.inl (ok_iconst (n := 0) (v := 0) (by decide) (by decide +kernel))⟩,
  List.forall_mem_cons.mpr ⟨⟨mo_is _ _, Or.inl (ok_istore (by decide) (by decide +kernel))⟩,
  List.forall_mem_cons.mpr ⟨⟨mo_il _ _, Or.inl (ok_iload (by decide +kernel))⟩,
  fun _ h => absurd h List.not_mem_nil⟩⟩⟩⟩⟩⟩⟩⟩⟩⟩⟩⟩⟩⟩⟩⟩⟩⟩⟩⟩
def t_X9_choose_2 : List (Nat × am_F) := [(72, im_al 0 73), (73, im_gr q_SH 9 3 76), (76, im_gr q_SH 0 7 79), (79, im_il 4 81), (81, im_ald q_SH .int 82), (82, im_if2 ic_ge 208 85), (85, im_il 4 87), (87, im_ic 12 89), (89, im_bin (fun x y => x * y) 90), (90, im_il 5 92), (92, im_bin (fun x y => x + y) 93), (93, im_is 6 95), (95, im_al 0 96), (96, im_gr q_SH 9 3 99), (99, im_gr q_SH 0 8 102), (102, im_il 6 104), (104, im_ald q_SH .int 105), (105, im_il 3 106), (106, im_if2 ic_ne 133 109), (109, im_al 0 110)]
set_option maxRecDepth 20000 in
theorem o_X9_choose_2 : ∀ q ∈ t_X9_choose_2, am_ok vwCl q_SH ξ (q_E ξ β xs L) q_EN q_KD q_ML (cX9_choose, 8, RX9, "choose", (some .int), []) q.1 q.2 :=
  List.forall_mem_cons.mpr ⟨⟨mo_al _ _, Or.inl (ok_aload_n (k := 0) rfl (by decide +kernel))⟩,
  List.forall_mem_cons.mpr ⟨⟨mo_gr _ _ _ _, Or.inl (ok_gr (C := RX9) (T := TX9) (N := 20) (ci := 9) (k := 3) rfl inX9 (by decide) fl_X9_75 (by decide +kernel) (by decide +kernel))⟩,
  List.forall_mem_cons.mpr ⟨⟨mo_gr _ _ _ _, Or.inl (ok_gr (C := RX0) (T := TX0) (N := 16) (ci := 0) (k := 7) rfl inX0 (by decide) fl_X9_259 (by decide +kernel) (by decide +kernel))⟩,
  List.forall_mem_cons.mpr ⟨⟨mo_il _ _, Or.inl (ok_iload (by decide +kernel))⟩,
  List.forall_mem_cons.mpr ⟨⟨mo_ald _ _ _, Or.inl (ok_iald (by decide +kernel))⟩,
  List.forall_mem_cons.mpr ⟨⟨mo_if2 _ _ _, Or.inl (ok_icmp_ge (off := 126) (by decide) (by decide +kernel))⟩,
  List.forall_mem_cons.mpr ⟨⟨mo_il _ _, Or.inl (ok_iload (by decide +kernel))⟩,
  List.forall_mem_cons.mpr ⟨⟨mo_ic _ _, Or.inl (ok_bipush (n := 12) (v := 12) (by decide) (by decide +kernel))⟩,
  List.forall_mem_cons.mpr ⟨⟨mo_bin _ _, Or.inl (ok_imul (by decide +kernel))⟩,
  List.forall_mem_cons.mpr ⟨⟨mo_il _ _, Or.inl (ok_iload (by decide +kernel))⟩,
  List.forall_mem_cons.mpr ⟨⟨mo_bin _ _, Or.inl (ok_iadd (by decide +kernel))⟩,
  List.forall_mem_cons.mpr ⟨⟨mo_is _ _, Or.inl (ok_istore (by decide) (by decide +kernel))⟩,
  List.forall_mem_cons.mpr ⟨⟨mo_al _ _, Or.inl (ok_aload_n (k := 0) rfl (by decide +kernel))⟩,
  List.forall_mem_cons.mpr ⟨⟨mo_gr _ _ _ _, Or.inl (ok_gr (C := RX9) (T := TX9) (N := 20) (ci := 9) (k := 3) rfl inX9 (by decide) fl_X9_75 (by decide +kernel) (by decide +kernel))⟩,
  List.forall_mem_cons.mpr ⟨⟨mo_gr _ _ _ _, Or.inl (ok_gr (C := RX0) (T := TX0) (N := 16) (ci := 0) (k := 8) rfl inX0 (by decide) fl_X9_262 (by decide +kernel) (by decide +kernel))⟩,
  List.forall_mem_cons.mpr ⟨⟨mo_il _ _, Or.inl (ok_iload (by decide +kernel))⟩,
  List.forall_mem_cons.mpr ⟨⟨mo_ald _ _ _, Or.inl (ok_iald (by decide +kernel))⟩,
  List.forall_mem_cons.mpr ⟨⟨mo_il _ _, Or.inl (ok_iload_n (k := 3) rfl (by decide +kernel))⟩,
  List.forall_mem_cons.mpr ⟨⟨mo_if2 _ _ _, Or.inl (ok_icmp_ne (off := 27) (by decide) (by decide +kernel))⟩,
  List.forall_mem_cons.mpr ⟨⟨mo_al _ _, Or.inl (ok_aload_n (k := 0) rfl (by decide +kernel))⟩,
  fun _ h => absurd h List.not_mem_nil⟩⟩⟩⟩⟩⟩⟩⟩⟩⟩⟩⟩⟩⟩⟩⟩⟩⟩⟩⟩
def t_X9_choose_3 : List (Nat × am_F) := [(110, im_gr q_SH 9 3 113), (113, im_gr q_SH 0 9 116), (116, im_il 6 118), (118, im_ald q_SH .int 119), (119, im_al 0 120), (120, im_gr q_SH 9 6 123), (123, im_gi q_SH 4 1 126), (126, im_if2 ic_ne 133 129), (129, im_ic 1 130), (130, im_go 134), (133, im_ic 0 134), (134, im_is 7 136), (136, im_il 7 138), (138, im_if1 ib_eq 202 141), (141, im_al 0 142), (142, im_al 0 143), (143, im_gr q_SH 9 3 146), (146, im_gr q_SH 0 10 149), (149, im_il 6 151), (151, im_ald q_SH .int 152)]
set_option maxRecDepth 20000 in
theorem o_X9_choose_3 : ∀ q ∈ t_X9_choose_3, am_ok vwCl q_SH ξ (q_E ξ β xs L) q_EN q_KD q_ML (cX9_choose, 8, RX9, "choose", (some .int), []) q.1 q.2 :=
  List.forall_mem_cons.mpr ⟨⟨mo_gr _ _ _ _, Or.inl (ok_gr (C := RX9) (T := TX9) (N := 20) (ci := 9) (k := 3) rfl inX9 (by decide) fl_X9_75 (by decide +kernel) (by decide +kernel))⟩,
  List.forall_mem_cons.mpr ⟨⟨mo_gr _ _ _ _, Or.inl (ok_gr (C := RX0) (T := TX0) (N := 16) (ci := 0) (k := 9) rfl inX0 (by decide) fl_X9_263 (by decide +kernel) (by decide +kernel))⟩,
  List.forall_mem_cons.mpr ⟨⟨mo_il _ _, Or.inl (ok_iload (by decide +kernel))⟩,
  List.forall_mem_cons.mpr ⟨⟨mo_ald _ _ _, Or.inl (ok_iald (by decide +kernel))⟩,
  List.forall_mem_cons.mpr ⟨⟨mo_al _ _, Or.inl (ok_aload_n (k := 0) rfl (by decide +kernel))⟩,
  List.forall_mem_cons.mpr ⟨⟨mo_gr _ _ _ _, Or.inl (ok_gr (C := RX9) (T := TX9) (N := 20) (ci := 9) (k := 6) rfl inX9 (by decide) fl_X9_21 (by decide +kernel) (by decide +kernel))⟩,
  List.forall_mem_cons.mpr ⟨⟨mo_gi _ _ _ _, Or.inl (ok_gi (C := RX4) (T := TX4) (N := 12) (ci := 4) (k := 1) rfl inX4 (by decide) fl_X9_199 (by decide +kernel) (by decide +kernel))⟩,
  List.forall_mem_cons.mpr ⟨⟨mo_if2 _ _ _, Or.inl (ok_icmp_ne (off := 7) (by decide) (by decide +kernel))⟩,
  List.forall_mem_cons.mpr ⟨⟨mo_ic _ _, Or.inl (ok_iconst (n := 1) (v := 1) (by decide) (by decide +kernel))⟩,
  List.forall_mem_cons.mpr ⟨⟨mo_go _, Or.inl (ok_goto (off := 4) (by decide) (by decide +kernel))⟩,
  List.forall_mem_cons.mpr ⟨⟨mo_ic _ _, Or.inl (ok_iconst (n := 0) (v := 0) (by decide) (by decide +kernel))⟩,
  List.forall_mem_cons.mpr ⟨⟨mo_is _ _, Or.inl (ok_istore (by decide) (by decide +kernel))⟩,
  List.forall_mem_cons.mpr ⟨⟨mo_il _ _, Or.inl (ok_iload (by decide +kernel))⟩,
  List.forall_mem_cons.mpr ⟨⟨mo_if1 _ _ _, Or.inl (ok_if_eq (off := 64) (by decide) (by decide +kernel))⟩,
  List.forall_mem_cons.mpr ⟨⟨mo_al _ _, Or.inl (ok_aload_n (k := 0) rfl (by decide +kernel))⟩,
  List.forall_mem_cons.mpr ⟨⟨mo_al _ _, Or.inl (ok_aload_n (k := 0) rfl (by decide +kernel))⟩,
  List.forall_mem_cons.mpr ⟨⟨mo_gr _ _ _ _, Or.inl (ok_gr (C := RX9) (T := TX9) (N := 20) (ci := 9) (k := 3) rfl inX9 (by decide) fl_X9_75 (by decide +kernel) (by decide +kernel))⟩,
  List.forall_mem_cons.mpr ⟨⟨mo_gr _ _ _ _, Or.inl (ok_gr (C := RX0) (T := TX0) (N := 16) (ci := 0) (k := 10) rfl inX0 (by decide) fl_X9_265 (by decide +kernel) (by decide +kernel))⟩,
  List.forall_mem_cons.mpr ⟨⟨mo_il _ _, Or.inl (ok_iload (by decide +kernel))⟩,
  List.forall_mem_cons.mpr ⟨⟨mo_ald _ _ _, Or.inl (ok_iald (by decide +kernel))⟩,
  fun _ h => absurd h List.not_mem_nil⟩⟩⟩⟩⟩⟩⟩⟩⟩⟩⟩⟩⟩⟩⟩⟩⟩⟩⟩⟩
def t_X9_choose_4 : List (Nat × am_F) := [(152, im_al 0 153), (153, im_gr q_SH 9 3 156), (156, im_gr q_SH 0 11 159), (159, im_il 6 161), (161, im_ald q_SH .int 162), (162, im_il 1 163), (163, im_il 2 164), (164, im_inv q_SH 9 64 4 167), (167, im_if1 ib_eq 202 170), (170, im_al 0 171), (171, im_al 0 172), (172, im_gr q_SH 9 3 175), (175, im_gr q_SH 0 11 178), (178, im_il 6 180), (180, im_ald q_SH .int 181), (181, im_al 0 182), (182, im_gr q_SH 9 3 185), (185, im_gr q_SH 0 12 188), (188, im_il 6 190), (190, im_ald q_SH .int 191)]
set_option maxRecDepth 20000 in
theorem o_X9_choose_4 : ∀ q ∈ t_X9_choose_4, am_ok vwCl q_SH ξ (q_E ξ β xs L) q_EN q_KD q_ML (cX9_choose, 8, RX9, "choose", (some .int), []) q.1 q.2 :=
  List.forall_mem_cons.mpr ⟨⟨mo_al _ _, Or.inl (ok_aload_n (k := 0) rfl (by decide +kernel))⟩,
  List.forall_mem_cons.mpr ⟨⟨mo_gr _ _ _ _, Or.inl (ok_gr (C := RX9) (T := TX9) (N := 20) (ci := 9) (k := 3) rfl inX9 (by decide) fl_X9_75 (by decide +kernel) (by decide +kernel))⟩,
  List.forall_mem_cons.mpr ⟨⟨mo_gr _ _ _ _, Or.inl (ok_gr (C := RX0) (T := TX0) (N := 16) (ci := 0) (k := 11) rfl inX0 (by decide) fl_X9_268 (by decide +kernel) (by decide +kernel))⟩,
  List.forall_mem_cons.mpr ⟨⟨mo_il _ _, Or.inl (ok_iload (by decide +kernel))⟩,
  List.forall_mem_cons.mpr ⟨⟨mo_ald _ _ _, Or.inl (ok_iald (by decide +kernel))⟩,
  List.forall_mem_cons.mpr ⟨⟨mo_il _ _, Or.inl (ok_iload_n (k := 1) rfl (by decide +kernel))⟩,
  List.forall_mem_cons.mpr ⟨⟨mo_il _ _, Or.inl (ok_iload_n (k := 2) rfl (by decide +kernel))⟩,
  List.forall_mem_cons.mpr ⟨⟨mo_inv _ _ _ _ _, Or.inr (Or.inl (ok_inv (T := TX9) (N := 20) rfl cw_X9_evaluate (by decide) (by decide) ml_X9_271 ci_X9_evaluate cv_X9_evaluate (show Cond.initialized (yX9_evaluate).cls ∈ am_ts from ci9_RX9) ⟨by decide +kernel, by decide +kernel, by decide +kernel⟩ rfl (by decide +kernel)))⟩,
  List.forall_mem_cons.mpr ⟨⟨mo_if1 _ _ _, Or.inl (ok_if_eq (off := 35) (by decide) (by decide +kernel))⟩,
  List.forall_mem_cons.mpr ⟨⟨mo_al _ _, Or.inl (ok_aload_n (k := 0) rfl (by decide +kernel))⟩,
  List.forall_mem_cons.mpr ⟨⟨mo_al _ _, Or.inl (ok_aload_n (k := 0) rfl (by decide +kernel))⟩,
  List.forall_mem_cons.mpr ⟨⟨mo_gr _ _ _ _, Or.inl (ok_gr (C := RX9) (T := TX9) (N := 20) (ci := 9) (k := 3) rfl inX9 (by decide) fl_X9_75 (by decide +kernel) (by decide +kernel))⟩,
  List.forall_mem_cons.mpr ⟨⟨mo_gr _ _ _ _, Or.inl (ok_gr (C := RX0) (T := TX0) (N := 16) (ci := 0) (k := 11) rfl inX0 (by decide) fl_X9_268 (by decide +kernel) (by decide +kernel))⟩,
  List.forall_mem_cons.mpr ⟨⟨mo_il _ _, Or.inl (ok_iload (by decide +kernel))⟩,
  List.forall_mem_cons.mpr ⟨⟨mo_ald _ _ _, Or.inl (ok_iald (by decide +kernel))⟩,
  List.forall_mem_cons.mpr ⟨⟨mo_al _ _, Or.inl (ok_aload_n (k := 0) rfl (by decide +kernel))⟩,
  List.forall_mem_cons.mpr ⟨⟨mo_gr _ _ _ _, Or.inl (ok_gr (C := RX9) (T := TX9) (N := 20) (ci := 9) (k := 3) rfl inX9 (by decide) fl_X9_75 (by decide +kernel) (by decide +kernel))⟩,
  List.forall_mem_cons.mpr ⟨⟨mo_gr _ _ _ _, Or.inl (ok_gr (C := RX0) (T := TX0) (N := 16) (ci := 0) (k := 12) rfl inX0 (by decide) fl_X9_275 (by decide +kernel) (by decide +kernel))⟩,
  List.forall_mem_cons.mpr ⟨⟨mo_il _ _, Or.inl (ok_iload (by decide +kernel))⟩,
  List.forall_mem_cons.mpr ⟨⟨mo_ald _ _ _, Or.inl (ok_iald (by decide +kernel))⟩,
  fun _ h => absurd h List.not_mem_nil⟩⟩⟩⟩⟩⟩⟩⟩⟩⟩⟩⟩⟩⟩⟩⟩⟩⟩⟩⟩
def t_X9_choose_5 : List (Nat × am_F) := [(191, im_il 1 192), (192, im_il 2 193), (193, im_inv q_SH 9 64 4 196), (196, im_if1 ib_ne 202 199), (199, im_il 6 201), (201, im_reti), (202, im_iinc 5 1 205), (205, im_go 70), (208, im_iinc 4 1 211), (211, im_go 23), (214, im_ic (-1) 215), (215, im_reti)]
set_option maxRecDepth 20000 in
theorem o_X9_choose_5 : ∀ q ∈ t_X9_choose_5, am_ok vwCl q_SH ξ (q_E ξ β xs L) q_EN q_KD q_ML (cX9_choose, 8, RX9, "choose", (some .int), []) q.1 q.2 :=
  List.forall_mem_cons.mpr ⟨⟨mo_il _ _, Or.inl (ok_iload_n (k := 1) rfl (by decide +kernel))⟩,
  List.forall_mem_cons.mpr ⟨⟨mo_il _ _, Or.inl (ok_iload_n (k := 2) rfl (by decide +kernel))⟩,
  List.forall_mem_cons.mpr ⟨⟨mo_inv _ _ _ _ _, Or.inr (Or.inl (ok_inv (T := TX9) (N := 20) rfl cw_X9_evaluate (by decide) (by decide) ml_X9_271 ci_X9_evaluate cv_X9_evaluate (show Cond.initialized (yX9_evaluate).cls ∈ am_ts from ci9_RX9) ⟨by decide +kernel, by decide +kernel, by decide +kernel⟩ rfl (by decide +kernel)))⟩,
  List.forall_mem_cons.mpr ⟨⟨mo_if1 _ _ _, Or.inl (ok_if_ne (off := 6) (by decide) (by decide +kernel))⟩,
  List.forall_mem_cons.mpr ⟨⟨mo_il _ _, Or.inl (ok_iload (by decide +kernel))⟩,
  List.forall_mem_cons.mpr ⟨⟨mo_reti, Or.inr (Or.inr (ok_reti rfl (by decide +kernel)))⟩,
  List.forall_mem_cons.mpr ⟨⟨mo_iinc _ _ _, Or.inl (ok_iinc (n := 1) (v := 1) (by decide) (by decide) (by decide +kernel))⟩,
  List.forall_mem_cons.mpr ⟨⟨mo_go _, Or.inl (ok_goto (off := (-135)) (by decide) (by decide +kernel))⟩,
  List.forall_mem_cons.mpr ⟨⟨mo_iinc _ _ _, Or.inl (ok_iinc (n := 1) (v := 1) (by decide) (by decide) (by decide +kernel))⟩,
  List.forall_mem_cons.mpr ⟨⟨mo_go _, Or.inl (ok_goto (off := (-188)) (by decide) (by decide +kernel))⟩,
  List.forall_mem_cons.mpr ⟨⟨mo_ic _ _, Or.inl (ok_iconst (n := (-1)) (v := (-1)) (by decide) (by decide +kernel))⟩,
  List.forall_mem_cons.mpr ⟨⟨mo_reti, Or.inr (Or.inr (ok_reti rfl (by decide +kernel)))⟩,
  fun _ h => absurd h List.not_mem_nil⟩⟩⟩⟩⟩⟩⟩⟩⟩⟩⟩⟩
def t_X9_choose : List (Nat × am_F) := t_X9_choose_0 ++ (t_X9_choose_1 ++ (t_X9_choose_2 ++ (t_X9_choose_3 ++ (t_X9_choose_4 ++ (t_X9_choose_5)))))
theorem o_X9_choose : ∀ q ∈ t_X9_choose, am_ok vwCl q_SH ξ (q_E ξ β xs L) q_EN q_KD q_ML (cX9_choose, 8, RX9, "choose", (some .int), []) q.1 q.2 := List.forall_mem_append.mpr ⟨o_X9_choose_0, List.forall_mem_append.mpr ⟨o_X9_choose_1, List.forall_mem_append.mpr ⟨o_X9_choose_2, List.forall_mem_append.mpr ⟨o_X9_choose_3, List.forall_mem_append.mpr ⟨o_X9_choose_4, o_X9_choose_5⟩⟩⟩⟩⟩
def t_X9_evaluate_0 : List (Nat × am_F) := [(0, im_ic 0 1), (1, im_is 5 3), (3, im_il 1 4), (4, im_is 6 6), (6, im_il 6 8), (8, im_il 2 9), (9, im_if2 ic_ge 159 12), (12, im_al 0 13), (13, im_gr q_SH 9 3 16), (16, im_gr q_SH 0 14 19), (19, im_il 6 21), (21, im_ald q_SH .int 22), (22, im_is 7 24), (24, im_il 7 26), (26, im_ic (-13) 28), (28, im_if2 ic_lt 72 31), (31, im_il 5 33), (33, im_ic 64 35), (35, im_if2 ic_ge 72 38), (38, im_al 0 39)]
set_option maxRecDepth 20000 in
theorem o_X9_evaluate_0 : ∀ q ∈ t_X9_evaluate_0, am_ok vwCl q_SH ξ (q_E ξ β xs L) q_EN q_KD q_ML (cX9_evaluate, 8, RX9, "evaluate", (some .int), []) q.1 q.2 :=
  List.forall_mem_cons.mpr ⟨⟨mo_ic _ _, Or.inl (ok_iconst (n := 0) (v := 0) (by decide) (by decide +kernel))⟩,
  List.forall_mem_cons.mpr ⟨⟨mo_is _ _, Or.inl (ok_istore (by decide) (by decide +kernel))⟩,
  List.forall_mem_cons.mpr ⟨⟨mo_il _ _, Or.inl (ok_iload_n (k := 1) rfl (by decide +kernel))⟩,
  List.forall_mem_cons.mpr ⟨⟨mo_is _ _, Or.inl (ok_istore (by decide) (by decide +kernel))⟩,
  List.forall_mem_cons.mpr ⟨⟨mo_il _ _, Or.inl (ok_iload (by decide +kernel))⟩,
  List.forall_mem_cons.mpr ⟨⟨mo_il _ _, Or.inl (ok_iload_n (k := 2) rfl (by decide +kernel))⟩,
  List.forall_mem_cons.mpr ⟨⟨mo_if2 _ _ _, Or.inl (ok_icmp_ge (off := 150) (by decide) (by decide +kernel))⟩,
  List.forall_mem_cons.mpr ⟨⟨mo_al _ _, Or.inl (ok_aload_n (k := 0) rfl (by decide +kernel))⟩,
  List.forall_mem_cons.mpr ⟨⟨mo_gr _ _ _ _, Or.inl (ok_gr (C := RX9) (T := TX9) (N := 20) (ci := 9) (k := 3) rfl inX9 (by decide) fl_X9_75 (by decide +kernel) (by decide +kernel))⟩,
  List.forall_mem_cons.mpr ⟨⟨mo_gr _ _ _ _, Or.inl (ok_gr (C := RX0) (T := TX0) (N := 16) (ci := 0) (k := 14) rfl inX0 (by decide) fl_X9_278 (by decide +kernel) (by decide +kernel))⟩,
  List.forall_mem_cons.mpr ⟨⟨mo_il _ _, Or.inl (ok_iload (by decide +kernel))⟩,
  List.forall_mem_cons.mpr ⟨⟨mo_ald _ _ _, Or.inl (ok_iald (by decide +kernel))⟩,
  List.forall_mem_cons.mpr ⟨⟨mo_is _ _, Or.inl (ok_istore (by decide) (by decide +kernel))⟩,
  List.forall_mem_cons.mpr ⟨⟨mo_il _ _, Or.inl (ok_iload (by decide +kernel))⟩,
  List.forall_mem_cons.mpr ⟨⟨mo_ic _ _, Or.inl (ok_bipush (n := (-13)) (v := (-13)) (by decide) (by decide +kernel))⟩,
  List.forall_mem_cons.mpr ⟨⟨mo_if2 _ _ _, Or.inl (ok_icmp_lt (off := 44) (by decide) (by decide +kernel))⟩,
  List.forall_mem_cons.mpr ⟨⟨mo_il _ _, Or.inl (ok_iload (by decide +kernel))⟩,
  List.forall_mem_cons.mpr ⟨⟨mo_ic _ _, Or.inl (ok_bipush (n := 64) (v := 64) (by decide) (by decide +kernel))⟩,
  List.forall_mem_cons.mpr ⟨⟨mo_if2 _ _ _, Or.inl (ok_icmp_ge (off := 37) (by decide) (by decide +kernel))⟩,
  List.forall_mem_cons.mpr ⟨⟨mo_al _ _, Or.inl (ok_aload_n (k := 0) rfl (by decide +kernel))⟩,
  fun _ h => absurd h List.not_mem_nil⟩⟩⟩⟩⟩⟩⟩⟩⟩⟩⟩⟩⟩⟩⟩⟩⟩⟩⟩⟩
def t_X9_evaluate_1 : List (Nat × am_F) := [(39, im_gr q_SH 9 17 42), (42, im_il 5 44), (44, im_il 7 46), (46, im_if1 ib_lt 54 49), (49, im_il 7 51), (51, im_go 65), (54, im_al 0 55), (55, im_ic (-1) 56), (56, im_il 7 58), (58, im_bin (fun x y => x - y) 59), (59, im_il 3 60), (60, im_il 4 62), (62, im_inv q_SH 9 66 3 65), (65, im_ast q_SH .int (fun x => x) 66), (66, im_iinc 5 1 69), (69, im_go 153), (72, im_il 7 74), (74, im_ic (-203) 77), (77, im_if2 ic_ne 114 80), (80, im_il 5 82)]
set_option maxRecDepth 20000 in
theorem o_X9_evaluate_1 : ∀ q ∈ t_X9_evaluate_1, am_ok vwCl q_SH ξ (q_E ξ β xs L) q_EN q_KD q_ML (cX9_evaluate, 8, RX9, "evaluate", (some .int), []) q.1 q.2 :=
  List.forall_mem_cons.mpr ⟨⟨mo_gr _ _ _ _, Or.inl (ok_gr (C := RX9) (T := TX9) (N := 20) (ci := 9) (k := 17) rfl inX9 (by decide) fl_X9_60 (by decide +kernel) (by decide +kernel))⟩,
  List.forall_mem_cons.mpr ⟨⟨mo_il _ _, Or.inl (ok_iload (by decide +kernel))⟩,
  List.forall_mem_cons.mpr ⟨⟨mo_il _ _, Or.inl (ok_iload (by decide +kernel))⟩,
  List.forall_mem_cons.mpr ⟨⟨mo_if1 _ _ _, Or.inl (ok_if_lt (off := 8) (by decide) (by decide +kernel))⟩,
  List.forall_mem_cons.mpr ⟨⟨mo_il _ _, Or.inl (ok_iload (by decide +kernel))⟩,
  List.forall_mem_cons.mpr ⟨⟨mo_go _, Or.inl (ok_goto (off := 14) (by decide) (by decide +kernel))⟩,
  List.forall_mem_cons.mpr ⟨⟨mo_al _ _, Or.inl (ok_aload_n (k := 0) rfl (by decide +kernel))⟩,
  List.forall_mem_cons.mpr ⟨⟨mo_ic _ _, Or.inl (ok_iconst (n := (-1)) (v := (-1)) (by decide) (by decide +kernel))⟩,
  List.forall_mem_cons.mpr ⟨⟨mo_il _ _, Or.inl (ok_iload (by decide +kernel))⟩,
  List.forall_mem_cons.mpr ⟨⟨mo_bin _ _, Or.inl (ok_isub (by decide +kernel))⟩,
  List.forall_mem_cons.mpr ⟨⟨mo_il _ _, Or.inl (ok_iload_n (k := 3) rfl (by decide +kernel))⟩,
  List.forall_mem_cons.mpr ⟨⟨mo_il _ _, Or.inl (ok_iload (by decide +kernel))⟩,
  List.forall_mem_cons.mpr ⟨⟨mo_inv _ _ _ _ _, Or.inr (Or.inl (ok_inv (T := TX9) (N := 20) rfl cw_X9_valueOf (by decide) (by decide) ml_X9_281 ci_X9_valueOf cv_X9_valueOf (show Cond.initialized (yX9_valueOf).cls ∈ am_ts from ci9_RX9) ⟨by decide +kernel, by decide +kernel, by decide +kernel⟩ rfl (by decide +kernel)))⟩,
  List.forall_mem_cons.mpr ⟨⟨mo_ast _ _ _ _, Or.inl (ok_iast (by decide +kernel))⟩,
  List.forall_mem_cons.mpr ⟨⟨mo_iinc _ _ _, Or.inl (ok_iinc (n := 1) (v := 1) (by decide) (by decide) (by decide +kernel))⟩,
  List.forall_mem_cons.mpr ⟨⟨mo_go _, Or.inl (ok_goto (off := 84) (by decide) (by decide +kernel))⟩,
  List.forall_mem_cons.mpr ⟨⟨mo_il _ _, Or.inl (ok_iload (by decide +kernel))⟩,
  List.forall_mem_cons.mpr ⟨⟨mo_ic _ _, Or.inl (ok_sipush (n := (-203)) (v := (-203)) (by decide) (by decide +kernel))⟩,
  List.forall_mem_cons.mpr ⟨⟨mo_if2 _ _ _, Or.inl (ok_icmp_ne (off := 37) (by decide) (by decide +kernel))⟩,
  List.forall_mem_cons.mpr ⟨⟨mo_il _ _, Or.inl (ok_iload (by decide +kernel))⟩,
  fun _ h => absurd h List.not_mem_nil⟩⟩⟩⟩⟩⟩⟩⟩⟩⟩⟩⟩⟩⟩⟩⟩⟩⟩⟩⟩
def t_X9_evaluate_2 : List (Nat × am_F) := [(82, im_if1 ib_le 114 85), (85, im_al 0 86), (86, im_gr q_SH 9 17 89), (89, im_il 5 91), (91, im_ic 1 92), (92, im_bin (fun x y => x - y) 93), (93, im_al 0 94), (94, im_gr q_SH 9 17 97), (97, im_il 5 99), (99, im_ic 1 100), (100, im_bin (fun x y => x - y) 101), (101, im_ald q_SH .int 102), (102, im_if1 ib_ne 109 105), (105, im_ic 1 106), (106, im_go 110), (109, im_ic 0 110), (110, im_ast q_SH .int (fun x => x) 111), (111, im_go 153), (114, im_il 5 116), (116, im_ic 1 117)]
set_option maxRecDepth 20000 in
theorem o_X9_evaluate_2 : ∀ q ∈ t_X9_evaluate_2, am_ok vwCl q_SH ξ (q_E ξ β xs L) q_EN q_KD q_ML (cX9_evaluate, 8, RX9, "evaluate", (some .int), []) q.1 q.2 :=
  List.forall_mem_cons.mpr ⟨⟨mo_if1 _ _ _, Or.inl (ok_if_le (off := 32) (by decide) (by decide +kernel))⟩,
  List.forall_mem_cons.mpr ⟨⟨mo_al _ _, Or.inl (ok_aload_n (k := 0) rfl (by decide +kernel))⟩,
  List.forall_mem_cons.mpr ⟨⟨mo_gr _ _ _ _, Or.inl (ok_gr (C := RX9) (T := TX9) (N := 20) (ci := 9) (k := 17) rfl inX9 (by decide) fl_X9_60 (by decide +kernel) (by decide +kernel))⟩,
  List.forall_mem_cons.mpr ⟨⟨mo_il _ _, Or.inl (ok_iload (by decide +kernel))⟩,
  List.forall_mem_cons.mpr ⟨⟨mo_ic _ _, Or.inl (ok_iconst (n := 1) (v := 1) (by decide) (by decide +kernel))⟩,
  List.forall_mem_cons.mpr ⟨⟨mo_bin _ _, Or.inl (ok_isub (by decide +kernel))⟩,
  List.forall_mem_cons.mpr ⟨⟨mo_al _ _, Or.inl (ok_aload_n (k := 0) rfl (by decide +kernel))⟩,
  List.forall_mem_cons.mpr ⟨⟨mo_gr _ _ _ _, Or.inl (ok_gr (C := RX9) (T := TX9) (N := 20) (ci := 9) (k := 17) rfl inX9 (by decide) fl_X9_60 (by decide +kernel) (by decide +kernel))⟩,
  List.forall_mem_cons.mpr ⟨⟨mo_il _ _, Or.inl (ok_iload (by decide +kernel))⟩,
  List.forall_mem_cons.mpr ⟨⟨mo_ic _ _, Or.inl (ok_iconst (n := 1) (v := 1) (by decide) (by decide +kernel))⟩,
  List.forall_mem_cons.mpr ⟨⟨mo_bin _ _, Or.inl (ok_isub (by decide +kernel))⟩,
  List.forall_mem_cons.mpr ⟨⟨mo_ald _ _ _, Or.inl (ok_iald (by decide +kernel))⟩,
  List.forall_mem_cons.mpr ⟨⟨mo_if1 _ _ _, Or.inl (ok_if_ne (off := 7) (by decide) (by decide +kernel))⟩,
  List.forall_mem_cons.mpr ⟨⟨mo_ic _ _, Or.inl (ok_iconst (n := 1) (v := 1) (by decide) (by decide +kernel))⟩,
  List.forall_mem_cons.mpr ⟨⟨mo_go _, Or.inl (ok_goto (off := 4) (by decide) (by decide +kernel))⟩,
  List.forall_mem_cons.mpr ⟨⟨mo_ic _ _, Or.inl (ok_iconst (n := 0) (v := 0) (by decide) (by decide +kernel))⟩,
  List.forall_mem_cons.mpr ⟨⟨mo_ast _ _ _ _, Or.inl (ok_iast (by decide +kernel))⟩,
  List.forall_mem_cons.mpr ⟨⟨mo_go _, Or.inl (ok_goto (off := 42) (by decide) (by decide +kernel))⟩,
  List.forall_mem_cons.mpr ⟨⟨mo_il _ _, Or.inl (ok_iload (by decide +kernel))⟩,
  List.forall_mem_cons.mpr ⟨⟨mo_ic _ _, Or.inl (ok_iconst (n := 1) (v := 1) (by decide) (by decide +kernel))⟩,
  fun _ h => absurd h List.not_mem_nil⟩⟩⟩⟩⟩⟩⟩⟩⟩⟩⟩⟩⟩⟩⟩⟩⟩⟩⟩⟩
def t_X9_evaluate_3 : List (Nat × am_F) := [(117, im_if2 ic_le 153 120), (120, im_iinc 5 (-1) 123), (123, im_al 0 124), (124, im_gr q_SH 9 17 127), (127, im_il 5 129), (129, im_ic 1 130), (130, im_bin (fun x y => x - y) 131), (131, im_il 7 133), (133, im_al 0 134), (134, im_gr q_SH 9 17 137), (137, im_il 5 139), (139, im_ic 1 140), (140, im_bin (fun x y => x - y) 141), (141, im_ald q_SH .int 142), (142, im_al 0 143), (143, im_gr q_SH 9 17 146), (146, im_il 5 148), (148, im_ald q_SH .int 149), (149, im_invs 65 3 152), (152, im_ast q_SH .int (fun x => x) 153)]
set_option maxRecDepth 20000 in
theorem o_X9_evaluate_3 : ∀ q ∈ t_X9_evaluate_3, am_ok vwCl q_SH ξ (q_E ξ β xs L) q_EN q_KD q_ML (cX9_evaluate, 8, RX9, "evaluate", (some .int), []) q.1 q.2 :=
  List.forall_mem_cons.mpr ⟨⟨mo_if2 _ _ _, Or.inl (ok_icmp_le (off := 36) (by decide) (by decide +kernel))⟩,
  List.forall_mem_cons.mpr ⟨⟨mo_iinc _ _ _, Or.inl (ok_iinc (n := (-1)) (v := (-1)) (by decide) (by decide) (by decide +kernel))⟩,
  List.forall_mem_cons.mpr ⟨⟨mo_al _ _, Or.inl (ok_aload_n (k := 0) rfl (by decide +kernel))⟩,
  List.forall_mem_cons.mpr ⟨⟨mo_gr _ _ _ _, Or.inl (ok_gr (C := RX9) (T := TX9) (N := 20) (ci := 9) (k := 17) rfl inX9 (by decide) fl_X9_60 (by decide +kernel) (by decide +kernel))⟩,
  List.forall_mem_cons.mpr ⟨⟨mo_il _ _, Or.inl (ok_iload (by decide +kernel))⟩,
  List.forall_mem_cons.mpr ⟨⟨mo_ic _ _, Or.inl (ok_iconst (n := 1) (v := 1) (by decide) (by decide +kernel))⟩,
  List.forall_mem_cons.mpr ⟨⟨mo_bin _ _, Or.inl (ok_isub (by decide +kernel))⟩,
  List.forall_mem_cons.mpr ⟨⟨mo_il _ _, Or.inl (ok_iload (by decide +kernel))⟩,
  List.forall_mem_cons.mpr ⟨⟨mo_al _ _, Or.inl (ok_aload_n (k := 0) rfl (by decide +kernel))⟩,
  List.forall_mem_cons.mpr ⟨⟨mo_gr _ _ _ _, Or.inl (ok_gr (C := RX9) (T := TX9) (N := 20) (ci := 9) (k := 17) rfl inX9 (by decide) fl_X9_60 (by decide +kernel) (by decide +kernel))⟩,
  List.forall_mem_cons.mpr ⟨⟨mo_il _ _, Or.inl (ok_iload (by decide +kernel))⟩,
  List.forall_mem_cons.mpr ⟨⟨mo_ic _ _, Or.inl (ok_iconst (n := 1) (v := 1) (by decide) (by decide +kernel))⟩,
  List.forall_mem_cons.mpr ⟨⟨mo_bin _ _, Or.inl (ok_isub (by decide +kernel))⟩,
  List.forall_mem_cons.mpr ⟨⟨mo_ald _ _ _, Or.inl (ok_iald (by decide +kernel))⟩,
  List.forall_mem_cons.mpr ⟨⟨mo_al _ _, Or.inl (ok_aload_n (k := 0) rfl (by decide +kernel))⟩,
  List.forall_mem_cons.mpr ⟨⟨mo_gr _ _ _ _, Or.inl (ok_gr (C := RX9) (T := TX9) (N := 20) (ci := 9) (k := 17) rfl inX9 (by decide) fl_X9_60 (by decide +kernel) (by decide +kernel))⟩,
  List.forall_mem_cons.mpr ⟨⟨mo_il _ _, Or.inl (ok_iload (by decide +kernel))⟩,
  List.forall_mem_cons.mpr ⟨⟨mo_ald _ _ _, Or.inl (ok_iald (by decide +kernel))⟩,
  List.forall_mem_cons.mpr ⟨⟨mo_invs _ _ _, Or.inr (Or.inl (ok_invs cw_X9_join (by decide) (by decide) ml_X9_285 cs_X9_join (show Cond.initialized (yX9_join).cls ∈ am_ts from ci9_RX9) ⟨by decide +kernel, by decide +kernel, by decide +kernel⟩ rfl (by decide +kernel)))⟩,
  List.forall_mem_cons.mpr ⟨⟨mo_ast _ _ _ _, Or.inl (ok_iast (by decide +kernel))⟩,
  fun _ h => absurd h List.not_mem_nil⟩⟩⟩⟩⟩⟩⟩⟩⟩⟩⟩⟩⟩⟩⟩⟩⟩⟩⟩⟩
def t_X9_evaluate_4 : List (Nat × am_F) := [(153, im_iinc 6 1 156), (156, im_go 6), (159, im_il 5 161), (161, im_if1 ib_le 173 164), (164, im_al 0 165), (165, im_gr q_SH 9 17 168), (168, im_ic 0 169), (169, im_ald q_SH .int 170), (170, im_go 174), (173, im_ic 0 174), (174, im_reti)]
set_option maxRecDepth 20000 in
theorem o_X9_evaluate_4 : ∀ q ∈ t_X9_evaluate_4, am_ok vwCl q_SH ξ (q_E ξ β xs L) q_EN q_KD q_ML (cX9_evaluate, 8, RX9, "evaluate", (some .int), []) q.1 q.2 :=
  List.forall_mem_cons.mpr ⟨⟨mo_iinc _ _ _, Or.inl (ok_iinc (n := 1) (v := 1) (by decide) (by decide) (by decide +kernel))⟩,
  List.forall_mem_cons.mpr ⟨⟨mo_go _, Or.inl (ok_goto (off := (-150)) (by decide) (by decide +kernel))⟩,
  List.forall_mem_cons.mpr ⟨⟨mo_il _ _, Or.inl (ok_iload (by decide +kernel))⟩,
  List.forall_mem_cons.mpr ⟨⟨mo_if1 _ _ _, Or.inl (ok_if_le (off := 12) (by decide) (by decide +kernel))⟩,
  List.forall_mem_cons.mpr ⟨⟨mo_al _ _, Or.inl (ok_aload_n (k := 0) rfl (by decide +kernel))⟩,
  List.forall_mem_cons.mpr ⟨⟨mo_gr _ _ _ _, Or.inl (ok_gr (C := RX9) (T := TX9) (N := 20) (ci := 9) (k := 17) rfl inX9 (by decide) fl_X9_60 (by decide +kernel) (by decide +kernel))⟩,
  List.forall_mem_cons.mpr ⟨⟨mo_ic _ _, Or.inl (ok_iconst (n := 0) (v := 0) (by decide) (by decide +kernel))⟩,
  List.forall_mem_cons.mpr ⟨⟨mo_ald _ _ _, Or.inl (ok_iald (by decide +kernel))⟩,
  List.forall_mem_cons.mpr ⟨⟨mo_go _, Or.inl (ok_goto (off := 4) (by decide) (by decide +kernel))⟩,
  List.forall_mem_cons.mpr ⟨⟨mo_ic _ _, Or.inl (ok_iconst (n := 0) (v := 0) (by decide) (by decide +kernel))⟩,
  List.forall_mem_cons.mpr ⟨⟨mo_reti, Or.inr (Or.inr (ok_reti rfl (by decide +kernel)))⟩,
  fun _ h => absurd h List.not_mem_nil⟩⟩⟩⟩⟩⟩⟩⟩⟩⟩⟩
def t_X9_evaluate : List (Nat × am_F) := t_X9_evaluate_0 ++ (t_X9_evaluate_1 ++ (t_X9_evaluate_2 ++ (t_X9_evaluate_3 ++ (t_X9_evaluate_4))))
theorem o_X9_evaluate : ∀ q ∈ t_X9_evaluate, am_ok vwCl q_SH ξ (q_E ξ β xs L) q_EN q_KD q_ML (cX9_evaluate, 8, RX9, "evaluate", (some .int), []) q.1 q.2 := List.forall_mem_append.mpr ⟨o_X9_evaluate_0, List.forall_mem_append.mpr ⟨o_X9_evaluate_1, List.forall_mem_append.mpr ⟨o_X9_evaluate_2, List.forall_mem_append.mpr ⟨o_X9_evaluate_3, o_X9_evaluate_4⟩⟩⟩⟩
def t_X9_join_0 : List (Nat × am_F) := [(0, im_il 0 1), (1, im_sw (q_lsw 1 127 [(-201, 113), (-61, 102), (-60, 91), (-47, 79), (-45, 71), (-43, 67), (-42, 75)])), (68, im_il 1 69), (69, im_il 2 70), (70, im_bin (fun x y => x + y) 71), (71, im_reti), (72, im_il 1 73), (73, im_il 2 74), (74, im_bin (fun x y => x - y) 75), (75, im_reti), (76, im_il 1 77), (77, im_il 2 78), (78, im_bin (fun x y => x * y) 79), (79, im_reti), (80, im_il 2 81), (81, im_if1 ib_ne 88 84), (84, im_ic 0 85), (85, im_go 91), (88, im_il 1 89), (89, im_il 2 90)]
set_option maxRecDepth 20000 in
theorem o_X9_join_0 : ∀ q ∈ t_X9_join_0, am_ok vwCl q_SH ξ (q_E ξ β xs L) q_EN q_KD q_ML (cX9_join, 3, RX9, "join", (some .int), []) q.1 q.2 :=
  List.forall_mem_cons.mpr ⟨⟨mo_il _ _, Or.inl (ok_iload_n (k := 0) rfl (by decide +kernel))⟩,
  List.forall_mem_cons.mpr ⟨⟨mo_sw (q_lsw 1 127 [(-201, 113), (-61, 102), (-60, 91), (-47, 79), (-45, 71), (-43, 67), (-42, 75)]), Or.inl (ok_lsw (len := 67) (by decide) (by decide) (by decide) (by decide +kernel))⟩,
  List.forall_mem_cons.mpr ⟨⟨mo_il _ _, Or.inl (ok_iload_n (k := 1) rfl (by decide +kernel))⟩,
  List.forall_mem_cons.mpr ⟨⟨mo_il _ _, Or.inl (ok_iload_n (k := 2) rfl (by decide +kernel))⟩,
  List.forall_mem_cons.mpr ⟨⟨mo_bin _ _, Or.inl (ok_iadd (by decide +kernel))⟩,
  List.forall_mem_cons.mpr ⟨⟨mo_reti, Or.inr (Or.inr (ok_reti rfl (by decide +kernel)))⟩,
  List.forall_mem_cons.mpr ⟨⟨mo_il _ _, Or.inl (ok_iload_n (k := 1) rfl (by decide +kernel))⟩,
  List.forall_mem_cons.mpr ⟨⟨mo_il _ _, Or.inl (ok_iload_n (k := 2) rfl (by decide +kernel))⟩,
  List.forall_mem_cons.mpr ⟨⟨mo_bin _ _, Or.inl (ok_isub (by decide +kernel))⟩,
  List.forall_mem_cons.mpr ⟨⟨mo_reti, Or.inr (Or.inr (ok_reti rfl (by decide +kernel)))⟩,
  List.forall_mem_cons.mpr ⟨⟨mo_il _ _, Or.inl (ok_iload_n (k := 1) rfl (by decide +kernel))⟩,
  List.forall_mem_cons.mpr ⟨⟨mo_il _ _, Or.inl (ok_iload_n (k := 2) rfl (by decide +kernel))⟩,
  List.forall_mem_cons.mpr ⟨⟨mo_bin _ _, Or.inl (ok_imul (by decide +kernel))⟩,
  List.forall_mem_cons.mpr ⟨⟨mo_reti, Or.inr (Or.inr (ok_reti rfl (by decide +kernel)))⟩,
  List.forall_mem_cons.mpr ⟨⟨mo_il _ _, Or.inl (ok_iload_n (k := 2) rfl (by decide +kernel))⟩,
  List.forall_mem_cons.mpr ⟨⟨mo_if1 _ _ _, Or.inl (ok_if_ne (off := 7) (by decide) (by decide +kernel))⟩,
  List.forall_mem_cons.mpr ⟨⟨mo_ic _ _, Or.inl (ok_iconst (n := 0) (v := 0) (by decide) (by decide +kernel))⟩,
  List.forall_mem_cons.mpr ⟨⟨mo_go _, Or.inl (ok_goto (off := 6) (by decide) (by decide +kernel))⟩,
  List.forall_mem_cons.mpr ⟨⟨mo_il _ _, Or.inl (ok_iload_n (k := 1) rfl (by decide +kernel))⟩,
  List.forall_mem_cons.mpr ⟨⟨mo_il _ _, Or.inl (ok_iload_n (k := 2) rfl (by decide +kernel))⟩,
  fun _ h => absurd h List.not_mem_nil⟩⟩⟩⟩⟩⟩⟩⟩⟩⟩⟩⟩⟩⟩⟩⟩⟩⟩⟩⟩
def t_X9_join_1 : List (Nat × am_F) := [(90, im_div (fun x y => x / y) 91), (91, im_reti), (92, im_il 1 93), (93, im_il 2 94), (94, im_if2 ic_ge 101 97), (97, im_ic 1 98), (98, im_go 102), (101, im_ic 0 102), (102, im_reti), (103, im_il 1 104), (104, im_il 2 105), (105, im_if2 ic_ne 112 108), (108, im_ic 1 109), (109, im_go 113), (112, im_ic 0 113), (113, im_reti), (114, im_il 1 115), (115, im_if1 ib_eq 126 118), (118, im_il 2 119), (119, im_if1 ib_eq 126 122)]
set_option maxRecDepth 20000 in
theorem o_X9_join_1 : ∀ q ∈ t_X9_join_1, am_ok vwCl q_SH ξ (q_E ξ β xs L) q_EN q_KD q_ML (cX9_join, 3, RX9, "join", (some .int), []) q.1 q.2 :=
  List.forall_mem_cons.mpr ⟨⟨mo_div _ _, Or.inl (ok_idiv (by decide +kernel))⟩,
  List.forall_mem_cons.mpr ⟨⟨mo_reti, Or.inr (Or.inr (ok_reti rfl (by decide +kernel)))⟩,
  List.forall_mem_cons.mpr ⟨⟨mo_il _ _, Or.inl (ok_iload_n (k := 1) rfl (by decide +kernel))⟩,
  List.forall_mem_cons.mpr ⟨⟨mo_il _ _, Or.inl (ok_iload_n (k := 2) rfl (by decide +kernel))⟩,
  List.forall_mem_cons.mpr ⟨⟨mo_if2 _ _ _, Or.inl (ok_icmp_ge (off := 7) (by decide) (by decide +kernel))⟩,
  List.forall_mem_cons.mpr ⟨⟨mo_ic _ _, Or.inl (ok_iconst (n := 1) (v := 1) (by decide) (by decide +kernel))⟩,
  List.forall_mem_cons.mpr ⟨⟨mo_go _, Or.inl (ok_goto (off := 4) (by decide) (by decide +kernel))⟩,
  List.forall_mem_cons.mpr ⟨⟨mo_ic _ _, Or.inl (ok_iconst (n := 0) (v := 0) (by decide) (by decide +kernel))⟩,
  List.forall_mem_cons.mpr ⟨⟨mo_reti, Or.inr (Or.inr (ok_reti rfl (by decide +kernel)))⟩,
  List.forall_mem_cons.mpr ⟨⟨mo_il _ _, Or.inl (ok_iload_n (k := 1) rfl (by decide +kernel))⟩,
  List.forall_mem_cons.mpr ⟨⟨mo_il _ _, Or.inl (ok_iload_n (k := 2) rfl (by decide +kernel))⟩,
  List.forall_mem_cons.mpr ⟨⟨mo_if2 _ _ _, Or.inl (ok_icmp_ne (off := 7) (by decide) (by decide +kernel))⟩,
  List.forall_mem_cons.mpr ⟨⟨mo_ic _ _, Or.inl (ok_iconst (n := 1) (v := 1) (by decide) (by decide +kernel))⟩,
  List.forall_mem_cons.mpr ⟨⟨mo_go _, Or.inl (ok_goto (off := 4) (by decide) (by decide +kernel))⟩,
  List.forall_mem_cons.mpr ⟨⟨mo_ic _ _, Or.inl (ok_iconst (n := 0) (v := 0) (by decide) (by decide +kernel))⟩,
  List.forall_mem_cons.mpr ⟨⟨mo_reti, Or.inr (Or.inr (ok_reti rfl (by decide +kernel)))⟩,
  List.forall_mem_cons.mpr ⟨⟨mo_il _ _, Or.inl (ok_iload_n (k := 1) rfl (by decide +kernel))⟩,
  List.forall_mem_cons.mpr ⟨⟨mo_if1 _ _ _, Or.inl (ok_if_eq (off := 11) (by decide) (by decide +kernel))⟩,
  List.forall_mem_cons.mpr ⟨⟨mo_il _ _, Or.inl (ok_iload_n (k := 2) rfl (by decide +kernel))⟩,
  List.forall_mem_cons.mpr ⟨⟨mo_if1 _ _ _, Or.inl (ok_if_eq (off := 7) (by decide) (by decide +kernel))⟩,
  fun _ h => absurd h List.not_mem_nil⟩⟩⟩⟩⟩⟩⟩⟩⟩⟩⟩⟩⟩⟩⟩⟩⟩⟩⟩⟩
def t_X9_join_2 : List (Nat × am_F) := [(122, im_ic 1 123), (123, im_go 127), (126, im_ic 0 127), (127, im_reti), (128, im_il 1 129), (129, im_if1 ib_ne 136 132), (132, im_il 2 133), (133, im_if1 ib_eq 140 136), (136, im_ic 1 137), (137, im_go 141), (140, im_ic 0 141), (141, im_reti)]
set_option maxRecDepth 20000 in
theorem o_X9_join_2 : ∀ q ∈ t_X9_join_2, am_ok vwCl q_SH ξ (q_E ξ β xs L) q_EN q_KD q_ML (cX9_join, 3, RX9, "join", (some .int), []) q.1 q.2 :=
  List.forall_mem_cons.mpr ⟨⟨mo_ic _ _, Or.inl (ok_iconst (n := 1) (v := 1) (by decide) (by decide +kernel))⟩,
  List.forall_mem_cons.mpr ⟨⟨mo_go _, Or.inl (ok_goto (off := 4) (by decide) (by decide +kernel))⟩,
  List.forall_mem_cons.mpr ⟨⟨mo_ic _ _, Or.inl (ok_iconst (n := 0) (v := 0) (by decide) (by decide +kernel))⟩,
  List.forall_mem_cons.mpr ⟨⟨mo_reti, Or.inr (Or.inr (ok_reti rfl (by decide +kernel)))⟩,
  List.forall_mem_cons.mpr ⟨⟨mo_il _ _, Or.inl (ok_iload_n (k := 1) rfl (by decide +kernel))⟩,
  List.forall_mem_cons.mpr ⟨⟨mo_if1 _ _ _, Or.inl (ok_if_ne (off := 7) (by decide) (by decide +kernel))⟩,
  List.forall_mem_cons.mpr ⟨⟨mo_il _ _, Or.inl (ok_iload_n (k := 2) rfl (by decide +kernel))⟩,
  List.forall_mem_cons.mpr ⟨⟨mo_if1 _ _ _, Or.inl (ok_if_eq (off := 7) (by decide) (by decide +kernel))⟩,
  List.forall_mem_cons.mpr ⟨⟨mo_ic _ _, Or.inl (ok_iconst (n := 1) (v := 1) (by decide) (by decide +kernel))⟩,
  List.forall_mem_cons.mpr ⟨⟨mo_go _, Or.inl (ok_goto (off := 4) (by decide) (by decide +kernel))⟩,
  List.forall_mem_cons.mpr ⟨⟨mo_ic _ _, Or.inl (ok_iconst (n := 0) (v := 0) (by decide) (by decide +kernel))⟩,
  List.forall_mem_cons.mpr ⟨⟨mo_reti, Or.inr (Or.inr (ok_reti rfl (by decide +kernel)))⟩,
  fun _ h => absurd h List.not_mem_nil⟩⟩⟩⟩⟩⟩⟩⟩⟩⟩⟩⟩
def t_X9_join : List (Nat × am_F) := t_X9_join_0 ++ (t_X9_join_1 ++ (t_X9_join_2))
theorem o_X9_join : ∀ q ∈ t_X9_join, am_ok vwCl q_SH ξ (q_E ξ β xs L) q_EN q_KD q_ML (cX9_join, 3, RX9, "join", (some .int), []) q.1 q.2 := List.forall_mem_append.mpr ⟨o_X9_join_0, List.forall_mem_append.mpr ⟨o_X9_join_1, o_X9_join_2⟩⟩
def t_X9_valueOf_0 : List (Nat × am_F) := [(0, im_al 0 1), (1, im_gr q_SH 9 0 4), (4, im_gr q_SH 7 1 7), (7, im_il 2 8), (8, im_ald q_SH .int 9), (9, im_is 4 11), (11, im_al 0 12), (12, im_gr q_SH 9 0 15), (15, im_gr q_SH 7 2 18), (18, im_il 2 19), (19, im_ald q_SH .int 20), (20, im_is 5 22), (22, im_il 1 23), (23, im_sw (q_sw 0 11 [84, 168, 189, 210, 287, 360, 370, 402, 457, 468, 484, 501] 513)), (84, im_al 0 85), (85, im_gr q_SH 9 6 88), (88, im_gi q_SH 4 1 91), (91, im_if1 ib_eq 116 94), (94, im_al 0 95), (95, im_gr q_SH 9 6 98)]
set_option maxRecDepth 20000 in
theorem o_X9_valueOf_0 : ∀ q ∈ t_X9_valueOf_0, am_ok vwCl q_SH ξ (q_E ξ β xs L) q_EN q_KD q_ML (cX9_valueOf, 11, RX9, "valueOf", (some .int), []) q.1 q.2 :=
  List.forall_mem_cons.mpr ⟨⟨mo_al _ _, Or.inl (ok_aload_n (k := 0) rfl (by decide +kernel))⟩,
  List.forall_mem_cons.mpr ⟨⟨mo_gr _ _ _ _, Or.inl (ok_gr (C := RX9) (T := TX9) (N := 20) (ci := 9) (k := 0) rfl inX9 (by decide) fl_X9_67 (by decide +kernel) (by decide +kernel))⟩,
  List.forall_mem_cons.mpr ⟨⟨mo_gr _ _ _ _, Or.inl (ok_gr (C := RX7) (T := TX7) (N := 4) (ci := 7) (k := 1) rfl inX7 (by decide) fl_X9_288 (by decide +kernel) (by decide +kernel))⟩,
  List.forall_mem_cons.mpr ⟨⟨mo_il _ _, Or.inl (ok_iload_n (k := 2) rfl (by decide +kernel))⟩,
  List.forall_mem_cons.mpr ⟨⟨mo_ald _ _ _, Or.inl (ok_iald (by decide +kernel))⟩,
  List.forall_mem_cons.mpr ⟨⟨mo_is _ _, Or.inl (ok_istore (by decide) (by decide +kernel))⟩,
  List.forall_mem_cons.mpr ⟨⟨mo_al _ _, Or.inl (ok_aload_n (k := 0) rfl (by decide +kernel))⟩,
  List.forall_mem_cons.mpr ⟨⟨mo_gr _ _ _ _, Or.inl (ok_gr (C := RX9) (T := TX9) (N := 20) (ci := 9) (k := 0) rfl inX9 (by decide) fl_X9_67 (by decide +kernel) (by decide +kernel))⟩,
  List.forall_mem_cons.mpr ⟨⟨mo_gr _ _ _ _, Or.inl (ok_gr (C := RX7) (T := TX7) (N := 4) (ci := 7) (k := 2) rfl inX7 (by decide) fl_X9_291 (by decide +kernel) (by decide +kernel))⟩,
  List.forall_mem_cons.mpr ⟨⟨mo_il _ _, Or.inl (ok_iload_n (k := 2) rfl (by decide +kernel))⟩,
  List.forall_mem_cons.mpr ⟨⟨mo_ald _ _ _, Or.inl (ok_iald (by decide +kernel))⟩,
  List.forall_mem_cons.mpr ⟨⟨mo_is _ _, Or.inl (ok_istore (by decide) (by decide +kernel))⟩,
  List.forall_mem_cons.mpr ⟨⟨mo_il _ _, Or.inl (ok_iload_n (k := 1) rfl (by decide +kernel))⟩,
  List.forall_mem_cons.mpr ⟨⟨mo_sw (q_sw 0 11 [84, 168, 189, 210, 287, 360, 370, 402, 457, 468, 484, 501] 513), Or.inl (ok_tsw (dflt := 490) (offs := #[61, 145, 166, 187, 264, 337, 347, 379, 434, 445, 461, 478]) (len := 61) (by decide) (by decide +kernel) (by decide) (by decide +kernel))⟩,
  List.forall_mem_cons.mpr ⟨⟨mo_al _ _, Or.inl (ok_aload_n (k := 0) rfl (by decide +kernel))⟩,
  List.forall_mem_cons.mpr ⟨⟨mo_gr _ _ _ _, Or.inl (ok_gr (C := RX9) (T := TX9) (N := 20) (ci := 9) (k := 6) rfl inX9 (by decide) fl_X9_21 (by decide +kernel) (by decide +kernel))⟩,
  List.forall_mem_cons.mpr ⟨⟨mo_gi _ _ _ _, Or.inl (ok_gi (C := RX4) (T := TX4) (N := 12) (ci := 4) (k := 1) rfl inX4 (by decide) fl_X9_199 (by decide +kernel) (by decide +kernel))⟩,
  List.forall_mem_cons.mpr ⟨⟨mo_if1 _ _ _, Or.inl (ok_if_eq (off := 25) (by decide) (by decide +kernel))⟩,
  List.forall_mem_cons.mpr ⟨⟨mo_al _ _, Or.inl (ok_aload_n (k := 0) rfl (by decide +kernel))⟩,
  List.forall_mem_cons.mpr ⟨⟨mo_gr _ _ _ _, Or.inl (ok_gr (C := RX9) (T := TX9) (N := 20) (ci := 9) (k := 6) rfl inX9 (by decide) fl_X9_21 (by decide +kernel) (by decide +kernel))⟩,
  fun _ h => absurd h List.not_mem_nil⟩⟩⟩⟩⟩⟩⟩⟩⟩⟩⟩⟩⟩⟩⟩⟩⟩⟩⟩⟩
def t_X9_valueOf_1 : List (Nat × am_F) := [(98, im_gi q_SH 4 1 101), (101, im_ic 1 102), (102, im_if2 ic_eq 116 105), (105, im_al 0 106), (106, im_gr q_SH 9 6 109), (109, im_gi q_SH 4 1 112), (112, im_ic 5 113), (113, im_if2 ic_ne 120 116), (116, im_ic 1 117), (117, im_go 121), (120, im_ic 0 121), (121, im_is 6 123), (123, im_il 6 125), (125, im_if1 ib_eq 138 128), (128, im_al 0 129), (129, im_gr q_SH 9 6 132), (132, im_gi q_SH 4 2 135), (135, im_go 144), (138, im_al 0 139), (139, im_gr q_SH 9 12 142)]
set_option maxRecDepth 20000 in
theorem o_X9_valueOf_1 : ∀ q ∈ t_X9_valueOf_1, am_ok vwCl q_SH ξ (q_E ξ β xs L) q_EN q_KD q_ML (cX9_valueOf, 11, RX9, "valueOf", (some .int), []) q.1 q.2 :=
  List.forall_mem_cons.mpr ⟨⟨mo_gi _ _ _ _, Or.inl (ok_gi (C := RX4) (T := TX4) (N := 12) (ci := 4) (k := 1) rfl inX4 (by decide) fl_X9_199 (by decide +kernel) (by decide +kernel))⟩,
  List.forall_mem_cons.mpr ⟨⟨mo_ic _ _, Or.inl (ok_iconst (n := 1) (v := 1) (by decide) (by decide +kernel))⟩,
  List.forall_mem_cons.mpr ⟨⟨mo_if2 _ _ _, Or.inl (ok_icmp_eq (off := 14) (by decide) (by decide +kernel))⟩,
  List.forall_mem_cons.mpr ⟨⟨mo_al _ _, Or.inl (ok_aload_n (k := 0) rfl (by decide +kernel))⟩,
  List.forall_mem_cons.mpr ⟨⟨mo_gr _ _ _ _, Or.inl (ok_gr (C := RX9) (T := TX9) (N := 20) (ci := 9) (k := 6) rfl inX9 (by decide) fl_X9_21 (by decide +kernel) (by decide +kernel))⟩,
  List.forall_mem_cons.mpr ⟨⟨mo_gi _ _ _ _, Or.inl (ok_gi (C := RX4) (T := TX4) (N := 12) (ci := 4) (k := 1) rfl inX4 (by decide) fl_X9_199 (by decide +kernel) (by decide +kernel))⟩,
  List.forall_mem_cons.mpr ⟨⟨mo_ic _ _, Or.inl (ok_iconst (n := 5) (v := 5) (by decide) (by decide +kernel))⟩,
  List.forall_mem_cons.mpr ⟨⟨mo_if2 _ _ _, Or.inl (ok_icmp_ne (off := 7) (by decide) (by decide +kernel))⟩,
  List.forall_mem_cons.mpr ⟨⟨mo_ic _ _, Or.inl (ok_iconst (n := 1) (v := 1) (by decide) (by decide +kernel))⟩,
  List.forall_mem_cons.mpr ⟨⟨mo_go _, Or.inl (ok_goto (off := 4) (by decide) (by decide +kernel))⟩,
  List.forall_mem_cons.mpr ⟨⟨mo_ic _ _, Or.inl (ok_iconst (n := 0) (v := 0) (by decide) (by decide +kernel))⟩,
  List.forall_mem_cons.mpr ⟨⟨mo_is _ _, Or.inl (ok_istore (by decide) (by decide +kernel))⟩,
  List.forall_mem_cons.mpr ⟨⟨mo_il _ _, Or.inl (ok_iload (by decide +kernel))⟩,
  List.forall_mem_cons.mpr ⟨⟨mo_if1 _ _ _, Or.inl (ok_if_eq (off := 13) (by decide) (by decide +kernel))⟩,
  List.forall_mem_cons.mpr ⟨⟨mo_al _ _, Or.inl (ok_aload_n (k := 0) rfl (by decide +kernel))⟩,
  List.forall_mem_cons.mpr ⟨⟨mo_gr _ _ _ _, Or.inl (ok_gr (C := RX9) (T := TX9) (N := 20) (ci := 9) (k := 6) rfl inX9 (by decide) fl_X9_21 (by decide +kernel) (by decide +kernel))⟩,
  List.forall_mem_cons.mpr ⟨⟨mo_gi _ _ _ _, Or.inl (ok_gi (C := RX4) (T := TX4) (N := 12) (ci := 4) (k := 2) rfl inX4 (by decide) fl_X9_202 (by decide +kernel) (by decide +kernel))⟩,
  List.forall_mem_cons.mpr ⟨⟨mo_go _, Or.inl (ok_goto (off := 9) (by decide) (by decide +kernel))⟩,
  List.forall_mem_cons.mpr ⟨⟨mo_al _ _, Or.inl (ok_aload_n (k := 0) rfl (by decide +kernel))⟩,
  List.forall_mem_cons.mpr ⟨⟨mo_gr _ _ _ _, Or.inl (ok_gr (C := RX9) (T := TX9) (N := 20) (ci := 9) (k := 12) rfl inX9 (by decide) fl_X9_45 (by decide +kernel) (by decide +kernel))⟩,
  fun _ h => absurd h List.not_mem_nil⟩⟩⟩⟩⟩⟩⟩⟩⟩⟩⟩⟩⟩⟩⟩⟩⟩⟩⟩⟩
def t_X9_valueOf_2 : List (Nat × am_F) := [(142, im_il 2 143), (143, im_ald q_SH .int 144), (144, im_is 7 146), (146, im_il 7 148), (148, im_if1 ib_lt 166 151), (151, im_al 0 152), (152, im_gr q_SH 9 14 155), (155, im_il 7 157), (157, im_ald q_SH .int 158), (158, im_il 3 159), (159, im_if2 ic_ne 166 162), (162, im_ic 1 163), (163, im_go 167), (166, im_ic 0 167), (167, im_reti), (168, im_il 4 170), (170, im_if1 ib_lt 187 173), (173, im_al 0 174), (174, im_gr q_SH 9 8 177), (177, im_il 4 179)]
set_option maxRecDepth 20000 in
theorem o_X9_valueOf_2 : ∀ q ∈ t_X9_valueOf_2, am_ok vwCl q_SH ξ (q_E ξ β xs L) q_EN q_KD q_ML (cX9_valueOf, 11, RX9, "valueOf", (some .int), []) q.1 q.2 :=
  List.forall_mem_cons.mpr ⟨⟨mo_il _ _, Or.inl (ok_iload_n (k := 2) rfl (by decide +kernel))⟩,
  List.forall_mem_cons.mpr ⟨⟨mo_ald _ _ _, Or.inl (ok_iald (by decide +kernel))⟩,
  List.forall_mem_cons.mpr ⟨⟨mo_is _ _, Or.inl (ok_istore (by decide) (by decide +kernel))⟩,
  List.forall_mem_cons.mpr ⟨⟨mo_il _ _, Or.inl (ok_iload (by decide +kernel))⟩,
  List.forall_mem_cons.mpr ⟨⟨mo_if1 _ _ _, Or.inl (ok_if_lt (off := 18) (by decide) (by decide +kernel))⟩,
  List.forall_mem_cons.mpr ⟨⟨mo_al _ _, Or.inl (ok_aload_n (k := 0) rfl (by decide +kernel))⟩,
  List.forall_mem_cons.mpr ⟨⟨mo_gr _ _ _ _, Or.inl (ok_gr (C := RX9) (T := TX9) (N := 20) (ci := 9) (k := 14) rfl inX9 (by decide) fl_X9_51 (by decide +kernel) (by decide +kernel))⟩,
  List.forall_mem_cons.mpr ⟨⟨mo_il _ _, Or.inl (ok_iload (by decide +kernel))⟩,
  List.forall_mem_cons.mpr ⟨⟨mo_ald _ _ _, Or.inl (ok_iald (by decide +kernel))⟩,
  List.forall_mem_cons.mpr ⟨⟨mo_il _ _, Or.inl (ok_iload_n (k := 3) rfl (by decide +kernel))⟩,
  List.forall_mem_cons.mpr ⟨⟨mo_if2 _ _ _, Or.inl (ok_icmp_ne (off := 7) (by decide) (by decide +kernel))⟩,
  List.forall_mem_cons.mpr ⟨⟨mo_ic _ _, Or.inl (ok_iconst (n := 1) (v := 1) (by decide) (by decide +kernel))⟩,
  List.forall_mem_cons.mpr ⟨⟨mo_go _, Or.inl (ok_goto (off := 4) (by decide) (by decide +kernel))⟩,
  List.forall_mem_cons.mpr ⟨⟨mo_ic _ _, Or.inl (ok_iconst (n := 0) (v := 0) (by decide) (by decide +kernel))⟩,
  List.forall_mem_cons.mpr ⟨⟨mo_reti, Or.inr (Or.inr (ok_reti rfl (by decide +kernel)))⟩,
  List.forall_mem_cons.mpr ⟨⟨mo_il _ _, Or.inl (ok_iload (by decide +kernel))⟩,
  List.forall_mem_cons.mpr ⟨⟨mo_if1 _ _ _, Or.inl (ok_if_lt (off := 17) (by decide) (by decide +kernel))⟩,
  List.forall_mem_cons.mpr ⟨⟨mo_al _ _, Or.inl (ok_aload_n (k := 0) rfl (by decide +kernel))⟩,
  List.forall_mem_cons.mpr ⟨⟨mo_gr _ _ _ _, Or.inl (ok_gr (C := RX9) (T := TX9) (N := 20) (ci := 9) (k := 8) rfl inX9 (by decide) fl_X9_32 (by decide +kernel) (by decide +kernel))⟩,
  List.forall_mem_cons.mpr ⟨⟨mo_il _ _, Or.inl (ok_iload (by decide +kernel))⟩,
  fun _ h => absurd h List.not_mem_nil⟩⟩⟩⟩⟩⟩⟩⟩⟩⟩⟩⟩⟩⟩⟩⟩⟩⟩⟩⟩
def t_X9_valueOf_3 : List (Nat × am_F) := [(179, im_ald q_SH .int 180), (180, im_il 3 181), (181, im_bin (fun x y => x >>> (y &&& 31)) 182), (182, im_ic 1 183), (183, im_bin (fun x y => x &&& y) 184), (184, im_go 188), (187, im_ic 0 188), (188, im_reti), (189, im_il 5 191), (191, im_if1 ib_lt 208 194), (194, im_al 0 195), (195, im_gr q_SH 9 8 198), (198, im_il 5 200), (200, im_ald q_SH .int 201), (201, im_il 3 202), (202, im_bin (fun x y => x >>> (y &&& 31)) 203), (203, im_ic 1 204), (204, im_bin (fun x y => x &&& y) 205), (205, im_go 209), (208, im_ic 0 209)]
set_option maxRecDepth 20000 in
theorem o_X9_valueOf_3 : ∀ q ∈ t_X9_valueOf_3, am_ok vwCl q_SH ξ (q_E ξ β xs L) q_EN q_KD q_ML (cX9_valueOf, 11, RX9, "valueOf", (some .int), []) q.1 q.2 :=
  List.forall_mem_cons.mpr ⟨⟨mo_ald _ _ _, Or.inl (ok_iald (by decide +kernel))⟩,
  List.forall_mem_cons.mpr ⟨⟨mo_il _ _, Or.inl (ok_iload_n (k := 3) rfl (by decide +kernel))⟩,
  List.forall_mem_cons.mpr ⟨⟨mo_bin _ _, Or.inl (ok_ishr (by decide +kernel))⟩,
  List.forall_mem_cons.mpr ⟨⟨mo_ic _ _, Or.inl (ok_iconst (n := 1) (v := 1) (by decide) (by decide +kernel))⟩,
  List.forall_mem_cons.mpr ⟨⟨mo_bin _ _, Or.inl (ok_iand (by decide +kernel))⟩,
  List.forall_mem_cons.mpr ⟨⟨mo_go _, Or.inl (ok_goto (off := 4) (by decide) (by decide +kernel))⟩,
  List.forall_mem_cons.mpr ⟨⟨mo_ic _ _, Or.inl (ok_iconst (n := 0) (v := 0) (by decide) (by decide +kernel))⟩,
  List.forall_mem_cons.mpr ⟨⟨mo_reti, Or.inr (Or.inr (ok_reti rfl (by decide +kernel)))⟩,
  List.forall_mem_cons.mpr ⟨⟨mo_il _ _, Or.inl (ok_iload (by decide +kernel))⟩,
  List.forall_mem_cons.mpr ⟨⟨mo_if1 _ _ _, Or.inl (ok_if_lt (off := 17) (by decide) (by decide +kernel))⟩,
  List.forall_mem_cons.mpr ⟨⟨mo_al _ _, Or.inl (ok_aload_n (k := 0) rfl (by decide +kernel))⟩,
  List.forall_mem_cons.mpr ⟨⟨mo_gr _ _ _ _, Or.inl (ok_gr (C := RX9) (T := TX9) (N := 20) (ci := 9) (k := 8) rfl inX9 (by decide) fl_X9_32 (by decide +kernel) (by decide +kernel))⟩,
  List.forall_mem_cons.mpr ⟨⟨mo_il _ _, Or.inl (ok_iload (by decide +kernel))⟩,
  List.forall_mem_cons.mpr ⟨⟨mo_ald _ _ _, Or.inl (ok_iald (by decide +kernel))⟩,
  List.forall_mem_cons.mpr ⟨⟨mo_il _ _, Or.inl (ok_iload_n (k := 3) rfl (by decide +kernel))⟩,
  List.forall_mem_cons.mpr ⟨⟨mo_bin _ _, Or.inl (ok_ishr (by decide +kernel))⟩,
  List.forall_mem_cons.mpr ⟨⟨mo_ic _ _, Or.inl (ok_iconst (n := 1) (v := 1) (by decide) (by decide +kernel))⟩,
  List.forall_mem_cons.mpr ⟨⟨mo_bin _ _, Or.inl (ok_iand (by decide +kernel))⟩,
  List.forall_mem_cons.mpr ⟨⟨mo_go _, Or.inl (ok_goto (off := 4) (by decide) (by decide +kernel))⟩,
  List.forall_mem_cons.mpr ⟨⟨mo_ic _ _, Or.inl (ok_iconst (n := 0) (v := 0) (by decide) (by decide +kernel))⟩,
  fun _ h => absurd h List.not_mem_nil⟩⟩⟩⟩⟩⟩⟩⟩⟩⟩⟩⟩⟩⟩⟩⟩⟩⟩⟩⟩
def t_X9_valueOf_4 : List (Nat × am_F) := [(209, im_reti), (210, im_al 0 211), (211, im_gr q_SH 9 6 214), (214, im_gi q_SH 4 1 217), (217, im_if1 ib_eq 235 220), (220, im_al 0 221), (221, im_gr q_SH 9 11 224), (224, im_il 2 225), (225, im_ald q_SH .int 226), (226, im_if1 ib_lt 233 229), (229, im_ic 1 230), (230, im_go 234), (233, im_ic 0 234), (234, im_reti), (235, im_il 4 237), (237, im_if1 ib_lt 249 240), (240, im_il 5 242), (242, im_if1 ib_lt 249 245), (245, im_ic 1 246), (246, im_go 250)]
set_option maxRecDepth 20000 in
theorem o_X9_valueOf_4 : ∀ q ∈ t_X9_valueOf_4, am_ok vwCl q_SH ξ (q_E ξ β xs L) q_EN q_KD q_ML (cX9_valueOf, 11, RX9, "valueOf", (some .int), []) q.1 q.2 :=
  List.forall_mem_cons.mpr ⟨⟨mo_reti, Or.inr (Or.inr (ok_reti rfl (by decide +kernel)))⟩,
  List.forall_mem_cons.mpr ⟨⟨mo_al _ _, Or.inl (ok_aload_n (k := 0) rfl (by decide +kernel))⟩,
  List.forall_mem_cons.mpr ⟨⟨mo_gr _ _ _ _, Or.inl (ok_gr (C := RX9) (T := TX9) (N := 20) (ci := 9) (k := 6) rfl inX9 (by decide) fl_X9_21 (by decide +kernel) (by decide +kernel))⟩,
  List.forall_mem_cons.mpr ⟨⟨mo_gi _ _ _ _, Or.inl (ok_gi (C := RX4) (T := TX4) (N := 12) (ci := 4) (k := 1) rfl inX4 (by decide) fl_X9_199 (by decide +kernel) (by decide +kernel))⟩,
  List.forall_mem_cons.mpr ⟨⟨mo_if1 _ _ _, Or.inl (ok_if_eq (off := 18) (by decide) (by decide +kernel))⟩,
  List.forall_mem_cons.mpr ⟨⟨mo_al _ _, Or.inl (ok_aload_n (k := 0) rfl (by decide +kernel))⟩,
  List.forall_mem_cons.mpr ⟨⟨mo_gr _ _ _ _, Or.inl (ok_gr (C := RX9) (T := TX9) (N := 20) (ci := 9) (k := 11) rfl inX9 (by decide) fl_X9_42 (by decide +kernel) (by decide +kernel))⟩,
  List.forall_mem_cons.mpr ⟨⟨mo_il _ _, Or.inl (ok_iload_n (k := 2) rfl (by decide +kernel))⟩,
  List.forall_mem_cons.mpr ⟨⟨mo_ald _ _ _, Or.inl (ok_iald (by decide +kernel))⟩,
  List.forall_mem_cons.mpr ⟨⟨mo_if1 _ _ _, Or.inl (ok_if_lt (off := 7) (by decide) (by decide +kernel))⟩,
  List.forall_mem_cons.mpr ⟨⟨mo_ic _ _, Or.inl (ok_iconst (n := 1) (v := 1) (by decide) (by decide +kernel))⟩,
  List.forall_mem_cons.mpr ⟨⟨mo_go _, Or.inl (ok_goto (off := 4) (by decide) (by decide +kernel))⟩,
  List.forall_mem_cons.mpr ⟨⟨mo_ic _ _, Or.inl (ok_iconst (n := 0) (v := 0) (by decide) (by decide +kernel))⟩,
  List.forall_mem_cons.mpr ⟨⟨mo_reti, Or.inr (Or.inr (ok_reti rfl (by decide +kernel)))⟩,
  List.forall_mem_cons.mpr ⟨⟨mo_il _ _, Or.inl (ok_iload (by decide +kernel))⟩,
  List.forall_mem_cons.mpr ⟨⟨mo_if1 _ _ _, Or.inl (ok_if_lt (off := 12) (by decide) (by decide +kernel))⟩,
  List.forall_mem_cons.mpr ⟨⟨mo_il _ _, Or.inl (ok_iload (by decide +kernel))⟩,
  List.forall_mem_cons.mpr ⟨⟨mo_if1 _ _ _, Or.inl (ok_if_lt (off := 7) (by decide) (by decide +kernel))⟩,
  List.forall_mem_cons.mpr ⟨⟨mo_ic _ _, Or.inl (ok_iconst (n := 1) (v := 1) (by decide) (by decide +kernel))⟩,
  List.forall_mem_cons.mpr ⟨⟨mo_go _, Or.inl (ok_goto (off := 4) (by decide) (by decide +kernel))⟩,
  fun _ h => absurd h List.not_mem_nil⟩⟩⟩⟩⟩⟩⟩⟩⟩⟩⟩⟩⟩⟩⟩⟩⟩⟩⟩⟩
def t_X9_valueOf_5 : List (Nat × am_F) := [(249, im_ic 0 250), (250, im_is 8 252), (252, im_il 8 254), (254, im_if1 ib_eq 285 257), (257, im_al 0 258), (258, im_gr q_SH 9 11 261), (261, im_il 4 263), (263, im_ald q_SH .int 264), (264, im_il 5 266), (266, im_if2 ic_ne 285 269), (269, im_al 0 270), (270, im_gr q_SH 9 11 273), (273, im_il 5 275), (275, im_ald q_SH .int 276), (276, im_il 4 278), (278, im_if2 ic_ne 285 281), (281, im_ic 1 282), (282, im_go 286), (285, im_ic 0 286), (286, im_reti)]
set_option maxRecDepth 20000 in
theorem o_X9_valueOf_5 : ∀ q ∈ t_X9_valueOf_5, am_ok vwCl q_SH ξ (q_E ξ β xs L) q_EN q_KD q_ML (cX9_valueOf, 11, RX9, "valueOf", (some .int), []) q.1 q.2 :=
  List.forall_mem_cons.mpr ⟨⟨mo_ic _ _, Or.inl (ok_iconst (n := 0) (v := 0) (by decide) (by decide +kernel))⟩,
  List.forall_mem_cons.mpr ⟨⟨mo_is _ _, Or.inl (ok_istore (by decide) (by decide +kernel))⟩,
  List.forall_mem_cons.mpr ⟨⟨mo_il _ _, Or.inl (ok_iload (by decide +kernel))⟩,
  List.forall_mem_cons.mpr ⟨⟨mo_if1 _ _ _, Or.inl (ok_if_eq (off := 31) (by decide) (by decide +kernel))⟩,
  List.forall_mem_cons.mpr ⟨⟨mo_al _ _, Or.inl (ok_aload_n (k := 0) rfl (by decide +kernel))⟩,
  List.forall_mem_cons.mpr ⟨⟨mo_gr _ _ _ _, Or.inl (ok_gr (C := RX9) (T := TX9) (N := 20) (ci := 9) (k := 11) rfl inX9 (by decide) fl_X9_42 (by decide +kernel) (by decide +kernel))⟩,
  List.forall_mem_cons.mpr ⟨⟨mo_il _ _, Or.inl (ok_iload (by decide +kernel))⟩,
  List.forall_mem_cons.mpr ⟨⟨mo_ald _ _ _, Or.inl (ok_iald (by decide +kernel))⟩,
  List.forall_mem_cons.mpr ⟨⟨mo_il _ _, Or.inl (ok_iload (by decide +kernel))⟩,
  List.forall_mem_cons.mpr ⟨⟨mo_if2 _ _ _, Or.inl (ok_icmp_ne (off := 19) (by decide) (by decide +kernel))⟩,
  List.forall_mem_cons.mpr ⟨⟨mo_al _ _, Or.inl (ok_aload_n (k := 0) rfl (by decide +kernel))⟩,
  List.forall_mem_cons.mpr ⟨⟨mo_gr _ _ _ _, Or.inl (ok_gr (C := RX9) (T := TX9) (N := 20) (ci := 9) (k := 11) rfl inX9 (by decide) fl_X9_42 (by decide +kernel) (by decide +kernel))⟩,
  List.forall_mem_cons.mpr ⟨⟨mo_il _ _, Or.inl (ok_iload (by decide +kernel))⟩,
  List.forall_mem_cons.mpr ⟨⟨mo_ald _ _ _, Or.inl (ok_iald (by decide +kernel))⟩,
  List.forall_mem_cons.mpr ⟨⟨mo_il _ _, Or.inl (ok_iload (by decide +kernel))⟩,
  List.forall_mem_cons.mpr ⟨⟨mo_if2 _ _ _, Or.inl (ok_icmp_ne (off := 7) (by decide) (by decide +kernel))⟩,
  List.forall_mem_cons.mpr ⟨⟨mo_ic _ _, Or.inl (ok_iconst (n := 1) (v := 1) (by decide) (by decide +kernel))⟩,
  List.forall_mem_cons.mpr ⟨⟨mo_go _, Or.inl (ok_goto (off := 4) (by decide) (by decide +kernel))⟩,
  List.forall_mem_cons.mpr ⟨⟨mo_ic _ _, Or.inl (ok_iconst (n := 0) (v := 0) (by decide) (by decide +kernel))⟩,
  List.forall_mem_cons.mpr ⟨⟨mo_reti, Or.inr (Or.inr (ok_reti rfl (by decide +kernel)))⟩,
  fun _ h => absurd h List.not_mem_nil⟩⟩⟩⟩⟩⟩⟩⟩⟩⟩⟩⟩⟩⟩⟩⟩⟩⟩⟩⟩
def t_X9_valueOf_6 : List (Nat × am_F) := [(287, im_al 0 288), (288, im_gr q_SH 9 6 291), (291, im_gi q_SH 4 1 294), (294, im_ic 1 295), (295, im_if2 ic_ne 331 298), (298, im_il 2 299), (299, im_al 0 300), (300, im_gr q_SH 9 6 303), (303, im_gi q_SH 4 6 306), (306, im_if2 ic_ne 319 309), (309, im_al 0 310), (310, im_gr q_SH 9 6 313), (313, im_gi q_SH 4 9 316), (316, im_go 326), (319, im_al 0 320), (320, im_gr q_SH 9 6 323), (323, im_gi q_SH 4 8 326), (326, im_il 3 327), (327, im_bin (fun x y => x >>> (y &&& 31)) 328), (328, im_ic 1 329)]
set_option maxRecDepth 20000 in
theorem o_X9_valueOf_6 : ∀ q ∈ t_X9_valueOf_6, am_ok vwCl q_SH ξ (q_E ξ β xs L) q_EN q_KD q_ML (cX9_valueOf, 11, RX9, "valueOf", (some .int), []) q.1 q.2 :=
  List.forall_mem_cons.mpr ⟨⟨mo_al _ _, Or.inl (ok_aload_n (k := 0) rfl (by decide +kernel))⟩,
  List.forall_mem_cons.mpr ⟨⟨mo_gr _ _ _ _, Or.inl (ok_gr (C := RX9) (T := TX9) (N := 20) (ci := 9) (k := 6) rfl inX9 (by decide) fl_X9_21 (by decide +kernel) (by decide +kernel))⟩,
  List.forall_mem_cons.mpr ⟨⟨mo_gi _ _ _ _, Or.inl (ok_gi (C := RX4) (T := TX4) (N := 12) (ci := 4) (k := 1) rfl inX4 (by decide) fl_X9_199 (by decide +kernel) (by decide +kernel))⟩,
  List.forall_mem_cons.mpr ⟨⟨mo_ic _ _, Or.inl (ok_iconst (n := 1) (v := 1) (by decide) (by decide +kernel))⟩,
  List.forall_mem_cons.mpr ⟨⟨mo_if2 _ _ _, Or.inl (ok_icmp_ne (off := 36) (by decide) (by decide +kernel))⟩,
  List.forall_mem_cons.mpr ⟨⟨mo_il _ _, Or.inl (ok_iload_n (k := 2) rfl (by decide +kernel))⟩,
  List.forall_mem_cons.mpr ⟨⟨mo_al _ _, Or.inl (ok_aload_n (k := 0) rfl (by decide +kernel))⟩,
  List.forall_mem_cons.mpr ⟨⟨mo_gr _ _ _ _, Or.inl (ok_gr (C := RX9) (T := TX9) (N := 20) (ci := 9) (k := 6) rfl inX9 (by decide) fl_X9_21 (by decide +kernel) (by decide +kernel))⟩,
  List.forall_mem_cons.mpr ⟨⟨mo_gi _ _ _ _, Or.inl (ok_gi (C := RX4) (T := TX4) (N := 12) (ci := 4) (k := 6) rfl inX4 (by decide) fl_X9_217 (by decide +kernel) (by decide +kernel))⟩,
  List.forall_mem_cons.mpr ⟨⟨mo_if2 _ _ _, Or.inl (ok_icmp_ne (off := 13) (by decide) (by decide +kernel))⟩,
  List.forall_mem_cons.mpr ⟨⟨mo_al _ _, Or.inl (ok_aload_n (k := 0) rfl (by decide +kernel))⟩,
  List.forall_mem_cons.mpr ⟨⟨mo_gr _ _ _ _, Or.inl (ok_gr (C := RX9) (T := TX9) (N := 20) (ci := 9) (k := 6) rfl inX9 (by decide) fl_X9_21 (by decide +kernel) (by decide +kernel))⟩,
  List.forall_mem_cons.mpr ⟨⟨mo_gi _ _ _ _, Or.inl (ok_gi (C := RX4) (T := TX4) (N := 12) (ci := 4) (k := 9) rfl inX4 (by decide) fl_X9_249 (by decide +kernel) (by decide +kernel))⟩,
  List.forall_mem_cons.mpr ⟨⟨mo_go _, Or.inl (ok_goto (off := 10) (by decide) (by decide +kernel))⟩,
  List.forall_mem_cons.mpr ⟨⟨mo_al _ _, Or.inl (ok_aload_n (k := 0) rfl (by decide +kernel))⟩,
  List.forall_mem_cons.mpr ⟨⟨mo_gr _ _ _ _, Or.inl (ok_gr (C := RX9) (T := TX9) (N := 20) (ci := 9) (k := 6) rfl inX9 (by decide) fl_X9_21 (by decide +kernel) (by decide +kernel))⟩,
  List.forall_mem_cons.mpr ⟨⟨mo_gi _ _ _ _, Or.inl (ok_gi (C := RX4) (T := TX4) (N := 12) (ci := 4) (k := 8) rfl inX4 (by decide) fl_X9_246 (by decide +kernel) (by decide +kernel))⟩,
  List.forall_mem_cons.mpr ⟨⟨mo_il _ _, Or.inl (ok_iload_n (k := 3) rfl (by decide +kernel))⟩,
  List.forall_mem_cons.mpr ⟨⟨mo_bin _ _, Or.inl (ok_ishr (by decide +kernel))⟩,
  List.forall_mem_cons.mpr ⟨⟨mo_ic _ _, Or.inl (ok_iconst (n := 1) (v := 1) (by decide) (by decide +kernel))⟩,
  fun _ h => absurd h List.not_mem_nil⟩⟩⟩⟩⟩⟩⟩⟩⟩⟩⟩⟩⟩⟩⟩⟩⟩⟩⟩⟩
def t_X9_valueOf_7 : List (Nat × am_F) := [(329, im_bin (fun x y => x &&& y) 330), (330, im_reti), (331, im_al 0 332), (332, im_gr q_SH 9 11 335), (335, im_il 2 336), (336, im_ald q_SH .int 337), (337, im_if1 ib_lt 358 340), (340, im_al 0 341), (341, im_gr q_SH 9 8 344), (344, im_al 0 345), (345, im_gr q_SH 9 11 348), (348, im_il 2 349), (349, im_ald q_SH .int 350), (350, im_ald q_SH .int 351), (351, im_il 3 352), (352, im_bin (fun x y => x >>> (y &&& 31)) 353), (353, im_ic 1 354), (354, im_bin (fun x y => x &&& y) 355), (355, im_go 359), (358, im_ic 0 359)]
set_option maxRecDepth 20000 in
theorem o_X9_valueOf_7 : ∀ q ∈ t_X9_valueOf_7, am_ok vwCl q_SH ξ (q_E ξ β xs L) q_EN q_KD q_ML (cX9_valueOf, 11, RX9, "valueOf", (some .int), []) q.1 q.2 :=
  List.forall_mem_cons.mpr ⟨⟨mo_bin _ _, Or.inl (ok_iand (by decide +kernel))⟩,
  List.forall_mem_cons.mpr ⟨⟨mo_reti, Or.inr (Or.inr (ok_reti rfl (by decide +kernel)))⟩,
  List.forall_mem_cons.mpr ⟨⟨mo_al _ _, Or.inl (ok_aload_n (k := 0) rfl (by decide +kernel))⟩,
  List.forall_mem_cons.mpr ⟨⟨mo_gr _ _ _ _, Or.inl (ok_gr (C := RX9) (T := TX9) (N := 20) (ci := 9) (k := 11) rfl inX9 (by decide) fl_X9_42 (by decide +kernel) (by decide +kernel))⟩,
  List.forall_mem_cons.mpr ⟨⟨mo_il _ _, Or.inl (ok_iload_n (k := 2) rfl (by decide +kernel))⟩,
  List.forall_mem_cons.mpr ⟨⟨mo_ald _ _ _, Or.inl (ok_iald (by decide +kernel))⟩,
  List.forall_mem_cons.mpr ⟨⟨mo_if1 _ _ _, Or.inl (ok_if_lt (off := 21) (by decide) (by decide +kernel))⟩,
  List.forall_mem_cons.mpr ⟨⟨mo_al _ _, Or.inl (ok_aload_n (k := 0) rfl (by decide +kernel))⟩,
  List.forall_mem_cons.mpr ⟨⟨mo_gr _ _ _ _, Or.inl (ok_gr (C := RX9) (T := TX9) (N := 20) (ci := 9) (k := 8) rfl inX9 (by decide) fl_X9_32 (by decide +kernel) (by decide +kernel))⟩,
  List.forall_mem_cons.mpr ⟨⟨mo_al _ _, Or.inl (ok_aload_n (k := 0) rfl (by decide +kernel))⟩,
  List.forall_mem_cons.mpr ⟨⟨mo_gr _ _ _ _, Or.inl (ok_gr (C := RX9) (T := TX9) (N := 20) (ci := 9) (k := 11) rfl inX9 (by decide) fl_X9_42 (by decide +kernel) (by decide +kernel))⟩,
  List.forall_mem_cons.mpr ⟨⟨mo_il _ _, Or.inl (ok_iload_n (k := 2) rfl (by decide +kernel))⟩,
  List.forall_mem_cons.mpr ⟨⟨mo_ald _ _ _, Or.inl (ok_iald (by decide +kernel))⟩,
  List.forall_mem_cons.mpr ⟨⟨mo_ald _ _ _, Or.inl (ok_iald (by decide +kernel))⟩,
  List.forall_mem_cons.mpr ⟨⟨mo_il _ _, Or.inl (ok_iload_n (k := 3) rfl (by decide +kernel))⟩,
  List.forall_mem_cons.mpr ⟨⟨mo_bin _ _, Or.inl (ok_ishr (by decide +kernel))⟩,
  List.forall_mem_cons.mpr ⟨⟨mo_ic _ _, Or.inl (ok_iconst (n := 1) (v := 1) (by decide) (by decide +kernel))⟩,
  List.forall_mem_cons.mpr ⟨⟨mo_bin _ _, Or.inl (ok_iand (by decide +kernel))⟩,
  List.forall_mem_cons.mpr ⟨⟨mo_go _, Or.inl (ok_goto (off := 4) (by decide) (by decide +kernel))⟩,
  List.forall_mem_cons.mpr ⟨⟨mo_ic _ _, Or.inl (ok_iconst (n := 0) (v := 0) (by decide) (by decide +kernel))⟩,
  fun _ h => absurd h List.not_mem_nil⟩⟩⟩⟩⟩⟩⟩⟩⟩⟩⟩⟩⟩⟩⟩⟩⟩⟩⟩⟩
def t_X9_valueOf_8 : List (Nat × am_F) := [(359, im_reti), (360, im_al 0 361), (361, im_gr q_SH 9 0 364), (364, im_gr q_SH 7 0 367), (367, im_il 2 368), (368, im_ald q_SH .int 369), (369, im_reti), (370, im_al 0 371), (371, im_gr q_SH 9 9 374), (374, im_il 2 375), (375, im_ald q_SH .int 376), (376, im_if1 ib_lt 400 379), (379, im_al 0 380), (380, im_gr q_SH 9 6 383), (383, im_gi q_SH 4 0 386), (386, im_al 0 387), (387, im_gr q_SH 9 9 390), (390, im_il 2 391), (391, im_ald q_SH .int 392), (392, im_bin (fun x y => x - y) 393)]
set_option maxRecDepth 20000 in
theorem o_X9_valueOf_8 : ∀ q ∈ t_X9_valueOf_8, am_ok vwCl q_SH ξ (q_E ξ β xs L) q_EN q_KD q_ML (cX9_valueOf, 11, RX9, "valueOf", (some .int), []) q.1 q.2 :=
  List.forall_mem_cons.mpr ⟨⟨mo_reti, Or.inr (Or.inr (ok_reti rfl (by decide +kernel)))⟩,
  List.forall_mem_cons.mpr ⟨⟨mo_al _ _, Or.inl (ok_aload_n (k := 0) rfl (by decide +kernel))⟩,
  List.forall_mem_cons.mpr ⟨⟨mo_gr _ _ _ _, Or.inl (ok_gr (C := RX9) (T := TX9) (N := 20) (ci := 9) (k := 0) rfl inX9 (by decide) fl_X9_67 (by decide +kernel) (by decide +kernel))⟩,
  List.forall_mem_cons.mpr ⟨⟨mo_gr _ _ _ _, Or.inl (ok_gr (C := RX7) (T := TX7) (N := 4) (ci := 7) (k := 0) rfl inX7 (by decide) fl_X9_294 (by decide +kernel) (by decide +kernel))⟩,
  List.forall_mem_cons.mpr ⟨⟨mo_il _ _, Or.inl (ok_iload_n (k := 2) rfl (by decide +kernel))⟩,
  List.forall_mem_cons.mpr ⟨⟨mo_ald _ _ _, Or.inl (ok_iald (by decide +kernel))⟩,
  List.forall_mem_cons.mpr ⟨⟨mo_reti, Or.inr (Or.inr (ok_reti rfl (by decide +kernel)))⟩,
  List.forall_mem_cons.mpr ⟨⟨mo_al _ _, Or.inl (ok_aload_n (k := 0) rfl (by decide +kernel))⟩,
  List.forall_mem_cons.mpr ⟨⟨mo_gr _ _ _ _, Or.inl (ok_gr (C := RX9) (T := TX9) (N := 20) (ci := 9) (k := 9) rfl inX9 (by decide) fl_X9_36 (by decide +kernel) (by decide +kernel))⟩,
  List.forall_mem_cons.mpr ⟨⟨mo_il _ _, Or.inl (ok_iload_n (k := 2) rfl (by decide +kernel))⟩,
  List.forall_mem_cons.mpr ⟨⟨mo_ald _ _ _, Or.inl (ok_iald (by decide +kernel))⟩,
  List.forall_mem_cons.mpr ⟨⟨mo_if1 _ _ _, Or.inl (ok_if_lt (off := 24) (by decide) (by decide +kernel))⟩,
  List.forall_mem_cons.mpr ⟨⟨mo_al _ _, Or.inl (ok_aload_n (k := 0) rfl (by decide +kernel))⟩,
  List.forall_mem_cons.mpr ⟨⟨mo_gr _ _ _ _, Or.inl (ok_gr (C := RX9) (T := TX9) (N := 20) (ci := 9) (k := 6) rfl inX9 (by decide) fl_X9_21 (by decide +kernel) (by decide +kernel))⟩,
  List.forall_mem_cons.mpr ⟨⟨mo_gi _ _ _ _, Or.inl (ok_gi (C := RX4) (T := TX4) (N := 12) (ci := 4) (k := 0) rfl inX4 (by decide) fl_X9_122 (by decide +kernel) (by decide +kernel))⟩,
  List.forall_mem_cons.mpr ⟨⟨mo_al _ _, Or.inl (ok_aload_n (k := 0) rfl (by decide +kernel))⟩,
  List.forall_mem_cons.mpr ⟨⟨mo_gr _ _ _ _, Or.inl (ok_gr (C := RX9) (T := TX9) (N := 20) (ci := 9) (k := 9) rfl inX9 (by decide) fl_X9_36 (by decide +kernel) (by decide +kernel))⟩,
  List.forall_mem_cons.mpr ⟨⟨mo_il _ _, Or.inl (ok_iload_n (k := 2) rfl (by decide +kernel))⟩,
  List.forall_mem_cons.mpr ⟨⟨mo_ald _ _ _, Or.inl (ok_iald (by decide +kernel))⟩,
  List.forall_mem_cons.mpr ⟨⟨mo_bin _ _, Or.inl (ok_isub (by decide +kernel))⟩,
  fun _ h => absurd h List.not_mem_nil⟩⟩⟩⟩⟩⟩⟩⟩⟩⟩⟩⟩⟩⟩⟩⟩⟩⟩⟩⟩
def t_X9_valueOf_9 : List (Nat × am_F) := [(393, im_ic 365 396), (396, im_div (fun x y => x / y) 397), (397, im_go 401), (400, im_ic 0 401), (401, im_reti), (402, im_al 0 403), (403, im_gr q_SH 9 12 406), (406, im_il 2 407), (407, im_ald q_SH .int 408), (408, im_if1 ib_lt 430 411), (411, im_al 0 412), (412, im_gr q_SH 9 14 415), (415, im_al 0 416), (416, im_gr q_SH 9 12 419), (419, im_il 2 420), (420, im_ald q_SH .int 421), (421, im_ald q_SH .int 422), (422, im_il 3 423), (423, im_if2 ic_ne 430 426), (426, im_ic 1 427)]
set_option maxRecDepth 20000 in
theorem o_X9_valueOf_9 : ∀ q ∈ t_X9_valueOf_9, am_ok vwCl q_SH ξ (q_E ξ β xs L) q_EN q_KD q_ML (cX9_valueOf, 11, RX9, "valueOf", (some .int), []) q.1 q.2 :=
  List.forall_mem_cons.mpr ⟨⟨mo_ic _ _, Or.inl (ok_sipush (n := 365) (v := 365) (by decide) (by decide +kernel))⟩,
  List.forall_mem_cons.mpr ⟨⟨mo_div _ _, Or.inl (ok_idiv (by decide +kernel))⟩,
  List.forall_mem_cons.mpr ⟨⟨mo_go _, Or.inl (ok_goto (off := 4) (by decide) (by decide +kernel))⟩,
  List.forall_mem_cons.mpr ⟨⟨mo_ic _ _, Or.inl (ok_iconst (n := 0) (v := 0) (by decide) (by decide +kernel))⟩,
  List.forall_mem_cons.mpr ⟨⟨mo_reti, Or.inr (Or.inr (ok_reti rfl (by decide +kernel)))⟩,
  List.forall_mem_cons.mpr ⟨⟨mo_al _ _, Or.inl (ok_aload_n (k := 0) rfl (by decide +kernel))⟩,
  List.forall_mem_cons.mpr ⟨⟨mo_gr _ _ _ _, Or.inl (ok_gr (C := RX9) (T := TX9) (N := 20) (ci := 9) (k := 12) rfl inX9 (by decide) fl_X9_45 (by decide +kernel) (by decide +kernel))⟩,
  List.forall_mem_cons.mpr ⟨⟨mo_il _ _, Or.inl (ok_iload_n (k := 2) rfl (by decide +kernel))⟩,
  List.forall_mem_cons.mpr ⟨⟨mo_ald _ _ _, Or.inl (ok_iald (by decide +kernel))⟩,
  List.forall_mem_cons.mpr ⟨⟨mo_if1 _ _ _, Or.inl (ok_if_lt (off := 22) (by decide) (by decide +kernel))⟩,
  List.forall_mem_cons.mpr ⟨⟨mo_al _ _, Or.inl (ok_aload_n (k := 0) rfl (by decide +kernel))⟩,
  List.forall_mem_cons.mpr ⟨⟨mo_gr _ _ _ _, Or.inl (ok_gr (C := RX9) (T := TX9) (N := 20) (ci := 9) (k := 14) rfl inX9 (by decide) fl_X9_51 (by decide +kernel) (by decide +kernel))⟩,
  List.forall_mem_cons.mpr ⟨⟨mo_al _ _, Or.inl (ok_aload_n (k := 0) rfl (by decide +kernel))⟩,
  List.forall_mem_cons.mpr ⟨⟨mo_gr _ _ _ _, Or.inl (ok_gr (C := RX9) (T := TX9) (N := 20) (ci := 9) (k := 12) rfl inX9 (by decide) fl_X9_45 (by decide +kernel) (by decide +kernel))⟩,
  List.forall_mem_cons.mpr ⟨⟨mo_il _ _, Or.inl (ok_iload_n (k := 2) rfl (by decide +kernel))⟩,
  List.forall_mem_cons.mpr ⟨⟨mo_ald _ _ _, Or.inl (ok_iald (by decide +kernel))⟩,
  List.forall_mem_cons.mpr ⟨⟨mo_ald _ _ _, Or.inl (ok_iald (by decide +kernel))⟩,
  List.forall_mem_cons.mpr ⟨⟨mo_il _ _, Or.inl (ok_iload_n (k := 3) rfl (by decide +kernel))⟩,
  List.forall_mem_cons.mpr ⟨⟨mo_if2 _ _ _, Or.inl (ok_icmp_ne (off := 7) (by decide) (by decide +kernel))⟩,
  List.forall_mem_cons.mpr ⟨⟨mo_ic _ _, Or.inl (ok_iconst (n := 1) (v := 1) (by decide) (by decide +kernel))⟩,
  fun _ h => absurd h List.not_mem_nil⟩⟩⟩⟩⟩⟩⟩⟩⟩⟩⟩⟩⟩⟩⟩⟩⟩⟩⟩⟩
def t_X9_valueOf_10 : List (Nat × am_F) := [(427, im_go 431), (430, im_ic 0 431), (431, im_is 9 433), (433, im_il 9 435), (435, im_if1 ib_eq 455 438), (438, im_al 0 439), (439, im_gr q_SH 9 6 442), (442, im_gi q_SH 4 0 445), (445, im_al 0 446), (446, im_gr q_SH 9 13 449), (449, im_il 2 450), (450, im_ald q_SH .int 451), (451, im_bin (fun x y => x - y) 452), (452, im_go 456), (455, im_ic 0 456), (456, im_reti), (457, im_al 0 458), (458, im_gr q_SH 9 8 461), (461, im_il 2 462), (462, im_ald q_SH .int 463)]
set_option maxRecDepth 20000 in
theorem o_X9_valueOf_10 : ∀ q ∈ t_X9_valueOf_10, am_ok vwCl q_SH ξ (q_E ξ β xs L) q_EN q_KD q_ML (cX9_valueOf, 11, RX9, "valueOf", (some .int), []) q.1 q.2 :=
  List.forall_mem_cons.mpr ⟨⟨mo_go _, Or.inl (ok_goto (off := 4) (by decide) (by decide +kernel))⟩,
  List.forall_mem_cons.mpr ⟨⟨mo_ic _ _, Or.inl (ok_iconst (n := 0) (v := 0) (by decide) (by decide +kernel))⟩,
  List.forall_mem_cons.mpr ⟨⟨mo_is _ _, Or.inl (ok_istore (by decide) (by decide +kernel))⟩,
  List.forall_mem_cons.mpr ⟨⟨mo_il _ _, Or.inl (ok_iload (by decide +kernel))⟩,
  List.forall_mem_cons.mpr ⟨⟨mo_if1 _ _ _, Or.inl (ok_if_eq (off := 20) (by decide) (by decide +kernel))⟩,
  List.forall_mem_cons.mpr ⟨⟨mo_al _ _, Or.inl (ok_aload_n (k := 0) rfl (by decide +kernel))⟩,
  List.forall_mem_cons.mpr ⟨⟨mo_gr _ _ _ _, Or.inl (ok_gr (C := RX9) (T := TX9) (N := 20) (ci := 9) (k := 6) rfl inX9 (by decide) fl_X9_21 (by decide +kernel) (by decide +kernel))⟩,
  List.forall_mem_cons.mpr ⟨⟨mo_gi _ _ _ _, Or.inl (ok_gi (C := RX4) (T := TX4) (N := 12) (ci := 4) (k := 0) rfl inX4 (by decide) fl_X9_122 (by decide +kernel) (by decide +kernel))⟩,
  List.forall_mem_cons.mpr ⟨⟨mo_al _ _, Or.inl (ok_aload_n (k := 0) rfl (by decide +kernel))⟩,
  List.forall_mem_cons.mpr ⟨⟨mo_gr _ _ _ _, Or.inl (ok_gr (C := RX9) (T := TX9) (N := 20) (ci := 9) (k := 13) rfl inX9 (by decide) fl_X9_48 (by decide +kernel) (by decide +kernel))⟩,
  List.forall_mem_cons.mpr ⟨⟨mo_il _ _, Or.inl (ok_iload_n (k := 2) rfl (by decide +kernel))⟩,
  List.forall_mem_cons.mpr ⟨⟨mo_ald _ _ _, Or.inl (ok_iald (by decide +kernel))⟩,
  List.forall_mem_cons.mpr ⟨⟨mo_bin _ _, Or.inl (ok_isub (by decide +kernel))⟩,
  List.forall_mem_cons.mpr ⟨⟨mo_go _, Or.inl (ok_goto (off := 4) (by decide) (by decide +kernel))⟩,
  List.forall_mem_cons.mpr ⟨⟨mo_ic _ _, Or.inl (ok_iconst (n := 0) (v := 0) (by decide) (by decide +kernel))⟩,
  List.forall_mem_cons.mpr ⟨⟨mo_reti, Or.inr (Or.inr (ok_reti rfl (by decide +kernel)))⟩,
  List.forall_mem_cons.mpr ⟨⟨mo_al _ _, Or.inl (ok_aload_n (k := 0) rfl (by decide +kernel))⟩,
  List.forall_mem_cons.mpr ⟨⟨mo_gr _ _ _ _, Or.inl (ok_gr (C := RX9) (T := TX9) (N := 20) (ci := 9) (k := 8) rfl inX9 (by decide) fl_X9_32 (by decide +kernel) (by decide +kernel))⟩,
  List.forall_mem_cons.mpr ⟨⟨mo_il _ _, Or.inl (ok_iload_n (k := 2) rfl (by decide +kernel))⟩,
  List.forall_mem_cons.mpr ⟨⟨mo_ald _ _ _, Or.inl (ok_iald (by decide +kernel))⟩,
  fun _ h => absurd h List.not_mem_nil⟩⟩⟩⟩⟩⟩⟩⟩⟩⟩⟩⟩⟩⟩⟩⟩⟩⟩⟩⟩
def t_X9_valueOf_11 : List (Nat × am_F) := [(463, im_il 3 464), (464, im_bin (fun x y => x >>> (y &&& 31)) 465), (465, im_ic 1 466), (466, im_bin (fun x y => x &&& y) 467), (467, im_reti), (468, im_al 0 469), (469, im_gr q_SH 9 8 472), (472, im_il 2 473), (473, im_ald q_SH .int 474), (474, im_ic 1 475), (475, im_il 3 476), (476, im_bin (fun x y => x <<< (y &&& 31)) 477), (477, im_ic (-1) 478), (478, im_bin (fun x y => x ^^^ y) 479), (479, im_bin (fun x y => x &&& y) 480), (480, im_invs 200 1 483), (483, im_reti), (484, im_al 0 485), (485, im_gr q_SH 9 6 488), (488, im_gi q_SH 4 3 491)]
set_option maxRecDepth 20000 in
theorem o_X9_valueOf_11 : ∀ q ∈ t_X9_valueOf_11, am_ok vwCl q_SH ξ (q_E ξ β xs L) q_EN q_KD q_ML (cX9_valueOf, 11, RX9, "valueOf", (some .int), []) q.1 q.2 :=
  List.forall_mem_cons.mpr ⟨⟨mo_il _ _, Or.inl (ok_iload_n (k := 3) rfl (by decide +kernel))⟩,
  List.forall_mem_cons.mpr ⟨⟨mo_bin _ _, Or.inl (ok_ishr (by decide +kernel))⟩,
  List.forall_mem_cons.mpr ⟨⟨mo_ic _ _, Or.inl (ok_iconst (n := 1) (v := 1) (by decide) (by decide +kernel))⟩,
  List.forall_mem_cons.mpr ⟨⟨mo_bin _ _, Or.inl (ok_iand (by decide +kernel))⟩,
  List.forall_mem_cons.mpr ⟨⟨mo_reti, Or.inr (Or.inr (ok_reti rfl (by decide +kernel)))⟩,
  List.forall_mem_cons.mpr ⟨⟨mo_al _ _, Or.inl (ok_aload_n (k := 0) rfl (by decide +kernel))⟩,
  List.forall_mem_cons.mpr ⟨⟨mo_gr _ _ _ _, Or.inl (ok_gr (C := RX9) (T := TX9) (N := 20) (ci := 9) (k := 8) rfl inX9 (by decide) fl_X9_32 (by decide +kernel) (by decide +kernel))⟩,
  List.forall_mem_cons.mpr ⟨⟨mo_il _ _, Or.inl (ok_iload_n (k := 2) rfl (by decide +kernel))⟩,
  List.forall_mem_cons.mpr ⟨⟨mo_ald _ _ _, Or.inl (ok_iald (by decide +kernel))⟩,
  List.forall_mem_cons.mpr ⟨⟨mo_ic _ _, Or.inl (ok_iconst (n := 1) (v := 1) (by decide) (by decide +kernel))⟩,
  List.forall_mem_cons.mpr ⟨⟨mo_il _ _, Or.inl (ok_iload_n (k := 3) rfl (by decide +kernel))⟩,
  List.forall_mem_cons.mpr ⟨⟨mo_bin _ _, Or.inl (ok_ishl (by decide +kernel))⟩,
  List.forall_mem_cons.mpr ⟨⟨mo_ic _ _, Or.inl (ok_iconst (n := (-1)) (v := (-1)) (by decide) (by decide +kernel))⟩,
  List.forall_mem_cons.mpr ⟨⟨mo_bin _ _, Or.inl (ok_ixor (by decide +kernel))⟩,
  List.forall_mem_cons.mpr ⟨⟨mo_bin _ _, Or.inl (ok_iand (by decide +kernel))⟩,
  List.forall_mem_cons.mpr ⟨⟨mo_invs _ _ _, Or.inr (Or.inl (ok_invs cw_J6_bitCount_0f7a4 (by decide) (by decide) ml_X9_297 cs_J6_bitCount_0f7a4 (show Cond.initialized (yJ6_bitCount_0f7a4).cls ∈ am_ts from ci9_RJ6) ⟨by decide +kernel, by decide +kernel, by decide +kernel⟩ rfl (by decide +kernel)))⟩,
  List.forall_mem_cons.mpr ⟨⟨mo_reti, Or.inr (Or.inr (ok_reti rfl (by decide +kernel)))⟩,
  List.forall_mem_cons.mpr ⟨⟨mo_al _ _, Or.inl (ok_aload_n (k := 0) rfl (by decide +kernel))⟩,
  List.forall_mem_cons.mpr ⟨⟨mo_gr _ _ _ _, Or.inl (ok_gr (C := RX9) (T := TX9) (N := 20) (ci := 9) (k := 6) rfl inX9 (by decide) fl_X9_21 (by decide +kernel) (by decide +kernel))⟩,
  List.forall_mem_cons.mpr ⟨⟨mo_gi _ _ _ _, Or.inl (ok_gi (C := RX4) (T := TX4) (N := 12) (ci := 4) (k := 3) rfl inX4 (by decide) fl_X9_208 (by decide +kernel) (by decide +kernel))⟩,
  fun _ h => absurd h List.not_mem_nil⟩⟩⟩⟩⟩⟩⟩⟩⟩⟩⟩⟩⟩⟩⟩⟩⟩⟩⟩⟩
def t_X9_valueOf_12 : List (Nat × am_F) := [(491, im_il 3 492), (492, im_if2 ic_ne 499 495), (495, im_ic 1 496), (496, im_go 500), (499, im_ic 0 500), (500, im_reti), (501, im_al 0 502), (502, im_gr q_SH 9 6 505), (505, im_gi q_SH 4 0 508), (508, im_ic 365 511), (511, im_div (fun x y => x / y) 512), (512, im_reti), (513, im_al 0 514), (514, im_gr q_SH 9 10 517), (517, im_il 2 518), (518, im_ald q_SH .int 519), (519, im_if1 ib_lt 540 522), (522, im_al 0 523), (523, im_gr q_SH 9 15 526), (526, im_al 0 527)]
set_option maxRecDepth 20000 in
theorem o_X9_valueOf_12 : ∀ q ∈ t_X9_valueOf_12, am_ok vwCl q_SH ξ (q_E ξ β xs L) q_EN q_KD q_ML (cX9_valueOf, 11, RX9, "valueOf", (some .int), []) q.1 q.2 :=
  List.forall_mem_cons.mpr ⟨⟨mo_il _ _, Or.inl (ok_iload_n (k := 3) rfl (by decide +kernel))⟩,
  List.forall_mem_cons.mpr ⟨⟨mo_if2 _ _ _, Or.inl (ok_icmp_ne (off := 7) (by decide) (by decide +kernel))⟩,
  List.forall_mem_cons.mpr ⟨⟨mo_ic _ _, Or.inl (ok_iconst (n := 1) (v := 1) (by decide) (by decide +kernel))⟩,
  List.forall_mem_cons.mpr ⟨⟨mo_go _, Or.inl (ok_goto (off := 4) (by decide) (by decide +kernel))⟩,
  List.forall_mem_cons.mpr ⟨⟨mo_ic _ _, Or.inl (ok_iconst (n := 0) (v := 0) (by decide) (by decide +kernel))⟩,
  List.forall_mem_cons.mpr ⟨⟨mo_reti, Or.inr (Or.inr (ok_reti rfl (by decide +kernel)))⟩,
  List.forall_mem_cons.mpr ⟨⟨mo_al _ _, Or.inl (ok_aload_n (k := 0) rfl (by decide +kernel))⟩,
  List.forall_mem_cons.mpr ⟨⟨mo_gr _ _ _ _, Or.inl (ok_gr (C := RX9) (T := TX9) (N := 20) (ci := 9) (k := 6) rfl inX9 (by decide) fl_X9_21 (by decide +kernel) (by decide +kernel))⟩,
  List.forall_mem_cons.mpr ⟨⟨mo_gi _ _ _ _, Or.inl (ok_gi (C := RX4) (T := TX4) (N := 12) (ci := 4) (k := 0) rfl inX4 (by decide) fl_X9_122 (by decide +kernel) (by decide +kernel))⟩,
  List.forall_mem_cons.mpr ⟨⟨mo_ic _ _, Or.inl (ok_sipush (n := 365) (v := 365) (by decide) (by decide +kernel))⟩,
  List.forall_mem_cons.mpr ⟨⟨mo_div _ _, Or.inl (ok_idiv (by decide +kernel))⟩,
  List.forall_mem_cons.mpr ⟨⟨mo_reti, Or.inr (Or.inr (ok_reti rfl (by decide +kernel)))⟩,
  List.forall_mem_cons.mpr ⟨⟨mo_al _ _, Or.inl (ok_aload_n (k := 0) rfl (by decide +kernel))⟩,
  List.forall_mem_cons.mpr ⟨⟨mo_gr _ _ _ _, Or.inl (ok_gr (C := RX9) (T := TX9) (N := 20) (ci := 9) (k := 10) rfl inX9 (by decide) fl_X9_39 (by decide +kernel) (by decide +kernel))⟩,
  List.forall_mem_cons.mpr ⟨⟨mo_il _ _, Or.inl (ok_iload_n (k := 2) rfl (by decide +kernel))⟩,
  List.forall_mem_cons.mpr ⟨⟨mo_ald _ _ _, Or.inl (ok_iald (by decide +kernel))⟩,
  List.forall_mem_cons.mpr ⟨⟨mo_if1 _ _ _, Or.inl (ok_if_lt (off := 21) (by decide) (by decide +kernel))⟩,
  List.forall_mem_cons.mpr ⟨⟨mo_al _ _, Or.inl (ok_aload_n (k := 0) rfl (by decide +kernel))⟩,
  List.forall_mem_cons.mpr ⟨⟨mo_gr _ _ _ _, Or.inl (ok_gr (C := RX9) (T := TX9) (N := 20) (ci := 9) (k := 15) rfl inX9 (by decide) fl_X9_54 (by decide +kernel) (by decide +kernel))⟩,
  List.forall_mem_cons.mpr ⟨⟨mo_al _ _, Or.inl (ok_aload_n (k := 0) rfl (by decide +kernel))⟩,
  fun _ h => absurd h List.not_mem_nil⟩⟩⟩⟩⟩⟩⟩⟩⟩⟩⟩⟩⟩⟩⟩⟩⟩⟩⟩⟩
def t_X9_valueOf_13 : List (Nat × am_F) := [(527, im_gr q_SH 9 10 530), (530, im_il 2 531), (531, im_ald q_SH .int 532), (532, im_ald q_SH .int 533), (533, im_if1 ib_lt 540 536), (536, im_ic 1 537), (537, im_go 541), (540, im_ic 0 541), (541, im_is 10 543), (543, im_il 10 545), (545, im_if1 ib_eq 570 548), (548, im_al 0 549), (549, im_gr q_SH 9 6 552), (552, im_gi q_SH 4 0 555), (555, im_al 0 556), (556, im_gr q_SH 9 15 559), (559, im_al 0 560), (560, im_gr q_SH 9 10 563), (563, im_il 2 564), (564, im_ald q_SH .int 565)]
set_option maxRecDepth 20000 in
theorem o_X9_valueOf_13 : ∀ q ∈ t_X9_valueOf_13, am_ok vwCl q_SH ξ (q_E ξ β xs L) q_EN q_KD q_ML (cX9_valueOf, 11, RX9, "valueOf", (some .int), []) q.1 q.2 :=
  List.forall_mem_cons.mpr ⟨⟨mo_gr _ _ _ _, Or.inl (ok_gr (C := RX9) (T := TX9) (N := 20) (ci := 9) (k := 10) rfl inX9 (by decide) fl_X9_39 (by decide +kernel) (by decide +kernel))⟩,
  List.forall_mem_cons.mpr ⟨⟨mo_il _ _, Or.inl (ok_iload_n (k := 2) rfl (by decide +kernel))⟩,
  List.forall_mem_cons.mpr ⟨⟨mo_ald _ _ _, Or.inl (ok_iald (by decide +kernel))⟩,
  List.forall_mem_cons.mpr ⟨⟨mo_ald _ _ _, Or.inl (ok_iald (by decide +kernel))⟩,
  List.forall_mem_cons.mpr ⟨⟨mo_if1 _ _ _, Or.inl (ok_if_lt (off := 7) (by decide) (by decide +kernel))⟩,
  List.forall_mem_cons.mpr ⟨⟨mo_ic _ _, Or.inl (ok_iconst (n := 1) (v := 1) (by decide) (by decide +kernel))⟩,
  List.forall_mem_cons.mpr ⟨⟨mo_go _, Or.inl (ok_goto (off := 4) (by decide) (by decide +kernel))⟩,
  List.forall_mem_cons.mpr ⟨⟨mo_ic _ _, Or.inl (ok_iconst (n := 0) (v := 0) (by decide) (by decide +kernel))⟩,
  List.forall_mem_cons.mpr ⟨⟨mo_is _ _, Or.inl (ok_istore (by decide) (by decide +kernel))⟩,
  List.forall_mem_cons.mpr ⟨⟨mo_il _ _, Or.inl (ok_iload (by decide +kernel))⟩,
  List.forall_mem_cons.mpr ⟨⟨mo_if1 _ _ _, Or.inl (ok_if_eq (off := 25) (by decide) (by decide +kernel))⟩,
  List.forall_mem_cons.mpr ⟨⟨mo_al _ _, Or.inl (ok_aload_n (k := 0) rfl (by decide +kernel))⟩,
  List.forall_mem_cons.mpr ⟨⟨mo_gr _ _ _ _, Or.inl (ok_gr (C := RX9) (T := TX9) (N := 20) (ci := 9) (k := 6) rfl inX9 (by decide) fl_X9_21 (by decide +kernel) (by decide +kernel))⟩,
  List.forall_mem_cons.mpr ⟨⟨mo_gi _ _ _ _, Or.inl (ok_gi (C := RX4) (T := TX4) (N := 12) (ci := 4) (k := 0) rfl inX4 (by decide) fl_X9_122 (by decide +kernel) (by decide +kernel))⟩,
  List.forall_mem_cons.mpr ⟨⟨mo_al _ _, Or.inl (ok_aload_n (k := 0) rfl (by decide +kernel))⟩,
  List.forall_mem_cons.mpr ⟨⟨mo_gr _ _ _ _, Or.inl (ok_gr (C := RX9) (T := TX9) (N := 20) (ci := 9) (k := 15) rfl inX9 (by decide) fl_X9_54 (by decide +kernel) (by decide +kernel))⟩,
  List.forall_mem_cons.mpr ⟨⟨mo_al _ _, Or.inl (ok_aload_n (k := 0) rfl (by decide +kernel))⟩,
  List.forall_mem_cons.mpr ⟨⟨mo_gr _ _ _ _, Or.inl (ok_gr (C := RX9) (T := TX9) (N := 20) (ci := 9) (k := 10) rfl inX9 (by decide) fl_X9_39 (by decide +kernel) (by decide +kernel))⟩,
  List.forall_mem_cons.mpr ⟨⟨mo_il _ _, Or.inl (ok_iload_n (k := 2) rfl (by decide +kernel))⟩,
  List.forall_mem_cons.mpr ⟨⟨mo_ald _ _ _, Or.inl (ok_iald (by decide +kernel))⟩,
  fun _ h => absurd h List.not_mem_nil⟩⟩⟩⟩⟩⟩⟩⟩⟩⟩⟩⟩⟩⟩⟩⟩⟩⟩⟩⟩
def t_X9_valueOf_14 : List (Nat × am_F) := [(565, im_ald q_SH .int 566), (566, im_bin (fun x y => x - y) 567), (567, im_go 573), (570, im_ic 99999 573), (573, im_reti)]
set_option maxRecDepth 20000 in
theorem o_X9_valueOf_14 : ∀ q ∈ t_X9_valueOf_14, am_ok vwCl q_SH ξ (q_E ξ β xs L) q_EN q_KD q_ML (cX9_valueOf, 11, RX9, "valueOf", (some .int), []) q.1 q.2 :=
  List.forall_mem_cons.mpr ⟨⟨mo_ald _ _ _, Or.inl (ok_iald (by decide +kernel))⟩,
  List.forall_mem_cons.mpr ⟨⟨mo_bin _ _, Or.inl (ok_isub (by decide +kernel))⟩,
  List.forall_mem_cons.mpr ⟨⟨mo_go _, Or.inl (ok_goto (off := 6) (by decide) (by decide +kernel))⟩,
  List.forall_mem_cons.mpr ⟨⟨mo_ic _ _, Or.inl (ok_ldcw (v := 99999) (am_in5 50 rfl rfl) (by decide +kernel))⟩,
  List.forall_mem_cons.mpr ⟨⟨mo_reti, Or.inr (Or.inr (ok_reti rfl (by decide +kernel)))⟩,
  fun _ h => absurd h List.not_mem_nil⟩⟩⟩⟩⟩
def t_X9_valueOf : List (Nat × am_F) := t_X9_valueOf_0 ++ (t_X9_valueOf_1 ++ (t_X9_valueOf_2 ++ (t_X9_valueOf_3 ++ (t_X9_valueOf_4 ++ (t_X9_valueOf_5 ++ (t_X9_valueOf_6 ++ (t_X9_valueOf_7 ++ (t_X9_valueOf_8 ++ (t_X9_valueOf_9 ++ (t_X9_valueOf_10 ++ (t_X9_valueOf_11 ++ (t_X9_valueOf_12 ++ (t_X9_valueOf_13 ++ (t_X9_valueOf_14))))))))))))))
theorem o_X9_valueOf : ∀ q ∈ t_X9_valueOf, am_ok vwCl q_SH ξ (q_E ξ β xs L) q_EN q_KD q_ML (cX9_valueOf, 11, RX9, "valueOf", (some .int), []) q.1 q.2 := List.forall_mem_append.mpr ⟨o_X9_valueOf_0, List.forall_mem_append.mpr ⟨o_X9_valueOf_1, List.forall_mem_append.mpr ⟨o_X9_valueOf_2, List.forall_mem_append.mpr ⟨o_X9_valueOf_3, List.forall_mem_append.mpr ⟨o_X9_valueOf_4, List.forall_mem_append.mpr ⟨o_X9_valueOf_5, List.forall_mem_append.mpr ⟨o_X9_valueOf_6, List.forall_mem_append.mpr ⟨o_X9_valueOf_7, List.forall_mem_append.mpr ⟨o_X9_valueOf_8, List.forall_mem_append.mpr ⟨o_X9_valueOf_9, List.forall_mem_append.mpr ⟨o_X9_valueOf_10, List.forall_mem_append.mpr ⟨o_X9_valueOf_11, List.forall_mem_append.mpr ⟨o_X9_valueOf_12, List.forall_mem_append.mpr ⟨o_X9_valueOf_13, o_X9_valueOf_14⟩⟩⟩⟩⟩⟩⟩⟩⟩⟩⟩⟩⟩⟩
def t_X9_change_0 : List (Nat × am_F) := [(0, im_al 0 1), (1, im_gr q_SH 9 3 4), (4, im_gr q_SH 0 8 7), (7, im_il 3 8), (8, im_ald q_SH .int 9), (9, im_if1 ib_ne 16 12), (12, im_ic 1 13), (13, im_go 17), (16, im_ic 0 17), (17, im_is 4 19), (19, im_ic (-1) 20), (20, im_is 5 22), (22, im_il 4 24), (24, im_if1 ib_eq 75 27), (27, im_al 0 28), (28, im_gr q_SH 9 8 31), (31, im_il 1 32), (32, im_dup2 33), (33, im_ald q_SH .int 34), (34, im_ic 1 35)]
set_option maxRecDepth 20000 in
theorem o_X9_change_0 : ∀ q ∈ t_X9_change_0, am_ok vwCl q_SH ξ (q_E ξ β xs L) q_EN q_KD q_ML (cX9_change, 9, RX9, "change", none, []) q.1 q.2 :=
  List.forall_mem_cons.mpr ⟨⟨mo_al _ _, Or.inl (ok_aload_n (k := 0) rfl (by decide +kernel))⟩,
  List.forall_mem_cons.mpr ⟨⟨mo_gr _ _ _ _, Or.inl (ok_gr (C := RX9) (T := TX9) (N := 20) (ci := 9) (k := 3) rfl inX9 (by decide) fl_X9_75 (by decide +kernel) (by decide +kernel))⟩,
  List.forall_mem_cons.mpr ⟨⟨mo_gr _ _ _ _, Or.inl (ok_gr (C := RX0) (T := TX0) (N := 16) (ci := 0) (k := 8) rfl inX0 (by decide) fl_X9_262 (by decide +kernel) (by decide +kernel))⟩,
  List.forall_mem_cons.mpr ⟨⟨mo_il _ _, Or.inl (ok_iload_n (k := 3) rfl (by decide +kernel))⟩,
  List.forall_mem_cons.mpr ⟨⟨mo_ald _ _ _, Or.inl (ok_iald (by decide +kernel))⟩,
  List.forall_mem_cons.mpr ⟨⟨mo_if1 _ _ _, Or.inl (ok_if_ne (off := 7) (by decide) (by decide +kernel))⟩,
  List.forall_mem_cons.mpr ⟨⟨mo_ic _ _, Or.inl (ok_iconst (n := 1) (v := 1) (by decide) (by decide +kernel))⟩,
  List.forall_mem_cons.mpr ⟨⟨mo_go _, Or.inl (ok_goto (off := 4) (by decide) (by decide +kernel))⟩,
  List.forall_mem_cons.mpr ⟨⟨mo_ic _ _, Or.inl (ok_iconst (n := 0) (v := 0) (by decide) (by decide +kernel))⟩,
  List.forall_mem_cons.mpr ⟨⟨mo_is _ _, Or.inl (ok_istore (by decide) (by decide +kernel))⟩,
  List.forall_mem_cons.mpr ⟨⟨mo_ic _ _, Or.inl (ok_iconst (n := (-1)) (v := (-1)) (by decide) (by decide +kernel))⟩,
  List.forall_mem_cons.mpr ⟨⟨mo_is _ _, Or.inl (ok_istore (by decide) (by decide +kernel))⟩,
  List.forall_mem_cons.mpr ⟨⟨mo_il _ _, Or.inl (ok_iload (by decide +kernel))⟩,
  List.forall_mem_cons.mpr ⟨⟨mo_if1 _ _ _, Or.inl (ok_if_eq (off := 51) (by decide) (by decide +kernel))⟩,
  List.forall_mem_cons.mpr ⟨⟨mo_al _ _, Or.inl (ok_aload_n (k := 0) rfl (by decide +kernel))⟩,
  List.forall_mem_cons.mpr ⟨⟨mo_gr _ _ _ _, Or.inl (ok_gr (C := RX9) (T := TX9) (N := 20) (ci := 9) (k := 8) rfl inX9 (by decide) fl_X9_32 (by decide +kernel) (by decide +kernel))⟩,
  List.forall_mem_cons.mpr ⟨⟨mo_il _ _, Or.inl (ok_iload_n (k := 1) rfl (by decide +kernel))⟩,
  List.forall_mem_cons.mpr ⟨⟨mo_dup2 _, Or.inl (ok_dup2 (by decide +kernel))⟩,
  List.forall_mem_cons.mpr ⟨⟨mo_ald _ _ _, Or.inl (ok_iald (by decide +kernel))⟩,
  List.forall_mem_cons.mpr ⟨⟨mo_ic _ _, Or.inl (ok_iconst (n := 1) (v := 1) (by decide) (by decide +kernel))⟩,
  fun _ h => absurd h List.not_mem_nil⟩⟩⟩⟩⟩⟩⟩⟩⟩⟩⟩⟩⟩⟩⟩⟩⟩⟩⟩⟩
def t_X9_change_1 : List (Nat × am_F) := [(35, im_il 2 36), (36, im_bin (fun x y => x <<< (y &&& 31)) 37), (37, im_bin (fun x y => x ||| y) 38), (38, im_ast q_SH .int (fun x => x) 39), (39, im_al 0 40), (40, im_gr q_SH 9 7 43), (43, im_il 1 44), (44, im_il 2 45), (45, im_al 0 46), (46, im_gr q_SH 9 6 49), (49, im_gi q_SH 4 0 52), (52, im_il 3 53), (53, im_al 0 54), (54, im_gr q_SH 9 6 57), (57, im_gi q_SH 4 4 60), (60, im_ic 0 61), (61, im_al 0 62), (62, im_il 1 63), (63, im_il 2 64), (64, im_inv q_SH 9 68 2 67)]
set_option maxRecDepth 20000 in
theorem o_X9_change_1 : ∀ q ∈ t_X9_change_1, am_ok vwCl q_SH ξ (q_E ξ β xs L) q_EN q_KD q_ML (cX9_change, 9, RX9, "change", none, []) q.1 q.2 :=
  List.forall_mem_cons.mpr ⟨⟨mo_il _ _, Or.inl (ok_iload_n (k := 2) rfl (by decide +kernel))⟩,
  List.forall_mem_cons.mpr ⟨⟨mo_bin _ _, Or.inl (ok_ishl (by decide +kernel))⟩,
  List.forall_mem_cons.mpr ⟨⟨mo_bin _ _, Or.inl (ok_ior (by decide +kernel))⟩,
  List.forall_mem_cons.mpr ⟨⟨mo_ast _ _ _ _, Or.inl (ok_iast (by decide +kernel))⟩,
  List.forall_mem_cons.mpr ⟨⟨mo_al _ _, Or.inl (ok_aload_n (k := 0) rfl (by decide +kernel))⟩,
  List.forall_mem_cons.mpr ⟨⟨mo_gr _ _ _ _, Or.inl (ok_gr (C := RX9) (T := TX9) (N := 20) (ci := 9) (k := 7) rfl inX9 (by decide) fl_X9_28 (by decide +kernel) (by decide +kernel))⟩,
  List.forall_mem_cons.mpr ⟨⟨mo_il _ _, Or.inl (ok_iload_n (k := 1) rfl (by decide +kernel))⟩,
  List.forall_mem_cons.mpr ⟨⟨mo_il _ _, Or.inl (ok_iload_n (k := 2) rfl (by decide +kernel))⟩,
  List.forall_mem_cons.mpr ⟨⟨mo_al _ _, Or.inl (ok_aload_n (k := 0) rfl (by decide +kernel))⟩,
  List.forall_mem_cons.mpr ⟨⟨mo_gr _ _ _ _, Or.inl (ok_gr (C := RX9) (T := TX9) (N := 20) (ci := 9) (k := 6) rfl inX9 (by decide) fl_X9_21 (by decide +kernel) (by decide +kernel))⟩,
  List.forall_mem_cons.mpr ⟨⟨mo_gi _ _ _ _, Or.inl (ok_gi (C := RX4) (T := TX4) (N := 12) (ci := 4) (k := 0) rfl inX4 (by decide) fl_X9_122 (by decide +kernel) (by decide +kernel))⟩,
  List.forall_mem_cons.mpr ⟨⟨mo_il _ _, Or.inl (ok_iload_n (k := 3) rfl (by decide +kernel))⟩,
  List.forall_mem_cons.mpr ⟨⟨mo_al _ _, Or.inl (ok_aload_n (k := 0) rfl (by decide +kernel))⟩,
  List.forall_mem_cons.mpr ⟨⟨mo_gr _ _ _ _, Or.inl (ok_gr (C := RX9) (T := TX9) (N := 20) (ci := 9) (k := 6) rfl inX9 (by decide) fl_X9_21 (by decide +kernel) (by decide +kernel))⟩,
  List.forall_mem_cons.mpr ⟨⟨mo_gi _ _ _ _, Or.inl (ok_gi (C := RX4) (T := TX4) (N := 12) (ci := 4) (k := 4) rfl inX4 (by decide) fl_X9_128 (by decide +kernel) (by decide +kernel))⟩,
  List.forall_mem_cons.mpr ⟨⟨mo_ic _ _, Or.inl (ok_iconst (n := 0) (v := 0) (by decide) (by decide +kernel))⟩,
  List.forall_mem_cons.mpr ⟨⟨mo_al _ _, Or.inl (ok_aload_n (k := 0) rfl (by decide +kernel))⟩,
  List.forall_mem_cons.mpr ⟨⟨mo_il _ _, Or.inl (ok_iload_n (k := 1) rfl (by decide +kernel))⟩,
  List.forall_mem_cons.mpr ⟨⟨mo_il _ _, Or.inl (ok_iload_n (k := 2) rfl (by decide +kernel))⟩,
  List.forall_mem_cons.mpr ⟨⟨mo_inv _ _ _ _ _, Or.inr (Or.inl (ok_inv (T := TX9) (N := 20) rfl cw_X9_leansOn (by decide) (by decide) ml_X9_303 ci_X9_leansOn cv_X9_leansOn (show Cond.initialized (yX9_leansOn).cls ∈ am_ts from ci9_RX9) ⟨by decide +kernel, by decide +kernel, by decide +kernel⟩ rfl (by decide +kernel)))⟩,
  fun _ h => absurd h List.not_mem_nil⟩⟩⟩⟩⟩⟩⟩⟩⟩⟩⟩⟩⟩⟩⟩⟩⟩⟩⟩⟩
def t_X9_change_2 : List (Nat × am_F) := [(67, im_inv q_SH 5 23 7 70), (70, im_is 5 72), (72, im_go 106), (75, im_al 0 76), (76, im_gr q_SH 9 8 79), (79, im_il 1 80), (80, im_dup2 81), (81, im_ald q_SH .int 82), (82, im_ic 1 83), (83, im_il 2 84), (84, im_bin (fun x y => x <<< (y &&& 31)) 85), (85, im_ic (-1) 86), (86, im_bin (fun x y => x ^^^ y) 87), (87, im_bin (fun x y => x &&& y) 88), (88, im_ast q_SH .int (fun x => x) 89), (89, im_al 0 90), (90, im_gr q_SH 9 7 93), (93, im_gr q_SH 5 2 96), (96, im_il 1 97), (97, im_ic 5 98)]
set_option maxRecDepth 20000 in
theorem o_X9_change_2 : ∀ q ∈ t_X9_change_2, am_ok vwCl q_SH ξ (q_E ξ β xs L) q_EN q_KD q_ML (cX9_change, 9, RX9, "change", none, []) q.1 q.2 :=
  List.forall_mem_cons.mpr ⟨⟨mo_inv _ _ _ _ _, Or.inr (Or.inl (ok_inv (T := TX5) (N := 5) rfl cw_X5_gain (by decide) (by decide) ml_X9_306 ci_X5_gain cv_X5_gain (show Cond.initialized (yX5_gain).cls ∈ am_ts from ci9_RX5) ⟨by decide +kernel, by decide +kernel, by decide +kernel⟩ rfl (by decide +kernel)))⟩,
  List.forall_mem_cons.mpr ⟨⟨mo_is _ _, Or.inl (ok_istore (by decide) (by decide +kernel))⟩,
  List.forall_mem_cons.mpr ⟨⟨mo_go _, Or.inl (ok_goto (off := 34) (by decide) (by decide +kernel))⟩,
  List.forall_mem_cons.mpr ⟨⟨mo_al _ _, Or.inl (ok_aload_n (k := 0) rfl (by decide +kernel))⟩,
  List.forall_mem_cons.mpr ⟨⟨mo_gr _ _ _ _, Or.inl (ok_gr (C := RX9) (T := TX9) (N := 20) (ci := 9) (k := 8) rfl inX9 (by decide) fl_X9_32 (by decide +kernel) (by decide +kernel))⟩,
  List.forall_mem_cons.mpr ⟨⟨mo_il _ _, Or.inl (ok_iload_n (k := 1) rfl (by decide +kernel))⟩,
  List.forall_mem_cons.mpr ⟨⟨mo_dup2 _, Or.inl (ok_dup2 (by decide +kernel))⟩,
  List.forall_mem_cons.mpr ⟨⟨mo_ald _ _ _, Or.inl (ok_iald (by decide +kernel))⟩,
  List.forall_mem_cons.mpr ⟨⟨mo_ic _ _, Or.inl (ok_iconst (n := 1) (v := 1) (by decide) (by decide +kernel))⟩,
  List.forall_mem_cons.mpr ⟨⟨mo_il _ _, Or.inl (ok_iload_n (k := 2) rfl (by decide +kernel))⟩,
  List.forall_mem_cons.mpr ⟨⟨mo_bin _ _, Or.inl (ok_ishl (by decide +kernel))⟩,
  List.forall_mem_cons.mpr ⟨⟨mo_ic _ _, Or.inl (ok_iconst (n := (-1)) (v := (-1)) (by decide) (by decide +kernel))⟩,
  List.forall_mem_cons.mpr ⟨⟨mo_bin _ _, Or.inl (ok_ixor (by decide +kernel))⟩,
  List.forall_mem_cons.mpr ⟨⟨mo_bin _ _, Or.inl (ok_iand (by decide +kernel))⟩,
  List.forall_mem_cons.mpr ⟨⟨mo_ast _ _ _ _, Or.inl (ok_iast (by decide +kernel))⟩,
  List.forall_mem_cons.mpr ⟨⟨mo_al _ _, Or.inl (ok_aload_n (k := 0) rfl (by decide +kernel))⟩,
  List.forall_mem_cons.mpr ⟨⟨mo_gr _ _ _ _, Or.inl (ok_gr (C := RX9) (T := TX9) (N := 20) (ci := 9) (k := 7) rfl inX9 (by decide) fl_X9_28 (by decide +kernel) (by decide +kernel))⟩,
  List.forall_mem_cons.mpr ⟨⟨mo_gr _ _ _ _, Or.inl (ok_gr (C := RX5) (T := TX5) (N := 5) (ci := 5) (k := 2) rfl inX5 (by decide) fl_X9_310 (by decide +kernel) (by decide +kernel))⟩,
  List.forall_mem_cons.mpr ⟨⟨mo_il _ _, Or.inl (ok_iload_n (k := 1) rfl (by decide +kernel))⟩,
  List.forall_mem_cons.mpr ⟨⟨mo_ic _ _, Or.inl (ok_iconst (n := 5) (v := 5) (by decide) (by decide +kernel))⟩,
  fun _ h => absurd h List.not_mem_nil⟩⟩⟩⟩⟩⟩⟩⟩⟩⟩⟩⟩⟩⟩⟩⟩⟩⟩⟩⟩
def t_X9_change_3 : List (Nat × am_F) := [(98, im_bin (fun x y => x * y) 99), (99, im_il 2 100), (100, im_bin (fun x y => x + y) 101), (101, im_dup2 102), (102, im_ald q_SH .int 103), (103, im_ic 1 104), (104, im_bin (fun x y => x + y) 105), (105, im_ast q_SH .int (fun x => x) 106), (106, im_ic 0 107), (107, im_is 6 109), (109, im_il 6 111), (111, im_al 0 112), (112, im_gr q_SH 9 0 115), (115, im_gi q_SH 7 3 118), (118, im_if2 ic_ge 293 121), (121, im_al 0 122), (122, im_gr q_SH 9 9 125), (125, im_il 6 127), (127, im_ald q_SH .int 128), (128, im_if1 ib_lt 166 131)]
set_option maxRecDepth 20000 in
theorem o_X9_change_3 : ∀ q ∈ t_X9_change_3, am_ok vwCl q_SH ξ (q_E ξ β xs L) q_EN q_KD q_ML (cX9_change, 9, RX9, "change", none, []) q.1 q.2 :=
  List.forall_mem_cons.mpr ⟨⟨mo_bin _ _, Or.inl (ok_imul (by decide +kernel))⟩,
  List.forall_mem_cons.mpr ⟨⟨mo_il _ _, Or.inl (ok_iload_n (k := 2) rfl (by decide +kernel))⟩,
  List.forall_mem_cons.mpr ⟨⟨mo_bin _ _, Or.inl (ok_iadd (by decide +kernel))⟩,
  List.forall_mem_cons.mpr ⟨⟨mo_dup2 _, Or.inl (ok_dup2 (by decide +kernel))⟩,
  List.forall_mem_cons.mpr ⟨⟨mo_ald _ _ _, Or.inl (ok_iald (by decide +kernel))⟩,
  List.forall_mem_cons.mpr ⟨⟨mo_ic _ _, Or.inl (ok_iconst (n := 1) (v := 1) (by decide) (by decide +kernel))⟩,
  List.forall_mem_cons.mpr ⟨⟨mo_bin _ _, Or.inl (ok_iadd (by decide +kernel))⟩,
  List.forall_mem_cons.mpr ⟨⟨mo_ast _ _ _ _, Or.inl (ok_iast (by decide +kernel))⟩,
  List.forall_mem_cons.mpr ⟨⟨mo_ic _ _, Or.inl (ok_iconst (n := 0) (v := 0) (by decide) (by decide +kernel))⟩,
  List.forall_mem_cons.mpr ⟨⟨mo_is _ _, Or.inl (ok_istore (by decide) (by decide +kernel))⟩,
  List.forall_mem_cons.mpr ⟨⟨mo_il _ _, Or.inl (ok_iload (by decide +kernel))⟩,
  List.forall_mem_cons.mpr ⟨⟨mo_al _ _, Or.inl (ok_aload_n (k := 0) rfl (by decide +kernel))⟩,
  List.forall_mem_cons.mpr ⟨⟨mo_gr _ _ _ _, Or.inl (ok_gr (C := RX9) (T := TX9) (N := 20) (ci := 9) (k := 0) rfl inX9 (by decide) fl_X9_67 (by decide +kernel) (by decide +kernel))⟩,
  List.forall_mem_cons.mpr ⟨⟨mo_gi _ _ _ _, Or.inl (ok_gi (C := RX7) (T := TX7) (N := 4) (ci := 7) (k := 3) rfl inX7 (by decide) fl_X9_151 (by decide +kernel) (by decide +kernel))⟩,
  List.forall_mem_cons.mpr ⟨⟨mo_if2 _ _ _, Or.inl (ok_icmp_ge (off := 175) (by decide) (by decide +kernel))⟩,
  List.forall_mem_cons.mpr ⟨⟨mo_al _ _, Or.inl (ok_aload_n (k := 0) rfl (by decide +kernel))⟩,
  List.forall_mem_cons.mpr ⟨⟨mo_gr _ _ _ _, Or.inl (ok_gr (C := RX9) (T := TX9) (N := 20) (ci := 9) (k := 9) rfl inX9 (by decide) fl_X9_36 (by decide +kernel) (by decide +kernel))⟩,
  List.forall_mem_cons.mpr ⟨⟨mo_il _ _, Or.inl (ok_iload (by decide +kernel))⟩,
  List.forall_mem_cons.mpr ⟨⟨mo_ald _ _ _, Or.inl (ok_iald (by decide +kernel))⟩,
  List.forall_mem_cons.mpr ⟨⟨mo_if1 _ _ _, Or.inl (ok_if_lt (off := 38) (by decide) (by decide +kernel))⟩,
  fun _ h => absurd h List.not_mem_nil⟩⟩⟩⟩⟩⟩⟩⟩⟩⟩⟩⟩⟩⟩⟩⟩⟩⟩⟩⟩
def t_X9_change_4 : List (Nat × am_F) := [(131, im_al 0 132), (132, im_gr q_SH 9 6 135), (135, im_gi q_SH 4 0 138), (138, im_al 0 139), (139, im_gr q_SH 9 9 142), (142, im_il 6 144), (144, im_ald q_SH .int 145), (145, im_bin (fun x y => x - y) 146), (146, im_ic 365 149), (149, im_div (fun x y => x / y) 150), (150, im_al 0 151), (151, im_gr q_SH 9 3 154), (154, im_gr q_SH 0 13 157), (157, im_il 3 158), (158, im_ald q_SH .int 159), (159, im_if2 ic_ge 166 162), (162, im_ic 1 163), (163, im_go 167), (166, im_ic 0 167), (167, im_is 7 169)]
set_option maxRecDepth 20000 in
theorem o_X9_change_4 : ∀ q ∈ t_X9_change_4, am_ok vwCl q_SH ξ (q_E ξ β xs L) q_EN q_KD q_ML (cX9_change, 9, RX9, "change", none, []) q.1 q.2 :=
  List.forall_mem_cons.mpr ⟨⟨mo_al _ _, Or.inl (ok_aload_n (k := 0) rfl (by decide +kernel))⟩,
  List.forall_mem_cons.mpr ⟨⟨mo_gr _ _ _ _, Or.inl (ok_gr (C := RX9) (T := TX9) (N := 20) (ci := 9) (k := 6) rfl inX9 (by decide) fl_X9_21 (by decide +kernel) (by decide +kernel))⟩,
  List.forall_mem_cons.mpr ⟨⟨mo_gi _ _ _ _, Or.inl (ok_gi (C := RX4) (T := TX4) (N := 12) (ci := 4) (k := 0) rfl inX4 (by decide) fl_X9_122 (by decide +kernel) (by decide +kernel))⟩,
  List.forall_mem_cons.mpr ⟨⟨mo_al _ _, Or.inl (ok_aload_n (k := 0) rfl (by decide +kernel))⟩,
  List.forall_mem_cons.mpr ⟨⟨mo_gr _ _ _ _, Or.inl (ok_gr (C := RX9) (T := TX9) (N := 20) (ci := 9) (k := 9) rfl inX9 (by decide) fl_X9_36 (by decide +kernel) (by decide +kernel))⟩,
  List.forall_mem_cons.mpr ⟨⟨mo_il _ _, Or.inl (ok_iload (by decide +kernel))⟩,
  List.forall_mem_cons.mpr ⟨⟨mo_ald _ _ _, Or.inl (ok_iald (by decide +kernel))⟩,
  List.forall_mem_cons.mpr ⟨⟨mo_bin _ _, Or.inl (ok_isub (by decide +kernel))⟩,
  List.forall_mem_cons.mpr ⟨⟨mo_ic _ _, Or.inl (ok_sipush (n := 365) (v := 365) (by decide) (by decide +kernel))⟩,
  List.forall_mem_cons.mpr ⟨⟨mo_div _ _, Or.inl (ok_idiv (by decide +kernel))⟩,
  List.forall_mem_cons.mpr ⟨⟨mo_al _ _, Or.inl (ok_aload_n (k := 0) rfl (by decide +kernel))⟩,
  List.forall_mem_cons.mpr ⟨⟨mo_gr _ _ _ _, Or.inl (ok_gr (C := RX9) (T := TX9) (N := 20) (ci := 9) (k := 3) rfl inX9 (by decide) fl_X9_75 (by decide +kernel) (by decide +kernel))⟩,
  List.forall_mem_cons.mpr ⟨⟨mo_gr _ _ _ _, Or.inl (ok_gr (C := RX0) (T := TX0) (N := 16) (ci := 0) (k := 13) rfl inX0 (by decide) fl_X9_313 (by decide +kernel) (by decide +kernel))⟩,
  List.forall_mem_cons.mpr ⟨⟨mo_il _ _, Or.inl (ok_iload_n (k := 3) rfl (by decide +kernel))⟩,
  List.forall_mem_cons.mpr ⟨⟨mo_ald _ _ _, Or.inl (ok_iald (by decide +kernel))⟩,
  List.forall_mem_cons.mpr ⟨⟨mo_if2 _ _ _, Or.inl (ok_icmp_ge (off := 7) (by decide) (by decide +kernel))⟩,
  List.forall_mem_cons.mpr ⟨⟨mo_ic _ _, Or.inl (ok_iconst (n := 1) (v := 1) (by decide) (by decide +kernel))⟩,
  List.forall_mem_cons.mpr ⟨⟨mo_go _, Or.inl (ok_goto (off := 4) (by decide) (by decide +kernel))⟩,
  List.forall_mem_cons.mpr ⟨⟨mo_ic _ _, Or.inl (ok_iconst (n := 0) (v := 0) (by decide) (by decide +kernel))⟩,
  List.forall_mem_cons.mpr ⟨⟨mo_is _ _, Or.inl (ok_istore (by decide) (by decide +kernel))⟩,
  fun _ h => absurd h List.not_mem_nil⟩⟩⟩⟩⟩⟩⟩⟩⟩⟩⟩⟩⟩⟩⟩⟩⟩⟩⟩⟩
def t_X9_change_5 : List (Nat × am_F) := [(169, im_al 0 170), (170, im_gr q_SH 9 8 173), (173, im_il 6 175), (175, im_ald q_SH .int 176), (176, im_il 2 177), (177, im_bin (fun x y => x >>> (y &&& 31)) 178), (178, im_ic 1 179), (179, im_bin (fun x y => x &&& y) 180), (180, im_ic 1 181), (181, im_if2 ic_ne 188 184), (184, im_ic 1 185), (185, im_go 189), (188, im_ic 0 189), (189, im_is 8 191), (191, im_il 7 193), (193, im_if1 ib_eq 287 196), (196, im_il 8 198), (198, im_il 4 200), (200, im_if2 ic_eq 287 203), (203, im_al 0 204)]
set_option maxRecDepth 20000 in
theorem o_X9_change_5 : ∀ q ∈ t_X9_change_5, am_ok vwCl q_SH ξ (q_E ξ β xs L) q_EN q_KD q_ML (cX9_change, 9, RX9, "change", none, []) q.1 q.2 :=
  List.forall_mem_cons.mpr ⟨⟨mo_al _ _, Or.inl (ok_aload_n (k := 0) rfl (by decide +kernel))⟩,
  List.forall_mem_cons.mpr ⟨⟨mo_gr _ _ _ _, Or.inl (ok_gr (C := RX9) (T := TX9) (N := 20) (ci := 9) (k := 8) rfl inX9 (by decide) fl_X9_32 (by decide +kernel) (by decide +kernel))⟩,
  List.forall_mem_cons.mpr ⟨⟨mo_il _ _, Or.inl (ok_iload (by decide +kernel))⟩,
  List.forall_mem_cons.mpr ⟨⟨mo_ald _ _ _, Or.inl (ok_iald (by decide +kernel))⟩,
  List.forall_mem_cons.mpr ⟨⟨mo_il _ _, Or.inl (ok_iload_n (k := 2) rfl (by decide +kernel))⟩,
  List.forall_mem_cons.mpr ⟨⟨mo_bin _ _, Or.inl (ok_ishr (by decide +kernel))⟩,
  List.forall_mem_cons.mpr ⟨⟨mo_ic _ _, Or.inl (ok_iconst (n := 1) (v := 1) (by decide) (by decide +kernel))⟩,
  List.forall_mem_cons.mpr ⟨⟨mo_bin _ _, Or.inl (ok_iand (by decide +kernel))⟩,
  List.forall_mem_cons.mpr ⟨⟨mo_ic _ _, Or.inl (ok_iconst (n := 1) (v := 1) (by decide) (by decide +kernel))⟩,
  List.forall_mem_cons.mpr ⟨⟨mo_if2 _ _ _, Or.inl (ok_icmp_ne (off := 7) (by decide) (by decide +kernel))⟩,
  List.forall_mem_cons.mpr ⟨⟨mo_ic _ _, Or.inl (ok_iconst (n := 1) (v := 1) (by decide) (by decide +kernel))⟩,
  List.forall_mem_cons.mpr ⟨⟨mo_go _, Or.inl (ok_goto (off := 4) (by decide) (by decide +kernel))⟩,
  List.forall_mem_cons.mpr ⟨⟨mo_ic _ _, Or.inl (ok_iconst (n := 0) (v := 0) (by decide) (by decide +kernel))⟩,
  List.forall_mem_cons.mpr ⟨⟨mo_is _ _, Or.inl (ok_istore (by decide) (by decide +kernel))⟩,
  List.forall_mem_cons.mpr ⟨⟨mo_il _ _, Or.inl (ok_iload (by decide +kernel))⟩,
  List.forall_mem_cons.mpr ⟨⟨mo_if1 _ _ _, Or.inl (ok_if_eq (off := 94) (by decide) (by decide +kernel))⟩,
  List.forall_mem_cons.mpr ⟨⟨mo_il _ _, Or.inl (ok_iload (by decide +kernel))⟩,
  List.forall_mem_cons.mpr ⟨⟨mo_il _ _, Or.inl (ok_iload (by decide +kernel))⟩,
  List.forall_mem_cons.mpr ⟨⟨mo_if2 _ _ _, Or.inl (ok_icmp_eq (off := 87) (by decide) (by decide +kernel))⟩,
  List.forall_mem_cons.mpr ⟨⟨mo_al _ _, Or.inl (ok_aload_n (k := 0) rfl (by decide +kernel))⟩,
  fun _ h => absurd h List.not_mem_nil⟩⟩⟩⟩⟩⟩⟩⟩⟩⟩⟩⟩⟩⟩⟩⟩⟩⟩⟩⟩
def t_X9_change_6 : List (Nat × am_F) := [(204, im_gr q_SH 9 0 207), (207, im_il 6 209), (209, im_il 1 210), (210, im_inv q_SH 7 49 2 213), (213, im_if1 ib_ne 219 216), (216, im_go 287), (219, im_al 0 220), (220, im_gr q_SH 9 8 223), (223, im_il 6 225), (225, im_dup2 226), (226, im_ald q_SH .int 227), (227, im_ic 1 228), (228, im_il 2 229), (229, im_bin (fun x y => x <<< (y &&& 31)) 230), (230, im_bin (fun x y => x ^^^ y) 231), (231, im_ast q_SH .int (fun x => x) 232), (232, im_il 4 234), (234, im_if1 ib_eq 269 237), (237, im_al 0 238), (238, im_gr q_SH 9 7 241)]
set_option maxRecDepth 20000 in
theorem o_X9_change_6 : ∀ q ∈ t_X9_change_6, am_ok vwCl q_SH ξ (q_E ξ β xs L) q_EN q_KD q_ML (cX9_change, 9, RX9, "change", none, []) q.1 q.2 :=
  List.forall_mem_cons.mpr ⟨⟨mo_gr _ _ _ _, Or.inl (ok_gr (C := RX9) (T := TX9) (N := 20) (ci := 9) (k := 0) rfl inX9 (by decide) fl_X9_67 (by decide +kernel) (by decide +kernel))⟩,
  List.forall_mem_cons.mpr ⟨⟨mo_il _ _, Or.inl (ok_iload (by decide +kernel))⟩,
  List.forall_mem_cons.mpr ⟨⟨mo_il _ _, Or.inl (ok_iload_n (k := 1) rfl (by decide +kernel))⟩,
  List.forall_mem_cons.mpr ⟨⟨mo_inv _ _ _ _ _, Or.inr (Or.inl (ok_inv (T := TX7) (N := 4) rfl cw_X7_isChildOf (by decide) (by decide) ml_X9_316 ci_X7_isChildOf cv_X7_isChildOf (show Cond.initialized (yX7_isChildOf).cls ∈ am_ts from ci9_RX7) ⟨by decide +kernel, by decide +kernel, by decide +kernel⟩ rfl (by decide +kernel)))⟩,
  List.forall_mem_cons.mpr ⟨⟨mo_if1 _ _ _, Or.inl (ok_if_ne (off := 6) (by decide) (by decide +kernel))⟩,
  List.forall_mem_cons.mpr ⟨⟨mo_go _, Or.inl (ok_goto (off := 71) (by decide) (by decide +kernel))⟩,
  List.forall_mem_cons.mpr ⟨⟨mo_al _ _, Or.inl (ok_aload_n (k := 0) rfl (by decide +kernel))⟩,
  List.forall_mem_cons.mpr ⟨⟨mo_gr _ _ _ _, Or.inl (ok_gr (C := RX9) (T := TX9) (N := 20) (ci := 9) (k := 8) rfl inX9 (by decide) fl_X9_32 (by decide +kernel) (by decide +kernel))⟩,
  List.forall_mem_cons.mpr ⟨⟨mo_il _ _, Or.inl (ok_iload (by decide +kernel))⟩,
  List.forall_mem_cons.mpr ⟨⟨mo_dup2 _, Or.inl (ok_dup2 (by decide +kernel))⟩,
  List.forall_mem_cons.mpr ⟨⟨mo_ald _ _ _, Or.inl (ok_iald (by decide +kernel))⟩,
  List.forall_mem_cons.mpr ⟨⟨mo_ic _ _, Or.inl (ok_iconst (n := 1) (v := 1) (by decide) (by decide +kernel))⟩,
  List.forall_mem_cons.mpr ⟨⟨mo_il _ _, Or.inl (ok_iload_n (k := 2) rfl (by decide +kernel))⟩,
  List.forall_mem_cons.mpr ⟨⟨mo_bin _ _, Or.inl (ok_ishl (by decide +kernel))⟩,
  List.forall_mem_cons.mpr ⟨⟨mo_bin _ _, Or.inl (ok_ixor (by decide +kernel))⟩,
  List.forall_mem_cons.mpr ⟨⟨mo_ast _ _ _ _, Or.inl (ok_iast (by decide +kernel))⟩,
  List.forall_mem_cons.mpr ⟨⟨mo_il _ _, Or.inl (ok_iload (by decide +kernel))⟩,
  List.forall_mem_cons.mpr ⟨⟨mo_if1 _ _ _, Or.inl (ok_if_eq (off := 35) (by decide) (by decide +kernel))⟩,
  List.forall_mem_cons.mpr ⟨⟨mo_al _ _, Or.inl (ok_aload_n (k := 0) rfl (by decide +kernel))⟩,
  List.forall_mem_cons.mpr ⟨⟨mo_gr _ _ _ _, Or.inl (ok_gr (C := RX9) (T := TX9) (N := 20) (ci := 9) (k := 7) rfl inX9 (by decide) fl_X9_28 (by decide +kernel) (by decide +kernel))⟩,
  fun _ h => absurd h List.not_mem_nil⟩⟩⟩⟩⟩⟩⟩⟩⟩⟩⟩⟩⟩⟩⟩⟩⟩⟩⟩⟩
def t_X9_change_7 : List (Nat × am_F) := [(241, im_il 6 243), (243, im_il 2 244), (244, im_al 0 245), (245, im_gr q_SH 9 6 248), (248, im_gi q_SH 4 0 251), (251, im_il 3 252), (252, im_al 0 253), (253, im_gr q_SH 9 6 256), (256, im_gi q_SH 4 4 259), (259, im_ic 1 260), (260, im_il 5 262), (262, im_inv q_SH 5 23 7 265), (265, im_pop 266), (266, im_go 287), (269, im_al 0 270), (270, im_gr q_SH 9 7 273), (273, im_gr q_SH 5 2 276), (276, im_il 6 278), (278, im_ic 5 279), (279, im_bin (fun x y => x * y) 280)]
set_option maxRecDepth 20000 in
theorem o_X9_change_7 : ∀ q ∈ t_X9_change_7, am_ok vwCl q_SH ξ (q_E ξ β xs L) q_EN q_KD q_ML (cX9_change, 9, RX9, "change", none, []) q.1 q.2 :=
  List.forall_mem_cons.mpr ⟨⟨mo_il _ _, Or.inl (ok_iload (by decide +kernel))⟩,
  List.forall_mem_cons.mpr ⟨⟨mo_il _ _, Or.inl (ok_iload_n (k := 2) rfl (by decide +kernel))⟩,
  List.forall_mem_cons.mpr ⟨⟨mo_al _ _, Or.inl (ok_aload_n (k := 0) rfl (by decide +kernel))⟩,
  List.forall_mem_cons.mpr ⟨⟨mo_gr _ _ _ _, Or.inl (ok_gr (C := RX9) (T := TX9) (N := 20) (ci := 9) (k := 6) rfl inX9 (by decide) fl_X9_21 (by decide +kernel) (by decide +kernel))⟩,
  List.forall_mem_cons.mpr ⟨⟨mo_gi _ _ _ _, Or.inl (ok_gi (C := RX4) (T := TX4) (N := 12) (ci := 4) (k := 0) rfl inX4 (by decide) fl_X9_122 (by decide +kernel) (by decide +kernel))⟩,
  List.forall_mem_cons.mpr ⟨⟨mo_il _ _, Or.inl (ok_iload_n (k := 3) rfl (by decide +kernel))⟩,
  List.forall_mem_cons.mpr ⟨⟨mo_al _ _, Or.inl (ok_aload_n (k := 0) rfl (by decide +kernel))⟩,
  List.forall_mem_cons.mpr ⟨⟨mo_gr _ _ _ _, Or.inl (ok_gr (C := RX9) (T := TX9) (N := 20) (ci := 9) (k := 6) rfl inX9 (by decide) fl_X9_21 (by decide +kernel) (by decide +kernel))⟩,
  List.forall_mem_cons.mpr ⟨⟨mo_gi _ _ _ _, Or.inl (ok_gi (C := RX4) (T := TX4) (N := 12) (ci := 4) (k := 4) rfl inX4 (by decide) fl_X9_128 (by decide +kernel) (by decide +kernel))⟩,
  List.forall_mem_cons.mpr ⟨⟨mo_ic _ _, Or.inl (ok_iconst (n := 1) (v := 1) (by decide) (by decide +kernel))⟩,
  List.forall_mem_cons.mpr ⟨⟨mo_il _ _, Or.inl (ok_iload (by decide +kernel))⟩,
  List.forall_mem_cons.mpr ⟨⟨mo_inv _ _ _ _ _, Or.inr (Or.inl (ok_inv (T := TX5) (N := 5) rfl cw_X5_gain (by decide) (by decide) ml_X9_306 ci_X5_gain cv_X5_gain (show Cond.initialized (yX5_gain).cls ∈ am_ts from ci9_RX5) ⟨by decide +kernel, by decide +kernel, by decide +kernel⟩ rfl (by decide +kernel)))⟩,
  List.forall_mem_cons.mpr ⟨⟨mo_pop _, Or.inl (ok_pop (by decide +kernel))⟩,
  List.forall_mem_cons.mpr ⟨⟨mo_go _, Or.inl (ok_goto (off := 21) (by decide) (by decide +kernel))⟩,
  List.forall_mem_cons.mpr ⟨⟨mo_al _ _, Or.inl (ok_aload_n (k := 0) rfl (by decide +kernel))⟩,
  List.forall_mem_cons.mpr ⟨⟨mo_gr _ _ _ _, Or.inl (ok_gr (C := RX9) (T := TX9) (N := 20) (ci := 9) (k := 7) rfl inX9 (by decide) fl_X9_28 (by decide +kernel) (by decide +kernel))⟩,
  List.forall_mem_cons.mpr ⟨⟨mo_gr _ _ _ _, Or.inl (ok_gr (C := RX5) (T := TX5) (N := 5) (ci := 5) (k := 2) rfl inX5 (by decide) fl_X9_310 (by decide +kernel) (by decide +kernel))⟩,
  List.forall_mem_cons.mpr ⟨⟨mo_il _ _, Or.inl (ok_iload (by decide +kernel))⟩,
  List.forall_mem_cons.mpr ⟨⟨mo_ic _ _, Or.inl (ok_iconst (n := 5) (v := 5) (by decide) (by decide +kernel))⟩,
  List.forall_mem_cons.mpr ⟨⟨mo_bin _ _, Or.inl (ok_imul (by decide +kernel))⟩,
  fun _ h => absurd h List.not_mem_nil⟩⟩⟩⟩⟩⟩⟩⟩⟩⟩⟩⟩⟩⟩⟩⟩⟩⟩⟩⟩
def t_X9_change_8 : List (Nat × am_F) := [(280, im_il 2 281), (281, im_bin (fun x y => x + y) 282), (282, im_dup2 283), (283, im_ald q_SH .int 284), (284, im_ic 1 285), (285, im_bin (fun x y => x + y) 286), (286, im_ast q_SH .int (fun x => x) 287), (287, im_iinc 6 1 290), (290, im_go 109), (293, im_ret0e)]
set_option maxRecDepth 20000 in
theorem o_X9_change_8 : ∀ q ∈ t_X9_change_8, am_ok vwCl q_SH ξ (q_E ξ β xs L) q_EN q_KD q_ML (cX9_change, 9, RX9, "change", none, []) q.1 q.2 :=
  List.forall_mem_cons.mpr ⟨⟨mo_il _ _, Or.inl (ok_iload_n (k := 2) rfl (by decide +kernel))⟩,
  List.forall_mem_cons.mpr ⟨⟨mo_bin _ _, Or.inl (ok_iadd (by decide +kernel))⟩,
  List.forall_mem_cons.mpr ⟨⟨mo_dup2 _, Or.inl (ok_dup2 (by decide +kernel))⟩,
  List.forall_mem_cons.mpr ⟨⟨mo_ald _ _ _, Or.inl (ok_iald (by decide +kernel))⟩,
  List.forall_mem_cons.mpr ⟨⟨mo_ic _ _, Or.inl (ok_iconst (n := 1) (v := 1) (by decide) (by decide +kernel))⟩,
  List.forall_mem_cons.mpr ⟨⟨mo_bin _ _, Or.inl (ok_iadd (by decide +kernel))⟩,
  List.forall_mem_cons.mpr ⟨⟨mo_ast _ _ _ _, Or.inl (ok_iast (by decide +kernel))⟩,
  List.forall_mem_cons.mpr ⟨⟨mo_iinc _ _ _, Or.inl (ok_iinc (n := 1) (v := 1) (by decide) (by decide) (by decide +kernel))⟩,
  List.forall_mem_cons.mpr ⟨⟨mo_go _, Or.inl (ok_goto (off := (-181)) (by decide) (by decide +kernel))⟩,
  List.forall_mem_cons.mpr ⟨⟨mo_ret0e, Or.inr (Or.inr (ok_ret0 rfl (by decide +kernel)))⟩,
  fun _ h => absurd h List.not_mem_nil⟩⟩⟩⟩⟩⟩⟩⟩⟩⟩
def t_X9_change : List (Nat × am_F) := t_X9_change_0 ++ (t_X9_change_1 ++ (t_X9_change_2 ++ (t_X9_change_3 ++ (t_X9_change_4 ++ (t_X9_change_5 ++ (t_X9_change_6 ++ (t_X9_change_7 ++ (t_X9_change_8))))))))
theorem o_X9_change : ∀ q ∈ t_X9_change, am_ok vwCl q_SH ξ (q_E ξ β xs L) q_EN q_KD q_ML (cX9_change, 9, RX9, "change", none, []) q.1 q.2 := List.forall_mem_append.mpr ⟨o_X9_change_0, List.forall_mem_append.mpr ⟨o_X9_change_1, List.forall_mem_append.mpr ⟨o_X9_change_2, List.forall_mem_append.mpr ⟨o_X9_change_3, List.forall_mem_append.mpr ⟨o_X9_change_4, List.forall_mem_append.mpr ⟨o_X9_change_5, List.forall_mem_append.mpr ⟨o_X9_change_6, List.forall_mem_append.mpr ⟨o_X9_change_7, o_X9_change_8⟩⟩⟩⟩⟩⟩⟩⟩
def t_X9_leansOn_0 : List (Nat × am_F) := [(0, im_al 0 1), (1, im_gr q_SH 9 0 4), (4, im_gr q_SH 7 1 7), (7, im_il 1 8), (8, im_ald q_SH .int 9), (9, im_is 3 10), (10, im_al 0 11), (11, im_gr q_SH 9 0 14), (14, im_gr q_SH 7 2 17), (17, im_il 1 18), (18, im_ald q_SH .int 19), (19, im_is 4 21), (21, im_il 1 22), (22, im_al 0 23), (23, im_gr q_SH 9 6 26), (26, im_gi q_SH 4 6 29), (29, im_if2 ic_ne 42 32), (32, im_al 0 33), (33, im_gr q_SH 9 6 36), (36, im_gi q_SH 4 9 39)]
set_option maxRecDepth 20000 in
theorem o_X9_leansOn_0 : ∀ q ∈ t_X9_leansOn_0, am_ok vwCl q_SH ξ (q_E ξ β xs L) q_EN q_KD q_ML (cX9_leansOn, 7, RX9, "leansOn", (some .int), []) q.1 q.2 :=
  List.forall_mem_cons.mpr ⟨⟨mo_al _ _, Or.inl (ok_aload_n (k := 0) rfl (by decide +kernel))⟩,
  List.forall_mem_cons.mpr ⟨⟨mo_gr _ _ _ _, Or.inl (ok_gr (C := RX9) (T := TX9) (N := 20) (ci := 9) (k := 0) rfl inX9 (by decide) fl_X9_67 (by decide +kernel) (by decide +kernel))⟩,
  List.forall_mem_cons.mpr ⟨⟨mo_gr _ _ _ _, Or.inl (ok_gr (C := RX7) (T := TX7) (N := 4) (ci := 7) (k := 1) rfl inX7 (by decide) fl_X9_288 (by decide +kernel) (by decide +kernel))⟩,
  List.forall_mem_cons.mpr ⟨⟨mo_il _ _, Or.inl (ok_iload_n (k := 1) rfl (by decide +kernel))⟩,
  List.forall_mem_cons.mpr ⟨⟨mo_ald _ _ _, Or.inl (ok_iald (by decide +kernel))⟩,
  List.forall_mem_cons.mpr ⟨⟨mo_is _ _, Or.inl (ok_istore_n (k := 3) rfl (by decide) (by decide +kernel))⟩,
  List.forall_mem_cons.mpr ⟨⟨mo_al _ _, Or.inl (ok_aload_n (k := 0) rfl (by decide +kernel))⟩,
  List.forall_mem_cons.mpr ⟨⟨mo_gr _ _ _ _, Or.inl (ok_gr (C := RX9) (T := TX9) (N := 20) (ci := 9) (k := 0) rfl inX9 (by decide) fl_X9_67 (by decide +kernel) (by decide +kernel))⟩,
  List.forall_mem_cons.mpr ⟨⟨mo_gr _ _ _ _, Or.inl (ok_gr (C := RX7) (T := TX7) (N := 4) (ci := 7) (k := 2) rfl inX7 (by decide) fl_X9_291 (by decide +kernel) (by decide +kernel))⟩,
  List.forall_mem_cons.mpr ⟨⟨mo_il _ _, Or.inl (ok_iload_n (k := 1) rfl (by decide +kernel))⟩,
  List.forall_mem_cons.mpr ⟨⟨mo_ald _ _ _, Or.inl (ok_iald (by decide +kernel))⟩,
  List.forall_mem_cons.mpr ⟨⟨mo_is _ _, Or.inl (ok_istore (by decide) (by decide +kernel))⟩,
  List.forall_mem_cons.mpr ⟨⟨mo_il _ _, Or.inl (ok_iload_n (k := 1) rfl (by decide +kernel))⟩,
  List.forall_mem_cons.mpr ⟨⟨mo_al _ _, Or.inl (ok_aload_n (k := 0) rfl (by decide +kernel))⟩,
  List.forall_mem_cons.mpr ⟨⟨mo_gr _ _ _ _, Or.inl (ok_gr (C := RX9) (T := TX9) (N := 20) (ci := 9) (k := 6) rfl inX9 (by decide) fl_X9_21 (by decide +kernel) (by decide +kernel))⟩,
  List.forall_mem_cons.mpr ⟨⟨mo_gi _ _ _ _, Or.inl (ok_gi (C := RX4) (T := TX4) (N := 12) (ci := 4) (k := 6) rfl inX4 (by decide) fl_X9_217 (by decide +kernel) (by decide +kernel))⟩,
  List.forall_mem_cons.mpr ⟨⟨mo_if2 _ _ _, Or.inl (ok_icmp_ne (off := 13) (by decide) (by decide +kernel))⟩,
  List.forall_mem_cons.mpr ⟨⟨mo_al _ _, Or.inl (ok_aload_n (k := 0) rfl (by decide +kernel))⟩,
  List.forall_mem_cons.mpr ⟨⟨mo_gr _ _ _ _, Or.inl (ok_gr (C := RX9) (T := TX9) (N := 20) (ci := 9) (k := 6) rfl inX9 (by decide) fl_X9_21 (by decide +kernel) (by decide +kernel))⟩,
  List.forall_mem_cons.mpr ⟨⟨mo_gi _ _ _ _, Or.inl (ok_gi (C := RX4) (T := TX4) (N := 12) (ci := 4) (k := 9) rfl inX4 (by decide) fl_X9_249 (by decide +kernel) (by decide +kernel))⟩,
  fun _ h => absurd h List.not_mem_nil⟩⟩⟩⟩⟩⟩⟩⟩⟩⟩⟩⟩⟩⟩⟩⟩⟩⟩⟩⟩
def t_X9_leansOn_1 : List (Nat × am_F) := [(39, im_go 49), (42, im_al 0 43), (43, im_gr q_SH 9 6 46), (46, im_gi q_SH 4 8 49), (49, im_is 5 51), (51, im_ic (-1) 52), (52, im_is 6 54), (54, im_al 0 55), (55, im_gr q_SH 9 6 58), (58, im_gi q_SH 4 1 61), (61, im_ic 1 62), (62, im_if2 ic_ne 86 65), (65, im_il 5 67), (67, im_il 2 68), (68, im_bin (fun x y => x >>> (y &&& 31)) 69), (69, im_ic 1 70), (70, im_bin (fun x y => x &&& y) 71), (71, im_ic 1 72), (72, im_if2 ic_ne 86 75), (75, im_al 0 76)]
set_option maxRecDepth 20000 in
theorem o_X9_leansOn_1 : ∀ q ∈ t_X9_leansOn_1, am_ok vwCl q_SH ξ (q_E ξ β xs L) q_EN q_KD q_ML (cX9_leansOn, 7, RX9, "leansOn", (some .int), []) q.1 q.2 :=
  List.forall_mem_cons.mpr ⟨⟨mo_go _, Or.inl (ok_goto (off := 10) (by decide) (by decide +kernel))⟩,
  List.forall_mem_cons.mpr ⟨⟨mo_al _ _, Or.inl (ok_aload_n (k := 0) rfl (by decide +kernel))⟩,
  List.forall_mem_cons.mpr ⟨⟨mo_gr _ _ _ _, Or.inl (ok_gr (C := RX9) (T := TX9) (N := 20) (ci := 9) (k := 6) rfl inX9 (by decide) fl_X9_21 (by decide +kernel) (by decide +kernel))⟩,
  List.forall_mem_cons.mpr ⟨⟨mo_gi _ _ _ _, Or.inl (ok_gi (C := RX4) (T := TX4) (N := 12) (ci := 4) (k := 8) rfl inX4 (by decide) fl_X9_246 (by decide +kernel) (by decide +kernel))⟩,
  List.forall_mem_cons.mpr ⟨⟨mo_is _ _, Or.inl (ok_istore (by decide) (by decide +kernel))⟩,
  List.forall_mem_cons.mpr ⟨⟨mo_ic _ _, Or.inl (ok_iconst (n := (-1)) (v := (-1)) (by decide) (by decide +kernel))⟩,
  List.forall_mem_cons.mpr ⟨⟨mo_is _ _, Or.inl (ok_istore (by decide) (by decide +kernel))⟩,
  List.forall_mem_cons.mpr ⟨⟨mo_al _ _, Or.inl (ok_aload_n (k := 0) rfl (by decide +kernel))⟩,
  List.forall_mem_cons.mpr ⟨⟨mo_gr _ _ _ _, Or.inl (ok_gr (C := RX9) (T := TX9) (N := 20) (ci := 9) (k := 6) rfl inX9 (by decide) fl_X9_21 (by decide +kernel) (by decide +kernel))⟩,
  List.forall_mem_cons.mpr ⟨⟨mo_gi _ _ _ _, Or.inl (ok_gi (C := RX4) (T := TX4) (N := 12) (ci := 4) (k := 1) rfl inX4 (by decide) fl_X9_199 (by decide +kernel) (by decide +kernel))⟩,
  List.forall_mem_cons.mpr ⟨⟨mo_ic _ _, Or.inl (ok_iconst (n := 1) (v := 1) (by decide) (by decide +kernel))⟩,
  List.forall_mem_cons.mpr ⟨⟨mo_if2 _ _ _, Or.inl (ok_icmp_ne (off := 24) (by decide) (by decide +kernel))⟩,
  List.forall_mem_cons.mpr ⟨⟨mo_il _ _, Or.inl (ok_iload (by decide +kernel))⟩,
  List.forall_mem_cons.mpr ⟨⟨mo_il _ _, Or.inl (ok_iload_n (k := 2) rfl (by decide +kernel))⟩,
  List.forall_mem_cons.mpr ⟨⟨mo_bin _ _, Or.inl (ok_ishr (by decide +kernel))⟩,
  List.forall_mem_cons.mpr ⟨⟨mo_ic _ _, Or.inl (ok_iconst (n := 1) (v := 1) (by decide) (by decide +kernel))⟩,
  List.forall_mem_cons.mpr ⟨⟨mo_bin _ _, Or.inl (ok_iand (by decide +kernel))⟩,
  List.forall_mem_cons.mpr ⟨⟨mo_ic _ _, Or.inl (ok_iconst (n := 1) (v := 1) (by decide) (by decide +kernel))⟩,
  List.forall_mem_cons.mpr ⟨⟨mo_if2 _ _ _, Or.inl (ok_icmp_ne (off := 14) (by decide) (by decide +kernel))⟩,
  List.forall_mem_cons.mpr ⟨⟨mo_al _ _, Or.inl (ok_aload_n (k := 0) rfl (by decide +kernel))⟩,
  fun _ h => absurd h List.not_mem_nil⟩⟩⟩⟩⟩⟩⟩⟩⟩⟩⟩⟩⟩⟩⟩⟩⟩⟩⟩⟩
def t_X9_leansOn_2 : List (Nat × am_F) := [(76, im_gr q_SH 9 11 79), (79, im_il 1 80), (80, im_ald q_SH .int 81), (81, im_is 6 83), (83, im_go 154), (86, im_al 0 87), (87, im_gr q_SH 9 6 90), (90, im_gi q_SH 4 1 93), (93, im_if1 ib_ne 120 96), (96, im_il 3 97), (97, im_if1 ib_lt 120 100), (100, im_al 0 101), (101, im_gr q_SH 9 8 104), (104, im_il 3 105), (105, im_ald q_SH .int 106), (106, im_il 2 107), (107, im_bin (fun x y => x >>> (y &&& 31)) 108), (108, im_ic 1 109), (109, im_bin (fun x y => x &&& y) 110), (110, im_ic 1 111)]
set_option maxRecDepth 20000 in
theorem o_X9_leansOn_2 : ∀ q ∈ t_X9_leansOn_2, am_ok vwCl q_SH ξ (q_E ξ β xs L) q_EN q_KD q_ML (cX9_leansOn, 7, RX9, "leansOn", (some .int), []) q.1 q.2 :=
  List.forall_mem_cons.mpr ⟨⟨mo_gr _ _ _ _, Or.inl (ok_gr (C := RX9) (T := TX9) (N := 20) (ci := 9) (k := 11) rfl inX9 (by decide) fl_X9_42 (by decide +kernel) (by decide +kernel))⟩,
  List.forall_mem_cons.mpr ⟨⟨mo_il _ _, Or.inl (ok_iload_n (k := 1) rfl (by decide +kernel))⟩,
  List.forall_mem_cons.mpr ⟨⟨mo_ald _ _ _, Or.inl (ok_iald (by decide +kernel))⟩,
  List.forall_mem_cons.mpr ⟨⟨mo_is _ _, Or.inl (ok_istore (by decide) (by decide +kernel))⟩,
  List.forall_mem_cons.mpr ⟨⟨mo_go _, Or.inl (ok_goto (off := 71) (by decide) (by decide +kernel))⟩,
  List.forall_mem_cons.mpr ⟨⟨mo_al _ _, Or.inl (ok_aload_n (k := 0) rfl (by decide +kernel))⟩,
  List.forall_mem_cons.mpr ⟨⟨mo_gr _ _ _ _, Or.inl (ok_gr (C := RX9) (T := TX9) (N := 20) (ci := 9) (k := 6) rfl inX9 (by decide) fl_X9_21 (by decide +kernel) (by decide +kernel))⟩,
  List.forall_mem_cons.mpr ⟨⟨mo_gi _ _ _ _, Or.inl (ok_gi (C := RX4) (T := TX4) (N := 12) (ci := 4) (k := 1) rfl inX4 (by decide) fl_X9_199 (by decide +kernel) (by decide +kernel))⟩,
  List.forall_mem_cons.mpr ⟨⟨mo_if1 _ _ _, Or.inl (ok_if_ne (off := 27) (by decide) (by decide +kernel))⟩,
  List.forall_mem_cons.mpr ⟨⟨mo_il _ _, Or.inl (ok_iload_n (k := 3) rfl (by decide +kernel))⟩,
  List.forall_mem_cons.mpr ⟨⟨mo_if1 _ _ _, Or.inl (ok_if_lt (off := 23) (by decide) (by decide +kernel))⟩,
  List.forall_mem_cons.mpr ⟨⟨mo_al _ _, Or.inl (ok_aload_n (k := 0) rfl (by decide +kernel))⟩,
  List.forall_mem_cons.mpr ⟨⟨mo_gr _ _ _ _, Or.inl (ok_gr (C := RX9) (T := TX9) (N := 20) (ci := 9) (k := 8) rfl inX9 (by decide) fl_X9_32 (by decide +kernel) (by decide +kernel))⟩,
  List.forall_mem_cons.mpr ⟨⟨mo_il _ _, Or.inl (ok_iload_n (k := 3) rfl (by decide +kernel))⟩,
  List.forall_mem_cons.mpr ⟨⟨mo_ald _ _ _, Or.inl (ok_iald (by decide +kernel))⟩,
  List.forall_mem_cons.mpr ⟨⟨mo_il _ _, Or.inl (ok_iload_n (k := 2) rfl (by decide +kernel))⟩,
  List.forall_mem_cons.mpr ⟨⟨mo_bin _ _, Or.inl (ok_ishr (by decide +kernel))⟩,
  List.forall_mem_cons.mpr ⟨⟨mo_ic _ _, Or.inl (ok_iconst (n := 1) (v := 1) (by decide) (by decide +kernel))⟩,
  List.forall_mem_cons.mpr ⟨⟨mo_bin _ _, Or.inl (ok_iand (by decide +kernel))⟩,
  List.forall_mem_cons.mpr ⟨⟨mo_ic _ _, Or.inl (ok_iconst (n := 1) (v := 1) (by decide) (by decide +kernel))⟩,
  fun _ h => absurd h List.not_mem_nil⟩⟩⟩⟩⟩⟩⟩⟩⟩⟩⟩⟩⟩⟩⟩⟩⟩⟩⟩⟩
def t_X9_leansOn_3 : List (Nat × am_F) := [(111, im_if2 ic_ne 120 114), (114, im_il 3 115), (115, im_is 6 117), (117, im_go 154), (120, im_al 0 121), (121, im_gr q_SH 9 6 124), (124, im_gi q_SH 4 1 127), (127, im_if1 ib_ne 154 130), (130, im_il 4 132), (132, im_if1 ib_lt 154 135), (135, im_al 0 136), (136, im_gr q_SH 9 8 139), (139, im_il 4 141), (141, im_ald q_SH .int 142), (142, im_il 2 143), (143, im_bin (fun x y => x >>> (y &&& 31)) 144), (144, im_ic 1 145), (145, im_bin (fun x y => x &&& y) 146), (146, im_ic 1 147), (147, im_if2 ic_ne 154 150)]
set_option maxRecDepth 20000 in
theorem o_X9_leansOn_3 : ∀ q ∈ t_X9_leansOn_3, am_ok vwCl q_SH ξ (q_E ξ β xs L) q_EN q_KD q_ML (cX9_leansOn, 7, RX9, "leansOn", (some .int), []) q.1 q.2 :=
  List.forall_mem_cons.mpr ⟨⟨mo_if2 _ _ _, Or.inl (ok_icmp_ne (off := 9) (by decide) (by decide +kernel))⟩,
  List.forall_mem_cons.mpr ⟨⟨mo_il _ _, Or.inl (ok_iload_n (k := 3) rfl (by decide +kernel))⟩,
  List.forall_mem_cons.mpr ⟨⟨mo_is _ _, Or.inl (ok_istore (by decide) (by decide +kernel))⟩,
  List.forall_mem_cons.mpr ⟨⟨mo_go _, Or.inl (ok_goto (off := 37) (by decide) (by decide +kernel))⟩,
  List.forall_mem_cons.mpr ⟨⟨mo_al _ _, Or.inl (ok_aload_n (k := 0) rfl (by decide +kernel))⟩,
  List.forall_mem_cons.mpr ⟨⟨mo_gr _ _ _ _, Or.inl (ok_gr (C := RX9) (T := TX9) (N := 20) (ci := 9) (k := 6) rfl inX9 (by decide) fl_X9_21 (by decide +kernel) (by decide +kernel))⟩,
  List.forall_mem_cons.mpr ⟨⟨mo_gi _ _ _ _, Or.inl (ok_gi (C := RX4) (T := TX4) (N := 12) (ci := 4) (k := 1) rfl inX4 (by decide) fl_X9_199 (by decide +kernel) (by decide +kernel))⟩,
  List.forall_mem_cons.mpr ⟨⟨mo_if1 _ _ _, Or.inl (ok_if_ne (off := 27) (by decide) (by decide +kernel))⟩,
  List.forall_mem_cons.mpr ⟨⟨mo_il _ _, Or.inl (ok_iload (by decide +kernel))⟩,
  List.forall_mem_cons.mpr ⟨⟨mo_if1 _ _ _, Or.inl (ok_if_lt (off := 22) (by decide) (by decide +kernel))⟩,
  List.forall_mem_cons.mpr ⟨⟨mo_al _ _, Or.inl (ok_aload_n (k := 0) rfl (by decide +kernel))⟩,
  List.forall_mem_cons.mpr ⟨⟨mo_gr _ _ _ _, Or.inl (ok_gr (C := RX9) (T := TX9) (N := 20) (ci := 9) (k := 8) rfl inX9 (by decide) fl_X9_32 (by decide +kernel) (by decide +kernel))⟩,
  List.forall_mem_cons.mpr ⟨⟨mo_il _ _, Or.inl (ok_iload (by decide +kernel))⟩,
  List.forall_mem_cons.mpr ⟨⟨mo_ald _ _ _, Or.inl (ok_iald (by decide +kernel))⟩,
  List.forall_mem_cons.mpr ⟨⟨mo_il _ _, Or.inl (ok_iload_n (k := 2) rfl (by decide +kernel))⟩,
  List.forall_mem_cons.mpr ⟨⟨mo_bin _ _, Or.inl (ok_ishr (by decide +kernel))⟩,
  List.forall_mem_cons.mpr ⟨⟨mo_ic _ _, Or.inl (ok_iconst (n := 1) (v := 1) (by decide) (by decide +kernel))⟩,
  List.forall_mem_cons.mpr ⟨⟨mo_bin _ _, Or.inl (ok_iand (by decide +kernel))⟩,
  List.forall_mem_cons.mpr ⟨⟨mo_ic _ _, Or.inl (ok_iconst (n := 1) (v := 1) (by decide) (by decide +kernel))⟩,
  List.forall_mem_cons.mpr ⟨⟨mo_if2 _ _ _, Or.inl (ok_icmp_ne (off := 7) (by decide) (by decide +kernel))⟩,
  fun _ h => absurd h List.not_mem_nil⟩⟩⟩⟩⟩⟩⟩⟩⟩⟩⟩⟩⟩⟩⟩⟩⟩⟩⟩⟩
def t_X9_leansOn_4 : List (Nat × am_F) := [(150, im_il 4 152), (152, im_is 6 154), (154, im_il 6 156), (156, im_if1 ib_lt 176 159), (159, im_al 0 160), (160, im_gr q_SH 9 7 163), (163, im_gr q_SH 5 0 166), (166, im_il 6 168), (168, im_ic 5 169), (169, im_bin (fun x y => x * y) 170), (170, im_il 2 171), (171, im_bin (fun x y => x + y) 172), (172, im_ald q_SH .int 173), (173, im_go 177), (176, im_ic (-1) 177), (177, im_reti)]
set_option maxRecDepth 20000 in
theorem o_X9_leansOn_4 : ∀ q ∈ t_X9_leansOn_4, am_ok vwCl q_SH ξ (q_E ξ β xs L) q_EN q_KD q_ML (cX9_leansOn, 7, RX9, "leansOn", (some .int), []) q.1 q.2 :=
  List.forall_mem_cons.mpr ⟨⟨mo_il _ _, Or.inl (ok_iload (by decide +kernel))⟩,
  List.forall_mem_cons.mpr ⟨⟨mo_is _ _, Or.inl (ok_istore (by decide) (by decide +kernel))⟩,
  List.forall_mem_cons.mpr ⟨⟨mo_il _ _, Or.inl (ok_iload (by decide +kernel))⟩,
  List.forall_mem_cons.mpr ⟨⟨mo_if1 _ _ _, Or.inl (ok_if_lt (off := 20) (by decide) (by decide +kernel))⟩,
  List.forall_mem_cons.mpr ⟨⟨mo_al _ _, Or.inl (ok_aload_n (k := 0) rfl (by decide +kernel))⟩,
  List.forall_mem_cons.mpr ⟨⟨mo_gr _ _ _ _, Or.inl (ok_gr (C := RX9) (T := TX9) (N := 20) (ci := 9) (k := 7) rfl inX9 (by decide) fl_X9_28 (by decide +kernel) (by decide +kernel))⟩,
  List.forall_mem_cons.mpr ⟨⟨mo_gr _ _ _ _, Or.inl (ok_gr (C := RX5) (T := TX5) (N := 5) (ci := 5) (k := 0) rfl inX5 (by decide) fl_X9_319 (by decide +kernel) (by decide +kernel))⟩,
  List.forall_mem_cons.mpr ⟨⟨mo_il _ _, Or.inl (ok_iload (by decide +kernel))⟩,
  List.forall_mem_cons.mpr ⟨⟨mo_ic _ _, Or.inl (ok_iconst (n := 5) (v := 5) (by decide) (by decide +kernel))⟩,
  List.forall_mem_cons.mpr ⟨⟨mo_bin _ _, Or.inl (ok_imul (by decide +kernel))⟩,
  List.forall_mem_cons.mpr ⟨⟨mo_il _ _, Or.inl (ok_iload_n (k := 2) rfl (by decide +kernel))⟩,
  List.forall_mem_cons.mpr ⟨⟨mo_bin _ _, Or.inl (ok_iadd (by decide +kernel))⟩,
  List.forall_mem_cons.mpr ⟨⟨mo_ald _ _ _, Or.inl (ok_iald (by decide +kernel))⟩,
  List.forall_mem_cons.mpr ⟨⟨mo_go _, Or.inl (ok_goto (off := 4) (by decide) (by decide +kernel))⟩,
  List.forall_mem_cons.mpr ⟨⟨mo_ic _ _, Or.inl (ok_iconst (n := (-1)) (v := (-1)) (by decide) (by decide +kernel))⟩,
  List.forall_mem_cons.mpr ⟨⟨mo_reti, Or.inr (Or.inr (ok_reti rfl (by decide +kernel)))⟩,
  fun _ h => absurd h List.not_mem_nil⟩⟩⟩⟩⟩⟩⟩⟩⟩⟩⟩⟩⟩⟩⟩⟩
def t_X9_leansOn : List (Nat × am_F) := t_X9_leansOn_0 ++ (t_X9_leansOn_1 ++ (t_X9_leansOn_2 ++ (t_X9_leansOn_3 ++ (t_X9_leansOn_4))))
theorem o_X9_leansOn : ∀ q ∈ t_X9_leansOn, am_ok vwCl q_SH ξ (q_E ξ β xs L) q_EN q_KD q_ML (cX9_leansOn, 7, RX9, "leansOn", (some .int), []) q.1 q.2 := List.forall_mem_append.mpr ⟨o_X9_leansOn_0, List.forall_mem_append.mpr ⟨o_X9_leansOn_1, List.forall_mem_append.mpr ⟨o_X9_leansOn_2, List.forall_mem_append.mpr ⟨o_X9_leansOn_3, o_X9_leansOn_4⟩⟩⟩⟩
def t_X10_init_0 : List (Nat × am_F) := [(0, im_al 0 1), (1, im_obj 4), (4, im_al 0 5), (5, im_new q_SH 8 3 8), (8, im_dup 9), (9, im_inv q_SH 8 50 0 12), (12, im_pr q_SH 10 0 15), (15, im_al 0 16), (16, im_new q_SH 7 4 19), (19, im_dup 20), (20, im_inv q_SH 7 48 0 23), (23, im_pr q_SH 10 1 26), (26, im_al 0 27), (27, im_new q_SH 3 9 30), (30, im_dup 31), (31, im_inv q_SH 3 17 0 34), (34, im_pr q_SH 10 2 37), (37, im_al 0 38), (38, im_new q_SH 0 16 41), (41, im_dup 42)]
set_option maxRecDepth 20000 in
theorem o_X10_init_0 : ∀ q ∈ t_X10_init_0, am_ok vwCl q_SH ξ (q_E ξ β xs L) q_EN q_KD q_ML (cX10_init, 1, RX10, "<init>", none, []) q.1 q.2 :=
  List.forall_mem_cons.mpr ⟨⟨mo_al _ _, Or.inl (ok_aload_n (k := 0) rfl (by decide +kernel))⟩,
  List.forall_mem_cons.mpr ⟨⟨mo_obj _, Or.inl (ok_obj (am_in1 32 rfl rfl) (am_in1 33 rfl rfl) (am_in1 34 rfl rfl) (by decide +kernel))⟩,
  List.forall_mem_cons.mpr ⟨⟨mo_al _ _, Or.inl (ok_aload_n (k := 0) rfl (by decide +kernel))⟩,
  List.forall_mem_cons.mpr ⟨⟨mo_new _ _ _ _, Or.inl (ok_new (T := TX8) rfl inX8 tyX8 tyX8_ok (by decide +kernel) (am_in1 35 rfl rfl) (am_in1 36 rfl rfl) (am_in1 2 rfl rfl) (by decide +kernel))⟩,
  List.forall_mem_cons.mpr ⟨⟨mo_dup _, Or.inl (ok_dup (by decide +kernel))⟩,
  List.forall_mem_cons.mpr ⟨⟨mo_inv _ _ _ _ _, Or.inr (Or.inl (ok_invIN (host := "LandBonds") (T := TX8) (N := 3) rfl cw_X8_init (by decide) (by decide) (fun _ _ _ h => q_nw1 37 h rfl rfl) ci_X8_init rfl (show Cond.initialized (yX8_init).cls ∈ am_ts from ci9_RX8) ⟨by decide +kernel, by decide +kernel, by decide +kernel⟩ rfl (by decide +kernel)))⟩,
  List.forall_mem_cons.mpr ⟨⟨mo_pr _ _ _ _, Or.inl (ok_prF (C := RX10) (T := TX10) (N := 12) (ci := 10) (k := 0) rfl inX10 (by decide) fl_X10_10 (by decide +kernel) tyX10 tyX10_ok nmX10 (by decide +kernel) rfl rfl (ty := .object "LandBonds$Places") (by decide +kernel) (fun _ => ⟨rfl, rfl⟩) (by decide +kernel))⟩,
  List.forall_mem_cons.mpr ⟨⟨mo_al _ _, Or.inl (ok_aload_n (k := 0) rfl (by decide +kernel))⟩,
  List.forall_mem_cons.mpr ⟨⟨mo_new _ _ _ _, Or.inl (ok_new (T := TX7) rfl inX7 tyX7 tyX7_ok (by decide +kernel) (am_in1 55 rfl rfl) (am_in1 56 rfl rfl) (am_in1 3 rfl rfl) (by decide +kernel))⟩,
  List.forall_mem_cons.mpr ⟨⟨mo_dup _, Or.inl (ok_dup (by decide +kernel))⟩,
  List.forall_mem_cons.mpr ⟨⟨mo_inv _ _ _ _ _, Or.inr (Or.inl (ok_invIN (host := "LandBonds") (T := TX7) (N := 4) rfl cw_X7_init (by decide) (by decide) (fun _ _ _ h => q_nw1 57 h rfl rfl) ci_X7_init rfl (show Cond.initialized (yX7_init).cls ∈ am_ts from ci9_RX7) ⟨by decide +kernel, by decide +kernel, by decide +kernel⟩ rfl (by decide +kernel)))⟩,
  List.forall_mem_cons.mpr ⟨⟨mo_pr _ _ _ _, Or.inl (ok_prF (C := RX10) (T := TX10) (N := 12) (ci := 10) (k := 1) rfl inX10 (by decide) fl_X10_19 (by decide +kernel) tyX10 tyX10_ok nmX10 (by decide +kernel) rfl rfl (ty := .object "LandBonds$Persons") (by decide +kernel) (fun _ => ⟨rfl, rfl⟩) (by decide +kernel))⟩,
  List.forall_mem_cons.mpr ⟨⟨mo_al _ _, Or.inl (ok_aload_n (k := 0) rfl (by decide +kernel))⟩,
  List.forall_mem_cons.mpr ⟨⟨mo_new _ _ _ _, Or.inl (ok_new (T := TX3) rfl inX3 tyX3 tyX3_ok (by decide +kernel) (am_in1 81 rfl rfl) (am_in1 82 rfl rfl) (am_in1 4 rfl rfl) (by decide +kernel))⟩,
  List.forall_mem_cons.mpr ⟨⟨mo_dup _, Or.inl (ok_dup (by decide +kernel))⟩,
  List.forall_mem_cons.mpr ⟨⟨mo_inv _ _ _ _ _, Or.inr (Or.inl (ok_invIN (host := "LandBonds") (T := TX3) (N := 9) rfl cw_X3_init (by decide) (by decide) (fun _ _ _ h => q_nw1 83 h rfl rfl) ci_X3_init rfl (show Cond.initialized (yX3_init).cls ∈ am_ts from ci9_RX3) ⟨by decide +kernel, by decide +kernel, by decide +kernel⟩ rfl (by decide +kernel)))⟩,
  List.forall_mem_cons.mpr ⟨⟨mo_pr _ _ _ _, Or.inl (ok_prF (C := RX10) (T := TX10) (N := 12) (ci := 10) (k := 2) rfl inX10 (by decide) fl_X10_26 (by decide +kernel) tyX10 tyX10_ok nmX10 (by decide +kernel) rfl rfl (ty := .object "LandBonds$Facts") (by decide +kernel) (fun _ => ⟨rfl, rfl⟩) (by decide +kernel))⟩,
  List.forall_mem_cons.mpr ⟨⟨mo_al _ _, Or.inl (ok_aload_n (k := 0) rfl (by decide +kernel))⟩,
  List.forall_mem_cons.mpr ⟨⟨mo_new _ _ _ _, Or.inl (ok_new (T := TX0) rfl inX0 tyX0 tyX0_ok (by decide +kernel) (am_in1 131 rfl rfl) (am_in1 132 rfl rfl) (am_in1 5 rfl rfl) (by decide +kernel))⟩,
  List.forall_mem_cons.mpr ⟨⟨mo_dup _, Or.inl (ok_dup (by decide +kernel))⟩,
  fun _ h => absurd h List.not_mem_nil⟩⟩⟩⟩⟩⟩⟩⟩⟩⟩⟩⟩⟩⟩⟩⟩⟩⟩⟩⟩
def t_X10_init_1 : List (Nat × am_F) := [(42, im_inv q_SH 0 0 0 45), (45, im_pr q_SH 10 3 48), (48, im_al 0 49), (49, im_new q_SH 6 12 52), (52, im_dup 53), (53, im_al 0 54), (54, im_gr q_SH 10 3 57), (57, im_inv q_SH 6 26 1 60), (60, im_pr q_SH 10 4 63), (63, im_al 0 64), (64, im_new q_SH 2 7 67), (67, im_dup 68), (68, im_al 0 69), (69, im_gr q_SH 10 2 72), (72, im_inv q_SH 2 12 1 75), (75, im_pr q_SH 10 5 78), (78, im_al 0 79), (79, im_new q_SH 9 20 82), (82, im_dup 83), (83, im_al 0 84)]
set_option maxRecDepth 20000 in
theorem o_X10_init_1 : ∀ q ∈ t_X10_init_1, am_ok vwCl q_SH ξ (q_E ξ β xs L) q_EN q_KD q_ML (cX10_init, 1, RX10, "<init>", none, []) q.1 q.2 :=
  List.forall_mem_cons.mpr ⟨⟨mo_inv _ _ _ _ _, Or.inr (Or.inl (ok_invIN (host := "LandBonds") (T := TX0) (N := 16) rfl cw_X0_init (by decide) (by decide) (fun _ _ _ h => q_nw1 133 h rfl rfl) ci_X0_init rfl (show Cond.initialized (yX0_init).cls ∈ am_ts from ci9_RX0) ⟨by decide +kernel, by decide +kernel, by decide +kernel⟩ rfl (by decide +kernel)))⟩,
  List.forall_mem_cons.mpr ⟨⟨mo_pr _ _ _ _, Or.inl (ok_prF (C := RX10) (T := TX10) (N := 12) (ci := 10) (k := 3) rfl inX10 (by decide) fl_X10_33 (by decide +kernel) tyX10 tyX10_ok nmX10 (by decide +kernel) rfl rfl (ty := .object "LandBonds$Acts") (by decide +kernel) (fun _ => ⟨rfl, rfl⟩) (by decide +kernel))⟩,
  List.forall_mem_cons.mpr ⟨⟨mo_al _ _, Or.inl (ok_aload_n (k := 0) rfl (by decide +kernel))⟩,
  List.forall_mem_cons.mpr ⟨⟨mo_new _ _ _ _, Or.inl (ok_new (T := TX6) rfl inX6 tyX6 tyX6_ok (by decide +kernel) (am_in1 215 rfl rfl) (am_in1 216 rfl rfl) (am_in1 6 rfl rfl) (by decide +kernel))⟩,
  List.forall_mem_cons.mpr ⟨⟨mo_dup _, Or.inl (ok_dup (by decide +kernel))⟩,
  List.forall_mem_cons.mpr ⟨⟨mo_al _ _, Or.inl (ok_aload_n (k := 0) rfl (by decide +kernel))⟩,
  List.forall_mem_cons.mpr ⟨⟨mo_gr _ _ _ _, Or.inl (ok_gr (C := RX10) (T := TX10) (N := 12) (ci := 10) (k := 3) rfl inX10 (by decide) fl_X10_33 (by decide +kernel) (by decide +kernel))⟩,
  List.forall_mem_cons.mpr ⟨⟨mo_inv _ _ _ _ _, Or.inr (Or.inl (ok_invI (T := TX6) (N := 12) rfl cw_X6_init (by decide) (by decide) ml_X10_39 ci_X6_init rfl (show Cond.initialized (yX6_init).cls ∈ am_ts from ci9_RX6) ⟨by decide +kernel, by decide +kernel, by decide +kernel⟩ rfl (by decide +kernel)))⟩,
  List.forall_mem_cons.mpr ⟨⟨mo_pr _ _ _ _, Or.inl (ok_prF (C := RX10) (T := TX10) (N := 12) (ci := 10) (k := 4) rfl inX10 (by decide) fl_X10_42 (by decide +kernel) tyX10 tyX10_ok nmX10 (by decide +kernel) rfl rfl (ty := .object "LandBonds$Parser") (by decide +kernel) (fun _ => ⟨rfl, rfl⟩) (by decide +kernel))⟩,
  List.forall_mem_cons.mpr ⟨⟨mo_al _ _, Or.inl (ok_aload_n (k := 0) rfl (by decide +kernel))⟩,
  List.forall_mem_cons.mpr ⟨⟨mo_new _ _ _ _, Or.inl (ok_new (T := TX2) rfl inX2 tyX2 tyX2_ok (by decide +kernel) (am_in2 20 rfl rfl) (am_in2 21 rfl rfl) (am_in1 7 rfl rfl) (by decide +kernel))⟩,
  List.forall_mem_cons.mpr ⟨⟨mo_dup _, Or.inl (ok_dup (by decide +kernel))⟩,
  List.forall_mem_cons.mpr ⟨⟨mo_al _ _, Or.inl (ok_aload_n (k := 0) rfl (by decide +kernel))⟩,
  List.forall_mem_cons.mpr ⟨⟨mo_gr _ _ _ _, Or.inl (ok_gr (C := RX10) (T := TX10) (N := 12) (ci := 10) (k := 2) rfl inX10 (by decide) fl_X10_26 (by decide +kernel) (by decide +kernel))⟩,
  List.forall_mem_cons.mpr ⟨⟨mo_inv _ _ _ _ _, Or.inr (Or.inl (ok_invI (T := TX2) (N := 7) rfl cw_X2_init (by decide) (by decide) ml_X10_48 ci_X2_init rfl (show Cond.initialized (yX2_init).cls ∈ am_ts from ci9_RX2) ⟨by decide +kernel, by decide +kernel, by decide +kernel⟩ rfl (by decide +kernel)))⟩,
  List.forall_mem_cons.mpr ⟨⟨mo_pr _ _ _ _, Or.inl (ok_prF (C := RX10) (T := TX10) (N := 12) (ci := 10) (k := 5) rfl inX10 (by decide) fl_X10_51 (by decide +kernel) tyX10 tyX10_ok nmX10 (by decide +kernel) rfl rfl (ty := .object "LandBonds$Doubts") (by decide +kernel) (fun _ => ⟨rfl, rfl⟩) (by decide +kernel))⟩,
  List.forall_mem_cons.mpr ⟨⟨mo_al _ _, Or.inl (ok_aload_n (k := 0) rfl (by decide +kernel))⟩,
  List.forall_mem_cons.mpr ⟨⟨mo_new _ _ _ _, Or.inl (ok_new (T := TX9) rfl inX9 tyX9 tyX9_ok (by decide +kernel) (am_in2 52 rfl rfl) (am_in2 53 rfl rfl) (am_in1 8 rfl rfl) (by decide +kernel))⟩,
  List.forall_mem_cons.mpr ⟨⟨mo_dup _, Or.inl (ok_dup (by decide +kernel))⟩,
  List.forall_mem_cons.mpr ⟨⟨mo_al _ _, Or.inl (ok_aload_n (k := 0) rfl (by decide +kernel))⟩,
  fun _ h => absurd h List.not_mem_nil⟩⟩⟩⟩⟩⟩⟩⟩⟩⟩⟩⟩⟩⟩⟩⟩⟩⟩⟩⟩
def t_X10_init_2 : List (Nat × am_F) := [(84, im_gr q_SH 10 0 87), (87, im_al 0 88), (88, im_gr q_SH 10 1 91), (91, im_al 0 92), (92, im_gr q_SH 10 2 95), (95, im_al 0 96), (96, im_gr q_SH 10 3 99), (99, im_al 0 100), (100, im_gr q_SH 10 5 103), (103, im_inv q_SH 9 51 5 106), (106, im_pr q_SH 10 6 109), (109, im_al 0 110), (110, im_ic 500 113), (113, im_newa q_SH .byte 115), (115, im_pr q_SH 10 7 118), (118, im_al 0 119), (119, im_ic 540 122), (122, im_newa q_SH .int 124), (124, im_pr q_SH 10 8 127), (127, im_al 0 128)]
set_option maxRecDepth 20000 in
theorem o_X10_init_2 : ∀ q ∈ t_X10_init_2, am_ok vwCl q_SH ξ (q_E ξ β xs L) q_EN q_KD q_ML (cX10_init, 1, RX10, "<init>", none, []) q.1 q.2 :=
  List.forall_mem_cons.mpr ⟨⟨mo_gr _ _ _ _, Or.inl (ok_gr (C := RX10) (T := TX10) (N := 12) (ci := 10) (k := 0) rfl inX10 (by decide) fl_X10_10 (by decide +kernel) (by decide +kernel))⟩,
  List.forall_mem_cons.mpr ⟨⟨mo_al _ _, Or.inl (ok_aload_n (k := 0) rfl (by decide +kernel))⟩,
  List.forall_mem_cons.mpr ⟨⟨mo_gr _ _ _ _, Or.inl (ok_gr (C := RX10) (T := TX10) (N := 12) (ci := 10) (k := 1) rfl inX10 (by decide) fl_X10_19 (by decide +kernel) (by decide +kernel))⟩,
  List.forall_mem_cons.mpr ⟨⟨mo_al _ _, Or.inl (ok_aload_n (k := 0) rfl (by decide +kernel))⟩,
  List.forall_mem_cons.mpr ⟨⟨mo_gr _ _ _ _, Or.inl (ok_gr (C := RX10) (T := TX10) (N := 12) (ci := 10) (k := 2) rfl inX10 (by decide) fl_X10_26 (by decide +kernel) (by decide +kernel))⟩,
  List.forall_mem_cons.mpr ⟨⟨mo_al _ _, Or.inl (ok_aload_n (k := 0) rfl (by decide +kernel))⟩,
  List.forall_mem_cons.mpr ⟨⟨mo_gr _ _ _ _, Or.inl (ok_gr (C := RX10) (T := TX10) (N := 12) (ci := 10) (k := 3) rfl inX10 (by decide) fl_X10_33 (by decide +kernel) (by decide +kernel))⟩,
  List.forall_mem_cons.mpr ⟨⟨mo_al _ _, Or.inl (ok_aload_n (k := 0) rfl (by decide +kernel))⟩,
  List.forall_mem_cons.mpr ⟨⟨mo_gr _ _ _ _, Or.inl (ok_gr (C := RX10) (T := TX10) (N := 12) (ci := 10) (k := 5) rfl inX10 (by decide) fl_X10_51 (by decide +kernel) (by decide +kernel))⟩,
  List.forall_mem_cons.mpr ⟨⟨mo_inv _ _ _ _ _, Or.inr (Or.inl (ok_invI (T := TX9) (N := 20) rfl cw_X9_init (by decide) (by decide) ml_X10_57 ci_X9_init rfl (show Cond.initialized (yX9_init).cls ∈ am_ts from ci9_RX9) ⟨by decide +kernel, by decide +kernel, by decide +kernel⟩ rfl (by decide +kernel)))⟩,
  List.forall_mem_cons.mpr ⟨⟨mo_pr _ _ _ _, Or.inl (ok_prF (C := RX10) (T := TX10) (N := 12) (ci := 10) (k := 6) rfl inX10 (by decide) fl_X10_60 (by decide +kernel) tyX10 tyX10_ok nmX10 (by decide +kernel) rfl rfl (ty := .object "LandBonds$World") (by decide +kernel) (fun _ => ⟨rfl, rfl⟩) (by decide +kernel))⟩,
  List.forall_mem_cons.mpr ⟨⟨mo_al _ _, Or.inl (ok_aload_n (k := 0) rfl (by decide +kernel))⟩,
  List.forall_mem_cons.mpr ⟨⟨mo_ic _ _, Or.inl (ok_sipush (n := 500) (v := 500) (by decide) (by decide +kernel))⟩,
  List.forall_mem_cons.mpr ⟨⟨mo_newa _ _ _, Or.inl (ok_newb (am_in2 19 rfl rfl) (by decide +kernel))⟩,
  List.forall_mem_cons.mpr ⟨⟨mo_pr _ _ _ _, Or.inl (ok_prF (C := RX10) (T := TX10) (N := 12) (ci := 10) (k := 7) rfl inX10 (by decide) fl_X10_64 (by decide +kernel) tyX10 tyX10_ok nmX10 (by decide +kernel) rfl rfl (ty := .array .byte) (by decide +kernel) (fun _ => ⟨rfl, rfl⟩) (by decide +kernel))⟩,
  List.forall_mem_cons.mpr ⟨⟨mo_al _ _, Or.inl (ok_aload_n (k := 0) rfl (by decide +kernel))⟩,
  List.forall_mem_cons.mpr ⟨⟨mo_ic _ _, Or.inl (ok_sipush (n := 540) (v := 540) (by decide) (by decide +kernel))⟩,
  List.forall_mem_cons.mpr ⟨⟨mo_newa _ _ _, Or.inl (ok_newi (am_in1 54 rfl rfl) (by decide +kernel))⟩,
  List.forall_mem_cons.mpr ⟨⟨mo_pr _ _ _ _, Or.inl (ok_prF (C := RX10) (T := TX10) (N := 12) (ci := 10) (k := 8) rfl inX10 (by decide) fl_X10_68 (by decide +kernel) tyX10 tyX10_ok nmX10 (by decide +kernel) rfl rfl (ty := .array .int) (by decide +kernel) (fun _ => ⟨rfl, rfl⟩) (by decide +kernel))⟩,
  List.forall_mem_cons.mpr ⟨⟨mo_al _ _, Or.inl (ok_aload_n (k := 0) rfl (by decide +kernel))⟩,
  fun _ h => absurd h List.not_mem_nil⟩⟩⟩⟩⟩⟩⟩⟩⟩⟩⟩⟩⟩⟩⟩⟩⟩⟩⟩⟩
def t_X10_init_3 : List (Nat × am_F) := [(128, im_ic (-1) 129), (129, im_pi q_SH 10 11 132), (132, im_ret0e)]
set_option maxRecDepth 20000 in
theorem o_X10_init_3 : ∀ q ∈ t_X10_init_3, am_ok vwCl q_SH ξ (q_E ξ β xs L) q_EN q_KD q_ML (cX10_init, 1, RX10, "<init>", none, []) q.1 q.2 :=
  List.forall_mem_cons.mpr ⟨⟨mo_ic _ _, Or.inl (ok_iconst (n := (-1)) (v := (-1)) (by decide) (by decide +kernel))⟩,
  List.forall_mem_cons.mpr ⟨⟨mo_pi _ _ _ _, Or.inl (ok_pi (ty := .int) (C := RX10) (T := TX10) (N := 12) (ci := 10) (k := 11) rfl inX10 (by decide) fl_X10_72 (by decide +kernel) tyX10 tyX10_ok nmX10 (by decide +kernel) (by decide +kernel) (by decide +kernel))⟩,
  List.forall_mem_cons.mpr ⟨⟨mo_ret0e, Or.inr (Or.inr (ok_ret0 rfl (by decide +kernel)))⟩,
  fun _ h => absurd h List.not_mem_nil⟩⟩⟩
def t_X10_init : List (Nat × am_F) := t_X10_init_0 ++ (t_X10_init_1 ++ (t_X10_init_2 ++ (t_X10_init_3)))
theorem o_X10_init : ∀ q ∈ t_X10_init, am_ok vwCl q_SH ξ (q_E ξ β xs L) q_EN q_KD q_ML (cX10_init, 1, RX10, "<init>", none, []) q.1 q.2 := List.forall_mem_append.mpr ⟨o_X10_init_0, List.forall_mem_append.mpr ⟨o_X10_init_1, List.forall_mem_append.mpr ⟨o_X10_init_2, o_X10_init_3⟩⟩⟩
def t_X10_land_0 : List (Nat × am_F) := [(0, im_al 0 1), (1, im_gr q_SH 10 0 4), (4, im_gi q_SH 8 2 7), (7, im_ic 5 8), (8, im_if2 ic_lt 13 11), (11, im_ic (-1) 12), (12, im_reti), (13, im_al 0 14), (14, im_inv q_SH 10 98 0 17), (17, im_al 0 18), (18, im_gr q_SH 10 0 21), (21, im_dup 22), (22, im_gi q_SH 8 2 25), (25, im_ic 1 26), (26, im_bin (fun x y => x + y) 27), (27, im_pi q_SH 8 2 30), (30, im_al 0 31), (31, im_gr q_SH 10 0 34), (34, im_gi q_SH 8 2 37), (37, im_ic 1 38)]
set_option maxRecDepth 20000 in
theorem o_X10_land_0 : ∀ q ∈ t_X10_land_0, am_ok vwCl q_SH ξ (q_E ξ β xs L) q_EN q_KD q_ML (cX10_land, 1, RX10, "land", (some .int), []) q.1 q.2 :=
  List.forall_mem_cons.mpr ⟨⟨mo_al _ _, Or.inl (ok_aload_n (k := 0) rfl (by decide +kernel))⟩,
  List.forall_mem_cons.mpr ⟨⟨mo_gr _ _ _ _, Or.inl (ok_gr (C := RX10) (T := TX10) (N := 12) (ci := 10) (k := 0) rfl inX10 (by decide) fl_X10_10 (by decide +kernel) (by decide +kernel))⟩,
  List.forall_mem_cons.mpr ⟨⟨mo_gi _ _ _ _, Or.inl (ok_gi (C := RX8) (T := TX8) (N := 3) (ci := 8) (k := 2) rfl inX8 (by decide) fl_X10_76 (by decide +kernel) (by decide +kernel))⟩,
  List.forall_mem_cons.mpr ⟨⟨mo_ic _ _, Or.inl (ok_iconst (n := 5) (v := 5) (by decide) (by decide +kernel))⟩,
  List.forall_mem_cons.mpr ⟨⟨mo_if2 _ _ _, Or.inl (ok_icmp_lt (off := 5) (by decide) (by decide +kernel))⟩,
  List.forall_mem_cons.mpr ⟨⟨mo_ic _ _, Or.inl (ok_iconst (n := (-1)) (v := (-1)) (by decide) (by decide +kernel))⟩,
  List.forall_mem_cons.mpr ⟨⟨mo_reti, Or.inr (Or.inr (ok_reti rfl (by decide +kernel)))⟩,
  List.forall_mem_cons.mpr ⟨⟨mo_al _ _, Or.inl (ok_aload_n (k := 0) rfl (by decide +kernel))⟩,
  List.forall_mem_cons.mpr ⟨⟨mo_inv _ _ _ _ _, Or.inr (Or.inl (ok_inv (T := TX10) (N := 12) rfl cw_X10_forget (by decide) (by decide) ml_X10_79 ci_X10_forget cv_X10_forget (show Cond.initialized (yX10_forget).cls ∈ am_ts from ci9_RX10) ⟨by decide +kernel, by decide +kernel, by decide +kernel⟩ rfl (by decide +kernel)))⟩,
  List.forall_mem_cons.mpr ⟨⟨mo_al _ _, Or.inl (ok_aload_n (k := 0) rfl (by decide +kernel))⟩,
  List.forall_mem_cons.mpr ⟨⟨mo_gr _ _ _ _, Or.inl (ok_gr (C := RX10) (T := TX10) (N := 12) (ci := 10) (k := 0) rfl inX10 (by decide) fl_X10_10 (by decide +kernel) (by decide +kernel))⟩,
  List.forall_mem_cons.mpr ⟨⟨mo_dup _, Or.inl (ok_dup (by decide +kernel))⟩,
  List.forall_mem_cons.mpr ⟨⟨mo_gi _ _ _ _, Or.inl (ok_gi (C := RX8) (T := TX8) (N := 3) (ci := 8) (k := 2) rfl inX8 (by decide) fl_X10_76 (by decide +kernel) (by decide +kernel))⟩,
  List.forall_mem_cons.mpr ⟨⟨mo_ic _ _, Or.inl (ok_iconst (n := 1) (v := 1) (by decide) (by decide +kernel))⟩,
  List.forall_mem_cons.mpr ⟨⟨mo_bin _ _, Or.inl (ok_iadd (by decide +kernel))⟩,
  List.forall_mem_cons.mpr ⟨⟨mo_pi _ _ _ _, Or.inl (ok_pi (ty := .int) (C := RX8) (T := TX8) (N := 3) (ci := 8) (k := 2) rfl inX8 (by decide) fl_X10_76 (by decide +kernel) tyX8 tyX8_ok nmX8 (by decide +kernel) (by decide +kernel) (by decide +kernel))⟩,
  List.forall_mem_cons.mpr ⟨⟨mo_al _ _, Or.inl (ok_aload_n (k := 0) rfl (by decide +kernel))⟩,
  List.forall_mem_cons.mpr ⟨⟨mo_gr _ _ _ _, Or.inl (ok_gr (C := RX10) (T := TX10) (N := 12) (ci := 10) (k := 0) rfl inX10 (by decide) fl_X10_10 (by decide +kernel) (by decide +kernel))⟩,
  List.forall_mem_cons.mpr ⟨⟨mo_gi _ _ _ _, Or.inl (ok_gi (C := RX8) (T := TX8) (N := 3) (ci := 8) (k := 2) rfl inX8 (by decide) fl_X10_76 (by decide +kernel) (by decide +kernel))⟩,
  List.forall_mem_cons.mpr ⟨⟨mo_ic _ _, Or.inl (ok_iconst (n := 1) (v := 1) (by decide) (by decide +kernel))⟩,
  fun _ h => absurd h List.not_mem_nil⟩⟩⟩⟩⟩⟩⟩⟩⟩⟩⟩⟩⟩⟩⟩⟩⟩⟩⟩⟩
def t_X10_land_1 : List (Nat × am_F) := [(38, im_bin (fun x y => x - y) 39), (39, im_reti)]
set_option maxRecDepth 20000 in
theorem o_X10_land_1 : ∀ q ∈ t_X10_land_1, am_ok vwCl q_SH ξ (q_E ξ β xs L) q_EN q_KD q_ML (cX10_land, 1, RX10, "land", (some .int), []) q.1 q.2 :=
  List.forall_mem_cons.mpr ⟨⟨mo_bin _ _, Or.inl (ok_isub (by decide +kernel))⟩,
  List.forall_mem_cons.mpr ⟨⟨mo_reti, Or.inr (Or.inr (ok_reti rfl (by decide +kernel)))⟩,
  fun _ h => absurd h List.not_mem_nil⟩⟩
def t_X10_land : List (Nat × am_F) := t_X10_land_0 ++ (t_X10_land_1)
theorem o_X10_land : ∀ q ∈ t_X10_land, am_ok vwCl q_SH ξ (q_E ξ β xs L) q_EN q_KD q_ML (cX10_land, 1, RX10, "land", (some .int), []) q.1 q.2 := List.forall_mem_append.mpr ⟨o_X10_land_0, o_X10_land_1⟩
def t_X10_place_0 : List (Nat × am_F) := [(0, im_al 0 1), (1, im_gr q_SH 10 0 4), (4, im_gi q_SH 8 1 7), (7, im_ic 12 9), (9, im_if2 ic_ge 28 12), (12, im_il 1 13), (13, im_ic (-1) 14), (14, im_if2 ic_lt 28 17), (17, im_il 1 18), (18, im_al 0 19), (19, im_gr q_SH 10 0 22), (22, im_gi q_SH 8 2 25), (25, im_if2 ic_lt 30 28), (28, im_ic (-1) 29), (29, im_reti), (30, im_al 0 31), (31, im_inv q_SH 10 98 0 34), (34, im_al 0 35), (35, im_gr q_SH 10 0 38), (38, im_gr q_SH 8 0 41)]
set_option maxRecDepth 20000 in
theorem o_X10_place_0 : ∀ q ∈ t_X10_place_0, am_ok vwCl q_SH ξ (q_E ξ β xs L) q_EN q_KD q_ML (cX10_place, 2, RX10, "place", (some .int), []) q.1 q.2 :=
  List.forall_mem_cons.mpr ⟨⟨mo_al _ _, Or.inl (ok_aload_n (k := 0) rfl (by decide +kernel))⟩,
  List.forall_mem_cons.mpr ⟨⟨mo_gr _ _ _ _, Or.inl (ok_gr (C := RX10) (T := TX10) (N := 12) (ci := 10) (k := 0) rfl inX10 (by decide) fl_X10_10 (by decide +kernel) (by decide +kernel))⟩,
  List.forall_mem_cons.mpr ⟨⟨mo_gi _ _ _ _, Or.inl (ok_gi (C := RX8) (T := TX8) (N := 3) (ci := 8) (k := 1) rfl inX8 (by decide) fl_X10_82 (by decide +kernel) (by decide +kernel))⟩,
  List.forall_mem_cons.mpr ⟨⟨mo_ic _ _, Or.inl (ok_bipush (n := 12) (v := 12) (by decide) (by decide +kernel))⟩,
  List.forall_mem_cons.mpr ⟨⟨mo_if2 _ _ _, Or.inl (ok_icmp_ge (off := 19) (by decide) (by decide +kernel))⟩,
  List.forall_mem_cons.mpr ⟨⟨mo_il _ _, Or.inl (ok_iload_n (k := 1) rfl (by decide +kernel))⟩,
  List.forall_mem_cons.mpr ⟨⟨mo_ic _ _, Or.inl (ok_iconst (n := (-1)) (v := (-1)) (by decide) (by decide +kernel))⟩,
  List.forall_mem_cons.mpr ⟨⟨mo_if2 _ _ _, Or.inl (ok_icmp_lt (off := 14) (by decide) (by decide +kernel))⟩,
  List.forall_mem_cons.mpr ⟨⟨mo_il _ _, Or.inl (ok_iload_n (k := 1) rfl (by decide +kernel))⟩,
  List.forall_mem_cons.mpr ⟨⟨mo_al _ _, Or.inl (ok_aload_n (k := 0) rfl (by decide +kernel))⟩,
  List.forall_mem_cons.mpr ⟨⟨mo_gr _ _ _ _, Or.inl (ok_gr (C := RX10) (T := TX10) (N := 12) (ci := 10) (k := 0) rfl inX10 (by decide) fl_X10_10 (by decide +kernel) (by decide +kernel))⟩,
  List.forall_mem_cons.mpr ⟨⟨mo_gi _ _ _ _, Or.inl (ok_gi (C := RX8) (T := TX8) (N := 3) (ci := 8) (k := 2) rfl inX8 (by decide) fl_X10_76 (by decide +kernel) (by decide +kernel))⟩,
  List.forall_mem_cons.mpr ⟨⟨mo_if2 _ _ _, Or.inl (ok_icmp_lt (off := 5) (by decide) (by decide +kernel))⟩,
  List.forall_mem_cons.mpr ⟨⟨mo_ic _ _, Or.inl (ok_iconst (n := (-1)) (v := (-1)) (by decide) (by decide +kernel))⟩,
  List.forall_mem_cons.mpr ⟨⟨mo_reti, Or.inr (Or.inr (ok_reti rfl (by decide +kernel)))⟩,
  List.forall_mem_cons.mpr ⟨⟨mo_al _ _, Or.inl (ok_aload_n (k := 0) rfl (by decide +kernel))⟩,
  List.forall_mem_cons.mpr ⟨⟨mo_inv _ _ _ _ _, Or.inr (Or.inl (ok_inv (T := TX10) (N := 12) rfl cw_X10_forget (by decide) (by decide) ml_X10_79 ci_X10_forget cv_X10_forget (show Cond.initialized (yX10_forget).cls ∈ am_ts from ci9_RX10) ⟨by decide +kernel, by decide +kernel, by decide +kernel⟩ rfl (by decide +kernel)))⟩,
  List.forall_mem_cons.mpr ⟨⟨mo_al _ _, Or.inl (ok_aload_n (k := 0) rfl (by decide +kernel))⟩,
  List.forall_mem_cons.mpr ⟨⟨mo_gr _ _ _ _, Or.inl (ok_gr (C := RX10) (T := TX10) (N := 12) (ci := 10) (k := 0) rfl inX10 (by decide) fl_X10_10 (by decide +kernel) (by decide +kernel))⟩,
  List.forall_mem_cons.mpr ⟨⟨mo_gr _ _ _ _, Or.inl (ok_gr (C := RX8) (T := TX8) (N := 3) (ci := 8) (k := 0) rfl inX8 (by decide) fl_X10_85 (by decide +kernel) (by decide +kernel))⟩,
  fun _ h => absurd h List.not_mem_nil⟩⟩⟩⟩⟩⟩⟩⟩⟩⟩⟩⟩⟩⟩⟩⟩⟩⟩⟩⟩
def t_X10_place_1 : List (Nat × am_F) := [(41, im_al 0 42), (42, im_gr q_SH 10 0 45), (45, im_gi q_SH 8 1 48), (48, im_il 1 49), (49, im_ast q_SH .int (fun x => x) 50), (50, im_al 0 51), (51, im_gr q_SH 10 0 54), (54, im_dup 55), (55, im_gi q_SH 8 1 58), (58, im_ic 1 59), (59, im_bin (fun x y => x + y) 60), (60, im_pi q_SH 8 1 63), (63, im_al 0 64), (64, im_gr q_SH 10 0 67), (67, im_gi q_SH 8 1 70), (70, im_ic 1 71), (71, im_bin (fun x y => x - y) 72), (72, im_reti)]
set_option maxRecDepth 20000 in
theorem o_X10_place_1 : ∀ q ∈ t_X10_place_1, am_ok vwCl q_SH ξ (q_E ξ β xs L) q_EN q_KD q_ML (cX10_place, 2, RX10, "place", (some .int), []) q.1 q.2 :=
  List.forall_mem_cons.mpr ⟨⟨mo_al _ _, Or.inl (ok_aload_n (k := 0) rfl (by decide +kernel))⟩,
  List.forall_mem_cons.mpr ⟨⟨mo_gr _ _ _ _, Or.inl (ok_gr (C := RX10) (T := TX10) (N := 12) (ci := 10) (k := 0) rfl inX10 (by decide) fl_X10_10 (by decide +kernel) (by decide +kernel))⟩,
  List.forall_mem_cons.mpr ⟨⟨mo_gi _ _ _ _, Or.inl (ok_gi (C := RX8) (T := TX8) (N := 3) (ci := 8) (k := 1) rfl inX8 (by decide) fl_X10_82 (by decide +kernel) (by decide +kernel))⟩,
  List.forall_mem_cons.mpr ⟨⟨mo_il _ _, Or.inl (ok_iload_n (k := 1) rfl (by decide +kernel))⟩,
  List.forall_mem_cons.mpr ⟨⟨mo_ast _ _ _ _, Or.inl (ok_iast (by decide +kernel))⟩,
  List.forall_mem_cons.mpr ⟨⟨mo_al _ _, Or.inl (ok_aload_n (k := 0) rfl (by decide +kernel))⟩,
  List.forall_mem_cons.mpr ⟨⟨mo_gr _ _ _ _, Or.inl (ok_gr (C := RX10) (T := TX10) (N := 12) (ci := 10) (k := 0) rfl inX10 (by decide) fl_X10_10 (by decide +kernel) (by decide +kernel))⟩,
  List.forall_mem_cons.mpr ⟨⟨mo_dup _, Or.inl (ok_dup (by decide +kernel))⟩,
  List.forall_mem_cons.mpr ⟨⟨mo_gi _ _ _ _, Or.inl (ok_gi (C := RX8) (T := TX8) (N := 3) (ci := 8) (k := 1) rfl inX8 (by decide) fl_X10_82 (by decide +kernel) (by decide +kernel))⟩,
  List.forall_mem_cons.mpr ⟨⟨mo_ic _ _, Or.inl (ok_iconst (n := 1) (v := 1) (by decide) (by decide +kernel))⟩,
  List.forall_mem_cons.mpr ⟨⟨mo_bin _ _, Or.inl (ok_iadd (by decide +kernel))⟩,
  List.forall_mem_cons.mpr ⟨⟨mo_pi _ _ _ _, Or.inl (ok_pi (ty := .int) (C := RX8) (T := TX8) (N := 3) (ci := 8) (k := 1) rfl inX8 (by decide) fl_X10_82 (by decide +kernel) tyX8 tyX8_ok nmX8 (by decide +kernel) (by decide +kernel) (by decide +kernel))⟩,
  List.forall_mem_cons.mpr ⟨⟨mo_al _ _, Or.inl (ok_aload_n (k := 0) rfl (by decide +kernel))⟩,
  List.forall_mem_cons.mpr ⟨⟨mo_gr _ _ _ _, Or.inl (ok_gr (C := RX10) (T := TX10) (N := 12) (ci := 10) (k := 0) rfl inX10 (by decide) fl_X10_10 (by decide +kernel) (by decide +kernel))⟩,
  List.forall_mem_cons.mpr ⟨⟨mo_gi _ _ _ _, Or.inl (ok_gi (C := RX8) (T := TX8) (N := 3) (ci := 8) (k := 1) rfl inX8 (by decide) fl_X10_82 (by decide +kernel) (by decide +kernel))⟩,
  List.forall_mem_cons.mpr ⟨⟨mo_ic _ _, Or.inl (ok_iconst (n := 1) (v := 1) (by decide) (by decide +kernel))⟩,
  List.forall_mem_cons.mpr ⟨⟨mo_bin _ _, Or.inl (ok_isub (by decide +kernel))⟩,
  List.forall_mem_cons.mpr ⟨⟨mo_reti, Or.inr (Or.inr (ok_reti rfl (by decide +kernel)))⟩,
  fun _ h => absurd h List.not_mem_nil⟩⟩⟩⟩⟩⟩⟩⟩⟩⟩⟩⟩⟩⟩⟩⟩⟩⟩
def t_X10_place : List (Nat × am_F) := t_X10_place_0 ++ (t_X10_place_1)
theorem o_X10_place : ∀ q ∈ t_X10_place, am_ok vwCl q_SH ξ (q_E ξ β xs L) q_EN q_KD q_ML (cX10_place, 2, RX10, "place", (some .int), []) q.1 q.2 := List.forall_mem_append.mpr ⟨o_X10_place_0, o_X10_place_1⟩
def t_X10_person_0 : List (Nat × am_F) := [(0, im_il 1 1), (1, im_if1 ib_eq 9 4), (4, im_il 1 5), (5, im_ic 1 6), (6, im_if2 ic_ne 29 9), (9, im_al 0 10), (10, im_il 2 11), (11, im_inv q_SH 10 96 1 14), (14, im_if1 ib_eq 29 17), (17, im_al 0 18), (18, im_il 3 19), (19, im_inv q_SH 10 96 1 22), (22, im_if1 ib_eq 29 25), (25, im_ic 1 26), (26, im_go 30), (29, im_ic 0 30), (30, im_is 4 32), (32, im_il 4 34), (34, im_if1 ib_eq 49 37), (37, im_al 0 38)]
set_option maxRecDepth 20000 in
theorem o_X10_person_0 : ∀ q ∈ t_X10_person_0, am_ok vwCl q_SH ξ (q_E ξ β xs L) q_EN q_KD q_ML (cX10_person, 5, RX10, "person", (some .int), []) q.1 q.2 :=
  List.forall_mem_cons.mpr ⟨⟨mo_il _ _, Or.inl (ok_iload_n (k := 1) rfl (by decide +kernel))⟩,
  List.forall_mem_cons.mpr ⟨⟨mo_if1 _ _ _, Or.inl (ok_if_eq (off := 8) (by decide) (by decide +kernel))⟩,
  List.forall_mem_cons.mpr ⟨⟨mo_il _ _, Or.inl (ok_iload_n (k := 1) rfl (by decide +kernel))⟩,
  List.forall_mem_cons.mpr ⟨⟨mo_ic _ _, Or.inl (ok_iconst (n := 1) (v := 1) (by decide) (by decide +kernel))⟩,
  List.forall_mem_cons.mpr ⟨⟨mo_if2 _ _ _, Or.inl (ok_icmp_ne (off := 23) (by decide) (by decide +kernel))⟩,
  List.forall_mem_cons.mpr ⟨⟨mo_al _ _, Or.inl (ok_aload_n (k := 0) rfl (by decide +kernel))⟩,
  List.forall_mem_cons.mpr ⟨⟨mo_il _ _, Or.inl (ok_iload_n (k := 2) rfl (by decide +kernel))⟩,
  List.forall_mem_cons.mpr ⟨⟨mo_inv _ _ _ _ _, Or.inr (Or.inl (ok_inv (T := TX10) (N := 12) rfl cw_X10_isParent (by decide) (by decide) ml_X10_88 ci_X10_isParent cv_X10_isParent (show Cond.initialized (yX10_isParent).cls ∈ am_ts from ci9_RX10) ⟨by decide +kernel, by decide +kernel, by decide +kernel⟩ rfl (by decide +kernel)))⟩,
  List.forall_mem_cons.mpr ⟨⟨mo_if1 _ _ _, Or.inl (ok_if_eq (off := 15) (by decide) (by decide +kernel))⟩,
  List.forall_mem_cons.mpr ⟨⟨mo_al _ _, Or.inl (ok_aload_n (k := 0) rfl (by decide +kernel))⟩,
  List.forall_mem_cons.mpr ⟨⟨mo_il _ _, Or.inl (ok_iload_n (k := 3) rfl (by decide +kernel))⟩,
  List.forall_mem_cons.mpr ⟨⟨mo_inv _ _ _ _ _, Or.inr (Or.inl (ok_inv (T := TX10) (N := 12) rfl cw_X10_isParent (by decide) (by decide) ml_X10_88 ci_X10_isParent cv_X10_isParent (show Cond.initialized (yX10_isParent).cls ∈ am_ts from ci9_RX10) ⟨by decide +kernel, by decide +kernel, by decide +kernel⟩ rfl (by decide +kernel)))⟩,
  List.forall_mem_cons.mpr ⟨⟨mo_if1 _ _ _, Or.inl (ok_if_eq (off := 7) (by decide) (by decide +kernel))⟩,
  List.forall_mem_cons.mpr ⟨⟨mo_ic _ _, Or.inl (ok_iconst (n := 1) (v := 1) (by decide) (by decide +kernel))⟩,
  List.forall_mem_cons.mpr ⟨⟨mo_go _, Or.inl (ok_goto (off := 4) (by decide) (by decide +kernel))⟩,
  List.forall_mem_cons.mpr ⟨⟨mo_ic _ _, Or.inl (ok_iconst (n := 0) (v := 0) (by decide) (by decide +kernel))⟩,
  List.forall_mem_cons.mpr ⟨⟨mo_is _ _, Or.inl (ok_istore (by decide) (by decide +kernel))⟩,
  List.forall_mem_cons.mpr ⟨⟨mo_il _ _, Or.inl (ok_iload (by decide +kernel))⟩,
  List.forall_mem_cons.mpr ⟨⟨mo_if1 _ _ _, Or.inl (ok_if_eq (off := 15) (by decide) (by decide +kernel))⟩,
  List.forall_mem_cons.mpr ⟨⟨mo_al _ _, Or.inl (ok_aload_n (k := 0) rfl (by decide +kernel))⟩,
  fun _ h => absurd h List.not_mem_nil⟩⟩⟩⟩⟩⟩⟩⟩⟩⟩⟩⟩⟩⟩⟩⟩⟩⟩⟩⟩
def t_X10_person_1 : List (Nat × am_F) := [(38, im_gr q_SH 10 1 41), (41, im_gi q_SH 7 3 44), (44, im_ic 20 46), (46, im_if2 ic_lt 51 49), (49, im_ic (-1) 50), (50, im_reti), (51, im_al 0 52), (52, im_inv q_SH 10 98 0 55), (55, im_al 0 56), (56, im_gr q_SH 10 1 59), (59, im_gr q_SH 7 0 62), (62, im_al 0 63), (63, im_gr q_SH 10 1 66), (66, im_gi q_SH 7 3 69), (69, im_il 1 70), (70, im_ast q_SH .int (fun x => x) 71), (71, im_al 0 72), (72, im_gr q_SH 10 1 75), (75, im_gr q_SH 7 1 78), (78, im_al 0 79)]
set_option maxRecDepth 20000 in
theorem o_X10_person_1 : ∀ q ∈ t_X10_person_1, am_ok vwCl q_SH ξ (q_E ξ β xs L) q_EN q_KD q_ML (cX10_person, 5, RX10, "person", (some .int), []) q.1 q.2 :=
  List.forall_mem_cons.mpr ⟨⟨mo_gr _ _ _ _, Or.inl (ok_gr (C := RX10) (T := TX10) (N := 12) (ci := 10) (k := 1) rfl inX10 (by decide) fl_X10_19 (by decide +kernel) (by decide +kernel))⟩,
  List.forall_mem_cons.mpr ⟨⟨mo_gi _ _ _ _, Or.inl (ok_gi (C := RX7) (T := TX7) (N := 4) (ci := 7) (k := 3) rfl inX7 (by decide) fl_X10_92 (by decide +kernel) (by decide +kernel))⟩,
  List.forall_mem_cons.mpr ⟨⟨mo_ic _ _, Or.inl (ok_bipush (n := 20) (v := 20) (by decide) (by decide +kernel))⟩,
  List.forall_mem_cons.mpr ⟨⟨mo_if2 _ _ _, Or.inl (ok_icmp_lt (off := 5) (by decide) (by decide +kernel))⟩,
  List.forall_mem_cons.mpr ⟨⟨mo_ic _ _, Or.inl (ok_iconst (n := (-1)) (v := (-1)) (by decide) (by decide +kernel))⟩,
  List.forall_mem_cons.mpr ⟨⟨mo_reti, Or.inr (Or.inr (ok_reti rfl (by decide +kernel)))⟩,
  List.forall_mem_cons.mpr ⟨⟨mo_al _ _, Or.inl (ok_aload_n (k := 0) rfl (by decide +kernel))⟩,
  List.forall_mem_cons.mpr ⟨⟨mo_inv _ _ _ _ _, Or.inr (Or.inl (ok_inv (T := TX10) (N := 12) rfl cw_X10_forget (by decide) (by decide) ml_X10_79 ci_X10_forget cv_X10_forget (show Cond.initialized (yX10_forget).cls ∈ am_ts from ci9_RX10) ⟨by decide +kernel, by decide +kernel, by decide +kernel⟩ rfl (by decide +kernel)))⟩,
  List.forall_mem_cons.mpr ⟨⟨mo_al _ _, Or.inl (ok_aload_n (k := 0) rfl (by decide +kernel))⟩,
  List.forall_mem_cons.mpr ⟨⟨mo_gr _ _ _ _, Or.inl (ok_gr (C := RX10) (T := TX10) (N := 12) (ci := 10) (k := 1) rfl inX10 (by decide) fl_X10_19 (by decide +kernel) (by decide +kernel))⟩,
  List.forall_mem_cons.mpr ⟨⟨mo_gr _ _ _ _, Or.inl (ok_gr (C := RX7) (T := TX7) (N := 4) (ci := 7) (k := 0) rfl inX7 (by decide) fl_X10_93 (by decide +kernel) (by decide +kernel))⟩,
  List.forall_mem_cons.mpr ⟨⟨mo_al _ _, Or.inl (ok_aload_n (k := 0) rfl (by decide +kernel))⟩,
  List.forall_mem_cons.mpr ⟨⟨mo_gr _ _ _ _, Or.inl (ok_gr (C := RX10) (T := TX10) (N := 12) (ci := 10) (k := 1) rfl inX10 (by decide) fl_X10_19 (by decide +kernel) (by decide +kernel))⟩,
  List.forall_mem_cons.mpr ⟨⟨mo_gi _ _ _ _, Or.inl (ok_gi (C := RX7) (T := TX7) (N := 4) (ci := 7) (k := 3) rfl inX7 (by decide) fl_X10_92 (by decide +kernel) (by decide +kernel))⟩,
  List.forall_mem_cons.mpr ⟨⟨mo_il _ _, Or.inl (ok_iload_n (k := 1) rfl (by decide +kernel))⟩,
  List.forall_mem_cons.mpr ⟨⟨mo_ast _ _ _ _, Or.inl (ok_iast (by decide +kernel))⟩,
  List.forall_mem_cons.mpr ⟨⟨mo_al _ _, Or.inl (ok_aload_n (k := 0) rfl (by decide +kernel))⟩,
  List.forall_mem_cons.mpr ⟨⟨mo_gr _ _ _ _, Or.inl (ok_gr (C := RX10) (T := TX10) (N := 12) (ci := 10) (k := 1) rfl inX10 (by decide) fl_X10_19 (by decide +kernel) (by decide +kernel))⟩,
  List.forall_mem_cons.mpr ⟨⟨mo_gr _ _ _ _, Or.inl (ok_gr (C := RX7) (T := TX7) (N := 4) (ci := 7) (k := 1) rfl inX7 (by decide) fl_X10_96 (by decide +kernel) (by decide +kernel))⟩,
  List.forall_mem_cons.mpr ⟨⟨mo_al _ _, Or.inl (ok_aload_n (k := 0) rfl (by decide +kernel))⟩,
  fun _ h => absurd h List.not_mem_nil⟩⟩⟩⟩⟩⟩⟩⟩⟩⟩⟩⟩⟩⟩⟩⟩⟩⟩⟩⟩
def t_X10_person_2 : List (Nat × am_F) := [(79, im_gr q_SH 10 1 82), (82, im_gi q_SH 7 3 85), (85, im_il 2 86), (86, im_ast q_SH .int (fun x => x) 87), (87, im_al 0 88), (88, im_gr q_SH 10 1 91), (91, im_gr q_SH 7 2 94), (94, im_al 0 95), (95, im_gr q_SH 10 1 98), (98, im_gi q_SH 7 3 101), (101, im_il 3 102), (102, im_ast q_SH .int (fun x => x) 103), (103, im_al 0 104), (104, im_gr q_SH 10 1 107), (107, im_dup 108), (108, im_gi q_SH 7 3 111), (111, im_ic 1 112), (112, im_bin (fun x y => x + y) 113), (113, im_pi q_SH 7 3 116), (116, im_al 0 117)]
set_option maxRecDepth 20000 in
theorem o_X10_person_2 : ∀ q ∈ t_X10_person_2, am_ok vwCl q_SH ξ (q_E ξ β xs L) q_EN q_KD q_ML (cX10_person, 5, RX10, "person", (some .int), []) q.1 q.2 :=
  List.forall_mem_cons.mpr ⟨⟨mo_gr _ _ _ _, Or.inl (ok_gr (C := RX10) (T := TX10) (N := 12) (ci := 10) (k := 1) rfl inX10 (by decide) fl_X10_19 (by decide +kernel) (by decide +kernel))⟩,
  List.forall_mem_cons.mpr ⟨⟨mo_gi _ _ _ _, Or.inl (ok_gi (C := RX7) (T := TX7) (N := 4) (ci := 7) (k := 3) rfl inX7 (by decide) fl_X10_92 (by decide +kernel) (by decide +kernel))⟩,
  List.forall_mem_cons.mpr ⟨⟨mo_il _ _, Or.inl (ok_iload_n (k := 2) rfl (by decide +kernel))⟩,
  List.forall_mem_cons.mpr ⟨⟨mo_ast _ _ _ _, Or.inl (ok_iast (by decide +kernel))⟩,
  List.forall_mem_cons.mpr ⟨⟨mo_al _ _, Or.inl (ok_aload_n (k := 0) rfl (by decide +kernel))⟩,
  List.forall_mem_cons.mpr ⟨⟨mo_gr _ _ _ _, Or.inl (ok_gr (C := RX10) (T := TX10) (N := 12) (ci := 10) (k := 1) rfl inX10 (by decide) fl_X10_19 (by decide +kernel) (by decide +kernel))⟩,
  List.forall_mem_cons.mpr ⟨⟨mo_gr _ _ _ _, Or.inl (ok_gr (C := RX7) (T := TX7) (N := 4) (ci := 7) (k := 2) rfl inX7 (by decide) fl_X10_99 (by decide +kernel) (by decide +kernel))⟩,
  List.forall_mem_cons.mpr ⟨⟨mo_al _ _, Or.inl (ok_aload_n (k := 0) rfl (by decide +kernel))⟩,
  List.forall_mem_cons.mpr ⟨⟨mo_gr _ _ _ _, Or.inl (ok_gr (C := RX10) (T := TX10) (N := 12) (ci := 10) (k := 1) rfl inX10 (by decide) fl_X10_19 (by decide +kernel) (by decide +kernel))⟩,
  List.forall_mem_cons.mpr ⟨⟨mo_gi _ _ _ _, Or.inl (ok_gi (C := RX7) (T := TX7) (N := 4) (ci := 7) (k := 3) rfl inX7 (by decide) fl_X10_92 (by decide +kernel) (by decide +kernel))⟩,
  List.forall_mem_cons.mpr ⟨⟨mo_il _ _, Or.inl (ok_iload_n (k := 3) rfl (by decide +kernel))⟩,
  List.forall_mem_cons.mpr ⟨⟨mo_ast _ _ _ _, Or.inl (ok_iast (by decide +kernel))⟩,
  List.forall_mem_cons.mpr ⟨⟨mo_al _ _, Or.inl (ok_aload_n (k := 0) rfl (by decide +kernel))⟩,
  List.forall_mem_cons.mpr ⟨⟨mo_gr _ _ _ _, Or.inl (ok_gr (C := RX10) (T := TX10) (N := 12) (ci := 10) (k := 1) rfl inX10 (by decide) fl_X10_19 (by decide +kernel) (by decide +kernel))⟩,
  List.forall_mem_cons.mpr ⟨⟨mo_dup _, Or.inl (ok_dup (by decide +kernel))⟩,
  List.forall_mem_cons.mpr ⟨⟨mo_gi _ _ _ _, Or.inl (ok_gi (C := RX7) (T := TX7) (N := 4) (ci := 7) (k := 3) rfl inX7 (by decide) fl_X10_92 (by decide +kernel) (by decide +kernel))⟩,
  List.forall_mem_cons.mpr ⟨⟨mo_ic _ _, Or.inl (ok_iconst (n := 1) (v := 1) (by decide) (by decide +kernel))⟩,
  List.forall_mem_cons.mpr ⟨⟨mo_bin _ _, Or.inl (ok_iadd (by decide +kernel))⟩,
  List.forall_mem_cons.mpr ⟨⟨mo_pi _ _ _ _, Or.inl (ok_pi (ty := .int) (C := RX7) (T := TX7) (N := 4) (ci := 7) (k := 3) rfl inX7 (by decide) fl_X10_92 (by decide +kernel) tyX7 tyX7_ok nmX7 (by decide +kernel) (by decide +kernel) (by decide +kernel))⟩,
  List.forall_mem_cons.mpr ⟨⟨mo_al _ _, Or.inl (ok_aload_n (k := 0) rfl (by decide +kernel))⟩,
  fun _ h => absurd h List.not_mem_nil⟩⟩⟩⟩⟩⟩⟩⟩⟩⟩⟩⟩⟩⟩⟩⟩⟩⟩⟩⟩
def t_X10_person_3 : List (Nat × am_F) := [(117, im_gr q_SH 10 1 120), (120, im_gi q_SH 7 3 123), (123, im_ic 1 124), (124, im_bin (fun x y => x - y) 125), (125, im_reti)]
set_option maxRecDepth 20000 in
theorem o_X10_person_3 : ∀ q ∈ t_X10_person_3, am_ok vwCl q_SH ξ (q_E ξ β xs L) q_EN q_KD q_ML (cX10_person, 5, RX10, "person", (some .int), []) q.1 q.2 :=
  List.forall_mem_cons.mpr ⟨⟨mo_gr _ _ _ _, Or.inl (ok_gr (C := RX10) (T := TX10) (N := 12) (ci := 10) (k := 1) rfl inX10 (by decide) fl_X10_19 (by decide +kernel) (by decide +kernel))⟩,
  List.forall_mem_cons.mpr ⟨⟨mo_gi _ _ _ _, Or.inl (ok_gi (C := RX7) (T := TX7) (N := 4) (ci := 7) (k := 3) rfl inX7 (by decide) fl_X10_92 (by decide +kernel) (by decide +kernel))⟩,
  List.forall_mem_cons.mpr ⟨⟨mo_ic _ _, Or.inl (ok_iconst (n := 1) (v := 1) (by decide) (by decide +kernel))⟩,
  List.forall_mem_cons.mpr ⟨⟨mo_bin _ _, Or.inl (ok_isub (by decide +kernel))⟩,
  List.forall_mem_cons.mpr ⟨⟨mo_reti, Or.inr (Or.inr (ok_reti rfl (by decide +kernel)))⟩,
  fun _ h => absurd h List.not_mem_nil⟩⟩⟩⟩⟩
def t_X10_person : List (Nat × am_F) := t_X10_person_0 ++ (t_X10_person_1 ++ (t_X10_person_2 ++ (t_X10_person_3)))
theorem o_X10_person : ∀ q ∈ t_X10_person, am_ok vwCl q_SH ξ (q_E ξ β xs L) q_EN q_KD q_ML (cX10_person, 5, RX10, "person", (some .int), []) q.1 q.2 := List.forall_mem_append.mpr ⟨o_X10_person_0, List.forall_mem_append.mpr ⟨o_X10_person_1, List.forall_mem_append.mpr ⟨o_X10_person_2, o_X10_person_3⟩⟩⟩
def t_X10_fact_0 : List (Nat × am_F) := [(0, im_il 1 1), (1, im_ic 7 3), (3, im_invs 91 2 6), (6, im_il 1 7), (7, im_ic 5 8), (8, im_if2 ic_eq 22 11), (11, im_il 2 12), (12, im_al 0 13), (13, im_gr q_SH 10 1 16), (16, im_gi q_SH 7 3 19), (19, im_invs 91 2 22), (22, im_il 1 23), (23, im_ic 1 24), (24, im_if2 ic_ne 38 27), (27, im_il 3 28), (28, im_al 0 29), (29, im_gr q_SH 10 1 32), (32, im_gi q_SH 7 3 35), (35, im_invs 91 2 38), (38, im_il 1 39)]
set_option maxRecDepth 20000 in
theorem o_X10_fact_0 : ∀ q ∈ t_X10_fact_0, am_ok vwCl q_SH ξ (q_E ξ β xs L) q_EN q_KD q_ML (cX10_fact, 9, RX10, "fact", (some .int), []) q.1 q.2 :=
  List.forall_mem_cons.mpr ⟨⟨mo_il _ _, Or.inl (ok_iload_n (k := 1) rfl (by decide +kernel))⟩,
  List.forall_mem_cons.mpr ⟨⟨mo_ic _ _, Or.inl (ok_bipush (n := 7) (v := 7) (by decide) (by decide +kernel))⟩,
  List.forall_mem_cons.mpr ⟨⟨mo_invs _ _ _, Or.inr (Or.inl (ok_invs cw_X10_needNumber (by decide) (by decide) ml_X10_102 cs_X10_needNumber (show Cond.initialized (yX10_needNumber).cls ∈ am_ts from ci9_RX10) ⟨by decide +kernel, by decide +kernel, by decide +kernel⟩ rfl (by decide +kernel)))⟩,
  List.forall_mem_cons.mpr ⟨⟨mo_il _ _, Or.inl (ok_iload_n (k := 1) rfl (by decide +kernel))⟩,
  List.forall_mem_cons.mpr ⟨⟨mo_ic _ _, Or.inl (ok_iconst (n := 5) (v := 5) (by decide) (by decide +kernel))⟩,
  List.forall_mem_cons.mpr ⟨⟨mo_if2 _ _ _, Or.inl (ok_icmp_eq (off := 14) (by decide) (by decide +kernel))⟩,
  List.forall_mem_cons.mpr ⟨⟨mo_il _ _, Or.inl (ok_iload_n (k := 2) rfl (by decide +kernel))⟩,
  List.forall_mem_cons.mpr ⟨⟨mo_al _ _, Or.inl (ok_aload_n (k := 0) rfl (by decide +kernel))⟩,
  List.forall_mem_cons.mpr ⟨⟨mo_gr _ _ _ _, Or.inl (ok_gr (C := RX10) (T := TX10) (N := 12) (ci := 10) (k := 1) rfl inX10 (by decide) fl_X10_19 (by decide +kernel) (by decide +kernel))⟩,
  List.forall_mem_cons.mpr ⟨⟨mo_gi _ _ _ _, Or.inl (ok_gi (C := RX7) (T := TX7) (N := 4) (ci := 7) (k := 3) rfl inX7 (by decide) fl_X10_92 (by decide +kernel) (by decide +kernel))⟩,
  List.forall_mem_cons.mpr ⟨⟨mo_invs _ _ _, Or.inr (Or.inl (ok_invs cw_X10_needNumber (by decide) (by decide) ml_X10_102 cs_X10_needNumber (show Cond.initialized (yX10_needNumber).cls ∈ am_ts from ci9_RX10) ⟨by decide +kernel, by decide +kernel, by decide +kernel⟩ rfl (by decide +kernel)))⟩,
  List.forall_mem_cons.mpr ⟨⟨mo_il _ _, Or.inl (ok_iload_n (k := 1) rfl (by decide +kernel))⟩,
  List.forall_mem_cons.mpr ⟨⟨mo_ic _ _, Or.inl (ok_iconst (n := 1) (v := 1) (by decide) (by decide +kernel))⟩,
  List.forall_mem_cons.mpr ⟨⟨mo_if2 _ _ _, Or.inl (ok_icmp_ne (off := 14) (by decide) (by decide +kernel))⟩,
  List.forall_mem_cons.mpr ⟨⟨mo_il _ _, Or.inl (ok_iload_n (k := 3) rfl (by decide +kernel))⟩,
  List.forall_mem_cons.mpr ⟨⟨mo_al _ _, Or.inl (ok_aload_n (k := 0) rfl (by decide +kernel))⟩,
  List.forall_mem_cons.mpr ⟨⟨mo_gr _ _ _ _, Or.inl (ok_gr (C := RX10) (T := TX10) (N := 12) (ci := 10) (k := 1) rfl inX10 (by decide) fl_X10_19 (by decide +kernel) (by decide +kernel))⟩,
  List.forall_mem_cons.mpr ⟨⟨mo_gi _ _ _ _, Or.inl (ok_gi (C := RX7) (T := TX7) (N := 4) (ci := 7) (k := 3) rfl inX7 (by decide) fl_X10_92 (by decide +kernel) (by decide +kernel))⟩,
  List.forall_mem_cons.mpr ⟨⟨mo_invs _ _ _, Or.inr (Or.inl (ok_invs cw_X10_needNumber (by decide) (by decide) ml_X10_102 cs_X10_needNumber (show Cond.initialized (yX10_needNumber).cls ∈ am_ts from ci9_RX10) ⟨by decide +kernel, by decide +kernel, by decide +kernel⟩ rfl (by decide +kernel)))⟩,
  List.forall_mem_cons.mpr ⟨⟨mo_il _ _, Or.inl (ok_iload_n (k := 1) rfl (by decide +kernel))⟩,
  fun _ h => absurd h List.not_mem_nil⟩⟩⟩⟩⟩⟩⟩⟩⟩⟩⟩⟩⟩⟩⟩⟩⟩⟩⟩⟩
def t_X10_fact_1 : List (Nat × am_F) := [(39, im_ic 1 40), (40, im_if2 ic_le 53 43), (43, im_il 1 44), (44, im_ic 6 46), (46, im_if2 ic_ge 53 49), (49, im_ic 1 50), (50, im_go 54), (53, im_ic 0 54), (54, im_is 6 56), (56, im_il 6 58), (58, im_if1 ib_eq 72 61), (61, im_il 3 62), (62, im_al 0 63), (63, im_gr q_SH 10 0 66), (66, im_gi q_SH 8 2 69), (69, im_invs 91 2 72), (72, im_il 1 73), (73, im_ic 2 74), (74, im_if2 ic_lt 82 77), (77, im_il 1 78)]
set_option maxRecDepth 20000 in
theorem o_X10_fact_1 : ∀ q ∈ t_X10_fact_1, am_ok vwCl q_SH ξ (q_E ξ β xs L) q_EN q_KD q_ML (cX10_fact, 9, RX10, "fact", (some .int), []) q.1 q.2 :=
  List.forall_mem_cons.mpr ⟨⟨mo_ic _ _, Or.inl (ok_iconst (n := 1) (v := 1) (by decide) (by decide +kernel))⟩,
  List.forall_mem_cons.mpr ⟨⟨mo_if2 _ _ _, Or.inl (ok_icmp_le (off := 13) (by decide) (by decide +kernel))⟩,
  List.forall_mem_cons.mpr ⟨⟨mo_il _ _, Or.inl (ok_iload_n (k := 1) rfl (by decide +kernel))⟩,
  List.forall_mem_cons.mpr ⟨⟨mo_ic _ _, Or.inl (ok_bipush (n := 6) (v := 6) (by decide) (by decide +kernel))⟩,
  List.forall_mem_cons.mpr ⟨⟨mo_if2 _ _ _, Or.inl (ok_icmp_ge (off := 7) (by decide) (by decide +kernel))⟩,
  List.forall_mem_cons.mpr ⟨⟨mo_ic _ _, Or.inl (ok_iconst (n := 1) (v := 1) (by decide) (by decide +kernel))⟩,
  List.forall_mem_cons.mpr ⟨⟨mo_go _, Or.inl (ok_goto (off := 4) (by decide) (by decide +kernel))⟩,
  List.forall_mem_cons.mpr ⟨⟨mo_ic _ _, Or.inl (ok_iconst (n := 0) (v := 0) (by decide) (by decide +kernel))⟩,
  List.forall_mem_cons.mpr ⟨⟨mo_is _ _, Or.inl (ok_istore (by decide) (by decide +kernel))⟩,
  List.forall_mem_cons.mpr ⟨⟨mo_il _ _, Or.inl (ok_iload (by decide +kernel))⟩,
  List.forall_mem_cons.mpr ⟨⟨mo_if1 _ _ _, Or.inl (ok_if_eq (off := 14) (by decide) (by decide +kernel))⟩,
  List.forall_mem_cons.mpr ⟨⟨mo_il _ _, Or.inl (ok_iload_n (k := 3) rfl (by decide +kernel))⟩,
  List.forall_mem_cons.mpr ⟨⟨mo_al _ _, Or.inl (ok_aload_n (k := 0) rfl (by decide +kernel))⟩,
  List.forall_mem_cons.mpr ⟨⟨mo_gr _ _ _ _, Or.inl (ok_gr (C := RX10) (T := TX10) (N := 12) (ci := 10) (k := 0) rfl inX10 (by decide) fl_X10_10 (by decide +kernel) (by decide +kernel))⟩,
  List.forall_mem_cons.mpr ⟨⟨mo_gi _ _ _ _, Or.inl (ok_gi (C := RX8) (T := TX8) (N := 3) (ci := 8) (k := 2) rfl inX8 (by decide) fl_X10_76 (by decide +kernel) (by decide +kernel))⟩,
  List.forall_mem_cons.mpr ⟨⟨mo_invs _ _ _, Or.inr (Or.inl (ok_invs cw_X10_needNumber (by decide) (by decide) ml_X10_102 cs_X10_needNumber (show Cond.initialized (yX10_needNumber).cls ∈ am_ts from ci9_RX10) ⟨by decide +kernel, by decide +kernel, by decide +kernel⟩ rfl (by decide +kernel)))⟩,
  List.forall_mem_cons.mpr ⟨⟨mo_il _ _, Or.inl (ok_iload_n (k := 1) rfl (by decide +kernel))⟩,
  List.forall_mem_cons.mpr ⟨⟨mo_ic _ _, Or.inl (ok_iconst (n := 2) (v := 2) (by decide) (by decide +kernel))⟩,
  List.forall_mem_cons.mpr ⟨⟨mo_if2 _ _ _, Or.inl (ok_icmp_lt (off := 8) (by decide) (by decide +kernel))⟩,
  List.forall_mem_cons.mpr ⟨⟨mo_il _ _, Or.inl (ok_iload_n (k := 1) rfl (by decide +kernel))⟩,
  fun _ h => absurd h List.not_mem_nil⟩⟩⟩⟩⟩⟩⟩⟩⟩⟩⟩⟩⟩⟩⟩⟩⟩⟩⟩⟩
def t_X10_fact_2 : List (Nat × am_F) := [(78, im_ic 5 79), (79, im_if2 ic_lt 86 82), (82, im_ic 1 83), (83, im_go 87), (86, im_ic 0 87), (87, im_is 7 89), (89, im_il 7 91), (91, im_if1 ib_eq 106 94), (94, im_il 4 96), (96, im_al 0 97), (97, im_gr q_SH 10 0 100), (100, im_gi q_SH 8 1 103), (103, im_invs 91 2 106), (106, im_al 0 107), (107, im_gr q_SH 10 2 110), (110, im_gi q_SH 3 8 113), (113, im_ic 100 115), (115, im_if2 ic_ge 136 118), (118, im_il 5 120), (120, im_invs 95 1 123)]
set_option maxRecDepth 20000 in
theorem o_X10_fact_2 : ∀ q ∈ t_X10_fact_2, am_ok vwCl q_SH ξ (q_E ξ β xs L) q_EN q_KD q_ML (cX10_fact, 9, RX10, "fact", (some .int), []) q.1 q.2 :=
  List.forall_mem_cons.mpr ⟨⟨mo_ic _ _, Or.inl (ok_iconst (n := 5) (v := 5) (by decide) (by decide +kernel))⟩,
  List.forall_mem_cons.mpr ⟨⟨mo_if2 _ _ _, Or.inl (ok_icmp_lt (off := 7) (by decide) (by decide +kernel))⟩,
  List.forall_mem_cons.mpr ⟨⟨mo_ic _ _, Or.inl (ok_iconst (n := 1) (v := 1) (by decide) (by decide +kernel))⟩,
  List.forall_mem_cons.mpr ⟨⟨mo_go _, Or.inl (ok_goto (off := 4) (by decide) (by decide +kernel))⟩,
  List.forall_mem_cons.mpr ⟨⟨mo_ic _ _, Or.inl (ok_iconst (n := 0) (v := 0) (by decide) (by decide +kernel))⟩,
  List.forall_mem_cons.mpr ⟨⟨mo_is _ _, Or.inl (ok_istore (by decide) (by decide +kernel))⟩,
  List.forall_mem_cons.mpr ⟨⟨mo_il _ _, Or.inl (ok_iload (by decide +kernel))⟩,
  List.forall_mem_cons.mpr ⟨⟨mo_if1 _ _ _, Or.inl (ok_if_eq (off := 15) (by decide) (by decide +kernel))⟩,
  List.forall_mem_cons.mpr ⟨⟨mo_il _ _, Or.inl (ok_iload (by decide +kernel))⟩,
  List.forall_mem_cons.mpr ⟨⟨mo_al _ _, Or.inl (ok_aload_n (k := 0) rfl (by decide +kernel))⟩,
  List.forall_mem_cons.mpr ⟨⟨mo_gr _ _ _ _, Or.inl (ok_gr (C := RX10) (T := TX10) (N := 12) (ci := 10) (k := 0) rfl inX10 (by decide) fl_X10_10 (by decide +kernel) (by decide +kernel))⟩,
  List.forall_mem_cons.mpr ⟨⟨mo_gi _ _ _ _, Or.inl (ok_gi (C := RX8) (T := TX8) (N := 3) (ci := 8) (k := 1) rfl inX8 (by decide) fl_X10_82 (by decide +kernel) (by decide +kernel))⟩,
  List.forall_mem_cons.mpr ⟨⟨mo_invs _ _ _, Or.inr (Or.inl (ok_invs cw_X10_needNumber (by decide) (by decide) ml_X10_102 cs_X10_needNumber (show Cond.initialized (yX10_needNumber).cls ∈ am_ts from ci9_RX10) ⟨by decide +kernel, by decide +kernel, by decide +kernel⟩ rfl (by decide +kernel)))⟩,
  List.forall_mem_cons.mpr ⟨⟨mo_al _ _, Or.inl (ok_aload_n (k := 0) rfl (by decide +kernel))⟩,
  List.forall_mem_cons.mpr ⟨⟨mo_gr _ _ _ _, Or.inl (ok_gr (C := RX10) (T := TX10) (N := 12) (ci := 10) (k := 2) rfl inX10 (by decide) fl_X10_26 (by decide +kernel) (by decide +kernel))⟩,
  List.forall_mem_cons.mpr ⟨⟨mo_gi _ _ _ _, Or.inl (ok_gi (C := RX3) (T := TX3) (N := 9) (ci := 3) (k := 8) rfl inX3 (by decide) fl_X10_106 (by decide +kernel) (by decide +kernel))⟩,
  List.forall_mem_cons.mpr ⟨⟨mo_ic _ _, Or.inl (ok_bipush (n := 100) (v := 100) (by decide) (by decide +kernel))⟩,
  List.forall_mem_cons.mpr ⟨⟨mo_if2 _ _ _, Or.inl (ok_icmp_ge (off := 21) (by decide) (by decide +kernel))⟩,
  List.forall_mem_cons.mpr ⟨⟨mo_il _ _, Or.inl (ok_iload (by decide +kernel))⟩,
  List.forall_mem_cons.mpr ⟨⟨mo_invs _ _ _, Or.inr (Or.inl (ok_invs cw_X10_isDay (by decide) (by decide) ml_X10_107 cs_X10_isDay (show Cond.initialized (yX10_isDay).cls ∈ am_ts from ci9_RX10) ⟨by decide +kernel, by decide +kernel, by decide +kernel⟩ rfl (by decide +kernel)))⟩,
  fun _ h => absurd h List.not_mem_nil⟩⟩⟩⟩⟩⟩⟩⟩⟩⟩⟩⟩⟩⟩⟩⟩⟩⟩⟩⟩
def t_X10_fact_3 : List (Nat × am_F) := [(123, im_if1 ib_eq 136 126), (126, im_il 1 127), (127, im_ic 1 128), (128, im_if2 ic_ne 138 131), (131, im_il 2 132), (132, im_il 3 133), (133, im_if2 ic_ne 138 136), (136, im_ic (-1) 137), (137, im_reti), (138, im_al 0 139), (139, im_inv q_SH 10 98 0 142), (142, im_al 0 143), (143, im_gr q_SH 10 2 146), (146, im_gi q_SH 3 8 149), (149, im_is 8 151), (151, im_al 0 152), (152, im_gr q_SH 10 2 155), (155, im_gr q_SH 3 0 158), (158, im_il 8 160), (160, im_il 1 161)]
set_option maxRecDepth 20000 in
theorem o_X10_fact_3 : ∀ q ∈ t_X10_fact_3, am_ok vwCl q_SH ξ (q_E ξ β xs L) q_EN q_KD q_ML (cX10_fact, 9, RX10, "fact", (some .int), []) q.1 q.2 :=
  List.forall_mem_cons.mpr ⟨⟨mo_if1 _ _ _, Or.inl (ok_if_eq (off := 13) (by decide) (by decide +kernel))⟩,
  List.forall_mem_cons.mpr ⟨⟨mo_il _ _, Or.inl (ok_iload_n (k := 1) rfl (by decide +kernel))⟩,
  List.forall_mem_cons.mpr ⟨⟨mo_ic _ _, Or.inl (ok_iconst (n := 1) (v := 1) (by decide) (by decide +kernel))⟩,
  List.forall_mem_cons.mpr ⟨⟨mo_if2 _ _ _, Or.inl (ok_icmp_ne (off := 10) (by decide) (by decide +kernel))⟩,
  List.forall_mem_cons.mpr ⟨⟨mo_il _ _, Or.inl (ok_iload_n (k := 2) rfl (by decide +kernel))⟩,
  List.forall_mem_cons.mpr ⟨⟨mo_il _ _, Or.inl (ok_iload_n (k := 3) rfl (by decide +kernel))⟩,
  List.forall_mem_cons.mpr ⟨⟨mo_if2 _ _ _, Or.inl (ok_icmp_ne (off := 5) (by decide) (by decide +kernel))⟩,
  List.forall_mem_cons.mpr ⟨⟨mo_ic _ _, Or.inl (ok_iconst (n := (-1)) (v := (-1)) (by decide) (by decide +kernel))⟩,
  List.forall_mem_cons.mpr ⟨⟨mo_reti, Or.inr (Or.inr (ok_reti rfl (by decide +kernel)))⟩,
  List.forall_mem_cons.mpr ⟨⟨mo_al _ _, Or.inl (ok_aload_n (k := 0) rfl (by decide +kernel))⟩,
  List.forall_mem_cons.mpr ⟨⟨mo_inv _ _ _ _ _, Or.inr (Or.inl (ok_inv (T := TX10) (N := 12) rfl cw_X10_forget (by decide) (by decide) ml_X10_79 ci_X10_forget cv_X10_forget (show Cond.initialized (yX10_forget).cls ∈ am_ts from ci9_RX10) ⟨by decide +kernel, by decide +kernel, by decide +kernel⟩ rfl (by decide +kernel)))⟩,
  List.forall_mem_cons.mpr ⟨⟨mo_al _ _, Or.inl (ok_aload_n (k := 0) rfl (by decide +kernel))⟩,
  List.forall_mem_cons.mpr ⟨⟨mo_gr _ _ _ _, Or.inl (ok_gr (C := RX10) (T := TX10) (N := 12) (ci := 10) (k := 2) rfl inX10 (by decide) fl_X10_26 (by decide +kernel) (by decide +kernel))⟩,
  List.forall_mem_cons.mpr ⟨⟨mo_gi _ _ _ _, Or.inl (ok_gi (C := RX3) (T := TX3) (N := 9) (ci := 3) (k := 8) rfl inX3 (by decide) fl_X10_106 (by decide +kernel) (by decide +kernel))⟩,
  List.forall_mem_cons.mpr ⟨⟨mo_is _ _, Or.inl (ok_istore (by decide) (by decide +kernel))⟩,
  List.forall_mem_cons.mpr ⟨⟨mo_al _ _, Or.inl (ok_aload_n (k := 0) rfl (by decide +kernel))⟩,
  List.forall_mem_cons.mpr ⟨⟨mo_gr _ _ _ _, Or.inl (ok_gr (C := RX10) (T := TX10) (N := 12) (ci := 10) (k := 2) rfl inX10 (by decide) fl_X10_26 (by decide +kernel) (by decide +kernel))⟩,
  List.forall_mem_cons.mpr ⟨⟨mo_gr _ _ _ _, Or.inl (ok_gr (C := RX3) (T := TX3) (N := 9) (ci := 3) (k := 0) rfl inX3 (by decide) fl_X10_110 (by decide +kernel) (by decide +kernel))⟩,
  List.forall_mem_cons.mpr ⟨⟨mo_il _ _, Or.inl (ok_iload (by decide +kernel))⟩,
  List.forall_mem_cons.mpr ⟨⟨mo_il _ _, Or.inl (ok_iload_n (k := 1) rfl (by decide +kernel))⟩,
  fun _ h => absurd h List.not_mem_nil⟩⟩⟩⟩⟩⟩⟩⟩⟩⟩⟩⟩⟩⟩⟩⟩⟩⟩⟩⟩
def t_X10_fact_4 : List (Nat × am_F) := [(161, im_ast q_SH .int (fun x => x) 162), (162, im_al 0 163), (163, im_gr q_SH 10 2 166), (166, im_gr q_SH 3 1 169), (169, im_il 8 171), (171, im_il 1 172), (172, im_ic 5 173), (173, im_if2 ic_ne 180 176), (176, im_ic (-1) 177), (177, im_go 181), (180, im_il 2 181), (181, im_ast q_SH .int (fun x => x) 182), (182, im_al 0 183), (183, im_gr q_SH 10 2 186), (186, im_gr q_SH 3 2 189), (189, im_il 8 191), (191, im_il 6 193), (193, im_if1 ib_ne 201 196), (196, im_il 1 197), (197, im_ic 1 198)]
set_option maxRecDepth 20000 in
theorem o_X10_fact_4 : ∀ q ∈ t_X10_fact_4, am_ok vwCl q_SH ξ (q_E ξ β xs L) q_EN q_KD q_ML (cX10_fact, 9, RX10, "fact", (some .int), []) q.1 q.2 :=
  List.forall_mem_cons.mpr ⟨⟨mo_ast _ _ _ _, Or.inl (ok_iast (by decide +kernel))⟩,
  List.forall_mem_cons.mpr ⟨⟨mo_al _ _, Or.inl (ok_aload_n (k := 0) rfl (by decide +kernel))⟩,
  List.forall_mem_cons.mpr ⟨⟨mo_gr _ _ _ _, Or.inl (ok_gr (C := RX10) (T := TX10) (N := 12) (ci := 10) (k := 2) rfl inX10 (by decide) fl_X10_26 (by decide +kernel) (by decide +kernel))⟩,
  List.forall_mem_cons.mpr ⟨⟨mo_gr _ _ _ _, Or.inl (ok_gr (C := RX3) (T := TX3) (N := 9) (ci := 3) (k := 1) rfl inX3 (by decide) fl_X10_113 (by decide +kernel) (by decide +kernel))⟩,
  List.forall_mem_cons.mpr ⟨⟨mo_il _ _, Or.inl (ok_iload (by decide +kernel))⟩,
  List.forall_mem_cons.mpr ⟨⟨mo_il _ _, Or.inl (ok_iload_n (k := 1) rfl (by decide +kernel))⟩,
  List.forall_mem_cons.mpr ⟨⟨mo_ic _ _, Or.inl (ok_iconst (n := 5) (v := 5) (by decide) (by decide +kernel))⟩,
  List.forall_mem_cons.mpr ⟨⟨mo_if2 _ _ _, Or.inl (ok_icmp_ne (off := 7) (by decide) (by decide +kernel))⟩,
  List.forall_mem_cons.mpr ⟨⟨mo_ic _ _, Or.inl (ok_iconst (n := (-1)) (v := (-1)) (by decide) (by decide +kernel))⟩,
  List.forall_mem_cons.mpr ⟨⟨mo_go _, Or.inl (ok_goto (off := 4) (by decide) (by decide +kernel))⟩,
  List.forall_mem_cons.mpr ⟨⟨mo_il _ _, Or.inl (ok_iload_n (k := 2) rfl (by decide +kernel))⟩,
  List.forall_mem_cons.mpr ⟨⟨mo_ast _ _ _ _, Or.inl (ok_iast (by decide +kernel))⟩,
  List.forall_mem_cons.mpr ⟨⟨mo_al _ _, Or.inl (ok_aload_n (k := 0) rfl (by decide +kernel))⟩,
  List.forall_mem_cons.mpr ⟨⟨mo_gr _ _ _ _, Or.inl (ok_gr (C := RX10) (T := TX10) (N := 12) (ci := 10) (k := 2) rfl inX10 (by decide) fl_X10_26 (by decide +kernel) (by decide +kernel))⟩,
  List.forall_mem_cons.mpr ⟨⟨mo_gr _ _ _ _, Or.inl (ok_gr (C := RX3) (T := TX3) (N := 9) (ci := 3) (k := 2) rfl inX3 (by decide) fl_X10_116 (by decide +kernel) (by decide +kernel))⟩,
  List.forall_mem_cons.mpr ⟨⟨mo_il _ _, Or.inl (ok_iload (by decide +kernel))⟩,
  List.forall_mem_cons.mpr ⟨⟨mo_il _ _, Or.inl (ok_iload (by decide +kernel))⟩,
  List.forall_mem_cons.mpr ⟨⟨mo_if1 _ _ _, Or.inl (ok_if_ne (off := 8) (by decide) (by decide +kernel))⟩,
  List.forall_mem_cons.mpr ⟨⟨mo_il _ _, Or.inl (ok_iload_n (k := 1) rfl (by decide +kernel))⟩,
  List.forall_mem_cons.mpr ⟨⟨mo_ic _ _, Or.inl (ok_iconst (n := 1) (v := 1) (by decide) (by decide +kernel))⟩,
  fun _ h => absurd h List.not_mem_nil⟩⟩⟩⟩⟩⟩⟩⟩⟩⟩⟩⟩⟩⟩⟩⟩⟩⟩⟩⟩
def t_X10_fact_5 : List (Nat × am_F) := [(198, im_if2 ic_ne 205 201), (201, im_il 3 202), (202, im_go 206), (205, im_ic (-1) 206), (206, im_ast q_SH .int (fun x => x) 207), (207, im_al 0 208), (208, im_gr q_SH 10 2 211), (211, im_gr q_SH 3 3 214), (214, im_il 8 216), (216, im_il 7 218), (218, im_if1 ib_eq 226 221), (221, im_il 4 223), (223, im_go 227), (226, im_ic (-1) 227), (227, im_ast q_SH .int (fun x => x) 228), (228, im_al 0 229), (229, im_gr q_SH 10 2 232), (232, im_gr q_SH 3 4 235), (235, im_il 8 237), (237, im_al 0 238)]
set_option maxRecDepth 20000 in
theorem o_X10_fact_5 : ∀ q ∈ t_X10_fact_5, am_ok vwCl q_SH ξ (q_E ξ β xs L) q_EN q_KD q_ML (cX10_fact, 9, RX10, "fact", (some .int), []) q.1 q.2 :=
  List.forall_mem_cons.mpr ⟨⟨mo_if2 _ _ _, Or.inl (ok_icmp_ne (off := 7) (by decide) (by decide +kernel))⟩,
  List.forall_mem_cons.mpr ⟨⟨mo_il _ _, Or.inl (ok_iload_n (k := 3) rfl (by decide +kernel))⟩,
  List.forall_mem_cons.mpr ⟨⟨mo_go _, Or.inl (ok_goto (off := 4) (by decide) (by decide +kernel))⟩,
  List.forall_mem_cons.mpr ⟨⟨mo_ic _ _, Or.inl (ok_iconst (n := (-1)) (v := (-1)) (by decide) (by decide +kernel))⟩,
  List.forall_mem_cons.mpr ⟨⟨mo_ast _ _ _ _, Or.inl (ok_iast (by decide +kernel))⟩,
  List.forall_mem_cons.mpr ⟨⟨mo_al _ _, Or.inl (ok_aload_n (k := 0) rfl (by decide +kernel))⟩,
  List.forall_mem_cons.mpr ⟨⟨mo_gr _ _ _ _, Or.inl (ok_gr (C := RX10) (T := TX10) (N := 12) (ci := 10) (k := 2) rfl inX10 (by decide) fl_X10_26 (by decide +kernel) (by decide +kernel))⟩,
  List.forall_mem_cons.mpr ⟨⟨mo_gr _ _ _ _, Or.inl (ok_gr (C := RX3) (T := TX3) (N := 9) (ci := 3) (k := 3) rfl inX3 (by decide) fl_X10_119 (by decide +kernel) (by decide +kernel))⟩,
  List.forall_mem_cons.mpr ⟨⟨mo_il _ _, Or.inl (ok_iload (by decide +kernel))⟩,
  List.forall_mem_cons.mpr ⟨⟨mo_il _ _, Or.inl (ok_iload (by decide +kernel))⟩,
  List.forall_mem_cons.mpr ⟨⟨mo_if1 _ _ _, Or.inl (ok_if_eq (off := 8) (by decide) (by decide +kernel))⟩,
  List.forall_mem_cons.mpr ⟨⟨mo_il _ _, Or.inl (ok_iload (by decide +kernel))⟩,
  List.forall_mem_cons.mpr ⟨⟨mo_go _, Or.inl (ok_goto (off := 4) (by decide) (by decide +kernel))⟩,
  List.forall_mem_cons.mpr ⟨⟨mo_ic _ _, Or.inl (ok_iconst (n := (-1)) (v := (-1)) (by decide) (by decide +kernel))⟩,
  List.forall_mem_cons.mpr ⟨⟨mo_ast _ _ _ _, Or.inl (ok_iast (by decide +kernel))⟩,
  List.forall_mem_cons.mpr ⟨⟨mo_al _ _, Or.inl (ok_aload_n (k := 0) rfl (by decide +kernel))⟩,
  List.forall_mem_cons.mpr ⟨⟨mo_gr _ _ _ _, Or.inl (ok_gr (C := RX10) (T := TX10) (N := 12) (ci := 10) (k := 2) rfl inX10 (by decide) fl_X10_26 (by decide +kernel) (by decide +kernel))⟩,
  List.forall_mem_cons.mpr ⟨⟨mo_gr _ _ _ _, Or.inl (ok_gr (C := RX3) (T := TX3) (N := 9) (ci := 3) (k := 4) rfl inX3 (by decide) fl_X10_122 (by decide +kernel) (by decide +kernel))⟩,
  List.forall_mem_cons.mpr ⟨⟨mo_il _ _, Or.inl (ok_iload (by decide +kernel))⟩,
  List.forall_mem_cons.mpr ⟨⟨mo_al _ _, Or.inl (ok_aload_n (k := 0) rfl (by decide +kernel))⟩,
  fun _ h => absurd h List.not_mem_nil⟩⟩⟩⟩⟩⟩⟩⟩⟩⟩⟩⟩⟩⟩⟩⟩⟩⟩⟩⟩
def t_X10_fact_6 : List (Nat × am_F) := [(238, im_gi q_SH 10 10 241), (241, im_ast q_SH .int (fun x => x) 242), (242, im_al 0 243), (243, im_gr q_SH 10 2 246), (246, im_gr q_SH 3 5 249), (249, im_il 8 251), (251, im_ic (-1) 252), (252, im_ast q_SH .int (fun x => x) 253), (253, im_al 0 254), (254, im_gr q_SH 10 2 257), (257, im_gr q_SH 3 6 260), (260, im_il 8 262), (262, im_ic 3 263), (263, im_bin (fun x y => x * y) 264), (264, im_il 5 266), (266, im_ast q_SH .int (fun x => x) 267), (267, im_al 0 268), (268, im_gr q_SH 10 2 271), (271, im_gr q_SH 3 7 274), (274, im_il 8 276)]
set_option maxRecDepth 20000 in
theorem o_X10_fact_6 : ∀ q ∈ t_X10_fact_6, am_ok vwCl q_SH ξ (q_E ξ β xs L) q_EN q_KD q_ML (cX10_fact, 9, RX10, "fact", (some .int), []) q.1 q.2 :=
  List.forall_mem_cons.mpr ⟨⟨mo_gi _ _ _ _, Or.inl (ok_gi (C := RX10) (T := TX10) (N := 12) (ci := 10) (k := 10) rfl inX10 (by decide) fl_X10_125 (by decide +kernel) (by decide +kernel))⟩,
  List.forall_mem_cons.mpr ⟨⟨mo_ast _ _ _ _, Or.inl (ok_iast (by decide +kernel))⟩,
  List.forall_mem_cons.mpr ⟨⟨mo_al _ _, Or.inl (ok_aload_n (k := 0) rfl (by decide +kernel))⟩,
  List.forall_mem_cons.mpr ⟨⟨mo_gr _ _ _ _, Or.inl (ok_gr (C := RX10) (T := TX10) (N := 12) (ci := 10) (k := 2) rfl inX10 (by decide) fl_X10_26 (by decide +kernel) (by decide +kernel))⟩,
  List.forall_mem_cons.mpr ⟨⟨mo_gr _ _ _ _, Or.inl (ok_gr (C := RX3) (T := TX3) (N := 9) (ci := 3) (k := 5) rfl inX3 (by decide) fl_X10_128 (by decide +kernel) (by decide +kernel))⟩,
  List.forall_mem_cons.mpr ⟨⟨mo_il _ _, Or.inl (ok_iload (by decide +kernel))⟩,
  List.forall_mem_cons.mpr ⟨⟨mo_ic _ _, Or.inl (ok_iconst (n := (-1)) (v := (-1)) (by decide) (by decide +kernel))⟩,
  List.forall_mem_cons.mpr ⟨⟨mo_ast _ _ _ _, Or.inl (ok_iast (by decide +kernel))⟩,
  List.forall_mem_cons.mpr ⟨⟨mo_al _ _, Or.inl (ok_aload_n (k := 0) rfl (by decide +kernel))⟩,
  List.forall_mem_cons.mpr ⟨⟨mo_gr _ _ _ _, Or.inl (ok_gr (C := RX10) (T := TX10) (N := 12) (ci := 10) (k := 2) rfl inX10 (by decide) fl_X10_26 (by decide +kernel) (by decide +kernel))⟩,
  List.forall_mem_cons.mpr ⟨⟨mo_gr _ _ _ _, Or.inl (ok_gr (C := RX3) (T := TX3) (N := 9) (ci := 3) (k := 6) rfl inX3 (by decide) fl_X10_131 (by decide +kernel) (by decide +kernel))⟩,
  List.forall_mem_cons.mpr ⟨⟨mo_il _ _, Or.inl (ok_iload (by decide +kernel))⟩,
  List.forall_mem_cons.mpr ⟨⟨mo_ic _ _, Or.inl (ok_iconst (n := 3) (v := 3) (by decide) (by decide +kernel))⟩,
  List.forall_mem_cons.mpr ⟨⟨mo_bin _ _, Or.inl (ok_imul (by decide +kernel))⟩,
  List.forall_mem_cons.mpr ⟨⟨mo_il _ _, Or.inl (ok_iload (by decide +kernel))⟩,
  List.forall_mem_cons.mpr ⟨⟨mo_ast _ _ _ _, Or.inl (ok_iast (by decide +kernel))⟩,
  List.forall_mem_cons.mpr ⟨⟨mo_al _ _, Or.inl (ok_aload_n (k := 0) rfl (by decide +kernel))⟩,
  List.forall_mem_cons.mpr ⟨⟨mo_gr _ _ _ _, Or.inl (ok_gr (C := RX10) (T := TX10) (N := 12) (ci := 10) (k := 2) rfl inX10 (by decide) fl_X10_26 (by decide +kernel) (by decide +kernel))⟩,
  List.forall_mem_cons.mpr ⟨⟨mo_gr _ _ _ _, Or.inl (ok_gr (C := RX3) (T := TX3) (N := 9) (ci := 3) (k := 7) rfl inX3 (by decide) fl_X10_134 (by decide +kernel) (by decide +kernel))⟩,
  List.forall_mem_cons.mpr ⟨⟨mo_il _ _, Or.inl (ok_iload (by decide +kernel))⟩,
  fun _ h => absurd h List.not_mem_nil⟩⟩⟩⟩⟩⟩⟩⟩⟩⟩⟩⟩⟩⟩⟩⟩⟩⟩⟩⟩
def t_X10_fact_7 : List (Nat × am_F) := [(276, im_ic 1 277), (277, im_ast q_SH .int (fun x => x) 278), (278, im_al 0 279), (279, im_gr q_SH 10 2 282), (282, im_dup 283), (283, im_gi q_SH 3 8 286), (286, im_ic 1 287), (287, im_bin (fun x y => x + y) 288), (288, im_pi q_SH 3 8 291), (291, im_il 8 293), (293, im_reti)]
set_option maxRecDepth 20000 in
theorem o_X10_fact_7 : ∀ q ∈ t_X10_fact_7, am_ok vwCl q_SH ξ (q_E ξ β xs L) q_EN q_KD q_ML (cX10_fact, 9, RX10, "fact", (some .int), []) q.1 q.2 :=
  List.forall_mem_cons.mpr ⟨⟨mo_ic _ _, Or.inl (ok_iconst (n := 1) (v := 1) (by decide) (by decide +kernel))⟩,
  List.forall_mem_cons.mpr ⟨⟨mo_ast _ _ _ _, Or.inl (ok_iast (by decide +kernel))⟩,
  List.forall_mem_cons.mpr ⟨⟨mo_al _ _, Or.inl (ok_aload_n (k := 0) rfl (by decide +kernel))⟩,
  List.forall_mem_cons.mpr ⟨⟨mo_gr _ _ _ _, Or.inl (ok_gr (C := RX10) (T := TX10) (N := 12) (ci := 10) (k := 2) rfl inX10 (by decide) fl_X10_26 (by decide +kernel) (by decide +kernel))⟩,
  List.forall_mem_cons.mpr ⟨⟨mo_dup _, Or.inl (ok_dup (by decide +kernel))⟩,
  List.forall_mem_cons.mpr ⟨⟨mo_gi _ _ _ _, Or.inl (ok_gi (C := RX3) (T := TX3) (N := 9) (ci := 3) (k := 8) rfl inX3 (by decide) fl_X10_106 (by decide +kernel) (by decide +kernel))⟩,
  List.forall_mem_cons.mpr ⟨⟨mo_ic _ _, Or.inl (ok_iconst (n := 1) (v := 1) (by decide) (by decide +kernel))⟩,
  List.forall_mem_cons.mpr ⟨⟨mo_bin _ _, Or.inl (ok_iadd (by decide +kernel))⟩,
  List.forall_mem_cons.mpr ⟨⟨mo_pi _ _ _ _, Or.inl (ok_pi (ty := .int) (C := RX3) (T := TX3) (N := 9) (ci := 3) (k := 8) rfl inX3 (by decide) fl_X10_106 (by decide +kernel) tyX3 tyX3_ok nmX3 (by decide +kernel) (by decide +kernel) (by decide +kernel))⟩,
  List.forall_mem_cons.mpr ⟨⟨mo_il _ _, Or.inl (ok_iload (by decide +kernel))⟩,
  List.forall_mem_cons.mpr ⟨⟨mo_reti, Or.inr (Or.inr (ok_reti rfl (by decide +kernel)))⟩,
  fun _ h => absurd h List.not_mem_nil⟩⟩⟩⟩⟩⟩⟩⟩⟩⟩⟩
def t_X10_fact : List (Nat × am_F) := t_X10_fact_0 ++ (t_X10_fact_1 ++ (t_X10_fact_2 ++ (t_X10_fact_3 ++ (t_X10_fact_4 ++ (t_X10_fact_5 ++ (t_X10_fact_6 ++ (t_X10_fact_7)))))))
theorem o_X10_fact : ∀ q ∈ t_X10_fact, am_ok vwCl q_SH ξ (q_E ξ β xs L) q_EN q_KD q_ML (cX10_fact, 9, RX10, "fact", (some .int), []) q.1 q.2 := List.forall_mem_append.mpr ⟨o_X10_fact_0, List.forall_mem_append.mpr ⟨o_X10_fact_1, List.forall_mem_append.mpr ⟨o_X10_fact_2, List.forall_mem_append.mpr ⟨o_X10_fact_3, List.forall_mem_append.mpr ⟨o_X10_fact_4, List.forall_mem_append.mpr ⟨o_X10_fact_5, List.forall_mem_append.mpr ⟨o_X10_fact_6, o_X10_fact_7⟩⟩⟩⟩⟩⟩⟩
def t_X10_also_0 : List (Nat × am_F) := [(0, im_il 1 1), (1, im_al 0 2), (2, im_gr q_SH 10 2 5), (5, im_gi q_SH 3 8 8), (8, im_invs 91 2 11), (11, im_al 0 12), (12, im_gr q_SH 10 2 15), (15, im_gr q_SH 3 7 18), (18, im_il 1 19), (19, im_ald q_SH .int 20), (20, im_is 3 21), (21, im_il 3 22), (22, im_ic 3 23), (23, im_if2 ic_ge 45 26), (26, im_il 2 27), (27, im_invs 95 1 30), (30, im_if1 ib_eq 45 33), (33, im_al 0 34), (34, im_gr q_SH 10 2 37), (37, im_il 1 38)]
set_option maxRecDepth 20000 in
theorem o_X10_also_0 : ∀ q ∈ t_X10_also_0, am_ok vwCl q_SH ξ (q_E ξ β xs L) q_EN q_KD q_ML (cX10_also, 4, RX10, "also", (some .int), []) q.1 q.2 :=
  List.forall_mem_cons.mpr ⟨⟨mo_il _ _, Or.inl (ok_iload_n (k := 1) rfl (by decide +kernel))⟩,
  List.forall_mem_cons.mpr ⟨⟨mo_al _ _, Or.inl (ok_aload_n (k := 0) rfl (by decide +kernel))⟩,
  List.forall_mem_cons.mpr ⟨⟨mo_gr _ _ _ _, Or.inl (ok_gr (C := RX10) (T := TX10) (N := 12) (ci := 10) (k := 2) rfl inX10 (by decide) fl_X10_26 (by decide +kernel) (by decide +kernel))⟩,
  List.forall_mem_cons.mpr ⟨⟨mo_gi _ _ _ _, Or.inl (ok_gi (C := RX3) (T := TX3) (N := 9) (ci := 3) (k := 8) rfl inX3 (by decide) fl_X10_106 (by decide +kernel) (by decide +kernel))⟩,
  List.forall_mem_cons.mpr ⟨⟨mo_invs _ _ _, Or.inr (Or.inl (ok_invs cw_X10_needNumber (by decide) (by decide) ml_X10_102 cs_X10_needNumber (show Cond.initialized (yX10_needNumber).cls ∈ am_ts from ci9_RX10) ⟨by decide +kernel, by decide +kernel, by decide +kernel⟩ rfl (by decide +kernel)))⟩,
  List.forall_mem_cons.mpr ⟨⟨mo_al _ _, Or.inl (ok_aload_n (k := 0) rfl (by decide +kernel))⟩,
  List.forall_mem_cons.mpr ⟨⟨mo_gr _ _ _ _, Or.inl (ok_gr (C := RX10) (T := TX10) (N := 12) (ci := 10) (k := 2) rfl inX10 (by decide) fl_X10_26 (by decide +kernel) (by decide +kernel))⟩,
  List.forall_mem_cons.mpr ⟨⟨mo_gr _ _ _ _, Or.inl (ok_gr (C := RX3) (T := TX3) (N := 9) (ci := 3) (k := 7) rfl inX3 (by decide) fl_X10_134 (by decide +kernel) (by decide +kernel))⟩,
  List.forall_mem_cons.mpr ⟨⟨mo_il _ _, Or.inl (ok_iload_n (k := 1) rfl (by decide +kernel))⟩,
  List.forall_mem_cons.mpr ⟨⟨mo_ald _ _ _, Or.inl (ok_iald (by decide +kernel))⟩,
  List.forall_mem_cons.mpr ⟨⟨mo_is _ _, Or.inl (ok_istore_n (k := 3) rfl (by decide) (by decide +kernel))⟩,
  List.forall_mem_cons.mpr ⟨⟨mo_il _ _, Or.inl (ok_iload_n (k := 3) rfl (by decide +kernel))⟩,
  List.forall_mem_cons.mpr ⟨⟨mo_ic _ _, Or.inl (ok_iconst (n := 3) (v := 3) (by decide) (by decide +kernel))⟩,
  List.forall_mem_cons.mpr ⟨⟨mo_if2 _ _ _, Or.inl (ok_icmp_ge (off := 22) (by decide) (by decide +kernel))⟩,
  List.forall_mem_cons.mpr ⟨⟨mo_il _ _, Or.inl (ok_iload_n (k := 2) rfl (by decide +kernel))⟩,
  List.forall_mem_cons.mpr ⟨⟨mo_invs _ _ _, Or.inr (Or.inl (ok_invs cw_X10_isDay (by decide) (by decide) ml_X10_107 cs_X10_isDay (show Cond.initialized (yX10_isDay).cls ∈ am_ts from ci9_RX10) ⟨by decide +kernel, by decide +kernel, by decide +kernel⟩ rfl (by decide +kernel)))⟩,
  List.forall_mem_cons.mpr ⟨⟨mo_if1 _ _ _, Or.inl (ok_if_eq (off := 15) (by decide) (by decide +kernel))⟩,
  List.forall_mem_cons.mpr ⟨⟨mo_al _ _, Or.inl (ok_aload_n (k := 0) rfl (by decide +kernel))⟩,
  List.forall_mem_cons.mpr ⟨⟨mo_gr _ _ _ _, Or.inl (ok_gr (C := RX10) (T := TX10) (N := 12) (ci := 10) (k := 2) rfl inX10 (by decide) fl_X10_26 (by decide +kernel) (by decide +kernel))⟩,
  List.forall_mem_cons.mpr ⟨⟨mo_il _ _, Or.inl (ok_iload_n (k := 1) rfl (by decide +kernel))⟩,
  fun _ h => absurd h List.not_mem_nil⟩⟩⟩⟩⟩⟩⟩⟩⟩⟩⟩⟩⟩⟩⟩⟩⟩⟩⟩⟩
def t_X10_also_1 : List (Nat × am_F) := [(38, im_il 2 39), (39, im_inv q_SH 3 19 2 42), (42, im_if1 ib_eq 47 45), (45, im_ic (-1) 46), (46, im_reti), (47, im_al 0 48), (48, im_inv q_SH 10 98 0 51), (51, im_al 0 52), (52, im_gr q_SH 10 2 55), (55, im_gr q_SH 3 6 58), (58, im_il 1 59), (59, im_ic 3 60), (60, im_bin (fun x y => x * y) 61), (61, im_il 3 62), (62, im_bin (fun x y => x + y) 63), (63, im_il 2 64), (64, im_ast q_SH .int (fun x => x) 65), (65, im_al 0 66), (66, im_gr q_SH 10 2 69), (69, im_gr q_SH 3 7 72)]
set_option maxRecDepth 20000 in
theorem o_X10_also_1 : ∀ q ∈ t_X10_also_1, am_ok vwCl q_SH ξ (q_E ξ β xs L) q_EN q_KD q_ML (cX10_also, 4, RX10, "also", (some .int), []) q.1 q.2 :=
  List.forall_mem_cons.mpr ⟨⟨mo_il _ _, Or.inl (ok_iload_n (k := 2) rfl (by decide +kernel))⟩,
  List.forall_mem_cons.mpr ⟨⟨mo_inv _ _ _ _ _, Or.inr (Or.inl (ok_inv (T := TX3) (N := 9) rfl cw_X3_couldBeOn (by decide) (by decide) ml_X10_137 ci_X3_couldBeOn cv_X3_couldBeOn (show Cond.initialized (yX3_couldBeOn).cls ∈ am_ts from ci9_RX3) ⟨by decide +kernel, by decide +kernel, by decide +kernel⟩ rfl (by decide +kernel)))⟩,
  List.forall_mem_cons.mpr ⟨⟨mo_if1 _ _ _, Or.inl (ok_if_eq (off := 5) (by decide) (by decide +kernel))⟩,
  List.forall_mem_cons.mpr ⟨⟨mo_ic _ _, Or.inl (ok_iconst (n := (-1)) (v := (-1)) (by decide) (by decide +kernel))⟩,
  List.forall_mem_cons.mpr ⟨⟨mo_reti, Or.inr (Or.inr (ok_reti rfl (by decide +kernel)))⟩,
  List.forall_mem_cons.mpr ⟨⟨mo_al _ _, Or.inl (ok_aload_n (k := 0) rfl (by decide +kernel))⟩,
  List.forall_mem_cons.mpr ⟨⟨mo_inv _ _ _ _ _, Or.inr (Or.inl (ok_inv (T := TX10) (N := 12) rfl cw_X10_forget (by decide) (by decide) ml_X10_79 ci_X10_forget cv_X10_forget (show Cond.initialized (yX10_forget).cls ∈ am_ts from ci9_RX10) ⟨by decide +kernel, by decide +kernel, by decide +kernel⟩ rfl (by decide +kernel)))⟩,
  List.forall_mem_cons.mpr ⟨⟨mo_al _ _, Or.inl (ok_aload_n (k := 0) rfl (by decide +kernel))⟩,
  List.forall_mem_cons.mpr ⟨⟨mo_gr _ _ _ _, Or.inl (ok_gr (C := RX10) (T := TX10) (N := 12) (ci := 10) (k := 2) rfl inX10 (by decide) fl_X10_26 (by decide +kernel) (by decide +kernel))⟩,
  List.forall_mem_cons.mpr ⟨⟨mo_gr _ _ _ _, Or.inl (ok_gr (C := RX3) (T := TX3) (N := 9) (ci := 3) (k := 6) rfl inX3 (by decide) fl_X10_131 (by decide +kernel) (by decide +kernel))⟩,
  List.forall_mem_cons.mpr ⟨⟨mo_il _ _, Or.inl (ok_iload_n (k := 1) rfl (by decide +kernel))⟩,
  List.forall_mem_cons.mpr ⟨⟨mo_ic _ _, Or.inl (ok_iconst (n := 3) (v := 3) (by decide) (by decide +kernel))⟩,
  List.forall_mem_cons.mpr ⟨⟨mo_bin _ _, Or.inl (ok_imul (by decide +kernel))⟩,
  List.forall_mem_cons.mpr ⟨⟨mo_il _ _, Or.inl (ok_iload_n (k := 3) rfl (by decide +kernel))⟩,
  List.forall_mem_cons.mpr ⟨⟨mo_bin _ _, Or.inl (ok_iadd (by decide +kernel))⟩,
  List.forall_mem_cons.mpr ⟨⟨mo_il _ _, Or.inl (ok_iload_n (k := 2) rfl (by decide +kernel))⟩,
  List.forall_mem_cons.mpr ⟨⟨mo_ast _ _ _ _, Or.inl (ok_iast (by decide +kernel))⟩,
  List.forall_mem_cons.mpr ⟨⟨mo_al _ _, Or.inl (ok_aload_n (k := 0) rfl (by decide +kernel))⟩,
  List.forall_mem_cons.mpr ⟨⟨mo_gr _ _ _ _, Or.inl (ok_gr (C := RX10) (T := TX10) (N := 12) (ci := 10) (k := 2) rfl inX10 (by decide) fl_X10_26 (by decide +kernel) (by decide +kernel))⟩,
  List.forall_mem_cons.mpr ⟨⟨mo_gr _ _ _ _, Or.inl (ok_gr (C := RX3) (T := TX3) (N := 9) (ci := 3) (k := 7) rfl inX3 (by decide) fl_X10_134 (by decide +kernel) (by decide +kernel))⟩,
  fun _ h => absurd h List.not_mem_nil⟩⟩⟩⟩⟩⟩⟩⟩⟩⟩⟩⟩⟩⟩⟩⟩⟩⟩⟩⟩
def t_X10_also_2 : List (Nat × am_F) := [(72, im_il 1 73), (73, im_il 3 74), (74, im_ic 1 75), (75, im_bin (fun x y => x + y) 76), (76, im_ast q_SH .int (fun x => x) 77), (77, im_il 3 78), (78, im_ic 1 79), (79, im_bin (fun x y => x + y) 80), (80, im_reti)]
set_option maxRecDepth 20000 in
theorem o_X10_also_2 : ∀ q ∈ t_X10_also_2, am_ok vwCl q_SH ξ (q_E ξ β xs L) q_EN q_KD q_ML (cX10_also, 4, RX10, "also", (some .int), []) q.1 q.2 :=
  List.forall_mem_cons.mpr ⟨⟨mo_il _ _, Or.inl (ok_iload_n (k := 1) rfl (by decide +kernel))⟩,
  List.forall_mem_cons.mpr ⟨⟨mo_il _ _, Or.inl (ok_iload_n (k := 3) rfl (by decide +kernel))⟩,
  List.forall_mem_cons.mpr ⟨⟨mo_ic _ _, Or.inl (ok_iconst (n := 1) (v := 1) (by decide) (by decide +kernel))⟩,
  List.forall_mem_cons.mpr ⟨⟨mo_bin _ _, Or.inl (ok_iadd (by decide +kernel))⟩,
  List.forall_mem_cons.mpr ⟨⟨mo_ast _ _ _ _, Or.inl (ok_iast (by decide +kernel))⟩,
  List.forall_mem_cons.mpr ⟨⟨mo_il _ _, Or.inl (ok_iload_n (k := 3) rfl (by decide +kernel))⟩,
  List.forall_mem_cons.mpr ⟨⟨mo_ic _ _, Or.inl (ok_iconst (n := 1) (v := 1) (by decide) (by decide +kernel))⟩,
  List.forall_mem_cons.mpr ⟨⟨mo_bin _ _, Or.inl (ok_iadd (by decide +kernel))⟩,
  List.forall_mem_cons.mpr ⟨⟨mo_reti, Or.inr (Or.inr (ok_reti rfl (by decide +kernel)))⟩,
  fun _ h => absurd h List.not_mem_nil⟩⟩⟩⟩⟩⟩⟩⟩⟩
def t_X10_also : List (Nat × am_F) := t_X10_also_0 ++ (t_X10_also_1 ++ (t_X10_also_2))
theorem o_X10_also : ∀ q ∈ t_X10_also, am_ok vwCl q_SH ξ (q_E ξ β xs L) q_EN q_KD q_ML (cX10_also, 4, RX10, "also", (some .int), []) q.1 q.2 := List.forall_mem_append.mpr ⟨o_X10_also_0, List.forall_mem_append.mpr ⟨o_X10_also_1, o_X10_also_2⟩⟩
def t_X10_back_0 : List (Nat × am_F) := [(0, im_il 2 1), (1, im_il 1 2), (2, im_if1 ib_eq 15 5), (5, im_al 0 6), (6, im_gr q_SH 10 3 9), (9, im_gi q_SH 0 15 12), (12, im_go 22), (15, im_al 0 16), (16, im_gr q_SH 10 2 19), (19, im_gi q_SH 3 8 22), (22, im_invs 91 2 25), (25, im_il 1 26), (26, im_if1 ib_eq 39 29), (29, im_al 0 30), (30, im_gr q_SH 10 3 33), (33, im_gr q_SH 0 4 36), (36, im_go 46), (39, im_al 0 40), (40, im_gr q_SH 10 2 43), (43, im_gr q_SH 3 5 46)]
set_option maxRecDepth 20000 in
theorem o_X10_back_0 : ∀ q ∈ t_X10_back_0, am_ok vwCl q_SH ξ (q_E ξ β xs L) q_EN q_KD q_ML (cX10_back, 4, RX10, "back", (some .boolean), []) q.1 q.2 :=
  List.forall_mem_cons.mpr ⟨⟨mo_il _ _, Or.inl (ok_iload_n (k := 2) rfl (by decide +kernel))⟩,
  List.forall_mem_cons.mpr ⟨⟨mo_il _ _, Or.inl (ok_iload_n (k := 1) rfl (by decide +kernel))⟩,
  List.forall_mem_cons.mpr ⟨⟨mo_if1 _ _ _, Or.inl (ok_if_eq (off := 13) (by decide) (by decide +kernel))⟩,
  List.forall_mem_cons.mpr ⟨⟨mo_al _ _, Or.inl (ok_aload_n (k := 0) rfl (by decide +kernel))⟩,
  List.forall_mem_cons.mpr ⟨⟨mo_gr _ _ _ _, Or.inl (ok_gr (C := RX10) (T := TX10) (N := 12) (ci := 10) (k := 3) rfl inX10 (by decide) fl_X10_33 (by decide +kernel) (by decide +kernel))⟩,
  List.forall_mem_cons.mpr ⟨⟨mo_gi _ _ _ _, Or.inl (ok_gi (C := RX0) (T := TX0) (N := 16) (ci := 0) (k := 15) rfl inX0 (by decide) fl_X10_141 (by decide +kernel) (by decide +kernel))⟩,
  List.forall_mem_cons.mpr ⟨⟨mo_go _, Or.inl (ok_goto (off := 10) (by decide) (by decide +kernel))⟩,
  List.forall_mem_cons.mpr ⟨⟨mo_al _ _, Or.inl (ok_aload_n (k := 0) rfl (by decide +kernel))⟩,
  List.forall_mem_cons.mpr ⟨⟨mo_gr _ _ _ _, Or.inl (ok_gr (C := RX10) (T := TX10) (N := 12) (ci := 10) (k := 2) rfl inX10 (by decide) fl_X10_26 (by decide +kernel) (by decide +kernel))⟩,
  List.forall_mem_cons.mpr ⟨⟨mo_gi _ _ _ _, Or.inl (ok_gi (C := RX3) (T := TX3) (N := 9) (ci := 3) (k := 8) rfl inX3 (by decide) fl_X10_106 (by decide +kernel) (by decide +kernel))⟩,
  List.forall_mem_cons.mpr ⟨⟨mo_invs _ _ _, Or.inr (Or.inl (ok_invs cw_X10_needNumber (by decide) (by decide) ml_X10_102 cs_X10_needNumber (show Cond.initialized (yX10_needNumber).cls ∈ am_ts from ci9_RX10) ⟨by decide +kernel, by decide +kernel, by decide +kernel⟩ rfl (by decide +kernel)))⟩,
  List.forall_mem_cons.mpr ⟨⟨mo_il _ _, Or.inl (ok_iload_n (k := 1) rfl (by decide +kernel))⟩,
  List.forall_mem_cons.mpr ⟨⟨mo_if1 _ _ _, Or.inl (ok_if_eq (off := 13) (by decide) (by decide +kernel))⟩,
  List.forall_mem_cons.mpr ⟨⟨mo_al _ _, Or.inl (ok_aload_n (k := 0) rfl (by decide +kernel))⟩,
  List.forall_mem_cons.mpr ⟨⟨mo_gr _ _ _ _, Or.inl (ok_gr (C := RX10) (T := TX10) (N := 12) (ci := 10) (k := 3) rfl inX10 (by decide) fl_X10_33 (by decide +kernel) (by decide +kernel))⟩,
  List.forall_mem_cons.mpr ⟨⟨mo_gr _ _ _ _, Or.inl (ok_gr (C := RX0) (T := TX0) (N := 16) (ci := 0) (k := 4) rfl inX0 (by decide) fl_X10_142 (by decide +kernel) (by decide +kernel))⟩,
  List.forall_mem_cons.mpr ⟨⟨mo_go _, Or.inl (ok_goto (off := 10) (by decide) (by decide +kernel))⟩,
  List.forall_mem_cons.mpr ⟨⟨mo_al _ _, Or.inl (ok_aload_n (k := 0) rfl (by decide +kernel))⟩,
  List.forall_mem_cons.mpr ⟨⟨mo_gr _ _ _ _, Or.inl (ok_gr (C := RX10) (T := TX10) (N := 12) (ci := 10) (k := 2) rfl inX10 (by decide) fl_X10_26 (by decide +kernel) (by decide +kernel))⟩,
  List.forall_mem_cons.mpr ⟨⟨mo_gr _ _ _ _, Or.inl (ok_gr (C := RX3) (T := TX3) (N := 9) (ci := 3) (k := 5) rfl inX3 (by decide) fl_X10_128 (by decide +kernel) (by decide +kernel))⟩,
  fun _ h => absurd h List.not_mem_nil⟩⟩⟩⟩⟩⟩⟩⟩⟩⟩⟩⟩⟩⟩⟩⟩⟩⟩⟩⟩
def t_X10_back_1 : List (Nat × am_F) := [(46, im_as 3 47), (47, im_al 3 48), (48, im_il 2 49), (49, im_ald q_SH .int 50), (50, im_ic (-1) 51), (51, im_if2 ic_eq 56 54), (54, im_ic 0 55), (55, im_retz), (56, im_al 0 57), (57, im_inv q_SH 10 98 0 60), (60, im_al 3 61), (61, im_il 2 62), (62, im_al 0 63), (63, im_gi q_SH 10 10 66), (66, im_ast q_SH .int (fun x => x) 67), (67, im_ic 1 68), (68, im_retz)]
set_option maxRecDepth 20000 in
theorem o_X10_back_1 : ∀ q ∈ t_X10_back_1, am_ok vwCl q_SH ξ (q_E ξ β xs L) q_EN q_KD q_ML (cX10_back, 4, RX10, "back", (some .boolean), []) q.1 q.2 :=
  List.forall_mem_cons.mpr ⟨⟨mo_as _ _, Or.inl (ok_astore_n (k := 3) rfl (by decide) (by decide +kernel))⟩,
  List.forall_mem_cons.mpr ⟨⟨mo_al _ _, Or.inl (ok_aload_n (k := 3) rfl (by decide +kernel))⟩,
  List.forall_mem_cons.mpr ⟨⟨mo_il _ _, Or.inl (ok_iload_n (k := 2) rfl (by decide +kernel))⟩,
  List.forall_mem_cons.mpr ⟨⟨mo_ald _ _ _, Or.inl (ok_iald (by decide +kernel))⟩,
  List.forall_mem_cons.mpr ⟨⟨mo_ic _ _, Or.inl (ok_iconst (n := (-1)) (v := (-1)) (by decide) (by decide +kernel))⟩,
  List.forall_mem_cons.mpr ⟨⟨mo_if2 _ _ _, Or.inl (ok_icmp_eq (off := 5) (by decide) (by decide +kernel))⟩,
  List.forall_mem_cons.mpr ⟨⟨mo_ic _ _, Or.inl (ok_iconst (n := 0) (v := 0) (by decide) (by decide +kernel))⟩,
  List.forall_mem_cons.mpr ⟨⟨mo_retz, Or.inr (Or.inr (ok_retz rfl (by decide +kernel)))⟩,
  List.forall_mem_cons.mpr ⟨⟨mo_al _ _, Or.inl (ok_aload_n (k := 0) rfl (by decide +kernel))⟩,
  List.forall_mem_cons.mpr ⟨⟨mo_inv _ _ _ _ _, Or.inr (Or.inl (ok_inv (T := TX10) (N := 12) rfl cw_X10_forget (by decide) (by decide) ml_X10_79 ci_X10_forget cv_X10_forget (show Cond.initialized (yX10_forget).cls ∈ am_ts from ci9_RX10) ⟨by decide +kernel, by decide +kernel, by decide +kernel⟩ rfl (by decide +kernel)))⟩,
  List.forall_mem_cons.mpr ⟨⟨mo_al _ _, Or.inl (ok_aload_n (k := 3) rfl (by decide +kernel))⟩,
  List.forall_mem_cons.mpr ⟨⟨mo_il _ _, Or.inl (ok_iload_n (k := 2) rfl (by decide +kernel))⟩,
  List.forall_mem_cons.mpr ⟨⟨mo_al _ _, Or.inl (ok_aload_n (k := 0) rfl (by decide +kernel))⟩,
  List.forall_mem_cons.mpr ⟨⟨mo_gi _ _ _ _, Or.inl (ok_gi (C := RX10) (T := TX10) (N := 12) (ci := 10) (k := 10) rfl inX10 (by decide) fl_X10_125 (by decide +kernel) (by decide +kernel))⟩,
  List.forall_mem_cons.mpr ⟨⟨mo_ast _ _ _ _, Or.inl (ok_iast (by decide +kernel))⟩,
  List.forall_mem_cons.mpr ⟨⟨mo_ic _ _, Or.inl (ok_iconst (n := 1) (v := 1) (by decide) (by decide +kernel))⟩,
  List.forall_mem_cons.mpr ⟨⟨mo_retz, Or.inr (Or.inr (ok_retz rfl (by decide +kernel)))⟩,
  fun _ h => absurd h List.not_mem_nil⟩⟩⟩⟩⟩⟩⟩⟩⟩⟩⟩⟩⟩⟩⟩⟩⟩
def t_X10_back : List (Nat × am_F) := t_X10_back_0 ++ (t_X10_back_1)
theorem o_X10_back : ∀ q ∈ t_X10_back, am_ok vwCl q_SH ξ (q_E ξ β xs L) q_EN q_KD q_ML (cX10_back, 4, RX10, "back", (some .boolean), []) q.1 q.2 := List.forall_mem_append.mpr ⟨o_X10_back_0, o_X10_back_1⟩
def t_X10_evenings_0 : List (Nat × am_F) := [(0, im_il 1 1), (1, im_if1 ib_lt 16 4), (4, im_il 1 5), (5, im_ic 999 8), (8, im_al 0 9), (9, im_gi q_SH 10 10 12), (12, im_bin (fun x y => x - y) 13), (13, im_if2 ic_le 24 16), (16, im_thr 2), (24, im_al 0 25), (25, im_dup 26), (26, im_gi q_SH 10 10 29), (29, im_il 1 30), (30, im_bin (fun x y => x + y) 31), (31, im_pi q_SH 10 10 34), (34, im_al 0 35), (35, im_gi q_SH 10 10 38), (38, im_reti)]
set_option maxRecDepth 20000 in
theorem o_X10_evenings_0 : ∀ q ∈ t_X10_evenings_0, am_ok vwCl q_SH ξ (q_E ξ β xs L) q_EN q_KD q_ML (cX10_evenings, 2, RX10, "evenings", (some .int), []) q.1 q.2 :=
  List.forall_mem_cons.mpr ⟨⟨mo_il _ _, Or.inl (ok_iload_n (k := 1) rfl (by decide +kernel))⟩,
  List.forall_mem_cons.mpr ⟨⟨mo_if1 _ _ _, Or.inl (ok_if_lt (off := 15) (by decide) (by decide +kernel))⟩,
  List.forall_mem_cons.mpr ⟨⟨mo_il _ _, Or.inl (ok_iload_n (k := 1) rfl (by decide +kernel))⟩,
  List.forall_mem_cons.mpr ⟨⟨mo_ic _ _, Or.inl (ok_sipush (n := 999) (v := 999) (by decide) (by decide +kernel))⟩,
  List.forall_mem_cons.mpr ⟨⟨mo_al _ _, Or.inl (ok_aload_n (k := 0) rfl (by decide +kernel))⟩,
  List.forall_mem_cons.mpr ⟨⟨mo_gi _ _ _ _, Or.inl (ok_gi (C := RX10) (T := TX10) (N := 12) (ci := 10) (k := 10) rfl inX10 (by decide) fl_X10_125 (by decide +kernel) (by decide +kernel))⟩,
  List.forall_mem_cons.mpr ⟨⟨mo_bin _ _, Or.inl (ok_isub (by decide +kernel))⟩,
  List.forall_mem_cons.mpr ⟨⟨mo_if2 _ _ _, Or.inl (ok_icmp_le (off := 11) (by decide) (by decide +kernel))⟩,
  List.forall_mem_cons.mpr ⟨⟨mo_thr _, Or.inr (Or.inr (ok_thr (x := 2) (names := ["java/lang/RuntimeException", "java/lang/Exception"]) rfl rfl (by decide) (by decide +kernel) (by decide +kernel) (am_in3 140 rfl rfl) (am_in1 17 rfl rfl) (by decide +kernel) (by decide +kernel) (fun _ _ _ h => q_bad2_145 h) (fun _ _ _ h => q_U h) (fun _ _ _ h => q_N h) (by decide +kernel) (by decide +kernel) (by decide +kernel) (by decide +kernel)))⟩,
  List.forall_mem_cons.mpr ⟨⟨mo_al _ _, Or.inl (ok_aload_n (k := 0) rfl (by decide +kernel))⟩,
  List.forall_mem_cons.mpr ⟨⟨mo_dup _, Or.inl (ok_dup (by decide +kernel))⟩,
  List.forall_mem_cons.mpr ⟨⟨mo_gi _ _ _ _, Or.inl (ok_gi (C := RX10) (T := TX10) (N := 12) (ci := 10) (k := 10) rfl inX10 (by decide) fl_X10_125 (by decide +kernel) (by decide +kernel))⟩,
  List.forall_mem_cons.mpr ⟨⟨mo_il _ _, Or.inl (ok_iload_n (k := 1) rfl (by decide +kernel))⟩,
  List.forall_mem_cons.mpr ⟨⟨mo_bin _ _, Or.inl (ok_iadd (by decide +kernel))⟩,
  List.forall_mem_cons.mpr ⟨⟨mo_pi _ _ _ _, Or.inl (ok_pi (ty := .int) (C := RX10) (T := TX10) (N := 12) (ci := 10) (k := 10) rfl inX10 (by decide) fl_X10_125 (by decide +kernel) tyX10 tyX10_ok nmX10 (by decide +kernel) (by decide +kernel) (by decide +kernel))⟩,
  List.forall_mem_cons.mpr ⟨⟨mo_al _ _, Or.inl (ok_aload_n (k := 0) rfl (by decide +kernel))⟩,
  List.forall_mem_cons.mpr ⟨⟨mo_gi _ _ _ _, Or.inl (ok_gi (C := RX10) (T := TX10) (N := 12) (ci := 10) (k := 10) rfl inX10 (by decide) fl_X10_125 (by decide +kernel) (by decide +kernel))⟩,
  List.forall_mem_cons.mpr ⟨⟨mo_reti, Or.inr (Or.inr (ok_reti rfl (by decide +kernel)))⟩,
  fun _ h => absurd h List.not_mem_nil⟩⟩⟩⟩⟩⟩⟩⟩⟩⟩⟩⟩⟩⟩⟩⟩⟩⟩
def t_X10_evenings : List (Nat × am_F) := t_X10_evenings_0
theorem o_X10_evenings : ∀ q ∈ t_X10_evenings, am_ok vwCl q_SH ξ (q_E ξ β xs L) q_EN q_KD q_ML (cX10_evenings, 2, RX10, "evenings", (some .int), []) q.1 q.2 := o_X10_evenings_0
def t_X10_feed_0 : List (Nat × am_F) := [(0, im_al 0 1), (1, im_gi q_SH 10 9 4), (4, im_ic 20 6), (6, im_bin (fun x y => x + y) 7), (7, im_ic 500 10), (10, im_if2 ic_le 15 13), (13, im_ic (-1) 14), (14, im_reti), (15, im_al 0 16), (16, im_il 1 17), (17, im_inv q_SH 10 97 1 20), (20, im_al 0 21), (21, im_il 2 22), (22, im_inv q_SH 10 97 1 25), (25, im_al 0 26), (26, im_il 3 27), (27, im_inv q_SH 10 97 1 30), (30, im_al 0 31), (31, im_il 4 33), (33, im_inv q_SH 10 97 1 36)]
set_option maxRecDepth 20000 in
theorem o_X10_feed_0 : ∀ q ∈ t_X10_feed_0, am_ok vwCl q_SH ξ (q_E ξ β xs L) q_EN q_KD q_ML (cX10_feed, 6, RX10, "feed", (some .int), []) q.1 q.2 :=
  List.forall_mem_cons.mpr ⟨⟨mo_al _ _, Or.inl (ok_aload_n (k := 0) rfl (by decide +kernel))⟩,
  List.forall_mem_cons.mpr ⟨⟨mo_gi _ _ _ _, Or.inl (ok_gi (C := RX10) (T := TX10) (N := 12) (ci := 10) (k := 9) rfl inX10 (by decide) fl_X10_146 (by decide +kernel) (by decide +kernel))⟩,
  List.forall_mem_cons.mpr ⟨⟨mo_ic _ _, Or.inl (ok_bipush (n := 20) (v := 20) (by decide) (by decide +kernel))⟩,
  List.forall_mem_cons.mpr ⟨⟨mo_bin _ _, Or.inl (ok_iadd (by decide +kernel))⟩,
  List.forall_mem_cons.mpr ⟨⟨mo_ic _ _, Or.inl (ok_sipush (n := 500) (v := 500) (by decide) (by decide +kernel))⟩,
  List.forall_mem_cons.mpr ⟨⟨mo_if2 _ _ _, Or.inl (ok_icmp_le (off := 5) (by decide) (by decide +kernel))⟩,
  List.forall_mem_cons.mpr ⟨⟨mo_ic _ _, Or.inl (ok_iconst (n := (-1)) (v := (-1)) (by decide) (by decide +kernel))⟩,
  List.forall_mem_cons.mpr ⟨⟨mo_reti, Or.inr (Or.inr (ok_reti rfl (by decide +kernel)))⟩,
  List.forall_mem_cons.mpr ⟨⟨mo_al _ _, Or.inl (ok_aload_n (k := 0) rfl (by decide +kernel))⟩,
  List.forall_mem_cons.mpr ⟨⟨mo_il _ _, Or.inl (ok_iload_n (k := 1) rfl (by decide +kernel))⟩,
  List.forall_mem_cons.mpr ⟨⟨mo_inv _ _ _ _ _, Or.inr (Or.inl (ok_inv (T := TX10) (N := 12) rfl cw_X10_putBytes (by decide) (by decide) ml_X10_149 ci_X10_putBytes cv_X10_putBytes (show Cond.initialized (yX10_putBytes).cls ∈ am_ts from ci9_RX10) ⟨by decide +kernel, by decide +kernel, by decide +kernel⟩ rfl (by decide +kernel)))⟩,
  List.forall_mem_cons.mpr ⟨⟨mo_al _ _, Or.inl (ok_aload_n (k := 0) rfl (by decide +kernel))⟩,
  List.forall_mem_cons.mpr ⟨⟨mo_il _ _, Or.inl (ok_iload_n (k := 2) rfl (by decide +kernel))⟩,
  List.forall_mem_cons.mpr ⟨⟨mo_inv _ _ _ _ _, Or.inr (Or.inl (ok_inv (T := TX10) (N := 12) rfl cw_X10_putBytes (by decide) (by decide) ml_X10_149 ci_X10_putBytes cv_X10_putBytes (show Cond.initialized (yX10_putBytes).cls ∈ am_ts from ci9_RX10) ⟨by decide +kernel, by decide +kernel, by decide +kernel⟩ rfl (by decide +kernel)))⟩,
  List.forall_mem_cons.mpr ⟨⟨mo_al _ _, Or.inl (ok_aload_n (k := 0) rfl (by decide +kernel))⟩,
  List.forall_mem_cons.mpr ⟨⟨mo_il _ _, Or.inl (ok_iload_n (k := 3) rfl (by decide +kernel))⟩,
  List.forall_mem_cons.mpr ⟨⟨mo_inv _ _ _ _ _, Or.inr (Or.inl (ok_inv (T := TX10) (N := 12) rfl cw_X10_putBytes (by decide) (by decide) ml_X10_149 ci_X10_putBytes cv_X10_putBytes (show Cond.initialized (yX10_putBytes).cls ∈ am_ts from ci9_RX10) ⟨by decide +kernel, by decide +kernel, by decide +kernel⟩ rfl (by decide +kernel)))⟩,
  List.forall_mem_cons.mpr ⟨⟨mo_al _ _, Or.inl (ok_aload_n (k := 0) rfl (by decide +kernel))⟩,
  List.forall_mem_cons.mpr ⟨⟨mo_il _ _, Or.inl (ok_iload (by decide +kernel))⟩,
  List.forall_mem_cons.mpr ⟨⟨mo_inv _ _ _ _ _, Or.inr (Or.inl (ok_inv (T := TX10) (N := 12) rfl cw_X10_putBytes (by decide) (by decide) ml_X10_149 ci_X10_putBytes cv_X10_putBytes (show Cond.initialized (yX10_putBytes).cls ∈ am_ts from ci9_RX10) ⟨by decide +kernel, by decide +kernel, by decide +kernel⟩ rfl (by decide +kernel)))⟩,
  fun _ h => absurd h List.not_mem_nil⟩⟩⟩⟩⟩⟩⟩⟩⟩⟩⟩⟩⟩⟩⟩⟩⟩⟩⟩⟩
def t_X10_feed_1 : List (Nat × am_F) := [(36, im_al 0 37), (37, im_il 5 39), (39, im_inv q_SH 10 97 1 42), (42, im_al 0 43), (43, im_gi q_SH 10 9 46), (46, im_reti)]
set_option maxRecDepth 20000 in
theorem o_X10_feed_1 : ∀ q ∈ t_X10_feed_1, am_ok vwCl q_SH ξ (q_E ξ β xs L) q_EN q_KD q_ML (cX10_feed, 6, RX10, "feed", (some .int), []) q.1 q.2 :=
  List.forall_mem_cons.mpr ⟨⟨mo_al _ _, Or.inl (ok_aload_n (k := 0) rfl (by decide +kernel))⟩,
  List.forall_mem_cons.mpr ⟨⟨mo_il _ _, Or.inl (ok_iload (by decide +kernel))⟩,
  List.forall_mem_cons.mpr ⟨⟨mo_inv _ _ _ _ _, Or.inr (Or.inl (ok_inv (T := TX10) (N := 12) rfl cw_X10_putBytes (by decide) (by decide) ml_X10_149 ci_X10_putBytes cv_X10_putBytes (show Cond.initialized (yX10_putBytes).cls ∈ am_ts from ci9_RX10) ⟨by decide +kernel, by decide +kernel, by decide +kernel⟩ rfl (by decide +kernel)))⟩,
  List.forall_mem_cons.mpr ⟨⟨mo_al _ _, Or.inl (ok_aload_n (k := 0) rfl (by decide +kernel))⟩,
  List.forall_mem_cons.mpr ⟨⟨mo_gi _ _ _ _, Or.inl (ok_gi (C := RX10) (T := TX10) (N := 12) (ci := 10) (k := 9) rfl inX10 (by decide) fl_X10_146 (by decide +kernel) (by decide +kernel))⟩,
  List.forall_mem_cons.mpr ⟨⟨mo_reti, Or.inr (Or.inr (ok_reti rfl (by decide +kernel)))⟩,
  fun _ h => absurd h List.not_mem_nil⟩⟩⟩⟩⟩⟩
def t_X10_feed : List (Nat × am_F) := t_X10_feed_0 ++ (t_X10_feed_1)
theorem o_X10_feed : ∀ q ∈ t_X10_feed, am_ok vwCl q_SH ξ (q_E ξ β xs L) q_EN q_KD q_ML (cX10_feed, 6, RX10, "feed", (some .int), []) q.1 q.2 := List.forall_mem_append.mpr ⟨o_X10_feed_0, o_X10_feed_1⟩
def t_X10_act_0 : List (Nat × am_F) := [(0, im_il 1 1), (1, im_al 0 2), (2, im_gr q_SH 10 0 5), (5, im_gi q_SH 8 2 8), (8, im_invs 91 2 11), (11, im_il 2 12), (12, im_if1 ib_lt 23 15), (15, im_il 2 16), (16, im_al 0 17), (17, im_gi q_SH 10 9 20), (20, im_if2 ic_le 31 23), (23, im_thr 2), (31, im_al 0 32), (32, im_ic 0 33), (33, im_pi q_SH 10 9 36), (36, im_al 0 37), (37, im_gr q_SH 10 4 40), (40, im_ic (-1) 41), (41, im_pi q_SH 6 11 44), (44, im_al 0 45)]
set_option maxRecDepth 20000 in
theorem o_X10_act_0 : ∀ q ∈ t_X10_act_0, am_ok vwCl q_SH ξ (q_E ξ β xs L) q_EN q_KD q_ML (cX10_act, 7, RX10, "act", (some .int), []) q.1 q.2 :=
  List.forall_mem_cons.mpr ⟨⟨mo_il _ _, Or.inl (ok_iload_n (k := 1) rfl (by decide +kernel))⟩,
  List.forall_mem_cons.mpr ⟨⟨mo_al _ _, Or.inl (ok_aload_n (k := 0) rfl (by decide +kernel))⟩,
  List.forall_mem_cons.mpr ⟨⟨mo_gr _ _ _ _, Or.inl (ok_gr (C := RX10) (T := TX10) (N := 12) (ci := 10) (k := 0) rfl inX10 (by decide) fl_X10_10 (by decide +kernel) (by decide +kernel))⟩,
  List.forall_mem_cons.mpr ⟨⟨mo_gi _ _ _ _, Or.inl (ok_gi (C := RX8) (T := TX8) (N := 3) (ci := 8) (k := 2) rfl inX8 (by decide) fl_X10_76 (by decide +kernel) (by decide +kernel))⟩,
  List.forall_mem_cons.mpr ⟨⟨mo_invs _ _ _, Or.inr (Or.inl (ok_invs cw_X10_needNumber (by decide) (by decide) ml_X10_102 cs_X10_needNumber (show Cond.initialized (yX10_needNumber).cls ∈ am_ts from ci9_RX10) ⟨by decide +kernel, by decide +kernel, by decide +kernel⟩ rfl (by decide +kernel)))⟩,
  List.forall_mem_cons.mpr ⟨⟨mo_il _ _, Or.inl (ok_iload_n (k := 2) rfl (by decide +kernel))⟩,
  List.forall_mem_cons.mpr ⟨⟨mo_if1 _ _ _, Or.inl (ok_if_lt (off := 11) (by decide) (by decide +kernel))⟩,
  List.forall_mem_cons.mpr ⟨⟨mo_il _ _, Or.inl (ok_iload_n (k := 2) rfl (by decide +kernel))⟩,
  List.forall_mem_cons.mpr ⟨⟨mo_al _ _, Or.inl (ok_aload_n (k := 0) rfl (by decide +kernel))⟩,
  List.forall_mem_cons.mpr ⟨⟨mo_gi _ _ _ _, Or.inl (ok_gi (C := RX10) (T := TX10) (N := 12) (ci := 10) (k := 9) rfl inX10 (by decide) fl_X10_146 (by decide +kernel) (by decide +kernel))⟩,
  List.forall_mem_cons.mpr ⟨⟨mo_if2 _ _ _, Or.inl (ok_icmp_le (off := 11) (by decide) (by decide +kernel))⟩,
  List.forall_mem_cons.mpr ⟨⟨mo_thr _, Or.inr (Or.inr (ok_thr (x := 2) (names := ["java/lang/RuntimeException", "java/lang/Exception"]) rfl rfl (by decide) (by decide +kernel) (by decide +kernel) (am_in3 140 rfl rfl) (am_in1 17 rfl rfl) (by decide +kernel) (by decide +kernel) (fun _ _ _ h => q_bad2_145 h) (fun _ _ _ h => q_U h) (fun _ _ _ h => q_N h) (by decide +kernel) (by decide +kernel) (by decide +kernel) (by decide +kernel)))⟩,
  List.forall_mem_cons.mpr ⟨⟨mo_al _ _, Or.inl (ok_aload_n (k := 0) rfl (by decide +kernel))⟩,
  List.forall_mem_cons.mpr ⟨⟨mo_ic _ _, Or.inl (ok_iconst (n := 0) (v := 0) (by decide) (by decide +kernel))⟩,
  List.forall_mem_cons.mpr ⟨⟨mo_pi _ _ _ _, Or.inl (ok_pi (ty := .int) (C := RX10) (T := TX10) (N := 12) (ci := 10) (k := 9) rfl inX10 (by decide) fl_X10_146 (by decide +kernel) tyX10 tyX10_ok nmX10 (by decide +kernel) (by decide +kernel) (by decide +kernel))⟩,
  List.forall_mem_cons.mpr ⟨⟨mo_al _ _, Or.inl (ok_aload_n (k := 0) rfl (by decide +kernel))⟩,
  List.forall_mem_cons.mpr ⟨⟨mo_gr _ _ _ _, Or.inl (ok_gr (C := RX10) (T := TX10) (N := 12) (ci := 10) (k := 4) rfl inX10 (by decide) fl_X10_42 (by decide +kernel) (by decide +kernel))⟩,
  List.forall_mem_cons.mpr ⟨⟨mo_ic _ _, Or.inl (ok_iconst (n := (-1)) (v := (-1)) (by decide) (by decide +kernel))⟩,
  List.forall_mem_cons.mpr ⟨⟨mo_pi _ _ _ _, Or.inl (ok_pi (ty := .int) (C := RX6) (T := TX6) (N := 12) (ci := 6) (k := 11) rfl inX6 (by decide) fl_X10_153 (by decide +kernel) tyX6 tyX6_ok nmX6 (by decide +kernel) (by decide +kernel) (by decide +kernel))⟩,
  List.forall_mem_cons.mpr ⟨⟨mo_al _ _, Or.inl (ok_aload_n (k := 0) rfl (by decide +kernel))⟩,
  fun _ h => absurd h List.not_mem_nil⟩⟩⟩⟩⟩⟩⟩⟩⟩⟩⟩⟩⟩⟩⟩⟩⟩⟩⟩⟩
def t_X10_act_1 : List (Nat × am_F) := [(45, im_gr q_SH 10 3 48), (48, im_gi q_SH 0 15 51), (51, im_ic 12 53), (53, im_if2 ic_ge 71 56), (56, im_il 3 57), (57, im_invs 95 1 60), (60, im_if1 ib_eq 71 63), (63, im_il 4 65), (65, im_invs 95 1 68), (68, im_if1 ib_ne 74 71), (71, im_ic (-9) 73), (73, im_reti), (74, im_al 0 75), (75, im_gr q_SH 10 4 78), (78, im_al 0 79), (79, im_gr q_SH 10 7 82), (82, im_il 2 83), (83, im_il 1 84), (84, im_inv q_SH 6 27 3 87), (87, im_is 5 89)]
set_option maxRecDepth 20000 in
theorem o_X10_act_1 : ∀ q ∈ t_X10_act_1, am_ok vwCl q_SH ξ (q_E ξ β xs L) q_EN q_KD q_ML (cX10_act, 7, RX10, "act", (some .int), []) q.1 q.2 :=
  List.forall_mem_cons.mpr ⟨⟨mo_gr _ _ _ _, Or.inl (ok_gr (C := RX10) (T := TX10) (N := 12) (ci := 10) (k := 3) rfl inX10 (by decide) fl_X10_33 (by decide +kernel) (by decide +kernel))⟩,
  List.forall_mem_cons.mpr ⟨⟨mo_gi _ _ _ _, Or.inl (ok_gi (C := RX0) (T := TX0) (N := 16) (ci := 0) (k := 15) rfl inX0 (by decide) fl_X10_141 (by decide +kernel) (by decide +kernel))⟩,
  List.forall_mem_cons.mpr ⟨⟨mo_ic _ _, Or.inl (ok_bipush (n := 12) (v := 12) (by decide) (by decide +kernel))⟩,
  List.forall_mem_cons.mpr ⟨⟨mo_if2 _ _ _, Or.inl (ok_icmp_ge (off := 18) (by decide) (by decide +kernel))⟩,
  List.forall_mem_cons.mpr ⟨⟨mo_il _ _, Or.inl (ok_iload_n (k := 3) rfl (by decide +kernel))⟩,
  List.forall_mem_cons.mpr ⟨⟨mo_invs _ _ _, Or.inr (Or.inl (ok_invs cw_X10_isDay (by decide) (by decide) ml_X10_107 cs_X10_isDay (show Cond.initialized (yX10_isDay).cls ∈ am_ts from ci9_RX10) ⟨by decide +kernel, by decide +kernel, by decide +kernel⟩ rfl (by decide +kernel)))⟩,
  List.forall_mem_cons.mpr ⟨⟨mo_if1 _ _ _, Or.inl (ok_if_eq (off := 11) (by decide) (by decide +kernel))⟩,
  List.forall_mem_cons.mpr ⟨⟨mo_il _ _, Or.inl (ok_iload (by decide +kernel))⟩,
  List.forall_mem_cons.mpr ⟨⟨mo_invs _ _ _, Or.inr (Or.inl (ok_invs cw_X10_isDay (by decide) (by decide) ml_X10_107 cs_X10_isDay (show Cond.initialized (yX10_isDay).cls ∈ am_ts from ci9_RX10) ⟨by decide +kernel, by decide +kernel, by decide +kernel⟩ rfl (by decide +kernel)))⟩,
  List.forall_mem_cons.mpr ⟨⟨mo_if1 _ _ _, Or.inl (ok_if_ne (off := 6) (by decide) (by decide +kernel))⟩,
  List.forall_mem_cons.mpr ⟨⟨mo_ic _ _, Or.inl (ok_bipush (n := (-9)) (v := (-9)) (by decide) (by decide +kernel))⟩,
  List.forall_mem_cons.mpr ⟨⟨mo_reti, Or.inr (Or.inr (ok_reti rfl (by decide +kernel)))⟩,
  List.forall_mem_cons.mpr ⟨⟨mo_al _ _, Or.inl (ok_aload_n (k := 0) rfl (by decide +kernel))⟩,
  List.forall_mem_cons.mpr ⟨⟨mo_gr _ _ _ _, Or.inl (ok_gr (C := RX10) (T := TX10) (N := 12) (ci := 10) (k := 4) rfl inX10 (by decide) fl_X10_42 (by decide +kernel) (by decide +kernel))⟩,
  List.forall_mem_cons.mpr ⟨⟨mo_al _ _, Or.inl (ok_aload_n (k := 0) rfl (by decide +kernel))⟩,
  List.forall_mem_cons.mpr ⟨⟨mo_gr _ _ _ _, Or.inl (ok_gr (C := RX10) (T := TX10) (N := 12) (ci := 10) (k := 7) rfl inX10 (by decide) fl_X10_64 (by decide +kernel) (by decide +kernel))⟩,
  List.forall_mem_cons.mpr ⟨⟨mo_il _ _, Or.inl (ok_iload_n (k := 2) rfl (by decide +kernel))⟩,
  List.forall_mem_cons.mpr ⟨⟨mo_il _ _, Or.inl (ok_iload_n (k := 1) rfl (by decide +kernel))⟩,
  List.forall_mem_cons.mpr ⟨⟨mo_inv _ _ _ _ _, Or.inr (Or.inl (ok_inv (T := TX6) (N := 12) rfl cw_X6_read (by decide) (by decide) ml_X10_156 ci_X6_read cv_X6_read (show Cond.initialized (yX6_read).cls ∈ am_ts from ci9_RX6) ⟨by decide +kernel, by decide +kernel, by decide +kernel⟩ rfl (by decide +kernel)))⟩,
  List.forall_mem_cons.mpr ⟨⟨mo_is _ _, Or.inl (ok_istore (by decide) (by decide +kernel))⟩,
  fun _ h => absurd h List.not_mem_nil⟩⟩⟩⟩⟩⟩⟩⟩⟩⟩⟩⟩⟩⟩⟩⟩⟩⟩⟩⟩
def t_X10_act_2 : List (Nat × am_F) := [(89, im_il 5 91), (91, im_if1 ib_eq 99 94), (94, im_ic (-1) 95), (95, im_il 5 97), (97, im_bin (fun x y => x - y) 98), (98, im_reti), (99, im_al 0 100), (100, im_inv q_SH 10 98 0 103), (103, im_al 0 104), (104, im_gr q_SH 10 3 107), (107, im_gi q_SH 0 15 110), (110, im_is 6 112), (112, im_al 0 113), (113, im_gr q_SH 10 3 116), (116, im_gr q_SH 0 1 119), (119, im_il 6 121), (121, im_il 3 122), (122, im_ast q_SH .int (fun x => x) 123), (123, im_al 0 124), (124, im_gr q_SH 10 3 127)]
set_option maxRecDepth 20000 in
theorem o_X10_act_2 : ∀ q ∈ t_X10_act_2, am_ok vwCl q_SH ξ (q_E ξ β xs L) q_EN q_KD q_ML (cX10_act, 7, RX10, "act", (some .int), []) q.1 q.2 :=
  List.forall_mem_cons.mpr ⟨⟨mo_il _ _, Or.inl (ok_iload (by decide +kernel))⟩,
  List.forall_mem_cons.mpr ⟨⟨mo_if1 _ _ _, Or.inl (ok_if_eq (off := 8) (by decide) (by decide +kernel))⟩,
  List.forall_mem_cons.mpr ⟨⟨mo_ic _ _, Or.inl (ok_iconst (n := (-1)) (v := (-1)) (by decide) (by decide +kernel))⟩,
  List.forall_mem_cons.mpr ⟨⟨mo_il _ _, Or.inl (ok_iload (by decide +kernel))⟩,
  List.forall_mem_cons.mpr ⟨⟨mo_bin _ _, Or.inl (ok_isub (by decide +kernel))⟩,
  List.forall_mem_cons.mpr ⟨⟨mo_reti, Or.inr (Or.inr (ok_reti rfl (by decide +kernel)))⟩,
  List.forall_mem_cons.mpr ⟨⟨mo_al _ _, Or.inl (ok_aload_n (k := 0) rfl (by decide +kernel))⟩,
  List.forall_mem_cons.mpr ⟨⟨mo_inv _ _ _ _ _, Or.inr (Or.inl (ok_inv (T := TX10) (N := 12) rfl cw_X10_forget (by decide) (by decide) ml_X10_79 ci_X10_forget cv_X10_forget (show Cond.initialized (yX10_forget).cls ∈ am_ts from ci9_RX10) ⟨by decide +kernel, by decide +kernel, by decide +kernel⟩ rfl (by decide +kernel)))⟩,
  List.forall_mem_cons.mpr ⟨⟨mo_al _ _, Or.inl (ok_aload_n (k := 0) rfl (by decide +kernel))⟩,
  List.forall_mem_cons.mpr ⟨⟨mo_gr _ _ _ _, Or.inl (ok_gr (C := RX10) (T := TX10) (N := 12) (ci := 10) (k := 3) rfl inX10 (by decide) fl_X10_33 (by decide +kernel) (by decide +kernel))⟩,
  List.forall_mem_cons.mpr ⟨⟨mo_gi _ _ _ _, Or.inl (ok_gi (C := RX0) (T := TX0) (N := 16) (ci := 0) (k := 15) rfl inX0 (by decide) fl_X10_141 (by decide +kernel) (by decide +kernel))⟩,
  List.forall_mem_cons.mpr ⟨⟨mo_is _ _, Or.inl (ok_istore (by decide) (by decide +kernel))⟩,
  List.forall_mem_cons.mpr ⟨⟨mo_al _ _, Or.inl (ok_aload_n (k := 0) rfl (by decide +kernel))⟩,
  List.forall_mem_cons.mpr ⟨⟨mo_gr _ _ _ _, Or.inl (ok_gr (C := RX10) (T := TX10) (N := 12) (ci := 10) (k := 3) rfl inX10 (by decide) fl_X10_33 (by decide +kernel) (by decide +kernel))⟩,
  List.forall_mem_cons.mpr ⟨⟨mo_gr _ _ _ _, Or.inl (ok_gr (C := RX0) (T := TX0) (N := 16) (ci := 0) (k := 1) rfl inX0 (by decide) fl_X10_160 (by decide +kernel) (by decide +kernel))⟩,
  List.forall_mem_cons.mpr ⟨⟨mo_il _ _, Or.inl (ok_iload (by decide +kernel))⟩,
  List.forall_mem_cons.mpr ⟨⟨mo_il _ _, Or.inl (ok_iload_n (k := 3) rfl (by decide +kernel))⟩,
  List.forall_mem_cons.mpr ⟨⟨mo_ast _ _ _ _, Or.inl (ok_iast (by decide +kernel))⟩,
  List.forall_mem_cons.mpr ⟨⟨mo_al _ _, Or.inl (ok_aload_n (k := 0) rfl (by decide +kernel))⟩,
  List.forall_mem_cons.mpr ⟨⟨mo_gr _ _ _ _, Or.inl (ok_gr (C := RX10) (T := TX10) (N := 12) (ci := 10) (k := 3) rfl inX10 (by decide) fl_X10_33 (by decide +kernel) (by decide +kernel))⟩,
  fun _ h => absurd h List.not_mem_nil⟩⟩⟩⟩⟩⟩⟩⟩⟩⟩⟩⟩⟩⟩⟩⟩⟩⟩⟩⟩
def t_X10_act_3 : List (Nat × am_F) := [(127, im_gr q_SH 0 2 130), (130, im_il 6 132), (132, im_il 4 134), (134, im_ast q_SH .int (fun x => x) 135), (135, im_al 0 136), (136, im_gr q_SH 10 3 139), (139, im_gr q_SH 0 3 142), (142, im_il 6 144), (144, im_al 0 145), (145, im_gi q_SH 10 10 148), (148, im_ast q_SH .int (fun x => x) 149), (149, im_al 0 150), (150, im_gr q_SH 10 3 153), (153, im_gr q_SH 0 4 156), (156, im_il 6 158), (158, im_ic (-1) 159), (159, im_ast q_SH .int (fun x => x) 160), (160, im_al 0 161), (161, im_gr q_SH 10 3 164), (164, im_dup 165)]
set_option maxRecDepth 20000 in
theorem o_X10_act_3 : ∀ q ∈ t_X10_act_3, am_ok vwCl q_SH ξ (q_E ξ β xs L) q_EN q_KD q_ML (cX10_act, 7, RX10, "act", (some .int), []) q.1 q.2 :=
  List.forall_mem_cons.mpr ⟨⟨mo_gr _ _ _ _, Or.inl (ok_gr (C := RX0) (T := TX0) (N := 16) (ci := 0) (k := 2) rfl inX0 (by decide) fl_X10_163 (by decide +kernel) (by decide +kernel))⟩,
  List.forall_mem_cons.mpr ⟨⟨mo_il _ _, Or.inl (ok_iload (by decide +kernel))⟩,
  List.forall_mem_cons.mpr ⟨⟨mo_il _ _, Or.inl (ok_iload (by decide +kernel))⟩,
  List.forall_mem_cons.mpr ⟨⟨mo_ast _ _ _ _, Or.inl (ok_iast (by decide +kernel))⟩,
  List.forall_mem_cons.mpr ⟨⟨mo_al _ _, Or.inl (ok_aload_n (k := 0) rfl (by decide +kernel))⟩,
  List.forall_mem_cons.mpr ⟨⟨mo_gr _ _ _ _, Or.inl (ok_gr (C := RX10) (T := TX10) (N := 12) (ci := 10) (k := 3) rfl inX10 (by decide) fl_X10_33 (by decide +kernel) (by decide +kernel))⟩,
  List.forall_mem_cons.mpr ⟨⟨mo_gr _ _ _ _, Or.inl (ok_gr (C := RX0) (T := TX0) (N := 16) (ci := 0) (k := 3) rfl inX0 (by decide) fl_X10_166 (by decide +kernel) (by decide +kernel))⟩,
  List.forall_mem_cons.mpr ⟨⟨mo_il _ _, Or.inl (ok_iload (by decide +kernel))⟩,
  List.forall_mem_cons.mpr ⟨⟨mo_al _ _, Or.inl (ok_aload_n (k := 0) rfl (by decide +kernel))⟩,
  List.forall_mem_cons.mpr ⟨⟨mo_gi _ _ _ _, Or.inl (ok_gi (C := RX10) (T := TX10) (N := 12) (ci := 10) (k := 10) rfl inX10 (by decide) fl_X10_125 (by decide +kernel) (by decide +kernel))⟩,
  List.forall_mem_cons.mpr ⟨⟨mo_ast _ _ _ _, Or.inl (ok_iast (by decide +kernel))⟩,
  List.forall_mem_cons.mpr ⟨⟨mo_al _ _, Or.inl (ok_aload_n (k := 0) rfl (by decide +kernel))⟩,
  List.forall_mem_cons.mpr ⟨⟨mo_gr _ _ _ _, Or.inl (ok_gr (C := RX10) (T := TX10) (N := 12) (ci := 10) (k := 3) rfl inX10 (by decide) fl_X10_33 (by decide +kernel) (by decide +kernel))⟩,
  List.forall_mem_cons.mpr ⟨⟨mo_gr _ _ _ _, Or.inl (ok_gr (C := RX0) (T := TX0) (N := 16) (ci := 0) (k := 4) rfl inX0 (by decide) fl_X10_142 (by decide +kernel) (by decide +kernel))⟩,
  List.forall_mem_cons.mpr ⟨⟨mo_il _ _, Or.inl (ok_iload (by decide +kernel))⟩,
  List.forall_mem_cons.mpr ⟨⟨mo_ic _ _, Or.inl (ok_iconst (n := (-1)) (v := (-1)) (by decide) (by decide +kernel))⟩,
  List.forall_mem_cons.mpr ⟨⟨mo_ast _ _ _ _, Or.inl (ok_iast (by decide +kernel))⟩,
  List.forall_mem_cons.mpr ⟨⟨mo_al _ _, Or.inl (ok_aload_n (k := 0) rfl (by decide +kernel))⟩,
  List.forall_mem_cons.mpr ⟨⟨mo_gr _ _ _ _, Or.inl (ok_gr (C := RX10) (T := TX10) (N := 12) (ci := 10) (k := 3) rfl inX10 (by decide) fl_X10_33 (by decide +kernel) (by decide +kernel))⟩,
  List.forall_mem_cons.mpr ⟨⟨mo_dup _, Or.inl (ok_dup (by decide +kernel))⟩,
  fun _ h => absurd h List.not_mem_nil⟩⟩⟩⟩⟩⟩⟩⟩⟩⟩⟩⟩⟩⟩⟩⟩⟩⟩⟩⟩
def t_X10_act_4 : List (Nat × am_F) := [(165, im_gi q_SH 0 15 168), (168, im_ic 1 169), (169, im_bin (fun x y => x + y) 170), (170, im_pi q_SH 0 15 173), (173, im_il 6 175), (175, im_reti)]
set_option maxRecDepth 20000 in
theorem o_X10_act_4 : ∀ q ∈ t_X10_act_4, am_ok vwCl q_SH ξ (q_E ξ β xs L) q_EN q_KD q_ML (cX10_act, 7, RX10, "act", (some .int), []) q.1 q.2 :=
  List.forall_mem_cons.mpr ⟨⟨mo_gi _ _ _ _, Or.inl (ok_gi (C := RX0) (T := TX0) (N := 16) (ci := 0) (k := 15) rfl inX0 (by decide) fl_X10_141 (by decide +kernel) (by decide +kernel))⟩,
  List.forall_mem_cons.mpr ⟨⟨mo_ic _ _, Or.inl (ok_iconst (n := 1) (v := 1) (by decide) (by decide +kernel))⟩,
  List.forall_mem_cons.mpr ⟨⟨mo_bin _ _, Or.inl (ok_iadd (by decide +kernel))⟩,
  List.forall_mem_cons.mpr ⟨⟨mo_pi _ _ _ _, Or.inl (ok_pi (ty := .int) (C := RX0) (T := TX0) (N := 16) (ci := 0) (k := 15) rfl inX0 (by decide) fl_X10_141 (by decide +kernel) tyX0 tyX0_ok nmX0 (by decide +kernel) (by decide +kernel) (by decide +kernel))⟩,
  List.forall_mem_cons.mpr ⟨⟨mo_il _ _, Or.inl (ok_iload (by decide +kernel))⟩,
  List.forall_mem_cons.mpr ⟨⟨mo_reti, Or.inr (Or.inr (ok_reti rfl (by decide +kernel)))⟩,
  fun _ h => absurd h List.not_mem_nil⟩⟩⟩⟩⟩⟩
def t_X10_act : List (Nat × am_F) := t_X10_act_0 ++ (t_X10_act_1 ++ (t_X10_act_2 ++ (t_X10_act_3 ++ (t_X10_act_4))))
theorem o_X10_act : ∀ q ∈ t_X10_act, am_ok vwCl q_SH ξ (q_E ξ β xs L) q_EN q_KD q_ML (cX10_act, 7, RX10, "act", (some .int), []) q.1 q.2 := List.forall_mem_append.mpr ⟨o_X10_act_0, List.forall_mem_append.mpr ⟨o_X10_act_1, List.forall_mem_append.mpr ⟨o_X10_act_2, List.forall_mem_append.mpr ⟨o_X10_act_3, o_X10_act_4⟩⟩⟩⟩
def t_X10_fault_0 : List (Nat × am_F) := [(0, im_al 0 1), (1, im_gr q_SH 10 4 4), (4, im_gi q_SH 6 11 7), (7, im_reti)]
set_option maxRecDepth 20000 in
theorem o_X10_fault_0 : ∀ q ∈ t_X10_fault_0, am_ok vwCl q_SH ξ (q_E ξ β xs L) q_EN q_KD q_ML (cX10_fault, 1, RX10, "fault", (some .int), []) q.1 q.2 :=
  List.forall_mem_cons.mpr ⟨⟨mo_al _ _, Or.inl (ok_aload_n (k := 0) rfl (by decide +kernel))⟩,
  List.forall_mem_cons.mpr ⟨⟨mo_gr _ _ _ _, Or.inl (ok_gr (C := RX10) (T := TX10) (N := 12) (ci := 10) (k := 4) rfl inX10 (by decide) fl_X10_42 (by decide +kernel) (by decide +kernel))⟩,
  List.forall_mem_cons.mpr ⟨⟨mo_gi _ _ _ _, Or.inl (ok_gi (C := RX6) (T := TX6) (N := 12) (ci := 6) (k := 11) rfl inX6 (by decide) fl_X10_153 (by decide +kernel) (by decide +kernel))⟩,
  List.forall_mem_cons.mpr ⟨⟨mo_reti, Or.inr (Or.inr (ok_reti rfl (by decide +kernel)))⟩,
  fun _ h => absurd h List.not_mem_nil⟩⟩⟩⟩
def t_X10_fault : List (Nat × am_F) := t_X10_fault_0
theorem o_X10_fault : ∀ q ∈ t_X10_fault, am_ok vwCl q_SH ξ (q_E ξ β xs L) q_EN q_KD q_ML (cX10_fault, 1, RX10, "fault", (some .int), []) q.1 q.2 := o_X10_fault_0
def t_X10_force_0 : List (Nat × am_F) := [(0, im_il 1 1), (1, im_al 0 2), (2, im_gr q_SH 10 3 5), (5, im_gi q_SH 0 15 8), (8, im_invs 91 2 11), (11, im_il 2 12), (12, im_invs 92 1 15), (15, im_al 0 16), (16, im_il 3 17), (17, im_inv q_SH 10 93 1 20), (20, im_al 0 21), (21, im_gr q_SH 10 3 24), (24, im_al 0 25), (25, im_gr q_SH 10 3 28), (28, im_il 3 29), (29, im_inv q_SH 0 1 1 32), (32, im_il 2 33), (33, im_inv q_SH 0 2 2 36), (36, im_il 1 37), (37, im_bin (fun x y => x >>> (y &&& 31)) 38)]
set_option maxRecDepth 20000 in
theorem o_X10_force_0 : ∀ q ∈ t_X10_force_0, am_ok vwCl q_SH ξ (q_E ξ β xs L) q_EN q_KD q_ML (cX10_force, 4, RX10, "force", (some .boolean), []) q.1 q.2 :=
  List.forall_mem_cons.mpr ⟨⟨mo_il _ _, Or.inl (ok_iload_n (k := 1) rfl (by decide +kernel))⟩,
  List.forall_mem_cons.mpr ⟨⟨mo_al _ _, Or.inl (ok_aload_n (k := 0) rfl (by decide +kernel))⟩,
  List.forall_mem_cons.mpr ⟨⟨mo_gr _ _ _ _, Or.inl (ok_gr (C := RX10) (T := TX10) (N := 12) (ci := 10) (k := 3) rfl inX10 (by decide) fl_X10_33 (by decide +kernel) (by decide +kernel))⟩,
  List.forall_mem_cons.mpr ⟨⟨mo_gi _ _ _ _, Or.inl (ok_gi (C := RX0) (T := TX0) (N := 16) (ci := 0) (k := 15) rfl inX0 (by decide) fl_X10_141 (by decide +kernel) (by decide +kernel))⟩,
  List.forall_mem_cons.mpr ⟨⟨mo_invs _ _ _, Or.inr (Or.inl (ok_invs cw_X10_needNumber (by decide) (by decide) ml_X10_102 cs_X10_needNumber (show Cond.initialized (yX10_needNumber).cls ∈ am_ts from ci9_RX10) ⟨by decide +kernel, by decide +kernel, by decide +kernel⟩ rfl (by decide +kernel)))⟩,
  List.forall_mem_cons.mpr ⟨⟨mo_il _ _, Or.inl (ok_iload_n (k := 2) rfl (by decide +kernel))⟩,
  List.forall_mem_cons.mpr ⟨⟨mo_invs _ _ _, Or.inr (Or.inl (ok_invs cw_X10_needDay (by decide) (by decide) ml_X10_167 cs_X10_needDay (show Cond.initialized (yX10_needDay).cls ∈ am_ts from ci9_RX10) ⟨by decide +kernel, by decide +kernel, by decide +kernel⟩ rfl (by decide +kernel)))⟩,
  List.forall_mem_cons.mpr ⟨⟨mo_al _ _, Or.inl (ok_aload_n (k := 0) rfl (by decide +kernel))⟩,
  List.forall_mem_cons.mpr ⟨⟨mo_il _ _, Or.inl (ok_iload_n (k := 3) rfl (by decide +kernel))⟩,
  List.forall_mem_cons.mpr ⟨⟨mo_inv _ _ _ _ _, Or.inr (Or.inl (ok_inv (T := TX10) (N := 12) rfl cw_X10_needEvening (by decide) (by decide) ml_X10_170 ci_X10_needEvening cv_X10_needEvening (show Cond.initialized (yX10_needEvening).cls ∈ am_ts from ci9_RX10) ⟨by decide +kernel, by decide +kernel, by decide +kernel⟩ rfl (by decide +kernel)))⟩,
  List.forall_mem_cons.mpr ⟨⟨mo_al _ _, Or.inl (ok_aload_n (k := 0) rfl (by decide +kernel))⟩,
  List.forall_mem_cons.mpr ⟨⟨mo_gr _ _ _ _, Or.inl (ok_gr (C := RX10) (T := TX10) (N := 12) (ci := 10) (k := 3) rfl inX10 (by decide) fl_X10_33 (by decide +kernel) (by decide +kernel))⟩,
  List.forall_mem_cons.mpr ⟨⟨mo_al _ _, Or.inl (ok_aload_n (k := 0) rfl (by decide +kernel))⟩,
  List.forall_mem_cons.mpr ⟨⟨mo_gr _ _ _ _, Or.inl (ok_gr (C := RX10) (T := TX10) (N := 12) (ci := 10) (k := 3) rfl inX10 (by decide) fl_X10_33 (by decide +kernel) (by decide +kernel))⟩,
  List.forall_mem_cons.mpr ⟨⟨mo_il _ _, Or.inl (ok_iload_n (k := 3) rfl (by decide +kernel))⟩,
  List.forall_mem_cons.mpr ⟨⟨mo_inv _ _ _ _ _, Or.inr (Or.inl (ok_inv (T := TX0) (N := 16) rfl cw_X0_known (by decide) (by decide) ml_X10_173 ci_X0_known cv_X0_known (show Cond.initialized (yX0_known).cls ∈ am_ts from ci9_RX0) ⟨by decide +kernel, by decide +kernel, by decide +kernel⟩ rfl (by decide +kernel)))⟩,
  List.forall_mem_cons.mpr ⟨⟨mo_il _ _, Or.inl (ok_iload_n (k := 2) rfl (by decide +kernel))⟩,
  List.forall_mem_cons.mpr ⟨⟨mo_inv _ _ _ _ _, Or.inr (Or.inl (ok_inv (T := TX0) (N := 16) rfl cw_X0_inForce (by decide) (by decide) ml_X10_177 ci_X0_inForce cv_X0_inForce (show Cond.initialized (yX0_inForce).cls ∈ am_ts from ci9_RX0) ⟨by decide +kernel, by decide +kernel, by decide +kernel⟩ rfl (by decide +kernel)))⟩,
  List.forall_mem_cons.mpr ⟨⟨mo_il _ _, Or.inl (ok_iload_n (k := 1) rfl (by decide +kernel))⟩,
  List.forall_mem_cons.mpr ⟨⟨mo_bin _ _, Or.inl (ok_ishr (by decide +kernel))⟩,
  fun _ h => absurd h List.not_mem_nil⟩⟩⟩⟩⟩⟩⟩⟩⟩⟩⟩⟩⟩⟩⟩⟩⟩⟩⟩⟩
def t_X10_force_1 : List (Nat × am_F) := [(38, im_ic 1 39), (39, im_bin (fun x y => x &&& y) 40), (40, im_ic 1 41), (41, im_if2 ic_ne 48 44), (44, im_ic 1 45), (45, im_go 49), (48, im_ic 0 49), (49, im_retz)]
set_option maxRecDepth 20000 in
theorem o_X10_force_1 : ∀ q ∈ t_X10_force_1, am_ok vwCl q_SH ξ (q_E ξ β xs L) q_EN q_KD q_ML (cX10_force, 4, RX10, "force", (some .boolean), []) q.1 q.2 :=
  List.forall_mem_cons.mpr ⟨⟨mo_ic _ _, Or.inl (ok_iconst (n := 1) (v := 1) (by decide) (by decide +kernel))⟩,
  List.forall_mem_cons.mpr ⟨⟨mo_bin _ _, Or.inl (ok_iand (by decide +kernel))⟩,
  List.forall_mem_cons.mpr ⟨⟨mo_ic _ _, Or.inl (ok_iconst (n := 1) (v := 1) (by decide) (by decide +kernel))⟩,
  List.forall_mem_cons.mpr ⟨⟨mo_if2 _ _ _, Or.inl (ok_icmp_ne (off := 7) (by decide) (by decide +kernel))⟩,
  List.forall_mem_cons.mpr ⟨⟨mo_ic _ _, Or.inl (ok_iconst (n := 1) (v := 1) (by decide) (by decide +kernel))⟩,
  List.forall_mem_cons.mpr ⟨⟨mo_go _, Or.inl (ok_goto (off := 4) (by decide) (by decide +kernel))⟩,
  List.forall_mem_cons.mpr ⟨⟨mo_ic _ _, Or.inl (ok_iconst (n := 0) (v := 0) (by decide) (by decide +kernel))⟩,
  List.forall_mem_cons.mpr ⟨⟨mo_retz, Or.inr (Or.inr (ok_retz rfl (by decide +kernel)))⟩,
  fun _ h => absurd h List.not_mem_nil⟩⟩⟩⟩⟩⟩⟩⟩
def t_X10_force : List (Nat × am_F) := t_X10_force_0 ++ (t_X10_force_1)
theorem o_X10_force : ∀ q ∈ t_X10_force, am_ok vwCl q_SH ξ (q_E ξ β xs L) q_EN q_KD q_ML (cX10_force, 4, RX10, "force", (some .boolean), []) q.1 q.2 := List.forall_mem_append.mpr ⟨o_X10_force_0, o_X10_force_1⟩
def t_X10_landOf_0 : List (Nat × am_F) := [(0, im_il 1 1), (1, im_al 0 2), (2, im_gr q_SH 10 0 5), (5, im_gi q_SH 8 1 8), (8, im_invs 91 2 11), (11, im_il 2 12), (12, im_invs 92 1 15), (15, im_al 0 16), (16, im_il 3 17), (17, im_inv q_SH 10 93 1 20), (20, im_al 0 21), (21, im_gr q_SH 10 0 24), (24, im_gr q_SH 8 0 27), (27, im_il 1 28), (28, im_ald q_SH .int 29), (29, im_is 4 31), (31, im_ic (-1) 32), (32, im_is 5 34), (34, im_ic 0 35), (35, im_is 6 37)]
set_option maxRecDepth 20000 in
theorem o_X10_landOf_0 : ∀ q ∈ t_X10_landOf_0, am_ok vwCl q_SH ξ (q_E ξ β xs L) q_EN q_KD q_ML (cX10_landOf, 8, RX10, "landOf", (some .int), []) q.1 q.2 :=
  List.forall_mem_cons.mpr ⟨⟨mo_il _ _, Or.inl (ok_iload_n (k := 1) rfl (by decide +kernel))⟩,
  List.forall_mem_cons.mpr ⟨⟨mo_al _ _, Or.inl (ok_aload_n (k := 0) rfl (by decide +kernel))⟩,
  List.forall_mem_cons.mpr ⟨⟨mo_gr _ _ _ _, Or.inl (ok_gr (C := RX10) (T := TX10) (N := 12) (ci := 10) (k := 0) rfl inX10 (by decide) fl_X10_10 (by decide +kernel) (by decide +kernel))⟩,
  List.forall_mem_cons.mpr ⟨⟨mo_gi _ _ _ _, Or.inl (ok_gi (C := RX8) (T := TX8) (N := 3) (ci := 8) (k := 1) rfl inX8 (by decide) fl_X10_82 (by decide +kernel) (by decide +kernel))⟩,
  List.forall_mem_cons.mpr ⟨⟨mo_invs _ _ _, Or.inr (Or.inl (ok_invs cw_X10_needNumber (by decide) (by decide) ml_X10_102 cs_X10_needNumber (show Cond.initialized (yX10_needNumber).cls ∈ am_ts from ci9_RX10) ⟨by decide +kernel, by decide +kernel, by decide +kernel⟩ rfl (by decide +kernel)))⟩,
  List.forall_mem_cons.mpr ⟨⟨mo_il _ _, Or.inl (ok_iload_n (k := 2) rfl (by decide +kernel))⟩,
  List.forall_mem_cons.mpr ⟨⟨mo_invs _ _ _, Or.inr (Or.inl (ok_invs cw_X10_needDay (by decide) (by decide) ml_X10_167 cs_X10_needDay (show Cond.initialized (yX10_needDay).cls ∈ am_ts from ci9_RX10) ⟨by decide +kernel, by decide +kernel, by decide +kernel⟩ rfl (by decide +kernel)))⟩,
  List.forall_mem_cons.mpr ⟨⟨mo_al _ _, Or.inl (ok_aload_n (k := 0) rfl (by decide +kernel))⟩,
  List.forall_mem_cons.mpr ⟨⟨mo_il _ _, Or.inl (ok_iload_n (k := 3) rfl (by decide +kernel))⟩,
  List.forall_mem_cons.mpr ⟨⟨mo_inv _ _ _ _ _, Or.inr (Or.inl (ok_inv (T := TX10) (N := 12) rfl cw_X10_needEvening (by decide) (by decide) ml_X10_170 ci_X10_needEvening cv_X10_needEvening (show Cond.initialized (yX10_needEvening).cls ∈ am_ts from ci9_RX10) ⟨by decide +kernel, by decide +kernel, by decide +kernel⟩ rfl (by decide +kernel)))⟩,
  List.forall_mem_cons.mpr ⟨⟨mo_al _ _, Or.inl (ok_aload_n (k := 0) rfl (by decide +kernel))⟩,
  List.forall_mem_cons.mpr ⟨⟨mo_gr _ _ _ _, Or.inl (ok_gr (C := RX10) (T := TX10) (N := 12) (ci := 10) (k := 0) rfl inX10 (by decide) fl_X10_10 (by decide +kernel) (by decide +kernel))⟩,
  List.forall_mem_cons.mpr ⟨⟨mo_gr _ _ _ _, Or.inl (ok_gr (C := RX8) (T := TX8) (N := 3) (ci := 8) (k := 0) rfl inX8 (by decide) fl_X10_85 (by decide +kernel) (by decide +kernel))⟩,
  List.forall_mem_cons.mpr ⟨⟨mo_il _ _, Or.inl (ok_iload_n (k := 1) rfl (by decide +kernel))⟩,
  List.forall_mem_cons.mpr ⟨⟨mo_ald _ _ _, Or.inl (ok_iald (by decide +kernel))⟩,
  List.forall_mem_cons.mpr ⟨⟨mo_is _ _, Or.inl (ok_istore (by decide) (by decide +kernel))⟩,
  List.forall_mem_cons.mpr ⟨⟨mo_ic _ _, Or.inl (ok_iconst (n := (-1)) (v := (-1)) (by decide) (by decide +kernel))⟩,
  List.forall_mem_cons.mpr ⟨⟨mo_is _ _, Or.inl (ok_istore (by decide) (by decide +kernel))⟩,
  List.forall_mem_cons.mpr ⟨⟨mo_ic _ _, Or.inl (ok_iconst (n := 0) (v := 0) (by decide) (by decide +kernel))⟩,
  List.forall_mem_cons.mpr ⟨⟨mo_is _ _, Or.inl (ok_istore (by decide) (by decide +kernel))⟩,
  fun _ h => absurd h List.not_mem_nil⟩⟩⟩⟩⟩⟩⟩⟩⟩⟩⟩⟩⟩⟩⟩⟩⟩⟩⟩⟩
def t_X10_landOf_1 : List (Nat × am_F) := [(37, im_il 6 39), (39, im_al 0 40), (40, im_gr q_SH 10 2 43), (43, im_gi q_SH 3 8 46), (46, im_if2 ic_ge 139 49), (49, im_al 0 50), (50, im_gr q_SH 10 2 53), (53, im_gr q_SH 3 6 56), (56, im_il 6 58), (58, im_ic 3 59), (59, im_bin (fun x y => x * y) 60), (60, im_ald q_SH .int 61), (61, im_is 7 63), (63, im_al 0 64), (64, im_gr q_SH 10 2 67), (67, im_gr q_SH 3 0 70), (70, im_il 6 72), (72, im_ald q_SH .int 73), (73, im_ic 5 74), (74, im_if2 ic_ne 133 77)]
set_option maxRecDepth 20000 in
theorem o_X10_landOf_1 : ∀ q ∈ t_X10_landOf_1, am_ok vwCl q_SH ξ (q_E ξ β xs L) q_EN q_KD q_ML (cX10_landOf, 8, RX10, "landOf", (some .int), []) q.1 q.2 :=
  List.forall_mem_cons.mpr ⟨⟨mo_il _ _, Or.inl (ok_iload (by decide +kernel))⟩,
  List.forall_mem_cons.mpr ⟨⟨mo_al _ _, Or.inl (ok_aload_n (k := 0) rfl (by decide +kernel))⟩,
  List.forall_mem_cons.mpr ⟨⟨mo_gr _ _ _ _, Or.inl (ok_gr (C := RX10) (T := TX10) (N := 12) (ci := 10) (k := 2) rfl inX10 (by decide) fl_X10_26 (by decide +kernel) (by decide +kernel))⟩,
  List.forall_mem_cons.mpr ⟨⟨mo_gi _ _ _ _, Or.inl (ok_gi (C := RX3) (T := TX3) (N := 9) (ci := 3) (k := 8) rfl inX3 (by decide) fl_X10_106 (by decide +kernel) (by decide +kernel))⟩,
  List.forall_mem_cons.mpr ⟨⟨mo_if2 _ _ _, Or.inl (ok_icmp_ge (off := 93) (by decide) (by decide +kernel))⟩,
  List.forall_mem_cons.mpr ⟨⟨mo_al _ _, Or.inl (ok_aload_n (k := 0) rfl (by decide +kernel))⟩,
  List.forall_mem_cons.mpr ⟨⟨mo_gr _ _ _ _, Or.inl (ok_gr (C := RX10) (T := TX10) (N := 12) (ci := 10) (k := 2) rfl inX10 (by decide) fl_X10_26 (by decide +kernel) (by decide +kernel))⟩,
  List.forall_mem_cons.mpr ⟨⟨mo_gr _ _ _ _, Or.inl (ok_gr (C := RX3) (T := TX3) (N := 9) (ci := 3) (k := 6) rfl inX3 (by decide) fl_X10_131 (by decide +kernel) (by decide +kernel))⟩,
  List.forall_mem_cons.mpr ⟨⟨mo_il _ _, Or.inl (ok_iload (by decide +kernel))⟩,
  List.forall_mem_cons.mpr ⟨⟨mo_ic _ _, Or.inl (ok_iconst (n := 3) (v := 3) (by decide) (by decide +kernel))⟩,
  List.forall_mem_cons.mpr ⟨⟨mo_bin _ _, Or.inl (ok_imul (by decide +kernel))⟩,
  List.forall_mem_cons.mpr ⟨⟨mo_ald _ _ _, Or.inl (ok_iald (by decide +kernel))⟩,
  List.forall_mem_cons.mpr ⟨⟨mo_is _ _, Or.inl (ok_istore (by decide) (by decide +kernel))⟩,
  List.forall_mem_cons.mpr ⟨⟨mo_al _ _, Or.inl (ok_aload_n (k := 0) rfl (by decide +kernel))⟩,
  List.forall_mem_cons.mpr ⟨⟨mo_gr _ _ _ _, Or.inl (ok_gr (C := RX10) (T := TX10) (N := 12) (ci := 10) (k := 2) rfl inX10 (by decide) fl_X10_26 (by decide +kernel) (by decide +kernel))⟩,
  List.forall_mem_cons.mpr ⟨⟨mo_gr _ _ _ _, Or.inl (ok_gr (C := RX3) (T := TX3) (N := 9) (ci := 3) (k := 0) rfl inX3 (by decide) fl_X10_110 (by decide +kernel) (by decide +kernel))⟩,
  List.forall_mem_cons.mpr ⟨⟨mo_il _ _, Or.inl (ok_iload (by decide +kernel))⟩,
  List.forall_mem_cons.mpr ⟨⟨mo_ald _ _ _, Or.inl (ok_iald (by decide +kernel))⟩,
  List.forall_mem_cons.mpr ⟨⟨mo_ic _ _, Or.inl (ok_iconst (n := 5) (v := 5) (by decide) (by decide +kernel))⟩,
  List.forall_mem_cons.mpr ⟨⟨mo_if2 _ _ _, Or.inl (ok_icmp_ne (off := 59) (by decide) (by decide +kernel))⟩,
  fun _ h => absurd h List.not_mem_nil⟩⟩⟩⟩⟩⟩⟩⟩⟩⟩⟩⟩⟩⟩⟩⟩⟩⟩⟩⟩
def t_X10_landOf_2 : List (Nat × am_F) := [(77, im_al 0 78), (78, im_gr q_SH 10 2 81), (81, im_gr q_SH 3 3 84), (84, im_il 6 86), (86, im_ald q_SH .int 87), (87, im_il 1 88), (88, im_if2 ic_ne 133 91), (91, im_al 0 92), (92, im_gr q_SH 10 2 95), (95, im_il 6 97), (97, im_il 3 98), (98, im_inv q_SH 3 18 2 101), (101, im_if1 ib_eq 133 104), (104, im_il 7 106), (106, im_il 2 107), (107, im_if2 ic_gt 133 110), (110, im_il 7 112), (112, im_il 5 114), (114, im_if2 ic_lt 133 117), (117, im_al 0 118)]
set_option maxRecDepth 20000 in
theorem o_X10_landOf_2 : ∀ q ∈ t_X10_landOf_2, am_ok vwCl q_SH ξ (q_E ξ β xs L) q_EN q_KD q_ML (cX10_landOf, 8, RX10, "landOf", (some .int), []) q.1 q.2 :=
  List.forall_mem_cons.mpr ⟨⟨mo_al _ _, Or.inl (ok_aload_n (k := 0) rfl (by decide +kernel))⟩,
  List.forall_mem_cons.mpr ⟨⟨mo_gr _ _ _ _, Or.inl (ok_gr (C := RX10) (T := TX10) (N := 12) (ci := 10) (k := 2) rfl inX10 (by decide) fl_X10_26 (by decide +kernel) (by decide +kernel))⟩,
  List.forall_mem_cons.mpr ⟨⟨mo_gr _ _ _ _, Or.inl (ok_gr (C := RX3) (T := TX3) (N := 9) (ci := 3) (k := 3) rfl inX3 (by decide) fl_X10_119 (by decide +kernel) (by decide +kernel))⟩,
  List.forall_mem_cons.mpr ⟨⟨mo_il _ _, Or.inl (ok_iload (by decide +kernel))⟩,
  List.forall_mem_cons.mpr ⟨⟨mo_ald _ _ _, Or.inl (ok_iald (by decide +kernel))⟩,
  List.forall_mem_cons.mpr ⟨⟨mo_il _ _, Or.inl (ok_iload_n (k := 1) rfl (by decide +kernel))⟩,
  List.forall_mem_cons.mpr ⟨⟨mo_if2 _ _ _, Or.inl (ok_icmp_ne (off := 45) (by decide) (by decide +kernel))⟩,
  List.forall_mem_cons.mpr ⟨⟨mo_al _ _, Or.inl (ok_aload_n (k := 0) rfl (by decide +kernel))⟩,
  List.forall_mem_cons.mpr ⟨⟨mo_gr _ _ _ _, Or.inl (ok_gr (C := RX10) (T := TX10) (N := 12) (ci := 10) (k := 2) rfl inX10 (by decide) fl_X10_26 (by decide +kernel) (by decide +kernel))⟩,
  List.forall_mem_cons.mpr ⟨⟨mo_il _ _, Or.inl (ok_iload (by decide +kernel))⟩,
  List.forall_mem_cons.mpr ⟨⟨mo_il _ _, Or.inl (ok_iload_n (k := 3) rfl (by decide +kernel))⟩,
  List.forall_mem_cons.mpr ⟨⟨mo_inv _ _ _ _ _, Or.inr (Or.inl (ok_inv (T := TX3) (N := 9) rfl cw_X3_isKnown (by decide) (by decide) ml_X10_181 ci_X3_isKnown cv_X3_isKnown (show Cond.initialized (yX3_isKnown).cls ∈ am_ts from ci9_RX3) ⟨by decide +kernel, by decide +kernel, by decide +kernel⟩ rfl (by decide +kernel)))⟩,
  List.forall_mem_cons.mpr ⟨⟨mo_if1 _ _ _, Or.inl (ok_if_eq (off := 32) (by decide) (by decide +kernel))⟩,
  List.forall_mem_cons.mpr ⟨⟨mo_il _ _, Or.inl (ok_iload (by decide +kernel))⟩,
  List.forall_mem_cons.mpr ⟨⟨mo_il _ _, Or.inl (ok_iload_n (k := 2) rfl (by decide +kernel))⟩,
  List.forall_mem_cons.mpr ⟨⟨mo_if2 _ _ _, Or.inl (ok_icmp_gt (off := 26) (by decide) (by decide +kernel))⟩,
  List.forall_mem_cons.mpr ⟨⟨mo_il _ _, Or.inl (ok_iload (by decide +kernel))⟩,
  List.forall_mem_cons.mpr ⟨⟨mo_il _ _, Or.inl (ok_iload (by decide +kernel))⟩,
  List.forall_mem_cons.mpr ⟨⟨mo_if2 _ _ _, Or.inl (ok_icmp_lt (off := 19) (by decide) (by decide +kernel))⟩,
  List.forall_mem_cons.mpr ⟨⟨mo_al _ _, Or.inl (ok_aload_n (k := 0) rfl (by decide +kernel))⟩,
  fun _ h => absurd h List.not_mem_nil⟩⟩⟩⟩⟩⟩⟩⟩⟩⟩⟩⟩⟩⟩⟩⟩⟩⟩⟩⟩
def t_X10_landOf_3 : List (Nat × am_F) := [(118, im_gr q_SH 10 2 121), (121, im_gr q_SH 3 2 124), (124, im_il 6 126), (126, im_ald q_SH .int 127), (127, im_is 4 129), (129, im_il 7 131), (131, im_is 5 133), (133, im_iinc 6 1 136), (136, im_go 37), (139, im_il 4 141), (141, im_reti)]
set_option maxRecDepth 20000 in
theorem o_X10_landOf_3 : ∀ q ∈ t_X10_landOf_3, am_ok vwCl q_SH ξ (q_E ξ β xs L) q_EN q_KD q_ML (cX10_landOf, 8, RX10, "landOf", (some .int), []) q.1 q.2 :=
  List.forall_mem_cons.mpr ⟨⟨mo_gr _ _ _ _, Or.inl (ok_gr (C := RX10) (T := TX10) (N := 12) (ci := 10) (k := 2) rfl inX10 (by decide) fl_X10_26 (by decide +kernel) (by decide +kernel))⟩,
  List.forall_mem_cons.mpr ⟨⟨mo_gr _ _ _ _, Or.inl (ok_gr (C := RX3) (T := TX3) (N := 9) (ci := 3) (k := 2) rfl inX3 (by decide) fl_X10_116 (by decide +kernel) (by decide +kernel))⟩,
  List.forall_mem_cons.mpr ⟨⟨mo_il _ _, Or.inl (ok_iload (by decide +kernel))⟩,
  List.forall_mem_cons.mpr ⟨⟨mo_ald _ _ _, Or.inl (ok_iald (by decide +kernel))⟩,
  List.forall_mem_cons.mpr ⟨⟨mo_is _ _, Or.inl (ok_istore (by decide) (by decide +kernel))⟩,
  List.forall_mem_cons.mpr ⟨⟨mo_il _ _, Or.inl (ok_iload (by decide +kernel))⟩,
  List.forall_mem_cons.mpr ⟨⟨mo_is _ _, Or.inl (ok_istore (by decide) (by decide +kernel))⟩,
  List.forall_mem_cons.mpr ⟨⟨mo_iinc _ _ _, Or.inl (ok_iinc (n := 1) (v := 1) (by decide) (by decide) (by decide +kernel))⟩,
  List.forall_mem_cons.mpr ⟨⟨mo_go _, Or.inl (ok_goto (off := (-99)) (by decide) (by decide +kernel))⟩,
  List.forall_mem_cons.mpr ⟨⟨mo_il _ _, Or.inl (ok_iload (by decide +kernel))⟩,
  List.forall_mem_cons.mpr ⟨⟨mo_reti, Or.inr (Or.inr (ok_reti rfl (by decide +kernel)))⟩,
  fun _ h => absurd h List.not_mem_nil⟩⟩⟩⟩⟩⟩⟩⟩⟩⟩⟩
def t_X10_landOf : List (Nat × am_F) := t_X10_landOf_0 ++ (t_X10_landOf_1 ++ (t_X10_landOf_2 ++ (t_X10_landOf_3)))
theorem o_X10_landOf : ∀ q ∈ t_X10_landOf, am_ok vwCl q_SH ξ (q_E ξ β xs L) q_EN q_KD q_ML (cX10_landOf, 8, RX10, "landOf", (some .int), []) q.1 q.2 := List.forall_mem_append.mpr ⟨o_X10_landOf_0, List.forall_mem_append.mpr ⟨o_X10_landOf_1, List.forall_mem_append.mpr ⟨o_X10_landOf_2, o_X10_landOf_3⟩⟩⟩
def t_X10_ways_0 : List (Nat × am_F) := [(0, im_il 1 1), (1, im_ic 5 2), (2, im_invs 91 2 5), (5, im_al 0 6), (6, im_il 2 7), (7, im_inv q_SH 10 93 1 10), (10, im_al 0 11), (11, im_gr q_SH 10 5 14), (14, im_il 2 15), (15, im_inv q_SH 2 13 1 18), (18, im_il 1 19), (19, im_if1 ib_ne 30 22), (22, im_al 0 23), (23, im_gr q_SH 10 5 26), (26, im_gi q_SH 2 5 29), (29, im_reti), (30, im_il 1 31), (31, im_ic 1 32), (32, im_if2 ic_ne 43 35), (35, im_al 0 36)]
set_option maxRecDepth 20000 in
theorem o_X10_ways_0 : ∀ q ∈ t_X10_ways_0, am_ok vwCl q_SH ξ (q_E ξ β xs L) q_EN q_KD q_ML (cX10_ways, 3, RX10, "ways", (some .int), []) q.1 q.2 :=
  List.forall_mem_cons.mpr ⟨⟨mo_il _ _, Or.inl (ok_iload_n (k := 1) rfl (by decide +kernel))⟩,
  List.forall_mem_cons.mpr ⟨⟨mo_ic _ _, Or.inl (ok_iconst (n := 5) (v := 5) (by decide) (by decide +kernel))⟩,
  List.forall_mem_cons.mpr ⟨⟨mo_invs _ _ _, Or.inr (Or.inl (ok_invs cw_X10_needNumber (by decide) (by decide) ml_X10_102 cs_X10_needNumber (show Cond.initialized (yX10_needNumber).cls ∈ am_ts from ci9_RX10) ⟨by decide +kernel, by decide +kernel, by decide +kernel⟩ rfl (by decide +kernel)))⟩,
  List.forall_mem_cons.mpr ⟨⟨mo_al _ _, Or.inl (ok_aload_n (k := 0) rfl (by decide +kernel))⟩,
  List.forall_mem_cons.mpr ⟨⟨mo_il _ _, Or.inl (ok_iload_n (k := 2) rfl (by decide +kernel))⟩,
  List.forall_mem_cons.mpr ⟨⟨mo_inv _ _ _ _ _, Or.inr (Or.inl (ok_inv (T := TX10) (N := 12) rfl cw_X10_needEvening (by decide) (by decide) ml_X10_170 ci_X10_needEvening cv_X10_needEvening (show Cond.initialized (yX10_needEvening).cls ∈ am_ts from ci9_RX10) ⟨by decide +kernel, by decide +kernel, by decide +kernel⟩ rfl (by decide +kernel)))⟩,
  List.forall_mem_cons.mpr ⟨⟨mo_al _ _, Or.inl (ok_aload_n (k := 0) rfl (by decide +kernel))⟩,
  List.forall_mem_cons.mpr ⟨⟨mo_gr _ _ _ _, Or.inl (ok_gr (C := RX10) (T := TX10) (N := 12) (ci := 10) (k := 5) rfl inX10 (by decide) fl_X10_51 (by decide +kernel) (by decide +kernel))⟩,
  List.forall_mem_cons.mpr ⟨⟨mo_il _ _, Or.inl (ok_iload_n (k := 2) rfl (by decide +kernel))⟩,
  List.forall_mem_cons.mpr ⟨⟨mo_inv _ _ _ _ _, Or.inr (Or.inl (ok_inv (T := TX2) (N := 7) rfl cw_X2_find (by decide) (by decide) ml_X10_184 ci_X2_find cv_X2_find (show Cond.initialized (yX2_find).cls ∈ am_ts from ci9_RX2) ⟨by decide +kernel, by decide +kernel, by decide +kernel⟩ rfl (by decide +kernel)))⟩,
  List.forall_mem_cons.mpr ⟨⟨mo_il _ _, Or.inl (ok_iload_n (k := 1) rfl (by decide +kernel))⟩,
  List.forall_mem_cons.mpr ⟨⟨mo_if1 _ _ _, Or.inl (ok_if_ne (off := 11) (by decide) (by decide +kernel))⟩,
  List.forall_mem_cons.mpr ⟨⟨mo_al _ _, Or.inl (ok_aload_n (k := 0) rfl (by decide +kernel))⟩,
  List.forall_mem_cons.mpr ⟨⟨mo_gr _ _ _ _, Or.inl (ok_gr (C := RX10) (T := TX10) (N := 12) (ci := 10) (k := 5) rfl inX10 (by decide) fl_X10_51 (by decide +kernel) (by decide +kernel))⟩,
  List.forall_mem_cons.mpr ⟨⟨mo_gi _ _ _ _, Or.inl (ok_gi (C := RX2) (T := TX2) (N := 7) (ci := 2) (k := 5) rfl inX2 (by decide) fl_X10_187 (by decide +kernel) (by decide +kernel))⟩,
  List.forall_mem_cons.mpr ⟨⟨mo_reti, Or.inr (Or.inr (ok_reti rfl (by decide +kernel)))⟩,
  List.forall_mem_cons.mpr ⟨⟨mo_il _ _, Or.inl (ok_iload_n (k := 1) rfl (by decide +kernel))⟩,
  List.forall_mem_cons.mpr ⟨⟨mo_ic _ _, Or.inl (ok_iconst (n := 1) (v := 1) (by decide) (by decide +kernel))⟩,
  List.forall_mem_cons.mpr ⟨⟨mo_if2 _ _ _, Or.inl (ok_icmp_ne (off := 11) (by decide) (by decide +kernel))⟩,
  List.forall_mem_cons.mpr ⟨⟨mo_al _ _, Or.inl (ok_aload_n (k := 0) rfl (by decide +kernel))⟩,
  fun _ h => absurd h List.not_mem_nil⟩⟩⟩⟩⟩⟩⟩⟩⟩⟩⟩⟩⟩⟩⟩⟩⟩⟩⟩⟩
def t_X10_ways_1 : List (Nat × am_F) := [(36, im_gr q_SH 10 5 39), (39, im_gi q_SH 2 4 42), (42, im_reti), (43, im_il 1 44), (44, im_ic 2 45), (45, im_bin (fun x y => x - y) 46), (46, im_al 0 47), (47, im_gr q_SH 10 5 50), (50, im_gi q_SH 2 4 53), (53, im_if2 ic_ge 70 56), (56, im_al 0 57), (57, im_gr q_SH 10 5 60), (60, im_gr q_SH 2 0 63), (63, im_il 1 64), (64, im_ic 2 65), (65, im_bin (fun x y => x - y) 66), (66, im_ald q_SH .int 67), (67, im_go 71), (70, im_ic (-1) 71), (71, im_reti)]
set_option maxRecDepth 20000 in
theorem o_X10_ways_1 : ∀ q ∈ t_X10_ways_1, am_ok vwCl q_SH ξ (q_E ξ β xs L) q_EN q_KD q_ML (cX10_ways, 3, RX10, "ways", (some .int), []) q.1 q.2 :=
  List.forall_mem_cons.mpr ⟨⟨mo_gr _ _ _ _, Or.inl (ok_gr (C := RX10) (T := TX10) (N := 12) (ci := 10) (k := 5) rfl inX10 (by decide) fl_X10_51 (by decide +kernel) (by decide +kernel))⟩,
  List.forall_mem_cons.mpr ⟨⟨mo_gi _ _ _ _, Or.inl (ok_gi (C := RX2) (T := TX2) (N := 7) (ci := 2) (k := 4) rfl inX2 (by decide) fl_X10_190 (by decide +kernel) (by decide +kernel))⟩,
  List.forall_mem_cons.mpr ⟨⟨mo_reti, Or.inr (Or.inr (ok_reti rfl (by decide +kernel)))⟩,
  List.forall_mem_cons.mpr ⟨⟨mo_il _ _, Or.inl (ok_iload_n (k := 1) rfl (by decide +kernel))⟩,
  List.forall_mem_cons.mpr ⟨⟨mo_ic _ _, Or.inl (ok_iconst (n := 2) (v := 2) (by decide) (by decide +kernel))⟩,
  List.forall_mem_cons.mpr ⟨⟨mo_bin _ _, Or.inl (ok_isub (by decide +kernel))⟩,
  List.forall_mem_cons.mpr ⟨⟨mo_al _ _, Or.inl (ok_aload_n (k := 0) rfl (by decide +kernel))⟩,
  List.forall_mem_cons.mpr ⟨⟨mo_gr _ _ _ _, Or.inl (ok_gr (C := RX10) (T := TX10) (N := 12) (ci := 10) (k := 5) rfl inX10 (by decide) fl_X10_51 (by decide +kernel) (by decide +kernel))⟩,
  List.forall_mem_cons.mpr ⟨⟨mo_gi _ _ _ _, Or.inl (ok_gi (C := RX2) (T := TX2) (N := 7) (ci := 2) (k := 4) rfl inX2 (by decide) fl_X10_190 (by decide +kernel) (by decide +kernel))⟩,
  List.forall_mem_cons.mpr ⟨⟨mo_if2 _ _ _, Or.inl (ok_icmp_ge (off := 17) (by decide) (by decide +kernel))⟩,
  List.forall_mem_cons.mpr ⟨⟨mo_al _ _, Or.inl (ok_aload_n (k := 0) rfl (by decide +kernel))⟩,
  List.forall_mem_cons.mpr ⟨⟨mo_gr _ _ _ _, Or.inl (ok_gr (C := RX10) (T := TX10) (N := 12) (ci := 10) (k := 5) rfl inX10 (by decide) fl_X10_51 (by decide +kernel) (by decide +kernel))⟩,
  List.forall_mem_cons.mpr ⟨⟨mo_gr _ _ _ _, Or.inl (ok_gr (C := RX2) (T := TX2) (N := 7) (ci := 2) (k := 0) rfl inX2 (by decide) fl_X10_191 (by decide +kernel) (by decide +kernel))⟩,
  List.forall_mem_cons.mpr ⟨⟨mo_il _ _, Or.inl (ok_iload_n (k := 1) rfl (by decide +kernel))⟩,
  List.forall_mem_cons.mpr ⟨⟨mo_ic _ _, Or.inl (ok_iconst (n := 2) (v := 2) (by decide) (by decide +kernel))⟩,
  List.forall_mem_cons.mpr ⟨⟨mo_bin _ _, Or.inl (ok_isub (by decide +kernel))⟩,
  List.forall_mem_cons.mpr ⟨⟨mo_ald _ _ _, Or.inl (ok_iald (by decide +kernel))⟩,
  List.forall_mem_cons.mpr ⟨⟨mo_go _, Or.inl (ok_goto (off := 4) (by decide) (by decide +kernel))⟩,
  List.forall_mem_cons.mpr ⟨⟨mo_ic _ _, Or.inl (ok_iconst (n := (-1)) (v := (-1)) (by decide) (by decide +kernel))⟩,
  List.forall_mem_cons.mpr ⟨⟨mo_reti, Or.inr (Or.inr (ok_reti rfl (by decide +kernel)))⟩,
  fun _ h => absurd h List.not_mem_nil⟩⟩⟩⟩⟩⟩⟩⟩⟩⟩⟩⟩⟩⟩⟩⟩⟩⟩⟩⟩
def t_X10_ways : List (Nat × am_F) := t_X10_ways_0 ++ (t_X10_ways_1)
theorem o_X10_ways : ∀ q ∈ t_X10_ways, am_ok vwCl q_SH ξ (q_E ξ β xs L) q_EN q_KD q_ML (cX10_ways, 3, RX10, "ways", (some .int), []) q.1 q.2 := List.forall_mem_append.mpr ⟨o_X10_ways_0, o_X10_ways_1⟩
def t_X10_belongs_0 : List (Nat × am_F) := [(0, im_al 0 1), (1, im_il 1 2), (2, im_il 2 3), (3, im_il 3 4), (4, im_il 4 6), (6, im_inv q_SH 10 94 4 9), (9, im_al 0 10), (10, im_il 3 11), (11, im_il 4 13), (13, im_inv q_SH 10 99 2 16), (16, im_al 0 17), (17, im_il 1 18), (18, im_il 2 19), (19, im_inv q_SH 10 100 2 22), (22, im_is 5 24), (24, im_il 5 26), (26, im_if1 ib_ne 31 29), (29, im_ic 0 30), (30, im_reti), (31, im_il 5 33)]
set_option maxRecDepth 20000 in
theorem o_X10_belongs_0 : ∀ q ∈ t_X10_belongs_0, am_ok vwCl q_SH ξ (q_E ξ β xs L) q_EN q_KD q_ML (cX10_belongs, 6, RX10, "belongs", (some .int), []) q.1 q.2 :=
  List.forall_mem_cons.mpr ⟨⟨mo_al _ _, Or.inl (ok_aload_n (k := 0) rfl (by decide +kernel))⟩,
  List.forall_mem_cons.mpr ⟨⟨mo_il _ _, Or.inl (ok_iload_n (k := 1) rfl (by decide +kernel))⟩,
  List.forall_mem_cons.mpr ⟨⟨mo_il _ _, Or.inl (ok_iload_n (k := 2) rfl (by decide +kernel))⟩,
  List.forall_mem_cons.mpr ⟨⟨mo_il _ _, Or.inl (ok_iload_n (k := 3) rfl (by decide +kernel))⟩,
  List.forall_mem_cons.mpr ⟨⟨mo_il _ _, Or.inl (ok_iload (by decide +kernel))⟩,
  List.forall_mem_cons.mpr ⟨⟨mo_inv _ _ _ _ _, Or.inr (Or.inl (ok_inv (T := TX10) (N := 12) rfl cw_X10_needBond (by decide) (by decide) ml_X10_194 ci_X10_needBond cv_X10_needBond (show Cond.initialized (yX10_needBond).cls ∈ am_ts from ci9_RX10) ⟨by decide +kernel, by decide +kernel, by decide +kernel⟩ rfl (by decide +kernel)))⟩,
  List.forall_mem_cons.mpr ⟨⟨mo_al _ _, Or.inl (ok_aload_n (k := 0) rfl (by decide +kernel))⟩,
  List.forall_mem_cons.mpr ⟨⟨mo_il _ _, Or.inl (ok_iload_n (k := 3) rfl (by decide +kernel))⟩,
  List.forall_mem_cons.mpr ⟨⟨mo_il _ _, Or.inl (ok_iload (by decide +kernel))⟩,
  List.forall_mem_cons.mpr ⟨⟨mo_inv _ _ _ _ _, Or.inr (Or.inl (ok_inv (T := TX10) (N := 12) rfl cw_X10_workOutWays (by decide) (by decide) ml_X10_198 ci_X10_workOutWays cv_X10_workOutWays (show Cond.initialized (yX10_workOutWays).cls ∈ am_ts from ci9_RX10) ⟨by decide +kernel, by decide +kernel, by decide +kernel⟩ rfl (by decide +kernel)))⟩,
  List.forall_mem_cons.mpr ⟨⟨mo_al _ _, Or.inl (ok_aload_n (k := 0) rfl (by decide +kernel))⟩,
  List.forall_mem_cons.mpr ⟨⟨mo_il _ _, Or.inl (ok_iload_n (k := 1) rfl (by decide +kernel))⟩,
  List.forall_mem_cons.mpr ⟨⟨mo_il _ _, Or.inl (ok_iload_n (k := 2) rfl (by decide +kernel))⟩,
  List.forall_mem_cons.mpr ⟨⟨mo_inv _ _ _ _ _, Or.inr (Or.inl (ok_inv (T := TX10) (N := 12) rfl cw_X10_waysWith (by decide) (by decide) ml_X10_201 ci_X10_waysWith cv_X10_waysWith (show Cond.initialized (yX10_waysWith).cls ∈ am_ts from ci9_RX10) ⟨by decide +kernel, by decide +kernel, by decide +kernel⟩ rfl (by decide +kernel)))⟩,
  List.forall_mem_cons.mpr ⟨⟨mo_is _ _, Or.inl (ok_istore (by decide) (by decide +kernel))⟩,
  List.forall_mem_cons.mpr ⟨⟨mo_il _ _, Or.inl (ok_iload (by decide +kernel))⟩,
  List.forall_mem_cons.mpr ⟨⟨mo_if1 _ _ _, Or.inl (ok_if_ne (off := 5) (by decide) (by decide +kernel))⟩,
  List.forall_mem_cons.mpr ⟨⟨mo_ic _ _, Or.inl (ok_iconst (n := 0) (v := 0) (by decide) (by decide +kernel))⟩,
  List.forall_mem_cons.mpr ⟨⟨mo_reti, Or.inr (Or.inr (ok_reti rfl (by decide +kernel)))⟩,
  List.forall_mem_cons.mpr ⟨⟨mo_il _ _, Or.inl (ok_iload (by decide +kernel))⟩,
  fun _ h => absurd h List.not_mem_nil⟩⟩⟩⟩⟩⟩⟩⟩⟩⟩⟩⟩⟩⟩⟩⟩⟩⟩⟩⟩
def t_X10_belongs_1 : List (Nat × am_F) := [(33, im_al 0 34), (34, im_gr q_SH 10 5 37), (37, im_gi q_SH 2 5 40), (40, im_if2 ic_ne 47 43), (43, im_ic 1 44), (44, im_go 48), (47, im_ic 2 48), (48, im_reti)]
set_option maxRecDepth 20000 in
theorem o_X10_belongs_1 : ∀ q ∈ t_X10_belongs_1, am_ok vwCl q_SH ξ (q_E ξ β xs L) q_EN q_KD q_ML (cX10_belongs, 6, RX10, "belongs", (some .int), []) q.1 q.2 :=
  List.forall_mem_cons.mpr ⟨⟨mo_al _ _, Or.inl (ok_aload_n (k := 0) rfl (by decide +kernel))⟩,
  List.forall_mem_cons.mpr ⟨⟨mo_gr _ _ _ _, Or.inl (ok_gr (C := RX10) (T := TX10) (N := 12) (ci := 10) (k := 5) rfl inX10 (by decide) fl_X10_51 (by decide +kernel) (by decide +kernel))⟩,
  List.forall_mem_cons.mpr ⟨⟨mo_gi _ _ _ _, Or.inl (ok_gi (C := RX2) (T := TX2) (N := 7) (ci := 2) (k := 5) rfl inX2 (by decide) fl_X10_187 (by decide +kernel) (by decide +kernel))⟩,
  List.forall_mem_cons.mpr ⟨⟨mo_if2 _ _ _, Or.inl (ok_icmp_ne (off := 7) (by decide) (by decide +kernel))⟩,
  List.forall_mem_cons.mpr ⟨⟨mo_ic _ _, Or.inl (ok_iconst (n := 1) (v := 1) (by decide) (by decide +kernel))⟩,
  List.forall_mem_cons.mpr ⟨⟨mo_go _, Or.inl (ok_goto (off := 4) (by decide) (by decide +kernel))⟩,
  List.forall_mem_cons.mpr ⟨⟨mo_ic _ _, Or.inl (ok_iconst (n := 2) (v := 2) (by decide) (by decide +kernel))⟩,
  List.forall_mem_cons.mpr ⟨⟨mo_reti, Or.inr (Or.inr (ok_reti rfl (by decide +kernel)))⟩,
  fun _ h => absurd h List.not_mem_nil⟩⟩⟩⟩⟩⟩⟩⟩
def t_X10_belongs : List (Nat × am_F) := t_X10_belongs_0 ++ (t_X10_belongs_1)
theorem o_X10_belongs : ∀ q ∈ t_X10_belongs, am_ok vwCl q_SH ξ (q_E ξ β xs L) q_EN q_KD q_ML (cX10_belongs, 6, RX10, "belongs", (some .int), []) q.1 q.2 := List.forall_mem_append.mpr ⟨o_X10_belongs_0, o_X10_belongs_1⟩
def t_X10_says_0 : List (Nat × am_F) := [(0, im_al 0 1), (1, im_il 1 2), (2, im_il 2 3), (3, im_il 3 4), (4, im_il 4 6), (6, im_inv q_SH 10 94 4 9), (9, im_al 0 10), (10, im_il 3 11), (11, im_il 4 13), (13, im_inv q_SH 10 99 2 16), (16, im_al 0 17), (17, im_il 1 18), (18, im_il 2 19), (19, im_inv q_SH 10 100 2 22), (22, im_reti)]
set_option maxRecDepth 20000 in
theorem o_X10_says_0 : ∀ q ∈ t_X10_says_0, am_ok vwCl q_SH ξ (q_E ξ β xs L) q_EN q_KD q_ML (cX10_says, 5, RX10, "says", (some .int), []) q.1 q.2 :=
  List.forall_mem_cons.mpr ⟨⟨mo_al _ _, Or.inl (ok_aload_n (k := 0) rfl (by decide +kernel))⟩,
  List.forall_mem_cons.mpr ⟨⟨mo_il _ _, Or.inl (ok_iload_n (k := 1) rfl (by decide +kernel))⟩,
  List.forall_mem_cons.mpr ⟨⟨mo_il _ _, Or.inl (ok_iload_n (k := 2) rfl (by decide +kernel))⟩,
  List.forall_mem_cons.mpr ⟨⟨mo_il _ _, Or.inl (ok_iload_n (k := 3) rfl (by decide +kernel))⟩,
  List.forall_mem_cons.mpr ⟨⟨mo_il _ _, Or.inl (ok_iload (by decide +kernel))⟩,
  List.forall_mem_cons.mpr ⟨⟨mo_inv _ _ _ _ _, Or.inr (Or.inl (ok_inv (T := TX10) (N := 12) rfl cw_X10_needBond (by decide) (by decide) ml_X10_194 ci_X10_needBond cv_X10_needBond (show Cond.initialized (yX10_needBond).cls ∈ am_ts from ci9_RX10) ⟨by decide +kernel, by decide +kernel, by decide +kernel⟩ rfl (by decide +kernel)))⟩,
  List.forall_mem_cons.mpr ⟨⟨mo_al _ _, Or.inl (ok_aload_n (k := 0) rfl (by decide +kernel))⟩,
  List.forall_mem_cons.mpr ⟨⟨mo_il _ _, Or.inl (ok_iload_n (k := 3) rfl (by decide +kernel))⟩,
  List.forall_mem_cons.mpr ⟨⟨mo_il _ _, Or.inl (ok_iload (by decide +kernel))⟩,
  List.forall_mem_cons.mpr ⟨⟨mo_inv _ _ _ _ _, Or.inr (Or.inl (ok_inv (T := TX10) (N := 12) rfl cw_X10_workOutWays (by decide) (by decide) ml_X10_198 ci_X10_workOutWays cv_X10_workOutWays (show Cond.initialized (yX10_workOutWays).cls ∈ am_ts from ci9_RX10) ⟨by decide +kernel, by decide +kernel, by decide +kernel⟩ rfl (by decide +kernel)))⟩,
  List.forall_mem_cons.mpr ⟨⟨mo_al _ _, Or.inl (ok_aload_n (k := 0) rfl (by decide +kernel))⟩,
  List.forall_mem_cons.mpr ⟨⟨mo_il _ _, Or.inl (ok_iload_n (k := 1) rfl (by decide +kernel))⟩,
  List.forall_mem_cons.mpr ⟨⟨mo_il _ _, Or.inl (ok_iload_n (k := 2) rfl (by decide +kernel))⟩,
  List.forall_mem_cons.mpr ⟨⟨mo_inv _ _ _ _ _, Or.inr (Or.inl (ok_inv (T := TX10) (N := 12) rfl cw_X10_waysWith (by decide) (by decide) ml_X10_201 ci_X10_waysWith cv_X10_waysWith (show Cond.initialized (yX10_waysWith).cls ∈ am_ts from ci9_RX10) ⟨by decide +kernel, by decide +kernel, by decide +kernel⟩ rfl (by decide +kernel)))⟩,
  List.forall_mem_cons.mpr ⟨⟨mo_reti, Or.inr (Or.inr (ok_reti rfl (by decide +kernel)))⟩,
  fun _ h => absurd h List.not_mem_nil⟩⟩⟩⟩⟩⟩⟩⟩⟩⟩⟩⟩⟩⟩⟩
def t_X10_says : List (Nat × am_F) := t_X10_says_0
theorem o_X10_says : ∀ q ∈ t_X10_says, am_ok vwCl q_SH ξ (q_E ξ β xs L) q_EN q_KD q_ML (cX10_says, 5, RX10, "says", (some .int), []) q.1 q.2 := o_X10_says_0
def t_X10_settles_0 : List (Nat × am_F) := [(0, im_al 0 1), (1, im_il 1 2), (2, im_il 2 3), (3, im_il 3 4), (4, im_il 4 6), (6, im_inv q_SH 10 94 4 9), (9, im_al 0 10), (10, im_il 3 11), (11, im_il 4 13), (13, im_inv q_SH 10 99 2 16), (16, im_es 2 19), (19, im_as 5 21), (21, im_al 5 23), (23, im_elen 2 8 24), (24, im_is 6 26), (26, im_ic 0 27), (27, im_is 7 29), (29, im_il 7 31), (31, im_il 6 33), (33, im_if2 ic_ge 63 36)]
set_option maxRecDepth 20000 in
theorem o_X10_settles_0 : ∀ q ∈ t_X10_settles_0, am_ok vwCl q_SH ξ (q_E ξ β xs L) q_EN q_KD q_ML (cX10_settles, 9, RX10, "settles", (some .int), []) q.1 q.2 :=
  List.forall_mem_cons.mpr ⟨⟨mo_al _ _, Or.inl (ok_aload_n (k := 0) rfl (by decide +kernel))⟩,
  List.forall_mem_cons.mpr ⟨⟨mo_il _ _, Or.inl (ok_iload_n (k := 1) rfl (by decide +kernel))⟩,
  List.forall_mem_cons.mpr ⟨⟨mo_il _ _, Or.inl (ok_iload_n (k := 2) rfl (by decide +kernel))⟩,
  List.forall_mem_cons.mpr ⟨⟨mo_il _ _, Or.inl (ok_iload_n (k := 3) rfl (by decide +kernel))⟩,
  List.forall_mem_cons.mpr ⟨⟨mo_il _ _, Or.inl (ok_iload (by decide +kernel))⟩,
  List.forall_mem_cons.mpr ⟨⟨mo_inv _ _ _ _ _, Or.inr (Or.inl (ok_inv (T := TX10) (N := 12) rfl cw_X10_needBond (by decide) (by decide) ml_X10_194 ci_X10_needBond cv_X10_needBond (show Cond.initialized (yX10_needBond).cls ∈ am_ts from ci9_RX10) ⟨by decide +kernel, by decide +kernel, by decide +kernel⟩ rfl (by decide +kernel)))⟩,
  List.forall_mem_cons.mpr ⟨⟨mo_al _ _, Or.inl (ok_aload_n (k := 0) rfl (by decide +kernel))⟩,
  List.forall_mem_cons.mpr ⟨⟨mo_il _ _, Or.inl (ok_iload_n (k := 3) rfl (by decide +kernel))⟩,
  List.forall_mem_cons.mpr ⟨⟨mo_il _ _, Or.inl (ok_iload (by decide +kernel))⟩,
  List.forall_mem_cons.mpr ⟨⟨mo_inv _ _ _ _ _, Or.inr (Or.inl (ok_inv (T := TX10) (N := 12) rfl cw_X10_workOutWays (by decide) (by decide) ml_X10_198 ci_X10_workOutWays cv_X10_workOutWays (show Cond.initialized (yX10_workOutWays).cls ∈ am_ts from ci9_RX10) ⟨by decide +kernel, by decide +kernel, by decide +kernel⟩ rfl (by decide +kernel)))⟩,
  List.forall_mem_cons.mpr ⟨⟨mo_es _ _, Or.inl (ok_gets (fun _ _ _ h => q_Z2 h) (am_in5 101 rfl rfl) (by decide +kernel))⟩,
  List.forall_mem_cons.mpr ⟨⟨mo_as _ _, Or.inl (ok_astore (by decide) (by decide +kernel))⟩,
  List.forall_mem_cons.mpr ⟨⟨mo_al _ _, Or.inl (ok_aload (by decide +kernel))⟩,
  List.forall_mem_cons.mpr ⟨⟨mo_elen _ _ _, Or.inl (ok_elen (fun _ _ _ h => q_T2 h) (by decide +kernel))⟩,
  List.forall_mem_cons.mpr ⟨⟨mo_is _ _, Or.inl (ok_istore (by decide) (by decide +kernel))⟩,
  List.forall_mem_cons.mpr ⟨⟨mo_ic _ _, Or.inl (ok_iconst (n := 0) (v := 0) (by decide) (by decide +kernel))⟩,
  List.forall_mem_cons.mpr ⟨⟨mo_is _ _, Or.inl (ok_istore (by decide) (by decide +kernel))⟩,
  List.forall_mem_cons.mpr ⟨⟨mo_il _ _, Or.inl (ok_iload (by decide +kernel))⟩,
  List.forall_mem_cons.mpr ⟨⟨mo_il _ _, Or.inl (ok_iload (by decide +kernel))⟩,
  List.forall_mem_cons.mpr ⟨⟨mo_if2 _ _ _, Or.inl (ok_icmp_ge (off := 30) (by decide) (by decide +kernel))⟩,
  fun _ h => absurd h List.not_mem_nil⟩⟩⟩⟩⟩⟩⟩⟩⟩⟩⟩⟩⟩⟩⟩⟩⟩⟩⟩⟩
def t_X10_settles_1 : List (Nat × am_F) := [(36, im_al 5 38), (38, im_il 7 40), (40, im_eld 2 8 q_sets 41), (41, im_is 8 43), (43, im_al 0 44), (44, im_il 8 46), (46, im_il 1 47), (47, im_il 2 48), (48, im_inv q_SH 10 101 3 51), (51, im_if1 ib_eq 57 54), (54, im_il 8 56), (56, im_reti), (57, im_iinc 7 1 60), (60, im_go 29), (63, im_ic 1 64), (64, im_al 0 65), (65, im_gr q_SH 10 5 68), (68, im_gi q_SH 2 4 71), (71, im_bin (fun x y => x <<< (y &&& 31)) 72), (72, im_ic 1 73)]
set_option maxRecDepth 20000 in
theorem o_X10_settles_1 : ∀ q ∈ t_X10_settles_1, am_ok vwCl q_SH ξ (q_E ξ β xs L) q_EN q_KD q_ML (cX10_settles, 9, RX10, "settles", (some .int), []) q.1 q.2 :=
  List.forall_mem_cons.mpr ⟨⟨mo_al _ _, Or.inl (ok_aload (by decide +kernel))⟩,
  List.forall_mem_cons.mpr ⟨⟨mo_il _ _, Or.inl (ok_iload (by decide +kernel))⟩,
  List.forall_mem_cons.mpr ⟨⟨mo_eld _ _ _ _, Or.inl (ok_eld (fun _ _ _ h => q_T2 h) (by decide +kernel))⟩,
  List.forall_mem_cons.mpr ⟨⟨mo_is _ _, Or.inl (ok_istore (by decide) (by decide +kernel))⟩,
  List.forall_mem_cons.mpr ⟨⟨mo_al _ _, Or.inl (ok_aload_n (k := 0) rfl (by decide +kernel))⟩,
  List.forall_mem_cons.mpr ⟨⟨mo_il _ _, Or.inl (ok_iload (by decide +kernel))⟩,
  List.forall_mem_cons.mpr ⟨⟨mo_il _ _, Or.inl (ok_iload_n (k := 1) rfl (by decide +kernel))⟩,
  List.forall_mem_cons.mpr ⟨⟨mo_il _ _, Or.inl (ok_iload_n (k := 2) rfl (by decide +kernel))⟩,
  List.forall_mem_cons.mpr ⟨⟨mo_inv _ _ _ _ _, Or.inr (Or.inl (ok_inv (T := TX10) (N := 12) rfl cw_X10_isSettledBy (by decide) (by decide) ml_X10_207 ci_X10_isSettledBy cv_X10_isSettledBy (show Cond.initialized (yX10_isSettledBy).cls ∈ am_ts from ci9_RX10) ⟨by decide +kernel, by decide +kernel, by decide +kernel⟩ rfl (by decide +kernel)))⟩,
  List.forall_mem_cons.mpr ⟨⟨mo_if1 _ _ _, Or.inl (ok_if_eq (off := 6) (by decide) (by decide +kernel))⟩,
  List.forall_mem_cons.mpr ⟨⟨mo_il _ _, Or.inl (ok_iload (by decide +kernel))⟩,
  List.forall_mem_cons.mpr ⟨⟨mo_reti, Or.inr (Or.inr (ok_reti rfl (by decide +kernel)))⟩,
  List.forall_mem_cons.mpr ⟨⟨mo_iinc _ _ _, Or.inl (ok_iinc (n := 1) (v := 1) (by decide) (by decide) (by decide +kernel))⟩,
  List.forall_mem_cons.mpr ⟨⟨mo_go _, Or.inl (ok_goto (off := (-31)) (by decide) (by decide +kernel))⟩,
  List.forall_mem_cons.mpr ⟨⟨mo_ic _ _, Or.inl (ok_iconst (n := 1) (v := 1) (by decide) (by decide +kernel))⟩,
  List.forall_mem_cons.mpr ⟨⟨mo_al _ _, Or.inl (ok_aload_n (k := 0) rfl (by decide +kernel))⟩,
  List.forall_mem_cons.mpr ⟨⟨mo_gr _ _ _ _, Or.inl (ok_gr (C := RX10) (T := TX10) (N := 12) (ci := 10) (k := 5) rfl inX10 (by decide) fl_X10_51 (by decide +kernel) (by decide +kernel))⟩,
  List.forall_mem_cons.mpr ⟨⟨mo_gi _ _ _ _, Or.inl (ok_gi (C := RX2) (T := TX2) (N := 7) (ci := 2) (k := 4) rfl inX2 (by decide) fl_X10_190 (by decide +kernel) (by decide +kernel))⟩,
  List.forall_mem_cons.mpr ⟨⟨mo_bin _ _, Or.inl (ok_ishl (by decide +kernel))⟩,
  List.forall_mem_cons.mpr ⟨⟨mo_ic _ _, Or.inl (ok_iconst (n := 1) (v := 1) (by decide) (by decide +kernel))⟩,
  fun _ h => absurd h List.not_mem_nil⟩⟩⟩⟩⟩⟩⟩⟩⟩⟩⟩⟩⟩⟩⟩⟩⟩⟩⟩⟩
def t_X10_settles_2 : List (Nat × am_F) := [(73, im_bin (fun x y => x - y) 74), (74, im_reti)]
set_option maxRecDepth 20000 in
theorem o_X10_settles_2 : ∀ q ∈ t_X10_settles_2, am_ok vwCl q_SH ξ (q_E ξ β xs L) q_EN q_KD q_ML (cX10_settles, 9, RX10, "settles", (some .int), []) q.1 q.2 :=
  List.forall_mem_cons.mpr ⟨⟨mo_bin _ _, Or.inl (ok_isub (by decide +kernel))⟩,
  List.forall_mem_cons.mpr ⟨⟨mo_reti, Or.inr (Or.inr (ok_reti rfl (by decide +kernel)))⟩,
  fun _ h => absurd h List.not_mem_nil⟩⟩
def t_X10_settles : List (Nat × am_F) := t_X10_settles_0 ++ (t_X10_settles_1 ++ (t_X10_settles_2))
theorem o_X10_settles : ∀ q ∈ t_X10_settles, am_ok vwCl q_SH ξ (q_E ξ β xs L) q_EN q_KD q_ML (cX10_settles, 9, RX10, "settles", (some .int), []) q.1 q.2 := List.forall_mem_append.mpr ⟨o_X10_settles_0, List.forall_mem_append.mpr ⟨o_X10_settles_1, o_X10_settles_2⟩⟩
def t_X10_lands_0 : List (Nat × am_F) := [(0, im_il 1 1), (1, im_al 0 2), (2, im_gr q_SH 10 1 5), (5, im_gi q_SH 7 3 8), (8, im_invs 91 2 11), (11, im_il 2 12), (12, im_invs 92 1 15), (15, im_al 0 16), (16, im_il 4 18), (18, im_inv q_SH 10 93 1 21), (21, im_al 0 22), (22, im_gr q_SH 10 5 25), (25, im_il 4 27), (27, im_inv q_SH 2 13 1 30), (30, im_il 3 31), (31, im_al 0 32), (32, im_gr q_SH 10 5 35), (35, im_gi q_SH 2 5 38), (38, im_invs 91 2 41), (41, im_al 0 42)]
set_option maxRecDepth 20000 in
theorem o_X10_lands_0 : ∀ q ∈ t_X10_lands_0, am_ok vwCl q_SH ξ (q_E ξ β xs L) q_EN q_KD q_ML (cX10_lands, 5, RX10, "lands", (some .int), []) q.1 q.2 :=
  List.forall_mem_cons.mpr ⟨⟨mo_il _ _, Or.inl (ok_iload_n (k := 1) rfl (by decide +kernel))⟩,
  List.forall_mem_cons.mpr ⟨⟨mo_al _ _, Or.inl (ok_aload_n (k := 0) rfl (by decide +kernel))⟩,
  List.forall_mem_cons.mpr ⟨⟨mo_gr _ _ _ _, Or.inl (ok_gr (C := RX10) (T := TX10) (N := 12) (ci := 10) (k := 1) rfl inX10 (by decide) fl_X10_19 (by decide +kernel) (by decide +kernel))⟩,
  List.forall_mem_cons.mpr ⟨⟨mo_gi _ _ _ _, Or.inl (ok_gi (C := RX7) (T := TX7) (N := 4) (ci := 7) (k := 3) rfl inX7 (by decide) fl_X10_92 (by decide +kernel) (by decide +kernel))⟩,
  List.forall_mem_cons.mpr ⟨⟨mo_invs _ _ _, Or.inr (Or.inl (ok_invs cw_X10_needNumber (by decide) (by decide) ml_X10_102 cs_X10_needNumber (show Cond.initialized (yX10_needNumber).cls ∈ am_ts from ci9_RX10) ⟨by decide +kernel, by decide +kernel, by decide +kernel⟩ rfl (by decide +kernel)))⟩,
  List.forall_mem_cons.mpr ⟨⟨mo_il _ _, Or.inl (ok_iload_n (k := 2) rfl (by decide +kernel))⟩,
  List.forall_mem_cons.mpr ⟨⟨mo_invs _ _ _, Or.inr (Or.inl (ok_invs cw_X10_needDay (by decide) (by decide) ml_X10_167 cs_X10_needDay (show Cond.initialized (yX10_needDay).cls ∈ am_ts from ci9_RX10) ⟨by decide +kernel, by decide +kernel, by decide +kernel⟩ rfl (by decide +kernel)))⟩,
  List.forall_mem_cons.mpr ⟨⟨mo_al _ _, Or.inl (ok_aload_n (k := 0) rfl (by decide +kernel))⟩,
  List.forall_mem_cons.mpr ⟨⟨mo_il _ _, Or.inl (ok_iload (by decide +kernel))⟩,
  List.forall_mem_cons.mpr ⟨⟨mo_inv _ _ _ _ _, Or.inr (Or.inl (ok_inv (T := TX10) (N := 12) rfl cw_X10_needEvening (by decide) (by decide) ml_X10_170 ci_X10_needEvening cv_X10_needEvening (show Cond.initialized (yX10_needEvening).cls ∈ am_ts from ci9_RX10) ⟨by decide +kernel, by decide +kernel, by decide +kernel⟩ rfl (by decide +kernel)))⟩,
  List.forall_mem_cons.mpr ⟨⟨mo_al _ _, Or.inl (ok_aload_n (k := 0) rfl (by decide +kernel))⟩,
  List.forall_mem_cons.mpr ⟨⟨mo_gr _ _ _ _, Or.inl (ok_gr (C := RX10) (T := TX10) (N := 12) (ci := 10) (k := 5) rfl inX10 (by decide) fl_X10_51 (by decide +kernel) (by decide +kernel))⟩,
  List.forall_mem_cons.mpr ⟨⟨mo_il _ _, Or.inl (ok_iload (by decide +kernel))⟩,
  List.forall_mem_cons.mpr ⟨⟨mo_inv _ _ _ _ _, Or.inr (Or.inl (ok_inv (T := TX2) (N := 7) rfl cw_X2_find (by decide) (by decide) ml_X10_184 ci_X2_find cv_X2_find (show Cond.initialized (yX2_find).cls ∈ am_ts from ci9_RX2) ⟨by decide +kernel, by decide +kernel, by decide +kernel⟩ rfl (by decide +kernel)))⟩,
  List.forall_mem_cons.mpr ⟨⟨mo_il _ _, Or.inl (ok_iload_n (k := 3) rfl (by decide +kernel))⟩,
  List.forall_mem_cons.mpr ⟨⟨mo_al _ _, Or.inl (ok_aload_n (k := 0) rfl (by decide +kernel))⟩,
  List.forall_mem_cons.mpr ⟨⟨mo_gr _ _ _ _, Or.inl (ok_gr (C := RX10) (T := TX10) (N := 12) (ci := 10) (k := 5) rfl inX10 (by decide) fl_X10_51 (by decide +kernel) (by decide +kernel))⟩,
  List.forall_mem_cons.mpr ⟨⟨mo_gi _ _ _ _, Or.inl (ok_gi (C := RX2) (T := TX2) (N := 7) (ci := 2) (k := 5) rfl inX2 (by decide) fl_X10_187 (by decide +kernel) (by decide +kernel))⟩,
  List.forall_mem_cons.mpr ⟨⟨mo_invs _ _ _, Or.inr (Or.inl (ok_invs cw_X10_needNumber (by decide) (by decide) ml_X10_102 cs_X10_needNumber (show Cond.initialized (yX10_needNumber).cls ∈ am_ts from ci9_RX10) ⟨by decide +kernel, by decide +kernel, by decide +kernel⟩ rfl (by decide +kernel)))⟩,
  List.forall_mem_cons.mpr ⟨⟨mo_al _ _, Or.inl (ok_aload_n (k := 0) rfl (by decide +kernel))⟩,
  fun _ h => absurd h List.not_mem_nil⟩⟩⟩⟩⟩⟩⟩⟩⟩⟩⟩⟩⟩⟩⟩⟩⟩⟩⟩⟩
def t_X10_lands_1 : List (Nat × am_F) := [(42, im_gr q_SH 10 6 45), (45, im_il 3 46), (46, im_il 2 47), (47, im_ic (-1) 48), (48, im_inv q_SH 9 52 3 51), (51, im_al 0 52), (52, im_gr q_SH 10 6 55), (55, im_gr q_SH 9 8 58), (58, im_il 1 59), (59, im_ald q_SH .int 60), (60, im_reti)]
set_option maxRecDepth 20000 in
theorem o_X10_lands_1 : ∀ q ∈ t_X10_lands_1, am_ok vwCl q_SH ξ (q_E ξ β xs L) q_EN q_KD q_ML (cX10_lands, 5, RX10, "lands", (some .int), []) q.1 q.2 :=
  List.forall_mem_cons.mpr ⟨⟨mo_gr _ _ _ _, Or.inl (ok_gr (C := RX10) (T := TX10) (N := 12) (ci := 10) (k := 6) rfl inX10 (by decide) fl_X10_60 (by decide +kernel) (by decide +kernel))⟩,
  List.forall_mem_cons.mpr ⟨⟨mo_il _ _, Or.inl (ok_iload_n (k := 3) rfl (by decide +kernel))⟩,
  List.forall_mem_cons.mpr ⟨⟨mo_il _ _, Or.inl (ok_iload_n (k := 2) rfl (by decide +kernel))⟩,
  List.forall_mem_cons.mpr ⟨⟨mo_ic _ _, Or.inl (ok_iconst (n := (-1)) (v := (-1)) (by decide) (by decide +kernel))⟩,
  List.forall_mem_cons.mpr ⟨⟨mo_inv _ _ _ _ _, Or.inr (Or.inl (ok_inv (T := TX9) (N := 20) rfl cw_X9_live (by decide) (by decide) ml_X10_211 ci_X9_live cv_X9_live (show Cond.initialized (yX9_live).cls ∈ am_ts from ci9_RX9) ⟨by decide +kernel, by decide +kernel, by decide +kernel⟩ rfl (by decide +kernel)))⟩,
  List.forall_mem_cons.mpr ⟨⟨mo_al _ _, Or.inl (ok_aload_n (k := 0) rfl (by decide +kernel))⟩,
  List.forall_mem_cons.mpr ⟨⟨mo_gr _ _ _ _, Or.inl (ok_gr (C := RX10) (T := TX10) (N := 12) (ci := 10) (k := 6) rfl inX10 (by decide) fl_X10_60 (by decide +kernel) (by decide +kernel))⟩,
  List.forall_mem_cons.mpr ⟨⟨mo_gr _ _ _ _, Or.inl (ok_gr (C := RX9) (T := TX9) (N := 20) (ci := 9) (k := 8) rfl inX9 (by decide) fl_X10_215 (by decide +kernel) (by decide +kernel))⟩,
  List.forall_mem_cons.mpr ⟨⟨mo_il _ _, Or.inl (ok_iload_n (k := 1) rfl (by decide +kernel))⟩,
  List.forall_mem_cons.mpr ⟨⟨mo_ald _ _ _, Or.inl (ok_iald (by decide +kernel))⟩,
  List.forall_mem_cons.mpr ⟨⟨mo_reti, Or.inr (Or.inr (ok_reti rfl (by decide +kernel)))⟩,
  fun _ h => absurd h List.not_mem_nil⟩⟩⟩⟩⟩⟩⟩⟩⟩⟩⟩
def t_X10_lands : List (Nat × am_F) := t_X10_lands_0 ++ (t_X10_lands_1)
theorem o_X10_lands : ∀ q ∈ t_X10_lands, am_ok vwCl q_SH ξ (q_E ξ β xs L) q_EN q_KD q_ML (cX10_lands, 5, RX10, "lands", (some .int), []) q.1 q.2 := List.forall_mem_append.mpr ⟨o_X10_lands_0, o_X10_lands_1⟩
def t_X10_chain_0 : List (Nat × am_F) := [(0, im_il 5 2), (2, im_ic 6 4), (4, im_invs 91 2 7), (7, im_al 0 8), (8, im_il 1 9), (9, im_il 2 10), (10, im_il 3 11), (11, im_il 6 13), (13, im_inv q_SH 10 94 4 16), (16, im_al 0 17), (17, im_gr q_SH 10 5 20), (20, im_il 6 22), (22, im_inv q_SH 2 13 1 25), (25, im_al 0 26), (26, im_gr q_SH 10 6 29), (29, im_ic 0 30), (30, im_il 3 31), (31, im_ic (-1) 32), (32, im_inv q_SH 9 52 3 35), (35, im_al 0 36)]
set_option maxRecDepth 20000 in
theorem o_X10_chain_0 : ∀ q ∈ t_X10_chain_0, am_ok vwCl q_SH ξ (q_E ξ β xs L) q_EN q_KD q_ML (cX10_chain, 10, RX10, "chain", (some .int), []) q.1 q.2 :=
  List.forall_mem_cons.mpr ⟨⟨mo_il _ _, Or.inl (ok_iload (by decide +kernel))⟩,
  List.forall_mem_cons.mpr ⟨⟨mo_ic _ _, Or.inl (ok_bipush (n := 6) (v := 6) (by decide) (by decide +kernel))⟩,
  List.forall_mem_cons.mpr ⟨⟨mo_invs _ _ _, Or.inr (Or.inl (ok_invs cw_X10_needNumber (by decide) (by decide) ml_X10_102 cs_X10_needNumber (show Cond.initialized (yX10_needNumber).cls ∈ am_ts from ci9_RX10) ⟨by decide +kernel, by decide +kernel, by decide +kernel⟩ rfl (by decide +kernel)))⟩,
  List.forall_mem_cons.mpr ⟨⟨mo_al _ _, Or.inl (ok_aload_n (k := 0) rfl (by decide +kernel))⟩,
  List.forall_mem_cons.mpr ⟨⟨mo_il _ _, Or.inl (ok_iload_n (k := 1) rfl (by decide +kernel))⟩,
  List.forall_mem_cons.mpr ⟨⟨mo_il _ _, Or.inl (ok_iload_n (k := 2) rfl (by decide +kernel))⟩,
  List.forall_mem_cons.mpr ⟨⟨mo_il _ _, Or.inl (ok_iload_n (k := 3) rfl (by decide +kernel))⟩,
  List.forall_mem_cons.mpr ⟨⟨mo_il _ _, Or.inl (ok_iload (by decide +kernel))⟩,
  List.forall_mem_cons.mpr ⟨⟨mo_inv _ _ _ _ _, Or.inr (Or.inl (ok_inv (T := TX10) (N := 12) rfl cw_X10_needBond (by decide) (by decide) ml_X10_194 ci_X10_needBond cv_X10_needBond (show Cond.initialized (yX10_needBond).cls ∈ am_ts from ci9_RX10) ⟨by decide +kernel, by decide +kernel, by decide +kernel⟩ rfl (by decide +kernel)))⟩,
  List.forall_mem_cons.mpr ⟨⟨mo_al _ _, Or.inl (ok_aload_n (k := 0) rfl (by decide +kernel))⟩,
  List.forall_mem_cons.mpr ⟨⟨mo_gr _ _ _ _, Or.inl (ok_gr (C := RX10) (T := TX10) (N := 12) (ci := 10) (k := 5) rfl inX10 (by decide) fl_X10_51 (by decide +kernel) (by decide +kernel))⟩,
  List.forall_mem_cons.mpr ⟨⟨mo_il _ _, Or.inl (ok_iload (by decide +kernel))⟩,
  List.forall_mem_cons.mpr ⟨⟨mo_inv _ _ _ _ _, Or.inr (Or.inl (ok_inv (T := TX2) (N := 7) rfl cw_X2_find (by decide) (by decide) ml_X10_184 ci_X2_find cv_X2_find (show Cond.initialized (yX2_find).cls ∈ am_ts from ci9_RX2) ⟨by decide +kernel, by decide +kernel, by decide +kernel⟩ rfl (by decide +kernel)))⟩,
  List.forall_mem_cons.mpr ⟨⟨mo_al _ _, Or.inl (ok_aload_n (k := 0) rfl (by decide +kernel))⟩,
  List.forall_mem_cons.mpr ⟨⟨mo_gr _ _ _ _, Or.inl (ok_gr (C := RX10) (T := TX10) (N := 12) (ci := 10) (k := 6) rfl inX10 (by decide) fl_X10_60 (by decide +kernel) (by decide +kernel))⟩,
  List.forall_mem_cons.mpr ⟨⟨mo_ic _ _, Or.inl (ok_iconst (n := 0) (v := 0) (by decide) (by decide +kernel))⟩,
  List.forall_mem_cons.mpr ⟨⟨mo_il _ _, Or.inl (ok_iload_n (k := 3) rfl (by decide +kernel))⟩,
  List.forall_mem_cons.mpr ⟨⟨mo_ic _ _, Or.inl (ok_iconst (n := (-1)) (v := (-1)) (by decide) (by decide +kernel))⟩,
  List.forall_mem_cons.mpr ⟨⟨mo_inv _ _ _ _ _, Or.inr (Or.inl (ok_inv (T := TX9) (N := 20) rfl cw_X9_live (by decide) (by decide) ml_X10_211 ci_X9_live cv_X9_live (show Cond.initialized (yX9_live).cls ∈ am_ts from ci9_RX9) ⟨by decide +kernel, by decide +kernel, by decide +kernel⟩ rfl (by decide +kernel)))⟩,
  List.forall_mem_cons.mpr ⟨⟨mo_al _ _, Or.inl (ok_aload_n (k := 0) rfl (by decide +kernel))⟩,
  fun _ h => absurd h List.not_mem_nil⟩⟩⟩⟩⟩⟩⟩⟩⟩⟩⟩⟩⟩⟩⟩⟩⟩⟩⟩⟩
def t_X10_chain_1 : List (Nat × am_F) := [(36, im_gr q_SH 10 6 39), (39, im_gr q_SH 9 8 42), (42, im_il 1 43), (43, im_ald q_SH .int 44), (44, im_il 2 45), (45, im_bin (fun x y => x >>> (y &&& 31)) 46), (46, im_ic 1 47), (47, im_bin (fun x y => x &&& y) 48), (48, im_ic 1 49), (49, im_if2 ic_ne 56 52), (52, im_ic 1 53), (53, im_go 57), (56, im_ic 0 57), (57, im_is 7 59), (59, im_il 7 61), (61, im_if1 ib_eq 83 64), (64, im_al 0 65), (65, im_gr q_SH 10 6 68), (68, im_gr q_SH 9 7 71), (71, im_gr q_SH 5 0 74)]
set_option maxRecDepth 20000 in
theorem o_X10_chain_1 : ∀ q ∈ t_X10_chain_1, am_ok vwCl q_SH ξ (q_E ξ β xs L) q_EN q_KD q_ML (cX10_chain, 10, RX10, "chain", (some .int), []) q.1 q.2 :=
  List.forall_mem_cons.mpr ⟨⟨mo_gr _ _ _ _, Or.inl (ok_gr (C := RX10) (T := TX10) (N := 12) (ci := 10) (k := 6) rfl inX10 (by decide) fl_X10_60 (by decide +kernel) (by decide +kernel))⟩,
  List.forall_mem_cons.mpr ⟨⟨mo_gr _ _ _ _, Or.inl (ok_gr (C := RX9) (T := TX9) (N := 20) (ci := 9) (k := 8) rfl inX9 (by decide) fl_X10_215 (by decide +kernel) (by decide +kernel))⟩,
  List.forall_mem_cons.mpr ⟨⟨mo_il _ _, Or.inl (ok_iload_n (k := 1) rfl (by decide +kernel))⟩,
  List.forall_mem_cons.mpr ⟨⟨mo_ald _ _ _, Or.inl (ok_iald (by decide +kernel))⟩,
  List.forall_mem_cons.mpr ⟨⟨mo_il _ _, Or.inl (ok_iload_n (k := 2) rfl (by decide +kernel))⟩,
  List.forall_mem_cons.mpr ⟨⟨mo_bin _ _, Or.inl (ok_ishr (by decide +kernel))⟩,
  List.forall_mem_cons.mpr ⟨⟨mo_ic _ _, Or.inl (ok_iconst (n := 1) (v := 1) (by decide) (by decide +kernel))⟩,
  List.forall_mem_cons.mpr ⟨⟨mo_bin _ _, Or.inl (ok_iand (by decide +kernel))⟩,
  List.forall_mem_cons.mpr ⟨⟨mo_ic _ _, Or.inl (ok_iconst (n := 1) (v := 1) (by decide) (by decide +kernel))⟩,
  List.forall_mem_cons.mpr ⟨⟨mo_if2 _ _ _, Or.inl (ok_icmp_ne (off := 7) (by decide) (by decide +kernel))⟩,
  List.forall_mem_cons.mpr ⟨⟨mo_ic _ _, Or.inl (ok_iconst (n := 1) (v := 1) (by decide) (by decide +kernel))⟩,
  List.forall_mem_cons.mpr ⟨⟨mo_go _, Or.inl (ok_goto (off := 4) (by decide) (by decide +kernel))⟩,
  List.forall_mem_cons.mpr ⟨⟨mo_ic _ _, Or.inl (ok_iconst (n := 0) (v := 0) (by decide) (by decide +kernel))⟩,
  List.forall_mem_cons.mpr ⟨⟨mo_is _ _, Or.inl (ok_istore (by decide) (by decide +kernel))⟩,
  List.forall_mem_cons.mpr ⟨⟨mo_il _ _, Or.inl (ok_iload (by decide +kernel))⟩,
  List.forall_mem_cons.mpr ⟨⟨mo_if1 _ _ _, Or.inl (ok_if_eq (off := 22) (by decide) (by decide +kernel))⟩,
  List.forall_mem_cons.mpr ⟨⟨mo_al _ _, Or.inl (ok_aload_n (k := 0) rfl (by decide +kernel))⟩,
  List.forall_mem_cons.mpr ⟨⟨mo_gr _ _ _ _, Or.inl (ok_gr (C := RX10) (T := TX10) (N := 12) (ci := 10) (k := 6) rfl inX10 (by decide) fl_X10_60 (by decide +kernel) (by decide +kernel))⟩,
  List.forall_mem_cons.mpr ⟨⟨mo_gr _ _ _ _, Or.inl (ok_gr (C := RX9) (T := TX9) (N := 20) (ci := 9) (k := 7) rfl inX9 (by decide) fl_X10_218 (by decide +kernel) (by decide +kernel))⟩,
  List.forall_mem_cons.mpr ⟨⟨mo_gr _ _ _ _, Or.inl (ok_gr (C := RX5) (T := TX5) (N := 5) (ci := 5) (k := 0) rfl inX5 (by decide) fl_X10_222 (by decide +kernel) (by decide +kernel))⟩,
  fun _ h => absurd h List.not_mem_nil⟩⟩⟩⟩⟩⟩⟩⟩⟩⟩⟩⟩⟩⟩⟩⟩⟩⟩⟩⟩
def t_X10_chain_2 : List (Nat × am_F) := [(74, im_il 1 75), (75, im_ic 5 76), (76, im_bin (fun x y => x * y) 77), (77, im_il 2 78), (78, im_bin (fun x y => x + y) 79), (79, im_ald q_SH .int 80), (80, im_go 84), (83, im_ic (-1) 84), (84, im_is 8 86), (86, im_al 0 87), (87, im_gr q_SH 10 6 90), (90, im_gr q_SH 9 7 93), (93, im_il 8 95), (95, im_inv q_SH 5 24 1 98), (98, im_is 9 100), (100, im_il 4 102), (102, im_ic (-1) 103), (103, im_if2 ic_ne 109 106), (106, im_il 9 108), (108, im_reti)]
set_option maxRecDepth 20000 in
theorem o_X10_chain_2 : ∀ q ∈ t_X10_chain_2, am_ok vwCl q_SH ξ (q_E ξ β xs L) q_EN q_KD q_ML (cX10_chain, 10, RX10, "chain", (some .int), []) q.1 q.2 :=
  List.forall_mem_cons.mpr ⟨⟨mo_il _ _, Or.inl (ok_iload_n (k := 1) rfl (by decide +kernel))⟩,
  List.forall_mem_cons.mpr ⟨⟨mo_ic _ _, Or.inl (ok_iconst (n := 5) (v := 5) (by decide) (by decide +kernel))⟩,
  List.forall_mem_cons.mpr ⟨⟨mo_bin _ _, Or.inl (ok_imul (by decide +kernel))⟩,
  List.forall_mem_cons.mpr ⟨⟨mo_il _ _, Or.inl (ok_iload_n (k := 2) rfl (by decide +kernel))⟩,
  List.forall_mem_cons.mpr ⟨⟨mo_bin _ _, Or.inl (ok_iadd (by decide +kernel))⟩,
  List.forall_mem_cons.mpr ⟨⟨mo_ald _ _ _, Or.inl (ok_iald (by decide +kernel))⟩,
  List.forall_mem_cons.mpr ⟨⟨mo_go _, Or.inl (ok_goto (off := 4) (by decide) (by decide +kernel))⟩,
  List.forall_mem_cons.mpr ⟨⟨mo_ic _ _, Or.inl (ok_iconst (n := (-1)) (v := (-1)) (by decide) (by decide +kernel))⟩,
  List.forall_mem_cons.mpr ⟨⟨mo_is _ _, Or.inl (ok_istore (by decide) (by decide +kernel))⟩,
  List.forall_mem_cons.mpr ⟨⟨mo_al _ _, Or.inl (ok_aload_n (k := 0) rfl (by decide +kernel))⟩,
  List.forall_mem_cons.mpr ⟨⟨mo_gr _ _ _ _, Or.inl (ok_gr (C := RX10) (T := TX10) (N := 12) (ci := 10) (k := 6) rfl inX10 (by decide) fl_X10_60 (by decide +kernel) (by decide +kernel))⟩,
  List.forall_mem_cons.mpr ⟨⟨mo_gr _ _ _ _, Or.inl (ok_gr (C := RX9) (T := TX9) (N := 20) (ci := 9) (k := 7) rfl inX9 (by decide) fl_X10_218 (by decide +kernel) (by decide +kernel))⟩,
  List.forall_mem_cons.mpr ⟨⟨mo_il _ _, Or.inl (ok_iload (by decide +kernel))⟩,
  List.forall_mem_cons.mpr ⟨⟨mo_inv _ _ _ _ _, Or.inr (Or.inl (ok_inv (T := TX5) (N := 5) rfl cw_X5_linksFrom (by decide) (by decide) ml_X10_227 ci_X5_linksFrom cv_X5_linksFrom (show Cond.initialized (yX5_linksFrom).cls ∈ am_ts from ci9_RX5) ⟨by decide +kernel, by decide +kernel, by decide +kernel⟩ rfl (by decide +kernel)))⟩,
  List.forall_mem_cons.mpr ⟨⟨mo_is _ _, Or.inl (ok_istore (by decide) (by decide +kernel))⟩,
  List.forall_mem_cons.mpr ⟨⟨mo_il _ _, Or.inl (ok_iload (by decide +kernel))⟩,
  List.forall_mem_cons.mpr ⟨⟨mo_ic _ _, Or.inl (ok_iconst (n := (-1)) (v := (-1)) (by decide) (by decide +kernel))⟩,
  List.forall_mem_cons.mpr ⟨⟨mo_if2 _ _ _, Or.inl (ok_icmp_ne (off := 6) (by decide) (by decide +kernel))⟩,
  List.forall_mem_cons.mpr ⟨⟨mo_il _ _, Or.inl (ok_iload (by decide +kernel))⟩,
  List.forall_mem_cons.mpr ⟨⟨mo_reti, Or.inr (Or.inr (ok_reti rfl (by decide +kernel)))⟩,
  fun _ h => absurd h List.not_mem_nil⟩⟩⟩⟩⟩⟩⟩⟩⟩⟩⟩⟩⟩⟩⟩⟩⟩⟩⟩⟩
def t_X10_chain_3 : List (Nat × am_F) := [(109, im_il 4 111), (111, im_il 9 113), (113, im_invs 91 2 116), (116, im_al 0 117), (117, im_gr q_SH 10 6 120), (120, im_gr q_SH 9 7 123), (123, im_il 8 125), (125, im_il 4 127), (127, im_il 5 129), (129, im_inv q_SH 5 25 3 132), (132, im_reti)]
set_option maxRecDepth 20000 in
theorem o_X10_chain_3 : ∀ q ∈ t_X10_chain_3, am_ok vwCl q_SH ξ (q_E ξ β xs L) q_EN q_KD q_ML (cX10_chain, 10, RX10, "chain", (some .int), []) q.1 q.2 :=
  List.forall_mem_cons.mpr ⟨⟨mo_il _ _, Or.inl (ok_iload (by decide +kernel))⟩,
  List.forall_mem_cons.mpr ⟨⟨mo_il _ _, Or.inl (ok_iload (by decide +kernel))⟩,
  List.forall_mem_cons.mpr ⟨⟨mo_invs _ _ _, Or.inr (Or.inl (ok_invs cw_X10_needNumber (by decide) (by decide) ml_X10_102 cs_X10_needNumber (show Cond.initialized (yX10_needNumber).cls ∈ am_ts from ci9_RX10) ⟨by decide +kernel, by decide +kernel, by decide +kernel⟩ rfl (by decide +kernel)))⟩,
  List.forall_mem_cons.mpr ⟨⟨mo_al _ _, Or.inl (ok_aload_n (k := 0) rfl (by decide +kernel))⟩,
  List.forall_mem_cons.mpr ⟨⟨mo_gr _ _ _ _, Or.inl (ok_gr (C := RX10) (T := TX10) (N := 12) (ci := 10) (k := 6) rfl inX10 (by decide) fl_X10_60 (by decide +kernel) (by decide +kernel))⟩,
  List.forall_mem_cons.mpr ⟨⟨mo_gr _ _ _ _, Or.inl (ok_gr (C := RX9) (T := TX9) (N := 20) (ci := 9) (k := 7) rfl inX9 (by decide) fl_X10_218 (by decide +kernel) (by decide +kernel))⟩,
  List.forall_mem_cons.mpr ⟨⟨mo_il _ _, Or.inl (ok_iload (by decide +kernel))⟩,
  List.forall_mem_cons.mpr ⟨⟨mo_il _ _, Or.inl (ok_iload (by decide +kernel))⟩,
  List.forall_mem_cons.mpr ⟨⟨mo_il _ _, Or.inl (ok_iload (by decide +kernel))⟩,
  List.forall_mem_cons.mpr ⟨⟨mo_inv _ _ _ _ _, Or.inr (Or.inl (ok_inv (T := TX5) (N := 5) rfl cw_X5_tell (by decide) (by decide) ml_X10_230 ci_X5_tell cv_X5_tell (show Cond.initialized (yX5_tell).cls ∈ am_ts from ci9_RX5) ⟨by decide +kernel, by decide +kernel, by decide +kernel⟩ rfl (by decide +kernel)))⟩,
  List.forall_mem_cons.mpr ⟨⟨mo_reti, Or.inr (Or.inr (ok_reti rfl (by decide +kernel)))⟩,
  fun _ h => absurd h List.not_mem_nil⟩⟩⟩⟩⟩⟩⟩⟩⟩⟩⟩
def t_X10_chain : List (Nat × am_F) := t_X10_chain_0 ++ (t_X10_chain_1 ++ (t_X10_chain_2 ++ (t_X10_chain_3)))
theorem o_X10_chain : ∀ q ∈ t_X10_chain, am_ok vwCl q_SH ξ (q_E ξ β xs L) q_EN q_KD q_ML (cX10_chain, 10, RX10, "chain", (some .int), []) q.1 q.2 := List.forall_mem_append.mpr ⟨o_X10_chain_0, List.forall_mem_append.mpr ⟨o_X10_chain_1, List.forall_mem_append.mpr ⟨o_X10_chain_2, o_X10_chain_3⟩⟩⟩
def t_X10_times_0 : List (Nat × am_F) := [(0, im_il 4 2), (2, im_ic 2 3), (3, im_invs 91 2 6), (6, im_al 0 7), (7, im_il 1 8), (8, im_il 2 9), (9, im_il 3 10), (10, im_il 5 12), (12, im_inv q_SH 10 94 4 15), (15, im_al 0 16), (16, im_gr q_SH 10 5 19), (19, im_il 5 21), (21, im_inv q_SH 2 13 1 24), (24, im_al 0 25), (25, im_gr q_SH 10 6 28), (28, im_ic 0 29), (29, im_il 3 30), (30, im_ic (-1) 31), (31, im_inv q_SH 9 52 3 34), (34, im_il 1 35)]
set_option maxRecDepth 20000 in
theorem o_X10_times_0 : ∀ q ∈ t_X10_times_0, am_ok vwCl q_SH ξ (q_E ξ β xs L) q_EN q_KD q_ML (cX10_times, 7, RX10, "times", (some .int), []) q.1 q.2 :=
  List.forall_mem_cons.mpr ⟨⟨mo_il _ _, Or.inl (ok_iload (by decide +kernel))⟩,
  List.forall_mem_cons.mpr ⟨⟨mo_ic _ _, Or.inl (ok_iconst (n := 2) (v := 2) (by decide) (by decide +kernel))⟩,
  List.forall_mem_cons.mpr ⟨⟨mo_invs _ _ _, Or.inr (Or.inl (ok_invs cw_X10_needNumber (by decide) (by decide) ml_X10_102 cs_X10_needNumber (show Cond.initialized (yX10_needNumber).cls ∈ am_ts from ci9_RX10) ⟨by decide +kernel, by decide +kernel, by decide +kernel⟩ rfl (by decide +kernel)))⟩,
  List.forall_mem_cons.mpr ⟨⟨mo_al _ _, Or.inl (ok_aload_n (k := 0) rfl (by decide +kernel))⟩,
  List.forall_mem_cons.mpr ⟨⟨mo_il _ _, Or.inl (ok_iload_n (k := 1) rfl (by decide +kernel))⟩,
  List.forall_mem_cons.mpr ⟨⟨mo_il _ _, Or.inl (ok_iload_n (k := 2) rfl (by decide +kernel))⟩,
  List.forall_mem_cons.mpr ⟨⟨mo_il _ _, Or.inl (ok_iload_n (k := 3) rfl (by decide +kernel))⟩,
  List.forall_mem_cons.mpr ⟨⟨mo_il _ _, Or.inl (ok_iload (by decide +kernel))⟩,
  List.forall_mem_cons.mpr ⟨⟨mo_inv _ _ _ _ _, Or.inr (Or.inl (ok_inv (T := TX10) (N := 12) rfl cw_X10_needBond (by decide) (by decide) ml_X10_194 ci_X10_needBond cv_X10_needBond (show Cond.initialized (yX10_needBond).cls ∈ am_ts from ci9_RX10) ⟨by decide +kernel, by decide +kernel, by decide +kernel⟩ rfl (by decide +kernel)))⟩,
  List.forall_mem_cons.mpr ⟨⟨mo_al _ _, Or.inl (ok_aload_n (k := 0) rfl (by decide +kernel))⟩,
  List.forall_mem_cons.mpr ⟨⟨mo_gr _ _ _ _, Or.inl (ok_gr (C := RX10) (T := TX10) (N := 12) (ci := 10) (k := 5) rfl inX10 (by decide) fl_X10_51 (by decide +kernel) (by decide +kernel))⟩,
  List.forall_mem_cons.mpr ⟨⟨mo_il _ _, Or.inl (ok_iload (by decide +kernel))⟩,
  List.forall_mem_cons.mpr ⟨⟨mo_inv _ _ _ _ _, Or.inr (Or.inl (ok_inv (T := TX2) (N := 7) rfl cw_X2_find (by decide) (by decide) ml_X10_184 ci_X2_find cv_X2_find (show Cond.initialized (yX2_find).cls ∈ am_ts from ci9_RX2) ⟨by decide +kernel, by decide +kernel, by decide +kernel⟩ rfl (by decide +kernel)))⟩,
  List.forall_mem_cons.mpr ⟨⟨mo_al _ _, Or.inl (ok_aload_n (k := 0) rfl (by decide +kernel))⟩,
  List.forall_mem_cons.mpr ⟨⟨mo_gr _ _ _ _, Or.inl (ok_gr (C := RX10) (T := TX10) (N := 12) (ci := 10) (k := 6) rfl inX10 (by decide) fl_X10_60 (by decide +kernel) (by decide +kernel))⟩,
  List.forall_mem_cons.mpr ⟨⟨mo_ic _ _, Or.inl (ok_iconst (n := 0) (v := 0) (by decide) (by decide +kernel))⟩,
  List.forall_mem_cons.mpr ⟨⟨mo_il _ _, Or.inl (ok_iload_n (k := 3) rfl (by decide +kernel))⟩,
  List.forall_mem_cons.mpr ⟨⟨mo_ic _ _, Or.inl (ok_iconst (n := (-1)) (v := (-1)) (by decide) (by decide +kernel))⟩,
  List.forall_mem_cons.mpr ⟨⟨mo_inv _ _ _ _ _, Or.inr (Or.inl (ok_inv (T := TX9) (N := 20) rfl cw_X9_live (by decide) (by decide) ml_X10_211 ci_X9_live cv_X9_live (show Cond.initialized (yX9_live).cls ∈ am_ts from ci9_RX9) ⟨by decide +kernel, by decide +kernel, by decide +kernel⟩ rfl (by decide +kernel)))⟩,
  List.forall_mem_cons.mpr ⟨⟨mo_il _ _, Or.inl (ok_iload_n (k := 1) rfl (by decide +kernel))⟩,
  fun _ h => absurd h List.not_mem_nil⟩⟩⟩⟩⟩⟩⟩⟩⟩⟩⟩⟩⟩⟩⟩⟩⟩⟩⟩⟩
def t_X10_times_1 : List (Nat × am_F) := [(35, im_ic 5 36), (36, im_bin (fun x y => x * y) 37), (37, im_il 2 38), (38, im_bin (fun x y => x + y) 39), (39, im_is 6 41), (41, im_il 4 43), (43, im_if1 ib_ne 62 46), (46, im_al 0 47), (47, im_gr q_SH 10 6 50), (50, im_gr q_SH 9 7 53), (53, im_gr q_SH 5 1 56), (56, im_il 6 58), (58, im_ald q_SH .int 59), (59, im_go 75), (62, im_al 0 63), (63, im_gr q_SH 10 6 66), (66, im_gr q_SH 9 7 69), (69, im_gr q_SH 5 2 72), (72, im_il 6 74), (74, im_ald q_SH .int 75)]
set_option maxRecDepth 20000 in
theorem o_X10_times_1 : ∀ q ∈ t_X10_times_1, am_ok vwCl q_SH ξ (q_E ξ β xs L) q_EN q_KD q_ML (cX10_times, 7, RX10, "times", (some .int), []) q.1 q.2 :=
  List.forall_mem_cons.mpr ⟨⟨mo_ic _ _, Or.inl (ok_iconst (n := 5) (v := 5) (by decide) (by decide +kernel))⟩,
  List.forall_mem_cons.mpr ⟨⟨mo_bin _ _, Or.inl (ok_imul (by decide +kernel))⟩,
  List.forall_mem_cons.mpr ⟨⟨mo_il _ _, Or.inl (ok_iload_n (k := 2) rfl (by decide +kernel))⟩,
  List.forall_mem_cons.mpr ⟨⟨mo_bin _ _, Or.inl (ok_iadd (by decide +kernel))⟩,
  List.forall_mem_cons.mpr ⟨⟨mo_is _ _, Or.inl (ok_istore (by decide) (by decide +kernel))⟩,
  List.forall_mem_cons.mpr ⟨⟨mo_il _ _, Or.inl (ok_iload (by decide +kernel))⟩,
  List.forall_mem_cons.mpr ⟨⟨mo_if1 _ _ _, Or.inl (ok_if_ne (off := 19) (by decide) (by decide +kernel))⟩,
  List.forall_mem_cons.mpr ⟨⟨mo_al _ _, Or.inl (ok_aload_n (k := 0) rfl (by decide +kernel))⟩,
  List.forall_mem_cons.mpr ⟨⟨mo_gr _ _ _ _, Or.inl (ok_gr (C := RX10) (T := TX10) (N := 12) (ci := 10) (k := 6) rfl inX10 (by decide) fl_X10_60 (by decide +kernel) (by decide +kernel))⟩,
  List.forall_mem_cons.mpr ⟨⟨mo_gr _ _ _ _, Or.inl (ok_gr (C := RX9) (T := TX9) (N := 20) (ci := 9) (k := 7) rfl inX9 (by decide) fl_X10_218 (by decide +kernel) (by decide +kernel))⟩,
  List.forall_mem_cons.mpr ⟨⟨mo_gr _ _ _ _, Or.inl (ok_gr (C := RX5) (T := TX5) (N := 5) (ci := 5) (k := 1) rfl inX5 (by decide) fl_X10_234 (by decide +kernel) (by decide +kernel))⟩,
  List.forall_mem_cons.mpr ⟨⟨mo_il _ _, Or.inl (ok_iload (by decide +kernel))⟩,
  List.forall_mem_cons.mpr ⟨⟨mo_ald _ _ _, Or.inl (ok_iald (by decide +kernel))⟩,
  List.forall_mem_cons.mpr ⟨⟨mo_go _, Or.inl (ok_goto (off := 16) (by decide) (by decide +kernel))⟩,
  List.forall_mem_cons.mpr ⟨⟨mo_al _ _, Or.inl (ok_aload_n (k := 0) rfl (by decide +kernel))⟩,
  List.forall_mem_cons.mpr ⟨⟨mo_gr _ _ _ _, Or.inl (ok_gr (C := RX10) (T := TX10) (N := 12) (ci := 10) (k := 6) rfl inX10 (by decide) fl_X10_60 (by decide +kernel) (by decide +kernel))⟩,
  List.forall_mem_cons.mpr ⟨⟨mo_gr _ _ _ _, Or.inl (ok_gr (C := RX9) (T := TX9) (N := 20) (ci := 9) (k := 7) rfl inX9 (by decide) fl_X10_218 (by decide +kernel) (by decide +kernel))⟩,
  List.forall_mem_cons.mpr ⟨⟨mo_gr _ _ _ _, Or.inl (ok_gr (C := RX5) (T := TX5) (N := 5) (ci := 5) (k := 2) rfl inX5 (by decide) fl_X10_237 (by decide +kernel) (by decide +kernel))⟩,
  List.forall_mem_cons.mpr ⟨⟨mo_il _ _, Or.inl (ok_iload (by decide +kernel))⟩,
  List.forall_mem_cons.mpr ⟨⟨mo_ald _ _ _, Or.inl (ok_iald (by decide +kernel))⟩,
  fun _ h => absurd h List.not_mem_nil⟩⟩⟩⟩⟩⟩⟩⟩⟩⟩⟩⟩⟩⟩⟩⟩⟩⟩⟩⟩
def t_X10_times_2 : List (Nat × am_F) := [(75, im_reti)]
set_option maxRecDepth 20000 in
theorem o_X10_times_2 : ∀ q ∈ t_X10_times_2, am_ok vwCl q_SH ξ (q_E ξ β xs L) q_EN q_KD q_ML (cX10_times, 7, RX10, "times", (some .int), []) q.1 q.2 :=
  List.forall_mem_cons.mpr ⟨⟨mo_reti, Or.inr (Or.inr (ok_reti rfl (by decide +kernel)))⟩,
  fun _ h => absurd h List.not_mem_nil⟩
def t_X10_times : List (Nat × am_F) := t_X10_times_0 ++ (t_X10_times_1 ++ (t_X10_times_2))
theorem o_X10_times : ∀ q ∈ t_X10_times, am_ok vwCl q_SH ξ (q_E ξ β xs L) q_EN q_KD q_ML (cX10_times, 7, RX10, "times", (some .int), []) q.1 q.2 := List.forall_mem_append.mpr ⟨o_X10_times_0, List.forall_mem_append.mpr ⟨o_X10_times_1, o_X10_times_2⟩⟩
def t_X10_ifStruck_0 : List (Nat × am_F) := [(0, im_il 1 1), (1, im_al 0 2), (2, im_gr q_SH 10 3 5), (5, im_gi q_SH 0 15 8), (8, im_invs 91 2 11), (11, im_il 2 12), (12, im_invs 92 1 15), (15, im_il 3 16), (16, im_ic 2 17), (17, im_invs 91 2 20), (20, im_al 0 21), (21, im_il 4 23), (23, im_inv q_SH 10 93 1 26), (26, im_al 0 27), (27, im_gr q_SH 10 3 30), (30, im_il 4 32), (32, im_inv q_SH 0 1 1 35), (35, im_il 1 36), (36, im_bin (fun x y => x >>> (y &&& 31)) 37), (37, im_ic 1 38)]
set_option maxRecDepth 20000 in
theorem o_X10_ifStruck_0 : ∀ q ∈ t_X10_ifStruck_0, am_ok vwCl q_SH ξ (q_E ξ β xs L) q_EN q_KD q_ML (cX10_ifStruck, 7, RX10, "ifStruck", (some .int), []) q.1 q.2 :=
  List.forall_mem_cons.mpr ⟨⟨mo_il _ _, Or.inl (ok_iload_n (k := 1) rfl (by decide +kernel))⟩,
  List.forall_mem_cons.mpr ⟨⟨mo_al _ _, Or.inl (ok_aload_n (k := 0) rfl (by decide +kernel))⟩,
  List.forall_mem_cons.mpr ⟨⟨mo_gr _ _ _ _, Or.inl (ok_gr (C := RX10) (T := TX10) (N := 12) (ci := 10) (k := 3) rfl inX10 (by decide) fl_X10_33 (by decide +kernel) (by decide +kernel))⟩,
  List.forall_mem_cons.mpr ⟨⟨mo_gi _ _ _ _, Or.inl (ok_gi (C := RX0) (T := TX0) (N := 16) (ci := 0) (k := 15) rfl inX0 (by decide) fl_X10_141 (by decide +kernel) (by decide +kernel))⟩,
  List.forall_mem_cons.mpr ⟨⟨mo_invs _ _ _, Or.inr (Or.inl (ok_invs cw_X10_needNumber (by decide) (by decide) ml_X10_102 cs_X10_needNumber (show Cond.initialized (yX10_needNumber).cls ∈ am_ts from ci9_RX10) ⟨by decide +kernel, by decide +kernel, by decide +kernel⟩ rfl (by decide +kernel)))⟩,
  List.forall_mem_cons.mpr ⟨⟨mo_il _ _, Or.inl (ok_iload_n (k := 2) rfl (by decide +kernel))⟩,
  List.forall_mem_cons.mpr ⟨⟨mo_invs _ _ _, Or.inr (Or.inl (ok_invs cw_X10_needDay (by decide) (by decide) ml_X10_167 cs_X10_needDay (show Cond.initialized (yX10_needDay).cls ∈ am_ts from ci9_RX10) ⟨by decide +kernel, by decide +kernel, by decide +kernel⟩ rfl (by decide +kernel)))⟩,
  List.forall_mem_cons.mpr ⟨⟨mo_il _ _, Or.inl (ok_iload_n (k := 3) rfl (by decide +kernel))⟩,
  List.forall_mem_cons.mpr ⟨⟨mo_ic _ _, Or.inl (ok_iconst (n := 2) (v := 2) (by decide) (by decide +kernel))⟩,
  List.forall_mem_cons.mpr ⟨⟨mo_invs _ _ _, Or.inr (Or.inl (ok_invs cw_X10_needNumber (by decide) (by decide) ml_X10_102 cs_X10_needNumber (show Cond.initialized (yX10_needNumber).cls ∈ am_ts from ci9_RX10) ⟨by decide +kernel, by decide +kernel, by decide +kernel⟩ rfl (by decide +kernel)))⟩,
  List.forall_mem_cons.mpr ⟨⟨mo_al _ _, Or.inl (ok_aload_n (k := 0) rfl (by decide +kernel))⟩,
  List.forall_mem_cons.mpr ⟨⟨mo_il _ _, Or.inl (ok_iload (by decide +kernel))⟩,
  List.forall_mem_cons.mpr ⟨⟨mo_inv _ _ _ _ _, Or.inr (Or.inl (ok_inv (T := TX10) (N := 12) rfl cw_X10_needEvening (by decide) (by decide) ml_X10_170 ci_X10_needEvening cv_X10_needEvening (show Cond.initialized (yX10_needEvening).cls ∈ am_ts from ci9_RX10) ⟨by decide +kernel, by decide +kernel, by decide +kernel⟩ rfl (by decide +kernel)))⟩,
  List.forall_mem_cons.mpr ⟨⟨mo_al _ _, Or.inl (ok_aload_n (k := 0) rfl (by decide +kernel))⟩,
  List.forall_mem_cons.mpr ⟨⟨mo_gr _ _ _ _, Or.inl (ok_gr (C := RX10) (T := TX10) (N := 12) (ci := 10) (k := 3) rfl inX10 (by decide) fl_X10_33 (by decide +kernel) (by decide +kernel))⟩,
  List.forall_mem_cons.mpr ⟨⟨mo_il _ _, Or.inl (ok_iload (by decide +kernel))⟩,
  List.forall_mem_cons.mpr ⟨⟨mo_inv _ _ _ _ _, Or.inr (Or.inl (ok_inv (T := TX0) (N := 16) rfl cw_X0_known (by decide) (by decide) ml_X10_173 ci_X0_known cv_X0_known (show Cond.initialized (yX0_known).cls ∈ am_ts from ci9_RX0) ⟨by decide +kernel, by decide +kernel, by decide +kernel⟩ rfl (by decide +kernel)))⟩,
  List.forall_mem_cons.mpr ⟨⟨mo_il _ _, Or.inl (ok_iload_n (k := 1) rfl (by decide +kernel))⟩,
  List.forall_mem_cons.mpr ⟨⟨mo_bin _ _, Or.inl (ok_ishr (by decide +kernel))⟩,
  List.forall_mem_cons.mpr ⟨⟨mo_ic _ _, Or.inl (ok_iconst (n := 1) (v := 1) (by decide) (by decide +kernel))⟩,
  fun _ h => absurd h List.not_mem_nil⟩⟩⟩⟩⟩⟩⟩⟩⟩⟩⟩⟩⟩⟩⟩⟩⟩⟩⟩⟩
def t_X10_ifStruck_1 : List (Nat × am_F) := [(38, im_bin (fun x y => x &&& y) 39), (39, im_if1 ib_ne 44 42), (42, im_ic 0 43), (43, im_reti), (44, im_al 0 45), (45, im_gr q_SH 10 5 48), (48, im_il 4 50), (50, im_inv q_SH 2 13 1 53), (53, im_al 0 54), (54, im_gr q_SH 10 6 57), (57, im_ic 0 58), (58, im_il 2 59), (59, im_ic (-1) 60), (60, im_inv q_SH 9 52 3 63), (63, im_al 0 64), (64, im_gr q_SH 10 6 67), (67, im_al 0 68), (68, im_gr q_SH 10 3 71), (71, im_gr q_SH 0 0 74), (74, im_il 1 75)]
set_option maxRecDepth 20000 in
theorem o_X10_ifStruck_1 : ∀ q ∈ t_X10_ifStruck_1, am_ok vwCl q_SH ξ (q_E ξ β xs L) q_EN q_KD q_ML (cX10_ifStruck, 7, RX10, "ifStruck", (some .int), []) q.1 q.2 :=
  List.forall_mem_cons.mpr ⟨⟨mo_bin _ _, Or.inl (ok_iand (by decide +kernel))⟩,
  List.forall_mem_cons.mpr ⟨⟨mo_if1 _ _ _, Or.inl (ok_if_ne (off := 5) (by decide) (by decide +kernel))⟩,
  List.forall_mem_cons.mpr ⟨⟨mo_ic _ _, Or.inl (ok_iconst (n := 0) (v := 0) (by decide) (by decide +kernel))⟩,
  List.forall_mem_cons.mpr ⟨⟨mo_reti, Or.inr (Or.inr (ok_reti rfl (by decide +kernel)))⟩,
  List.forall_mem_cons.mpr ⟨⟨mo_al _ _, Or.inl (ok_aload_n (k := 0) rfl (by decide +kernel))⟩,
  List.forall_mem_cons.mpr ⟨⟨mo_gr _ _ _ _, Or.inl (ok_gr (C := RX10) (T := TX10) (N := 12) (ci := 10) (k := 5) rfl inX10 (by decide) fl_X10_51 (by decide +kernel) (by decide +kernel))⟩,
  List.forall_mem_cons.mpr ⟨⟨mo_il _ _, Or.inl (ok_iload (by decide +kernel))⟩,
  List.forall_mem_cons.mpr ⟨⟨mo_inv _ _ _ _ _, Or.inr (Or.inl (ok_inv (T := TX2) (N := 7) rfl cw_X2_find (by decide) (by decide) ml_X10_184 ci_X2_find cv_X2_find (show Cond.initialized (yX2_find).cls ∈ am_ts from ci9_RX2) ⟨by decide +kernel, by decide +kernel, by decide +kernel⟩ rfl (by decide +kernel)))⟩,
  List.forall_mem_cons.mpr ⟨⟨mo_al _ _, Or.inl (ok_aload_n (k := 0) rfl (by decide +kernel))⟩,
  List.forall_mem_cons.mpr ⟨⟨mo_gr _ _ _ _, Or.inl (ok_gr (C := RX10) (T := TX10) (N := 12) (ci := 10) (k := 6) rfl inX10 (by decide) fl_X10_60 (by decide +kernel) (by decide +kernel))⟩,
  List.forall_mem_cons.mpr ⟨⟨mo_ic _ _, Or.inl (ok_iconst (n := 0) (v := 0) (by decide) (by decide +kernel))⟩,
  List.forall_mem_cons.mpr ⟨⟨mo_il _ _, Or.inl (ok_iload_n (k := 2) rfl (by decide +kernel))⟩,
  List.forall_mem_cons.mpr ⟨⟨mo_ic _ _, Or.inl (ok_iconst (n := (-1)) (v := (-1)) (by decide) (by decide +kernel))⟩,
  List.forall_mem_cons.mpr ⟨⟨mo_inv _ _ _ _ _, Or.inr (Or.inl (ok_inv (T := TX9) (N := 20) rfl cw_X9_live (by decide) (by decide) ml_X10_211 ci_X9_live cv_X9_live (show Cond.initialized (yX9_live).cls ∈ am_ts from ci9_RX9) ⟨by decide +kernel, by decide +kernel, by decide +kernel⟩ rfl (by decide +kernel)))⟩,
  List.forall_mem_cons.mpr ⟨⟨mo_al _ _, Or.inl (ok_aload_n (k := 0) rfl (by decide +kernel))⟩,
  List.forall_mem_cons.mpr ⟨⟨mo_gr _ _ _ _, Or.inl (ok_gr (C := RX10) (T := TX10) (N := 12) (ci := 10) (k := 6) rfl inX10 (by decide) fl_X10_60 (by decide +kernel) (by decide +kernel))⟩,
  List.forall_mem_cons.mpr ⟨⟨mo_al _ _, Or.inl (ok_aload_n (k := 0) rfl (by decide +kernel))⟩,
  List.forall_mem_cons.mpr ⟨⟨mo_gr _ _ _ _, Or.inl (ok_gr (C := RX10) (T := TX10) (N := 12) (ci := 10) (k := 3) rfl inX10 (by decide) fl_X10_33 (by decide +kernel) (by decide +kernel))⟩,
  List.forall_mem_cons.mpr ⟨⟨mo_gr _ _ _ _, Or.inl (ok_gr (C := RX0) (T := TX0) (N := 16) (ci := 0) (k := 0) rfl inX0 (by decide) fl_X10_240 (by decide +kernel) (by decide +kernel))⟩,
  List.forall_mem_cons.mpr ⟨⟨mo_il _ _, Or.inl (ok_iload_n (k := 1) rfl (by decide +kernel))⟩,
  fun _ h => absurd h List.not_mem_nil⟩⟩⟩⟩⟩⟩⟩⟩⟩⟩⟩⟩⟩⟩⟩⟩⟩⟩⟩⟩
def t_X10_ifStruck_2 : List (Nat × am_F) := [(75, im_ald q_SH .int 76), (76, im_inv q_SH 9 53 1 79), (79, im_is 5 81), (81, im_al 0 82), (82, im_gr q_SH 10 6 85), (85, im_ic 0 86), (86, im_il 2 87), (87, im_il 1 88), (88, im_inv q_SH 9 52 3 91), (91, im_al 0 92), (92, im_gr q_SH 10 6 95), (95, im_al 0 96), (96, im_gr q_SH 10 3 99), (99, im_gr q_SH 0 0 102), (102, im_il 1 103), (103, im_ald q_SH .int 104), (104, im_inv q_SH 9 53 1 107), (107, im_is 6 109), (109, im_il 3 110), (110, im_if1 ib_ne 123 113)]
set_option maxRecDepth 20000 in
theorem o_X10_ifStruck_2 : ∀ q ∈ t_X10_ifStruck_2, am_ok vwCl q_SH ξ (q_E ξ β xs L) q_EN q_KD q_ML (cX10_ifStruck, 7, RX10, "ifStruck", (some .int), []) q.1 q.2 :=
  List.forall_mem_cons.mpr ⟨⟨mo_ald _ _ _, Or.inl (ok_iald (by decide +kernel))⟩,
  List.forall_mem_cons.mpr ⟨⟨mo_inv _ _ _ _ _, Or.inr (Or.inl (ok_inv (T := TX9) (N := 20) rfl cw_X9_holders (by decide) (by decide) ml_X10_243 ci_X9_holders cv_X9_holders (show Cond.initialized (yX9_holders).cls ∈ am_ts from ci9_RX9) ⟨by decide +kernel, by decide +kernel, by decide +kernel⟩ rfl (by decide +kernel)))⟩,
  List.forall_mem_cons.mpr ⟨⟨mo_is _ _, Or.inl (ok_istore (by decide) (by decide +kernel))⟩,
  List.forall_mem_cons.mpr ⟨⟨mo_al _ _, Or.inl (ok_aload_n (k := 0) rfl (by decide +kernel))⟩,
  List.forall_mem_cons.mpr ⟨⟨mo_gr _ _ _ _, Or.inl (ok_gr (C := RX10) (T := TX10) (N := 12) (ci := 10) (k := 6) rfl inX10 (by decide) fl_X10_60 (by decide +kernel) (by decide +kernel))⟩,
  List.forall_mem_cons.mpr ⟨⟨mo_ic _ _, Or.inl (ok_iconst (n := 0) (v := 0) (by decide) (by decide +kernel))⟩,
  List.forall_mem_cons.mpr ⟨⟨mo_il _ _, Or.inl (ok_iload_n (k := 2) rfl (by decide +kernel))⟩,
  List.forall_mem_cons.mpr ⟨⟨mo_il _ _, Or.inl (ok_iload_n (k := 1) rfl (by decide +kernel))⟩,
  List.forall_mem_cons.mpr ⟨⟨mo_inv _ _ _ _ _, Or.inr (Or.inl (ok_inv (T := TX9) (N := 20) rfl cw_X9_live (by decide) (by decide) ml_X10_211 ci_X9_live cv_X9_live (show Cond.initialized (yX9_live).cls ∈ am_ts from ci9_RX9) ⟨by decide +kernel, by decide +kernel, by decide +kernel⟩ rfl (by decide +kernel)))⟩,
  List.forall_mem_cons.mpr ⟨⟨mo_al _ _, Or.inl (ok_aload_n (k := 0) rfl (by decide +kernel))⟩,
  List.forall_mem_cons.mpr ⟨⟨mo_gr _ _ _ _, Or.inl (ok_gr (C := RX10) (T := TX10) (N := 12) (ci := 10) (k := 6) rfl inX10 (by decide) fl_X10_60 (by decide +kernel) (by decide +kernel))⟩,
  List.forall_mem_cons.mpr ⟨⟨mo_al _ _, Or.inl (ok_aload_n (k := 0) rfl (by decide +kernel))⟩,
  List.forall_mem_cons.mpr ⟨⟨mo_gr _ _ _ _, Or.inl (ok_gr (C := RX10) (T := TX10) (N := 12) (ci := 10) (k := 3) rfl inX10 (by decide) fl_X10_33 (by decide +kernel) (by decide +kernel))⟩,
  List.forall_mem_cons.mpr ⟨⟨mo_gr _ _ _ _, Or.inl (ok_gr (C := RX0) (T := TX0) (N := 16) (ci := 0) (k := 0) rfl inX0 (by decide) fl_X10_240 (by decide +kernel) (by decide +kernel))⟩,
  List.forall_mem_cons.mpr ⟨⟨mo_il _ _, Or.inl (ok_iload_n (k := 1) rfl (by decide +kernel))⟩,
  List.forall_mem_cons.mpr ⟨⟨mo_ald _ _ _, Or.inl (ok_iald (by decide +kernel))⟩,
  List.forall_mem_cons.mpr ⟨⟨mo_inv _ _ _ _ _, Or.inr (Or.inl (ok_inv (T := TX9) (N := 20) rfl cw_X9_holders (by decide) (by decide) ml_X10_243 ci_X9_holders cv_X9_holders (show Cond.initialized (yX9_holders).cls ∈ am_ts from ci9_RX9) ⟨by decide +kernel, by decide +kernel, by decide +kernel⟩ rfl (by decide +kernel)))⟩,
  List.forall_mem_cons.mpr ⟨⟨mo_is _ _, Or.inl (ok_istore (by decide) (by decide +kernel))⟩,
  List.forall_mem_cons.mpr ⟨⟨mo_il _ _, Or.inl (ok_iload_n (k := 3) rfl (by decide +kernel))⟩,
  List.forall_mem_cons.mpr ⟨⟨mo_if1 _ _ _, Or.inl (ok_if_ne (off := 13) (by decide) (by decide +kernel))⟩,
  fun _ h => absurd h List.not_mem_nil⟩⟩⟩⟩⟩⟩⟩⟩⟩⟩⟩⟩⟩⟩⟩⟩⟩⟩⟩⟩
def t_X10_ifStruck_3 : List (Nat × am_F) := [(113, im_il 6 115), (115, im_il 5 117), (117, im_ic (-1) 118), (118, im_bin (fun x y => x ^^^ y) 119), (119, im_bin (fun x y => x &&& y) 120), (120, im_go 130), (123, im_il 5 125), (125, im_il 6 127), (127, im_ic (-1) 128), (128, im_bin (fun x y => x ^^^ y) 129), (129, im_bin (fun x y => x &&& y) 130), (130, im_invs 200 1 133), (133, im_reti)]
set_option maxRecDepth 20000 in
theorem o_X10_ifStruck_3 : ∀ q ∈ t_X10_ifStruck_3, am_ok vwCl q_SH ξ (q_E ξ β xs L) q_EN q_KD q_ML (cX10_ifStruck, 7, RX10, "ifStruck", (some .int), []) q.1 q.2 :=
  List.forall_mem_cons.mpr ⟨⟨mo_il _ _, Or.inl (ok_iload (by decide +kernel))⟩,
  List.forall_mem_cons.mpr ⟨⟨mo_il _ _, Or.inl (ok_iload (by decide +kernel))⟩,
  List.forall_mem_cons.mpr ⟨⟨mo_ic _ _, Or.inl (ok_iconst (n := (-1)) (v := (-1)) (by decide) (by decide +kernel))⟩,
  List.forall_mem_cons.mpr ⟨⟨mo_bin _ _, Or.inl (ok_ixor (by decide +kernel))⟩,
  List.forall_mem_cons.mpr ⟨⟨mo_bin _ _, Or.inl (ok_iand (by decide +kernel))⟩,
  List.forall_mem_cons.mpr ⟨⟨mo_go _, Or.inl (ok_goto (off := 10) (by decide) (by decide +kernel))⟩,
  List.forall_mem_cons.mpr ⟨⟨mo_il _ _, Or.inl (ok_iload (by decide +kernel))⟩,
  List.forall_mem_cons.mpr ⟨⟨mo_il _ _, Or.inl (ok_iload (by decide +kernel))⟩,
  List.forall_mem_cons.mpr ⟨⟨mo_ic _ _, Or.inl (ok_iconst (n := (-1)) (v := (-1)) (by decide) (by decide +kernel))⟩,
  List.forall_mem_cons.mpr ⟨⟨mo_bin _ _, Or.inl (ok_ixor (by decide +kernel))⟩,
  List.forall_mem_cons.mpr ⟨⟨mo_bin _ _, Or.inl (ok_iand (by decide +kernel))⟩,
  List.forall_mem_cons.mpr ⟨⟨mo_invs _ _ _, Or.inr (Or.inl (ok_invs cw_J6_bitCount_0f7a4 (by decide) (by decide) ml_X10_246 cs_J6_bitCount_0f7a4 (show Cond.initialized (yJ6_bitCount_0f7a4).cls ∈ am_ts from ci9_RJ6) ⟨by decide +kernel, by decide +kernel, by decide +kernel⟩ rfl (by decide +kernel)))⟩,
  List.forall_mem_cons.mpr ⟨⟨mo_reti, Or.inr (Or.inr (ok_reti rfl (by decide +kernel)))⟩,
  fun _ h => absurd h List.not_mem_nil⟩⟩⟩⟩⟩⟩⟩⟩⟩⟩⟩⟩⟩
def t_X10_ifStruck : List (Nat × am_F) := t_X10_ifStruck_0 ++ (t_X10_ifStruck_1 ++ (t_X10_ifStruck_2 ++ (t_X10_ifStruck_3)))
theorem o_X10_ifStruck : ∀ q ∈ t_X10_ifStruck, am_ok vwCl q_SH ξ (q_E ξ β xs L) q_EN q_KD q_ML (cX10_ifStruck, 7, RX10, "ifStruck", (some .int), []) q.1 q.2 := List.forall_mem_append.mpr ⟨o_X10_ifStruck_0, List.forall_mem_append.mpr ⟨o_X10_ifStruck_1, List.forall_mem_append.mpr ⟨o_X10_ifStruck_2, o_X10_ifStruck_3⟩⟩⟩
def t_X10_count_0 : List (Nat × am_F) := [(0, im_il 1 1), (1, im_sw (q_sw 0 6 [44, 49, 57, 65, 73, 81, 89] 94)), (44, im_al 0 45), (45, im_gi q_SH 10 10 48), (48, im_reti), (49, im_al 0 50), (50, im_gr q_SH 10 0 53), (53, im_gi q_SH 8 2 56), (56, im_reti), (57, im_al 0 58), (58, im_gr q_SH 10 0 61), (61, im_gi q_SH 8 1 64), (64, im_reti), (65, im_al 0 66), (66, im_gr q_SH 10 1 69), (69, im_gi q_SH 7 3 72), (72, im_reti), (73, im_al 0 74), (74, im_gr q_SH 10 2 77), (77, im_gi q_SH 3 8 80)]
set_option maxRecDepth 20000 in
theorem o_X10_count_0 : ∀ q ∈ t_X10_count_0, am_ok vwCl q_SH ξ (q_E ξ β xs L) q_EN q_KD q_ML (cX10_count, 2, RX10, "count", (some .int), []) q.1 q.2 :=
  List.forall_mem_cons.mpr ⟨⟨mo_il _ _, Or.inl (ok_iload_n (k := 1) rfl (by decide +kernel))⟩,
  List.forall_mem_cons.mpr ⟨⟨mo_sw (q_sw 0 6 [44, 49, 57, 65, 73, 81, 89] 94), Or.inl (ok_tsw (dflt := 93) (offs := #[43, 48, 56, 64, 72, 80, 88]) (len := 43) (by decide) (by decide +kernel) (by decide) (by decide +kernel))⟩,
  List.forall_mem_cons.mpr ⟨⟨mo_al _ _, Or.inl (ok_aload_n (k := 0) rfl (by decide +kernel))⟩,
  List.forall_mem_cons.mpr ⟨⟨mo_gi _ _ _ _, Or.inl (ok_gi (C := RX10) (T := TX10) (N := 12) (ci := 10) (k := 10) rfl inX10 (by decide) fl_X10_125 (by decide +kernel) (by decide +kernel))⟩,
  List.forall_mem_cons.mpr ⟨⟨mo_reti, Or.inr (Or.inr (ok_reti rfl (by decide +kernel)))⟩,
  List.forall_mem_cons.mpr ⟨⟨mo_al _ _, Or.inl (ok_aload_n (k := 0) rfl (by decide +kernel))⟩,
  List.forall_mem_cons.mpr ⟨⟨mo_gr _ _ _ _, Or.inl (ok_gr (C := RX10) (T := TX10) (N := 12) (ci := 10) (k := 0) rfl inX10 (by decide) fl_X10_10 (by decide +kernel) (by decide +kernel))⟩,
  List.forall_mem_cons.mpr ⟨⟨mo_gi _ _ _ _, Or.inl (ok_gi (C := RX8) (T := TX8) (N := 3) (ci := 8) (k := 2) rfl inX8 (by decide) fl_X10_76 (by decide +kernel) (by decide +kernel))⟩,
  List.forall_mem_cons.mpr ⟨⟨mo_reti, Or.inr (Or.inr (ok_reti rfl (by decide +kernel)))⟩,
  List.forall_mem_cons.mpr ⟨⟨mo_al _ _, Or.inl (ok_aload_n (k := 0) rfl (by decide +kernel))⟩,
  List.forall_mem_cons.mpr ⟨⟨mo_gr _ _ _ _, Or.inl (ok_gr (C := RX10) (T := TX10) (N := 12) (ci := 10) (k := 0) rfl inX10 (by decide) fl_X10_10 (by decide +kernel) (by decide +kernel))⟩,
  List.forall_mem_cons.mpr ⟨⟨mo_gi _ _ _ _, Or.inl (ok_gi (C := RX8) (T := TX8) (N := 3) (ci := 8) (k := 1) rfl inX8 (by decide) fl_X10_82 (by decide +kernel) (by decide +kernel))⟩,
  List.forall_mem_cons.mpr ⟨⟨mo_reti, Or.inr (Or.inr (ok_reti rfl (by decide +kernel)))⟩,
  List.forall_mem_cons.mpr ⟨⟨mo_al _ _, Or.inl (ok_aload_n (k := 0) rfl (by decide +kernel))⟩,
  List.forall_mem_cons.mpr ⟨⟨mo_gr _ _ _ _, Or.inl (ok_gr (C := RX10) (T := TX10) (N := 12) (ci := 10) (k := 1) rfl inX10 (by decide) fl_X10_19 (by decide +kernel) (by decide +kernel))⟩,
  List.forall_mem_cons.mpr ⟨⟨mo_gi _ _ _ _, Or.inl (ok_gi (C := RX7) (T := TX7) (N := 4) (ci := 7) (k := 3) rfl inX7 (by decide) fl_X10_92 (by decide +kernel) (by decide +kernel))⟩,
  List.forall_mem_cons.mpr ⟨⟨mo_reti, Or.inr (Or.inr (ok_reti rfl (by decide +kernel)))⟩,
  List.forall_mem_cons.mpr ⟨⟨mo_al _ _, Or.inl (ok_aload_n (k := 0) rfl (by decide +kernel))⟩,
  List.forall_mem_cons.mpr ⟨⟨mo_gr _ _ _ _, Or.inl (ok_gr (C := RX10) (T := TX10) (N := 12) (ci := 10) (k := 2) rfl inX10 (by decide) fl_X10_26 (by decide +kernel) (by decide +kernel))⟩,
  List.forall_mem_cons.mpr ⟨⟨mo_gi _ _ _ _, Or.inl (ok_gi (C := RX3) (T := TX3) (N := 9) (ci := 3) (k := 8) rfl inX3 (by decide) fl_X10_106 (by decide +kernel) (by decide +kernel))⟩,
  fun _ h => absurd h List.not_mem_nil⟩⟩⟩⟩⟩⟩⟩⟩⟩⟩⟩⟩⟩⟩⟩⟩⟩⟩⟩⟩
def t_X10_count_1 : List (Nat × am_F) := [(80, im_reti), (81, im_al 0 82), (82, im_gr q_SH 10 3 85), (85, im_gi q_SH 0 15 88), (88, im_reti), (89, im_al 0 90), (90, im_gi q_SH 10 9 93), (93, im_reti), (94, im_thr 1)]
set_option maxRecDepth 20000 in
theorem o_X10_count_1 : ∀ q ∈ t_X10_count_1, am_ok vwCl q_SH ξ (q_E ξ β xs L) q_EN q_KD q_ML (cX10_count, 2, RX10, "count", (some .int), []) q.1 q.2 :=
  List.forall_mem_cons.mpr ⟨⟨mo_reti, Or.inr (Or.inr (ok_reti rfl (by decide +kernel)))⟩,
  List.forall_mem_cons.mpr ⟨⟨mo_al _ _, Or.inl (ok_aload_n (k := 0) rfl (by decide +kernel))⟩,
  List.forall_mem_cons.mpr ⟨⟨mo_gr _ _ _ _, Or.inl (ok_gr (C := RX10) (T := TX10) (N := 12) (ci := 10) (k := 3) rfl inX10 (by decide) fl_X10_33 (by decide +kernel) (by decide +kernel))⟩,
  List.forall_mem_cons.mpr ⟨⟨mo_gi _ _ _ _, Or.inl (ok_gi (C := RX0) (T := TX0) (N := 16) (ci := 0) (k := 15) rfl inX0 (by decide) fl_X10_141 (by decide +kernel) (by decide +kernel))⟩,
  List.forall_mem_cons.mpr ⟨⟨mo_reti, Or.inr (Or.inr (ok_reti rfl (by decide +kernel)))⟩,
  List.forall_mem_cons.mpr ⟨⟨mo_al _ _, Or.inl (ok_aload_n (k := 0) rfl (by decide +kernel))⟩,
  List.forall_mem_cons.mpr ⟨⟨mo_gi _ _ _ _, Or.inl (ok_gi (C := RX10) (T := TX10) (N := 12) (ci := 10) (k := 9) rfl inX10 (by decide) fl_X10_146 (by decide +kernel) (by decide +kernel))⟩,
  List.forall_mem_cons.mpr ⟨⟨mo_reti, Or.inr (Or.inr (ok_reti rfl (by decide +kernel)))⟩,
  List.forall_mem_cons.mpr ⟨⟨mo_thr _, Or.inr (Or.inr (ok_thr (x := 1) (names := ["java/lang/RuntimeException", "java/lang/Exception"]) rfl rfl (by decide) (by decide +kernel) (by decide +kernel) (am_in3 48 rfl rfl) (am_in1 16 rfl rfl) (by decide +kernel) (by decide +kernel) (fun _ _ _ h => q_bad1_253 h) (fun _ _ _ h => q_U h) (fun _ _ _ h => q_N h) (by decide +kernel) (by decide +kernel) (by decide +kernel) (by decide +kernel)))⟩,
  fun _ h => absurd h List.not_mem_nil⟩⟩⟩⟩⟩⟩⟩⟩⟩
def t_X10_count : List (Nat × am_F) := t_X10_count_0 ++ (t_X10_count_1)
theorem o_X10_count : ∀ q ∈ t_X10_count, am_ok vwCl q_SH ξ (q_E ξ β xs L) q_EN q_KD q_ML (cX10_count, 2, RX10, "count", (some .int), []) q.1 q.2 := List.forall_mem_append.mpr ⟨o_X10_count_0, o_X10_count_1⟩
def t_X10_needNumber_0 : List (Nat × am_F) := [(0, im_il 0 1), (1, im_if1 ib_lt 9 4), (4, im_il 0 5), (5, im_il 1 6), (6, im_if2 ic_lt 17 9), (9, im_thr 1), (17, im_ret0e)]
set_option maxRecDepth 20000 in
theorem o_X10_needNumber_0 : ∀ q ∈ t_X10_needNumber_0, am_ok vwCl q_SH ξ (q_E ξ β xs L) q_EN q_KD q_ML (cX10_needNumber, 2, RX10, "needNumber", none, []) q.1 q.2 :=
  List.forall_mem_cons.mpr ⟨⟨mo_il _ _, Or.inl (ok_iload_n (k := 0) rfl (by decide +kernel))⟩,
  List.forall_mem_cons.mpr ⟨⟨mo_if1 _ _ _, Or.inl (ok_if_lt (off := 8) (by decide) (by decide +kernel))⟩,
  List.forall_mem_cons.mpr ⟨⟨mo_il _ _, Or.inl (ok_iload_n (k := 0) rfl (by decide +kernel))⟩,
  List.forall_mem_cons.mpr ⟨⟨mo_il _ _, Or.inl (ok_iload_n (k := 1) rfl (by decide +kernel))⟩,
  List.forall_mem_cons.mpr ⟨⟨mo_if2 _ _ _, Or.inl (ok_icmp_lt (off := 11) (by decide) (by decide +kernel))⟩,
  List.forall_mem_cons.mpr ⟨⟨mo_thr _, Or.inr (Or.inr (ok_thr (x := 1) (names := ["java/lang/RuntimeException", "java/lang/Exception"]) rfl rfl (by decide) (by decide +kernel) (by decide +kernel) (am_in3 48 rfl rfl) (am_in1 16 rfl rfl) (by decide +kernel) (by decide +kernel) (fun _ _ _ h => q_bad1_253 h) (fun _ _ _ h => q_U h) (fun _ _ _ h => q_N h) (by decide +kernel) (by decide +kernel) (by decide +kernel) (by decide +kernel)))⟩,
  List.forall_mem_cons.mpr ⟨⟨mo_ret0e, Or.inr (Or.inr (ok_ret0 rfl (by decide +kernel)))⟩,
  fun _ h => absurd h List.not_mem_nil⟩⟩⟩⟩⟩⟩⟩
def t_X10_needNumber : List (Nat × am_F) := t_X10_needNumber_0
theorem o_X10_needNumber : ∀ q ∈ t_X10_needNumber, am_ok vwCl q_SH ξ (q_E ξ β xs L) q_EN q_KD q_ML (cX10_needNumber, 2, RX10, "needNumber", none, []) q.1 q.2 := o_X10_needNumber_0
def t_X10_needDay_0 : List (Nat × am_F) := [(0, im_il 0 1), (1, im_invs 95 1 4), (4, im_if1 ib_ne 15 7), (7, im_thr 1), (15, im_ret0e)]
set_option maxRecDepth 20000 in
theorem o_X10_needDay_0 : ∀ q ∈ t_X10_needDay_0, am_ok vwCl q_SH ξ (q_E ξ β xs L) q_EN q_KD q_ML (cX10_needDay, 1, RX10, "needDay", none, []) q.1 q.2 :=
  List.forall_mem_cons.mpr ⟨⟨mo_il _ _, Or.inl (ok_iload_n (k := 0) rfl (by decide +kernel))⟩,
  List.forall_mem_cons.mpr ⟨⟨mo_invs _ _ _, Or.inr (Or.inl (ok_invs cw_X10_isDay (by decide) (by decide) ml_X10_107 cs_X10_isDay (show Cond.initialized (yX10_isDay).cls ∈ am_ts from ci9_RX10) ⟨by decide +kernel, by decide +kernel, by decide +kernel⟩ rfl (by decide +kernel)))⟩,
  List.forall_mem_cons.mpr ⟨⟨mo_if1 _ _ _, Or.inl (ok_if_ne (off := 11) (by decide) (by decide +kernel))⟩,
  List.forall_mem_cons.mpr ⟨⟨mo_thr _, Or.inr (Or.inr (ok_thr (x := 1) (names := ["java/lang/RuntimeException", "java/lang/Exception"]) rfl rfl (by decide) (by decide +kernel) (by decide +kernel) (am_in3 48 rfl rfl) (am_in1 16 rfl rfl) (by decide +kernel) (by decide +kernel) (fun _ _ _ h => q_bad1_253 h) (fun _ _ _ h => q_U h) (fun _ _ _ h => q_N h) (by decide +kernel) (by decide +kernel) (by decide +kernel) (by decide +kernel)))⟩,
  List.forall_mem_cons.mpr ⟨⟨mo_ret0e, Or.inr (Or.inr (ok_ret0 rfl (by decide +kernel)))⟩,
  fun _ h => absurd h List.not_mem_nil⟩⟩⟩⟩⟩
def t_X10_needDay : List (Nat × am_F) := t_X10_needDay_0
theorem o_X10_needDay : ∀ q ∈ t_X10_needDay, am_ok vwCl q_SH ξ (q_E ξ β xs L) q_EN q_KD q_ML (cX10_needDay, 1, RX10, "needDay", none, []) q.1 q.2 := o_X10_needDay_0
def t_X10_needEvening_0 : List (Nat × am_F) := [(0, im_il 1 1), (1, im_if1 ib_lt 12 4), (4, im_il 1 5), (5, im_al 0 6), (6, im_gi q_SH 10 10 9), (9, im_if2 ic_le 20 12), (12, im_thr 2), (20, im_ret0e)]
set_option maxRecDepth 20000 in
theorem o_X10_needEvening_0 : ∀ q ∈ t_X10_needEvening_0, am_ok vwCl q_SH ξ (q_E ξ β xs L) q_EN q_KD q_ML (cX10_needEvening, 2, RX10, "needEvening", none, []) q.1 q.2 :=
  List.forall_mem_cons.mpr ⟨⟨mo_il _ _, Or.inl (ok_iload_n (k := 1) rfl (by decide +kernel))⟩,
  List.forall_mem_cons.mpr ⟨⟨mo_if1 _ _ _, Or.inl (ok_if_lt (off := 11) (by decide) (by decide +kernel))⟩,
  List.forall_mem_cons.mpr ⟨⟨mo_il _ _, Or.inl (ok_iload_n (k := 1) rfl (by decide +kernel))⟩,
  List.forall_mem_cons.mpr ⟨⟨mo_al _ _, Or.inl (ok_aload_n (k := 0) rfl (by decide +kernel))⟩,
  List.forall_mem_cons.mpr ⟨⟨mo_gi _ _ _ _, Or.inl (ok_gi (C := RX10) (T := TX10) (N := 12) (ci := 10) (k := 10) rfl inX10 (by decide) fl_X10_125 (by decide +kernel) (by decide +kernel))⟩,
  List.forall_mem_cons.mpr ⟨⟨mo_if2 _ _ _, Or.inl (ok_icmp_le (off := 11) (by decide) (by decide +kernel))⟩,
  List.forall_mem_cons.mpr ⟨⟨mo_thr _, Or.inr (Or.inr (ok_thr (x := 2) (names := ["java/lang/RuntimeException", "java/lang/Exception"]) rfl rfl (by decide) (by decide +kernel) (by decide +kernel) (am_in3 140 rfl rfl) (am_in1 17 rfl rfl) (by decide +kernel) (by decide +kernel) (fun _ _ _ h => q_bad2_145 h) (fun _ _ _ h => q_U h) (fun _ _ _ h => q_N h) (by decide +kernel) (by decide +kernel) (by decide +kernel) (by decide +kernel)))⟩,
  List.forall_mem_cons.mpr ⟨⟨mo_ret0e, Or.inr (Or.inr (ok_ret0 rfl (by decide +kernel)))⟩,
  fun _ h => absurd h List.not_mem_nil⟩⟩⟩⟩⟩⟩⟩⟩
def t_X10_needEvening : List (Nat × am_F) := t_X10_needEvening_0
theorem o_X10_needEvening : ∀ q ∈ t_X10_needEvening, am_ok vwCl q_SH ξ (q_E ξ β xs L) q_EN q_KD q_ML (cX10_needEvening, 2, RX10, "needEvening", none, []) q.1 q.2 := o_X10_needEvening_0
def t_X10_needBond_0 : List (Nat × am_F) := [(0, im_il 1 1), (1, im_al 0 2), (2, im_gr q_SH 10 1 5), (5, im_gi q_SH 7 3 8), (8, im_invs 91 2 11), (11, im_il 2 12), (12, im_al 0 13), (13, im_gr q_SH 10 0 16), (16, im_gi q_SH 8 2 19), (19, im_invs 91 2 22), (22, im_il 3 23), (23, im_invs 92 1 26), (26, im_al 0 27), (27, im_il 4 29), (29, im_inv q_SH 10 93 1 32), (32, im_ret0e)]
set_option maxRecDepth 20000 in
theorem o_X10_needBond_0 : ∀ q ∈ t_X10_needBond_0, am_ok vwCl q_SH ξ (q_E ξ β xs L) q_EN q_KD q_ML (cX10_needBond, 5, RX10, "needBond", none, []) q.1 q.2 :=
  List.forall_mem_cons.mpr ⟨⟨mo_il _ _, Or.inl (ok_iload_n (k := 1) rfl (by decide +kernel))⟩,
  List.forall_mem_cons.mpr ⟨⟨mo_al _ _, Or.inl (ok_aload_n (k := 0) rfl (by decide +kernel))⟩,
  List.forall_mem_cons.mpr ⟨⟨mo_gr _ _ _ _, Or.inl (ok_gr (C := RX10) (T := TX10) (N := 12) (ci := 10) (k := 1) rfl inX10 (by decide) fl_X10_19 (by decide +kernel) (by decide +kernel))⟩,
  List.forall_mem_cons.mpr ⟨⟨mo_gi _ _ _ _, Or.inl (ok_gi (C := RX7) (T := TX7) (N := 4) (ci := 7) (k := 3) rfl inX7 (by decide) fl_X10_92 (by decide +kernel) (by decide +kernel))⟩,
  List.forall_mem_cons.mpr ⟨⟨mo_invs _ _ _, Or.inr (Or.inl (ok_invs cw_X10_needNumber (by decide) (by decide) ml_X10_102 cs_X10_needNumber (show Cond.initialized (yX10_needNumber).cls ∈ am_ts from ci9_RX10) ⟨by decide +kernel, by decide +kernel, by decide +kernel⟩ rfl (by decide +kernel)))⟩,
  List.forall_mem_cons.mpr ⟨⟨mo_il _ _, Or.inl (ok_iload_n (k := 2) rfl (by decide +kernel))⟩,
  List.forall_mem_cons.mpr ⟨⟨mo_al _ _, Or.inl (ok_aload_n (k := 0) rfl (by decide +kernel))⟩,
  List.forall_mem_cons.mpr ⟨⟨mo_gr _ _ _ _, Or.inl (ok_gr (C := RX10) (T := TX10) (N := 12) (ci := 10) (k := 0) rfl inX10 (by decide) fl_X10_10 (by decide +kernel) (by decide +kernel))⟩,
  List.forall_mem_cons.mpr ⟨⟨mo_gi _ _ _ _, Or.inl (ok_gi (C := RX8) (T := TX8) (N := 3) (ci := 8) (k := 2) rfl inX8 (by decide) fl_X10_76 (by decide +kernel) (by decide +kernel))⟩,
  List.forall_mem_cons.mpr ⟨⟨mo_invs _ _ _, Or.inr (Or.inl (ok_invs cw_X10_needNumber (by decide) (by decide) ml_X10_102 cs_X10_needNumber (show Cond.initialized (yX10_needNumber).cls ∈ am_ts from ci9_RX10) ⟨by decide +kernel, by decide +kernel, by decide +kernel⟩ rfl (by decide +kernel)))⟩,
  List.forall_mem_cons.mpr ⟨⟨mo_il _ _, Or.inl (ok_iload_n (k := 3) rfl (by decide +kernel))⟩,
  List.forall_mem_cons.mpr ⟨⟨mo_invs _ _ _, Or.inr (Or.inl (ok_invs cw_X10_needDay (by decide) (by decide) ml_X10_167 cs_X10_needDay (show Cond.initialized (yX10_needDay).cls ∈ am_ts from ci9_RX10) ⟨by decide +kernel, by decide +kernel, by decide +kernel⟩ rfl (by decide +kernel)))⟩,
  List.forall_mem_cons.mpr ⟨⟨mo_al _ _, Or.inl (ok_aload_n (k := 0) rfl (by decide +kernel))⟩,
  List.forall_mem_cons.mpr ⟨⟨mo_il _ _, Or.inl (ok_iload (by decide +kernel))⟩,
  List.forall_mem_cons.mpr ⟨⟨mo_inv _ _ _ _ _, Or.inr (Or.inl (ok_inv (T := TX10) (N := 12) rfl cw_X10_needEvening (by decide) (by decide) ml_X10_170 ci_X10_needEvening cv_X10_needEvening (show Cond.initialized (yX10_needEvening).cls ∈ am_ts from ci9_RX10) ⟨by decide +kernel, by decide +kernel, by decide +kernel⟩ rfl (by decide +kernel)))⟩,
  List.forall_mem_cons.mpr ⟨⟨mo_ret0e, Or.inr (Or.inr (ok_ret0 rfl (by decide +kernel)))⟩,
  fun _ h => absurd h List.not_mem_nil⟩⟩⟩⟩⟩⟩⟩⟩⟩⟩⟩⟩⟩⟩⟩⟩
def t_X10_needBond : List (Nat × am_F) := t_X10_needBond_0
theorem o_X10_needBond : ∀ q ∈ t_X10_needBond, am_ok vwCl q_SH ξ (q_E ξ β xs L) q_EN q_KD q_ML (cX10_needBond, 5, RX10, "needBond", none, []) q.1 q.2 := o_X10_needBond_0
def t_X10_isDay_0 : List (Nat × am_F) := [(0, im_il 0 1), (1, im_if1 ib_lt 14 4), (4, im_il 0 5), (5, im_ic 72999 7), (7, im_if2 ic_gt 14 10), (10, im_ic 1 11), (11, im_go 15), (14, im_ic 0 15), (15, im_retz)]
set_option maxRecDepth 20000 in
theorem o_X10_isDay_0 : ∀ q ∈ t_X10_isDay_0, am_ok vwCl q_SH ξ (q_E ξ β xs L) q_EN q_KD q_ML (cX10_isDay, 1, RX10, "isDay", (some .boolean), []) q.1 q.2 :=
  List.forall_mem_cons.mpr ⟨⟨mo_il _ _, Or.inl (ok_iload_n (k := 0) rfl (by decide +kernel))⟩,
  List.forall_mem_cons.mpr ⟨⟨mo_if1 _ _ _, Or.inl (ok_if_lt (off := 13) (by decide) (by decide +kernel))⟩,
  List.forall_mem_cons.mpr ⟨⟨mo_il _ _, Or.inl (ok_iload_n (k := 0) rfl (by decide +kernel))⟩,
  List.forall_mem_cons.mpr ⟨⟨mo_ic _ _, Or.inl (ok_ldc (v := 72999) (am_in3 113 rfl rfl) (by decide +kernel))⟩,
  List.forall_mem_cons.mpr ⟨⟨mo_if2 _ _ _, Or.inl (ok_icmp_gt (off := 7) (by decide) (by decide +kernel))⟩,
  List.forall_mem_cons.mpr ⟨⟨mo_ic _ _, Or.inl (ok_iconst (n := 1) (v := 1) (by decide) (by decide +kernel))⟩,
  List.forall_mem_cons.mpr ⟨⟨mo_go _, Or.inl (ok_goto (off := 4) (by decide) (by decide +kernel))⟩,
  List.forall_mem_cons.mpr ⟨⟨mo_ic _ _, Or.inl (ok_iconst (n := 0) (v := 0) (by decide) (by decide +kernel))⟩,
  List.forall_mem_cons.mpr ⟨⟨mo_retz, Or.inr (Or.inr (ok_retz rfl (by decide +kernel)))⟩,
  fun _ h => absurd h List.not_mem_nil⟩⟩⟩⟩⟩⟩⟩⟩⟩
def t_X10_isDay : List (Nat × am_F) := t_X10_isDay_0
theorem o_X10_isDay : ∀ q ∈ t_X10_isDay, am_ok vwCl q_SH ξ (q_E ξ β xs L) q_EN q_KD q_ML (cX10_isDay, 1, RX10, "isDay", (some .boolean), []) q.1 q.2 := o_X10_isDay_0
def t_X10_isParent_0 : List (Nat × am_F) := [(0, im_il 1 1), (1, im_ic (-1) 2), (2, im_if2 ic_lt 20 5), (5, im_il 1 6), (6, im_al 0 7), (7, im_gr q_SH 10 1 10), (10, im_gi q_SH 7 3 13), (13, im_if2 ic_ge 20 16), (16, im_ic 1 17), (17, im_go 21), (20, im_ic 0 21), (21, im_retz)]
set_option maxRecDepth 20000 in
theorem o_X10_isParent_0 : ∀ q ∈ t_X10_isParent_0, am_ok vwCl q_SH ξ (q_E ξ β xs L) q_EN q_KD q_ML (cX10_isParent, 2, RX10, "isParent", (some .boolean), []) q.1 q.2 :=
  List.forall_mem_cons.mpr ⟨⟨mo_il _ _, Or.inl (ok_iload_n (k := 1) rfl (by decide +kernel))⟩,
  List.forall_mem_cons.mpr ⟨⟨mo_ic _ _, Or.inl (ok_iconst (n := (-1)) (v := (-1)) (by decide) (by decide +kernel))⟩,
  List.forall_mem_cons.mpr ⟨⟨mo_if2 _ _ _, Or.inl (ok_icmp_lt (off := 18) (by decide) (by decide +kernel))⟩,
  List.forall_mem_cons.mpr ⟨⟨mo_il _ _, Or.inl (ok_iload_n (k := 1) rfl (by decide +kernel))⟩,
  List.forall_mem_cons.mpr ⟨⟨mo_al _ _, Or.inl (ok_aload_n (k := 0) rfl (by decide +kernel))⟩,
  List.forall_mem_cons.mpr ⟨⟨mo_gr _ _ _ _, Or.inl (ok_gr (C := RX10) (T := TX10) (N := 12) (ci := 10) (k := 1) rfl inX10 (by decide) fl_X10_19 (by decide +kernel) (by decide +kernel))⟩,
  List.forall_mem_cons.mpr ⟨⟨mo_gi _ _ _ _, Or.inl (ok_gi (C := RX7) (T := TX7) (N := 4) (ci := 7) (k := 3) rfl inX7 (by decide) fl_X10_92 (by decide +kernel) (by decide +kernel))⟩,
  List.forall_mem_cons.mpr ⟨⟨mo_if2 _ _ _, Or.inl (ok_icmp_ge (off := 7) (by decide) (by decide +kernel))⟩,
  List.forall_mem_cons.mpr ⟨⟨mo_ic _ _, Or.inl (ok_iconst (n := 1) (v := 1) (by decide) (by decide +kernel))⟩,
  List.forall_mem_cons.mpr ⟨⟨mo_go _, Or.inl (ok_goto (off := 4) (by decide) (by decide +kernel))⟩,
  List.forall_mem_cons.mpr ⟨⟨mo_ic _ _, Or.inl (ok_iconst (n := 0) (v := 0) (by decide) (by decide +kernel))⟩,
  List.forall_mem_cons.mpr ⟨⟨mo_retz, Or.inr (Or.inr (ok_retz rfl (by decide +kernel)))⟩,
  fun _ h => absurd h List.not_mem_nil⟩⟩⟩⟩⟩⟩⟩⟩⟩⟩⟩⟩
def t_X10_isParent : List (Nat × am_F) := t_X10_isParent_0
theorem o_X10_isParent : ∀ q ∈ t_X10_isParent, am_ok vwCl q_SH ξ (q_E ξ β xs L) q_EN q_KD q_ML (cX10_isParent, 2, RX10, "isParent", (some .boolean), []) q.1 q.2 := o_X10_isParent_0
def t_X10_putBytes_0 : List (Nat × am_F) := [(0, im_ic 24 2), (2, im_is 2 3), (3, im_il 2 4), (4, im_if1 ib_lt 48 7), (7, im_al 0 8), (8, im_gi q_SH 10 9 11), (11, im_al 0 12), (12, im_gr q_SH 10 7 15), (15, im_alen q_SH .byte 16), (16, im_if2 ic_ge 42 19), (19, im_al 0 20), (20, im_gr q_SH 10 7 23), (23, im_al 0 24), (24, im_gi q_SH 10 9 27), (27, im_il 1 28), (28, im_il 2 29), (29, im_bin (fun x y => x >>> (y &&& 31)) 30), (30, im_un (fun x => x.toInt8.toInt32) 31), (31, im_ast q_SH .byte (vp_nar .byte) 32), (32, im_al 0 33)]
set_option maxRecDepth 20000 in
theorem o_X10_putBytes_0 : ∀ q ∈ t_X10_putBytes_0, am_ok vwCl q_SH ξ (q_E ξ β xs L) q_EN q_KD q_ML (cX10_putBytes, 3, RX10, "putBytes", none, []) q.1 q.2 :=
  List.forall_mem_cons.mpr ⟨⟨mo_ic _ _, Or.inl (ok_bipush (n := 24) (v := 24) (by decide) (by decide +kernel))⟩,
  List.forall_mem_cons.mpr ⟨⟨mo_is _ _, Or.inl (ok_istore_n (k := 2) rfl (by decide) (by decide +kernel))⟩,
  List.forall_mem_cons.mpr ⟨⟨mo_il _ _, Or.inl (ok_iload_n (k := 2) rfl (by decide +kernel))⟩,
  List.forall_mem_cons.mpr ⟨⟨mo_if1 _ _ _, Or.inl (ok_if_lt (off := 44) (by decide) (by decide +kernel))⟩,
  List.forall_mem_cons.mpr ⟨⟨mo_al _ _, Or.inl (ok_aload_n (k := 0) rfl (by decide +kernel))⟩,
  List.forall_mem_cons.mpr ⟨⟨mo_gi _ _ _ _, Or.inl (ok_gi (C := RX10) (T := TX10) (N := 12) (ci := 10) (k := 9) rfl inX10 (by decide) fl_X10_146 (by decide +kernel) (by decide +kernel))⟩,
  List.forall_mem_cons.mpr ⟨⟨mo_al _ _, Or.inl (ok_aload_n (k := 0) rfl (by decide +kernel))⟩,
  List.forall_mem_cons.mpr ⟨⟨mo_gr _ _ _ _, Or.inl (ok_gr (C := RX10) (T := TX10) (N := 12) (ci := 10) (k := 7) rfl inX10 (by decide) fl_X10_64 (by decide +kernel) (by decide +kernel))⟩,
  List.forall_mem_cons.mpr ⟨⟨mo_alen _ _ _, Or.inl (ok_alenb (by decide +kernel))⟩,
  List.forall_mem_cons.mpr ⟨⟨mo_if2 _ _ _, Or.inl (ok_icmp_ge (off := 26) (by decide) (by decide +kernel))⟩,
  List.forall_mem_cons.mpr ⟨⟨mo_al _ _, Or.inl (ok_aload_n (k := 0) rfl (by decide +kernel))⟩,
  List.forall_mem_cons.mpr ⟨⟨mo_gr _ _ _ _, Or.inl (ok_gr (C := RX10) (T := TX10) (N := 12) (ci := 10) (k := 7) rfl inX10 (by decide) fl_X10_64 (by decide +kernel) (by decide +kernel))⟩,
  List.forall_mem_cons.mpr ⟨⟨mo_al _ _, Or.inl (ok_aload_n (k := 0) rfl (by decide +kernel))⟩,
  List.forall_mem_cons.mpr ⟨⟨mo_gi _ _ _ _, Or.inl (ok_gi (C := RX10) (T := TX10) (N := 12) (ci := 10) (k := 9) rfl inX10 (by decide) fl_X10_146 (by decide +kernel) (by decide +kernel))⟩,
  List.forall_mem_cons.mpr ⟨⟨mo_il _ _, Or.inl (ok_iload_n (k := 1) rfl (by decide +kernel))⟩,
  List.forall_mem_cons.mpr ⟨⟨mo_il _ _, Or.inl (ok_iload_n (k := 2) rfl (by decide +kernel))⟩,
  List.forall_mem_cons.mpr ⟨⟨mo_bin _ _, Or.inl (ok_ishr (by decide +kernel))⟩,
  List.forall_mem_cons.mpr ⟨⟨mo_un _ _, Or.inl (ok_i2b (by decide +kernel))⟩,
  List.forall_mem_cons.mpr ⟨⟨mo_ast _ _ _ _, Or.inl (ok_bast (by decide +kernel))⟩,
  List.forall_mem_cons.mpr ⟨⟨mo_al _ _, Or.inl (ok_aload_n (k := 0) rfl (by decide +kernel))⟩,
  fun _ h => absurd h List.not_mem_nil⟩⟩⟩⟩⟩⟩⟩⟩⟩⟩⟩⟩⟩⟩⟩⟩⟩⟩⟩⟩
def t_X10_putBytes_1 : List (Nat × am_F) := [(33, im_dup 34), (34, im_gi q_SH 10 9 37), (37, im_ic 1 38), (38, im_bin (fun x y => x + y) 39), (39, im_pi q_SH 10 9 42), (42, im_iinc 2 (-8) 45), (45, im_go 3), (48, im_ret0e)]
set_option maxRecDepth 20000 in
theorem o_X10_putBytes_1 : ∀ q ∈ t_X10_putBytes_1, am_ok vwCl q_SH ξ (q_E ξ β xs L) q_EN q_KD q_ML (cX10_putBytes, 3, RX10, "putBytes", none, []) q.1 q.2 :=
  List.forall_mem_cons.mpr ⟨⟨mo_dup _, Or.inl (ok_dup (by decide +kernel))⟩,
  List.forall_mem_cons.mpr ⟨⟨mo_gi _ _ _ _, Or.inl (ok_gi (C := RX10) (T := TX10) (N := 12) (ci := 10) (k := 9) rfl inX10 (by decide) fl_X10_146 (by decide +kernel) (by decide +kernel))⟩,
  List.forall_mem_cons.mpr ⟨⟨mo_ic _ _, Or.inl (ok_iconst (n := 1) (v := 1) (by decide) (by decide +kernel))⟩,
  List.forall_mem_cons.mpr ⟨⟨mo_bin _ _, Or.inl (ok_iadd (by decide +kernel))⟩,
  List.forall_mem_cons.mpr ⟨⟨mo_pi _ _ _ _, Or.inl (ok_pi (ty := .int) (C := RX10) (T := TX10) (N := 12) (ci := 10) (k := 9) rfl inX10 (by decide) fl_X10_146 (by decide +kernel) tyX10 tyX10_ok nmX10 (by decide +kernel) (by decide +kernel) (by decide +kernel))⟩,
  List.forall_mem_cons.mpr ⟨⟨mo_iinc _ _ _, Or.inl (ok_iinc (n := (-8)) (v := (-8)) (by decide) (by decide) (by decide +kernel))⟩,
  List.forall_mem_cons.mpr ⟨⟨mo_go _, Or.inl (ok_goto (off := (-42)) (by decide) (by decide +kernel))⟩,
  List.forall_mem_cons.mpr ⟨⟨mo_ret0e, Or.inr (Or.inr (ok_ret0 rfl (by decide +kernel)))⟩,
  fun _ h => absurd h List.not_mem_nil⟩⟩⟩⟩⟩⟩⟩⟩
def t_X10_putBytes : List (Nat × am_F) := t_X10_putBytes_0 ++ (t_X10_putBytes_1)
theorem o_X10_putBytes : ∀ q ∈ t_X10_putBytes, am_ok vwCl q_SH ξ (q_E ξ β xs L) q_EN q_KD q_ML (cX10_putBytes, 3, RX10, "putBytes", none, []) q.1 q.2 := List.forall_mem_append.mpr ⟨o_X10_putBytes_0, o_X10_putBytes_1⟩
def t_X10_forget_0 : List (Nat × am_F) := [(0, im_al 0 1), (1, im_ic (-1) 2), (2, im_pi q_SH 10 11 5), (5, im_al 0 6), (6, im_gr q_SH 10 6 9), (9, im_lc (-1) 12), (12, im_pl q_SH 9 19 15), (15, im_ret0e)]
set_option maxRecDepth 20000 in
theorem o_X10_forget_0 : ∀ q ∈ t_X10_forget_0, am_ok vwCl q_SH ξ (q_E ξ β xs L) q_EN q_KD q_ML (cX10_forget, 1, RX10, "forget", none, []) q.1 q.2 :=
  List.forall_mem_cons.mpr ⟨⟨mo_al _ _, Or.inl (ok_aload_n (k := 0) rfl (by decide +kernel))⟩,
  List.forall_mem_cons.mpr ⟨⟨mo_ic _ _, Or.inl (ok_iconst (n := (-1)) (v := (-1)) (by decide) (by decide +kernel))⟩,
  List.forall_mem_cons.mpr ⟨⟨mo_pi _ _ _ _, Or.inl (ok_pi (ty := .int) (C := RX10) (T := TX10) (N := 12) (ci := 10) (k := 11) rfl inX10 (by decide) fl_X10_72 (by decide +kernel) tyX10 tyX10_ok nmX10 (by decide +kernel) (by decide +kernel) (by decide +kernel))⟩,
  List.forall_mem_cons.mpr ⟨⟨mo_al _ _, Or.inl (ok_aload_n (k := 0) rfl (by decide +kernel))⟩,
  List.forall_mem_cons.mpr ⟨⟨mo_gr _ _ _ _, Or.inl (ok_gr (C := RX10) (T := TX10) (N := 12) (ci := 10) (k := 6) rfl inX10 (by decide) fl_X10_60 (by decide +kernel) (by decide +kernel))⟩,
  List.forall_mem_cons.mpr ⟨⟨mo_lc _ _, Or.inl (ok_ldc2 (v := (-1)) (am_in3 12 rfl rfl) (by decide +kernel))⟩,
  List.forall_mem_cons.mpr ⟨⟨mo_pl _ _ _ _, Or.inl (ok_pl (ty := .int) (C := RX9) (T := TX9) (N := 20) (ci := 9) (k := 19) rfl inX9 (by decide) fl_X10_257 (by decide +kernel) tyX9 tyX9_ok nmX9 (by decide +kernel) (by decide +kernel) (by decide +kernel))⟩,
  List.forall_mem_cons.mpr ⟨⟨mo_ret0e, Or.inr (Or.inr (ok_ret0 rfl (by decide +kernel)))⟩,
  fun _ h => absurd h List.not_mem_nil⟩⟩⟩⟩⟩⟩⟩⟩
def t_X10_forget : List (Nat × am_F) := t_X10_forget_0
theorem o_X10_forget : ∀ q ∈ t_X10_forget, am_ok vwCl q_SH ξ (q_E ξ β xs L) q_EN q_KD q_ML (cX10_forget, 1, RX10, "forget", none, []) q.1 q.2 := o_X10_forget_0
def t_X10_workOutWays_0 : List (Nat × am_F) := [(0, im_al 0 1), (1, im_gr q_SH 10 5 4), (4, im_il 2 5), (5, im_inv q_SH 2 13 1 8), (8, im_il 1 9), (9, im_ic 1000 12), (12, im_bin (fun x y => x * y) 13), (13, im_il 2 14), (14, im_bin (fun x y => x + y) 15), (15, im_is 3 16), (16, im_il 3 17), (17, im_al 0 18), (18, im_gi q_SH 10 11 21), (21, im_if2 ic_ne 25 24), (24, im_ret0e), (25, im_ic 0 26), (26, im_is 4 28), (28, im_il 4 30), (30, im_al 0 31), (31, im_gr q_SH 10 5 34)]
set_option maxRecDepth 20000 in
theorem o_X10_workOutWays_0 : ∀ q ∈ t_X10_workOutWays_0, am_ok vwCl q_SH ξ (q_E ξ β xs L) q_EN q_KD q_ML (cX10_workOutWays, 5, RX10, "workOutWays", none, []) q.1 q.2 :=
  List.forall_mem_cons.mpr ⟨⟨mo_al _ _, Or.inl (ok_aload_n (k := 0) rfl (by decide +kernel))⟩,
  List.forall_mem_cons.mpr ⟨⟨mo_gr _ _ _ _, Or.inl (ok_gr (C := RX10) (T := TX10) (N := 12) (ci := 10) (k := 5) rfl inX10 (by decide) fl_X10_51 (by decide +kernel) (by decide +kernel))⟩,
  List.forall_mem_cons.mpr ⟨⟨mo_il _ _, Or.inl (ok_iload_n (k := 2) rfl (by decide +kernel))⟩,
  List.forall_mem_cons.mpr ⟨⟨mo_inv _ _ _ _ _, Or.inr (Or.inl (ok_inv (T := TX2) (N := 7) rfl cw_X2_find (by decide) (by decide) ml_X10_184 ci_X2_find cv_X2_find (show Cond.initialized (yX2_find).cls ∈ am_ts from ci9_RX2) ⟨by decide +kernel, by decide +kernel, by decide +kernel⟩ rfl (by decide +kernel)))⟩,
  List.forall_mem_cons.mpr ⟨⟨mo_il _ _, Or.inl (ok_iload_n (k := 1) rfl (by decide +kernel))⟩,
  List.forall_mem_cons.mpr ⟨⟨mo_ic _ _, Or.inl (ok_sipush (n := 1000) (v := 1000) (by decide) (by decide +kernel))⟩,
  List.forall_mem_cons.mpr ⟨⟨mo_bin _ _, Or.inl (ok_imul (by decide +kernel))⟩,
  List.forall_mem_cons.mpr ⟨⟨mo_il _ _, Or.inl (ok_iload_n (k := 2) rfl (by decide +kernel))⟩,
  List.forall_mem_cons.mpr ⟨⟨mo_bin _ _, Or.inl (ok_iadd (by decide +kernel))⟩,
  List.forall_mem_cons.mpr ⟨⟨mo_is _ _, Or.inl (ok_istore_n (k := 3) rfl (by decide) (by decide +kernel))⟩,
  List.forall_mem_cons.mpr ⟨⟨mo_il _ _, Or.inl (ok_iload_n (k := 3) rfl (by decide +kernel))⟩,
  List.forall_mem_cons.mpr ⟨⟨mo_al _ _, Or.inl (ok_aload_n (k := 0) rfl (by decide +kernel))⟩,
  List.forall_mem_cons.mpr ⟨⟨mo_gi _ _ _ _, Or.inl (ok_gi (C := RX10) (T := TX10) (N := 12) (ci := 10) (k := 11) rfl inX10 (by decide) fl_X10_72 (by decide +kernel) (by decide +kernel))⟩,
  List.forall_mem_cons.mpr ⟨⟨mo_if2 _ _ _, Or.inl (ok_icmp_ne (off := 4) (by decide) (by decide +kernel))⟩,
  List.forall_mem_cons.mpr ⟨⟨mo_ret0e, Or.inr (Or.inr (ok_ret0 rfl (by decide +kernel)))⟩,
  List.forall_mem_cons.mpr ⟨⟨mo_ic _ _, Or.inl (ok_iconst (n := 0) (v := 0) (by decide) (by decide +kernel))⟩,
  List.forall_mem_cons.mpr ⟨⟨mo_is _ _, Or.inl (ok_istore (by decide) (by decide +kernel))⟩,
  List.forall_mem_cons.mpr ⟨⟨mo_il _ _, Or.inl (ok_iload (by decide +kernel))⟩,
  List.forall_mem_cons.mpr ⟨⟨mo_al _ _, Or.inl (ok_aload_n (k := 0) rfl (by decide +kernel))⟩,
  List.forall_mem_cons.mpr ⟨⟨mo_gr _ _ _ _, Or.inl (ok_gr (C := RX10) (T := TX10) (N := 12) (ci := 10) (k := 5) rfl inX10 (by decide) fl_X10_51 (by decide +kernel) (by decide +kernel))⟩,
  fun _ h => absurd h List.not_mem_nil⟩⟩⟩⟩⟩⟩⟩⟩⟩⟩⟩⟩⟩⟩⟩⟩⟩⟩⟩⟩
def t_X10_workOutWays_1 : List (Nat × am_F) := [(34, im_gi q_SH 2 5 37), (37, im_if2 ic_ge 86 40), (40, im_il 4 42), (42, im_ic 27 44), (44, im_if2 ic_ge 86 47), (47, im_al 0 48), (48, im_gr q_SH 10 6 51), (51, im_il 4 53), (53, im_il 1 54), (54, im_ic (-1) 55), (55, im_inv q_SH 9 52 3 58), (58, im_al 0 59), (59, im_gr q_SH 10 6 62), (62, im_gr q_SH 9 8 65), (65, im_ic 0 66), (66, im_al 0 67), (67, im_gr q_SH 10 8 70), (70, im_il 4 72), (72, im_ic 20 74), (74, im_bin (fun x y => x * y) 75)]
set_option maxRecDepth 20000 in
theorem o_X10_workOutWays_1 : ∀ q ∈ t_X10_workOutWays_1, am_ok vwCl q_SH ξ (q_E ξ β xs L) q_EN q_KD q_ML (cX10_workOutWays, 5, RX10, "workOutWays", none, []) q.1 q.2 :=
  List.forall_mem_cons.mpr ⟨⟨mo_gi _ _ _ _, Or.inl (ok_gi (C := RX2) (T := TX2) (N := 7) (ci := 2) (k := 5) rfl inX2 (by decide) fl_X10_187 (by decide +kernel) (by decide +kernel))⟩,
  List.forall_mem_cons.mpr ⟨⟨mo_if2 _ _ _, Or.inl (ok_icmp_ge (off := 49) (by decide) (by decide +kernel))⟩,
  List.forall_mem_cons.mpr ⟨⟨mo_il _ _, Or.inl (ok_iload (by decide +kernel))⟩,
  List.forall_mem_cons.mpr ⟨⟨mo_ic _ _, Or.inl (ok_bipush (n := 27) (v := 27) (by decide) (by decide +kernel))⟩,
  List.forall_mem_cons.mpr ⟨⟨mo_if2 _ _ _, Or.inl (ok_icmp_ge (off := 42) (by decide) (by decide +kernel))⟩,
  List.forall_mem_cons.mpr ⟨⟨mo_al _ _, Or.inl (ok_aload_n (k := 0) rfl (by decide +kernel))⟩,
  List.forall_mem_cons.mpr ⟨⟨mo_gr _ _ _ _, Or.inl (ok_gr (C := RX10) (T := TX10) (N := 12) (ci := 10) (k := 6) rfl inX10 (by decide) fl_X10_60 (by decide +kernel) (by decide +kernel))⟩,
  List.forall_mem_cons.mpr ⟨⟨mo_il _ _, Or.inl (ok_iload (by decide +kernel))⟩,
  List.forall_mem_cons.mpr ⟨⟨mo_il _ _, Or.inl (ok_iload_n (k := 1) rfl (by decide +kernel))⟩,
  List.forall_mem_cons.mpr ⟨⟨mo_ic _ _, Or.inl (ok_iconst (n := (-1)) (v := (-1)) (by decide) (by decide +kernel))⟩,
  List.forall_mem_cons.mpr ⟨⟨mo_inv _ _ _ _ _, Or.inr (Or.inl (ok_inv (T := TX9) (N := 20) rfl cw_X9_live (by decide) (by decide) ml_X10_211 ci_X9_live cv_X9_live (show Cond.initialized (yX9_live).cls ∈ am_ts from ci9_RX9) ⟨by decide +kernel, by decide +kernel, by decide +kernel⟩ rfl (by decide +kernel)))⟩,
  List.forall_mem_cons.mpr ⟨⟨mo_al _ _, Or.inl (ok_aload_n (k := 0) rfl (by decide +kernel))⟩,
  List.forall_mem_cons.mpr ⟨⟨mo_gr _ _ _ _, Or.inl (ok_gr (C := RX10) (T := TX10) (N := 12) (ci := 10) (k := 6) rfl inX10 (by decide) fl_X10_60 (by decide +kernel) (by decide +kernel))⟩,
  List.forall_mem_cons.mpr ⟨⟨mo_gr _ _ _ _, Or.inl (ok_gr (C := RX9) (T := TX9) (N := 20) (ci := 9) (k := 8) rfl inX9 (by decide) fl_X10_215 (by decide +kernel) (by decide +kernel))⟩,
  List.forall_mem_cons.mpr ⟨⟨mo_ic _ _, Or.inl (ok_iconst (n := 0) (v := 0) (by decide) (by decide +kernel))⟩,
  List.forall_mem_cons.mpr ⟨⟨mo_al _ _, Or.inl (ok_aload_n (k := 0) rfl (by decide +kernel))⟩,
  List.forall_mem_cons.mpr ⟨⟨mo_gr _ _ _ _, Or.inl (ok_gr (C := RX10) (T := TX10) (N := 12) (ci := 10) (k := 8) rfl inX10 (by decide) fl_X10_68 (by decide +kernel) (by decide +kernel))⟩,
  List.forall_mem_cons.mpr ⟨⟨mo_il _ _, Or.inl (ok_iload (by decide +kernel))⟩,
  List.forall_mem_cons.mpr ⟨⟨mo_ic _ _, Or.inl (ok_bipush (n := 20) (v := 20) (by decide) (by decide +kernel))⟩,
  List.forall_mem_cons.mpr ⟨⟨mo_bin _ _, Or.inl (ok_imul (by decide +kernel))⟩,
  fun _ h => absurd h List.not_mem_nil⟩⟩⟩⟩⟩⟩⟩⟩⟩⟩⟩⟩⟩⟩⟩⟩⟩⟩⟩⟩
def t_X10_workOutWays_2 : List (Nat × am_F) := [(75, im_ic 20 77), (77, im_acopy q_SH 80), (80, im_iinc 4 1 83), (83, im_go 28), (86, im_al 0 87), (87, im_il 3 88), (88, im_pi q_SH 10 11 91), (91, im_ret0e)]
set_option maxRecDepth 20000 in
theorem o_X10_workOutWays_2 : ∀ q ∈ t_X10_workOutWays_2, am_ok vwCl q_SH ξ (q_E ξ β xs L) q_EN q_KD q_ML (cX10_workOutWays, 5, RX10, "workOutWays", none, []) q.1 q.2 :=
  List.forall_mem_cons.mpr ⟨⟨mo_ic _ _, Or.inl (ok_bipush (n := 20) (v := 20) (by decide) (by decide +kernel))⟩,
  List.forall_mem_cons.mpr ⟨⟨mo_acopy _ _, Or.inl (ok_acopy (am_in5 82 rfl rfl) (am_in4 196 rfl rfl) (am_in4 195 rfl rfl) (am_in1 25 rfl rfl) (by decide +kernel))⟩,
  List.forall_mem_cons.mpr ⟨⟨mo_iinc _ _ _, Or.inl (ok_iinc (n := 1) (v := 1) (by decide) (by decide) (by decide +kernel))⟩,
  List.forall_mem_cons.mpr ⟨⟨mo_go _, Or.inl (ok_goto (off := (-55)) (by decide) (by decide +kernel))⟩,
  List.forall_mem_cons.mpr ⟨⟨mo_al _ _, Or.inl (ok_aload_n (k := 0) rfl (by decide +kernel))⟩,
  List.forall_mem_cons.mpr ⟨⟨mo_il _ _, Or.inl (ok_iload_n (k := 3) rfl (by decide +kernel))⟩,
  List.forall_mem_cons.mpr ⟨⟨mo_pi _ _ _ _, Or.inl (ok_pi (ty := .int) (C := RX10) (T := TX10) (N := 12) (ci := 10) (k := 11) rfl inX10 (by decide) fl_X10_72 (by decide +kernel) tyX10 tyX10_ok nmX10 (by decide +kernel) (by decide +kernel) (by decide +kernel))⟩,
  List.forall_mem_cons.mpr ⟨⟨mo_ret0e, Or.inr (Or.inr (ok_ret0 rfl (by decide +kernel)))⟩,
  fun _ h => absurd h List.not_mem_nil⟩⟩⟩⟩⟩⟩⟩⟩
def t_X10_workOutWays : List (Nat × am_F) := t_X10_workOutWays_0 ++ (t_X10_workOutWays_1 ++ (t_X10_workOutWays_2))
theorem o_X10_workOutWays : ∀ q ∈ t_X10_workOutWays, am_ok vwCl q_SH ξ (q_E ξ β xs L) q_EN q_KD q_ML (cX10_workOutWays, 5, RX10, "workOutWays", none, []) q.1 q.2 := List.forall_mem_append.mpr ⟨o_X10_workOutWays_0, List.forall_mem_append.mpr ⟨o_X10_workOutWays_1, o_X10_workOutWays_2⟩⟩
def t_X10_waysWith_0 : List (Nat × am_F) := [(0, im_ic 0 1), (1, im_is 3 2), (2, im_ic 0 3), (3, im_is 4 5), (5, im_il 4 7), (7, im_al 0 8), (8, im_gr q_SH 10 5 11), (11, im_gi q_SH 2 5 14), (14, im_if2 ic_ge 49 17), (17, im_il 4 19), (19, im_ic 27 21), (21, im_if2 ic_ge 49 24), (24, im_il 3 25), (25, im_al 0 26), (26, im_gr q_SH 10 8 29), (29, im_il 4 31), (31, im_ic 20 33), (33, im_bin (fun x y => x * y) 34), (34, im_il 1 35), (35, im_bin (fun x y => x + y) 36)]
set_option maxRecDepth 20000 in
theorem o_X10_waysWith_0 : ∀ q ∈ t_X10_waysWith_0, am_ok vwCl q_SH ξ (q_E ξ β xs L) q_EN q_KD q_ML (cX10_waysWith, 5, RX10, "waysWith", (some .int), []) q.1 q.2 :=
  List.forall_mem_cons.mpr ⟨⟨mo_ic _ _, Or.inl (ok_iconst (n := 0) (v := 0) (by decide) (by decide +kernel))⟩,
  List.forall_mem_cons.mpr ⟨⟨mo_is _ _, Or.inl (ok_istore_n (k := 3) rfl (by decide) (by decide +kernel))⟩,
  List.forall_mem_cons.mpr ⟨⟨mo_ic _ _, Or.inl (ok_iconst (n := 0) (v := 0) (by decide) (by decide +kernel))⟩,
  List.forall_mem_cons.mpr ⟨⟨mo_is _ _, Or.inl (ok_istore (by decide) (by decide +kernel))⟩,
  List.forall_mem_cons.mpr ⟨⟨mo_il _ _, Or.inl (ok_iload (by decide +kernel))⟩,
  List.forall_mem_cons.mpr ⟨⟨mo_al _ _, Or.inl (ok_aload_n (k := 0) rfl (by decide +kernel))⟩,
  List.forall_mem_cons.mpr ⟨⟨mo_gr _ _ _ _, Or.inl (ok_gr (C := RX10) (T := TX10) (N := 12) (ci := 10) (k := 5) rfl inX10 (by decide) fl_X10_51 (by decide +kernel) (by decide +kernel))⟩,
  List.forall_mem_cons.mpr ⟨⟨mo_gi _ _ _ _, Or.inl (ok_gi (C := RX2) (T := TX2) (N := 7) (ci := 2) (k := 5) rfl inX2 (by decide) fl_X10_187 (by decide +kernel) (by decide +kernel))⟩,
  List.forall_mem_cons.mpr ⟨⟨mo_if2 _ _ _, Or.inl (ok_icmp_ge (off := 35) (by decide) (by decide +kernel))⟩,
  List.forall_mem_cons.mpr ⟨⟨mo_il _ _, Or.inl (ok_iload (by decide +kernel))⟩,
  List.forall_mem_cons.mpr ⟨⟨mo_ic _ _, Or.inl (ok_bipush (n := 27) (v := 27) (by decide) (by decide +kernel))⟩,
  List.forall_mem_cons.mpr ⟨⟨mo_if2 _ _ _, Or.inl (ok_icmp_ge (off := 28) (by decide) (by decide +kernel))⟩,
  List.forall_mem_cons.mpr ⟨⟨mo_il _ _, Or.inl (ok_iload_n (k := 3) rfl (by decide +kernel))⟩,
  List.forall_mem_cons.mpr ⟨⟨mo_al _ _, Or.inl (ok_aload_n (k := 0) rfl (by decide +kernel))⟩,
  List.forall_mem_cons.mpr ⟨⟨mo_gr _ _ _ _, Or.inl (ok_gr (C := RX10) (T := TX10) (N := 12) (ci := 10) (k := 8) rfl inX10 (by decide) fl_X10_68 (by decide +kernel) (by decide +kernel))⟩,
  List.forall_mem_cons.mpr ⟨⟨mo_il _ _, Or.inl (ok_iload (by decide +kernel))⟩,
  List.forall_mem_cons.mpr ⟨⟨mo_ic _ _, Or.inl (ok_bipush (n := 20) (v := 20) (by decide) (by decide +kernel))⟩,
  List.forall_mem_cons.mpr ⟨⟨mo_bin _ _, Or.inl (ok_imul (by decide +kernel))⟩,
  List.forall_mem_cons.mpr ⟨⟨mo_il _ _, Or.inl (ok_iload_n (k := 1) rfl (by decide +kernel))⟩,
  List.forall_mem_cons.mpr ⟨⟨mo_bin _ _, Or.inl (ok_iadd (by decide +kernel))⟩,
  fun _ h => absurd h List.not_mem_nil⟩⟩⟩⟩⟩⟩⟩⟩⟩⟩⟩⟩⟩⟩⟩⟩⟩⟩⟩⟩
def t_X10_waysWith_1 : List (Nat × am_F) := [(36, im_ald q_SH .int 37), (37, im_il 2 38), (38, im_bin (fun x y => x >>> (y &&& 31)) 39), (39, im_ic 1 40), (40, im_bin (fun x y => x &&& y) 41), (41, im_bin (fun x y => x + y) 42), (42, im_is 3 43), (43, im_iinc 4 1 46), (46, im_go 5), (49, im_il 3 50), (50, im_reti)]
set_option maxRecDepth 20000 in
theorem o_X10_waysWith_1 : ∀ q ∈ t_X10_waysWith_1, am_ok vwCl q_SH ξ (q_E ξ β xs L) q_EN q_KD q_ML (cX10_waysWith, 5, RX10, "waysWith", (some .int), []) q.1 q.2 :=
  List.forall_mem_cons.mpr ⟨⟨mo_ald _ _ _, Or.inl (ok_iald (by decide +kernel))⟩,
  List.forall_mem_cons.mpr ⟨⟨mo_il _ _, Or.inl (ok_iload_n (k := 2) rfl (by decide +kernel))⟩,
  List.forall_mem_cons.mpr ⟨⟨mo_bin _ _, Or.inl (ok_ishr (by decide +kernel))⟩,
  List.forall_mem_cons.mpr ⟨⟨mo_ic _ _, Or.inl (ok_iconst (n := 1) (v := 1) (by decide) (by decide +kernel))⟩,
  List.forall_mem_cons.mpr ⟨⟨mo_bin _ _, Or.inl (ok_iand (by decide +kernel))⟩,
  List.forall_mem_cons.mpr ⟨⟨mo_bin _ _, Or.inl (ok_iadd (by decide +kernel))⟩,
  List.forall_mem_cons.mpr ⟨⟨mo_is _ _, Or.inl (ok_istore_n (k := 3) rfl (by decide) (by decide +kernel))⟩,
  List.forall_mem_cons.mpr ⟨⟨mo_iinc _ _ _, Or.inl (ok_iinc (n := 1) (v := 1) (by decide) (by decide) (by decide +kernel))⟩,
  List.forall_mem_cons.mpr ⟨⟨mo_go _, Or.inl (ok_goto (off := (-41)) (by decide) (by decide +kernel))⟩,
  List.forall_mem_cons.mpr ⟨⟨mo_il _ _, Or.inl (ok_iload_n (k := 3) rfl (by decide +kernel))⟩,
  List.forall_mem_cons.mpr ⟨⟨mo_reti, Or.inr (Or.inr (ok_reti rfl (by decide +kernel)))⟩,
  fun _ h => absurd h List.not_mem_nil⟩⟩⟩⟩⟩⟩⟩⟩⟩⟩⟩
def t_X10_waysWith : List (Nat × am_F) := t_X10_waysWith_0 ++ (t_X10_waysWith_1)
theorem o_X10_waysWith : ∀ q ∈ t_X10_waysWith, am_ok vwCl q_SH ξ (q_E ξ β xs L) q_EN q_KD q_ML (cX10_waysWith, 5, RX10, "waysWith", (some .int), []) q.1 q.2 := List.forall_mem_append.mpr ⟨o_X10_waysWith_0, o_X10_waysWith_1⟩
def t_X10_isSettledBy_0 : List (Nat × am_F) := [(0, im_ic 0 1), (1, im_is 4 3), (3, im_il 4 5), (5, im_al 0 6), (6, im_gr q_SH 10 5 9), (9, im_gi q_SH 2 5 12), (12, im_if2 ic_ge 79 15), (15, im_il 4 17), (17, im_ic 27 19), (19, im_if2 ic_ge 79 22), (22, im_al 0 23), (23, im_gr q_SH 10 5 26), (26, im_il 4 28), (28, im_il 1 29), (29, im_inv q_SH 2 16 2 32), (32, im_is 5 34), (34, im_al 0 35), (35, im_gr q_SH 10 8 38), (38, im_il 4 40), (40, im_ic 20 42)]
set_option maxRecDepth 20000 in
theorem o_X10_isSettledBy_0 : ∀ q ∈ t_X10_isSettledBy_0, am_ok vwCl q_SH ξ (q_E ξ β xs L) q_EN q_KD q_ML (cX10_isSettledBy, 7, RX10, "isSettledBy", (some .boolean), []) q.1 q.2 :=
  List.forall_mem_cons.mpr ⟨⟨mo_ic _ _, Or.inl (ok_iconst (n := 0) (v := 0) (by decide) (by decide +kernel))⟩,
  List.forall_mem_cons.mpr ⟨⟨mo_is _ _, Or.inl (ok_istore (by decide) (by decide +kernel))⟩,
  List.forall_mem_cons.mpr ⟨⟨mo_il _ _, Or.inl (ok_iload (by decide +kernel))⟩,
  List.forall_mem_cons.mpr ⟨⟨mo_al _ _, Or.inl (ok_aload_n (k := 0) rfl (by decide +kernel))⟩,
  List.forall_mem_cons.mpr ⟨⟨mo_gr _ _ _ _, Or.inl (ok_gr (C := RX10) (T := TX10) (N := 12) (ci := 10) (k := 5) rfl inX10 (by decide) fl_X10_51 (by decide +kernel) (by decide +kernel))⟩,
  List.forall_mem_cons.mpr ⟨⟨mo_gi _ _ _ _, Or.inl (ok_gi (C := RX2) (T := TX2) (N := 7) (ci := 2) (k := 5) rfl inX2 (by decide) fl_X10_187 (by decide +kernel) (by decide +kernel))⟩,
  List.forall_mem_cons.mpr ⟨⟨mo_if2 _ _ _, Or.inl (ok_icmp_ge (off := 67) (by decide) (by decide +kernel))⟩,
  List.forall_mem_cons.mpr ⟨⟨mo_il _ _, Or.inl (ok_iload (by decide +kernel))⟩,
  List.forall_mem_cons.mpr ⟨⟨mo_ic _ _, Or.inl (ok_bipush (n := 27) (v := 27) (by decide) (by decide +kernel))⟩,
  List.forall_mem_cons.mpr ⟨⟨mo_if2 _ _ _, Or.inl (ok_icmp_ge (off := 60) (by decide) (by decide +kernel))⟩,
  List.forall_mem_cons.mpr ⟨⟨mo_al _ _, Or.inl (ok_aload_n (k := 0) rfl (by decide +kernel))⟩,
  List.forall_mem_cons.mpr ⟨⟨mo_gr _ _ _ _, Or.inl (ok_gr (C := RX10) (T := TX10) (N := 12) (ci := 10) (k := 5) rfl inX10 (by decide) fl_X10_51 (by decide +kernel) (by decide +kernel))⟩,
  List.forall_mem_cons.mpr ⟨⟨mo_il _ _, Or.inl (ok_iload (by decide +kernel))⟩,
  List.forall_mem_cons.mpr ⟨⟨mo_il _ _, Or.inl (ok_iload_n (k := 1) rfl (by decide +kernel))⟩,
  List.forall_mem_cons.mpr ⟨⟨mo_inv _ _ _ _ _, Or.inr (Or.inl (ok_inv (T := TX2) (N := 7) rfl cw_X2_firstLike (by decide) (by decide) ml_X10_267 ci_X2_firstLike cv_X2_firstLike (show Cond.initialized (yX2_firstLike).cls ∈ am_ts from ci9_RX2) ⟨by decide +kernel, by decide +kernel, by decide +kernel⟩ rfl (by decide +kernel)))⟩,
  List.forall_mem_cons.mpr ⟨⟨mo_is _ _, Or.inl (ok_istore (by decide) (by decide +kernel))⟩,
  List.forall_mem_cons.mpr ⟨⟨mo_al _ _, Or.inl (ok_aload_n (k := 0) rfl (by decide +kernel))⟩,
  List.forall_mem_cons.mpr ⟨⟨mo_gr _ _ _ _, Or.inl (ok_gr (C := RX10) (T := TX10) (N := 12) (ci := 10) (k := 8) rfl inX10 (by decide) fl_X10_68 (by decide +kernel) (by decide +kernel))⟩,
  List.forall_mem_cons.mpr ⟨⟨mo_il _ _, Or.inl (ok_iload (by decide +kernel))⟩,
  List.forall_mem_cons.mpr ⟨⟨mo_ic _ _, Or.inl (ok_bipush (n := 20) (v := 20) (by decide) (by decide +kernel))⟩,
  fun _ h => absurd h List.not_mem_nil⟩⟩⟩⟩⟩⟩⟩⟩⟩⟩⟩⟩⟩⟩⟩⟩⟩⟩⟩⟩
def t_X10_isSettledBy_1 : List (Nat × am_F) := [(42, im_bin (fun x y => x * y) 43), (43, im_il 2 44), (44, im_bin (fun x y => x + y) 45), (45, im_ald q_SH .int 46), (46, im_al 0 47), (47, im_gr q_SH 10 8 50), (50, im_il 5 52), (52, im_ic 20 54), (54, im_bin (fun x y => x * y) 55), (55, im_il 2 56), (56, im_bin (fun x y => x + y) 57), (57, im_ald q_SH .int 58), (58, im_bin (fun x y => x ^^^ y) 59), (59, im_is 6 61), (61, im_il 6 63), (63, im_il 3 64), (64, im_bin (fun x y => x >>> (y &&& 31)) 65), (65, im_ic 1 66), (66, im_bin (fun x y => x &&& y) 67), (67, im_ic 1 68)]
set_option maxRecDepth 20000 in
theorem o_X10_isSettledBy_1 : ∀ q ∈ t_X10_isSettledBy_1, am_ok vwCl q_SH ξ (q_E ξ β xs L) q_EN q_KD q_ML (cX10_isSettledBy, 7, RX10, "isSettledBy", (some .boolean), []) q.1 q.2 :=
  List.forall_mem_cons.mpr ⟨⟨mo_bin _ _, Or.inl (ok_imul (by decide +kernel))⟩,
  List.forall_mem_cons.mpr ⟨⟨mo_il _ _, Or.inl (ok_iload_n (k := 2) rfl (by decide +kernel))⟩,
  List.forall_mem_cons.mpr ⟨⟨mo_bin _ _, Or.inl (ok_iadd (by decide +kernel))⟩,
  List.forall_mem_cons.mpr ⟨⟨mo_ald _ _ _, Or.inl (ok_iald (by decide +kernel))⟩,
  List.forall_mem_cons.mpr ⟨⟨mo_al _ _, Or.inl (ok_aload_n (k := 0) rfl (by decide +kernel))⟩,
  List.forall_mem_cons.mpr ⟨⟨mo_gr _ _ _ _, Or.inl (ok_gr (C := RX10) (T := TX10) (N := 12) (ci := 10) (k := 8) rfl inX10 (by decide) fl_X10_68 (by decide +kernel) (by decide +kernel))⟩,
  List.forall_mem_cons.mpr ⟨⟨mo_il _ _, Or.inl (ok_iload (by decide +kernel))⟩,
  List.forall_mem_cons.mpr ⟨⟨mo_ic _ _, Or.inl (ok_bipush (n := 20) (v := 20) (by decide) (by decide +kernel))⟩,
  List.forall_mem_cons.mpr ⟨⟨mo_bin _ _, Or.inl (ok_imul (by decide +kernel))⟩,
  List.forall_mem_cons.mpr ⟨⟨mo_il _ _, Or.inl (ok_iload_n (k := 2) rfl (by decide +kernel))⟩,
  List.forall_mem_cons.mpr ⟨⟨mo_bin _ _, Or.inl (ok_iadd (by decide +kernel))⟩,
  List.forall_mem_cons.mpr ⟨⟨mo_ald _ _ _, Or.inl (ok_iald (by decide +kernel))⟩,
  List.forall_mem_cons.mpr ⟨⟨mo_bin _ _, Or.inl (ok_ixor (by decide +kernel))⟩,
  List.forall_mem_cons.mpr ⟨⟨mo_is _ _, Or.inl (ok_istore (by decide) (by decide +kernel))⟩,
  List.forall_mem_cons.mpr ⟨⟨mo_il _ _, Or.inl (ok_iload (by decide +kernel))⟩,
  List.forall_mem_cons.mpr ⟨⟨mo_il _ _, Or.inl (ok_iload_n (k := 3) rfl (by decide +kernel))⟩,
  List.forall_mem_cons.mpr ⟨⟨mo_bin _ _, Or.inl (ok_ishr (by decide +kernel))⟩,
  List.forall_mem_cons.mpr ⟨⟨mo_ic _ _, Or.inl (ok_iconst (n := 1) (v := 1) (by decide) (by decide +kernel))⟩,
  List.forall_mem_cons.mpr ⟨⟨mo_bin _ _, Or.inl (ok_iand (by decide +kernel))⟩,
  List.forall_mem_cons.mpr ⟨⟨mo_ic _ _, Or.inl (ok_iconst (n := 1) (v := 1) (by decide) (by decide +kernel))⟩,
  fun _ h => absurd h List.not_mem_nil⟩⟩⟩⟩⟩⟩⟩⟩⟩⟩⟩⟩⟩⟩⟩⟩⟩⟩⟩⟩
def t_X10_isSettledBy_2 : List (Nat × am_F) := [(68, im_if2 ic_ne 73 71), (71, im_ic 0 72), (72, im_retz), (73, im_iinc 4 1 76), (76, im_go 3), (79, im_ic 1 80), (80, im_retz)]
set_option maxRecDepth 20000 in
theorem o_X10_isSettledBy_2 : ∀ q ∈ t_X10_isSettledBy_2, am_ok vwCl q_SH ξ (q_E ξ β xs L) q_EN q_KD q_ML (cX10_isSettledBy, 7, RX10, "isSettledBy", (some .boolean), []) q.1 q.2 :=
  List.forall_mem_cons.mpr ⟨⟨mo_if2 _ _ _, Or.inl (ok_icmp_ne (off := 5) (by decide) (by decide +kernel))⟩,
  List.forall_mem_cons.mpr ⟨⟨mo_ic _ _, Or.inl (ok_iconst (n := 0) (v := 0) (by decide) (by decide +kernel))⟩,
  List.forall_mem_cons.mpr ⟨⟨mo_retz, Or.inr (Or.inr (ok_retz rfl (by decide +kernel)))⟩,
  List.forall_mem_cons.mpr ⟨⟨mo_iinc _ _ _, Or.inl (ok_iinc (n := 1) (v := 1) (by decide) (by decide) (by decide +kernel))⟩,
  List.forall_mem_cons.mpr ⟨⟨mo_go _, Or.inl (ok_goto (off := (-73)) (by decide) (by decide +kernel))⟩,
  List.forall_mem_cons.mpr ⟨⟨mo_ic _ _, Or.inl (ok_iconst (n := 1) (v := 1) (by decide) (by decide +kernel))⟩,
  List.forall_mem_cons.mpr ⟨⟨mo_retz, Or.inr (Or.inr (ok_retz rfl (by decide +kernel)))⟩,
  fun _ h => absurd h List.not_mem_nil⟩⟩⟩⟩⟩⟩⟩
def t_X10_isSettledBy : List (Nat × am_F) := t_X10_isSettledBy_0 ++ (t_X10_isSettledBy_1 ++ (t_X10_isSettledBy_2))
theorem o_X10_isSettledBy : ∀ q ∈ t_X10_isSettledBy, am_ok vwCl q_SH ξ (q_E ξ β xs L) q_EN q_KD q_ML (cX10_isSettledBy, 7, RX10, "isSettledBy", (some .boolean), []) q.1 q.2 := List.forall_mem_append.mpr ⟨o_X10_isSettledBy_0, List.forall_mem_append.mpr ⟨o_X10_isSettledBy_1, o_X10_isSettledBy_2⟩⟩
end Tab

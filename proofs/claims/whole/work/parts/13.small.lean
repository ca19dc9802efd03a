section Tab
variable {ξ : Nat → Nat} {β : Bool} {xs : Nat → Int32} {L : Nat}
def t_X0_init_0 : List (Nat × am_F) := [(0, im_al 0 1), (1, im_obj 4), (4, im_al 0 5), (5, im_ic 12 7), (7, im_newa q_SH .int 9), (9, im_pr q_SH 0 0 12), (12, im_al 0 13), (13, im_ic 12 15), (15, im_newa q_SH .int 17), (17, im_pr q_SH 0 1 20), (20, im_al 0 21), (21, im_ic 12 23), (23, im_newa q_SH .int 25), (25, im_pr q_SH 0 2 28), (28, im_al 0 29), (29, im_ic 12 31), (31, im_newa q_SH .int 33), (33, im_pr q_SH 0 3 36), (36, im_al 0 37), (37, im_ic 12 39)]
set_option maxRecDepth 20000 in
theorem o_X0_init_0 : ∀ q ∈ t_X0_init_0, am_ok vwCl q_SH ξ (q_E ξ β xs L) q_EN q_KD q_ML (cX0_init, 1, RX0, "<init>", none, []) q.1 q.2 :=
  List.forall_mem_cons.mpr ⟨⟨mo_al _ _, Or.inl (ok_aload_n (k := 0) rfl (by decide +kernel))⟩,
  List.forall_mem_cons.mpr ⟨⟨mo_obj _, Or.inl (ok_obj (am_in1 136 rfl rfl) (am_in1 33 rfl rfl) (am_in1 34 rfl rfl) (by decide +kernel))⟩,
  List.forall_mem_cons.mpr ⟨⟨mo_al _ _, Or.inl (ok_aload_n (k := 0) rfl (by decide +kernel))⟩,
  List.forall_mem_cons.mpr ⟨⟨mo_ic _ _, Or.inl (ok_bipush (n := 12) (v := 12) (by decide) (by decide +kernel))⟩,
  List.forall_mem_cons.mpr ⟨⟨mo_newa _ _ _, Or.inl (ok_newi (am_in1 54 rfl rfl) (by decide +kernel))⟩,
  List.forall_mem_cons.mpr ⟨⟨mo_pr _ _ _ _, Or.inl (ok_prF (C := RX0) (T := TX0) (N := 16) (ci := 0) (k := 0) rfl inX0 (by decide) fl_X0_9 (by decide +kernel) tyX0 tyX0_ok nmX0 (by decide +kernel) rfl rfl (ty := .array .int) (by decide +kernel) (fun _ => ⟨rfl, rfl⟩) (by decide +kernel))⟩,
  List.forall_mem_cons.mpr ⟨⟨mo_al _ _, Or.inl (ok_aload_n (k := 0) rfl (by decide +kernel))⟩,
  List.forall_mem_cons.mpr ⟨⟨mo_ic _ _, Or.inl (ok_bipush (n := 12) (v := 12) (by decide) (by decide +kernel))⟩,
  List.forall_mem_cons.mpr ⟨⟨mo_newa _ _ _, Or.inl (ok_newi (am_in1 54 rfl rfl) (by decide +kernel))⟩,
  List.forall_mem_cons.mpr ⟨⟨mo_pr _ _ _ _, Or.inl (ok_prF (C := RX0) (T := TX0) (N := 16) (ci := 0) (k := 1) rfl inX0 (by decide) fl_X0_15 (by decide +kernel) tyX0 tyX0_ok nmX0 (by decide +kernel) rfl rfl (ty := .array .int) (by decide +kernel) (fun _ => ⟨rfl, rfl⟩) (by decide +kernel))⟩,
  List.forall_mem_cons.mpr ⟨⟨mo_al _ _, Or.inl (ok_aload_n (k := 0) rfl (by decide +kernel))⟩,
  List.forall_mem_cons.mpr ⟨⟨mo_ic _ _, Or.inl (ok_bipush (n := 12) (v := 12) (by decide) (by decide +kernel))⟩,
  List.forall_mem_cons.mpr ⟨⟨mo_newa _ _ _, Or.inl (ok_newi (am_in1 54 rfl rfl) (by decide +kernel))⟩,
  List.forall_mem_cons.mpr ⟨⟨mo_pr _ _ _ _, Or.inl (ok_prF (C := RX0) (T := TX0) (N := 16) (ci := 0) (k := 2) rfl inX0 (by decide) fl_X0_18 (by decide +kernel) tyX0 tyX0_ok nmX0 (by decide +kernel) rfl rfl (ty := .array .int) (by decide +kernel) (fun _ => ⟨rfl, rfl⟩) (by decide +kernel))⟩,
  List.forall_mem_cons.mpr ⟨⟨mo_al _ _, Or.inl (ok_aload_n (k := 0) rfl (by decide +kernel))⟩,
  List.forall_mem_cons.mpr ⟨⟨mo_ic _ _, Or.inl (ok_bipush (n := 12) (v := 12) (by decide) (by decide +kernel))⟩,
  List.forall_mem_cons.mpr ⟨⟨mo_newa _ _ _, Or.inl (ok_newi (am_in1 54 rfl rfl) (by decide +kernel))⟩,
  List.forall_mem_cons.mpr ⟨⟨mo_pr _ _ _ _, Or.inl (ok_prF (C := RX0) (T := TX0) (N := 16) (ci := 0) (k := 3) rfl inX0 (by decide) fl_X0_21 (by decide +kernel) tyX0 tyX0_ok nmX0 (by decide +kernel) rfl rfl (ty := .array .int) (by decide +kernel) (fun _ => ⟨rfl, rfl⟩) (by decide +kernel))⟩,
  List.forall_mem_cons.mpr ⟨⟨mo_al _ _, Or.inl (ok_aload_n (k := 0) rfl (by decide +kernel))⟩,
  List.forall_mem_cons.mpr ⟨⟨mo_ic _ _, Or.inl (ok_bipush (n := 12) (v := 12) (by decide) (by decide +kernel))⟩,
  fun _ h => absurd h List.not_mem_nil⟩⟩⟩⟩⟩⟩⟩⟩⟩⟩⟩⟩⟩⟩⟩⟩⟩⟩⟩⟩
def t_X0_init_1 : List (Nat × am_F) := [(39, im_newa q_SH .int 41), (41, im_pr q_SH 0 4 44), (44, im_al 0 45), (45, im_ic 12 47), (47, im_newa q_SH .int 49), (49, im_pr q_SH 0 5 52), (52, im_al 0 53), (53, im_ic 12 55), (55, im_newa q_SH .int 57), (57, im_pr q_SH 0 6 60), (60, im_al 0 61), (61, im_ic 12 63), (63, im_newa q_SH .int 65), (65, im_pr q_SH 0 7 68), (68, im_al 0 69), (69, im_ic 144 72), (72, im_newa q_SH .int 74), (74, im_pr q_SH 0 8 77), (77, im_al 0 78), (78, im_ic 144 81)]
set_option maxRecDepth 20000 in
theorem o_X0_init_1 : ∀ q ∈ t_X0_init_1, am_ok vwCl q_SH ξ (q_E ξ β xs L) q_EN q_KD q_ML (cX0_init, 1, RX0, "<init>", none, []) q.1 q.2 :=
  List.forall_mem_cons.mpr ⟨⟨mo_newa _ _ _, Or.inl (ok_newi (am_in1 54 rfl rfl) (by decide +kernel))⟩,
  List.forall_mem_cons.mpr ⟨⟨mo_pr _ _ _ _, Or.inl (ok_prF (C := RX0) (T := TX0) (N := 16) (ci := 0) (k := 4) rfl inX0 (by decide) fl_X0_24 (by decide +kernel) tyX0 tyX0_ok nmX0 (by decide +kernel) rfl rfl (ty := .array .int) (by decide +kernel) (fun _ => ⟨rfl, rfl⟩) (by decide +kernel))⟩,
  List.forall_mem_cons.mpr ⟨⟨mo_al _ _, Or.inl (ok_aload_n (k := 0) rfl (by decide +kernel))⟩,
  List.forall_mem_cons.mpr ⟨⟨mo_ic _ _, Or.inl (ok_bipush (n := 12) (v := 12) (by decide) (by decide +kernel))⟩,
  List.forall_mem_cons.mpr ⟨⟨mo_newa _ _ _, Or.inl (ok_newi (am_in1 54 rfl rfl) (by decide +kernel))⟩,
  List.forall_mem_cons.mpr ⟨⟨mo_pr _ _ _ _, Or.inl (ok_prF (C := RX0) (T := TX0) (N := 16) (ci := 0) (k := 5) rfl inX0 (by decide) fl_X0_27 (by decide +kernel) tyX0 tyX0_ok nmX0 (by decide +kernel) rfl rfl (ty := .array .int) (by decide +kernel) (fun _ => ⟨rfl, rfl⟩) (by decide +kernel))⟩,
  List.forall_mem_cons.mpr ⟨⟨mo_al _ _, Or.inl (ok_aload_n (k := 0) rfl (by decide +kernel))⟩,
  List.forall_mem_cons.mpr ⟨⟨mo_ic _ _, Or.inl (ok_bipush (n := 12) (v := 12) (by decide) (by decide +kernel))⟩,
  List.forall_mem_cons.mpr ⟨⟨mo_newa _ _ _, Or.inl (ok_newi (am_in1 54 rfl rfl) (by decide +kernel))⟩,
  List.forall_mem_cons.mpr ⟨⟨mo_pr _ _ _ _, Or.inl (ok_prF (C := RX0) (T := TX0) (N := 16) (ci := 0) (k := 6) rfl inX0 (by decide) fl_X0_30 (by decide +kernel) tyX0 tyX0_ok nmX0 (by decide +kernel) rfl rfl (ty := .array .int) (by decide +kernel) (fun _ => ⟨rfl, rfl⟩) (by decide +kernel))⟩,
  List.forall_mem_cons.mpr ⟨⟨mo_al _ _, Or.inl (ok_aload_n (k := 0) rfl (by decide +kernel))⟩,
  List.forall_mem_cons.mpr ⟨⟨mo_ic _ _, Or.inl (ok_bipush (n := 12) (v := 12) (by decide) (by decide +kernel))⟩,
  List.forall_mem_cons.mpr ⟨⟨mo_newa _ _ _, Or.inl (ok_newi (am_in1 54 rfl rfl) (by decide +kernel))⟩,
  List.forall_mem_cons.mpr ⟨⟨mo_pr _ _ _ _, Or.inl (ok_prF (C := RX0) (T := TX0) (N := 16) (ci := 0) (k := 7) rfl inX0 (by decide) fl_X0_33 (by decide +kernel) tyX0 tyX0_ok nmX0 (by decide +kernel) rfl rfl (ty := .array .int) (by decide +kernel) (fun _ => ⟨rfl, rfl⟩) (by decide +kernel))⟩,
  List.forall_mem_cons.mpr ⟨⟨mo_al _ _, Or.inl (ok_aload_n (k := 0) rfl (by decide +kernel))⟩,
  List.forall_mem_cons.mpr ⟨⟨mo_ic _ _, Or.inl (ok_sipush (n := 144) (v := 144) (by decide) (by decide +kernel))⟩,
  List.forall_mem_cons.mpr ⟨⟨mo_newa _ _ _, Or.inl (ok_newi (am_in1 54 rfl rfl) (by decide +kernel))⟩,
  List.forall_mem_cons.mpr ⟨⟨mo_pr _ _ _ _, Or.inl (ok_prF (C := RX0) (T := TX0) (N := 16) (ci := 0) (k := 8) rfl inX0 (by decide) fl_X0_36 (by decide +kernel) tyX0 tyX0_ok nmX0 (by decide +kernel) rfl rfl (ty := .array .int) (by decide +kernel) (fun _ => ⟨rfl, rfl⟩) (by decide +kernel))⟩,
  List.forall_mem_cons.mpr ⟨⟨mo_al _ _, Or.inl (ok_aload_n (k := 0) rfl (by decide +kernel))⟩,
  List.forall_mem_cons.mpr ⟨⟨mo_ic _ _, Or.inl (ok_sipush (n := 144) (v := 144) (by decide) (by decide +kernel))⟩,
  fun _ h => absurd h List.not_mem_nil⟩⟩⟩⟩⟩⟩⟩⟩⟩⟩⟩⟩⟩⟩⟩⟩⟩⟩⟩⟩
def t_X0_init_2 : List (Nat × am_F) := [(81, im_newa q_SH .int 83), (83, im_pr q_SH 0 9 86), (86, im_al 0 87), (87, im_ic 144 90), (90, im_newa q_SH .int 92), (92, im_pr q_SH 0 10 95), (95, im_al 0 96), (96, im_ic 144 99), (99, im_newa q_SH .int 101), (101, im_pr q_SH 0 11 104), (104, im_al 0 105), (105, im_ic 144 108), (108, im_newa q_SH .int 110), (110, im_pr q_SH 0 12 113), (113, im_al 0 114), (114, im_ic 144 117), (117, im_newa q_SH .int 119), (119, im_pr q_SH 0 13 122), (122, im_al 0 123), (123, im_ic 6000 126)]
set_option maxRecDepth 20000 in
theorem o_X0_init_2 : ∀ q ∈ t_X0_init_2, am_ok vwCl q_SH ξ (q_E ξ β xs L) q_EN q_KD q_ML (cX0_init, 1, RX0, "<init>", none, []) q.1 q.2 :=
  List.forall_mem_cons.mpr ⟨⟨mo_newa _ _ _, Or.inl (ok_newi (am_in1 54 rfl rfl) (by decide +kernel))⟩,
  List.forall_mem_cons.mpr ⟨⟨mo_pr _ _ _ _, Or.inl (ok_prF (C := RX0) (T := TX0) (N := 16) (ci := 0) (k := 9) rfl inX0 (by decide) fl_X0_39 (by decide +kernel) tyX0 tyX0_ok nmX0 (by decide +kernel) rfl rfl (ty := .array .int) (by decide +kernel) (fun _ => ⟨rfl, rfl⟩) (by decide +kernel))⟩,
  List.forall_mem_cons.mpr ⟨⟨mo_al _ _, Or.inl (ok_aload_n (k := 0) rfl (by decide +kernel))⟩,
  List.forall_mem_cons.mpr ⟨⟨mo_ic _ _, Or.inl (ok_sipush (n := 144) (v := 144) (by decide) (by decide +kernel))⟩,
  List.forall_mem_cons.mpr ⟨⟨mo_newa _ _ _, Or.inl (ok_newi (am_in1 54 rfl rfl) (by decide +kernel))⟩,
  List.forall_mem_cons.mpr ⟨⟨mo_pr _ _ _ _, Or.inl (ok_prF (C := RX0) (T := TX0) (N := 16) (ci := 0) (k := 10) rfl inX0 (by decide) fl_X0_42 (by decide +kernel) tyX0 tyX0_ok nmX0 (by decide +kernel) rfl rfl (ty := .array .int) (by decide +kernel) (fun _ => ⟨rfl, rfl⟩) (by decide +kernel))⟩,
  List.forall_mem_cons.mpr ⟨⟨mo_al _ _, Or.inl (ok_aload_n (k := 0) rfl (by decide +kernel))⟩,
  List.forall_mem_cons.mpr ⟨⟨mo_ic _ _, Or.inl (ok_sipush (n := 144) (v := 144) (by decide) (by decide +kernel))⟩,
  List.forall_mem_cons.mpr ⟨⟨mo_newa _ _ _, Or.inl (ok_newi (am_in1 54 rfl rfl) (by decide +kernel))⟩,
  List.forall_mem_cons.mpr ⟨⟨mo_pr _ _ _ _, Or.inl (ok_prF (C := RX0) (T := TX0) (N := 16) (ci := 0) (k := 11) rfl inX0 (by decide) fl_X0_45 (by decide +kernel) tyX0 tyX0_ok nmX0 (by decide +kernel) rfl rfl (ty := .array .int) (by decide +kernel) (fun _ => ⟨rfl, rfl⟩) (by decide +kernel))⟩,
  List.forall_mem_cons.mpr ⟨⟨mo_al _ _, Or.inl (ok_aload_n (k := 0) rfl (by decide +kernel))⟩,
  List.forall_mem_cons.mpr ⟨⟨mo_ic _ _, Or.inl (ok_sipush (n := 144) (v := 144) (by decide) (by decide +kernel))⟩,
  List.forall_mem_cons.mpr ⟨⟨mo_newa _ _ _, Or.inl (ok_newi (am_in1 54 rfl rfl) (by decide +kernel))⟩,
  List.forall_mem_cons.mpr ⟨⟨mo_pr _ _ _ _, Or.inl (ok_prF (C := RX0) (T := TX0) (N := 16) (ci := 0) (k := 12) rfl inX0 (by decide) fl_X0_48 (by decide +kernel) tyX0 tyX0_ok nmX0 (by decide +kernel) rfl rfl (ty := .array .int) (by decide +kernel) (fun _ => ⟨rfl, rfl⟩) (by decide +kernel))⟩,
  List.forall_mem_cons.mpr ⟨⟨mo_al _ _, Or.inl (ok_aload_n (k := 0) rfl (by decide +kernel))⟩,
  List.forall_mem_cons.mpr ⟨⟨mo_ic _ _, Or.inl (ok_sipush (n := 144) (v := 144) (by decide) (by decide +kernel))⟩,
  List.forall_mem_cons.mpr ⟨⟨mo_newa _ _ _, Or.inl (ok_newi (am_in1 54 rfl rfl) (by decide +kernel))⟩,
  List.forall_mem_cons.mpr ⟨⟨mo_pr _ _ _ _, Or.inl (ok_prF (C := RX0) (T := TX0) (N := 16) (ci := 0) (k := 13) rfl inX0 (by decide) fl_X0_51 (by decide +kernel) tyX0 tyX0_ok nmX0 (by decide +kernel) rfl rfl (ty := .array .int) (by decide +kernel) (fun _ => ⟨rfl, rfl⟩) (by decide +kernel))⟩,
  List.forall_mem_cons.mpr ⟨⟨mo_al _ _, Or.inl (ok_aload_n (k := 0) rfl (by decide +kernel))⟩,
  List.forall_mem_cons.mpr ⟨⟨mo_ic _ _, Or.inl (ok_sipush (n := 6000) (v := 6000) (by decide) (by decide +kernel))⟩,
  fun _ h => absurd h List.not_mem_nil⟩⟩⟩⟩⟩⟩⟩⟩⟩⟩⟩⟩⟩⟩⟩⟩⟩⟩⟩⟩
def t_X0_init_3 : List (Nat × am_F) := [(126, im_newa q_SH .int 128), (128, im_pr q_SH 0 14 131), (131, im_ret0e)]
set_option maxRecDepth 20000 in
theorem o_X0_init_3 : ∀ q ∈ t_X0_init_3, am_ok vwCl q_SH ξ (q_E ξ β xs L) q_EN q_KD q_ML (cX0_init, 1, RX0, "<init>", none, []) q.1 q.2 :=
  List.forall_mem_cons.mpr ⟨⟨mo_newa _ _ _, Or.inl (ok_newi (am_in1 54 rfl rfl) (by decide +kernel))⟩,
  List.forall_mem_cons.mpr ⟨⟨mo_pr _ _ _ _, Or.inl (ok_prF (C := RX0) (T := TX0) (N := 16) (ci := 0) (k := 14) rfl inX0 (by decide) fl_X0_54 (by decide +kernel) tyX0 tyX0_ok nmX0 (by decide +kernel) rfl rfl (ty := .array .int) (by decide +kernel) (fun _ => ⟨rfl, rfl⟩) (by decide +kernel))⟩,
  List.forall_mem_cons.mpr ⟨⟨mo_ret0e, Or.inr (Or.inr (ok_ret0 rfl (by decide +kernel)))⟩,
  fun _ h => absurd h List.not_mem_nil⟩⟩⟩
def t_X0_init : List (Nat × am_F) := t_X0_init_0 ++ (t_X0_init_1 ++ (t_X0_init_2 ++ (t_X0_init_3)))
theorem o_X0_init : ∀ q ∈ t_X0_init, am_ok vwCl q_SH ξ (q_E ξ β xs L) q_EN q_KD q_ML (cX0_init, 1, RX0, "<init>", none, []) q.1 q.2 := List.forall_mem_append.mpr ⟨o_X0_init_0, List.forall_mem_append.mpr ⟨o_X0_init_1, List.forall_mem_append.mpr ⟨o_X0_init_2, o_X0_init_3⟩⟩⟩
def t_X0_known_0 : List (Nat × am_F) := [(0, im_ic 0 1), (1, im_is 2 2), (2, im_ic 0 3), (3, im_is 3 4), (4, im_il 3 5), (5, im_al 0 6), (6, im_gi q_SH 0 15 9), (9, im_if2 ic_ge 54 12), (12, im_al 0 13), (13, im_gr q_SH 0 3 16), (16, im_il 3 17), (17, im_ald q_SH .int 18), (18, im_il 1 19), (19, im_if2 ic_gt 48 22), (22, im_al 0 23), (23, im_gr q_SH 0 4 26), (26, im_il 3 27), (27, im_ald q_SH .int 28), (28, im_ic (-1) 29), (29, im_if2 ic_eq 42 32)]
set_option maxRecDepth 20000 in
theorem o_X0_known_0 : ∀ q ∈ t_X0_known_0, am_ok vwCl q_SH ξ (q_E ξ β xs L) q_EN q_KD q_ML (cX0_known, 4, RX0, "known", (some .int), []) q.1 q.2 :=
  List.forall_mem_cons.mpr ⟨⟨mo_ic _ _, Or.inl (ok_iconst (n := 0) (v := 0) (by decide) (by decide +kernel))⟩,
  List.forall_mem_cons.mpr ⟨⟨mo_is _ _, Or.inl (ok_istore_n (k := 2) rfl (by decide) (by decide +kernel))⟩,
  List.forall_mem_cons.mpr ⟨⟨mo_ic _ _, Or.inl (ok_iconst (n := 0) (v := 0) (by decide) (by decide +kernel))⟩,
  List.forall_mem_cons.mpr ⟨⟨mo_is _ _, Or.inl (ok_istore_n (k := 3) rfl (by decide) (by decide +kernel))⟩,
  List.forall_mem_cons.mpr ⟨⟨mo_il _ _, Or.inl (ok_iload_n (k := 3) rfl (by decide +kernel))⟩,
  List.forall_mem_cons.mpr ⟨⟨mo_al _ _, Or.inl (ok_aload_n (k := 0) rfl (by decide +kernel))⟩,
  List.forall_mem_cons.mpr ⟨⟨mo_gi _ _ _ _, Or.inl (ok_gi (C := RX0) (T := TX0) (N := 16) (ci := 0) (k := 15) rfl inX0 (by decide) fl_X0_57 (by decide +kernel) (by decide +kernel))⟩,
  List.forall_mem_cons.mpr ⟨⟨mo_if2 _ _ _, Or.inl (ok_icmp_ge (off := 45) (by decide) (by decide +kernel))⟩,
  List.forall_mem_cons.mpr ⟨⟨mo_al _ _, Or.inl (ok_aload_n (k := 0) rfl (by decide +kernel))⟩,
  List.forall_mem_cons.mpr ⟨⟨mo_gr _ _ _ _, Or.inl (ok_gr (C := RX0) (T := TX0) (N := 16) (ci := 0) (k := 3) rfl inX0 (by decide) fl_X0_21 (by decide +kernel) (by decide +kernel))⟩,
  List.forall_mem_cons.mpr ⟨⟨mo_il _ _, Or.inl (ok_iload_n (k := 3) rfl (by decide +kernel))⟩,
  List.forall_mem_cons.mpr ⟨⟨mo_ald _ _ _, Or.inl (ok_iald (by decide +kernel))⟩,
  List.forall_mem_cons.mpr ⟨⟨mo_il _ _, Or.inl (ok_iload_n (k := 1) rfl (by decide +kernel))⟩,
  List.forall_mem_cons.mpr ⟨⟨mo_if2 _ _ _, Or.inl (ok_icmp_gt (off := 29) (by decide) (by decide +kernel))⟩,
  List.forall_mem_cons.mpr ⟨⟨mo_al _ _, Or.inl (ok_aload_n (k := 0) rfl (by decide +kernel))⟩,
  List.forall_mem_cons.mpr ⟨⟨mo_gr _ _ _ _, Or.inl (ok_gr (C := RX0) (T := TX0) (N := 16) (ci := 0) (k := 4) rfl inX0 (by decide) fl_X0_24 (by decide +kernel) (by decide +kernel))⟩,
  List.forall_mem_cons.mpr ⟨⟨mo_il _ _, Or.inl (ok_iload_n (k := 3) rfl (by decide +kernel))⟩,
  List.forall_mem_cons.mpr ⟨⟨mo_ald _ _ _, Or.inl (ok_iald (by decide +kernel))⟩,
  List.forall_mem_cons.mpr ⟨⟨mo_ic _ _, Or.inl (ok_iconst (n := (-1)) (v := (-1)) (by decide) (by decide +kernel))⟩,
  List.forall_mem_cons.mpr ⟨⟨mo_if2 _ _ _, Or.inl (ok_icmp_eq (off := 13) (by decide) (by decide +kernel))⟩,
  fun _ h => absurd h List.not_mem_nil⟩⟩⟩⟩⟩⟩⟩⟩⟩⟩⟩⟩⟩⟩⟩⟩⟩⟩⟩⟩
def t_X0_known_1 : List (Nat × am_F) := [(32, im_al 0 33), (33, im_gr q_SH 0 4 36), (36, im_il 3 37), (37, im_ald q_SH .int 38), (38, im_il 1 39), (39, im_if2 ic_le 48 42), (42, im_il 2 43), (43, im_ic 1 44), (44, im_il 3 45), (45, im_bin (fun x y => x <<< (y &&& 31)) 46), (46, im_bin (fun x y => x ||| y) 47), (47, im_is 2 48), (48, im_iinc 3 1 51), (51, im_go 4), (54, im_il 2 55), (55, im_reti)]
set_option maxRecDepth 20000 in
theorem o_X0_known_1 : ∀ q ∈ t_X0_known_1, am_ok vwCl q_SH ξ (q_E ξ β xs L) q_EN q_KD q_ML (cX0_known, 4, RX0, "known", (some .int), []) q.1 q.2 :=
  List.forall_mem_cons.mpr ⟨⟨mo_al _ _, Or.inl (ok_aload_n (k := 0) rfl (by decide +kernel))⟩,
  List.forall_mem_cons.mpr ⟨⟨mo_gr _ _ _ _, Or.inl (ok_gr (C := RX0) (T := TX0) (N := 16) (ci := 0) (k := 4) rfl inX0 (by decide) fl_X0_24 (by decide +kernel) (by decide +kernel))⟩,
  List.forall_mem_cons.mpr ⟨⟨mo_il _ _, Or.inl (ok_iload_n (k := 3) rfl (by decide +kernel))⟩,
  List.forall_mem_cons.mpr ⟨⟨mo_ald _ _ _, Or.inl (ok_iald (by decide +kernel))⟩,
  List.forall_mem_cons.mpr ⟨⟨mo_il _ _, Or.inl (ok_iload_n (k := 1) rfl (by decide +kernel))⟩,
  List.forall_mem_cons.mpr ⟨⟨mo_if2 _ _ _, Or.inl (ok_icmp_le (off := 9) (by decide) (by decide +kernel))⟩,
  List.forall_mem_cons.mpr ⟨⟨mo_il _ _, Or.inl (ok_iload_n (k := 2) rfl (by decide +kernel))⟩,
  List.forall_mem_cons.mpr ⟨⟨mo_ic _ _, Or.inl (ok_iconst (n := 1) (v := 1) (by decide) (by decide +kernel))⟩,
  List.forall_mem_cons.mpr ⟨⟨mo_il _ _, Or.inl (ok_iload_n (k := 3) rfl (by decide +kernel))⟩,
  List.forall_mem_cons.mpr ⟨⟨mo_bin _ _, Or.inl (ok_ishl (by decide +kernel))⟩,
  List.forall_mem_cons.mpr ⟨⟨mo_bin _ _, Or.inl (ok_ior (by decide +kernel))⟩,
  List.forall_mem_cons.mpr ⟨⟨mo_is _ _, Or.inl (ok_istore_n (k := 2) rfl (by decide) (by decide +kernel))⟩,
  List.forall_mem_cons.mpr ⟨⟨mo_iinc _ _ _, Or.inl (ok_iinc (n := 1) (v := 1) (by decide) (by decide) (by decide +kernel))⟩,
  List.forall_mem_cons.mpr ⟨⟨mo_go _, Or.inl (ok_goto (off := (-47)) (by decide) (by decide +kernel))⟩,
  List.forall_mem_cons.mpr ⟨⟨mo_il _ _, Or.inl (ok_iload_n (k := 2) rfl (by decide +kernel))⟩,
  List.forall_mem_cons.mpr ⟨⟨mo_reti, Or.inr (Or.inr (ok_reti rfl (by decide +kernel)))⟩,
  fun _ h => absurd h List.not_mem_nil⟩⟩⟩⟩⟩⟩⟩⟩⟩⟩⟩⟩⟩⟩⟩⟩
def t_X0_known : List (Nat × am_F) := t_X0_known_0 ++ (t_X0_known_1)
theorem o_X0_known : ∀ q ∈ t_X0_known, am_ok vwCl q_SH ξ (q_E ξ β xs L) q_EN q_KD q_ML (cX0_known, 4, RX0, "known", (some .int), []) q.1 q.2 := List.forall_mem_append.mpr ⟨o_X0_known_0, o_X0_known_1⟩
def t_X0_inForce_0 : List (Nat × am_F) := [(0, im_ic 0 1), (1, im_is 3 2), (2, im_ic 0 3), (3, im_is 4 5), (5, im_al 0 6), (6, im_gi q_SH 0 15 9), (9, im_ic 1 10), (10, im_bin (fun x y => x - y) 11), (11, im_is 5 13), (13, im_il 5 15), (15, im_if1 ib_lt 97 18), (18, im_il 1 19), (19, im_il 5 21), (21, im_bin (fun x y => x >>> (y &&& 31)) 22), (22, im_ic 1 23), (23, im_bin (fun x y => x &&& y) 24), (24, im_ic 1 25), (25, im_if2 ic_ne 42 28), (28, im_il 4 30), (30, im_il 5 32)]
set_option maxRecDepth 20000 in
theorem o_X0_inForce_0 : ∀ q ∈ t_X0_inForce_0, am_ok vwCl q_SH ξ (q_E ξ β xs L) q_EN q_KD q_ML (cX0_inForce, 7, RX0, "inForce", (some .int), []) q.1 q.2 :=
  List.forall_mem_cons.mpr ⟨⟨mo_ic _ _, Or.inl (ok_iconst (n := 0) (v := 0) (by decide) (by decide +kernel))⟩,
  List.forall_mem_cons.mpr ⟨⟨mo_is _ _, Or.inl (ok_istore_n (k := 3) rfl (by decide) (by decide +kernel))⟩,
  List.forall_mem_cons.mpr ⟨⟨mo_ic _ _, Or.inl (ok_iconst (n := 0) (v := 0) (by decide) (by decide +kernel))⟩,
  List.forall_mem_cons.mpr ⟨⟨mo_is _ _, Or.inl (ok_istore (by decide) (by decide +kernel))⟩,
  List.forall_mem_cons.mpr ⟨⟨mo_al _ _, Or.inl (ok_aload_n (k := 0) rfl (by decide +kernel))⟩,
  List.forall_mem_cons.mpr ⟨⟨mo_gi _ _ _ _, Or.inl (ok_gi (C := RX0) (T := TX0) (N := 16) (ci := 0) (k := 15) rfl inX0 (by decide) fl_X0_57 (by decide +kernel) (by decide +kernel))⟩,
  List.forall_mem_cons.mpr ⟨⟨mo_ic _ _, Or.inl (ok_iconst (n := 1) (v := 1) (by decide) (by decide +kernel))⟩,
  List.forall_mem_cons.mpr ⟨⟨mo_bin _ _, Or.inl (ok_isub (by decide +kernel))⟩,
  List.forall_mem_cons.mpr ⟨⟨mo_is _ _, Or.inl (ok_istore (by decide) (by decide +kernel))⟩,
  List.forall_mem_cons.mpr ⟨⟨mo_il _ _, Or.inl (ok_iload (by decide +kernel))⟩,
  List.forall_mem_cons.mpr ⟨⟨mo_if1 _ _ _, Or.inl (ok_if_lt (off := 82) (by decide) (by decide +kernel))⟩,
  List.forall_mem_cons.mpr ⟨⟨mo_il _ _, Or.inl (ok_iload_n (k := 1) rfl (by decide +kernel))⟩,
  List.forall_mem_cons.mpr ⟨⟨mo_il _ _, Or.inl (ok_iload (by decide +kernel))⟩,
  List.forall_mem_cons.mpr ⟨⟨mo_bin _ _, Or.inl (ok_ishr (by decide +kernel))⟩,
  List.forall_mem_cons.mpr ⟨⟨mo_ic _ _, Or.inl (ok_iconst (n := 1) (v := 1) (by decide) (by decide +kernel))⟩,
  List.forall_mem_cons.mpr ⟨⟨mo_bin _ _, Or.inl (ok_iand (by decide +kernel))⟩,
  List.forall_mem_cons.mpr ⟨⟨mo_ic _ _, Or.inl (ok_iconst (n := 1) (v := 1) (by decide) (by decide +kernel))⟩,
  List.forall_mem_cons.mpr ⟨⟨mo_if2 _ _ _, Or.inl (ok_icmp_ne (off := 17) (by decide) (by decide +kernel))⟩,
  List.forall_mem_cons.mpr ⟨⟨mo_il _ _, Or.inl (ok_iload (by decide +kernel))⟩,
  List.forall_mem_cons.mpr ⟨⟨mo_il _ _, Or.inl (ok_iload (by decide +kernel))⟩,
  fun _ h => absurd h List.not_mem_nil⟩⟩⟩⟩⟩⟩⟩⟩⟩⟩⟩⟩⟩⟩⟩⟩⟩⟩⟩⟩
def t_X0_inForce_1 : List (Nat × am_F) := [(32, im_bin (fun x y => x >>> (y &&& 31)) 33), (33, im_ic 1 34), (34, im_bin (fun x y => x &&& y) 35), (35, im_if1 ib_ne 42 38), (38, im_ic 1 39), (39, im_go 43), (42, im_ic 0 43), (43, im_is 6 45), (45, im_il 6 47), (47, im_if1 ib_eq 91 50), (50, im_al 0 51), (51, im_gr q_SH 0 1 54), (54, im_il 5 56), (56, im_ald q_SH .int 57), (57, im_il 2 58), (58, im_if2 ic_gt 91 61), (61, im_il 2 62), (62, im_al 0 63), (63, im_gr q_SH 0 2 66), (66, im_il 5 68)]
set_option maxRecDepth 20000 in
theorem o_X0_inForce_1 : ∀ q ∈ t_X0_inForce_1, am_ok vwCl q_SH ξ (q_E ξ β xs L) q_EN q_KD q_ML (cX0_inForce, 7, RX0, "inForce", (some .int), []) q.1 q.2 :=
  List.forall_mem_cons.mpr ⟨⟨mo_bin _ _, Or.inl (ok_ishr (by decide +kernel))⟩,
  List.forall_mem_cons.mpr ⟨⟨mo_ic _ _, Or.inl (ok_iconst (n := 1) (v := 1) (by decide) (by decide +kernel))⟩,
  List.forall_mem_cons.mpr ⟨⟨mo_bin _ _, Or.inl (ok_iand (by decide +kernel))⟩,
  List.forall_mem_cons.mpr ⟨⟨mo_if1 _ _ _, Or.inl (ok_if_ne (off := 7) (by decide) (by decide +kernel))⟩,
  List.forall_mem_cons.mpr ⟨⟨mo_ic _ _, Or.inl (ok_iconst (n := 1) (v := 1) (by decide) (by decide +kernel))⟩,
  List.forall_mem_cons.mpr ⟨⟨mo_go _, Or.inl (ok_goto (off := 4) (by decide) (by decide +kernel))⟩,
  List.forall_mem_cons.mpr ⟨⟨mo_ic _ _, Or.inl (ok_iconst (n := 0) (v := 0) (by decide) (by decide +kernel))⟩,
  List.forall_mem_cons.mpr ⟨⟨mo_is _ _, Or.inl (ok_istore (by decide) (by decide +kernel))⟩,
  List.forall_mem_cons.mpr ⟨⟨mo_il _ _, Or.inl (ok_iload (by decide +kernel))⟩,
  List.forall_mem_cons.mpr ⟨⟨mo_if1 _ _ _, Or.inl (ok_if_eq (off := 44) (by decide) (by decide +kernel))⟩,
  List.forall_mem_cons.mpr ⟨⟨mo_al _ _, Or.inl (ok_aload_n (k := 0) rfl (by decide +kernel))⟩,
  List.forall_mem_cons.mpr ⟨⟨mo_gr _ _ _ _, Or.inl (ok_gr (C := RX0) (T := TX0) (N := 16) (ci := 0) (k := 1) rfl inX0 (by decide) fl_X0_15 (by decide +kernel) (by decide +kernel))⟩,
  List.forall_mem_cons.mpr ⟨⟨mo_il _ _, Or.inl (ok_iload (by decide +kernel))⟩,
  List.forall_mem_cons.mpr ⟨⟨mo_ald _ _ _, Or.inl (ok_iald (by decide +kernel))⟩,
  List.forall_mem_cons.mpr ⟨⟨mo_il _ _, Or.inl (ok_iload_n (k := 2) rfl (by decide +kernel))⟩,
  List.forall_mem_cons.mpr ⟨⟨mo_if2 _ _ _, Or.inl (ok_icmp_gt (off := 33) (by decide) (by decide +kernel))⟩,
  List.forall_mem_cons.mpr ⟨⟨mo_il _ _, Or.inl (ok_iload_n (k := 2) rfl (by decide +kernel))⟩,
  List.forall_mem_cons.mpr ⟨⟨mo_al _ _, Or.inl (ok_aload_n (k := 0) rfl (by decide +kernel))⟩,
  List.forall_mem_cons.mpr ⟨⟨mo_gr _ _ _ _, Or.inl (ok_gr (C := RX0) (T := TX0) (N := 16) (ci := 0) (k := 2) rfl inX0 (by decide) fl_X0_18 (by decide +kernel) (by decide +kernel))⟩,
  List.forall_mem_cons.mpr ⟨⟨mo_il _ _, Or.inl (ok_iload (by decide +kernel))⟩,
  fun _ h => absurd h List.not_mem_nil⟩⟩⟩⟩⟩⟩⟩⟩⟩⟩⟩⟩⟩⟩⟩⟩⟩⟩⟩⟩
def t_X0_inForce_2 : List (Nat × am_F) := [(68, im_ald q_SH .int 69), (69, im_if2 ic_ge 91 72), (72, im_il 3 73), (73, im_ic 1 74), (74, im_il 5 76), (76, im_bin (fun x y => x <<< (y &&& 31)) 77), (77, im_bin (fun x y => x ||| y) 78), (78, im_is 3 79), (79, im_il 4 81), (81, im_al 0 82), (82, im_gr q_SH 0 5 85), (85, im_il 5 87), (87, im_ald q_SH .int 88), (88, im_bin (fun x y => x ||| y) 89), (89, im_is 4 91), (91, im_iinc 5 (-1) 94), (94, im_go 13), (97, im_il 3 98), (98, im_reti)]
set_option maxRecDepth 20000 in
theorem o_X0_inForce_2 : ∀ q ∈ t_X0_inForce_2, am_ok vwCl q_SH ξ (q_E ξ β xs L) q_EN q_KD q_ML (cX0_inForce, 7, RX0, "inForce", (some .int), []) q.1 q.2 :=
  List.forall_mem_cons.mpr ⟨⟨mo_ald _ _ _, Or.inl (ok_iald (by decide +kernel))⟩,
  List.forall_mem_cons.mpr ⟨⟨mo_if2 _ _ _, Or.inl (ok_icmp_ge (off := 22) (by decide) (by decide +kernel))⟩,
  List.forall_mem_cons.mpr ⟨⟨mo_il _ _, Or.inl (ok_iload_n (k := 3) rfl (by decide +kernel))⟩,
  List.forall_mem_cons.mpr ⟨⟨mo_ic _ _, Or.inl (ok_iconst (n := 1) (v := 1) (by decide) (by decide +kernel))⟩,
  List.forall_mem_cons.mpr ⟨⟨mo_il _ _, Or.inl (ok_iload (by decide +kernel))⟩,
  List.forall_mem_cons.mpr ⟨⟨mo_bin _ _, Or.inl (ok_ishl (by decide +kernel))⟩,
  List.forall_mem_cons.mpr ⟨⟨mo_bin _ _, Or.inl (ok_ior (by decide +kernel))⟩,
  List.forall_mem_cons.mpr ⟨⟨mo_is _ _, Or.inl (ok_istore_n (k := 3) rfl (by decide) (by decide +kernel))⟩,
  List.forall_mem_cons.mpr ⟨⟨mo_il _ _, Or.inl (ok_iload (by decide +kernel))⟩,
  List.forall_mem_cons.mpr ⟨⟨mo_al _ _, Or.inl (ok_aload_n (k := 0) rfl (by decide +kernel))⟩,
  List.forall_mem_cons.mpr ⟨⟨mo_gr _ _ _ _, Or.inl (ok_gr (C := RX0) (T := TX0) (N := 16) (ci := 0) (k := 5) rfl inX0 (by decide) fl_X0_27 (by decide +kernel) (by decide +kernel))⟩,
  List.forall_mem_cons.mpr ⟨⟨mo_il _ _, Or.inl (ok_iload (by decide +kernel))⟩,
  List.forall_mem_cons.mpr ⟨⟨mo_ald _ _ _, Or.inl (ok_iald (by decide +kernel))⟩,
  List.forall_mem_cons.mpr ⟨⟨mo_bin _ _, Or.inl (ok_ior (by decide +kernel))⟩,
  List.forall_mem_cons.mpr ⟨⟨mo_is _ _, Or.inl (ok_istore (by decide) (by decide +kernel))⟩,
  List.forall_mem_cons.mpr ⟨⟨mo_iinc _ _ _, Or.inl (ok_iinc (n := (-1)) (v := (-1)) (by decide) (by decide) (by decide +kernel))⟩,
  List.forall_mem_cons.mpr ⟨⟨mo_go _, Or.inl (ok_goto (off := (-81)) (by decide) (by decide +kernel))⟩,
  List.forall_mem_cons.mpr ⟨⟨mo_il _ _, Or.inl (ok_iload_n (k := 3) rfl (by decide +kernel))⟩,
  List.forall_mem_cons.mpr ⟨⟨mo_reti, Or.inr (Or.inr (ok_reti rfl (by decide +kernel)))⟩,
  fun _ h => absurd h List.not_mem_nil⟩⟩⟩⟩⟩⟩⟩⟩⟩⟩⟩⟩⟩⟩⟩⟩⟩⟩⟩
def t_X0_inForce : List (Nat × am_F) := t_X0_inForce_0 ++ (t_X0_inForce_1 ++ (t_X0_inForce_2))
theorem o_X0_inForce : ∀ q ∈ t_X0_inForce, am_ok vwCl q_SH ξ (q_E ξ β xs L) q_EN q_KD q_ML (cX0_inForce, 7, RX0, "inForce", (some .int), []) q.1 q.2 := List.forall_mem_append.mpr ⟨o_X0_inForce_0, List.forall_mem_append.mpr ⟨o_X0_inForce_1, o_X0_inForce_2⟩⟩
def t_X0_having_0 : List (Nat × am_F) := [(0, im_ic 0 1), (1, im_is 3 2), (2, im_ic 0 3), (3, im_is 4 5), (5, im_il 4 7), (7, im_al 0 8), (8, im_gi q_SH 0 15 11), (11, im_if2 ic_ge 52 14), (14, im_il 1 15), (15, im_il 4 17), (17, im_bin (fun x y => x >>> (y &&& 31)) 18), (18, im_ic 1 19), (19, im_bin (fun x y => x &&& y) 20), (20, im_ic 1 21), (21, im_if2 ic_ne 46 24), (24, im_al 0 25), (25, im_gr q_SH 0 6 28), (28, im_il 4 30), (30, im_ald q_SH .int 31), (31, im_il 2 32)]
set_option maxRecDepth 20000 in
theorem o_X0_having_0 : ∀ q ∈ t_X0_having_0, am_ok vwCl q_SH ξ (q_E ξ β xs L) q_EN q_KD q_ML (cX0_having, 5, RX0, "having", (some .int), []) q.1 q.2 :=
  List.forall_mem_cons.mpr ⟨⟨mo_ic _ _, Or.inl (ok_iconst (n := 0) (v := 0) (by decide) (by decide +kernel))⟩,
  List.forall_mem_cons.mpr ⟨⟨mo_is _ _, Or.inl (ok_istore_n (k := 3) rfl (by decide) (by decide +kernel))⟩,
  List.forall_mem_cons.mpr ⟨⟨mo_ic _ _, Or.inl (ok_iconst (n := 0) (v := 0) (by decide) (by decide +kernel))⟩,
  List.forall_mem_cons.mpr ⟨⟨mo_is _ _, Or.inl (ok_istore (by decide) (by decide +kernel))⟩,
  List.forall_mem_cons.mpr ⟨⟨mo_il _ _, Or.inl (ok_iload (by decide +kernel))⟩,
  List.forall_mem_cons.mpr ⟨⟨mo_al _ _, Or.inl (ok_aload_n (k := 0) rfl (by decide +kernel))⟩,
  List.forall_mem_cons.mpr ⟨⟨mo_gi _ _ _ _, Or.inl (ok_gi (C := RX0) (T := TX0) (N := 16) (ci := 0) (k := 15) rfl inX0 (by decide) fl_X0_57 (by decide +kernel) (by decide +kernel))⟩,
  List.forall_mem_cons.mpr ⟨⟨mo_if2 _ _ _, Or.inl (ok_icmp_ge (off := 41) (by decide) (by decide +kernel))⟩,
  List.forall_mem_cons.mpr ⟨⟨mo_il _ _, Or.inl (ok_iload_n (k := 1) rfl (by decide +kernel))⟩,
  List.forall_mem_cons.mpr ⟨⟨mo_il _ _, Or.inl (ok_iload (by decide +kernel))⟩,
  List.forall_mem_cons.mpr ⟨⟨mo_bin _ _, Or.inl (ok_ishr (by decide +kernel))⟩,
  List.forall_mem_cons.mpr ⟨⟨mo_ic _ _, Or.inl (ok_iconst (n := 1) (v := 1) (by decide) (by decide +kernel))⟩,
  List.forall_mem_cons.mpr ⟨⟨mo_bin _ _, Or.inl (ok_iand (by decide +kernel))⟩,
  List.forall_mem_cons.mpr ⟨⟨mo_ic _ _, Or.inl (ok_iconst (n := 1) (v := 1) (by decide) (by decide +kernel))⟩,
  List.forall_mem_cons.mpr ⟨⟨mo_if2 _ _ _, Or.inl (ok_icmp_ne (off := 25) (by decide) (by decide +kernel))⟩,
  List.forall_mem_cons.mpr ⟨⟨mo_al _ _, Or.inl (ok_aload_n (k := 0) rfl (by decide +kernel))⟩,
  List.forall_mem_cons.mpr ⟨⟨mo_gr _ _ _ _, Or.inl (ok_gr (C := RX0) (T := TX0) (N := 16) (ci := 0) (k := 6) rfl inX0 (by decide) fl_X0_30 (by decide +kernel) (by decide +kernel))⟩,
  List.forall_mem_cons.mpr ⟨⟨mo_il _ _, Or.inl (ok_iload (by decide +kernel))⟩,
  List.forall_mem_cons.mpr ⟨⟨mo_ald _ _ _, Or.inl (ok_iald (by decide +kernel))⟩,
  List.forall_mem_cons.mpr ⟨⟨mo_il _ _, Or.inl (ok_iload_n (k := 2) rfl (by decide +kernel))⟩,
  fun _ h => absurd h List.not_mem_nil⟩⟩⟩⟩⟩⟩⟩⟩⟩⟩⟩⟩⟩⟩⟩⟩⟩⟩⟩⟩
def t_X0_having_1 : List (Nat × am_F) := [(32, im_bin (fun x y => x >>> (y &&& 31)) 33), (33, im_ic 1 34), (34, im_bin (fun x y => x &&& y) 35), (35, im_ic 1 36), (36, im_if2 ic_ne 46 39), (39, im_il 3 40), (40, im_ic 1 41), (41, im_il 4 43), (43, im_bin (fun x y => x <<< (y &&& 31)) 44), (44, im_bin (fun x y => x ||| y) 45), (45, im_is 3 46), (46, im_iinc 4 1 49), (49, im_go 5), (52, im_il 3 53), (53, im_reti)]
set_option maxRecDepth 20000 in
theorem o_X0_having_1 : ∀ q ∈ t_X0_having_1, am_ok vwCl q_SH ξ (q_E ξ β xs L) q_EN q_KD q_ML (cX0_having, 5, RX0, "having", (some .int), []) q.1 q.2 :=
  List.forall_mem_cons.mpr ⟨⟨mo_bin _ _, Or.inl (ok_ishr (by decide +kernel))⟩,
  List.forall_mem_cons.mpr ⟨⟨mo_ic _ _, Or.inl (ok_iconst (n := 1) (v := 1) (by decide) (by decide +kernel))⟩,
  List.forall_mem_cons.mpr ⟨⟨mo_bin _ _, Or.inl (ok_iand (by decide +kernel))⟩,
  List.forall_mem_cons.mpr ⟨⟨mo_ic _ _, Or.inl (ok_iconst (n := 1) (v := 1) (by decide) (by decide +kernel))⟩,
  List.forall_mem_cons.mpr ⟨⟨mo_if2 _ _ _, Or.inl (ok_icmp_ne (off := 10) (by decide) (by decide +kernel))⟩,
  List.forall_mem_cons.mpr ⟨⟨mo_il _ _, Or.inl (ok_iload_n (k := 3) rfl (by decide +kernel))⟩,
  List.forall_mem_cons.mpr ⟨⟨mo_ic _ _, Or.inl (ok_iconst (n := 1) (v := 1) (by decide) (by decide +kernel))⟩,
  List.forall_mem_cons.mpr ⟨⟨mo_il _ _, Or.inl (ok_iload (by decide +kernel))⟩,
  List.forall_mem_cons.mpr ⟨⟨mo_bin _ _, Or.inl (ok_ishl (by decide +kernel))⟩,
  List.forall_mem_cons.mpr ⟨⟨mo_bin _ _, Or.inl (ok_ior (by decide +kernel))⟩,
  List.forall_mem_cons.mpr ⟨⟨mo_is _ _, Or.inl (ok_istore_n (k := 3) rfl (by decide) (by decide +kernel))⟩,
  List.forall_mem_cons.mpr ⟨⟨mo_iinc _ _ _, Or.inl (ok_iinc (n := 1) (v := 1) (by decide) (by decide) (by decide +kernel))⟩,
  List.forall_mem_cons.mpr ⟨⟨mo_go _, Or.inl (ok_goto (off := (-44)) (by decide) (by decide +kernel))⟩,
  List.forall_mem_cons.mpr ⟨⟨mo_il _ _, Or.inl (ok_iload_n (k := 3) rfl (by decide +kernel))⟩,
  List.forall_mem_cons.mpr ⟨⟨mo_reti, Or.inr (Or.inr (ok_reti rfl (by decide +kernel)))⟩,
  fun _ h => absurd h List.not_mem_nil⟩⟩⟩⟩⟩⟩⟩⟩⟩⟩⟩⟩⟩⟩⟩
def t_X0_having : List (Nat × am_F) := t_X0_having_0 ++ (t_X0_having_1)
theorem o_X0_having : ∀ q ∈ t_X0_having, am_ok vwCl q_SH ξ (q_E ξ β xs L) q_EN q_KD q_ML (cX0_having, 5, RX0, "having", (some .int), []) q.1 q.2 := List.forall_mem_append.mpr ⟨o_X0_having_0, o_X0_having_1⟩
def t_X1_init_0 : List (Nat × am_F) := [(0, im_al 0 1), (1, im_obj 4), (4, im_al 0 5), (5, im_ic 112 7), (7, im_newa q_SH .int 9), (9, im_pr q_SH 1 0 12), (12, im_ret0e)]
set_option maxRecDepth 20000 in
theorem o_X1_init_0 : ∀ q ∈ t_X1_init_0, am_ok vwCl q_SH ξ (q_E ξ β xs L) q_EN q_KD q_ML (cX1_init, 1, RX1, "<init>", none, []) q.1 q.2 :=
  List.forall_mem_cons.mpr ⟨⟨mo_al _ _, Or.inl (ok_aload_n (k := 0) rfl (by decide +kernel))⟩,
  List.forall_mem_cons.mpr ⟨⟨mo_obj _, Or.inl (ok_obj (am_in2 63 rfl rfl) (am_in1 33 rfl rfl) (am_in1 34 rfl rfl) (by decide +kernel))⟩,
  List.forall_mem_cons.mpr ⟨⟨mo_al _ _, Or.inl (ok_aload_n (k := 0) rfl (by decide +kernel))⟩,
  List.forall_mem_cons.mpr ⟨⟨mo_ic _ _, Or.inl (ok_bipush (n := 112) (v := 112) (by decide) (by decide +kernel))⟩,
  List.forall_mem_cons.mpr ⟨⟨mo_newa _ _ _, Or.inl (ok_newi (am_in1 54 rfl rfl) (by decide +kernel))⟩,
  List.forall_mem_cons.mpr ⟨⟨mo_pr _ _ _ _, Or.inl (ok_prF (C := RX1) (T := TX1) (N := 2) (ci := 1) (k := 0) rfl inX1 (by decide) fl_X1_9 (by decide +kernel) tyX1 tyX1_ok nmX1 (by decide +kernel) rfl rfl (ty := .array .int) (by decide +kernel) (fun _ => ⟨rfl, rfl⟩) (by decide +kernel))⟩,
  List.forall_mem_cons.mpr ⟨⟨mo_ret0e, Or.inr (Or.inr (ok_ret0 rfl (by decide +kernel)))⟩,
  fun _ h => absurd h List.not_mem_nil⟩⟩⟩⟩⟩⟩⟩
def t_X1_init : List (Nat × am_F) := t_X1_init_0
theorem o_X1_init : ∀ q ∈ t_X1_init, am_ok vwCl q_SH ξ (q_E ξ β xs L) q_EN q_KD q_ML (cX1_init, 1, RX1, "<init>", none, []) q.1 q.2 := o_X1_init_0
def t_X1_clear_0 : List (Nat × am_F) := [(0, im_al 0 1), (1, im_ic 0 2), (2, im_pi q_SH 1 1 5), (5, im_ret0e)]
set_option maxRecDepth 20000 in
theorem o_X1_clear_0 : ∀ q ∈ t_X1_clear_0, am_ok vwCl q_SH ξ (q_E ξ β xs L) q_EN q_KD q_ML (cX1_clear, 1, RX1, "clear", none, []) q.1 q.2 :=
  List.forall_mem_cons.mpr ⟨⟨mo_al _ _, Or.inl (ok_aload_n (k := 0) rfl (by decide +kernel))⟩,
  List.forall_mem_cons.mpr ⟨⟨mo_ic _ _, Or.inl (ok_iconst (n := 0) (v := 0) (by decide) (by decide +kernel))⟩,
  List.forall_mem_cons.mpr ⟨⟨mo_pi _ _ _ _, Or.inl (ok_pi (ty := .int) (C := RX1) (T := TX1) (N := 2) (ci := 1) (k := 1) rfl inX1 (by decide) fl_X1_15 (by decide +kernel) tyX1 tyX1_ok nmX1 (by decide +kernel) (by decide +kernel) (by decide +kernel))⟩,
  List.forall_mem_cons.mpr ⟨⟨mo_ret0e, Or.inr (Or.inr (ok_ret0 rfl (by decide +kernel)))⟩,
  fun _ h => absurd h List.not_mem_nil⟩⟩⟩⟩
def t_X1_clear : List (Nat × am_F) := t_X1_clear_0
theorem o_X1_clear : ∀ q ∈ t_X1_clear, am_ok vwCl q_SH ξ (q_E ξ β xs L) q_EN q_KD q_ML (cX1_clear, 1, RX1, "clear", none, []) q.1 q.2 := o_X1_clear_0
def t_X1_putAct_0 : List (Nat × am_F) := [(0, im_al 0 1), (1, im_il 2 2), (2, im_ic 128 5), (5, im_bin (fun x y => x * y) 6), (6, im_il 1 7), (7, im_bin (fun x y => x + y) 8), (8, im_inv q_SH 1 8 1 11), (11, im_ret0e)]
set_option maxRecDepth 20000 in
theorem o_X1_putAct_0 : ∀ q ∈ t_X1_putAct_0, am_ok vwCl q_SH ξ (q_E ξ β xs L) q_EN q_KD q_ML (cX1_putAct, 3, RX1, "putAct", none, []) q.1 q.2 :=
  List.forall_mem_cons.mpr ⟨⟨mo_al _ _, Or.inl (ok_aload_n (k := 0) rfl (by decide +kernel))⟩,
  List.forall_mem_cons.mpr ⟨⟨mo_il _ _, Or.inl (ok_iload_n (k := 2) rfl (by decide +kernel))⟩,
  List.forall_mem_cons.mpr ⟨⟨mo_ic _ _, Or.inl (ok_sipush (n := 128) (v := 128) (by decide) (by decide +kernel))⟩,
  List.forall_mem_cons.mpr ⟨⟨mo_bin _ _, Or.inl (ok_imul (by decide +kernel))⟩,
  List.forall_mem_cons.mpr ⟨⟨mo_il _ _, Or.inl (ok_iload_n (k := 1) rfl (by decide +kernel))⟩,
  List.forall_mem_cons.mpr ⟨⟨mo_bin _ _, Or.inl (ok_iadd (by decide +kernel))⟩,
  List.forall_mem_cons.mpr ⟨⟨mo_inv _ _ _ _ _, Or.inr (Or.inl (ok_inv (T := TX1) (N := 2) rfl cw_X1_put (by decide) (by decide) ml_X1_19 ci_X1_put cv_X1_put (show Cond.initialized (yX1_put).cls ∈ am_ts from ci9_RX1) ⟨by decide +kernel, by decide +kernel, by decide +kernel⟩ rfl (by decide +kernel)))⟩,
  List.forall_mem_cons.mpr ⟨⟨mo_ret0e, Or.inr (Or.inr (ok_ret0 rfl (by decide +kernel)))⟩,
  fun _ h => absurd h List.not_mem_nil⟩⟩⟩⟩⟩⟩⟩⟩
def t_X1_putAct : List (Nat × am_F) := t_X1_putAct_0
theorem o_X1_putAct : ∀ q ∈ t_X1_putAct, am_ok vwCl q_SH ξ (q_E ξ β xs L) q_EN q_KD q_ML (cX1_putAct, 3, RX1, "putAct", none, []) q.1 q.2 := o_X1_putAct_0
def t_X1_putFact_0 : List (Nat × am_F) := [(0, im_al 0 1), (1, im_il 2 2), (2, im_ic 128 5), (5, im_bin (fun x y => x * y) 6), (6, im_ic 12 8), (8, im_bin (fun x y => x + y) 9), (9, im_il 1 10), (10, im_bin (fun x y => x + y) 11), (11, im_inv q_SH 1 8 1 14), (14, im_ret0e)]
set_option maxRecDepth 20000 in
theorem o_X1_putFact_0 : ∀ q ∈ t_X1_putFact_0, am_ok vwCl q_SH ξ (q_E ξ β xs L) q_EN q_KD q_ML (cX1_putFact, 3, RX1, "putFact", none, []) q.1 q.2 :=
  List.forall_mem_cons.mpr ⟨⟨mo_al _ _, Or.inl (ok_aload_n (k := 0) rfl (by decide +kernel))⟩,
  List.forall_mem_cons.mpr ⟨⟨mo_il _ _, Or.inl (ok_iload_n (k := 2) rfl (by decide +kernel))⟩,
  List.forall_mem_cons.mpr ⟨⟨mo_ic _ _, Or.inl (ok_sipush (n := 128) (v := 128) (by decide) (by decide +kernel))⟩,
  List.forall_mem_cons.mpr ⟨⟨mo_bin _ _, Or.inl (ok_imul (by decide +kernel))⟩,
  List.forall_mem_cons.mpr ⟨⟨mo_ic _ _, Or.inl (ok_bipush (n := 12) (v := 12) (by decide) (by decide +kernel))⟩,
  List.forall_mem_cons.mpr ⟨⟨mo_bin _ _, Or.inl (ok_iadd (by decide +kernel))⟩,
  List.forall_mem_cons.mpr ⟨⟨mo_il _ _, Or.inl (ok_iload_n (k := 1) rfl (by decide +kernel))⟩,
  List.forall_mem_cons.mpr ⟨⟨mo_bin _ _, Or.inl (ok_iadd (by decide +kernel))⟩,
  List.forall_mem_cons.mpr ⟨⟨mo_inv _ _ _ _ _, Or.inr (Or.inl (ok_inv (T := TX1) (N := 2) rfl cw_X1_put (by decide) (by decide) ml_X1_19 ci_X1_put cv_X1_put (show Cond.initialized (yX1_put).cls ∈ am_ts from ci9_RX1) ⟨by decide +kernel, by decide +kernel, by decide +kernel⟩ rfl (by decide +kernel)))⟩,
  List.forall_mem_cons.mpr ⟨⟨mo_ret0e, Or.inr (Or.inr (ok_ret0 rfl (by decide +kernel)))⟩,
  fun _ h => absurd h List.not_mem_nil⟩⟩⟩⟩⟩⟩⟩⟩⟩⟩
def t_X1_putFact : List (Nat × am_F) := t_X1_putFact_0
theorem o_X1_putFact : ∀ q ∈ t_X1_putFact, am_ok vwCl q_SH ξ (q_E ξ β xs L) q_EN q_KD q_ML (cX1_putFact, 3, RX1, "putFact", none, []) q.1 q.2 := o_X1_putFact_0
def t_X1_put_0 : List (Nat × am_F) := [(0, im_al 0 1), (1, im_gi q_SH 1 1 4), (4, im_al 0 5), (5, im_gr q_SH 1 0 8), (8, im_alen q_SH .int 9), (9, im_if2 ic_lt 13 12), (12, im_ret0e), (13, im_al 0 14), (14, im_gi q_SH 1 1 17), (17, im_is 2 18), (18, im_il 2 19), (19, im_if1 ib_le 54 22), (22, im_al 0 23), (23, im_gr q_SH 1 0 26), (26, im_il 2 27), (27, im_ic 1 28), (28, im_bin (fun x y => x - y) 29), (29, im_ald q_SH .int 30), (30, im_il 1 31), (31, im_if2 ic_le 54 34)]
set_option maxRecDepth 20000 in
theorem o_X1_put_0 : ∀ q ∈ t_X1_put_0, am_ok vwCl q_SH ξ (q_E ξ β xs L) q_EN q_KD q_ML (cX1_put, 3, RX1, "put", none, []) q.1 q.2 :=
  List.forall_mem_cons.mpr ⟨⟨mo_al _ _, Or.inl (ok_aload_n (k := 0) rfl (by decide +kernel))⟩,
  List.forall_mem_cons.mpr ⟨⟨mo_gi _ _ _ _, Or.inl (ok_gi (C := RX1) (T := TX1) (N := 2) (ci := 1) (k := 1) rfl inX1 (by decide) fl_X1_15 (by decide +kernel) (by decide +kernel))⟩,
  List.forall_mem_cons.mpr ⟨⟨mo_al _ _, Or.inl (ok_aload_n (k := 0) rfl (by decide +kernel))⟩,
  List.forall_mem_cons.mpr ⟨⟨mo_gr _ _ _ _, Or.inl (ok_gr (C := RX1) (T := TX1) (N := 2) (ci := 1) (k := 0) rfl inX1 (by decide) fl_X1_9 (by decide +kernel) (by decide +kernel))⟩,
  List.forall_mem_cons.mpr ⟨⟨mo_alen _ _ _, Or.inl (ok_alen (by decide +kernel))⟩,
  List.forall_mem_cons.mpr ⟨⟨mo_if2 _ _ _, Or.inl (ok_icmp_lt (off := 4) (by decide) (by decide +kernel))⟩,
  List.forall_mem_cons.mpr ⟨⟨mo_ret0e, Or.inr (Or.inr (ok_ret0 rfl (by decide +kernel)))⟩,
  List.forall_mem_cons.mpr ⟨⟨mo_al _ _, Or.inl (ok_aload_n (k := 0) rfl (by decide +kernel))⟩,
  List.forall_mem_cons.mpr ⟨⟨mo_gi _ _ _ _, Or.inl (ok_gi (C := RX1) (T := TX1) (N := 2) (ci := 1) (k := 1) rfl inX1 (by decide) fl_X1_15 (by decide +kernel) (by decide +kernel))⟩,
  List.forall_mem_cons.mpr ⟨⟨mo_is _ _, Or.inl (ok_istore_n (k := 2) rfl (by decide) (by decide +kernel))⟩,
  List.forall_mem_cons.mpr ⟨⟨mo_il _ _, Or.inl (ok_iload_n (k := 2) rfl (by decide +kernel))⟩,
  List.forall_mem_cons.mpr ⟨⟨mo_if1 _ _ _, Or.inl (ok_if_le (off := 35) (by decide) (by decide +kernel))⟩,
  List.forall_mem_cons.mpr ⟨⟨mo_al _ _, Or.inl (ok_aload_n (k := 0) rfl (by decide +kernel))⟩,
  List.forall_mem_cons.mpr ⟨⟨mo_gr _ _ _ _, Or.inl (ok_gr (C := RX1) (T := TX1) (N := 2) (ci := 1) (k := 0) rfl inX1 (by decide) fl_X1_9 (by decide +kernel) (by decide +kernel))⟩,
  List.forall_mem_cons.mpr ⟨⟨mo_il _ _, Or.inl (ok_iload_n (k := 2) rfl (by decide +kernel))⟩,
  List.forall_mem_cons.mpr ⟨⟨mo_ic _ _, Or.inl (ok_iconst (n := 1) (v := 1) (by decide) (by decide +kernel))⟩,
  List.forall_mem_cons.mpr ⟨⟨mo_bin _ _, Or.inl (ok_isub (by decide +kernel))⟩,
  List.forall_mem_cons.mpr ⟨⟨mo_ald _ _ _, Or.inl (ok_iald (by decide +kernel))⟩,
  List.forall_mem_cons.mpr ⟨⟨mo_il _ _, Or.inl (ok_iload_n (k := 1) rfl (by decide +kernel))⟩,
  List.forall_mem_cons.mpr ⟨⟨mo_if2 _ _ _, Or.inl (ok_icmp_le (off := 23) (by decide) (by decide +kernel))⟩,
  fun _ h => absurd h List.not_mem_nil⟩⟩⟩⟩⟩⟩⟩⟩⟩⟩⟩⟩⟩⟩⟩⟩⟩⟩⟩⟩
def t_X1_put_1 : List (Nat × am_F) := [(34, im_al 0 35), (35, im_gr q_SH 1 0 38), (38, im_il 2 39), (39, im_al 0 40), (40, im_gr q_SH 1 0 43), (43, im_il 2 44), (44, im_ic 1 45), (45, im_bin (fun x y => x - y) 46), (46, im_ald q_SH .int 47), (47, im_ast q_SH .int (fun x => x) 48), (48, im_iinc 2 (-1) 51), (51, im_go 18), (54, im_al 0 55), (55, im_gr q_SH 1 0 58), (58, im_il 2 59), (59, im_il 1 60), (60, im_ast q_SH .int (fun x => x) 61), (61, im_al 0 62), (62, im_dup 63), (63, im_gi q_SH 1 1 66)]
set_option maxRecDepth 20000 in
theorem o_X1_put_1 : ∀ q ∈ t_X1_put_1, am_ok vwCl q_SH ξ (q_E ξ β xs L) q_EN q_KD q_ML (cX1_put, 3, RX1, "put", none, []) q.1 q.2 :=
  List.forall_mem_cons.mpr ⟨⟨mo_al _ _, Or.inl (ok_aload_n (k := 0) rfl (by decide +kernel))⟩,
  List.forall_mem_cons.mpr ⟨⟨mo_gr _ _ _ _, Or.inl (ok_gr (C := RX1) (T := TX1) (N := 2) (ci := 1) (k := 0) rfl inX1 (by decide) fl_X1_9 (by decide +kernel) (by decide +kernel))⟩,
  List.forall_mem_cons.mpr ⟨⟨mo_il _ _, Or.inl (ok_iload_n (k := 2) rfl (by decide +kernel))⟩,
  List.forall_mem_cons.mpr ⟨⟨mo_al _ _, Or.inl (ok_aload_n (k := 0) rfl (by decide +kernel))⟩,
  List.forall_mem_cons.mpr ⟨⟨mo_gr _ _ _ _, Or.inl (ok_gr (C := RX1) (T := TX1) (N := 2) (ci := 1) (k := 0) rfl inX1 (by decide) fl_X1_9 (by decide +kernel) (by decide +kernel))⟩,
  List.forall_mem_cons.mpr ⟨⟨mo_il _ _, Or.inl (ok_iload_n (k := 2) rfl (by decide +kernel))⟩,
  List.forall_mem_cons.mpr ⟨⟨mo_ic _ _, Or.inl (ok_iconst (n := 1) (v := 1) (by decide) (by decide +kernel))⟩,
  List.forall_mem_cons.mpr ⟨⟨mo_bin _ _, Or.inl (ok_isub (by decide +kernel))⟩,
  List.forall_mem_cons.mpr ⟨⟨mo_ald _ _ _, Or.inl (ok_iald (by decide +kernel))⟩,
  List.forall_mem_cons.mpr ⟨⟨mo_ast _ _ _ _, Or.inl (ok_iast (by decide +kernel))⟩,
  List.forall_mem_cons.mpr ⟨⟨mo_iinc _ _ _, Or.inl (ok_iinc (n := (-1)) (v := (-1)) (by decide) (by decide) (by decide +kernel))⟩,
  List.forall_mem_cons.mpr ⟨⟨mo_go _, Or.inl (ok_goto (off := (-33)) (by decide) (by decide +kernel))⟩,
  List.forall_mem_cons.mpr ⟨⟨mo_al _ _, Or.inl (ok_aload_n (k := 0) rfl (by decide +kernel))⟩,
  List.forall_mem_cons.mpr ⟨⟨mo_gr _ _ _ _, Or.inl (ok_gr (C := RX1) (T := TX1) (N := 2) (ci := 1) (k := 0) rfl inX1 (by decide) fl_X1_9 (by decide +kernel) (by decide +kernel))⟩,
  List.forall_mem_cons.mpr ⟨⟨mo_il _ _, Or.inl (ok_iload_n (k := 2) rfl (by decide +kernel))⟩,
  List.forall_mem_cons.mpr ⟨⟨mo_il _ _, Or.inl (ok_iload_n (k := 1) rfl (by decide +kernel))⟩,
  List.forall_mem_cons.mpr ⟨⟨mo_ast _ _ _ _, Or.inl (ok_iast (by decide +kernel))⟩,
  List.forall_mem_cons.mpr ⟨⟨mo_al _ _, Or.inl (ok_aload_n (k := 0) rfl (by decide +kernel))⟩,
  List.forall_mem_cons.mpr ⟨⟨mo_dup _, Or.inl (ok_dup (by decide +kernel))⟩,
  List.forall_mem_cons.mpr ⟨⟨mo_gi _ _ _ _, Or.inl (ok_gi (C := RX1) (T := TX1) (N := 2) (ci := 1) (k := 1) rfl inX1 (by decide) fl_X1_15 (by decide +kernel) (by decide +kernel))⟩,
  fun _ h => absurd h List.not_mem_nil⟩⟩⟩⟩⟩⟩⟩⟩⟩⟩⟩⟩⟩⟩⟩⟩⟩⟩⟩⟩
def t_X1_put_2 : List (Nat × am_F) := [(66, im_ic 1 67), (67, im_bin (fun x y => x + y) 68), (68, im_pi q_SH 1 1 71), (71, im_ret0e)]
set_option maxRecDepth 20000 in
theorem o_X1_put_2 : ∀ q ∈ t_X1_put_2, am_ok vwCl q_SH ξ (q_E ξ β xs L) q_EN q_KD q_ML (cX1_put, 3, RX1, "put", none, []) q.1 q.2 :=
  List.forall_mem_cons.mpr ⟨⟨mo_ic _ _, Or.inl (ok_iconst (n := 1) (v := 1) (by decide) (by decide +kernel))⟩,
  List.forall_mem_cons.mpr ⟨⟨mo_bin _ _, Or.inl (ok_iadd (by decide +kernel))⟩,
  List.forall_mem_cons.mpr ⟨⟨mo_pi _ _ _ _, Or.inl (ok_pi (ty := .int) (C := RX1) (T := TX1) (N := 2) (ci := 1) (k := 1) rfl inX1 (by decide) fl_X1_15 (by decide +kernel) tyX1 tyX1_ok nmX1 (by decide +kernel) (by decide +kernel) (by decide +kernel))⟩,
  List.forall_mem_cons.mpr ⟨⟨mo_ret0e, Or.inr (Or.inr (ok_ret0 rfl (by decide +kernel)))⟩,
  fun _ h => absurd h List.not_mem_nil⟩⟩⟩⟩
def t_X1_put : List (Nat × am_F) := t_X1_put_0 ++ (t_X1_put_1 ++ (t_X1_put_2))
theorem o_X1_put : ∀ q ∈ t_X1_put, am_ok vwCl q_SH ξ (q_E ξ β xs L) q_EN q_KD q_ML (cX1_put, 3, RX1, "put", none, []) q.1 q.2 := List.forall_mem_append.mpr ⟨o_X1_put_0, List.forall_mem_append.mpr ⟨o_X1_put_1, o_X1_put_2⟩⟩
def t_X1_dayAt_0 : List (Nat × am_F) := [(0, im_al 0 1), (1, im_gr q_SH 1 0 4), (4, im_il 1 5), (5, im_ald q_SH .int 6), (6, im_ic 128 9), (9, im_div (fun x y => x / y) 10), (10, im_reti)]
set_option maxRecDepth 20000 in
theorem o_X1_dayAt_0 : ∀ q ∈ t_X1_dayAt_0, am_ok vwCl q_SH ξ (q_E ξ β xs L) q_EN q_KD q_ML (cX1_dayAt, 2, RX1, "dayAt", (some .int), []) q.1 q.2 :=
  List.forall_mem_cons.mpr ⟨⟨mo_al _ _, Or.inl (ok_aload_n (k := 0) rfl (by decide +kernel))⟩,
  List.forall_mem_cons.mpr ⟨⟨mo_gr _ _ _ _, Or.inl (ok_gr (C := RX1) (T := TX1) (N := 2) (ci := 1) (k := 0) rfl inX1 (by decide) fl_X1_9 (by decide +kernel) (by decide +kernel))⟩,
  List.forall_mem_cons.mpr ⟨⟨mo_il _ _, Or.inl (ok_iload_n (k := 1) rfl (by decide +kernel))⟩,
  List.forall_mem_cons.mpr ⟨⟨mo_ald _ _ _, Or.inl (ok_iald (by decide +kernel))⟩,
  List.forall_mem_cons.mpr ⟨⟨mo_ic _ _, Or.inl (ok_sipush (n := 128) (v := 128) (by decide) (by decide +kernel))⟩,
  List.forall_mem_cons.mpr ⟨⟨mo_div _ _, Or.inl (ok_idiv (by decide +kernel))⟩,
  List.forall_mem_cons.mpr ⟨⟨mo_reti, Or.inr (Or.inr (ok_reti rfl (by decide +kernel)))⟩,
  fun _ h => absurd h List.not_mem_nil⟩⟩⟩⟩⟩⟩⟩
def t_X1_dayAt : List (Nat × am_F) := t_X1_dayAt_0
theorem o_X1_dayAt : ∀ q ∈ t_X1_dayAt, am_ok vwCl q_SH ξ (q_E ξ β xs L) q_EN q_KD q_ML (cX1_dayAt, 2, RX1, "dayAt", (some .int), []) q.1 q.2 := o_X1_dayAt_0
def t_X1_factAt_0 : List (Nat × am_F) := [(0, im_al 0 1), (1, im_gr q_SH 1 0 4), (4, im_il 1 5), (5, im_ald q_SH .int 6), (6, im_ic 128 9), (9, im_div (fun x y => x - x / y * y) 10), (10, im_ic 12 12), (12, im_bin (fun x y => x - y) 13), (13, im_ic (-1) 14), (14, im_mm (fun x y => if x < y then y else x) 17), (17, im_reti)]
set_option maxRecDepth 20000 in
theorem o_X1_factAt_0 : ∀ q ∈ t_X1_factAt_0, am_ok vwCl q_SH ξ (q_E ξ β xs L) q_EN q_KD q_ML (cX1_factAt, 2, RX1, "factAt", (some .int), []) q.1 q.2 :=
  List.forall_mem_cons.mpr ⟨⟨mo_al _ _, Or.inl (ok_aload_n (k := 0) rfl (by decide +kernel))⟩,
  List.forall_mem_cons.mpr ⟨⟨mo_gr _ _ _ _, Or.inl (ok_gr (C := RX1) (T := TX1) (N := 2) (ci := 1) (k := 0) rfl inX1 (by decide) fl_X1_9 (by decide +kernel) (by decide +kernel))⟩,
  List.forall_mem_cons.mpr ⟨⟨mo_il _ _, Or.inl (ok_iload_n (k := 1) rfl (by decide +kernel))⟩,
  List.forall_mem_cons.mpr ⟨⟨mo_ald _ _ _, Or.inl (ok_iald (by decide +kernel))⟩,
  List.forall_mem_cons.mpr ⟨⟨mo_ic _ _, Or.inl (ok_sipush (n := 128) (v := 128) (by decide) (by decide +kernel))⟩,
  List.forall_mem_cons.mpr ⟨⟨mo_div _ _, Or.inl (ok_irem (by decide +kernel))⟩,
  List.forall_mem_cons.mpr ⟨⟨mo_ic _ _, Or.inl (ok_bipush (n := 12) (v := 12) (by decide) (by decide +kernel))⟩,
  List.forall_mem_cons.mpr ⟨⟨mo_bin _ _, Or.inl (ok_isub (by decide +kernel))⟩,
  List.forall_mem_cons.mpr ⟨⟨mo_ic _ _, Or.inl (ok_iconst (n := (-1)) (v := (-1)) (by decide) (by decide +kernel))⟩,
  List.forall_mem_cons.mpr ⟨⟨mo_mm _ _, Or.inl (ok_mmax (am_in4 234 rfl rfl) (am_in4 13 rfl rfl) (am_in1 18 rfl rfl) (am_in4 14 rfl rfl) (by decide +kernel))⟩,
  List.forall_mem_cons.mpr ⟨⟨mo_reti, Or.inr (Or.inr (ok_reti rfl (by decide +kernel)))⟩,
  fun _ h => absurd h List.not_mem_nil⟩⟩⟩⟩⟩⟩⟩⟩⟩⟩⟩
def t_X1_factAt : List (Nat × am_F) := t_X1_factAt_0
theorem o_X1_factAt : ∀ q ∈ t_X1_factAt, am_ok vwCl q_SH ξ (q_E ξ β xs L) q_EN q_KD q_ML (cX1_factAt, 2, RX1, "factAt", (some .int), []) q.1 q.2 := o_X1_factAt_0
def t_X1_actAt_0 : List (Nat × am_F) := [(0, im_al 0 1), (1, im_gr q_SH 1 0 4), (4, im_il 1 5), (5, im_ald q_SH .int 6), (6, im_ic 128 9), (9, im_div (fun x y => x - x / y * y) 10), (10, im_reti)]
set_option maxRecDepth 20000 in
theorem o_X1_actAt_0 : ∀ q ∈ t_X1_actAt_0, am_ok vwCl q_SH ξ (q_E ξ β xs L) q_EN q_KD q_ML (cX1_actAt, 2, RX1, "actAt", (some .int), []) q.1 q.2 :=
  List.forall_mem_cons.mpr ⟨⟨mo_al _ _, Or.inl (ok_aload_n (k := 0) rfl (by decide +kernel))⟩,
  List.forall_mem_cons.mpr ⟨⟨mo_gr _ _ _ _, Or.inl (ok_gr (C := RX1) (T := TX1) (N := 2) (ci := 1) (k := 0) rfl inX1 (by decide) fl_X1_9 (by decide +kernel) (by decide +kernel))⟩,
  List.forall_mem_cons.mpr ⟨⟨mo_il _ _, Or.inl (ok_iload_n (k := 1) rfl (by decide +kernel))⟩,
  List.forall_mem_cons.mpr ⟨⟨mo_ald _ _ _, Or.inl (ok_iald (by decide +kernel))⟩,
  List.forall_mem_cons.mpr ⟨⟨mo_ic _ _, Or.inl (ok_sipush (n := 128) (v := 128) (by decide) (by decide +kernel))⟩,
  List.forall_mem_cons.mpr ⟨⟨mo_div _ _, Or.inl (ok_irem (by decide +kernel))⟩,
  List.forall_mem_cons.mpr ⟨⟨mo_reti, Or.inr (Or.inr (ok_reti rfl (by decide +kernel)))⟩,
  fun _ h => absurd h List.not_mem_nil⟩⟩⟩⟩⟩⟩⟩
def t_X1_actAt : List (Nat × am_F) := t_X1_actAt_0
theorem o_X1_actAt : ∀ q ∈ t_X1_actAt, am_ok vwCl q_SH ξ (q_E ξ β xs L) q_EN q_KD q_ML (cX1_actAt, 2, RX1, "actAt", (some .int), []) q.1 q.2 := o_X1_actAt_0
def t_X2_init_0 : List (Nat × am_F) := [(0, im_al 0 1), (1, im_obj 4), (4, im_al 0 5), (5, im_ic 3 6), (6, im_newa q_SH .int 8), (8, im_pr q_SH 2 0 11), (11, im_al 0 12), (12, im_ic 3 13), (13, im_newa q_SH .int 15), (15, im_pr q_SH 2 1 18), (18, im_al 0 19), (19, im_ic 3 20), (20, im_newa q_SH .int 22), (22, im_pr q_SH 2 2 25), (25, im_al 0 26), (26, im_al 1 27), (27, im_pr q_SH 2 3 30), (30, im_al 0 31), (31, im_ic 1 32), (32, im_pi q_SH 2 5 35)]
set_option maxRecDepth 20000 in
theorem o_X2_init_0 : ∀ q ∈ t_X2_init_0, am_ok vwCl q_SH ξ (q_E ξ β xs L) q_EN q_KD q_ML (cX2_init, 2, RX2, "<init>", none, []) q.1 q.2 :=
  List.forall_mem_cons.mpr ⟨⟨mo_al _ _, Or.inl (ok_aload_n (k := 0) rfl (by decide +kernel))⟩,
  List.forall_mem_cons.mpr ⟨⟨mo_obj _, Or.inl (ok_obj (am_in2 25 rfl rfl) (am_in1 33 rfl rfl) (am_in1 34 rfl rfl) (by decide +kernel))⟩,
  List.forall_mem_cons.mpr ⟨⟨mo_al _ _, Or.inl (ok_aload_n (k := 0) rfl (by decide +kernel))⟩,
  List.forall_mem_cons.mpr ⟨⟨mo_ic _ _, Or.inl (ok_iconst (n := 3) (v := 3) (by decide) (by decide +kernel))⟩,
  List.forall_mem_cons.mpr ⟨⟨mo_newa _ _ _, Or.inl (ok_newi (am_in1 54 rfl rfl) (by decide +kernel))⟩,
  List.forall_mem_cons.mpr ⟨⟨mo_pr _ _ _ _, Or.inl (ok_prF (C := RX2) (T := TX2) (N := 7) (ci := 2) (k := 0) rfl inX2 (by decide) fl_X2_9 (by decide +kernel) tyX2 tyX2_ok nmX2 (by decide +kernel) rfl rfl (ty := .array .int) (by decide +kernel) (fun _ => ⟨rfl, rfl⟩) (by decide +kernel))⟩,
  List.forall_mem_cons.mpr ⟨⟨mo_al _ _, Or.inl (ok_aload_n (k := 0) rfl (by decide +kernel))⟩,
  List.forall_mem_cons.mpr ⟨⟨mo_ic _ _, Or.inl (ok_iconst (n := 3) (v := 3) (by decide) (by decide +kernel))⟩,
  List.forall_mem_cons.mpr ⟨⟨mo_newa _ _ _, Or.inl (ok_newi (am_in1 54 rfl rfl) (by decide +kernel))⟩,
  List.forall_mem_cons.mpr ⟨⟨mo_pr _ _ _ _, Or.inl (ok_prF (C := RX2) (T := TX2) (N := 7) (ci := 2) (k := 1) rfl inX2 (by decide) fl_X2_15 (by decide +kernel) tyX2 tyX2_ok nmX2 (by decide +kernel) rfl rfl (ty := .array .int) (by decide +kernel) (fun _ => ⟨rfl, rfl⟩) (by decide +kernel))⟩,
  List.forall_mem_cons.mpr ⟨⟨mo_al _ _, Or.inl (ok_aload_n (k := 0) rfl (by decide +kernel))⟩,
  List.forall_mem_cons.mpr ⟨⟨mo_ic _ _, Or.inl (ok_iconst (n := 3) (v := 3) (by decide) (by decide +kernel))⟩,
  List.forall_mem_cons.mpr ⟨⟨mo_newa _ _ _, Or.inl (ok_newi (am_in1 54 rfl rfl) (by decide +kernel))⟩,
  List.forall_mem_cons.mpr ⟨⟨mo_pr _ _ _ _, Or.inl (ok_prF (C := RX2) (T := TX2) (N := 7) (ci := 2) (k := 2) rfl inX2 (by decide) fl_X2_18 (by decide +kernel) tyX2 tyX2_ok nmX2 (by decide +kernel) rfl rfl (ty := .array .int) (by decide +kernel) (fun _ => ⟨rfl, rfl⟩) (by decide +kernel))⟩,
  List.forall_mem_cons.mpr ⟨⟨mo_al _ _, Or.inl (ok_aload_n (k := 0) rfl (by decide +kernel))⟩,
  List.forall_mem_cons.mpr ⟨⟨mo_al _ _, Or.inl (ok_aload_n (k := 1) rfl (by decide +kernel))⟩,
  List.forall_mem_cons.mpr ⟨⟨mo_pr _ _ _ _, Or.inl (ok_prF (C := RX2) (T := TX2) (N := 7) (ci := 2) (k := 3) rfl inX2 (by decide) fl_X2_21 (by decide +kernel) tyX2 tyX2_ok nmX2 (by decide +kernel) rfl rfl (ty := .object "LandBonds$Facts") (by decide +kernel) (fun _ => ⟨rfl, rfl⟩) (by decide +kernel))⟩,
  List.forall_mem_cons.mpr ⟨⟨mo_al _ _, Or.inl (ok_aload_n (k := 0) rfl (by decide +kernel))⟩,
  List.forall_mem_cons.mpr ⟨⟨mo_ic _ _, Or.inl (ok_iconst (n := 1) (v := 1) (by decide) (by decide +kernel))⟩,
  List.forall_mem_cons.mpr ⟨⟨mo_pi _ _ _ _, Or.inl (ok_pi (ty := .int) (C := RX2) (T := TX2) (N := 7) (ci := 2) (k := 5) rfl inX2 (by decide) fl_X2_25 (by decide +kernel) tyX2 tyX2_ok nmX2 (by decide +kernel) (by decide +kernel) (by decide +kernel))⟩,
  fun _ h => absurd h List.not_mem_nil⟩⟩⟩⟩⟩⟩⟩⟩⟩⟩⟩⟩⟩⟩⟩⟩⟩⟩⟩⟩
def t_X2_init_1 : List (Nat × am_F) := [(35, im_ret0e)]
set_option maxRecDepth 20000 in
theorem o_X2_init_1 : ∀ q ∈ t_X2_init_1, am_ok vwCl q_SH ξ (q_E ξ β xs L) q_EN q_KD q_ML (cX2_init, 2, RX2, "<init>", none, []) q.1 q.2 :=
  List.forall_mem_cons.mpr ⟨⟨mo_ret0e, Or.inr (Or.inr (ok_ret0 rfl (by decide +kernel)))⟩,
  fun _ h => absurd h List.not_mem_nil⟩
def t_X2_init : List (Nat × am_F) := t_X2_init_0 ++ (t_X2_init_1)
theorem o_X2_init : ∀ q ∈ t_X2_init, am_ok vwCl q_SH ξ (q_E ξ β xs L) q_EN q_KD q_ML (cX2_init, 2, RX2, "<init>", none, []) q.1 q.2 := List.forall_mem_append.mpr ⟨o_X2_init_0, o_X2_init_1⟩
def t_X2_find_0 : List (Nat × am_F) := [(0, im_al 0 1), (1, im_il 1 2), (2, im_pi q_SH 2 6 5), (5, im_al 0 6), (6, im_ic 0 7), (7, im_pi q_SH 2 4 10), (10, im_ic 0 11), (11, im_is 2 12), (12, im_il 2 13), (13, im_al 0 14), (14, im_gr q_SH 2 3 17), (17, im_gi q_SH 3 8 20), (20, im_if2 ic_ge 82 23), (23, im_al 0 24), (24, im_gi q_SH 2 4 27), (27, im_ic 3 28), (28, im_if2 ic_ge 82 31), (31, im_al 0 32), (32, im_gr q_SH 2 3 35), (35, im_gr q_SH 3 7 38)]
set_option maxRecDepth 20000 in
theorem o_X2_find_0 : ∀ q ∈ t_X2_find_0, am_ok vwCl q_SH ξ (q_E ξ β xs L) q_EN q_KD q_ML (cX2_find, 3, RX2, "find", none, []) q.1 q.2 :=
  List.forall_mem_cons.mpr ⟨⟨mo_al _ _, Or.inl (ok_aload_n (k := 0) rfl (by decide +kernel))⟩,
  List.forall_mem_cons.mpr ⟨⟨mo_il _ _, Or.inl (ok_iload_n (k := 1) rfl (by decide +kernel))⟩,
  List.forall_mem_cons.mpr ⟨⟨mo_pi _ _ _ _, Or.inl (ok_pi (ty := .int) (C := RX2) (T := TX2) (N := 7) (ci := 2) (k := 6) rfl inX2 (by decide) fl_X2_29 (by decide +kernel) tyX2 tyX2_ok nmX2 (by decide +kernel) (by decide +kernel) (by decide +kernel))⟩,
  List.forall_mem_cons.mpr ⟨⟨mo_al _ _, Or.inl (ok_aload_n (k := 0) rfl (by decide +kernel))⟩,
  List.forall_mem_cons.mpr ⟨⟨mo_ic _ _, Or.inl (ok_iconst (n := 0) (v := 0) (by decide) (by decide +kernel))⟩,
  List.forall_mem_cons.mpr ⟨⟨mo_pi _ _ _ _, Or.inl (ok_pi (ty := .int) (C := RX2) (T := TX2) (N := 7) (ci := 2) (k := 4) rfl inX2 (by decide) fl_X2_32 (by decide +kernel) tyX2 tyX2_ok nmX2 (by decide +kernel) (by decide +kernel) (by decide +kernel))⟩,
  List.forall_mem_cons.mpr ⟨⟨mo_ic _ _, Or.inl (ok_iconst (n := 0) (v := 0) (by decide) (by decide +kernel))⟩,
  List.forall_mem_cons.mpr ⟨⟨mo_is _ _, Or.inl (ok_istore_n (k := 2) rfl (by decide) (by decide +kernel))⟩,
  List.forall_mem_cons.mpr ⟨⟨mo_il _ _, Or.inl (ok_iload_n (k := 2) rfl (by decide +kernel))⟩,
  List.forall_mem_cons.mpr ⟨⟨mo_al _ _, Or.inl (ok_aload_n (k := 0) rfl (by decide +kernel))⟩,
  List.forall_mem_cons.mpr ⟨⟨mo_gr _ _ _ _, Or.inl (ok_gr (C := RX2) (T := TX2) (N := 7) (ci := 2) (k := 3) rfl inX2 (by decide) fl_X2_21 (by decide +kernel) (by decide +kernel))⟩,
  List.forall_mem_cons.mpr ⟨⟨mo_gi _ _ _ _, Or.inl (ok_gi (C := RX3) (T := TX3) (N := 9) (ci := 3) (k := 8) rfl inX3 (by decide) fl_X2_35 (by decide +kernel) (by decide +kernel))⟩,
  List.forall_mem_cons.mpr ⟨⟨mo_if2 _ _ _, Or.inl (ok_icmp_ge (off := 62) (by decide) (by decide +kernel))⟩,
  List.forall_mem_cons.mpr ⟨⟨mo_al _ _, Or.inl (ok_aload_n (k := 0) rfl (by decide +kernel))⟩,
  List.forall_mem_cons.mpr ⟨⟨mo_gi _ _ _ _, Or.inl (ok_gi (C := RX2) (T := TX2) (N := 7) (ci := 2) (k := 4) rfl inX2 (by decide) fl_X2_32 (by decide +kernel) (by decide +kernel))⟩,
  List.forall_mem_cons.mpr ⟨⟨mo_ic _ _, Or.inl (ok_iconst (n := 3) (v := 3) (by decide) (by decide +kernel))⟩,
  List.forall_mem_cons.mpr ⟨⟨mo_if2 _ _ _, Or.inl (ok_icmp_ge (off := 54) (by decide) (by decide +kernel))⟩,
  List.forall_mem_cons.mpr ⟨⟨mo_al _ _, Or.inl (ok_aload_n (k := 0) rfl (by decide +kernel))⟩,
  List.forall_mem_cons.mpr ⟨⟨mo_gr _ _ _ _, Or.inl (ok_gr (C := RX2) (T := TX2) (N := 7) (ci := 2) (k := 3) rfl inX2 (by decide) fl_X2_21 (by decide +kernel) (by decide +kernel))⟩,
  List.forall_mem_cons.mpr ⟨⟨mo_gr _ _ _ _, Or.inl (ok_gr (C := RX3) (T := TX3) (N := 9) (ci := 3) (k := 7) rfl inX3 (by decide) fl_X2_38 (by decide +kernel) (by decide +kernel))⟩,
  fun _ h => absurd h List.not_mem_nil⟩⟩⟩⟩⟩⟩⟩⟩⟩⟩⟩⟩⟩⟩⟩⟩⟩⟩⟩⟩
def t_X2_find_1 : List (Nat × am_F) := [(38, im_il 2 39), (39, im_ald q_SH .int 40), (40, im_ic 1 41), (41, im_if2 ic_le 76 44), (44, im_al 0 45), (45, im_gr q_SH 2 3 48), (48, im_il 2 49), (49, im_il 1 50), (50, im_inv q_SH 3 18 2 53), (53, im_if1 ib_eq 76 56), (56, im_al 0 57), (57, im_gr q_SH 2 0 60), (60, im_al 0 61), (61, im_gi q_SH 2 4 64), (64, im_il 2 65), (65, im_ast q_SH .int (fun x => x) 66), (66, im_al 0 67), (67, im_dup 68), (68, im_gi q_SH 2 4 71), (71, im_ic 1 72)]
set_option maxRecDepth 20000 in
theorem o_X2_find_1 : ∀ q ∈ t_X2_find_1, am_ok vwCl q_SH ξ (q_E ξ β xs L) q_EN q_KD q_ML (cX2_find, 3, RX2, "find", none, []) q.1 q.2 :=
  List.forall_mem_cons.mpr ⟨⟨mo_il _ _, Or.inl (ok_iload_n (k := 2) rfl (by decide +kernel))⟩,
  List.forall_mem_cons.mpr ⟨⟨mo_ald _ _ _, Or.inl (ok_iald (by decide +kernel))⟩,
  List.forall_mem_cons.mpr ⟨⟨mo_ic _ _, Or.inl (ok_iconst (n := 1) (v := 1) (by decide) (by decide +kernel))⟩,
  List.forall_mem_cons.mpr ⟨⟨mo_if2 _ _ _, Or.inl (ok_icmp_le (off := 35) (by decide) (by decide +kernel))⟩,
  List.forall_mem_cons.mpr ⟨⟨mo_al _ _, Or.inl (ok_aload_n (k := 0) rfl (by decide +kernel))⟩,
  List.forall_mem_cons.mpr ⟨⟨mo_gr _ _ _ _, Or.inl (ok_gr (C := RX2) (T := TX2) (N := 7) (ci := 2) (k := 3) rfl inX2 (by decide) fl_X2_21 (by decide +kernel) (by decide +kernel))⟩,
  List.forall_mem_cons.mpr ⟨⟨mo_il _ _, Or.inl (ok_iload_n (k := 2) rfl (by decide +kernel))⟩,
  List.forall_mem_cons.mpr ⟨⟨mo_il _ _, Or.inl (ok_iload_n (k := 1) rfl (by decide +kernel))⟩,
  List.forall_mem_cons.mpr ⟨⟨mo_inv _ _ _ _ _, Or.inr (Or.inl (ok_inv (T := TX3) (N := 9) rfl cw_X3_isKnown (by decide) (by decide) ml_X2_41 ci_X3_isKnown cv_X3_isKnown (show Cond.initialized (yX3_isKnown).cls ∈ am_ts from ci9_RX3) ⟨by decide +kernel, by decide +kernel, by decide +kernel⟩ rfl (by decide +kernel)))⟩,
  List.forall_mem_cons.mpr ⟨⟨mo_if1 _ _ _, Or.inl (ok_if_eq (off := 23) (by decide) (by decide +kernel))⟩,
  List.forall_mem_cons.mpr ⟨⟨mo_al _ _, Or.inl (ok_aload_n (k := 0) rfl (by decide +kernel))⟩,
  List.forall_mem_cons.mpr ⟨⟨mo_gr _ _ _ _, Or.inl (ok_gr (C := RX2) (T := TX2) (N := 7) (ci := 2) (k := 0) rfl inX2 (by decide) fl_X2_9 (by decide +kernel) (by decide +kernel))⟩,
  List.forall_mem_cons.mpr ⟨⟨mo_al _ _, Or.inl (ok_aload_n (k := 0) rfl (by decide +kernel))⟩,
  List.forall_mem_cons.mpr ⟨⟨mo_gi _ _ _ _, Or.inl (ok_gi (C := RX2) (T := TX2) (N := 7) (ci := 2) (k := 4) rfl inX2 (by decide) fl_X2_32 (by decide +kernel) (by decide +kernel))⟩,
  List.forall_mem_cons.mpr ⟨⟨mo_il _ _, Or.inl (ok_iload_n (k := 2) rfl (by decide +kernel))⟩,
  List.forall_mem_cons.mpr ⟨⟨mo_ast _ _ _ _, Or.inl (ok_iast (by decide +kernel))⟩,
  List.forall_mem_cons.mpr ⟨⟨mo_al _ _, Or.inl (ok_aload_n (k := 0) rfl (by decide +kernel))⟩,
  List.forall_mem_cons.mpr ⟨⟨mo_dup _, Or.inl (ok_dup (by decide +kernel))⟩,
  List.forall_mem_cons.mpr ⟨⟨mo_gi _ _ _ _, Or.inl (ok_gi (C := RX2) (T := TX2) (N := 7) (ci := 2) (k := 4) rfl inX2 (by decide) fl_X2_32 (by decide +kernel) (by decide +kernel))⟩,
  List.forall_mem_cons.mpr ⟨⟨mo_ic _ _, Or.inl (ok_iconst (n := 1) (v := 1) (by decide) (by decide +kernel))⟩,
  fun _ h => absurd h List.not_mem_nil⟩⟩⟩⟩⟩⟩⟩⟩⟩⟩⟩⟩⟩⟩⟩⟩⟩⟩⟩⟩
def t_X2_find_2 : List (Nat × am_F) := [(72, im_bin (fun x y => x + y) 73), (73, im_pi q_SH 2 4 76), (76, im_iinc 2 1 79), (79, im_go 12), (82, im_al 0 83), (83, im_ic 1 84), (84, im_pi q_SH 2 5 87), (87, im_ic 2 88), (88, im_is 2 89), (89, im_il 2 90), (90, im_if1 ib_lt 156 93), (93, im_al 0 94), (94, im_gr q_SH 2 1 97), (97, im_il 2 98), (98, im_il 2 99), (99, im_al 0 100), (100, im_gi q_SH 2 4 103), (103, im_if2 ic_ge 123 106), (106, im_al 0 107), (107, im_gr q_SH 2 3 110)]
set_option maxRecDepth 20000 in
theorem o_X2_find_2 : ∀ q ∈ t_X2_find_2, am_ok vwCl q_SH ξ (q_E ξ β xs L) q_EN q_KD q_ML (cX2_find, 3, RX2, "find", none, []) q.1 q.2 :=
  List.forall_mem_cons.mpr ⟨⟨mo_bin _ _, Or.inl (ok_iadd (by decide +kernel))⟩,
  List.forall_mem_cons.mpr ⟨⟨mo_pi _ _ _ _, Or.inl (ok_pi (ty := .int) (C := RX2) (T := TX2) (N := 7) (ci := 2) (k := 4) rfl inX2 (by decide) fl_X2_32 (by decide +kernel) tyX2 tyX2_ok nmX2 (by decide +kernel) (by decide +kernel) (by decide +kernel))⟩,
  List.forall_mem_cons.mpr ⟨⟨mo_iinc _ _ _, Or.inl (ok_iinc (n := 1) (v := 1) (by decide) (by decide) (by decide +kernel))⟩,
  List.forall_mem_cons.mpr ⟨⟨mo_go _, Or.inl (ok_goto (off := (-67)) (by decide) (by decide +kernel))⟩,
  List.forall_mem_cons.mpr ⟨⟨mo_al _ _, Or.inl (ok_aload_n (k := 0) rfl (by decide +kernel))⟩,
  List.forall_mem_cons.mpr ⟨⟨mo_ic _ _, Or.inl (ok_iconst (n := 1) (v := 1) (by decide) (by decide +kernel))⟩,
  List.forall_mem_cons.mpr ⟨⟨mo_pi _ _ _ _, Or.inl (ok_pi (ty := .int) (C := RX2) (T := TX2) (N := 7) (ci := 2) (k := 5) rfl inX2 (by decide) fl_X2_25 (by decide +kernel) tyX2 tyX2_ok nmX2 (by decide +kernel) (by decide +kernel) (by decide +kernel))⟩,
  List.forall_mem_cons.mpr ⟨⟨mo_ic _ _, Or.inl (ok_iconst (n := 2) (v := 2) (by decide) (by decide +kernel))⟩,
  List.forall_mem_cons.mpr ⟨⟨mo_is _ _, Or.inl (ok_istore_n (k := 2) rfl (by decide) (by decide +kernel))⟩,
  List.forall_mem_cons.mpr ⟨⟨mo_il _ _, Or.inl (ok_iload_n (k := 2) rfl (by decide +kernel))⟩,
  List.forall_mem_cons.mpr ⟨⟨mo_if1 _ _ _, Or.inl (ok_if_lt (off := 66) (by decide) (by decide +kernel))⟩,
  List.forall_mem_cons.mpr ⟨⟨mo_al _ _, Or.inl (ok_aload_n (k := 0) rfl (by decide +kernel))⟩,
  List.forall_mem_cons.mpr ⟨⟨mo_gr _ _ _ _, Or.inl (ok_gr (C := RX2) (T := TX2) (N := 7) (ci := 2) (k := 1) rfl inX2 (by decide) fl_X2_15 (by decide +kernel) (by decide +kernel))⟩,
  List.forall_mem_cons.mpr ⟨⟨mo_il _ _, Or.inl (ok_iload_n (k := 2) rfl (by decide +kernel))⟩,
  List.forall_mem_cons.mpr ⟨⟨mo_il _ _, Or.inl (ok_iload_n (k := 2) rfl (by decide +kernel))⟩,
  List.forall_mem_cons.mpr ⟨⟨mo_al _ _, Or.inl (ok_aload_n (k := 0) rfl (by decide +kernel))⟩,
  List.forall_mem_cons.mpr ⟨⟨mo_gi _ _ _ _, Or.inl (ok_gi (C := RX2) (T := TX2) (N := 7) (ci := 2) (k := 4) rfl inX2 (by decide) fl_X2_32 (by decide +kernel) (by decide +kernel))⟩,
  List.forall_mem_cons.mpr ⟨⟨mo_if2 _ _ _, Or.inl (ok_icmp_ge (off := 20) (by decide) (by decide +kernel))⟩,
  List.forall_mem_cons.mpr ⟨⟨mo_al _ _, Or.inl (ok_aload_n (k := 0) rfl (by decide +kernel))⟩,
  List.forall_mem_cons.mpr ⟨⟨mo_gr _ _ _ _, Or.inl (ok_gr (C := RX2) (T := TX2) (N := 7) (ci := 2) (k := 3) rfl inX2 (by decide) fl_X2_21 (by decide +kernel) (by decide +kernel))⟩,
  fun _ h => absurd h List.not_mem_nil⟩⟩⟩⟩⟩⟩⟩⟩⟩⟩⟩⟩⟩⟩⟩⟩⟩⟩⟩⟩
def t_X2_find_3 : List (Nat × am_F) := [(110, im_gr q_SH 3 7 113), (113, im_al 0 114), (114, im_gr q_SH 2 0 117), (117, im_il 2 118), (118, im_ald q_SH .int 119), (119, im_ald q_SH .int 120), (120, im_go 124), (123, im_ic 1 124), (124, im_ast q_SH .int (fun x => x) 125), (125, im_al 0 126), (126, im_gr q_SH 2 2 129), (129, im_il 2 130), (130, im_al 0 131), (131, im_gi q_SH 2 5 134), (134, im_ast q_SH .int (fun x => x) 135), (135, im_al 0 136), (136, im_dup 137), (137, im_gi q_SH 2 5 140), (140, im_al 0 141), (141, im_gr q_SH 2 1 144)]
set_option maxRecDepth 20000 in
theorem o_X2_find_3 : ∀ q ∈ t_X2_find_3, am_ok vwCl q_SH ξ (q_E ξ β xs L) q_EN q_KD q_ML (cX2_find, 3, RX2, "find", none, []) q.1 q.2 :=
  List.forall_mem_cons.mpr ⟨⟨mo_gr _ _ _ _, Or.inl (ok_gr (C := RX3) (T := TX3) (N := 9) (ci := 3) (k := 7) rfl inX3 (by decide) fl_X2_38 (by decide +kernel) (by decide +kernel))⟩,
  List.forall_mem_cons.mpr ⟨⟨mo_al _ _, Or.inl (ok_aload_n (k := 0) rfl (by decide +kernel))⟩,
  List.forall_mem_cons.mpr ⟨⟨mo_gr _ _ _ _, Or.inl (ok_gr (C := RX2) (T := TX2) (N := 7) (ci := 2) (k := 0) rfl inX2 (by decide) fl_X2_9 (by decide +kernel) (by decide +kernel))⟩,
  List.forall_mem_cons.mpr ⟨⟨mo_il _ _, Or.inl (ok_iload_n (k := 2) rfl (by decide +kernel))⟩,
  List.forall_mem_cons.mpr ⟨⟨mo_ald _ _ _, Or.inl (ok_iald (by decide +kernel))⟩,
  List.forall_mem_cons.mpr ⟨⟨mo_ald _ _ _, Or.inl (ok_iald (by decide +kernel))⟩,
  List.forall_mem_cons.mpr ⟨⟨mo_go _, Or.inl (ok_goto (off := 4) (by decide) (by decide +kernel))⟩,
  List.forall_mem_cons.mpr ⟨⟨mo_ic _ _, Or.inl (ok_iconst (n := 1) (v := 1) (by decide) (by decide +kernel))⟩,
  List.forall_mem_cons.mpr ⟨⟨mo_ast _ _ _ _, Or.inl (ok_iast (by decide +kernel))⟩,
  List.forall_mem_cons.mpr ⟨⟨mo_al _ _, Or.inl (ok_aload_n (k := 0) rfl (by decide +kernel))⟩,
  List.forall_mem_cons.mpr ⟨⟨mo_gr _ _ _ _, Or.inl (ok_gr (C := RX2) (T := TX2) (N := 7) (ci := 2) (k := 2) rfl inX2 (by decide) fl_X2_18 (by decide +kernel) (by decide +kernel))⟩,
  List.forall_mem_cons.mpr ⟨⟨mo_il _ _, Or.inl (ok_iload_n (k := 2) rfl (by decide +kernel))⟩,
  List.forall_mem_cons.mpr ⟨⟨mo_al _ _, Or.inl (ok_aload_n (k := 0) rfl (by decide +kernel))⟩,
  List.forall_mem_cons.mpr ⟨⟨mo_gi _ _ _ _, Or.inl (ok_gi (C := RX2) (T := TX2) (N := 7) (ci := 2) (k := 5) rfl inX2 (by decide) fl_X2_25 (by decide +kernel) (by decide +kernel))⟩,
  List.forall_mem_cons.mpr ⟨⟨mo_ast _ _ _ _, Or.inl (ok_iast (by decide +kernel))⟩,
  List.forall_mem_cons.mpr ⟨⟨mo_al _ _, Or.inl (ok_aload_n (k := 0) rfl (by decide +kernel))⟩,
  List.forall_mem_cons.mpr ⟨⟨mo_dup _, Or.inl (ok_dup (by decide +kernel))⟩,
  List.forall_mem_cons.mpr ⟨⟨mo_gi _ _ _ _, Or.inl (ok_gi (C := RX2) (T := TX2) (N := 7) (ci := 2) (k := 5) rfl inX2 (by decide) fl_X2_25 (by decide +kernel) (by decide +kernel))⟩,
  List.forall_mem_cons.mpr ⟨⟨mo_al _ _, Or.inl (ok_aload_n (k := 0) rfl (by decide +kernel))⟩,
  List.forall_mem_cons.mpr ⟨⟨mo_gr _ _ _ _, Or.inl (ok_gr (C := RX2) (T := TX2) (N := 7) (ci := 2) (k := 1) rfl inX2 (by decide) fl_X2_15 (by decide +kernel) (by decide +kernel))⟩,
  fun _ h => absurd h List.not_mem_nil⟩⟩⟩⟩⟩⟩⟩⟩⟩⟩⟩⟩⟩⟩⟩⟩⟩⟩⟩⟩
def t_X2_find_4 : List (Nat × am_F) := [(144, im_il 2 145), (145, im_ald q_SH .int 146), (146, im_bin (fun x y => x * y) 147), (147, im_pi q_SH 2 5 150), (150, im_iinc 2 (-1) 153), (153, im_go 89), (156, im_ret0e)]
set_option maxRecDepth 20000 in
theorem o_X2_find_4 : ∀ q ∈ t_X2_find_4, am_ok vwCl q_SH ξ (q_E ξ β xs L) q_EN q_KD q_ML (cX2_find, 3, RX2, "find", none, []) q.1 q.2 :=
  List.forall_mem_cons.mpr ⟨⟨mo_il _ _, Or.inl (ok_iload_n (k := 2) rfl (by decide +kernel))⟩,
  List.forall_mem_cons.mpr ⟨⟨mo_ald _ _ _, Or.inl (ok_iald (by decide +kernel))⟩,
  List.forall_mem_cons.mpr ⟨⟨mo_bin _ _, Or.inl (ok_imul (by decide +kernel))⟩,
  List.forall_mem_cons.mpr ⟨⟨mo_pi _ _ _ _, Or.inl (ok_pi (ty := .int) (C := RX2) (T := TX2) (N := 7) (ci := 2) (k := 5) rfl inX2 (by decide) fl_X2_25 (by decide +kernel) tyX2 tyX2_ok nmX2 (by decide +kernel) (by decide +kernel) (by decide +kernel))⟩,
  List.forall_mem_cons.mpr ⟨⟨mo_iinc _ _ _, Or.inl (ok_iinc (n := (-1)) (v := (-1)) (by decide) (by decide) (by decide +kernel))⟩,
  List.forall_mem_cons.mpr ⟨⟨mo_go _, Or.inl (ok_goto (off := (-64)) (by decide) (by decide +kernel))⟩,
  List.forall_mem_cons.mpr ⟨⟨mo_ret0e, Or.inr (Or.inr (ok_ret0 rfl (by decide +kernel)))⟩,
  fun _ h => absurd h List.not_mem_nil⟩⟩⟩⟩⟩⟩⟩
def t_X2_find : List (Nat × am_F) := t_X2_find_0 ++ (t_X2_find_1 ++ (t_X2_find_2 ++ (t_X2_find_3 ++ (t_X2_find_4))))
theorem o_X2_find : ∀ q ∈ t_X2_find, am_ok vwCl q_SH ξ (q_E ξ β xs L) q_EN q_KD q_ML (cX2_find, 3, RX2, "find", none, []) q.1 q.2 := List.forall_mem_append.mpr ⟨o_X2_find_0, List.forall_mem_append.mpr ⟨o_X2_find_1, List.forall_mem_append.mpr ⟨o_X2_find_2, List.forall_mem_append.mpr ⟨o_X2_find_3, o_X2_find_4⟩⟩⟩⟩
def t_X2_pick_0 : List (Nat × am_F) := [(0, im_al 0 1), (1, im_gr q_SH 2 2 4), (4, im_il 1 5), (5, im_ald q_SH .int 6), (6, im_if1 ib_le 36 9), (9, im_al 0 10), (10, im_gr q_SH 2 1 13), (13, im_il 1 14), (14, im_ald q_SH .int 15), (15, im_if1 ib_le 36 18), (18, im_il 2 19), (19, im_al 0 20), (20, im_gr q_SH 2 2 23), (23, im_il 1 24), (24, im_ald q_SH .int 25), (25, im_div (fun x y => x / y) 26), (26, im_al 0 27), (27, im_gr q_SH 2 1 30), (30, im_il 1 31), (31, im_ald q_SH .int 32)]
set_option maxRecDepth 20000 in
theorem o_X2_pick_0 : ∀ q ∈ t_X2_pick_0, am_ok vwCl q_SH ξ (q_E ξ β xs L) q_EN q_KD q_ML (cX2_pick, 3, RX2, "pick", (some .int), []) q.1 q.2 :=
  List.forall_mem_cons.mpr ⟨⟨mo_al _ _, Or.inl (ok_aload_n (k := 0) rfl (by decide +kernel))⟩,
  List.forall_mem_cons.mpr ⟨⟨mo_gr _ _ _ _, Or.inl (ok_gr (C := RX2) (T := TX2) (N := 7) (ci := 2) (k := 2) rfl inX2 (by decide) fl_X2_18 (by decide +kernel) (by decide +kernel))⟩,
  List.forall_mem_cons.mpr ⟨⟨mo_il _ _, Or.inl (ok_iload_n (k := 1) rfl (by decide +kernel))⟩,
  List.forall_mem_cons.mpr ⟨⟨mo_ald _ _ _, Or.inl (ok_iald (by decide +kernel))⟩,
  List.forall_mem_cons.mpr ⟨⟨mo_if1 _ _ _, Or.inl (ok_if_le (off := 30) (by decide) (by decide +kernel))⟩,
  List.forall_mem_cons.mpr ⟨⟨mo_al _ _, Or.inl (ok_aload_n (k := 0) rfl (by decide +kernel))⟩,
  List.forall_mem_cons.mpr ⟨⟨mo_gr _ _ _ _, Or.inl (ok_gr (C := RX2) (T := TX2) (N := 7) (ci := 2) (k := 1) rfl inX2 (by decide) fl_X2_15 (by decide +kernel) (by decide +kernel))⟩,
  List.forall_mem_cons.mpr ⟨⟨mo_il _ _, Or.inl (ok_iload_n (k := 1) rfl (by decide +kernel))⟩,
  List.forall_mem_cons.mpr ⟨⟨mo_ald _ _ _, Or.inl (ok_iald (by decide +kernel))⟩,
  List.forall_mem_cons.mpr ⟨⟨mo_if1 _ _ _, Or.inl (ok_if_le (off := 21) (by decide) (by decide +kernel))⟩,
  List.forall_mem_cons.mpr ⟨⟨mo_il _ _, Or.inl (ok_iload_n (k := 2) rfl (by decide +kernel))⟩,
  List.forall_mem_cons.mpr ⟨⟨mo_al _ _, Or.inl (ok_aload_n (k := 0) rfl (by decide +kernel))⟩,
  List.forall_mem_cons.mpr ⟨⟨mo_gr _ _ _ _, Or.inl (ok_gr (C := RX2) (T := TX2) (N := 7) (ci := 2) (k := 2) rfl inX2 (by decide) fl_X2_18 (by decide +kernel) (by decide +kernel))⟩,
  List.forall_mem_cons.mpr ⟨⟨mo_il _ _, Or.inl (ok_iload_n (k := 1) rfl (by decide +kernel))⟩,
  List.forall_mem_cons.mpr ⟨⟨mo_ald _ _ _, Or.inl (ok_iald (by decide +kernel))⟩,
  List.forall_mem_cons.mpr ⟨⟨mo_div _ _, Or.inl (ok_idiv (by decide +kernel))⟩,
  List.forall_mem_cons.mpr ⟨⟨mo_al _ _, Or.inl (ok_aload_n (k := 0) rfl (by decide +kernel))⟩,
  List.forall_mem_cons.mpr ⟨⟨mo_gr _ _ _ _, Or.inl (ok_gr (C := RX2) (T := TX2) (N := 7) (ci := 2) (k := 1) rfl inX2 (by decide) fl_X2_15 (by decide +kernel) (by decide +kernel))⟩,
  List.forall_mem_cons.mpr ⟨⟨mo_il _ _, Or.inl (ok_iload_n (k := 1) rfl (by decide +kernel))⟩,
  List.forall_mem_cons.mpr ⟨⟨mo_ald _ _ _, Or.inl (ok_iald (by decide +kernel))⟩,
  fun _ h => absurd h List.not_mem_nil⟩⟩⟩⟩⟩⟩⟩⟩⟩⟩⟩⟩⟩⟩⟩⟩⟩⟩⟩⟩
def t_X2_pick_1 : List (Nat × am_F) := [(32, im_div (fun x y => x - x / y * y) 33), (33, im_go 37), (36, im_ic 0 37), (37, im_reti)]
set_option maxRecDepth 20000 in
theorem o_X2_pick_1 : ∀ q ∈ t_X2_pick_1, am_ok vwCl q_SH ξ (q_E ξ β xs L) q_EN q_KD q_ML (cX2_pick, 3, RX2, "pick", (some .int), []) q.1 q.2 :=
  List.forall_mem_cons.mpr ⟨⟨mo_div _ _, Or.inl (ok_irem (by decide +kernel))⟩,
  List.forall_mem_cons.mpr ⟨⟨mo_go _, Or.inl (ok_goto (off := 4) (by decide) (by decide +kernel))⟩,
  List.forall_mem_cons.mpr ⟨⟨mo_ic _ _, Or.inl (ok_iconst (n := 0) (v := 0) (by decide) (by decide +kernel))⟩,
  List.forall_mem_cons.mpr ⟨⟨mo_reti, Or.inr (Or.inr (ok_reti rfl (by decide +kernel)))⟩,
  fun _ h => absurd h List.not_mem_nil⟩⟩⟩⟩
def t_X2_pick : List (Nat × am_F) := t_X2_pick_0 ++ (t_X2_pick_1)
theorem o_X2_pick : ∀ q ∈ t_X2_pick, am_ok vwCl q_SH ξ (q_E ξ β xs L) q_EN q_KD q_ML (cX2_pick, 3, RX2, "pick", (some .int), []) q.1 q.2 := List.forall_mem_append.mpr ⟨o_X2_pick_0, o_X2_pick_1⟩
def t_X2_dayIn_0 : List (Nat × am_F) := [(0, im_ic 0 1), (1, im_is 3 2), (2, im_il 3 3), (3, im_al 0 4), (4, im_gi q_SH 2 4 7), (7, im_if2 ic_ge 45 10), (10, im_al 0 11), (11, im_gr q_SH 2 0 14), (14, im_il 3 15), (15, im_ald q_SH .int 16), (16, im_il 2 17), (17, im_if2 ic_ne 39 20), (20, im_al 0 21), (21, im_gr q_SH 2 3 24), (24, im_gr q_SH 3 6 27), (27, im_il 2 28), (28, im_ic 3 29), (29, im_bin (fun x y => x * y) 30), (30, im_al 0 31), (31, im_il 3 32)]
set_option maxRecDepth 20000 in
theorem o_X2_dayIn_0 : ∀ q ∈ t_X2_dayIn_0, am_ok vwCl q_SH ξ (q_E ξ β xs L) q_EN q_KD q_ML (cX2_dayIn, 4, RX2, "dayIn", (some .int), []) q.1 q.2 :=
  List.forall_mem_cons.mpr ⟨⟨mo_ic _ _, Or.inl (ok_iconst (n := 0) (v := 0) (by decide) (by decide +kernel))⟩,
  List.forall_mem_cons.mpr ⟨⟨mo_is _ _, Or.inl (ok_istore_n (k := 3) rfl (by decide) (by decide +kernel))⟩,
  List.forall_mem_cons.mpr ⟨⟨mo_il _ _, Or.inl (ok_iload_n (k := 3) rfl (by decide +kernel))⟩,
  List.forall_mem_cons.mpr ⟨⟨mo_al _ _, Or.inl (ok_aload_n (k := 0) rfl (by decide +kernel))⟩,
  List.forall_mem_cons.mpr ⟨⟨mo_gi _ _ _ _, Or.inl (ok_gi (C := RX2) (T := TX2) (N := 7) (ci := 2) (k := 4) rfl inX2 (by decide) fl_X2_32 (by decide +kernel) (by decide +kernel))⟩,
  List.forall_mem_cons.mpr ⟨⟨mo_if2 _ _ _, Or.inl (ok_icmp_ge (off := 38) (by decide) (by decide +kernel))⟩,
  List.forall_mem_cons.mpr ⟨⟨mo_al _ _, Or.inl (ok_aload_n (k := 0) rfl (by decide +kernel))⟩,
  List.forall_mem_cons.mpr ⟨⟨mo_gr _ _ _ _, Or.inl (ok_gr (C := RX2) (T := TX2) (N := 7) (ci := 2) (k := 0) rfl inX2 (by decide) fl_X2_9 (by decide +kernel) (by decide +kernel))⟩,
  List.forall_mem_cons.mpr ⟨⟨mo_il _ _, Or.inl (ok_iload_n (k := 3) rfl (by decide +kernel))⟩,
  List.forall_mem_cons.mpr ⟨⟨mo_ald _ _ _, Or.inl (ok_iald (by decide +kernel))⟩,
  List.forall_mem_cons.mpr ⟨⟨mo_il _ _, Or.inl (ok_iload_n (k := 2) rfl (by decide +kernel))⟩,
  List.forall_mem_cons.mpr ⟨⟨mo_if2 _ _ _, Or.inl (ok_icmp_ne (off := 22) (by decide) (by decide +kernel))⟩,
  List.forall_mem_cons.mpr ⟨⟨mo_al _ _, Or.inl (ok_aload_n (k := 0) rfl (by decide +kernel))⟩,
  List.forall_mem_cons.mpr ⟨⟨mo_gr _ _ _ _, Or.inl (ok_gr (C := RX2) (T := TX2) (N := 7) (ci := 2) (k := 3) rfl inX2 (by decide) fl_X2_21 (by decide +kernel) (by decide +kernel))⟩,
  List.forall_mem_cons.mpr ⟨⟨mo_gr _ _ _ _, Or.inl (ok_gr (C := RX3) (T := TX3) (N := 9) (ci := 3) (k := 6) rfl inX3 (by decide) fl_X2_45 (by decide +kernel) (by decide +kernel))⟩,
  List.forall_mem_cons.mpr ⟨⟨mo_il _ _, Or.inl (ok_iload_n (k := 2) rfl (by decide +kernel))⟩,
  List.forall_mem_cons.mpr ⟨⟨mo_ic _ _, Or.inl (ok_iconst (n := 3) (v := 3) (by decide) (by decide +kernel))⟩,
  List.forall_mem_cons.mpr ⟨⟨mo_bin _ _, Or.inl (ok_imul (by decide +kernel))⟩,
  List.forall_mem_cons.mpr ⟨⟨mo_al _ _, Or.inl (ok_aload_n (k := 0) rfl (by decide +kernel))⟩,
  List.forall_mem_cons.mpr ⟨⟨mo_il _ _, Or.inl (ok_iload_n (k := 3) rfl (by decide +kernel))⟩,
  fun _ h => absurd h List.not_mem_nil⟩⟩⟩⟩⟩⟩⟩⟩⟩⟩⟩⟩⟩⟩⟩⟩⟩⟩⟩⟩
def t_X2_dayIn_1 : List (Nat × am_F) := [(32, im_il 1 33), (33, im_inv q_SH 2 14 2 36), (36, im_bin (fun x y => x + y) 37), (37, im_ald q_SH .int 38), (38, im_reti), (39, im_iinc 3 1 42), (42, im_go 2), (45, im_al 0 46), (46, im_gr q_SH 2 3 49), (49, im_gr q_SH 3 6 52), (52, im_il 2 53), (53, im_ic 3 54), (54, im_bin (fun x y => x * y) 55), (55, im_ald q_SH .int 56), (56, im_reti)]
set_option maxRecDepth 20000 in
theorem o_X2_dayIn_1 : ∀ q ∈ t_X2_dayIn_1, am_ok vwCl q_SH ξ (q_E ξ β xs L) q_EN q_KD q_ML (cX2_dayIn, 4, RX2, "dayIn", (some .int), []) q.1 q.2 :=
  List.forall_mem_cons.mpr ⟨⟨mo_il _ _, Or.inl (ok_iload_n (k := 1) rfl (by decide +kernel))⟩,
  List.forall_mem_cons.mpr ⟨⟨mo_inv _ _ _ _ _, Or.inr (Or.inl (ok_inv (T := TX2) (N := 7) rfl cw_X2_pick (by decide) (by decide) ml_X2_48 ci_X2_pick cv_X2_pick (show Cond.initialized (yX2_pick).cls ∈ am_ts from ci9_RX2) ⟨by decide +kernel, by decide +kernel, by decide +kernel⟩ rfl (by decide +kernel)))⟩,
  List.forall_mem_cons.mpr ⟨⟨mo_bin _ _, Or.inl (ok_iadd (by decide +kernel))⟩,
  List.forall_mem_cons.mpr ⟨⟨mo_ald _ _ _, Or.inl (ok_iald (by decide +kernel))⟩,
  List.forall_mem_cons.mpr ⟨⟨mo_reti, Or.inr (Or.inr (ok_reti rfl (by decide +kernel)))⟩,
  List.forall_mem_cons.mpr ⟨⟨mo_iinc _ _ _, Or.inl (ok_iinc (n := 1) (v := 1) (by decide) (by decide) (by decide +kernel))⟩,
  List.forall_mem_cons.mpr ⟨⟨mo_go _, Or.inl (ok_goto (off := (-40)) (by decide) (by decide +kernel))⟩,
  List.forall_mem_cons.mpr ⟨⟨mo_al _ _, Or.inl (ok_aload_n (k := 0) rfl (by decide +kernel))⟩,
  List.forall_mem_cons.mpr ⟨⟨mo_gr _ _ _ _, Or.inl (ok_gr (C := RX2) (T := TX2) (N := 7) (ci := 2) (k := 3) rfl inX2 (by decide) fl_X2_21 (by decide +kernel) (by decide +kernel))⟩,
  List.forall_mem_cons.mpr ⟨⟨mo_gr _ _ _ _, Or.inl (ok_gr (C := RX3) (T := TX3) (N := 9) (ci := 3) (k := 6) rfl inX3 (by decide) fl_X2_45 (by decide +kernel) (by decide +kernel))⟩,
  List.forall_mem_cons.mpr ⟨⟨mo_il _ _, Or.inl (ok_iload_n (k := 2) rfl (by decide +kernel))⟩,
  List.forall_mem_cons.mpr ⟨⟨mo_ic _ _, Or.inl (ok_iconst (n := 3) (v := 3) (by decide) (by decide +kernel))⟩,
  List.forall_mem_cons.mpr ⟨⟨mo_bin _ _, Or.inl (ok_imul (by decide +kernel))⟩,
  List.forall_mem_cons.mpr ⟨⟨mo_ald _ _ _, Or.inl (ok_iald (by decide +kernel))⟩,
  List.forall_mem_cons.mpr ⟨⟨mo_reti, Or.inr (Or.inr (ok_reti rfl (by decide +kernel)))⟩,
  fun _ h => absurd h List.not_mem_nil⟩⟩⟩⟩⟩⟩⟩⟩⟩⟩⟩⟩⟩⟩⟩
def t_X2_dayIn : List (Nat × am_F) := t_X2_dayIn_0 ++ (t_X2_dayIn_1)
theorem o_X2_dayIn : ∀ q ∈ t_X2_dayIn, am_ok vwCl q_SH ξ (q_E ξ β xs L) q_EN q_KD q_ML (cX2_dayIn, 4, RX2, "dayIn", (some .int), []) q.1 q.2 := List.forall_mem_append.mpr ⟨o_X2_dayIn_0, o_X2_dayIn_1⟩
def t_X2_firstLike_0 : List (Nat × am_F) := [(0, im_ic 0 1), (1, im_is 3 2), (2, im_ic 0 3), (3, im_is 4 5), (5, im_il 4 7), (7, im_al 0 8), (8, im_gi q_SH 2 4 11), (11, im_if2 ic_ge 48 14), (14, im_il 2 15), (15, im_il 4 17), (17, im_bin (fun x y => x >>> (y &&& 31)) 18), (18, im_ic 1 19), (19, im_bin (fun x y => x &&& y) 20), (20, im_ic 1 21), (21, im_if2 ic_ne 42 24), (24, im_il 3 25), (25, im_al 0 26), (26, im_il 4 28), (28, im_il 1 29), (29, im_inv q_SH 2 14 2 32)]
set_option maxRecDepth 20000 in
theorem o_X2_firstLike_0 : ∀ q ∈ t_X2_firstLike_0, am_ok vwCl q_SH ξ (q_E ξ β xs L) q_EN q_KD q_ML (cX2_firstLike, 5, RX2, "firstLike", (some .int), []) q.1 q.2 :=
  List.forall_mem_cons.mpr ⟨⟨mo_ic _ _, Or.inl (ok_iconst (n := 0) (v := 0) (by decide) (by decide +kernel))⟩,
  List.forall_mem_cons.mpr ⟨⟨mo_is _ _, Or.inl (ok_istore_n (k := 3) rfl (by decide) (by decide +kernel))⟩,
  List.forall_mem_cons.mpr ⟨⟨mo_ic _ _, Or.inl (ok_iconst (n := 0) (v := 0) (by decide) (by decide +kernel))⟩,
  List.forall_mem_cons.mpr ⟨⟨mo_is _ _, Or.inl (ok_istore (by decide) (by decide +kernel))⟩,
  List.forall_mem_cons.mpr ⟨⟨mo_il _ _, Or.inl (ok_iload (by decide +kernel))⟩,
  List.forall_mem_cons.mpr ⟨⟨mo_al _ _, Or.inl (ok_aload_n (k := 0) rfl (by decide +kernel))⟩,
  List.forall_mem_cons.mpr ⟨⟨mo_gi _ _ _ _, Or.inl (ok_gi (C := RX2) (T := TX2) (N := 7) (ci := 2) (k := 4) rfl inX2 (by decide) fl_X2_32 (by decide +kernel) (by decide +kernel))⟩,
  List.forall_mem_cons.mpr ⟨⟨mo_if2 _ _ _, Or.inl (ok_icmp_ge (off := 37) (by decide) (by decide +kernel))⟩,
  List.forall_mem_cons.mpr ⟨⟨mo_il _ _, Or.inl (ok_iload_n (k := 2) rfl (by decide +kernel))⟩,
  List.forall_mem_cons.mpr ⟨⟨mo_il _ _, Or.inl (ok_iload (by decide +kernel))⟩,
  List.forall_mem_cons.mpr ⟨⟨mo_bin _ _, Or.inl (ok_ishr (by decide +kernel))⟩,
  List.forall_mem_cons.mpr ⟨⟨mo_ic _ _, Or.inl (ok_iconst (n := 1) (v := 1) (by decide) (by decide +kernel))⟩,
  List.forall_mem_cons.mpr ⟨⟨mo_bin _ _, Or.inl (ok_iand (by decide +kernel))⟩,
  List.forall_mem_cons.mpr ⟨⟨mo_ic _ _, Or.inl (ok_iconst (n := 1) (v := 1) (by decide) (by decide +kernel))⟩,
  List.forall_mem_cons.mpr ⟨⟨mo_if2 _ _ _, Or.inl (ok_icmp_ne (off := 21) (by decide) (by decide +kernel))⟩,
  List.forall_mem_cons.mpr ⟨⟨mo_il _ _, Or.inl (ok_iload_n (k := 3) rfl (by decide +kernel))⟩,
  List.forall_mem_cons.mpr ⟨⟨mo_al _ _, Or.inl (ok_aload_n (k := 0) rfl (by decide +kernel))⟩,
  List.forall_mem_cons.mpr ⟨⟨mo_il _ _, Or.inl (ok_iload (by decide +kernel))⟩,
  List.forall_mem_cons.mpr ⟨⟨mo_il _ _, Or.inl (ok_iload_n (k := 1) rfl (by decide +kernel))⟩,
  List.forall_mem_cons.mpr ⟨⟨mo_inv _ _ _ _ _, Or.inr (Or.inl (ok_inv (T := TX2) (N := 7) rfl cw_X2_pick (by decide) (by decide) ml_X2_48 ci_X2_pick cv_X2_pick (show Cond.initialized (yX2_pick).cls ∈ am_ts from ci9_RX2) ⟨by decide +kernel, by decide +kernel, by decide +kernel⟩ rfl (by decide +kernel)))⟩,
  fun _ h => absurd h List.not_mem_nil⟩⟩⟩⟩⟩⟩⟩⟩⟩⟩⟩⟩⟩⟩⟩⟩⟩⟩⟩⟩
def t_X2_firstLike_1 : List (Nat × am_F) := [(32, im_al 0 33), (33, im_gr q_SH 2 2 36), (36, im_il 4 38), (38, im_ald q_SH .int 39), (39, im_bin (fun x y => x * y) 40), (40, im_bin (fun x y => x + y) 41), (41, im_is 3 42), (42, im_iinc 4 1 45), (45, im_go 5), (48, im_il 3 49), (49, im_reti)]
set_option maxRecDepth 20000 in
theorem o_X2_firstLike_1 : ∀ q ∈ t_X2_firstLike_1, am_ok vwCl q_SH ξ (q_E ξ β xs L) q_EN q_KD q_ML (cX2_firstLike, 5, RX2, "firstLike", (some .int), []) q.1 q.2 :=
  List.forall_mem_cons.mpr ⟨⟨mo_al _ _, Or.inl (ok_aload_n (k := 0) rfl (by decide +kernel))⟩,
  List.forall_mem_cons.mpr ⟨⟨mo_gr _ _ _ _, Or.inl (ok_gr (C := RX2) (T := TX2) (N := 7) (ci := 2) (k := 2) rfl inX2 (by decide) fl_X2_18 (by decide +kernel) (by decide +kernel))⟩,
  List.forall_mem_cons.mpr ⟨⟨mo_il _ _, Or.inl (ok_iload (by decide +kernel))⟩,
  List.forall_mem_cons.mpr ⟨⟨mo_ald _ _ _, Or.inl (ok_iald (by decide +kernel))⟩,
  List.forall_mem_cons.mpr ⟨⟨mo_bin _ _, Or.inl (ok_imul (by decide +kernel))⟩,
  List.forall_mem_cons.mpr ⟨⟨mo_bin _ _, Or.inl (ok_iadd (by decide +kernel))⟩,
  List.forall_mem_cons.mpr ⟨⟨mo_is _ _, Or.inl (ok_istore_n (k := 3) rfl (by decide) (by decide +kernel))⟩,
  List.forall_mem_cons.mpr ⟨⟨mo_iinc _ _ _, Or.inl (ok_iinc (n := 1) (v := 1) (by decide) (by decide) (by decide +kernel))⟩,
  List.forall_mem_cons.mpr ⟨⟨mo_go _, Or.inl (ok_goto (off := (-40)) (by decide) (by decide +kernel))⟩,
  List.forall_mem_cons.mpr ⟨⟨mo_il _ _, Or.inl (ok_iload_n (k := 3) rfl (by decide +kernel))⟩,
  List.forall_mem_cons.mpr ⟨⟨mo_reti, Or.inr (Or.inr (ok_reti rfl (by decide +kernel)))⟩,
  fun _ h => absurd h List.not_mem_nil⟩⟩⟩⟩⟩⟩⟩⟩⟩⟩⟩
def t_X2_firstLike : List (Nat × am_F) := t_X2_firstLike_0 ++ (t_X2_firstLike_1)
theorem o_X2_firstLike : ∀ q ∈ t_X2_firstLike, am_ok vwCl q_SH ξ (q_E ξ β xs L) q_EN q_KD q_ML (cX2_firstLike, 5, RX2, "firstLike", (some .int), []) q.1 q.2 := List.forall_mem_append.mpr ⟨o_X2_firstLike_0, o_X2_firstLike_1⟩
def t_X3_init_0 : List (Nat × am_F) := [(0, im_al 0 1), (1, im_obj 4), (4, im_al 0 5), (5, im_ic 100 7), (7, im_newa q_SH .int 9), (9, im_pr q_SH 3 0 12), (12, im_al 0 13), (13, im_ic 100 15), (15, im_newa q_SH .int 17), (17, im_pr q_SH 3 1 20), (20, im_al 0 21), (21, im_ic 100 23), (23, im_newa q_SH .int 25), (25, im_pr q_SH 3 2 28), (28, im_al 0 29), (29, im_ic 100 31), (31, im_newa q_SH .int 33), (33, im_pr q_SH 3 3 36), (36, im_al 0 37), (37, im_ic 100 39)]
set_option maxRecDepth 20000 in
theorem o_X3_init_0 : ∀ q ∈ t_X3_init_0, am_ok vwCl q_SH ξ (q_E ξ β xs L) q_EN q_KD q_ML (cX3_init, 1, RX3, "<init>", none, []) q.1 q.2 :=
  List.forall_mem_cons.mpr ⟨⟨mo_al _ _, Or.inl (ok_aload_n (k := 0) rfl (by decide +kernel))⟩,
  List.forall_mem_cons.mpr ⟨⟨mo_obj _, Or.inl (ok_obj (am_in1 86 rfl rfl) (am_in1 33 rfl rfl) (am_in1 34 rfl rfl) (by decide +kernel))⟩,
  List.forall_mem_cons.mpr ⟨⟨mo_al _ _, Or.inl (ok_aload_n (k := 0) rfl (by decide +kernel))⟩,
  List.forall_mem_cons.mpr ⟨⟨mo_ic _ _, Or.inl (ok_bipush (n := 100) (v := 100) (by decide) (by decide +kernel))⟩,
  List.forall_mem_cons.mpr ⟨⟨mo_newa _ _ _, Or.inl (ok_newi (am_in1 54 rfl rfl) (by decide +kernel))⟩,
  List.forall_mem_cons.mpr ⟨⟨mo_pr _ _ _ _, Or.inl (ok_prF (C := RX3) (T := TX3) (N := 9) (ci := 3) (k := 0) rfl inX3 (by decide) fl_X3_9 (by decide +kernel) tyX3 tyX3_ok nmX3 (by decide +kernel) rfl rfl (ty := .array .int) (by decide +kernel) (fun _ => ⟨rfl, rfl⟩) (by decide +kernel))⟩,
  List.forall_mem_cons.mpr ⟨⟨mo_al _ _, Or.inl (ok_aload_n (k := 0) rfl (by decide +kernel))⟩,
  List.forall_mem_cons.mpr ⟨⟨mo_ic _ _, Or.inl (ok_bipush (n := 100) (v := 100) (by decide) (by decide +kernel))⟩,
  List.forall_mem_cons.mpr ⟨⟨mo_newa _ _ _, Or.inl (ok_newi (am_in1 54 rfl rfl) (by decide +kernel))⟩,
  List.forall_mem_cons.mpr ⟨⟨mo_pr _ _ _ _, Or.inl (ok_prF (C := RX3) (T := TX3) (N := 9) (ci := 3) (k := 1) rfl inX3 (by decide) fl_X3_15 (by decide +kernel) tyX3 tyX3_ok nmX3 (by decide +kernel) rfl rfl (ty := .array .int) (by decide +kernel) (fun _ => ⟨rfl, rfl⟩) (by decide +kernel))⟩,
  List.forall_mem_cons.mpr ⟨⟨mo_al _ _, Or.inl (ok_aload_n (k := 0) rfl (by decide +kernel))⟩,
  List.forall_mem_cons.mpr ⟨⟨mo_ic _ _, Or.inl (ok_bipush (n := 100) (v := 100) (by decide) (by decide +kernel))⟩,
  List.forall_mem_cons.mpr ⟨⟨mo_newa _ _ _, Or.inl (ok_newi (am_in1 54 rfl rfl) (by decide +kernel))⟩,
  List.forall_mem_cons.mpr ⟨⟨mo_pr _ _ _ _, Or.inl (ok_prF (C := RX3) (T := TX3) (N := 9) (ci := 3) (k := 2) rfl inX3 (by decide) fl_X3_18 (by decide +kernel) tyX3 tyX3_ok nmX3 (by decide +kernel) rfl rfl (ty := .array .int) (by decide +kernel) (fun _ => ⟨rfl, rfl⟩) (by decide +kernel))⟩,
  List.forall_mem_cons.mpr ⟨⟨mo_al _ _, Or.inl (ok_aload_n (k := 0) rfl (by decide +kernel))⟩,
  List.forall_mem_cons.mpr ⟨⟨mo_ic _ _, Or.inl (ok_bipush (n := 100) (v := 100) (by decide) (by decide +kernel))⟩,
  List.forall_mem_cons.mpr ⟨⟨mo_newa _ _ _, Or.inl (ok_newi (am_in1 54 rfl rfl) (by decide +kernel))⟩,
  List.forall_mem_cons.mpr ⟨⟨mo_pr _ _ _ _, Or.inl (ok_prF (C := RX3) (T := TX3) (N := 9) (ci := 3) (k := 3) rfl inX3 (by decide) fl_X3_21 (by decide +kernel) tyX3 tyX3_ok nmX3 (by decide +kernel) rfl rfl (ty := .array .int) (by decide +kernel) (fun _ => ⟨rfl, rfl⟩) (by decide +kernel))⟩,
  List.forall_mem_cons.mpr ⟨⟨mo_al _ _, Or.inl (ok_aload_n (k := 0) rfl (by decide +kernel))⟩,
  List.forall_mem_cons.mpr ⟨⟨mo_ic _ _, Or.inl (ok_bipush (n := 100) (v := 100) (by decide) (by decide +kernel))⟩,
  fun _ h => absurd h List.not_mem_nil⟩⟩⟩⟩⟩⟩⟩⟩⟩⟩⟩⟩⟩⟩⟩⟩⟩⟩⟩⟩
def t_X3_init_1 : List (Nat × am_F) := [(39, im_newa q_SH .int 41), (41, im_pr q_SH 3 4 44), (44, im_al 0 45), (45, im_ic 100 47), (47, im_newa q_SH .int 49), (49, im_pr q_SH 3 5 52), (52, im_al 0 53), (53, im_ic 300 56), (56, im_newa q_SH .int 58), (58, im_pr q_SH 3 6 61), (61, im_al 0 62), (62, im_ic 100 64), (64, im_newa q_SH .int 66), (66, im_pr q_SH 3 7 69), (69, im_ret0e)]
set_option maxRecDepth 20000 in
theorem o_X3_init_1 : ∀ q ∈ t_X3_init_1, am_ok vwCl q_SH ξ (q_E ξ β xs L) q_EN q_KD q_ML (cX3_init, 1, RX3, "<init>", none, []) q.1 q.2 :=
  List.forall_mem_cons.mpr ⟨⟨mo_newa _ _ _, Or.inl (ok_newi (am_in1 54 rfl rfl) (by decide +kernel))⟩,
  List.forall_mem_cons.mpr ⟨⟨mo_pr _ _ _ _, Or.inl (ok_prF (C := RX3) (T := TX3) (N := 9) (ci := 3) (k := 4) rfl inX3 (by decide) fl_X3_24 (by decide +kernel) tyX3 tyX3_ok nmX3 (by decide +kernel) rfl rfl (ty := .array .int) (by decide +kernel) (fun _ => ⟨rfl, rfl⟩) (by decide +kernel))⟩,
  List.forall_mem_cons.mpr ⟨⟨mo_al _ _, Or.inl (ok_aload_n (k := 0) rfl (by decide +kernel))⟩,
  List.forall_mem_cons.mpr ⟨⟨mo_ic _ _, Or.inl (ok_bipush (n := 100) (v := 100) (by decide) (by decide +kernel))⟩,
  List.forall_mem_cons.mpr ⟨⟨mo_newa _ _ _, Or.inl (ok_newi (am_in1 54 rfl rfl) (by decide +kernel))⟩,
  List.forall_mem_cons.mpr ⟨⟨mo_pr _ _ _ _, Or.inl (ok_prF (C := RX3) (T := TX3) (N := 9) (ci := 3) (k := 5) rfl inX3 (by decide) fl_X3_27 (by decide +kernel) tyX3 tyX3_ok nmX3 (by decide +kernel) rfl rfl (ty := .array .int) (by decide +kernel) (fun _ => ⟨rfl, rfl⟩) (by decide +kernel))⟩,
  List.forall_mem_cons.mpr ⟨⟨mo_al _ _, Or.inl (ok_aload_n (k := 0) rfl (by decide +kernel))⟩,
  List.forall_mem_cons.mpr ⟨⟨mo_ic _ _, Or.inl (ok_sipush (n := 300) (v := 300) (by decide) (by decide +kernel))⟩,
  List.forall_mem_cons.mpr ⟨⟨mo_newa _ _ _, Or.inl (ok_newi (am_in1 54 rfl rfl) (by decide +kernel))⟩,
  List.forall_mem_cons.mpr ⟨⟨mo_pr _ _ _ _, Or.inl (ok_prF (C := RX3) (T := TX3) (N := 9) (ci := 3) (k := 6) rfl inX3 (by decide) fl_X3_30 (by decide +kernel) tyX3 tyX3_ok nmX3 (by decide +kernel) rfl rfl (ty := .array .int) (by decide +kernel) (fun _ => ⟨rfl, rfl⟩) (by decide +kernel))⟩,
  List.forall_mem_cons.mpr ⟨⟨mo_al _ _, Or.inl (ok_aload_n (k := 0) rfl (by decide +kernel))⟩,
  List.forall_mem_cons.mpr ⟨⟨mo_ic _ _, Or.inl (ok_bipush (n := 100) (v := 100) (by decide) (by decide +kernel))⟩,
  List.forall_mem_cons.mpr ⟨⟨mo_newa _ _ _, Or.inl (ok_newi (am_in1 54 rfl rfl) (by decide +kernel))⟩,
  List.forall_mem_cons.mpr ⟨⟨mo_pr _ _ _ _, Or.inl (ok_prF (C := RX3) (T := TX3) (N := 9) (ci := 3) (k := 7) rfl inX3 (by decide) fl_X3_33 (by decide +kernel) tyX3 tyX3_ok nmX3 (by decide +kernel) rfl rfl (ty := .array .int) (by decide +kernel) (fun _ => ⟨rfl, rfl⟩) (by decide +kernel))⟩,
  List.forall_mem_cons.mpr ⟨⟨mo_ret0e, Or.inr (Or.inr (ok_ret0 rfl (by decide +kernel)))⟩,
  fun _ h => absurd h List.not_mem_nil⟩⟩⟩⟩⟩⟩⟩⟩⟩⟩⟩⟩⟩⟩⟩
def t_X3_init : List (Nat × am_F) := t_X3_init_0 ++ (t_X3_init_1)
theorem o_X3_init : ∀ q ∈ t_X3_init, am_ok vwCl q_SH ξ (q_E ξ β xs L) q_EN q_KD q_ML (cX3_init, 1, RX3, "<init>", none, []) q.1 q.2 := List.forall_mem_append.mpr ⟨o_X3_init_0, o_X3_init_1⟩
def t_X3_isKnown_0 : List (Nat × am_F) := [(0, im_al 0 1), (1, im_gr q_SH 3 4 4), (4, im_il 1 5), (5, im_ald q_SH .int 6), (6, im_il 2 7), (7, im_if2 ic_gt 34 10), (10, im_al 0 11), (11, im_gr q_SH 3 5 14), (14, im_il 1 15), (15, im_ald q_SH .int 16), (16, im_ic (-1) 17), (17, im_if2 ic_eq 30 20), (20, im_al 0 21), (21, im_gr q_SH 3 5 24), (24, im_il 1 25), (25, im_ald q_SH .int 26), (26, im_il 2 27), (27, im_if2 ic_le 34 30), (30, im_ic 1 31), (31, im_go 35)]
set_option maxRecDepth 20000 in
theorem o_X3_isKnown_0 : ∀ q ∈ t_X3_isKnown_0, am_ok vwCl q_SH ξ (q_E ξ β xs L) q_EN q_KD q_ML (cX3_isKnown, 3, RX3, "isKnown", (some .boolean), []) q.1 q.2 :=
  List.forall_mem_cons.mpr ⟨⟨mo_al _ _, Or.inl (ok_aload_n (k := 0) rfl (by decide +kernel))⟩,
  List.forall_mem_cons.mpr ⟨⟨mo_gr _ _ _ _, Or.inl (ok_gr (C := RX3) (T := TX3) (N := 9) (ci := 3) (k := 4) rfl inX3 (by decide) fl_X3_24 (by decide +kernel) (by decide +kernel))⟩,
  List.forall_mem_cons.mpr ⟨⟨mo_il _ _, Or.inl (ok_iload_n (k := 1) rfl (by decide +kernel))⟩,
  List.forall_mem_cons.mpr ⟨⟨mo_ald _ _ _, Or.inl (ok_iald (by decide +kernel))⟩,
  List.forall_mem_cons.mpr ⟨⟨mo_il _ _, Or.inl (ok_iload_n (k := 2) rfl (by decide +kernel))⟩,
  List.forall_mem_cons.mpr ⟨⟨mo_if2 _ _ _, Or.inl (ok_icmp_gt (off := 27) (by decide) (by decide +kernel))⟩,
  List.forall_mem_cons.mpr ⟨⟨mo_al _ _, Or.inl (ok_aload_n (k := 0) rfl (by decide +kernel))⟩,
  List.forall_mem_cons.mpr ⟨⟨mo_gr _ _ _ _, Or.inl (ok_gr (C := RX3) (T := TX3) (N := 9) (ci := 3) (k := 5) rfl inX3 (by decide) fl_X3_27 (by decide +kernel) (by decide +kernel))⟩,
  List.forall_mem_cons.mpr ⟨⟨mo_il _ _, Or.inl (ok_iload_n (k := 1) rfl (by decide +kernel))⟩,
  List.forall_mem_cons.mpr ⟨⟨mo_ald _ _ _, Or.inl (ok_iald (by decide +kernel))⟩,
  List.forall_mem_cons.mpr ⟨⟨mo_ic _ _, Or.inl (ok_iconst (n := (-1)) (v := (-1)) (by decide) (by decide +kernel))⟩,
  List.forall_mem_cons.mpr ⟨⟨mo_if2 _ _ _, Or.inl (ok_icmp_eq (off := 13) (by decide) (by decide +kernel))⟩,
  List.forall_mem_cons.mpr ⟨⟨mo_al _ _, Or.inl (ok_aload_n (k := 0) rfl (by decide +kernel))⟩,
  List.forall_mem_cons.mpr ⟨⟨mo_gr _ _ _ _, Or.inl (ok_gr (C := RX3) (T := TX3) (N := 9) (ci := 3) (k := 5) rfl inX3 (by decide) fl_X3_27 (by decide +kernel) (by decide +kernel))⟩,
  List.forall_mem_cons.mpr ⟨⟨mo_il _ _, Or.inl (ok_iload_n (k := 1) rfl (by decide +kernel))⟩,
  List.forall_mem_cons.mpr ⟨⟨mo_ald _ _ _, Or.inl (ok_iald (by decide +kernel))⟩,
  List.forall_mem_cons.mpr ⟨⟨mo_il _ _, Or.inl (ok_iload_n (k := 2) rfl (by decide +kernel))⟩,
  List.forall_mem_cons.mpr ⟨⟨mo_if2 _ _ _, Or.inl (ok_icmp_le (off := 7) (by decide) (by decide +kernel))⟩,
  List.forall_mem_cons.mpr ⟨⟨mo_ic _ _, Or.inl (ok_iconst (n := 1) (v := 1) (by decide) (by decide +kernel))⟩,
  List.forall_mem_cons.mpr ⟨⟨mo_go _, Or.inl (ok_goto (off := 4) (by decide) (by decide +kernel))⟩,
  fun _ h => absurd h List.not_mem_nil⟩⟩⟩⟩⟩⟩⟩⟩⟩⟩⟩⟩⟩⟩⟩⟩⟩⟩⟩⟩
def t_X3_isKnown_1 : List (Nat × am_F) := [(34, im_ic 0 35), (35, im_retz)]
set_option maxRecDepth 20000 in
theorem o_X3_isKnown_1 : ∀ q ∈ t_X3_isKnown_1, am_ok vwCl q_SH ξ (q_E ξ β xs L) q_EN q_KD q_ML (cX3_isKnown, 3, RX3, "isKnown", (some .boolean), []) q.1 q.2 :=
  List.forall_mem_cons.mpr ⟨⟨mo_ic _ _, Or.inl (ok_iconst (n := 0) (v := 0) (by decide) (by decide +kernel))⟩,
  List.forall_mem_cons.mpr ⟨⟨mo_retz, Or.inr (Or.inr (ok_retz rfl (by decide +kernel)))⟩,
  fun _ h => absurd h List.not_mem_nil⟩⟩
def t_X3_isKnown : List (Nat × am_F) := t_X3_isKnown_0 ++ (t_X3_isKnown_1)
theorem o_X3_isKnown : ∀ q ∈ t_X3_isKnown, am_ok vwCl q_SH ξ (q_E ξ β xs L) q_EN q_KD q_ML (cX3_isKnown, 3, RX3, "isKnown", (some .boolean), []) q.1 q.2 := List.forall_mem_append.mpr ⟨o_X3_isKnown_0, o_X3_isKnown_1⟩
def t_X3_couldBeOn_0 : List (Nat × am_F) := [(0, im_ic 0 1), (1, im_is 3 2), (2, im_il 3 3), (3, im_al 0 4), (4, im_gr q_SH 3 7 7), (7, im_il 1 8), (8, im_ald q_SH .int 9), (9, im_if2 ic_ge 34 12), (12, im_al 0 13), (13, im_gr q_SH 3 6 16), (16, im_il 1 17), (17, im_ic 3 18), (18, im_bin (fun x y => x * y) 19), (19, im_il 3 20), (20, im_bin (fun x y => x + y) 21), (21, im_ald q_SH .int 22), (22, im_il 2 23), (23, im_if2 ic_ne 28 26), (26, im_ic 1 27), (27, im_retz)]
set_option maxRecDepth 20000 in
theorem o_X3_couldBeOn_0 : ∀ q ∈ t_X3_couldBeOn_0, am_ok vwCl q_SH ξ (q_E ξ β xs L) q_EN q_KD q_ML (cX3_couldBeOn, 4, RX3, "couldBeOn", (some .boolean), []) q.1 q.2 :=
  List.forall_mem_cons.mpr ⟨⟨mo_ic _ _, Or.inl (ok_iconst (n := 0) (v := 0) (by decide) (by decide +kernel))⟩,
  List.forall_mem_cons.mpr ⟨⟨mo_is _ _, Or.inl (ok_istore_n (k := 3) rfl (by decide) (by decide +kernel))⟩,
  List.forall_mem_cons.mpr ⟨⟨mo_il _ _, Or.inl (ok_iload_n (k := 3) rfl (by decide +kernel))⟩,
  List.forall_mem_cons.mpr ⟨⟨mo_al _ _, Or.inl (ok_aload_n (k := 0) rfl (by decide +kernel))⟩,
  List.forall_mem_cons.mpr ⟨⟨mo_gr _ _ _ _, Or.inl (ok_gr (C := RX3) (T := TX3) (N := 9) (ci := 3) (k := 7) rfl inX3 (by decide) fl_X3_33 (by decide +kernel) (by decide +kernel))⟩,
  List.forall_mem_cons.mpr ⟨⟨mo_il _ _, Or.inl (ok_iload_n (k := 1) rfl (by decide +kernel))⟩,
  List.forall_mem_cons.mpr ⟨⟨mo_ald _ _ _, Or.inl (ok_iald (by decide +kernel))⟩,
  List.forall_mem_cons.mpr ⟨⟨mo_if2 _ _ _, Or.inl (ok_icmp_ge (off := 25) (by decide) (by decide +kernel))⟩,
  List.forall_mem_cons.mpr ⟨⟨mo_al _ _, Or.inl (ok_aload_n (k := 0) rfl (by decide +kernel))⟩,
  List.forall_mem_cons.mpr ⟨⟨mo_gr _ _ _ _, Or.inl (ok_gr (C := RX3) (T := TX3) (N := 9) (ci := 3) (k := 6) rfl inX3 (by decide) fl_X3_30 (by decide +kernel) (by decide +kernel))⟩,
  List.forall_mem_cons.mpr ⟨⟨mo_il _ _, Or.inl (ok_iload_n (k := 1) rfl (by decide +kernel))⟩,
  List.forall_mem_cons.mpr ⟨⟨mo_ic _ _, Or.inl (ok_iconst (n := 3) (v := 3) (by decide) (by decide +kernel))⟩,
  List.forall_mem_cons.mpr ⟨⟨mo_bin _ _, Or.inl (ok_imul (by decide +kernel))⟩,
  List.forall_mem_cons.mpr ⟨⟨mo_il _ _, Or.inl (ok_iload_n (k := 3) rfl (by decide +kernel))⟩,
  List.forall_mem_cons.mpr ⟨⟨mo_bin _ _, Or.inl (ok_iadd (by decide +kernel))⟩,
  List.forall_mem_cons.mpr ⟨⟨mo_ald _ _ _, Or.inl (ok_iald (by decide +kernel))⟩,
  List.forall_mem_cons.mpr ⟨⟨mo_il _ _, Or.inl (ok_iload_n (k := 2) rfl (by decide +kernel))⟩,
  List.forall_mem_cons.mpr ⟨⟨mo_if2 _ _ _, Or.inl (ok_icmp_ne (off := 5) (by decide) (by decide +kernel))⟩,
  List.forall_mem_cons.mpr ⟨⟨mo_ic _ _, Or.inl (ok_iconst (n := 1) (v := 1) (by decide) (by decide +kernel))⟩,
  List.forall_mem_cons.mpr ⟨⟨mo_retz, Or.inr (Or.inr (ok_retz rfl (by decide +kernel)))⟩,
  fun _ h => absurd h List.not_mem_nil⟩⟩⟩⟩⟩⟩⟩⟩⟩⟩⟩⟩⟩⟩⟩⟩⟩⟩⟩⟩
def t_X3_couldBeOn_1 : List (Nat × am_F) := [(28, im_iinc 3 1 31), (31, im_go 2), (34, im_ic 0 35), (35, im_retz)]
set_option maxRecDepth 20000 in
theorem o_X3_couldBeOn_1 : ∀ q ∈ t_X3_couldBeOn_1, am_ok vwCl q_SH ξ (q_E ξ β xs L) q_EN q_KD q_ML (cX3_couldBeOn, 4, RX3, "couldBeOn", (some .boolean), []) q.1 q.2 :=
  List.forall_mem_cons.mpr ⟨⟨mo_iinc _ _ _, Or.inl (ok_iinc (n := 1) (v := 1) (by decide) (by decide) (by decide +kernel))⟩,
  List.forall_mem_cons.mpr ⟨⟨mo_go _, Or.inl (ok_goto (off := (-29)) (by decide) (by decide +kernel))⟩,
  List.forall_mem_cons.mpr ⟨⟨mo_ic _ _, Or.inl (ok_iconst (n := 0) (v := 0) (by decide) (by decide +kernel))⟩,
  List.forall_mem_cons.mpr ⟨⟨mo_retz, Or.inr (Or.inr (ok_retz rfl (by decide +kernel)))⟩,
  fun _ h => absurd h List.not_mem_nil⟩⟩⟩⟩
def t_X3_couldBeOn : List (Nat × am_F) := t_X3_couldBeOn_0 ++ (t_X3_couldBeOn_1)
theorem o_X3_couldBeOn : ∀ q ∈ t_X3_couldBeOn, am_ok vwCl q_SH ξ (q_E ξ β xs L) q_EN q_KD q_ML (cX3_couldBeOn, 4, RX3, "couldBeOn", (some .boolean), []) q.1 q.2 := List.forall_mem_append.mpr ⟨o_X3_couldBeOn_0, o_X3_couldBeOn_1⟩
def t_X4_init_0 : List (Nat × am_F) := [(0, im_al 0 1), (1, im_obj 4), (4, im_ret0e)]
set_option maxRecDepth 20000 in
theorem o_X4_init_0 : ∀ q ∈ t_X4_init_0, am_ok vwCl q_SH ξ (q_E ξ β xs L) q_EN q_KD q_ML (cX4_init, 1, RX4, "<init>", none, []) q.1 q.2 :=
  List.forall_mem_cons.mpr ⟨⟨mo_al _ _, Or.inl (ok_aload_n (k := 0) rfl (by decide +kernel))⟩,
  List.forall_mem_cons.mpr ⟨⟨mo_obj _, Or.inl (ok_obj (am_in2 77 rfl rfl) (am_in1 33 rfl rfl) (am_in1 34 rfl rfl) (by decide +kernel))⟩,
  List.forall_mem_cons.mpr ⟨⟨mo_ret0e, Or.inr (Or.inr (ok_ret0 rfl (by decide +kernel)))⟩,
  fun _ h => absurd h List.not_mem_nil⟩⟩⟩
def t_X4_init : List (Nat × am_F) := t_X4_init_0
theorem o_X4_init : ∀ q ∈ t_X4_init, am_ok vwCl q_SH ξ (q_E ξ β xs L) q_EN q_KD q_ML (cX4_init, 1, RX4, "<init>", none, []) q.1 q.2 := o_X4_init_0
def t_X5_init_0 : List (Nat × am_F) := [(0, im_al 0 1), (1, im_obj 4), (4, im_al 0 5), (5, im_ic 100 7), (7, im_newa q_SH .int 9), (9, im_pr q_SH 5 0 12), (12, im_al 0 13), (13, im_ic 100 15), (15, im_newa q_SH .int 17), (17, im_pr q_SH 5 1 20), (20, im_al 0 21), (21, im_ic 100 23), (23, im_newa q_SH .int 25), (25, im_pr q_SH 5 2 28), (28, im_al 0 29), (29, im_ic 448 32), (32, im_newa q_SH .int 34), (34, im_pr q_SH 5 3 37), (37, im_ret0e)]
set_option maxRecDepth 20000 in
theorem o_X5_init_0 : ∀ q ∈ t_X5_init_0, am_ok vwCl q_SH ξ (q_E ξ β xs L) q_EN q_KD q_ML (cX5_init, 1, RX5, "<init>", none, []) q.1 q.2 :=
  List.forall_mem_cons.mpr ⟨⟨mo_al _ _, Or.inl (ok_aload_n (k := 0) rfl (by decide +kernel))⟩,
  List.forall_mem_cons.mpr ⟨⟨mo_obj _, Or.inl (ok_obj (am_in2 120 rfl rfl) (am_in1 33 rfl rfl) (am_in1 34 rfl rfl) (by decide +kernel))⟩,
  List.forall_mem_cons.mpr ⟨⟨mo_al _ _, Or.inl (ok_aload_n (k := 0) rfl (by decide +kernel))⟩,
  List.forall_mem_cons.mpr ⟨⟨mo_ic _ _, Or.inl (ok_bipush (n := 100) (v := 100) (by decide) (by decide +kernel))⟩,
  List.forall_mem_cons.mpr ⟨⟨mo_newa _ _ _, Or.inl (ok_newi (am_in1 54 rfl rfl) (by decide +kernel))⟩,
  List.forall_mem_cons.mpr ⟨⟨mo_pr _ _ _ _, Or.inl (ok_prF (C := RX5) (T := TX5) (N := 5) (ci := 5) (k := 0) rfl inX5 (by decide) fl_X5_9 (by decide +kernel) tyX5 tyX5_ok nmX5 (by decide +kernel) rfl rfl (ty := .array .int) (by decide +kernel) (fun _ => ⟨rfl, rfl⟩) (by decide +kernel))⟩,
  List.forall_mem_cons.mpr ⟨⟨mo_al _ _, Or.inl (ok_aload_n (k := 0) rfl (by decide +kernel))⟩,
  List.forall_mem_cons.mpr ⟨⟨mo_ic _ _, Or.inl (ok_bipush (n := 100) (v := 100) (by decide) (by decide +kernel))⟩,
  List.forall_mem_cons.mpr ⟨⟨mo_newa _ _ _, Or.inl (ok_newi (am_in1 54 rfl rfl) (by decide +kernel))⟩,
  List.forall_mem_cons.mpr ⟨⟨mo_pr _ _ _ _, Or.inl (ok_prF (C := RX5) (T := TX5) (N := 5) (ci := 5) (k := 1) rfl inX5 (by decide) fl_X5_15 (by decide +kernel) tyX5 tyX5_ok nmX5 (by decide +kernel) rfl rfl (ty := .array .int) (by decide +kernel) (fun _ => ⟨rfl, rfl⟩) (by decide +kernel))⟩,
  List.forall_mem_cons.mpr ⟨⟨mo_al _ _, Or.inl (ok_aload_n (k := 0) rfl (by decide +kernel))⟩,
  List.forall_mem_cons.mpr ⟨⟨mo_ic _ _, Or.inl (ok_bipush (n := 100) (v := 100) (by decide) (by decide +kernel))⟩,
  List.forall_mem_cons.mpr ⟨⟨mo_newa _ _ _, Or.inl (ok_newi (am_in1 54 rfl rfl) (by decide +kernel))⟩,
  List.forall_mem_cons.mpr ⟨⟨mo_pr _ _ _ _, Or.inl (ok_prF (C := RX5) (T := TX5) (N := 5) (ci := 5) (k := 2) rfl inX5 (by decide) fl_X5_18 (by decide +kernel) tyX5 tyX5_ok nmX5 (by decide +kernel) rfl rfl (ty := .array .int) (by decide +kernel) (fun _ => ⟨rfl, rfl⟩) (by decide +kernel))⟩,
  List.forall_mem_cons.mpr ⟨⟨mo_al _ _, Or.inl (ok_aload_n (k := 0) rfl (by decide +kernel))⟩,
  List.forall_mem_cons.mpr ⟨⟨mo_ic _ _, Or.inl (ok_sipush (n := 448) (v := 448) (by decide) (by decide +kernel))⟩,
  List.forall_mem_cons.mpr ⟨⟨mo_newa _ _ _, Or.inl (ok_newi (am_in1 54 rfl rfl) (by decide +kernel))⟩,
  List.forall_mem_cons.mpr ⟨⟨mo_pr _ _ _ _, Or.inl (ok_pr (C := RX5) (T := TX5) (N := 5) (ci := 5) (k := 3) rfl inX5 (by decide) fl_X5_21 (by decide +kernel) tyX5 tyX5_ok nmX5 (by decide +kernel) (ty := .array .int) (by decide +kernel) (fun _ => ⟨rfl, rfl⟩) (by decide +kernel))⟩,
  List.forall_mem_cons.mpr ⟨⟨mo_ret0e, Or.inr (Or.inr (ok_ret0 rfl (by decide +kernel)))⟩,
  fun _ h => absurd h List.not_mem_nil⟩⟩⟩⟩⟩⟩⟩⟩⟩⟩⟩⟩⟩⟩⟩⟩⟩⟩⟩
def t_X5_init : List (Nat × am_F) := t_X5_init_0
theorem o_X5_init : ∀ q ∈ t_X5_init, am_ok vwCl q_SH ξ (q_E ξ β xs L) q_EN q_KD q_ML (cX5_init, 1, RX5, "<init>", none, []) q.1 q.2 := o_X5_init_0
def t_X5_clear_0 : List (Nat × am_F) := [(0, im_al 0 1), (1, im_ic 0 2), (2, im_pi q_SH 5 4 5), (5, im_al 0 6), (6, im_gr q_SH 5 0 9), (9, im_ic (-1) 10), (10, im_invs 201 2 13), (13, im_al 0 14), (14, im_gr q_SH 5 1 17), (17, im_ic 0 18), (18, im_invs 201 2 21), (21, im_al 0 22), (22, im_gr q_SH 5 2 25), (25, im_ic 0 26), (26, im_invs 201 2 29), (29, im_ret0e)]
set_option maxRecDepth 20000 in
theorem o_X5_clear_0 : ∀ q ∈ t_X5_clear_0, am_ok vwCl q_SH ξ (q_E ξ β xs L) q_EN q_KD q_ML (cX5_clear, 1, RX5, "clear", none, []) q.1 q.2 :=
  List.forall_mem_cons.mpr ⟨⟨mo_al _ _, Or.inl (ok_aload_n (k := 0) rfl (by decide +kernel))⟩,
  List.forall_mem_cons.mpr ⟨⟨mo_ic _ _, Or.inl (ok_iconst (n := 0) (v := 0) (by decide) (by decide +kernel))⟩,
  List.forall_mem_cons.mpr ⟨⟨mo_pi _ _ _ _, Or.inl (ok_pi (ty := .int) (C := RX5) (T := TX5) (N := 5) (ci := 5) (k := 4) rfl inX5 (by decide) fl_X5_24 (by decide +kernel) tyX5 tyX5_ok nmX5 (by decide +kernel) (by decide +kernel) (by decide +kernel))⟩,
  List.forall_mem_cons.mpr ⟨⟨mo_al _ _, Or.inl (ok_aload_n (k := 0) rfl (by decide +kernel))⟩,
  List.forall_mem_cons.mpr ⟨⟨mo_gr _ _ _ _, Or.inl (ok_gr (C := RX5) (T := TX5) (N := 5) (ci := 5) (k := 0) rfl inX5 (by decide) fl_X5_9 (by decide +kernel) (by decide +kernel))⟩,
  List.forall_mem_cons.mpr ⟨⟨mo_ic _ _, Or.inl (ok_iconst (n := (-1)) (v := (-1)) (by decide) (by decide +kernel))⟩,
  List.forall_mem_cons.mpr ⟨⟨mo_invs _ _ _, Or.inr (Or.inl (ok_invs cw_J7_fill_53178 (by decide) (by decide) ml_X5_28 cs_J7_fill_53178 (show Cond.initialized (yJ7_fill_53178).cls ∈ am_ts from ci9_RJ7) ⟨by decide +kernel, by decide +kernel, by decide +kernel⟩ rfl (by decide +kernel)))⟩,
  List.forall_mem_cons.mpr ⟨⟨mo_al _ _, Or.inl (ok_aload_n (k := 0) rfl (by decide +kernel))⟩,
  List.forall_mem_cons.mpr ⟨⟨mo_gr _ _ _ _, Or.inl (ok_gr (C := RX5) (T := TX5) (N := 5) (ci := 5) (k := 1) rfl inX5 (by decide) fl_X5_15 (by decide +kernel) (by decide +kernel))⟩,
  List.forall_mem_cons.mpr ⟨⟨mo_ic _ _, Or.inl (ok_iconst (n := 0) (v := 0) (by decide) (by decide +kernel))⟩,
  List.forall_mem_cons.mpr ⟨⟨mo_invs _ _ _, Or.inr (Or.inl (ok_invs cw_J7_fill_53178 (by decide) (by decide) ml_X5_28 cs_J7_fill_53178 (show Cond.initialized (yJ7_fill_53178).cls ∈ am_ts from ci9_RJ7) ⟨by decide +kernel, by decide +kernel, by decide +kernel⟩ rfl (by decide +kernel)))⟩,
  List.forall_mem_cons.mpr ⟨⟨mo_al _ _, Or.inl (ok_aload_n (k := 0) rfl (by decide +kernel))⟩,
  List.forall_mem_cons.mpr ⟨⟨mo_gr _ _ _ _, Or.inl (ok_gr (C := RX5) (T := TX5) (N := 5) (ci := 5) (k := 2) rfl inX5 (by decide) fl_X5_18 (by decide +kernel) (by decide +kernel))⟩,
  List.forall_mem_cons.mpr ⟨⟨mo_ic _ _, Or.inl (ok_iconst (n := 0) (v := 0) (by decide) (by decide +kernel))⟩,
  List.forall_mem_cons.mpr ⟨⟨mo_invs _ _ _, Or.inr (Or.inl (ok_invs cw_J7_fill_53178 (by decide) (by decide) ml_X5_28 cs_J7_fill_53178 (show Cond.initialized (yJ7_fill_53178).cls ∈ am_ts from ci9_RJ7) ⟨by decide +kernel, by decide +kernel, by decide +kernel⟩ rfl (by decide +kernel)))⟩,
  List.forall_mem_cons.mpr ⟨⟨mo_ret0e, Or.inr (Or.inr (ok_ret0 rfl (by decide +kernel)))⟩,
  fun _ h => absurd h List.not_mem_nil⟩⟩⟩⟩⟩⟩⟩⟩⟩⟩⟩⟩⟩⟩⟩⟩
def t_X5_clear : List (Nat × am_F) := t_X5_clear_0
theorem o_X5_clear : ∀ q ∈ t_X5_clear, am_ok vwCl q_SH ξ (q_E ξ β xs L) q_EN q_KD q_ML (cX5_clear, 1, RX5, "clear", none, []) q.1 q.2 := o_X5_clear_0
def t_X5_gain_0 : List (Nat × am_F) := [(0, im_al 0 1), (1, im_gi q_SH 5 4 4), (4, im_ic 7 6), (6, im_bin (fun x y => x * y) 7), (7, im_is 8 9), (9, im_il 8 11), (11, im_ic 7 13), (13, im_bin (fun x y => x + y) 14), (14, im_al 0 15), (15, im_gr q_SH 5 3 18), (18, im_alen q_SH .int 19), (19, im_if2 ic_le 40 22), (22, im_al 0 23), (23, im_al 0 24), (24, im_gr q_SH 5 3 27), (27, im_al 0 28), (28, im_gr q_SH 5 3 31), (31, im_alen q_SH .int 32), (32, im_ic 2 33), (33, im_bin (fun x y => x * y) 34)]
set_option maxRecDepth 20000 in
theorem o_X5_gain_0 : ∀ q ∈ t_X5_gain_0, am_ok vwCl q_SH ξ (q_E ξ β xs L) q_EN q_KD q_ML (cX5_gain, 9, RX5, "gain", (some .int), []) q.1 q.2 :=
  List.forall_mem_cons.mpr ⟨⟨mo_al _ _, Or.inl (ok_aload_n (k := 0) rfl (by decide +kernel))⟩,
  List.forall_mem_cons.mpr ⟨⟨mo_gi _ _ _ _, Or.inl (ok_gi (C := RX5) (T := TX5) (N := 5) (ci := 5) (k := 4) rfl inX5 (by decide) fl_X5_24 (by decide +kernel) (by decide +kernel))⟩,
  List.forall_mem_cons.mpr ⟨⟨mo_ic _ _, Or.inl (ok_bipush (n := 7) (v := 7) (by decide) (by decide +kernel))⟩,
  List.forall_mem_cons.mpr ⟨⟨mo_bin _ _, Or.inl (ok_imul (by decide +kernel))⟩,
  List.forall_mem_cons.mpr ⟨⟨mo_is _ _, Or.inl (ok_istore (by decide) (by decide +kernel))⟩,
  List.forall_mem_cons.mpr ⟨⟨mo_il _ _, Or.inl (ok_iload (by decide +kernel))⟩,
  List.forall_mem_cons.mpr ⟨⟨mo_ic _ _, Or.inl (ok_bipush (n := 7) (v := 7) (by decide) (by decide +kernel))⟩,
  List.forall_mem_cons.mpr ⟨⟨mo_bin _ _, Or.inl (ok_iadd (by decide +kernel))⟩,
  List.forall_mem_cons.mpr ⟨⟨mo_al _ _, Or.inl (ok_aload_n (k := 0) rfl (by decide +kernel))⟩,
  List.forall_mem_cons.mpr ⟨⟨mo_gr _ _ _ _, Or.inl (ok_gr (C := RX5) (T := TX5) (N := 5) (ci := 5) (k := 3) rfl inX5 (by decide) fl_X5_21 (by decide +kernel) (by decide +kernel))⟩,
  List.forall_mem_cons.mpr ⟨⟨mo_alen _ _ _, Or.inl (ok_alen (by decide +kernel))⟩,
  List.forall_mem_cons.mpr ⟨⟨mo_if2 _ _ _, Or.inl (ok_icmp_le (off := 21) (by decide) (by decide +kernel))⟩,
  List.forall_mem_cons.mpr ⟨⟨mo_al _ _, Or.inl (ok_aload_n (k := 0) rfl (by decide +kernel))⟩,
  List.forall_mem_cons.mpr ⟨⟨mo_al _ _, Or.inl (ok_aload_n (k := 0) rfl (by decide +kernel))⟩,
  List.forall_mem_cons.mpr ⟨⟨mo_gr _ _ _ _, Or.inl (ok_gr (C := RX5) (T := TX5) (N := 5) (ci := 5) (k := 3) rfl inX5 (by decide) fl_X5_21 (by decide +kernel) (by decide +kernel))⟩,
  List.forall_mem_cons.mpr ⟨⟨mo_al _ _, Or.inl (ok_aload_n (k := 0) rfl (by decide +kernel))⟩,
  List.forall_mem_cons.mpr ⟨⟨mo_gr _ _ _ _, Or.inl (ok_gr (C := RX5) (T := TX5) (N := 5) (ci := 5) (k := 3) rfl inX5 (by decide) fl_X5_21 (by decide +kernel) (by decide +kernel))⟩,
  List.forall_mem_cons.mpr ⟨⟨mo_alen _ _ _, Or.inl (ok_alen (by decide +kernel))⟩,
  List.forall_mem_cons.mpr ⟨⟨mo_ic _ _, Or.inl (ok_iconst (n := 2) (v := 2) (by decide) (by decide +kernel))⟩,
  List.forall_mem_cons.mpr ⟨⟨mo_bin _ _, Or.inl (ok_imul (by decide +kernel))⟩,
  fun _ h => absurd h List.not_mem_nil⟩⟩⟩⟩⟩⟩⟩⟩⟩⟩⟩⟩⟩⟩⟩⟩⟩⟩⟩⟩
def t_X5_gain_1 : List (Nat × am_F) := [(34, im_invs 202 2 37), (37, im_pr q_SH 5 3 40), (40, im_al 0 41), (41, im_gr q_SH 5 3 44), (44, im_il 8 46), (46, im_il 1 47), (47, im_ast q_SH .int (fun x => x) 48), (48, im_al 0 49), (49, im_gr q_SH 5 3 52), (52, im_il 8 54), (54, im_ic 1 55), (55, im_bin (fun x y => x + y) 56), (56, im_il 3 57), (57, im_ast q_SH .int (fun x => x) 58), (58, im_al 0 59), (59, im_gr q_SH 5 3 62), (62, im_il 8 64), (64, im_ic 2 65), (65, im_bin (fun x y => x + y) 66), (66, im_il 4 68)]
set_option maxRecDepth 20000 in
theorem o_X5_gain_1 : ∀ q ∈ t_X5_gain_1, am_ok vwCl q_SH ξ (q_E ξ β xs L) q_EN q_KD q_ML (cX5_gain, 9, RX5, "gain", (some .int), []) q.1 q.2 :=
  List.forall_mem_cons.mpr ⟨⟨mo_invs _ _ _, Or.inr (Or.inl (ok_invs cw_J7_copyOf_59c91 (by decide) (by decide) ml_X5_34 cs_J7_copyOf_59c91 (show Cond.initialized (yJ7_copyOf_59c91).cls ∈ am_ts from ci9_RJ7) ⟨by decide +kernel, by decide +kernel, by decide +kernel⟩ rfl (by decide +kernel)))⟩,
  List.forall_mem_cons.mpr ⟨⟨mo_pr _ _ _ _, Or.inl (ok_pr (C := RX5) (T := TX5) (N := 5) (ci := 5) (k := 3) rfl inX5 (by decide) fl_X5_21 (by decide +kernel) tyX5 tyX5_ok nmX5 (by decide +kernel) (ty := .array .int) (by decide +kernel) (fun _ => ⟨rfl, rfl⟩) (by decide +kernel))⟩,
  List.forall_mem_cons.mpr ⟨⟨mo_al _ _, Or.inl (ok_aload_n (k := 0) rfl (by decide +kernel))⟩,
  List.forall_mem_cons.mpr ⟨⟨mo_gr _ _ _ _, Or.inl (ok_gr (C := RX5) (T := TX5) (N := 5) (ci := 5) (k := 3) rfl inX5 (by decide) fl_X5_21 (by decide +kernel) (by decide +kernel))⟩,
  List.forall_mem_cons.mpr ⟨⟨mo_il _ _, Or.inl (ok_iload (by decide +kernel))⟩,
  List.forall_mem_cons.mpr ⟨⟨mo_il _ _, Or.inl (ok_iload_n (k := 1) rfl (by decide +kernel))⟩,
  List.forall_mem_cons.mpr ⟨⟨mo_ast _ _ _ _, Or.inl (ok_iast (by decide +kernel))⟩,
  List.forall_mem_cons.mpr ⟨⟨mo_al _ _, Or.inl (ok_aload_n (k := 0) rfl (by decide +kernel))⟩,
  List.forall_mem_cons.mpr ⟨⟨mo_gr _ _ _ _, Or.inl (ok_gr (C := RX5) (T := TX5) (N := 5) (ci := 5) (k := 3) rfl inX5 (by decide) fl_X5_21 (by decide +kernel) (by decide +kernel))⟩,
  List.forall_mem_cons.mpr ⟨⟨mo_il _ _, Or.inl (ok_iload (by decide +kernel))⟩,
  List.forall_mem_cons.mpr ⟨⟨mo_ic _ _, Or.inl (ok_iconst (n := 1) (v := 1) (by decide) (by decide +kernel))⟩,
  List.forall_mem_cons.mpr ⟨⟨mo_bin _ _, Or.inl (ok_iadd (by decide +kernel))⟩,
  List.forall_mem_cons.mpr ⟨⟨mo_il _ _, Or.inl (ok_iload_n (k := 3) rfl (by decide +kernel))⟩,
  List.forall_mem_cons.mpr ⟨⟨mo_ast _ _ _ _, Or.inl (ok_iast (by decide +kernel))⟩,
  List.forall_mem_cons.mpr ⟨⟨mo_al _ _, Or.inl (ok_aload_n (k := 0) rfl (by decide +kernel))⟩,
  List.forall_mem_cons.mpr ⟨⟨mo_gr _ _ _ _, Or.inl (ok_gr (C := RX5) (T := TX5) (N := 5) (ci := 5) (k := 3) rfl inX5 (by decide) fl_X5_21 (by decide +kernel) (by decide +kernel))⟩,
  List.forall_mem_cons.mpr ⟨⟨mo_il _ _, Or.inl (ok_iload (by decide +kernel))⟩,
  List.forall_mem_cons.mpr ⟨⟨mo_ic _ _, Or.inl (ok_iconst (n := 2) (v := 2) (by decide) (by decide +kernel))⟩,
  List.forall_mem_cons.mpr ⟨⟨mo_bin _ _, Or.inl (ok_iadd (by decide +kernel))⟩,
  List.forall_mem_cons.mpr ⟨⟨mo_il _ _, Or.inl (ok_iload (by decide +kernel))⟩,
  fun _ h => absurd h List.not_mem_nil⟩⟩⟩⟩⟩⟩⟩⟩⟩⟩⟩⟩⟩⟩⟩⟩⟩⟩⟩⟩
def t_X5_gain_2 : List (Nat × am_F) := [(68, im_ic 12 70), (70, im_div (fun x y => x / y) 71), (71, im_ast q_SH .int (fun x => x) 72), (72, im_al 0 73), (73, im_gr q_SH 5 3 76), (76, im_il 8 78), (78, im_ic 3 79), (79, im_bin (fun x y => x + y) 80), (80, im_il 4 82), (82, im_ic 12 84), (84, im_div (fun x y => x - x / y * y) 85), (85, im_ast q_SH .int (fun x => x) 86), (86, im_al 0 87), (87, im_gr q_SH 5 3 90), (90, im_il 8 92), (92, im_ic 4 93), (93, im_bin (fun x y => x + y) 94), (94, im_il 5 96), (96, im_ast q_SH .int (fun x => x) 97), (97, im_al 0 98)]
set_option maxRecDepth 20000 in
theorem o_X5_gain_2 : ∀ q ∈ t_X5_gain_2, am_ok vwCl q_SH ξ (q_E ξ β xs L) q_EN q_KD q_ML (cX5_gain, 9, RX5, "gain", (some .int), []) q.1 q.2 :=
  List.forall_mem_cons.mpr ⟨⟨mo_ic _ _, Or.inl (ok_bipush (n := 12) (v := 12) (by decide) (by decide +kernel))⟩,
  List.forall_mem_cons.mpr ⟨⟨mo_div _ _, Or.inl (ok_idiv (by decide +kernel))⟩,
  List.forall_mem_cons.mpr ⟨⟨mo_ast _ _ _ _, Or.inl (ok_iast (by decide +kernel))⟩,
  List.forall_mem_cons.mpr ⟨⟨mo_al _ _, Or.inl (ok_aload_n (k := 0) rfl (by decide +kernel))⟩,
  List.forall_mem_cons.mpr ⟨⟨mo_gr _ _ _ _, Or.inl (ok_gr (C := RX5) (T := TX5) (N := 5) (ci := 5) (k := 3) rfl inX5 (by decide) fl_X5_21 (by decide +kernel) (by decide +kernel))⟩,
  List.forall_mem_cons.mpr ⟨⟨mo_il _ _, Or.inl (ok_iload (by decide +kernel))⟩,
  List.forall_mem_cons.mpr ⟨⟨mo_ic _ _, Or.inl (ok_iconst (n := 3) (v := 3) (by decide) (by decide +kernel))⟩,
  List.forall_mem_cons.mpr ⟨⟨mo_bin _ _, Or.inl (ok_iadd (by decide +kernel))⟩,
  List.forall_mem_cons.mpr ⟨⟨mo_il _ _, Or.inl (ok_iload (by decide +kernel))⟩,
  List.forall_mem_cons.mpr ⟨⟨mo_ic _ _, Or.inl (ok_bipush (n := 12) (v := 12) (by decide) (by decide +kernel))⟩,
  List.forall_mem_cons.mpr ⟨⟨mo_div _ _, Or.inl (ok_irem (by decide +kernel))⟩,
  List.forall_mem_cons.mpr ⟨⟨mo_ast _ _ _ _, Or.inl (ok_iast (by decide +kernel))⟩,
  List.forall_mem_cons.mpr ⟨⟨mo_al _ _, Or.inl (ok_aload_n (k := 0) rfl (by decide +kernel))⟩,
  List.forall_mem_cons.mpr ⟨⟨mo_gr _ _ _ _, Or.inl (ok_gr (C := RX5) (T := TX5) (N := 5) (ci := 5) (k := 3) rfl inX5 (by decide) fl_X5_21 (by decide +kernel) (by decide +kernel))⟩,
  List.forall_mem_cons.mpr ⟨⟨mo_il _ _, Or.inl (ok_iload (by decide +kernel))⟩,
  List.forall_mem_cons.mpr ⟨⟨mo_ic _ _, Or.inl (ok_iconst (n := 4) (v := 4) (by decide) (by decide +kernel))⟩,
  List.forall_mem_cons.mpr ⟨⟨mo_bin _ _, Or.inl (ok_iadd (by decide +kernel))⟩,
  List.forall_mem_cons.mpr ⟨⟨mo_il _ _, Or.inl (ok_iload (by decide +kernel))⟩,
  List.forall_mem_cons.mpr ⟨⟨mo_ast _ _ _ _, Or.inl (ok_iast (by decide +kernel))⟩,
  List.forall_mem_cons.mpr ⟨⟨mo_al _ _, Or.inl (ok_aload_n (k := 0) rfl (by decide +kernel))⟩,
  fun _ h => absurd h List.not_mem_nil⟩⟩⟩⟩⟩⟩⟩⟩⟩⟩⟩⟩⟩⟩⟩⟩⟩⟩⟩⟩
def t_X5_gain_3 : List (Nat × am_F) := [(98, im_gr q_SH 5 3 101), (101, im_il 8 103), (103, im_ic 5 104), (104, im_bin (fun x y => x + y) 105), (105, im_il 6 107), (107, im_ast q_SH .int (fun x => x) 108), (108, im_al 0 109), (109, im_gr q_SH 5 3 112), (112, im_il 8 114), (114, im_ic 6 116), (116, im_bin (fun x y => x + y) 117), (117, im_il 7 119), (119, im_ast q_SH .int (fun x => x) 120), (120, im_al 0 121), (121, im_gr q_SH 5 0 124), (124, im_il 1 125), (125, im_ic 5 126), (126, im_bin (fun x y => x * y) 127), (127, im_il 2 128), (128, im_bin (fun x y => x + y) 129)]
set_option maxRecDepth 20000 in
theorem o_X5_gain_3 : ∀ q ∈ t_X5_gain_3, am_ok vwCl q_SH ξ (q_E ξ β xs L) q_EN q_KD q_ML (cX5_gain, 9, RX5, "gain", (some .int), []) q.1 q.2 :=
  List.forall_mem_cons.mpr ⟨⟨mo_gr _ _ _ _, Or.inl (ok_gr (C := RX5) (T := TX5) (N := 5) (ci := 5) (k := 3) rfl inX5 (by decide) fl_X5_21 (by decide +kernel) (by decide +kernel))⟩,
  List.forall_mem_cons.mpr ⟨⟨mo_il _ _, Or.inl (ok_iload (by decide +kernel))⟩,
  List.forall_mem_cons.mpr ⟨⟨mo_ic _ _, Or.inl (ok_iconst (n := 5) (v := 5) (by decide) (by decide +kernel))⟩,
  List.forall_mem_cons.mpr ⟨⟨mo_bin _ _, Or.inl (ok_iadd (by decide +kernel))⟩,
  List.forall_mem_cons.mpr ⟨⟨mo_il _ _, Or.inl (ok_iload (by decide +kernel))⟩,
  List.forall_mem_cons.mpr ⟨⟨mo_ast _ _ _ _, Or.inl (ok_iast (by decide +kernel))⟩,
  List.forall_mem_cons.mpr ⟨⟨mo_al _ _, Or.inl (ok_aload_n (k := 0) rfl (by decide +kernel))⟩,
  List.forall_mem_cons.mpr ⟨⟨mo_gr _ _ _ _, Or.inl (ok_gr (C := RX5) (T := TX5) (N := 5) (ci := 5) (k := 3) rfl inX5 (by decide) fl_X5_21 (by decide +kernel) (by decide +kernel))⟩,
  List.forall_mem_cons.mpr ⟨⟨mo_il _ _, Or.inl (ok_iload (by decide +kernel))⟩,
  List.forall_mem_cons.mpr ⟨⟨mo_ic _ _, Or.inl (ok_bipush (n := 6) (v := 6) (by decide) (by decide +kernel))⟩,
  List.forall_mem_cons.mpr ⟨⟨mo_bin _ _, Or.inl (ok_iadd (by decide +kernel))⟩,
  List.forall_mem_cons.mpr ⟨⟨mo_il _ _, Or.inl (ok_iload (by decide +kernel))⟩,
  List.forall_mem_cons.mpr ⟨⟨mo_ast _ _ _ _, Or.inl (ok_iast (by decide +kernel))⟩,
  List.forall_mem_cons.mpr ⟨⟨mo_al _ _, Or.inl (ok_aload_n (k := 0) rfl (by decide +kernel))⟩,
  List.forall_mem_cons.mpr ⟨⟨mo_gr _ _ _ _, Or.inl (ok_gr (C := RX5) (T := TX5) (N := 5) (ci := 5) (k := 0) rfl inX5 (by decide) fl_X5_9 (by decide +kernel) (by decide +kernel))⟩,
  List.forall_mem_cons.mpr ⟨⟨mo_il _ _, Or.inl (ok_iload_n (k := 1) rfl (by decide +kernel))⟩,
  List.forall_mem_cons.mpr ⟨⟨mo_ic _ _, Or.inl (ok_iconst (n := 5) (v := 5) (by decide) (by decide +kernel))⟩,
  List.forall_mem_cons.mpr ⟨⟨mo_bin _ _, Or.inl (ok_imul (by decide +kernel))⟩,
  List.forall_mem_cons.mpr ⟨⟨mo_il _ _, Or.inl (ok_iload_n (k := 2) rfl (by decide +kernel))⟩,
  List.forall_mem_cons.mpr ⟨⟨mo_bin _ _, Or.inl (ok_iadd (by decide +kernel))⟩,
  fun _ h => absurd h List.not_mem_nil⟩⟩⟩⟩⟩⟩⟩⟩⟩⟩⟩⟩⟩⟩⟩⟩⟩⟩⟩⟩
def t_X5_gain_4 : List (Nat × am_F) := [(129, im_al 0 130), (130, im_gi q_SH 5 4 133), (133, im_ast q_SH .int (fun x => x) 134), (134, im_al 0 135), (135, im_gr q_SH 5 1 138), (138, im_il 1 139), (139, im_ic 5 140), (140, im_bin (fun x y => x * y) 141), (141, im_il 2 142), (142, im_bin (fun x y => x + y) 143), (143, im_dup2 144), (144, im_ald q_SH .int 145), (145, im_ic 1 146), (146, im_bin (fun x y => x + y) 147), (147, im_ast q_SH .int (fun x => x) 148), (148, im_al 0 149), (149, im_dup 150), (150, im_gi q_SH 5 4 153), (153, im_ic 1 154), (154, im_bin (fun x y => x + y) 155)]
set_option maxRecDepth 20000 in
theorem o_X5_gain_4 : ∀ q ∈ t_X5_gain_4, am_ok vwCl q_SH ξ (q_E ξ β xs L) q_EN q_KD q_ML (cX5_gain, 9, RX5, "gain", (some .int), []) q.1 q.2 :=
  List.forall_mem_cons.mpr ⟨⟨mo_al _ _, Or.inl (ok_aload_n (k := 0) rfl (by decide +kernel))⟩,
  List.forall_mem_cons.mpr ⟨⟨mo_gi _ _ _ _, Or.inl (ok_gi (C := RX5) (T := TX5) (N := 5) (ci := 5) (k := 4) rfl inX5 (by decide) fl_X5_24 (by decide +kernel) (by decide +kernel))⟩,
  List.forall_mem_cons.mpr ⟨⟨mo_ast _ _ _ _, Or.inl (ok_iast (by decide +kernel))⟩,
  List.forall_mem_cons.mpr ⟨⟨mo_al _ _, Or.inl (ok_aload_n (k := 0) rfl (by decide +kernel))⟩,
  List.forall_mem_cons.mpr ⟨⟨mo_gr _ _ _ _, Or.inl (ok_gr (C := RX5) (T := TX5) (N := 5) (ci := 5) (k := 1) rfl inX5 (by decide) fl_X5_15 (by decide +kernel) (by decide +kernel))⟩,
  List.forall_mem_cons.mpr ⟨⟨mo_il _ _, Or.inl (ok_iload_n (k := 1) rfl (by decide +kernel))⟩,
  List.forall_mem_cons.mpr ⟨⟨mo_ic _ _, Or.inl (ok_iconst (n := 5) (v := 5) (by decide) (by decide +kernel))⟩,
  List.forall_mem_cons.mpr ⟨⟨mo_bin _ _, Or.inl (ok_imul (by decide +kernel))⟩,
  List.forall_mem_cons.mpr ⟨⟨mo_il _ _, Or.inl (ok_iload_n (k := 2) rfl (by decide +kernel))⟩,
  List.forall_mem_cons.mpr ⟨⟨mo_bin _ _, Or.inl (ok_iadd (by decide +kernel))⟩,
  List.forall_mem_cons.mpr ⟨⟨mo_dup2 _, Or.inl (ok_dup2 (by decide +kernel))⟩,
  List.forall_mem_cons.mpr ⟨⟨mo_ald _ _ _, Or.inl (ok_iald (by decide +kernel))⟩,
  List.forall_mem_cons.mpr ⟨⟨mo_ic _ _, Or.inl (ok_iconst (n := 1) (v := 1) (by decide) (by decide +kernel))⟩,
  List.forall_mem_cons.mpr ⟨⟨mo_bin _ _, Or.inl (ok_iadd (by decide +kernel))⟩,
  List.forall_mem_cons.mpr ⟨⟨mo_ast _ _ _ _, Or.inl (ok_iast (by decide +kernel))⟩,
  List.forall_mem_cons.mpr ⟨⟨mo_al _ _, Or.inl (ok_aload_n (k := 0) rfl (by decide +kernel))⟩,
  List.forall_mem_cons.mpr ⟨⟨mo_dup _, Or.inl (ok_dup (by decide +kernel))⟩,
  List.forall_mem_cons.mpr ⟨⟨mo_gi _ _ _ _, Or.inl (ok_gi (C := RX5) (T := TX5) (N := 5) (ci := 5) (k := 4) rfl inX5 (by decide) fl_X5_24 (by decide +kernel) (by decide +kernel))⟩,
  List.forall_mem_cons.mpr ⟨⟨mo_ic _ _, Or.inl (ok_iconst (n := 1) (v := 1) (by decide) (by decide +kernel))⟩,
  List.forall_mem_cons.mpr ⟨⟨mo_bin _ _, Or.inl (ok_iadd (by decide +kernel))⟩,
  fun _ h => absurd h List.not_mem_nil⟩⟩⟩⟩⟩⟩⟩⟩⟩⟩⟩⟩⟩⟩⟩⟩⟩⟩⟩⟩
def t_X5_gain_5 : List (Nat × am_F) := [(155, im_pi q_SH 5 4 158), (158, im_al 0 159), (159, im_gi q_SH 5 4 162), (162, im_ic 1 163), (163, im_bin (fun x y => x - y) 164), (164, im_reti)]
set_option maxRecDepth 20000 in
theorem o_X5_gain_5 : ∀ q ∈ t_X5_gain_5, am_ok vwCl q_SH ξ (q_E ξ β xs L) q_EN q_KD q_ML (cX5_gain, 9, RX5, "gain", (some .int), []) q.1 q.2 :=
  List.forall_mem_cons.mpr ⟨⟨mo_pi _ _ _ _, Or.inl (ok_pi (ty := .int) (C := RX5) (T := TX5) (N := 5) (ci := 5) (k := 4) rfl inX5 (by decide) fl_X5_24 (by decide +kernel) tyX5 tyX5_ok nmX5 (by decide +kernel) (by decide +kernel) (by decide +kernel))⟩,
  List.forall_mem_cons.mpr ⟨⟨mo_al _ _, Or.inl (ok_aload_n (k := 0) rfl (by decide +kernel))⟩,
  List.forall_mem_cons.mpr ⟨⟨mo_gi _ _ _ _, Or.inl (ok_gi (C := RX5) (T := TX5) (N := 5) (ci := 5) (k := 4) rfl inX5 (by decide) fl_X5_24 (by decide +kernel) (by decide +kernel))⟩,
  List.forall_mem_cons.mpr ⟨⟨mo_ic _ _, Or.inl (ok_iconst (n := 1) (v := 1) (by decide) (by decide +kernel))⟩,
  List.forall_mem_cons.mpr ⟨⟨mo_bin _ _, Or.inl (ok_isub (by decide +kernel))⟩,
  List.forall_mem_cons.mpr ⟨⟨mo_reti, Or.inr (Or.inr (ok_reti rfl (by decide +kernel)))⟩,
  fun _ h => absurd h List.not_mem_nil⟩⟩⟩⟩⟩⟩
def t_X5_gain : List (Nat × am_F) := t_X5_gain_0 ++ (t_X5_gain_1 ++ (t_X5_gain_2 ++ (t_X5_gain_3 ++ (t_X5_gain_4 ++ (t_X5_gain_5)))))
theorem o_X5_gain : ∀ q ∈ t_X5_gain, am_ok vwCl q_SH ξ (q_E ξ β xs L) q_EN q_KD q_ML (cX5_gain, 9, RX5, "gain", (some .int), []) q.1 q.2 := List.forall_mem_append.mpr ⟨o_X5_gain_0, List.forall_mem_append.mpr ⟨o_X5_gain_1, List.forall_mem_append.mpr ⟨o_X5_gain_2, List.forall_mem_append.mpr ⟨o_X5_gain_3, List.forall_mem_append.mpr ⟨o_X5_gain_4, o_X5_gain_5⟩⟩⟩⟩⟩
def t_X5_linksFrom_0 : List (Nat × am_F) := [(0, im_ic 0 1), (1, im_is 2 2), (2, im_il 1 3), (3, im_is 3 4), (4, im_il 3 5), (5, im_if1 ib_lt 41 8), (8, im_il 3 9), (9, im_al 0 10), (10, im_gi q_SH 5 4 13), (13, im_if2 ic_ge 41 16), (16, im_il 2 17), (17, im_ic 40 19), (19, im_if2 ic_ge 41 22), (22, im_iinc 2 1 25), (25, im_al 0 26), (26, im_gr q_SH 5 3 29), (29, im_il 3 30), (30, im_ic 7 32), (32, im_bin (fun x y => x * y) 33), (33, im_ic 6 35)]
set_option maxRecDepth 20000 in
theorem o_X5_linksFrom_0 : ∀ q ∈ t_X5_linksFrom_0, am_ok vwCl q_SH ξ (q_E ξ β xs L) q_EN q_KD q_ML (cX5_linksFrom, 4, RX5, "linksFrom", (some .int), []) q.1 q.2 :=
  List.forall_mem_cons.mpr ⟨⟨mo_ic _ _, Or.inl (ok_iconst (n := 0) (v := 0) (by decide) (by decide +kernel))⟩,
  List.forall_mem_cons.mpr ⟨⟨mo_is _ _, Or.inl (ok_istore_n (k := 2) rfl (by decide) (by decide +kernel))⟩,
  List.forall_mem_cons.mpr ⟨⟨mo_il _ _, Or.inl (ok_iload_n (k := 1) rfl (by decide +kernel))⟩,
  List.forall_mem_cons.mpr ⟨⟨mo_is _ _, Or.inl (ok_istore_n (k := 3) rfl (by decide) (by decide +kernel))⟩,
  List.forall_mem_cons.mpr ⟨⟨mo_il _ _, Or.inl (ok_iload_n (k := 3) rfl (by decide +kernel))⟩,
  List.forall_mem_cons.mpr ⟨⟨mo_if1 _ _ _, Or.inl (ok_if_lt (off := 36) (by decide) (by decide +kernel))⟩,
  List.forall_mem_cons.mpr ⟨⟨mo_il _ _, Or.inl (ok_iload_n (k := 3) rfl (by decide +kernel))⟩,
  List.forall_mem_cons.mpr ⟨⟨mo_al _ _, Or.inl (ok_aload_n (k := 0) rfl (by decide +kernel))⟩,
  List.forall_mem_cons.mpr ⟨⟨mo_gi _ _ _ _, Or.inl (ok_gi (C := RX5) (T := TX5) (N := 5) (ci := 5) (k := 4) rfl inX5 (by decide) fl_X5_24 (by decide +kernel) (by decide +kernel))⟩,
  List.forall_mem_cons.mpr ⟨⟨mo_if2 _ _ _, Or.inl (ok_icmp_ge (off := 28) (by decide) (by decide +kernel))⟩,
  List.forall_mem_cons.mpr ⟨⟨mo_il _ _, Or.inl (ok_iload_n (k := 2) rfl (by decide +kernel))⟩,
  List.forall_mem_cons.mpr ⟨⟨mo_ic _ _, Or.inl (ok_bipush (n := 40) (v := 40) (by decide) (by decide +kernel))⟩,
  List.forall_mem_cons.mpr ⟨⟨mo_if2 _ _ _, Or.inl (ok_icmp_ge (off := 22) (by decide) (by decide +kernel))⟩,
  List.forall_mem_cons.mpr ⟨⟨mo_iinc _ _ _, Or.inl (ok_iinc (n := 1) (v := 1) (by decide) (by decide) (by decide +kernel))⟩,
  List.forall_mem_cons.mpr ⟨⟨mo_al _ _, Or.inl (ok_aload_n (k := 0) rfl (by decide +kernel))⟩,
  List.forall_mem_cons.mpr ⟨⟨mo_gr _ _ _ _, Or.inl (ok_gr (C := RX5) (T := TX5) (N := 5) (ci := 5) (k := 3) rfl inX5 (by decide) fl_X5_21 (by decide +kernel) (by decide +kernel))⟩,
  List.forall_mem_cons.mpr ⟨⟨mo_il _ _, Or.inl (ok_iload_n (k := 3) rfl (by decide +kernel))⟩,
  List.forall_mem_cons.mpr ⟨⟨mo_ic _ _, Or.inl (ok_bipush (n := 7) (v := 7) (by decide) (by decide +kernel))⟩,
  List.forall_mem_cons.mpr ⟨⟨mo_bin _ _, Or.inl (ok_imul (by decide +kernel))⟩,
  List.forall_mem_cons.mpr ⟨⟨mo_ic _ _, Or.inl (ok_bipush (n := 6) (v := 6) (by decide) (by decide +kernel))⟩,
  fun _ h => absurd h List.not_mem_nil⟩⟩⟩⟩⟩⟩⟩⟩⟩⟩⟩⟩⟩⟩⟩⟩⟩⟩⟩⟩
def t_X5_linksFrom_1 : List (Nat × am_F) := [(35, im_bin (fun x y => x + y) 36), (36, im_ald q_SH .int 37), (37, im_is 3 38), (38, im_go 4), (41, im_il 2 42), (42, im_reti)]
set_option maxRecDepth 20000 in
theorem o_X5_linksFrom_1 : ∀ q ∈ t_X5_linksFrom_1, am_ok vwCl q_SH ξ (q_E ξ β xs L) q_EN q_KD q_ML (cX5_linksFrom, 4, RX5, "linksFrom", (some .int), []) q.1 q.2 :=
  List.forall_mem_cons.mpr ⟨⟨mo_bin _ _, Or.inl (ok_iadd (by decide +kernel))⟩,
  List.forall_mem_cons.mpr ⟨⟨mo_ald _ _ _, Or.inl (ok_iald (by decide +kernel))⟩,
  List.forall_mem_cons.mpr ⟨⟨mo_is _ _, Or.inl (ok_istore_n (k := 3) rfl (by decide) (by decide +kernel))⟩,
  List.forall_mem_cons.mpr ⟨⟨mo_go _, Or.inl (ok_goto (off := (-34)) (by decide) (by decide +kernel))⟩,
  List.forall_mem_cons.mpr ⟨⟨mo_il _ _, Or.inl (ok_iload_n (k := 2) rfl (by decide +kernel))⟩,
  List.forall_mem_cons.mpr ⟨⟨mo_reti, Or.inr (Or.inr (ok_reti rfl (by decide +kernel)))⟩,
  fun _ h => absurd h List.not_mem_nil⟩⟩⟩⟩⟩⟩
def t_X5_linksFrom : List (Nat × am_F) := t_X5_linksFrom_0 ++ (t_X5_linksFrom_1)
theorem o_X5_linksFrom : ∀ q ∈ t_X5_linksFrom, am_ok vwCl q_SH ξ (q_E ξ β xs L) q_EN q_KD q_ML (cX5_linksFrom, 4, RX5, "linksFrom", (some .int), []) q.1 q.2 := List.forall_mem_append.mpr ⟨o_X5_linksFrom_0, o_X5_linksFrom_1⟩
def t_X5_tell_0 : List (Nat × am_F) := [(0, im_il 1 1), (1, im_is 4 3), (3, im_ic 0 4), (4, im_is 5 6), (6, im_il 5 8), (8, im_il 2 9), (9, im_if2 ic_ge 47 12), (12, im_il 4 14), (14, im_if1 ib_lt 47 17), (17, im_il 4 19), (19, im_al 0 20), (20, im_gi q_SH 5 4 23), (23, im_if2 ic_ge 47 26), (26, im_al 0 27), (27, im_gr q_SH 5 3 30), (30, im_il 4 32), (32, im_ic 7 34), (34, im_bin (fun x y => x * y) 35), (35, im_ic 6 37), (37, im_bin (fun x y => x + y) 38)]
set_option maxRecDepth 20000 in
theorem o_X5_tell_0 : ∀ q ∈ t_X5_tell_0, am_ok vwCl q_SH ξ (q_E ξ β xs L) q_EN q_KD q_ML (cX5_tell, 6, RX5, "tell", (some .int), []) q.1 q.2 :=
  List.forall_mem_cons.mpr ⟨⟨mo_il _ _, Or.inl (ok_iload_n (k := 1) rfl (by decide +kernel))⟩,
  List.forall_mem_cons.mpr ⟨⟨mo_is _ _, Or.inl (ok_istore (by decide) (by decide +kernel))⟩,
  List.forall_mem_cons.mpr ⟨⟨mo_ic _ _, Or.inl (ok_iconst (n := 0) (v := 0) (by decide) (by decide +kernel))⟩,
  List.forall_mem_cons.mpr ⟨⟨mo_is _ _, Or.inl (ok_istore (by decide) (by decide +kernel))⟩,
  List.forall_mem_cons.mpr ⟨⟨mo_il _ _, Or.inl (ok_iload (by decide +kernel))⟩,
  List.forall_mem_cons.mpr ⟨⟨mo_il _ _, Or.inl (ok_iload_n (k := 2) rfl (by decide +kernel))⟩,
  List.forall_mem_cons.mpr ⟨⟨mo_if2 _ _ _, Or.inl (ok_icmp_ge (off := 38) (by decide) (by decide +kernel))⟩,
  List.forall_mem_cons.mpr ⟨⟨mo_il _ _, Or.inl (ok_iload (by decide +kernel))⟩,
  List.forall_mem_cons.mpr ⟨⟨mo_if1 _ _ _, Or.inl (ok_if_lt (off := 33) (by decide) (by decide +kernel))⟩,
  List.forall_mem_cons.mpr ⟨⟨mo_il _ _, Or.inl (ok_iload (by decide +kernel))⟩,
  List.forall_mem_cons.mpr ⟨⟨mo_al _ _, Or.inl (ok_aload_n (k := 0) rfl (by decide +kernel))⟩,
  List.forall_mem_cons.mpr ⟨⟨mo_gi _ _ _ _, Or.inl (ok_gi (C := RX5) (T := TX5) (N := 5) (ci := 5) (k := 4) rfl inX5 (by decide) fl_X5_24 (by decide +kernel) (by decide +kernel))⟩,
  List.forall_mem_cons.mpr ⟨⟨mo_if2 _ _ _, Or.inl (ok_icmp_ge (off := 24) (by decide) (by decide +kernel))⟩,
  List.forall_mem_cons.mpr ⟨⟨mo_al _ _, Or.inl (ok_aload_n (k := 0) rfl (by decide +kernel))⟩,
  List.forall_mem_cons.mpr ⟨⟨mo_gr _ _ _ _, Or.inl (ok_gr (C := RX5) (T := TX5) (N := 5) (ci := 5) (k := 3) rfl inX5 (by decide) fl_X5_21 (by decide +kernel) (by decide +kernel))⟩,
  List.forall_mem_cons.mpr ⟨⟨mo_il _ _, Or.inl (ok_iload (by decide +kernel))⟩,
  List.forall_mem_cons.mpr ⟨⟨mo_ic _ _, Or.inl (ok_bipush (n := 7) (v := 7) (by decide) (by decide +kernel))⟩,
  List.forall_mem_cons.mpr ⟨⟨mo_bin _ _, Or.inl (ok_imul (by decide +kernel))⟩,
  List.forall_mem_cons.mpr ⟨⟨mo_ic _ _, Or.inl (ok_bipush (n := 6) (v := 6) (by decide) (by decide +kernel))⟩,
  List.forall_mem_cons.mpr ⟨⟨mo_bin _ _, Or.inl (ok_iadd (by decide +kernel))⟩,
  fun _ h => absurd h List.not_mem_nil⟩⟩⟩⟩⟩⟩⟩⟩⟩⟩⟩⟩⟩⟩⟩⟩⟩⟩⟩⟩
def t_X5_tell_1 : List (Nat × am_F) := [(38, im_ald q_SH .int 39), (39, im_is 4 41), (41, im_iinc 5 1 44), (44, im_go 6), (47, im_il 4 49), (49, im_if1 ib_lt 86 52), (52, im_il 4 54), (54, im_al 0 55), (55, im_gi q_SH 5 4 58), (58, im_if2 ic_ge 86 61), (61, im_il 3 62), (62, im_if1 ib_lt 86 65), (65, im_il 3 66), (66, im_ic 6 68), (68, im_if2 ic_ge 86 71), (71, im_al 0 72), (72, im_gr q_SH 5 3 75), (75, im_il 4 77), (77, im_ic 7 79), (79, im_bin (fun x y => x * y) 80)]
set_option maxRecDepth 20000 in
theorem o_X5_tell_1 : ∀ q ∈ t_X5_tell_1, am_ok vwCl q_SH ξ (q_E ξ β xs L) q_EN q_KD q_ML (cX5_tell, 6, RX5, "tell", (some .int), []) q.1 q.2 :=
  List.forall_mem_cons.mpr ⟨⟨mo_ald _ _ _, Or.inl (ok_iald (by decide +kernel))⟩,
  List.forall_mem_cons.mpr ⟨⟨mo_is _ _, Or.inl (ok_istore (by decide) (by decide +kernel))⟩,
  List.forall_mem_cons.mpr ⟨⟨mo_iinc _ _ _, Or.inl (ok_iinc (n := 1) (v := 1) (by decide) (by decide) (by decide +kernel))⟩,
  List.forall_mem_cons.mpr ⟨⟨mo_go _, Or.inl (ok_goto (off := (-38)) (by decide) (by decide +kernel))⟩,
  List.forall_mem_cons.mpr ⟨⟨mo_il _ _, Or.inl (ok_iload (by decide +kernel))⟩,
  List.forall_mem_cons.mpr ⟨⟨mo_if1 _ _ _, Or.inl (ok_if_lt (off := 37) (by decide) (by decide +kernel))⟩,
  List.forall_mem_cons.mpr ⟨⟨mo_il _ _, Or.inl (ok_iload (by decide +kernel))⟩,
  List.forall_mem_cons.mpr ⟨⟨mo_al _ _, Or.inl (ok_aload_n (k := 0) rfl (by decide +kernel))⟩,
  List.forall_mem_cons.mpr ⟨⟨mo_gi _ _ _ _, Or.inl (ok_gi (C := RX5) (T := TX5) (N := 5) (ci := 5) (k := 4) rfl inX5 (by decide) fl_X5_24 (by decide +kernel) (by decide +kernel))⟩,
  List.forall_mem_cons.mpr ⟨⟨mo_if2 _ _ _, Or.inl (ok_icmp_ge (off := 28) (by decide) (by decide +kernel))⟩,
  List.forall_mem_cons.mpr ⟨⟨mo_il _ _, Or.inl (ok_iload_n (k := 3) rfl (by decide +kernel))⟩,
  List.forall_mem_cons.mpr ⟨⟨mo_if1 _ _ _, Or.inl (ok_if_lt (off := 24) (by decide) (by decide +kernel))⟩,
  List.forall_mem_cons.mpr ⟨⟨mo_il _ _, Or.inl (ok_iload_n (k := 3) rfl (by decide +kernel))⟩,
  List.forall_mem_cons.mpr ⟨⟨mo_ic _ _, Or.inl (ok_bipush (n := 6) (v := 6) (by decide) (by decide +kernel))⟩,
  List.forall_mem_cons.mpr ⟨⟨mo_if2 _ _ _, Or.inl (ok_icmp_ge (off := 18) (by decide) (by decide +kernel))⟩,
  List.forall_mem_cons.mpr ⟨⟨mo_al _ _, Or.inl (ok_aload_n (k := 0) rfl (by decide +kernel))⟩,
  List.forall_mem_cons.mpr ⟨⟨mo_gr _ _ _ _, Or.inl (ok_gr (C := RX5) (T := TX5) (N := 5) (ci := 5) (k := 3) rfl inX5 (by decide) fl_X5_21 (by decide +kernel) (by decide +kernel))⟩,
  List.forall_mem_cons.mpr ⟨⟨mo_il _ _, Or.inl (ok_iload (by decide +kernel))⟩,
  List.forall_mem_cons.mpr ⟨⟨mo_ic _ _, Or.inl (ok_bipush (n := 7) (v := 7) (by decide) (by decide +kernel))⟩,
  List.forall_mem_cons.mpr ⟨⟨mo_bin _ _, Or.inl (ok_imul (by decide +kernel))⟩,
  fun _ h => absurd h List.not_mem_nil⟩⟩⟩⟩⟩⟩⟩⟩⟩⟩⟩⟩⟩⟩⟩⟩⟩⟩⟩⟩
def t_X5_tell_2 : List (Nat × am_F) := [(80, im_il 3 81), (81, im_bin (fun x y => x + y) 82), (82, im_ald q_SH .int 83), (83, im_go 87), (86, im_ic (-1) 87), (87, im_reti)]
set_option maxRecDepth 20000 in
theorem o_X5_tell_2 : ∀ q ∈ t_X5_tell_2, am_ok vwCl q_SH ξ (q_E ξ β xs L) q_EN q_KD q_ML (cX5_tell, 6, RX5, "tell", (some .int), []) q.1 q.2 :=
  List.forall_mem_cons.mpr ⟨⟨mo_il _ _, Or.inl (ok_iload_n (k := 3) rfl (by decide +kernel))⟩,
  List.forall_mem_cons.mpr ⟨⟨mo_bin _ _, Or.inl (ok_iadd (by decide +kernel))⟩,
  List.forall_mem_cons.mpr ⟨⟨mo_ald _ _ _, Or.inl (ok_iald (by decide +kernel))⟩,
  List.forall_mem_cons.mpr ⟨⟨mo_go _, Or.inl (ok_goto (off := 4) (by decide) (by decide +kernel))⟩,
  List.forall_mem_cons.mpr ⟨⟨mo_ic _ _, Or.inl (ok_iconst (n := (-1)) (v := (-1)) (by decide) (by decide +kernel))⟩,
  List.forall_mem_cons.mpr ⟨⟨mo_reti, Or.inr (Or.inr (ok_reti rfl (by decide +kernel)))⟩,
  fun _ h => absurd h List.not_mem_nil⟩⟩⟩⟩⟩⟩
def t_X5_tell : List (Nat × am_F) := t_X5_tell_0 ++ (t_X5_tell_1 ++ (t_X5_tell_2))
theorem o_X5_tell : ∀ q ∈ t_X5_tell, am_ok vwCl q_SH ξ (q_E ξ β xs L) q_EN q_KD q_ML (cX5_tell, 6, RX5, "tell", (some .int), []) q.1 q.2 := List.forall_mem_append.mpr ⟨o_X5_tell_0, List.forall_mem_append.mpr ⟨o_X5_tell_1, o_X5_tell_2⟩⟩
def t_X6_init_0 : List (Nat × am_F) := [(0, im_al 0 1), (1, im_obj 4), (4, im_al 0 5), (5, im_al 1 6), (6, im_pr q_SH 6 0 9), (9, im_al 0 10), (10, im_ic 0 11), (11, im_newa q_SH .byte 13), (13, im_pr q_SH 6 1 16), (16, im_al 0 17), (17, im_ic (-1) 18), (18, im_pi q_SH 6 11 21), (21, im_ret0e)]
set_option maxRecDepth 20000 in
theorem o_X6_init_0 : ∀ q ∈ t_X6_init_0, am_ok vwCl q_SH ξ (q_E ξ β xs L) q_EN q_KD q_ML (cX6_init, 2, RX6, "<init>", none, []) q.1 q.2 :=
  List.forall_mem_cons.mpr ⟨⟨mo_al _ _, Or.inl (ok_aload_n (k := 0) rfl (by decide +kernel))⟩,
  List.forall_mem_cons.mpr ⟨⟨mo_obj _, Or.inl (ok_obj (am_in1 220 rfl rfl) (am_in1 33 rfl rfl) (am_in1 34 rfl rfl) (by decide +kernel))⟩,
  List.forall_mem_cons.mpr ⟨⟨mo_al _ _, Or.inl (ok_aload_n (k := 0) rfl (by decide +kernel))⟩,
  List.forall_mem_cons.mpr ⟨⟨mo_al _ _, Or.inl (ok_aload_n (k := 1) rfl (by decide +kernel))⟩,
  List.forall_mem_cons.mpr ⟨⟨mo_pr _ _ _ _, Or.inl (ok_prF (C := RX6) (T := TX6) (N := 12) (ci := 6) (k := 0) rfl inX6 (by decide) fl_X6_9 (by decide +kernel) tyX6 tyX6_ok nmX6 (by decide +kernel) rfl rfl (ty := .object "LandBonds$Acts") (by decide +kernel) (fun _ => ⟨rfl, rfl⟩) (by decide +kernel))⟩,
  List.forall_mem_cons.mpr ⟨⟨mo_al _ _, Or.inl (ok_aload_n (k := 0) rfl (by decide +kernel))⟩,
  List.forall_mem_cons.mpr ⟨⟨mo_ic _ _, Or.inl (ok_iconst (n := 0) (v := 0) (by decide) (by decide +kernel))⟩,
  List.forall_mem_cons.mpr ⟨⟨mo_newa _ _ _, Or.inl (ok_newb (am_in2 19 rfl rfl) (by decide +kernel))⟩,
  List.forall_mem_cons.mpr ⟨⟨mo_pr _ _ _ _, Or.inl (ok_pr (C := RX6) (T := TX6) (N := 12) (ci := 6) (k := 1) rfl inX6 (by decide) fl_X6_15 (by decide +kernel) tyX6 tyX6_ok nmX6 (by decide +kernel) (ty := .array .byte) (by decide +kernel) (fun _ => ⟨rfl, rfl⟩) (by decide +kernel))⟩,
  List.forall_mem_cons.mpr ⟨⟨mo_al _ _, Or.inl (ok_aload_n (k := 0) rfl (by decide +kernel))⟩,
  List.forall_mem_cons.mpr ⟨⟨mo_ic _ _, Or.inl (ok_iconst (n := (-1)) (v := (-1)) (by decide) (by decide +kernel))⟩,
  List.forall_mem_cons.mpr ⟨⟨mo_pi _ _ _ _, Or.inl (ok_pi (ty := .int) (C := RX6) (T := TX6) (N := 12) (ci := 6) (k := 11) rfl inX6 (by decide) fl_X6_19 (by decide +kernel) tyX6 tyX6_ok nmX6 (by decide +kernel) (by decide +kernel) (by decide +kernel))⟩,
  List.forall_mem_cons.mpr ⟨⟨mo_ret0e, Or.inr (Or.inr (ok_ret0 rfl (by decide +kernel)))⟩,
  fun _ h => absurd h List.not_mem_nil⟩⟩⟩⟩⟩⟩⟩⟩⟩⟩⟩⟩⟩
def t_X6_init : List (Nat × am_F) := t_X6_init_0
theorem o_X6_init : ∀ q ∈ t_X6_init, am_ok vwCl q_SH ξ (q_E ξ β xs L) q_EN q_KD q_ML (cX6_init, 2, RX6, "<init>", none, []) q.1 q.2 := o_X6_init_0
def t_X6_read_0 : List (Nat × am_F) := [(0, im_al 0 1), (1, im_al 1 2), (2, im_pr q_SH 6 1 5), (5, im_al 0 6), (6, im_il 2 7), (7, im_al 1 8), (8, im_alen q_SH .byte 9), (9, im_mm (fun x y => if y < x then y else x) 12), (12, im_pi q_SH 6 2 15), (15, im_al 0 16), (16, im_ic 0 17), (17, im_pi q_SH 6 3 20), (20, im_al 0 21), (21, im_ic 0 22), (22, im_pi q_SH 6 10 25), (25, im_al 0 26), (26, im_gr q_SH 6 0 29), (29, im_gi q_SH 0 15 32), (32, im_is 4 34), (34, im_il 4 36)]
set_option maxRecDepth 20000 in
theorem o_X6_read_0 : ∀ q ∈ t_X6_read_0, am_ok vwCl q_SH ξ (q_E ξ β xs L) q_EN q_KD q_ML (cX6_read, 6, RX6, "read", (some .int), []) q.1 q.2 :=
  List.forall_mem_cons.mpr ⟨⟨mo_al _ _, Or.inl (ok_aload_n (k := 0) rfl (by decide +kernel))⟩,
  List.forall_mem_cons.mpr ⟨⟨mo_al _ _, Or.inl (ok_aload_n (k := 1) rfl (by decide +kernel))⟩,
  List.forall_mem_cons.mpr ⟨⟨mo_pr _ _ _ _, Or.inl (ok_pr (C := RX6) (T := TX6) (N := 12) (ci := 6) (k := 1) rfl inX6 (by decide) fl_X6_15 (by decide +kernel) tyX6 tyX6_ok nmX6 (by decide +kernel) (ty := .array .byte) (by decide +kernel) (fun _ => ⟨rfl, rfl⟩) (by decide +kernel))⟩,
  List.forall_mem_cons.mpr ⟨⟨mo_al _ _, Or.inl (ok_aload_n (k := 0) rfl (by decide +kernel))⟩,
  List.forall_mem_cons.mpr ⟨⟨mo_il _ _, Or.inl (ok_iload_n (k := 2) rfl (by decide +kernel))⟩,
  List.forall_mem_cons.mpr ⟨⟨mo_al _ _, Or.inl (ok_aload_n (k := 1) rfl (by decide +kernel))⟩,
  List.forall_mem_cons.mpr ⟨⟨mo_alen _ _ _, Or.inl (ok_alenb (by decide +kernel))⟩,
  List.forall_mem_cons.mpr ⟨⟨mo_mm _ _, Or.inl (ok_mmin (am_in3 166 rfl rfl) (am_in3 167 rfl rfl) (am_in1 18 rfl rfl) (am_in3 168 rfl rfl) (by decide +kernel))⟩,
  List.forall_mem_cons.mpr ⟨⟨mo_pi _ _ _ _, Or.inl (ok_pi (ty := .int) (C := RX6) (T := TX6) (N := 12) (ci := 6) (k := 2) rfl inX6 (by decide) fl_X6_29 (by decide +kernel) tyX6 tyX6_ok nmX6 (by decide +kernel) (by decide +kernel) (by decide +kernel))⟩,
  List.forall_mem_cons.mpr ⟨⟨mo_al _ _, Or.inl (ok_aload_n (k := 0) rfl (by decide +kernel))⟩,
  List.forall_mem_cons.mpr ⟨⟨mo_ic _ _, Or.inl (ok_iconst (n := 0) (v := 0) (by decide) (by decide +kernel))⟩,
  List.forall_mem_cons.mpr ⟨⟨mo_pi _ _ _ _, Or.inl (ok_pi (ty := .int) (C := RX6) (T := TX6) (N := 12) (ci := 6) (k := 3) rfl inX6 (by decide) fl_X6_32 (by decide +kernel) tyX6 tyX6_ok nmX6 (by decide +kernel) (by decide +kernel) (by decide +kernel))⟩,
  List.forall_mem_cons.mpr ⟨⟨mo_al _ _, Or.inl (ok_aload_n (k := 0) rfl (by decide +kernel))⟩,
  List.forall_mem_cons.mpr ⟨⟨mo_ic _ _, Or.inl (ok_iconst (n := 0) (v := 0) (by decide) (by decide +kernel))⟩,
  List.forall_mem_cons.mpr ⟨⟨mo_pi _ _ _ _, Or.inl (ok_pi (ty := .int) (C := RX6) (T := TX6) (N := 12) (ci := 6) (k := 10) rfl inX6 (by decide) fl_X6_35 (by decide +kernel) tyX6 tyX6_ok nmX6 (by decide +kernel) (by decide +kernel) (by decide +kernel))⟩,
  List.forall_mem_cons.mpr ⟨⟨mo_al _ _, Or.inl (ok_aload_n (k := 0) rfl (by decide +kernel))⟩,
  List.forall_mem_cons.mpr ⟨⟨mo_gr _ _ _ _, Or.inl (ok_gr (C := RX6) (T := TX6) (N := 12) (ci := 6) (k := 0) rfl inX6 (by decide) fl_X6_9 (by decide +kernel) (by decide +kernel))⟩,
  List.forall_mem_cons.mpr ⟨⟨mo_gi _ _ _ _, Or.inl (ok_gi (C := RX0) (T := TX0) (N := 16) (ci := 0) (k := 15) rfl inX0 (by decide) fl_X6_38 (by decide +kernel) (by decide +kernel))⟩,
  List.forall_mem_cons.mpr ⟨⟨mo_is _ _, Or.inl (ok_istore (by decide) (by decide +kernel))⟩,
  List.forall_mem_cons.mpr ⟨⟨mo_il _ _, Or.inl (ok_iload (by decide +kernel))⟩,
  fun _ h => absurd h List.not_mem_nil⟩⟩⟩⟩⟩⟩⟩⟩⟩⟩⟩⟩⟩⟩⟩⟩⟩⟩⟩⟩
def t_X6_read_1 : List (Nat × am_F) := [(36, im_ic 12 38), (38, im_if2 ic_lt 43 41), (41, im_ic 0 42), (42, im_reti), (43, im_al 0 44), (44, im_il 4 46), (46, im_ic 500 49), (49, im_bin (fun x y => x * y) 50), (50, im_pi q_SH 6 9 53), (53, im_al 0 54), (54, im_gr q_SH 6 0 57), (57, im_gr q_SH 0 0 60), (60, im_il 4 62), (62, im_il 3 63), (63, im_ast q_SH .int (fun x => x) 64), (64, im_al 0 65), (65, im_gr q_SH 6 0 68), (68, im_gr q_SH 0 5 71), (71, im_il 4 73), (73, im_ic 0 74)]
set_option maxRecDepth 20000 in
theorem o_X6_read_1 : ∀ q ∈ t_X6_read_1, am_ok vwCl q_SH ξ (q_E ξ β xs L) q_EN q_KD q_ML (cX6_read, 6, RX6, "read", (some .int), []) q.1 q.2 :=
  List.forall_mem_cons.mpr ⟨⟨mo_ic _ _, Or.inl (ok_bipush (n := 12) (v := 12) (by decide) (by decide +kernel))⟩,
  List.forall_mem_cons.mpr ⟨⟨mo_if2 _ _ _, Or.inl (ok_icmp_lt (off := 5) (by decide) (by decide +kernel))⟩,
  List.forall_mem_cons.mpr ⟨⟨mo_ic _ _, Or.inl (ok_iconst (n := 0) (v := 0) (by decide) (by decide +kernel))⟩,
  List.forall_mem_cons.mpr ⟨⟨mo_reti, Or.inr (Or.inr (ok_reti rfl (by decide +kernel)))⟩,
  List.forall_mem_cons.mpr ⟨⟨mo_al _ _, Or.inl (ok_aload_n (k := 0) rfl (by decide +kernel))⟩,
  List.forall_mem_cons.mpr ⟨⟨mo_il _ _, Or.inl (ok_iload (by decide +kernel))⟩,
  List.forall_mem_cons.mpr ⟨⟨mo_ic _ _, Or.inl (ok_sipush (n := 500) (v := 500) (by decide) (by decide +kernel))⟩,
  List.forall_mem_cons.mpr ⟨⟨mo_bin _ _, Or.inl (ok_imul (by decide +kernel))⟩,
  List.forall_mem_cons.mpr ⟨⟨mo_pi _ _ _ _, Or.inl (ok_pi (ty := .int) (C := RX6) (T := TX6) (N := 12) (ci := 6) (k := 9) rfl inX6 (by decide) fl_X6_43 (by decide +kernel) tyX6 tyX6_ok nmX6 (by decide +kernel) (by decide +kernel) (by decide +kernel))⟩,
  List.forall_mem_cons.mpr ⟨⟨mo_al _ _, Or.inl (ok_aload_n (k := 0) rfl (by decide +kernel))⟩,
  List.forall_mem_cons.mpr ⟨⟨mo_gr _ _ _ _, Or.inl (ok_gr (C := RX6) (T := TX6) (N := 12) (ci := 6) (k := 0) rfl inX6 (by decide) fl_X6_9 (by decide +kernel) (by decide +kernel))⟩,
  List.forall_mem_cons.mpr ⟨⟨mo_gr _ _ _ _, Or.inl (ok_gr (C := RX0) (T := TX0) (N := 16) (ci := 0) (k := 0) rfl inX0 (by decide) fl_X6_46 (by decide +kernel) (by decide +kernel))⟩,
  List.forall_mem_cons.mpr ⟨⟨mo_il _ _, Or.inl (ok_iload (by decide +kernel))⟩,
  List.forall_mem_cons.mpr ⟨⟨mo_il _ _, Or.inl (ok_iload_n (k := 3) rfl (by decide +kernel))⟩,
  List.forall_mem_cons.mpr ⟨⟨mo_ast _ _ _ _, Or.inl (ok_iast (by decide +kernel))⟩,
  List.forall_mem_cons.mpr ⟨⟨mo_al _ _, Or.inl (ok_aload_n (k := 0) rfl (by decide +kernel))⟩,
  List.forall_mem_cons.mpr ⟨⟨mo_gr _ _ _ _, Or.inl (ok_gr (C := RX6) (T := TX6) (N := 12) (ci := 6) (k := 0) rfl inX6 (by decide) fl_X6_9 (by decide +kernel) (by decide +kernel))⟩,
  List.forall_mem_cons.mpr ⟨⟨mo_gr _ _ _ _, Or.inl (ok_gr (C := RX0) (T := TX0) (N := 16) (ci := 0) (k := 5) rfl inX0 (by decide) fl_X6_50 (by decide +kernel) (by decide +kernel))⟩,
  List.forall_mem_cons.mpr ⟨⟨mo_il _ _, Or.inl (ok_iload (by decide +kernel))⟩,
  List.forall_mem_cons.mpr ⟨⟨mo_ic _ _, Or.inl (ok_iconst (n := 0) (v := 0) (by decide) (by decide +kernel))⟩,
  fun _ h => absurd h List.not_mem_nil⟩⟩⟩⟩⟩⟩⟩⟩⟩⟩⟩⟩⟩⟩⟩⟩⟩⟩⟩⟩
def t_X6_read_2 : List (Nat × am_F) := [(74, im_ast q_SH .int (fun x => x) 75), (75, im_al 0 76), (76, im_gr q_SH 6 0 79), (79, im_gr q_SH 0 6 82), (82, im_il 4 84), (84, im_ic 0 85), (85, im_ast q_SH .int (fun x => x) 86), (86, im_al 0 87), (87, im_gr q_SH 6 0 90), (90, im_gr q_SH 0 7 93), (93, im_il 4 95), (95, im_ic 0 96), (96, im_ast q_SH .int (fun x => x) 97), (97, im_al 0 98), (98, im_inv q_SH 6 43 0 101), (101, im_ic 0 102), (102, im_is 5 104), (104, im_il 5 106), (106, im_ic 12 108), (108, im_if2 ic_gt 139 111)]
set_option maxRecDepth 20000 in
theorem o_X6_read_2 : ∀ q ∈ t_X6_read_2, am_ok vwCl q_SH ξ (q_E ξ β xs L) q_EN q_KD q_ML (cX6_read, 6, RX6, "read", (some .int), []) q.1 q.2 :=
  List.forall_mem_cons.mpr ⟨⟨mo_ast _ _ _ _, Or.inl (ok_iast (by decide +kernel))⟩,
  List.forall_mem_cons.mpr ⟨⟨mo_al _ _, Or.inl (ok_aload_n (k := 0) rfl (by decide +kernel))⟩,
  List.forall_mem_cons.mpr ⟨⟨mo_gr _ _ _ _, Or.inl (ok_gr (C := RX6) (T := TX6) (N := 12) (ci := 6) (k := 0) rfl inX6 (by decide) fl_X6_9 (by decide +kernel) (by decide +kernel))⟩,
  List.forall_mem_cons.mpr ⟨⟨mo_gr _ _ _ _, Or.inl (ok_gr (C := RX0) (T := TX0) (N := 16) (ci := 0) (k := 6) rfl inX0 (by decide) fl_X6_53 (by decide +kernel) (by decide +kernel))⟩,
  List.forall_mem_cons.mpr ⟨⟨mo_il _ _, Or.inl (ok_iload (by decide +kernel))⟩,
  List.forall_mem_cons.mpr ⟨⟨mo_ic _ _, Or.inl (ok_iconst (n := 0) (v := 0) (by decide) (by decide +kernel))⟩,
  List.forall_mem_cons.mpr ⟨⟨mo_ast _ _ _ _, Or.inl (ok_iast (by decide +kernel))⟩,
  List.forall_mem_cons.mpr ⟨⟨mo_al _ _, Or.inl (ok_aload_n (k := 0) rfl (by decide +kernel))⟩,
  List.forall_mem_cons.mpr ⟨⟨mo_gr _ _ _ _, Or.inl (ok_gr (C := RX6) (T := TX6) (N := 12) (ci := 6) (k := 0) rfl inX6 (by decide) fl_X6_9 (by decide +kernel) (by decide +kernel))⟩,
  List.forall_mem_cons.mpr ⟨⟨mo_gr _ _ _ _, Or.inl (ok_gr (C := RX0) (T := TX0) (N := 16) (ci := 0) (k := 7) rfl inX0 (by decide) fl_X6_56 (by decide +kernel) (by decide +kernel))⟩,
  List.forall_mem_cons.mpr ⟨⟨mo_il _ _, Or.inl (ok_iload (by decide +kernel))⟩,
  List.forall_mem_cons.mpr ⟨⟨mo_ic _ _, Or.inl (ok_iconst (n := 0) (v := 0) (by decide) (by decide +kernel))⟩,
  List.forall_mem_cons.mpr ⟨⟨mo_ast _ _ _ _, Or.inl (ok_iast (by decide +kernel))⟩,
  List.forall_mem_cons.mpr ⟨⟨mo_al _ _, Or.inl (ok_aload_n (k := 0) rfl (by decide +kernel))⟩,
  List.forall_mem_cons.mpr ⟨⟨mo_inv _ _ _ _ _, Or.inr (Or.inl (ok_inv (T := TX6) (N := 12) rfl cw_X6_next (by decide) (by decide) ml_X6_59 ci_X6_next cv_X6_next (show Cond.initialized (yX6_next).cls ∈ am_ts from ci9_RX6) ⟨by decide +kernel, by decide +kernel, by decide +kernel⟩ rfl (by decide +kernel)))⟩,
  List.forall_mem_cons.mpr ⟨⟨mo_ic _ _, Or.inl (ok_iconst (n := 0) (v := 0) (by decide) (by decide +kernel))⟩,
  List.forall_mem_cons.mpr ⟨⟨mo_is _ _, Or.inl (ok_istore (by decide) (by decide +kernel))⟩,
  List.forall_mem_cons.mpr ⟨⟨mo_il _ _, Or.inl (ok_iload (by decide +kernel))⟩,
  List.forall_mem_cons.mpr ⟨⟨mo_ic _ _, Or.inl (ok_bipush (n := 12) (v := 12) (by decide) (by decide +kernel))⟩,
  List.forall_mem_cons.mpr ⟨⟨mo_if2 _ _ _, Or.inl (ok_icmp_gt (off := 31) (by decide) (by decide +kernel))⟩,
  fun _ h => absurd h List.not_mem_nil⟩⟩⟩⟩⟩⟩⟩⟩⟩⟩⟩⟩⟩⟩⟩⟩⟩⟩⟩⟩
def t_X6_read_3 : List (Nat × am_F) := [(111, im_al 0 112), (112, im_gi q_SH 6 4 115), (115, im_if1 ib_eq 139 118), (118, im_al 0 119), (119, im_gi q_SH 6 10 122), (122, im_if1 ib_ne 139 125), (125, im_al 0 126), (126, im_il 4 128), (128, im_il 5 130), (130, im_inv q_SH 6 28 2 133), (133, im_iinc 5 1 136), (136, im_go 104), (139, im_al 0 140), (140, im_gi q_SH 6 10 143), (143, im_reti)]
set_option maxRecDepth 20000 in
theorem o_X6_read_3 : ∀ q ∈ t_X6_read_3, am_ok vwCl q_SH ξ (q_E ξ β xs L) q_EN q_KD q_ML (cX6_read, 6, RX6, "read", (some .int), []) q.1 q.2 :=
  List.forall_mem_cons.mpr ⟨⟨mo_al _ _, Or.inl (ok_aload_n (k := 0) rfl (by decide +kernel))⟩,
  List.forall_mem_cons.mpr ⟨⟨mo_gi _ _ _ _, Or.inl (ok_gi (C := RX6) (T := TX6) (N := 12) (ci := 6) (k := 4) rfl inX6 (by decide) fl_X6_62 (by decide +kernel) (by decide +kernel))⟩,
  List.forall_mem_cons.mpr ⟨⟨mo_if1 _ _ _, Or.inl (ok_if_eq (off := 24) (by decide) (by decide +kernel))⟩,
  List.forall_mem_cons.mpr ⟨⟨mo_al _ _, Or.inl (ok_aload_n (k := 0) rfl (by decide +kernel))⟩,
  List.forall_mem_cons.mpr ⟨⟨mo_gi _ _ _ _, Or.inl (ok_gi (C := RX6) (T := TX6) (N := 12) (ci := 6) (k := 10) rfl inX6 (by decide) fl_X6_35 (by decide +kernel) (by decide +kernel))⟩,
  List.forall_mem_cons.mpr ⟨⟨mo_if1 _ _ _, Or.inl (ok_if_ne (off := 17) (by decide) (by decide +kernel))⟩,
  List.forall_mem_cons.mpr ⟨⟨mo_al _ _, Or.inl (ok_aload_n (k := 0) rfl (by decide +kernel))⟩,
  List.forall_mem_cons.mpr ⟨⟨mo_il _ _, Or.inl (ok_iload (by decide +kernel))⟩,
  List.forall_mem_cons.mpr ⟨⟨mo_il _ _, Or.inl (ok_iload (by decide +kernel))⟩,
  List.forall_mem_cons.mpr ⟨⟨mo_inv _ _ _ _ _, Or.inr (Or.inl (ok_inv (T := TX6) (N := 12) rfl cw_X6_readClause (by decide) (by decide) ml_X6_65 ci_X6_readClause cv_X6_readClause (show Cond.initialized (yX6_readClause).cls ∈ am_ts from ci9_RX6) ⟨by decide +kernel, by decide +kernel, by decide +kernel⟩ rfl (by decide +kernel)))⟩,
  List.forall_mem_cons.mpr ⟨⟨mo_iinc _ _ _, Or.inl (ok_iinc (n := 1) (v := 1) (by decide) (by decide) (by decide +kernel))⟩,
  List.forall_mem_cons.mpr ⟨⟨mo_go _, Or.inl (ok_goto (off := (-32)) (by decide) (by decide +kernel))⟩,
  List.forall_mem_cons.mpr ⟨⟨mo_al _ _, Or.inl (ok_aload_n (k := 0) rfl (by decide +kernel))⟩,
  List.forall_mem_cons.mpr ⟨⟨mo_gi _ _ _ _, Or.inl (ok_gi (C := RX6) (T := TX6) (N := 12) (ci := 6) (k := 10) rfl inX6 (by decide) fl_X6_35 (by decide +kernel) (by decide +kernel))⟩,
  List.forall_mem_cons.mpr ⟨⟨mo_reti, Or.inr (Or.inr (ok_reti rfl (by decide +kernel)))⟩,
  fun _ h => absurd h List.not_mem_nil⟩⟩⟩⟩⟩⟩⟩⟩⟩⟩⟩⟩⟩⟩⟩
def t_X6_read : List (Nat × am_F) := t_X6_read_0 ++ (t_X6_read_1 ++ (t_X6_read_2 ++ (t_X6_read_3)))
theorem o_X6_read : ∀ q ∈ t_X6_read, am_ok vwCl q_SH ξ (q_E ξ β xs L) q_EN q_KD q_ML (cX6_read, 6, RX6, "read", (some .int), []) q.1 q.2 := List.forall_mem_append.mpr ⟨o_X6_read_0, List.forall_mem_append.mpr ⟨o_X6_read_1, List.forall_mem_append.mpr ⟨o_X6_read_2, o_X6_read_3⟩⟩⟩
def t_X6_readClause_0 : List (Nat × am_F) := [(0, im_al 0 1), (1, im_gi q_SH 6 4 4), (4, im_ic 3 5), (5, im_if2 ic_ne 16 8), (8, im_al 0 9), (9, im_gi q_SH 6 8 12), (12, im_ic 2 13), (13, im_if2 ic_le 22 16), (16, im_al 0 17), (17, im_ic 1 18), (18, im_inv q_SH 6 41 1 21), (21, im_ret0e), (22, im_il 2 23), (23, im_ic 12 25), (25, im_if2 ic_lt 34 28), (28, im_al 0 29), (29, im_ic 2 30), (30, im_inv q_SH 6 41 1 33), (33, im_ret0e), (34, im_il 1 35)]
set_option maxRecDepth 20000 in
theorem o_X6_readClause_0 : ∀ q ∈ t_X6_readClause_0, am_ok vwCl q_SH ξ (q_E ξ β xs L) q_EN q_KD q_ML (cX6_readClause, 4, RX6, "readClause", none, []) q.1 q.2 :=
  List.forall_mem_cons.mpr ⟨⟨mo_al _ _, Or.inl (ok_aload_n (k := 0) rfl (by decide +kernel))⟩,
  List.forall_mem_cons.mpr ⟨⟨mo_gi _ _ _ _, Or.inl (ok_gi (C := RX6) (T := TX6) (N := 12) (ci := 6) (k := 4) rfl inX6 (by decide) fl_X6_62 (by decide +kernel) (by decide +kernel))⟩,
  List.forall_mem_cons.mpr ⟨⟨mo_ic _ _, Or.inl (ok_iconst (n := 3) (v := 3) (by decide) (by decide +kernel))⟩,
  List.forall_mem_cons.mpr ⟨⟨mo_if2 _ _ _, Or.inl (ok_icmp_ne (off := 11) (by decide) (by decide +kernel))⟩,
  List.forall_mem_cons.mpr ⟨⟨mo_al _ _, Or.inl (ok_aload_n (k := 0) rfl (by decide +kernel))⟩,
  List.forall_mem_cons.mpr ⟨⟨mo_gi _ _ _ _, Or.inl (ok_gi (C := RX6) (T := TX6) (N := 12) (ci := 6) (k := 8) rfl inX6 (by decide) fl_X6_69 (by decide +kernel) (by decide +kernel))⟩,
  List.forall_mem_cons.mpr ⟨⟨mo_ic _ _, Or.inl (ok_iconst (n := 2) (v := 2) (by decide) (by decide +kernel))⟩,
  List.forall_mem_cons.mpr ⟨⟨mo_if2 _ _ _, Or.inl (ok_icmp_le (off := 9) (by decide) (by decide +kernel))⟩,
  List.forall_mem_cons.mpr ⟨⟨mo_al _ _, Or.inl (ok_aload_n (k := 0) rfl (by decide +kernel))⟩,
  List.forall_mem_cons.mpr ⟨⟨mo_ic _ _, Or.inl (ok_iconst (n := 1) (v := 1) (by decide) (by decide +kernel))⟩,
  List.forall_mem_cons.mpr ⟨⟨mo_inv _ _ _ _ _, Or.inr (Or.inl (ok_inv (T := TX6) (N := 12) rfl cw_X6_fail (by decide) (by decide) ml_X6_72 ci_X6_fail cv_X6_fail (show Cond.initialized (yX6_fail).cls ∈ am_ts from ci9_RX6) ⟨by decide +kernel, by decide +kernel, by decide +kernel⟩ rfl (by decide +kernel)))⟩,
  List.forall_mem_cons.mpr ⟨⟨mo_ret0e, Or.inr (Or.inr (ok_ret0 rfl (by decide +kernel)))⟩,
  List.forall_mem_cons.mpr ⟨⟨mo_il _ _, Or.inl (ok_iload_n (k := 2) rfl (by decide +kernel))⟩,
  List.forall_mem_cons.mpr ⟨⟨mo_ic _ _, Or.inl (ok_bipush (n := 12) (v := 12) (by decide) (by decide +kernel))⟩,
  List.forall_mem_cons.mpr ⟨⟨mo_if2 _ _ _, Or.inl (ok_icmp_lt (off := 9) (by decide) (by decide +kernel))⟩,
  List.forall_mem_cons.mpr ⟨⟨mo_al _ _, Or.inl (ok_aload_n (k := 0) rfl (by decide +kernel))⟩,
  List.forall_mem_cons.mpr ⟨⟨mo_ic _ _, Or.inl (ok_iconst (n := 2) (v := 2) (by decide) (by decide +kernel))⟩,
  List.forall_mem_cons.mpr ⟨⟨mo_inv _ _ _ _ _, Or.inr (Or.inl (ok_inv (T := TX6) (N := 12) rfl cw_X6_fail (by decide) (by decide) ml_X6_72 ci_X6_fail cv_X6_fail (show Cond.initialized (yX6_fail).cls ∈ am_ts from ci9_RX6) ⟨by decide +kernel, by decide +kernel, by decide +kernel⟩ rfl (by decide +kernel)))⟩,
  List.forall_mem_cons.mpr ⟨⟨mo_ret0e, Or.inr (Or.inr (ok_ret0 rfl (by decide +kernel)))⟩,
  List.forall_mem_cons.mpr ⟨⟨mo_il _ _, Or.inl (ok_iload_n (k := 1) rfl (by decide +kernel))⟩,
  fun _ h => absurd h List.not_mem_nil⟩⟩⟩⟩⟩⟩⟩⟩⟩⟩⟩⟩⟩⟩⟩⟩⟩⟩⟩⟩
def t_X6_readClause_1 : List (Nat × am_F) := [(35, im_ic 12 37), (37, im_bin (fun x y => x * y) 38), (38, im_il 2 39), (39, im_bin (fun x y => x + y) 40), (40, im_is 3 41), (41, im_al 0 42), (42, im_gr q_SH 6 0 45), (45, im_gr q_SH 0 8 48), (48, im_il 3 49), (49, im_al 0 50), (50, im_gi q_SH 6 8 53), (53, im_ast q_SH .int (fun x => x) 54), (54, im_al 0 55), (55, im_gr q_SH 6 0 58), (58, im_gr q_SH 0 7 61), (61, im_il 1 62), (62, im_il 2 63), (63, im_ic 1 64), (64, im_bin (fun x y => x + y) 65), (65, im_ast q_SH .int (fun x => x) 66)]
set_option maxRecDepth 20000 in
theorem o_X6_readClause_1 : ∀ q ∈ t_X6_readClause_1, am_ok vwCl q_SH ξ (q_E ξ β xs L) q_EN q_KD q_ML (cX6_readClause, 4, RX6, "readClause", none, []) q.1 q.2 :=
  List.forall_mem_cons.mpr ⟨⟨mo_ic _ _, Or.inl (ok_bipush (n := 12) (v := 12) (by decide) (by decide +kernel))⟩,
  List.forall_mem_cons.mpr ⟨⟨mo_bin _ _, Or.inl (ok_imul (by decide +kernel))⟩,
  List.forall_mem_cons.mpr ⟨⟨mo_il _ _, Or.inl (ok_iload_n (k := 2) rfl (by decide +kernel))⟩,
  List.forall_mem_cons.mpr ⟨⟨mo_bin _ _, Or.inl (ok_iadd (by decide +kernel))⟩,
  List.forall_mem_cons.mpr ⟨⟨mo_is _ _, Or.inl (ok_istore_n (k := 3) rfl (by decide) (by decide +kernel))⟩,
  List.forall_mem_cons.mpr ⟨⟨mo_al _ _, Or.inl (ok_aload_n (k := 0) rfl (by decide +kernel))⟩,
  List.forall_mem_cons.mpr ⟨⟨mo_gr _ _ _ _, Or.inl (ok_gr (C := RX6) (T := TX6) (N := 12) (ci := 6) (k := 0) rfl inX6 (by decide) fl_X6_9 (by decide +kernel) (by decide +kernel))⟩,
  List.forall_mem_cons.mpr ⟨⟨mo_gr _ _ _ _, Or.inl (ok_gr (C := RX0) (T := TX0) (N := 16) (ci := 0) (k := 8) rfl inX0 (by decide) fl_X6_76 (by decide +kernel) (by decide +kernel))⟩,
  List.forall_mem_cons.mpr ⟨⟨mo_il _ _, Or.inl (ok_iload_n (k := 3) rfl (by decide +kernel))⟩,
  List.forall_mem_cons.mpr ⟨⟨mo_al _ _, Or.inl (ok_aload_n (k := 0) rfl (by decide +kernel))⟩,
  List.forall_mem_cons.mpr ⟨⟨mo_gi _ _ _ _, Or.inl (ok_gi (C := RX6) (T := TX6) (N := 12) (ci := 6) (k := 8) rfl inX6 (by decide) fl_X6_69 (by decide +kernel) (by decide +kernel))⟩,
  List.forall_mem_cons.mpr ⟨⟨mo_ast _ _ _ _, Or.inl (ok_iast (by decide +kernel))⟩,
  List.forall_mem_cons.mpr ⟨⟨mo_al _ _, Or.inl (ok_aload_n (k := 0) rfl (by decide +kernel))⟩,
  List.forall_mem_cons.mpr ⟨⟨mo_gr _ _ _ _, Or.inl (ok_gr (C := RX6) (T := TX6) (N := 12) (ci := 6) (k := 0) rfl inX6 (by decide) fl_X6_9 (by decide +kernel) (by decide +kernel))⟩,
  List.forall_mem_cons.mpr ⟨⟨mo_gr _ _ _ _, Or.inl (ok_gr (C := RX0) (T := TX0) (N := 16) (ci := 0) (k := 7) rfl inX0 (by decide) fl_X6_56 (by decide +kernel) (by decide +kernel))⟩,
  List.forall_mem_cons.mpr ⟨⟨mo_il _ _, Or.inl (ok_iload_n (k := 1) rfl (by decide +kernel))⟩,
  List.forall_mem_cons.mpr ⟨⟨mo_il _ _, Or.inl (ok_iload_n (k := 2) rfl (by decide +kernel))⟩,
  List.forall_mem_cons.mpr ⟨⟨mo_ic _ _, Or.inl (ok_iconst (n := 1) (v := 1) (by decide) (by decide +kernel))⟩,
  List.forall_mem_cons.mpr ⟨⟨mo_bin _ _, Or.inl (ok_iadd (by decide +kernel))⟩,
  List.forall_mem_cons.mpr ⟨⟨mo_ast _ _ _ _, Or.inl (ok_iast (by decide +kernel))⟩,
  fun _ h => absurd h List.not_mem_nil⟩⟩⟩⟩⟩⟩⟩⟩⟩⟩⟩⟩⟩⟩⟩⟩⟩⟩⟩⟩
def t_X6_readClause_2 : List (Nat × am_F) := [(66, im_al 0 67), (67, im_inv q_SH 6 43 0 70), (70, im_al 0 71), (71, im_gr q_SH 6 0 74), (74, im_gr q_SH 0 8 77), (77, im_il 3 78), (78, im_ald q_SH .int 79), (79, im_ic 2 80), (80, im_if2 ic_ne 91 83), (83, im_al 0 84), (84, im_il 1 85), (85, im_inv q_SH 6 29 1 88), (88, im_go 97), (91, im_al 0 92), (92, im_il 1 93), (93, im_il 3 94), (94, im_inv q_SH 6 30 2 97), (97, im_al 0 98), (98, im_ic 59 100), (100, im_inv q_SH 6 40 1 103)]
set_option maxRecDepth 20000 in
theorem o_X6_readClause_2 : ∀ q ∈ t_X6_readClause_2, am_ok vwCl q_SH ξ (q_E ξ β xs L) q_EN q_KD q_ML (cX6_readClause, 4, RX6, "readClause", none, []) q.1 q.2 :=
  List.forall_mem_cons.mpr ⟨⟨mo_al _ _, Or.inl (ok_aload_n (k := 0) rfl (by decide +kernel))⟩,
  List.forall_mem_cons.mpr ⟨⟨mo_inv _ _ _ _ _, Or.inr (Or.inl (ok_inv (T := TX6) (N := 12) rfl cw_X6_next (by decide) (by decide) ml_X6_59 ci_X6_next cv_X6_next (show Cond.initialized (yX6_next).cls ∈ am_ts from ci9_RX6) ⟨by decide +kernel, by decide +kernel, by decide +kernel⟩ rfl (by decide +kernel)))⟩,
  List.forall_mem_cons.mpr ⟨⟨mo_al _ _, Or.inl (ok_aload_n (k := 0) rfl (by decide +kernel))⟩,
  List.forall_mem_cons.mpr ⟨⟨mo_gr _ _ _ _, Or.inl (ok_gr (C := RX6) (T := TX6) (N := 12) (ci := 6) (k := 0) rfl inX6 (by decide) fl_X6_9 (by decide +kernel) (by decide +kernel))⟩,
  List.forall_mem_cons.mpr ⟨⟨mo_gr _ _ _ _, Or.inl (ok_gr (C := RX0) (T := TX0) (N := 16) (ci := 0) (k := 8) rfl inX0 (by decide) fl_X6_76 (by decide +kernel) (by decide +kernel))⟩,
  List.forall_mem_cons.mpr ⟨⟨mo_il _ _, Or.inl (ok_iload_n (k := 3) rfl (by decide +kernel))⟩,
  List.forall_mem_cons.mpr ⟨⟨mo_ald _ _ _, Or.inl (ok_iald (by decide +kernel))⟩,
  List.forall_mem_cons.mpr ⟨⟨mo_ic _ _, Or.inl (ok_iconst (n := 2) (v := 2) (by decide) (by decide +kernel))⟩,
  List.forall_mem_cons.mpr ⟨⟨mo_if2 _ _ _, Or.inl (ok_icmp_ne (off := 11) (by decide) (by decide +kernel))⟩,
  List.forall_mem_cons.mpr ⟨⟨mo_al _ _, Or.inl (ok_aload_n (k := 0) rfl (by decide +kernel))⟩,
  List.forall_mem_cons.mpr ⟨⟨mo_il _ _, Or.inl (ok_iload_n (k := 1) rfl (by decide +kernel))⟩,
  List.forall_mem_cons.mpr ⟨⟨mo_inv _ _ _ _ _, Or.inr (Or.inl (ok_inv (T := TX6) (N := 12) rfl cw_X6_readStrike (by decide) (by decide) ml_X6_79 ci_X6_readStrike cv_X6_readStrike (show Cond.initialized (yX6_readStrike).cls ∈ am_ts from ci9_RX6) ⟨by decide +kernel, by decide +kernel, by decide +kernel⟩ rfl (by decide +kernel)))⟩,
  List.forall_mem_cons.mpr ⟨⟨mo_go _, Or.inl (ok_goto (off := 9) (by decide) (by decide +kernel))⟩,
  List.forall_mem_cons.mpr ⟨⟨mo_al _ _, Or.inl (ok_aload_n (k := 0) rfl (by decide +kernel))⟩,
  List.forall_mem_cons.mpr ⟨⟨mo_il _ _, Or.inl (ok_iload_n (k := 1) rfl (by decide +kernel))⟩,
  List.forall_mem_cons.mpr ⟨⟨mo_il _ _, Or.inl (ok_iload_n (k := 3) rfl (by decide +kernel))⟩,
  List.forall_mem_cons.mpr ⟨⟨mo_inv _ _ _ _ _, Or.inr (Or.inl (ok_inv (T := TX6) (N := 12) rfl cw_X6_readBond (by decide) (by decide) ml_X6_82 ci_X6_readBond cv_X6_readBond (show Cond.initialized (yX6_readBond).cls ∈ am_ts from ci9_RX6) ⟨by decide +kernel, by decide +kernel, by decide +kernel⟩ rfl (by decide +kernel)))⟩,
  List.forall_mem_cons.mpr ⟨⟨mo_al _ _, Or.inl (ok_aload_n (k := 0) rfl (by decide +kernel))⟩,
  List.forall_mem_cons.mpr ⟨⟨mo_ic _ _, Or.inl (ok_bipush (n := 59) (v := 59) (by decide) (by decide +kernel))⟩,
  List.forall_mem_cons.mpr ⟨⟨mo_inv _ _ _ _ _, Or.inr (Or.inl (ok_inv (T := TX6) (N := 12) rfl cw_X6_expect (by decide) (by decide) ml_X6_85 ci_X6_expect cv_X6_expect (show Cond.initialized (yX6_expect).cls ∈ am_ts from ci9_RX6) ⟨by decide +kernel, by decide +kernel, by decide +kernel⟩ rfl (by decide +kernel)))⟩,
  fun _ h => absurd h List.not_mem_nil⟩⟩⟩⟩⟩⟩⟩⟩⟩⟩⟩⟩⟩⟩⟩⟩⟩⟩⟩⟩
def t_X6_readClause_3 : List (Nat × am_F) := [(103, im_ret0e)]
set_option maxRecDepth 20000 in
theorem o_X6_readClause_3 : ∀ q ∈ t_X6_readClause_3, am_ok vwCl q_SH ξ (q_E ξ β xs L) q_EN q_KD q_ML (cX6_readClause, 4, RX6, "readClause", none, []) q.1 q.2 :=
  List.forall_mem_cons.mpr ⟨⟨mo_ret0e, Or.inr (Or.inr (ok_ret0 rfl (by decide +kernel)))⟩,
  fun _ h => absurd h List.not_mem_nil⟩
def t_X6_readClause : List (Nat × am_F) := t_X6_readClause_0 ++ (t_X6_readClause_1 ++ (t_X6_readClause_2 ++ (t_X6_readClause_3)))
theorem o_X6_readClause : ∀ q ∈ t_X6_readClause, am_ok vwCl q_SH ξ (q_E ξ β xs L) q_EN q_KD q_ML (cX6_readClause, 4, RX6, "readClause", none, []) q.1 q.2 := List.forall_mem_append.mpr ⟨o_X6_readClause_0, List.forall_mem_append.mpr ⟨o_X6_readClause_1, List.forall_mem_append.mpr ⟨o_X6_readClause_2, o_X6_readClause_3⟩⟩⟩
def t_X6_readStrike_0 : List (Nat × am_F) := [(0, im_al 0 1), (1, im_inv q_SH 6 39 0 4), (4, im_if1 ib_ne 8 7), (7, im_ret0e), (8, im_al 0 9), (9, im_gi q_SH 6 7 12), (12, im_il 1 13), (13, im_if2 ic_ge 40 16), (16, im_al 0 17), (17, im_gr q_SH 6 0 20), (20, im_gr q_SH 0 0 23), (23, im_al 0 24), (24, im_gi q_SH 6 7 27), (27, im_ald q_SH .int 28), (28, im_al 0 29), (29, im_gr q_SH 6 0 32), (32, im_gr q_SH 0 0 35), (35, im_il 1 36), (36, im_ald q_SH .int 37), (37, im_if2 ic_eq 46 40)]
set_option maxRecDepth 20000 in
theorem o_X6_readStrike_0 : ∀ q ∈ t_X6_readStrike_0, am_ok vwCl q_SH ξ (q_E ξ β xs L) q_EN q_KD q_ML (cX6_readStrike, 2, RX6, "readStrike", none, []) q.1 q.2 :=
  List.forall_mem_cons.mpr ⟨⟨mo_al _ _, Or.inl (ok_aload_n (k := 0) rfl (by decide +kernel))⟩,
  List.forall_mem_cons.mpr ⟨⟨mo_inv _ _ _ _ _, Or.inr (Or.inl (ok_inv (T := TX6) (N := 12) rfl cw_X6_isNumberHere (by decide) (by decide) ml_X6_88 ci_X6_isNumberHere cv_X6_isNumberHere (show Cond.initialized (yX6_isNumberHere).cls ∈ am_ts from ci9_RX6) ⟨by decide +kernel, by decide +kernel, by decide +kernel⟩ rfl (by decide +kernel)))⟩,
  List.forall_mem_cons.mpr ⟨⟨mo_if1 _ _ _, Or.inl (ok_if_ne (off := 4) (by decide) (by decide +kernel))⟩,
  List.forall_mem_cons.mpr ⟨⟨mo_ret0e, Or.inr (Or.inr (ok_ret0 rfl (by decide +kernel)))⟩,
  List.forall_mem_cons.mpr ⟨⟨mo_al _ _, Or.inl (ok_aload_n (k := 0) rfl (by decide +kernel))⟩,
  List.forall_mem_cons.mpr ⟨⟨mo_gi _ _ _ _, Or.inl (ok_gi (C := RX6) (T := TX6) (N := 12) (ci := 6) (k := 7) rfl inX6 (by decide) fl_X6_92 (by decide +kernel) (by decide +kernel))⟩,
  List.forall_mem_cons.mpr ⟨⟨mo_il _ _, Or.inl (ok_iload_n (k := 1) rfl (by decide +kernel))⟩,
  List.forall_mem_cons.mpr ⟨⟨mo_if2 _ _ _, Or.inl (ok_icmp_ge (off := 27) (by decide) (by decide +kernel))⟩,
  List.forall_mem_cons.mpr ⟨⟨mo_al _ _, Or.inl (ok_aload_n (k := 0) rfl (by decide +kernel))⟩,
  List.forall_mem_cons.mpr ⟨⟨mo_gr _ _ _ _, Or.inl (ok_gr (C := RX6) (T := TX6) (N := 12) (ci := 6) (k := 0) rfl inX6 (by decide) fl_X6_9 (by decide +kernel) (by decide +kernel))⟩,
  List.forall_mem_cons.mpr ⟨⟨mo_gr _ _ _ _, Or.inl (ok_gr (C := RX0) (T := TX0) (N := 16) (ci := 0) (k := 0) rfl inX0 (by decide) fl_X6_46 (by decide +kernel) (by decide +kernel))⟩,
  List.forall_mem_cons.mpr ⟨⟨mo_al _ _, Or.inl (ok_aload_n (k := 0) rfl (by decide +kernel))⟩,
  List.forall_mem_cons.mpr ⟨⟨mo_gi _ _ _ _, Or.inl (ok_gi (C := RX6) (T := TX6) (N := 12) (ci := 6) (k := 7) rfl inX6 (by decide) fl_X6_92 (by decide +kernel) (by decide +kernel))⟩,
  List.forall_mem_cons.mpr ⟨⟨mo_ald _ _ _, Or.inl (ok_iald (by decide +kernel))⟩,
  List.forall_mem_cons.mpr ⟨⟨mo_al _ _, Or.inl (ok_aload_n (k := 0) rfl (by decide +kernel))⟩,
  List.forall_mem_cons.mpr ⟨⟨mo_gr _ _ _ _, Or.inl (ok_gr (C := RX6) (T := TX6) (N := 12) (ci := 6) (k := 0) rfl inX6 (by decide) fl_X6_9 (by decide +kernel) (by decide +kernel))⟩,
  List.forall_mem_cons.mpr ⟨⟨mo_gr _ _ _ _, Or.inl (ok_gr (C := RX0) (T := TX0) (N := 16) (ci := 0) (k := 0) rfl inX0 (by decide) fl_X6_46 (by decide +kernel) (by decide +kernel))⟩,
  List.forall_mem_cons.mpr ⟨⟨mo_il _ _, Or.inl (ok_iload_n (k := 1) rfl (by decide +kernel))⟩,
  List.forall_mem_cons.mpr ⟨⟨mo_ald _ _ _, Or.inl (ok_iald (by decide +kernel))⟩,
  List.forall_mem_cons.mpr ⟨⟨mo_if2 _ _ _, Or.inl (ok_icmp_eq (off := 9) (by decide) (by decide +kernel))⟩,
  fun _ h => absurd h List.not_mem_nil⟩⟩⟩⟩⟩⟩⟩⟩⟩⟩⟩⟩⟩⟩⟩⟩⟩⟩⟩⟩
def t_X6_readStrike_1 : List (Nat × am_F) := [(40, im_al 0 41), (41, im_ic 4 42), (42, im_inv q_SH 6 41 1 45), (45, im_ret0e), (46, im_al 0 47), (47, im_gr q_SH 6 0 50), (50, im_gr q_SH 0 5 53), (53, im_il 1 54), (54, im_dup2 55), (55, im_ald q_SH .int 56), (56, im_ic 1 57), (57, im_al 0 58), (58, im_gi q_SH 6 7 61), (61, im_bin (fun x y => x <<< (y &&& 31)) 62), (62, im_bin (fun x y => x ||| y) 63), (63, im_ast q_SH .int (fun x => x) 64), (64, im_al 0 65), (65, im_inv q_SH 6 43 0 68), (68, im_ret0e)]
set_option maxRecDepth 20000 in
theorem o_X6_readStrike_1 : ∀ q ∈ t_X6_readStrike_1, am_ok vwCl q_SH ξ (q_E ξ β xs L) q_EN q_KD q_ML (cX6_readStrike, 2, RX6, "readStrike", none, []) q.1 q.2 :=
  List.forall_mem_cons.mpr ⟨⟨mo_al _ _, Or.inl (ok_aload_n (k := 0) rfl (by decide +kernel))⟩,
  List.forall_mem_cons.mpr ⟨⟨mo_ic _ _, Or.inl (ok_iconst (n := 4) (v := 4) (by decide) (by decide +kernel))⟩,
  List.forall_mem_cons.mpr ⟨⟨mo_inv _ _ _ _ _, Or.inr (Or.inl (ok_inv (T := TX6) (N := 12) rfl cw_X6_fail (by decide) (by decide) ml_X6_72 ci_X6_fail cv_X6_fail (show Cond.initialized (yX6_fail).cls ∈ am_ts from ci9_RX6) ⟨by decide +kernel, by decide +kernel, by decide +kernel⟩ rfl (by decide +kernel)))⟩,
  List.forall_mem_cons.mpr ⟨⟨mo_ret0e, Or.inr (Or.inr (ok_ret0 rfl (by decide +kernel)))⟩,
  List.forall_mem_cons.mpr ⟨⟨mo_al _ _, Or.inl (ok_aload_n (k := 0) rfl (by decide +kernel))⟩,
  List.forall_mem_cons.mpr ⟨⟨mo_gr _ _ _ _, Or.inl (ok_gr (C := RX6) (T := TX6) (N := 12) (ci := 6) (k := 0) rfl inX6 (by decide) fl_X6_9 (by decide +kernel) (by decide +kernel))⟩,
  List.forall_mem_cons.mpr ⟨⟨mo_gr _ _ _ _, Or.inl (ok_gr (C := RX0) (T := TX0) (N := 16) (ci := 0) (k := 5) rfl inX0 (by decide) fl_X6_50 (by decide +kernel) (by decide +kernel))⟩,
  List.forall_mem_cons.mpr ⟨⟨mo_il _ _, Or.inl (ok_iload_n (k := 1) rfl (by decide +kernel))⟩,
  List.forall_mem_cons.mpr ⟨⟨mo_dup2 _, Or.inl (ok_dup2 (by decide +kernel))⟩,
  List.forall_mem_cons.mpr ⟨⟨mo_ald _ _ _, Or.inl (ok_iald (by decide +kernel))⟩,
  List.forall_mem_cons.mpr ⟨⟨mo_ic _ _, Or.inl (ok_iconst (n := 1) (v := 1) (by decide) (by decide +kernel))⟩,
  List.forall_mem_cons.mpr ⟨⟨mo_al _ _, Or.inl (ok_aload_n (k := 0) rfl (by decide +kernel))⟩,
  List.forall_mem_cons.mpr ⟨⟨mo_gi _ _ _ _, Or.inl (ok_gi (C := RX6) (T := TX6) (N := 12) (ci := 6) (k := 7) rfl inX6 (by decide) fl_X6_92 (by decide +kernel) (by decide +kernel))⟩,
  List.forall_mem_cons.mpr ⟨⟨mo_bin _ _, Or.inl (ok_ishl (by decide +kernel))⟩,
  List.forall_mem_cons.mpr ⟨⟨mo_bin _ _, Or.inl (ok_ior (by decide +kernel))⟩,
  List.forall_mem_cons.mpr ⟨⟨mo_ast _ _ _ _, Or.inl (ok_iast (by decide +kernel))⟩,
  List.forall_mem_cons.mpr ⟨⟨mo_al _ _, Or.inl (ok_aload_n (k := 0) rfl (by decide +kernel))⟩,
  List.forall_mem_cons.mpr ⟨⟨mo_inv _ _ _ _ _, Or.inr (Or.inl (ok_inv (T := TX6) (N := 12) rfl cw_X6_next (by decide) (by decide) ml_X6_59 ci_X6_next cv_X6_next (show Cond.initialized (yX6_next).cls ∈ am_ts from ci9_RX6) ⟨by decide +kernel, by decide +kernel, by decide +kernel⟩ rfl (by decide +kernel)))⟩,
  List.forall_mem_cons.mpr ⟨⟨mo_ret0e, Or.inr (Or.inr (ok_ret0 rfl (by decide +kernel)))⟩,
  fun _ h => absurd h List.not_mem_nil⟩⟩⟩⟩⟩⟩⟩⟩⟩⟩⟩⟩⟩⟩⟩⟩⟩⟩⟩
def t_X6_readStrike : List (Nat × am_F) := t_X6_readStrike_0 ++ (t_X6_readStrike_1)
theorem o_X6_readStrike : ∀ q ∈ t_X6_readStrike, am_ok vwCl q_SH ξ (q_E ξ β xs L) q_EN q_KD q_ML (cX6_readStrike, 2, RX6, "readStrike", none, []) q.1 q.2 := List.forall_mem_append.mpr ⟨o_X6_readStrike_0, o_X6_readStrike_1⟩
def t_X6_readBond_0 : List (Nat × am_F) := [(0, im_al 0 1), (1, im_gi q_SH 6 4 4), (4, im_ic 3 5), (5, im_if2 ic_ne 26 8), (8, im_al 0 9), (9, im_gi q_SH 6 8 12), (12, im_ic 8 14), (14, im_if2 ic_lt 26 17), (17, im_al 0 18), (18, im_gi q_SH 6 8 21), (21, im_ic 15 23), (23, im_if2 ic_lt 32 26), (26, im_al 0 27), (27, im_ic 1 28), (28, im_inv q_SH 6 41 1 31), (31, im_ret0e), (32, im_al 0 33), (33, im_gr q_SH 6 0 36), (36, im_gr q_SH 0 9 39), (39, im_il 2 40)]
set_option maxRecDepth 20000 in
theorem o_X6_readBond_0 : ∀ q ∈ t_X6_readBond_0, am_ok vwCl q_SH ξ (q_E ξ β xs L) q_EN q_KD q_ML (cX6_readBond, 3, RX6, "readBond", none, []) q.1 q.2 :=
  List.forall_mem_cons.mpr ⟨⟨mo_al _ _, Or.inl (ok_aload_n (k := 0) rfl (by decide +kernel))⟩,
  List.forall_mem_cons.mpr ⟨⟨mo_gi _ _ _ _, Or.inl (ok_gi (C := RX6) (T := TX6) (N := 12) (ci := 6) (k := 4) rfl inX6 (by decide) fl_X6_62 (by decide +kernel) (by decide +kernel))⟩,
  List.forall_mem_cons.mpr ⟨⟨mo_ic _ _, Or.inl (ok_iconst (n := 3) (v := 3) (by decide) (by decide +kernel))⟩,
  List.forall_mem_cons.mpr ⟨⟨mo_if2 _ _ _, Or.inl (ok_icmp_ne (off := 21) (by decide) (by decide +kernel))⟩,
  List.forall_mem_cons.mpr ⟨⟨mo_al _ _, Or.inl (ok_aload_n (k := 0) rfl (by decide +kernel))⟩,
  List.forall_mem_cons.mpr ⟨⟨mo_gi _ _ _ _, Or.inl (ok_gi (C := RX6) (T := TX6) (N := 12) (ci := 6) (k := 8) rfl inX6 (by decide) fl_X6_69 (by decide +kernel) (by decide +kernel))⟩,
  List.forall_mem_cons.mpr ⟨⟨mo_ic _ _, Or.inl (ok_bipush (n := 8) (v := 8) (by decide) (by decide +kernel))⟩,
  List.forall_mem_cons.mpr ⟨⟨mo_if2 _ _ _, Or.inl (ok_icmp_lt (off := 12) (by decide) (by decide +kernel))⟩,
  List.forall_mem_cons.mpr ⟨⟨mo_al _ _, Or.inl (ok_aload_n (k := 0) rfl (by decide +kernel))⟩,
  List.forall_mem_cons.mpr ⟨⟨mo_gi _ _ _ _, Or.inl (ok_gi (C := RX6) (T := TX6) (N := 12) (ci := 6) (k := 8) rfl inX6 (by decide) fl_X6_69 (by decide +kernel) (by decide +kernel))⟩,
  List.forall_mem_cons.mpr ⟨⟨mo_ic _ _, Or.inl (ok_bipush (n := 15) (v := 15) (by decide) (by decide +kernel))⟩,
  List.forall_mem_cons.mpr ⟨⟨mo_if2 _ _ _, Or.inl (ok_icmp_lt (off := 9) (by decide) (by decide +kernel))⟩,
  List.forall_mem_cons.mpr ⟨⟨mo_al _ _, Or.inl (ok_aload_n (k := 0) rfl (by decide +kernel))⟩,
  List.forall_mem_cons.mpr ⟨⟨mo_ic _ _, Or.inl (ok_iconst (n := 1) (v := 1) (by decide) (by decide +kernel))⟩,
  List.forall_mem_cons.mpr ⟨⟨mo_inv _ _ _ _ _, Or.inr (Or.inl (ok_inv (T := TX6) (N := 12) rfl cw_X6_fail (by decide) (by decide) ml_X6_72 ci_X6_fail cv_X6_fail (show Cond.initialized (yX6_fail).cls ∈ am_ts from ci9_RX6) ⟨by decide +kernel, by decide +kernel, by decide +kernel⟩ rfl (by decide +kernel)))⟩,
  List.forall_mem_cons.mpr ⟨⟨mo_ret0e, Or.inr (Or.inr (ok_ret0 rfl (by decide +kernel)))⟩,
  List.forall_mem_cons.mpr ⟨⟨mo_al _ _, Or.inl (ok_aload_n (k := 0) rfl (by decide +kernel))⟩,
  List.forall_mem_cons.mpr ⟨⟨mo_gr _ _ _ _, Or.inl (ok_gr (C := RX6) (T := TX6) (N := 12) (ci := 6) (k := 0) rfl inX6 (by decide) fl_X6_9 (by decide +kernel) (by decide +kernel))⟩,
  List.forall_mem_cons.mpr ⟨⟨mo_gr _ _ _ _, Or.inl (ok_gr (C := RX0) (T := TX0) (N := 16) (ci := 0) (k := 9) rfl inX0 (by decide) fl_X6_95 (by decide +kernel) (by decide +kernel))⟩,
  List.forall_mem_cons.mpr ⟨⟨mo_il _ _, Or.inl (ok_iload_n (k := 2) rfl (by decide +kernel))⟩,
  fun _ h => absurd h List.not_mem_nil⟩⟩⟩⟩⟩⟩⟩⟩⟩⟩⟩⟩⟩⟩⟩⟩⟩⟩⟩⟩
def t_X6_readBond_1 : List (Nat × am_F) := [(40, im_al 0 41), (41, im_gi q_SH 6 8 44), (44, im_ic 8 46), (46, im_bin (fun x y => x - y) 47), (47, im_ast q_SH .int (fun x => x) 48), (48, im_al 0 49), (49, im_gr q_SH 6 0 52), (52, im_gr q_SH 0 6 55), (55, im_il 1 56), (56, im_dup2 57), (57, im_ald q_SH .int 58), (58, im_ic 1 59), (59, im_al 0 60), (60, im_gi q_SH 6 8 63), (63, im_ic 8 65), (65, im_bin (fun x y => x - y) 66), (66, im_bin (fun x y => x <<< (y &&& 31)) 67), (67, im_bin (fun x y => x ||| y) 68), (68, im_ast q_SH .int (fun x => x) 69), (69, im_al 0 70)]
set_option maxRecDepth 20000 in
theorem o_X6_readBond_1 : ∀ q ∈ t_X6_readBond_1, am_ok vwCl q_SH ξ (q_E ξ β xs L) q_EN q_KD q_ML (cX6_readBond, 3, RX6, "readBond", none, []) q.1 q.2 :=
  List.forall_mem_cons.mpr ⟨⟨mo_al _ _, Or.inl (ok_aload_n (k := 0) rfl (by decide +kernel))⟩,
  List.forall_mem_cons.mpr ⟨⟨mo_gi _ _ _ _, Or.inl (ok_gi (C := RX6) (T := TX6) (N := 12) (ci := 6) (k := 8) rfl inX6 (by decide) fl_X6_69 (by decide +kernel) (by decide +kernel))⟩,
  List.forall_mem_cons.mpr ⟨⟨mo_ic _ _, Or.inl (ok_bipush (n := 8) (v := 8) (by decide) (by decide +kernel))⟩,
  List.forall_mem_cons.mpr ⟨⟨mo_bin _ _, Or.inl (ok_isub (by decide +kernel))⟩,
  List.forall_mem_cons.mpr ⟨⟨mo_ast _ _ _ _, Or.inl (ok_iast (by decide +kernel))⟩,
  List.forall_mem_cons.mpr ⟨⟨mo_al _ _, Or.inl (ok_aload_n (k := 0) rfl (by decide +kernel))⟩,
  List.forall_mem_cons.mpr ⟨⟨mo_gr _ _ _ _, Or.inl (ok_gr (C := RX6) (T := TX6) (N := 12) (ci := 6) (k := 0) rfl inX6 (by decide) fl_X6_9 (by decide +kernel) (by decide +kernel))⟩,
  List.forall_mem_cons.mpr ⟨⟨mo_gr _ _ _ _, Or.inl (ok_gr (C := RX0) (T := TX0) (N := 16) (ci := 0) (k := 6) rfl inX0 (by decide) fl_X6_53 (by decide +kernel) (by decide +kernel))⟩,
  List.forall_mem_cons.mpr ⟨⟨mo_il _ _, Or.inl (ok_iload_n (k := 1) rfl (by decide +kernel))⟩,
  List.forall_mem_cons.mpr ⟨⟨mo_dup2 _, Or.inl (ok_dup2 (by decide +kernel))⟩,
  List.forall_mem_cons.mpr ⟨⟨mo_ald _ _ _, Or.inl (ok_iald (by decide +kernel))⟩,
  List.forall_mem_cons.mpr ⟨⟨mo_ic _ _, Or.inl (ok_iconst (n := 1) (v := 1) (by decide) (by decide +kernel))⟩,
  List.forall_mem_cons.mpr ⟨⟨mo_al _ _, Or.inl (ok_aload_n (k := 0) rfl (by decide +kernel))⟩,
  List.forall_mem_cons.mpr ⟨⟨mo_gi _ _ _ _, Or.inl (ok_gi (C := RX6) (T := TX6) (N := 12) (ci := 6) (k := 8) rfl inX6 (by decide) fl_X6_69 (by decide +kernel) (by decide +kernel))⟩,
  List.forall_mem_cons.mpr ⟨⟨mo_ic _ _, Or.inl (ok_bipush (n := 8) (v := 8) (by decide) (by decide +kernel))⟩,
  List.forall_mem_cons.mpr ⟨⟨mo_bin _ _, Or.inl (ok_isub (by decide +kernel))⟩,
  List.forall_mem_cons.mpr ⟨⟨mo_bin _ _, Or.inl (ok_ishl (by decide +kernel))⟩,
  List.forall_mem_cons.mpr ⟨⟨mo_bin _ _, Or.inl (ok_ior (by decide +kernel))⟩,
  List.forall_mem_cons.mpr ⟨⟨mo_ast _ _ _ _, Or.inl (ok_iast (by decide +kernel))⟩,
  List.forall_mem_cons.mpr ⟨⟨mo_al _ _, Or.inl (ok_aload_n (k := 0) rfl (by decide +kernel))⟩,
  fun _ h => absurd h List.not_mem_nil⟩⟩⟩⟩⟩⟩⟩⟩⟩⟩⟩⟩⟩⟩⟩⟩⟩⟩⟩⟩
def t_X6_readBond_2 : List (Nat × am_F) := [(70, im_inv q_SH 6 43 0 73), (73, im_al 0 74), (74, im_gr q_SH 6 0 77), (77, im_gr q_SH 0 10 80), (80, im_il 2 81), (81, im_al 0 82), (82, im_gi q_SH 6 9 85), (85, im_ast q_SH .int (fun x => x) 86), (86, im_al 0 87), (87, im_ic 0 88), (88, im_inv q_SH 6 31 1 91), (91, im_al 0 92), (92, im_gr q_SH 6 0 95), (95, im_gr q_SH 0 11 98), (98, im_il 2 99), (99, im_al 0 100), (100, im_gi q_SH 6 9 103), (103, im_ast q_SH .int (fun x => x) 104), (104, im_al 0 105), (105, im_ic 3 106)]
set_option maxRecDepth 20000 in
theorem o_X6_readBond_2 : ∀ q ∈ t_X6_readBond_2, am_ok vwCl q_SH ξ (q_E ξ β xs L) q_EN q_KD q_ML (cX6_readBond, 3, RX6, "readBond", none, []) q.1 q.2 :=
  List.forall_mem_cons.mpr ⟨⟨mo_inv _ _ _ _ _, Or.inr (Or.inl (ok_inv (T := TX6) (N := 12) rfl cw_X6_next (by decide) (by decide) ml_X6_59 ci_X6_next cv_X6_next (show Cond.initialized (yX6_next).cls ∈ am_ts from ci9_RX6) ⟨by decide +kernel, by decide +kernel, by decide +kernel⟩ rfl (by decide +kernel)))⟩,
  List.forall_mem_cons.mpr ⟨⟨mo_al _ _, Or.inl (ok_aload_n (k := 0) rfl (by decide +kernel))⟩,
  List.forall_mem_cons.mpr ⟨⟨mo_gr _ _ _ _, Or.inl (ok_gr (C := RX6) (T := TX6) (N := 12) (ci := 6) (k := 0) rfl inX6 (by decide) fl_X6_9 (by decide +kernel) (by decide +kernel))⟩,
  List.forall_mem_cons.mpr ⟨⟨mo_gr _ _ _ _, Or.inl (ok_gr (C := RX0) (T := TX0) (N := 16) (ci := 0) (k := 10) rfl inX0 (by decide) fl_X6_98 (by decide +kernel) (by decide +kernel))⟩,
  List.forall_mem_cons.mpr ⟨⟨mo_il _ _, Or.inl (ok_iload_n (k := 2) rfl (by decide +kernel))⟩,
  List.forall_mem_cons.mpr ⟨⟨mo_al _ _, Or.inl (ok_aload_n (k := 0) rfl (by decide +kernel))⟩,
  List.forall_mem_cons.mpr ⟨⟨mo_gi _ _ _ _, Or.inl (ok_gi (C := RX6) (T := TX6) (N := 12) (ci := 6) (k := 9) rfl inX6 (by decide) fl_X6_43 (by decide +kernel) (by decide +kernel))⟩,
  List.forall_mem_cons.mpr ⟨⟨mo_ast _ _ _ _, Or.inl (ok_iast (by decide +kernel))⟩,
  List.forall_mem_cons.mpr ⟨⟨mo_al _ _, Or.inl (ok_aload_n (k := 0) rfl (by decide +kernel))⟩,
  List.forall_mem_cons.mpr ⟨⟨mo_ic _ _, Or.inl (ok_iconst (n := 0) (v := 0) (by decide) (by decide +kernel))⟩,
  List.forall_mem_cons.mpr ⟨⟨mo_inv _ _ _ _ _, Or.inr (Or.inl (ok_inv (T := TX6) (N := 12) rfl cw_X6_readEither (by decide) (by decide) ml_X6_101 ci_X6_readEither cv_X6_readEither (show Cond.initialized (yX6_readEither).cls ∈ am_ts from ci9_RX6) ⟨by decide +kernel, by decide +kernel, by decide +kernel⟩ rfl (by decide +kernel)))⟩,
  List.forall_mem_cons.mpr ⟨⟨mo_al _ _, Or.inl (ok_aload_n (k := 0) rfl (by decide +kernel))⟩,
  List.forall_mem_cons.mpr ⟨⟨mo_gr _ _ _ _, Or.inl (ok_gr (C := RX6) (T := TX6) (N := 12) (ci := 6) (k := 0) rfl inX6 (by decide) fl_X6_9 (by decide +kernel) (by decide +kernel))⟩,
  List.forall_mem_cons.mpr ⟨⟨mo_gr _ _ _ _, Or.inl (ok_gr (C := RX0) (T := TX0) (N := 16) (ci := 0) (k := 11) rfl inX0 (by decide) fl_X6_104 (by decide +kernel) (by decide +kernel))⟩,
  List.forall_mem_cons.mpr ⟨⟨mo_il _ _, Or.inl (ok_iload_n (k := 2) rfl (by decide +kernel))⟩,
  List.forall_mem_cons.mpr ⟨⟨mo_al _ _, Or.inl (ok_aload_n (k := 0) rfl (by decide +kernel))⟩,
  List.forall_mem_cons.mpr ⟨⟨mo_gi _ _ _ _, Or.inl (ok_gi (C := RX6) (T := TX6) (N := 12) (ci := 6) (k := 9) rfl inX6 (by decide) fl_X6_43 (by decide +kernel) (by decide +kernel))⟩,
  List.forall_mem_cons.mpr ⟨⟨mo_ast _ _ _ _, Or.inl (ok_iast (by decide +kernel))⟩,
  List.forall_mem_cons.mpr ⟨⟨mo_al _ _, Or.inl (ok_aload_n (k := 0) rfl (by decide +kernel))⟩,
  List.forall_mem_cons.mpr ⟨⟨mo_ic _ _, Or.inl (ok_iconst (n := 3) (v := 3) (by decide) (by decide +kernel))⟩,
  fun _ h => absurd h List.not_mem_nil⟩⟩⟩⟩⟩⟩⟩⟩⟩⟩⟩⟩⟩⟩⟩⟩⟩⟩⟩⟩
def t_X6_readBond_3 : List (Nat × am_F) := [(106, im_inv q_SH 6 37 1 109), (109, im_if1 ib_eq 121 112), (112, im_al 0 113), (113, im_inv q_SH 6 43 0 116), (116, im_al 0 117), (117, im_ic 0 118), (118, im_inv q_SH 6 31 1 121), (121, im_al 0 122), (122, im_gr q_SH 6 0 125), (125, im_gr q_SH 0 12 128), (128, im_il 2 129), (129, im_al 0 130), (130, im_gi q_SH 6 9 133), (133, im_ast q_SH .int (fun x => x) 134), (134, im_al 0 135), (135, im_gr q_SH 6 0 138), (138, im_gr q_SH 0 13 141), (141, im_il 2 142), (142, im_ic (-1) 143), (143, im_ast q_SH .int (fun x => x) 144)]
set_option maxRecDepth 20000 in
theorem o_X6_readBond_3 : ∀ q ∈ t_X6_readBond_3, am_ok vwCl q_SH ξ (q_E ξ β xs L) q_EN q_KD q_ML (cX6_readBond, 3, RX6, "readBond", none, []) q.1 q.2 :=
  List.forall_mem_cons.mpr ⟨⟨mo_inv _ _ _ _ _, Or.inr (Or.inl (ok_inv (T := TX6) (N := 12) rfl cw_X6_isWord (by decide) (by decide) ml_X6_107 ci_X6_isWord cv_X6_isWord (show Cond.initialized (yX6_isWord).cls ∈ am_ts from ci9_RX6) ⟨by decide +kernel, by decide +kernel, by decide +kernel⟩ rfl (by decide +kernel)))⟩,
  List.forall_mem_cons.mpr ⟨⟨mo_if1 _ _ _, Or.inl (ok_if_eq (off := 12) (by decide) (by decide +kernel))⟩,
  List.forall_mem_cons.mpr ⟨⟨mo_al _ _, Or.inl (ok_aload_n (k := 0) rfl (by decide +kernel))⟩,
  List.forall_mem_cons.mpr ⟨⟨mo_inv _ _ _ _ _, Or.inr (Or.inl (ok_inv (T := TX6) (N := 12) rfl cw_X6_next (by decide) (by decide) ml_X6_59 ci_X6_next cv_X6_next (show Cond.initialized (yX6_next).cls ∈ am_ts from ci9_RX6) ⟨by decide +kernel, by decide +kernel, by decide +kernel⟩ rfl (by decide +kernel)))⟩,
  List.forall_mem_cons.mpr ⟨⟨mo_al _ _, Or.inl (ok_aload_n (k := 0) rfl (by decide +kernel))⟩,
  List.forall_mem_cons.mpr ⟨⟨mo_ic _ _, Or.inl (ok_iconst (n := 0) (v := 0) (by decide) (by decide +kernel))⟩,
  List.forall_mem_cons.mpr ⟨⟨mo_inv _ _ _ _ _, Or.inr (Or.inl (ok_inv (T := TX6) (N := 12) rfl cw_X6_readEither (by decide) (by decide) ml_X6_101 ci_X6_readEither cv_X6_readEither (show Cond.initialized (yX6_readEither).cls ∈ am_ts from ci9_RX6) ⟨by decide +kernel, by decide +kernel, by decide +kernel⟩ rfl (by decide +kernel)))⟩,
  List.forall_mem_cons.mpr ⟨⟨mo_al _ _, Or.inl (ok_aload_n (k := 0) rfl (by decide +kernel))⟩,
  List.forall_mem_cons.mpr ⟨⟨mo_gr _ _ _ _, Or.inl (ok_gr (C := RX6) (T := TX6) (N := 12) (ci := 6) (k := 0) rfl inX6 (by decide) fl_X6_9 (by decide +kernel) (by decide +kernel))⟩,
  List.forall_mem_cons.mpr ⟨⟨mo_gr _ _ _ _, Or.inl (ok_gr (C := RX0) (T := TX0) (N := 16) (ci := 0) (k := 12) rfl inX0 (by decide) fl_X6_111 (by decide +kernel) (by decide +kernel))⟩,
  List.forall_mem_cons.mpr ⟨⟨mo_il _ _, Or.inl (ok_iload_n (k := 2) rfl (by decide +kernel))⟩,
  List.forall_mem_cons.mpr ⟨⟨mo_al _ _, Or.inl (ok_aload_n (k := 0) rfl (by decide +kernel))⟩,
  List.forall_mem_cons.mpr ⟨⟨mo_gi _ _ _ _, Or.inl (ok_gi (C := RX6) (T := TX6) (N := 12) (ci := 6) (k := 9) rfl inX6 (by decide) fl_X6_43 (by decide +kernel) (by decide +kernel))⟩,
  List.forall_mem_cons.mpr ⟨⟨mo_ast _ _ _ _, Or.inl (ok_iast (by decide +kernel))⟩,
  List.forall_mem_cons.mpr ⟨⟨mo_al _ _, Or.inl (ok_aload_n (k := 0) rfl (by decide +kernel))⟩,
  List.forall_mem_cons.mpr ⟨⟨mo_gr _ _ _ _, Or.inl (ok_gr (C := RX6) (T := TX6) (N := 12) (ci := 6) (k := 0) rfl inX6 (by decide) fl_X6_9 (by decide +kernel) (by decide +kernel))⟩,
  List.forall_mem_cons.mpr ⟨⟨mo_gr _ _ _ _, Or.inl (ok_gr (C := RX0) (T := TX0) (N := 16) (ci := 0) (k := 13) rfl inX0 (by decide) fl_X6_114 (by decide +kernel) (by decide +kernel))⟩,
  List.forall_mem_cons.mpr ⟨⟨mo_il _ _, Or.inl (ok_iload_n (k := 2) rfl (by decide +kernel))⟩,
  List.forall_mem_cons.mpr ⟨⟨mo_ic _ _, Or.inl (ok_iconst (n := (-1)) (v := (-1)) (by decide) (by decide +kernel))⟩,
  List.forall_mem_cons.mpr ⟨⟨mo_ast _ _ _ _, Or.inl (ok_iast (by decide +kernel))⟩,
  fun _ h => absurd h List.not_mem_nil⟩⟩⟩⟩⟩⟩⟩⟩⟩⟩⟩⟩⟩⟩⟩⟩⟩⟩⟩⟩
def t_X6_readBond_4 : List (Nat × am_F) := [(144, im_al 0 145), (145, im_ic 4 146), (146, im_inv q_SH 6 37 1 149), (149, im_if1 ib_eq 180 152), (152, im_al 0 153), (153, im_inv q_SH 6 43 0 156), (156, im_al 0 157), (157, im_inv q_SH 6 39 0 160), (160, im_if1 ib_eq 180 163), (163, im_al 0 164), (164, im_gr q_SH 6 0 167), (167, im_gr q_SH 0 13 170), (170, im_il 2 171), (171, im_al 0 172), (172, im_gi q_SH 6 7 175), (175, im_ast q_SH .int (fun x => x) 176), (176, im_al 0 177), (177, im_inv q_SH 6 43 0 180), (180, im_ret0e)]
set_option maxRecDepth 20000 in
theorem o_X6_readBond_4 : ∀ q ∈ t_X6_readBond_4, am_ok vwCl q_SH ξ (q_E ξ β xs L) q_EN q_KD q_ML (cX6_readBond, 3, RX6, "readBond", none, []) q.1 q.2 :=
  List.forall_mem_cons.mpr ⟨⟨mo_al _ _, Or.inl (ok_aload_n (k := 0) rfl (by decide +kernel))⟩,
  List.forall_mem_cons.mpr ⟨⟨mo_ic _ _, Or.inl (ok_iconst (n := 4) (v := 4) (by decide) (by decide +kernel))⟩,
  List.forall_mem_cons.mpr ⟨⟨mo_inv _ _ _ _ _, Or.inr (Or.inl (ok_inv (T := TX6) (N := 12) rfl cw_X6_isWord (by decide) (by decide) ml_X6_107 ci_X6_isWord cv_X6_isWord (show Cond.initialized (yX6_isWord).cls ∈ am_ts from ci9_RX6) ⟨by decide +kernel, by decide +kernel, by decide +kernel⟩ rfl (by decide +kernel)))⟩,
  List.forall_mem_cons.mpr ⟨⟨mo_if1 _ _ _, Or.inl (ok_if_eq (off := 31) (by decide) (by decide +kernel))⟩,
  List.forall_mem_cons.mpr ⟨⟨mo_al _ _, Or.inl (ok_aload_n (k := 0) rfl (by decide +kernel))⟩,
  List.forall_mem_cons.mpr ⟨⟨mo_inv _ _ _ _ _, Or.inr (Or.inl (ok_inv (T := TX6) (N := 12) rfl cw_X6_next (by decide) (by decide) ml_X6_59 ci_X6_next cv_X6_next (show Cond.initialized (yX6_next).cls ∈ am_ts from ci9_RX6) ⟨by decide +kernel, by decide +kernel, by decide +kernel⟩ rfl (by decide +kernel)))⟩,
  List.forall_mem_cons.mpr ⟨⟨mo_al _ _, Or.inl (ok_aload_n (k := 0) rfl (by decide +kernel))⟩,
  List.forall_mem_cons.mpr ⟨⟨mo_inv _ _ _ _ _, Or.inr (Or.inl (ok_inv (T := TX6) (N := 12) rfl cw_X6_isNumberHere (by decide) (by decide) ml_X6_88 ci_X6_isNumberHere cv_X6_isNumberHere (show Cond.initialized (yX6_isNumberHere).cls ∈ am_ts from ci9_RX6) ⟨by decide +kernel, by decide +kernel, by decide +kernel⟩ rfl (by decide +kernel)))⟩,
  List.forall_mem_cons.mpr ⟨⟨mo_if1 _ _ _, Or.inl (ok_if_eq (off := 20) (by decide) (by decide +kernel))⟩,
  List.forall_mem_cons.mpr ⟨⟨mo_al _ _, Or.inl (ok_aload_n (k := 0) rfl (by decide +kernel))⟩,
  List.forall_mem_cons.mpr ⟨⟨mo_gr _ _ _ _, Or.inl (ok_gr (C := RX6) (T := TX6) (N := 12) (ci := 6) (k := 0) rfl inX6 (by decide) fl_X6_9 (by decide +kernel) (by decide +kernel))⟩,
  List.forall_mem_cons.mpr ⟨⟨mo_gr _ _ _ _, Or.inl (ok_gr (C := RX0) (T := TX0) (N := 16) (ci := 0) (k := 13) rfl inX0 (by decide) fl_X6_114 (by decide +kernel) (by decide +kernel))⟩,
  List.forall_mem_cons.mpr ⟨⟨mo_il _ _, Or.inl (ok_iload_n (k := 2) rfl (by decide +kernel))⟩,
  List.forall_mem_cons.mpr ⟨⟨mo_al _ _, Or.inl (ok_aload_n (k := 0) rfl (by decide +kernel))⟩,
  List.forall_mem_cons.mpr ⟨⟨mo_gi _ _ _ _, Or.inl (ok_gi (C := RX6) (T := TX6) (N := 12) (ci := 6) (k := 7) rfl inX6 (by decide) fl_X6_92 (by decide +kernel) (by decide +kernel))⟩,
  List.forall_mem_cons.mpr ⟨⟨mo_ast _ _ _ _, Or.inl (ok_iast (by decide +kernel))⟩,
  List.forall_mem_cons.mpr ⟨⟨mo_al _ _, Or.inl (ok_aload_n (k := 0) rfl (by decide +kernel))⟩,
  List.forall_mem_cons.mpr ⟨⟨mo_inv _ _ _ _ _, Or.inr (Or.inl (ok_inv (T := TX6) (N := 12) rfl cw_X6_next (by decide) (by decide) ml_X6_59 ci_X6_next cv_X6_next (show Cond.initialized (yX6_next).cls ∈ am_ts from ci9_RX6) ⟨by decide +kernel, by decide +kernel, by decide +kernel⟩ rfl (by decide +kernel)))⟩,
  List.forall_mem_cons.mpr ⟨⟨mo_ret0e, Or.inr (Or.inr (ok_ret0 rfl (by decide +kernel)))⟩,
  fun _ h => absurd h List.not_mem_nil⟩⟩⟩⟩⟩⟩⟩⟩⟩⟩⟩⟩⟩⟩⟩⟩⟩⟩⟩
def t_X6_readBond : List (Nat × am_F) := t_X6_readBond_0 ++ (t_X6_readBond_1 ++ (t_X6_readBond_2 ++ (t_X6_readBond_3 ++ (t_X6_readBond_4))))
theorem o_X6_readBond : ∀ q ∈ t_X6_readBond, am_ok vwCl q_SH ξ (q_E ξ β xs L) q_EN q_KD q_ML (cX6_readBond, 3, RX6, "readBond", none, []) q.1 q.2 := List.forall_mem_append.mpr ⟨o_X6_readBond_0, List.forall_mem_append.mpr ⟨o_X6_readBond_1, List.forall_mem_append.mpr ⟨o_X6_readBond_2, List.forall_mem_append.mpr ⟨o_X6_readBond_3, o_X6_readBond_4⟩⟩⟩⟩
def t_X6_readEither_0 : List (Nat × am_F) := [(0, im_il 1 1), (1, im_ic 6 3), (3, im_if2 ic_lt 41 6), (6, im_al 0 7), (7, im_al 0 8), (8, im_gi q_SH 6 4 11), (11, im_ic 2 12), (12, im_if2 ic_eq 32 15), (15, im_al 0 16), (16, im_gi q_SH 6 4 19), (19, im_ic 3 20), (20, im_if2 ic_eq 32 23), (23, im_al 0 24), (24, im_gi q_SH 6 4 27), (27, im_ic 40 29), (29, im_if2 ic_ne 36 32), (32, im_ic 2 33), (33, im_go 37), (36, im_ic 1 37), (37, im_inv q_SH 6 41 1 40)]
set_option maxRecDepth 20000 in
theorem o_X6_readEither_0 : ∀ q ∈ t_X6_readEither_0, am_ok vwCl q_SH ξ (q_E ξ β xs L) q_EN q_KD q_ML (cX6_readEither, 3, RX6, "readEither", none, []) q.1 q.2 :=
  List.forall_mem_cons.mpr ⟨⟨mo_il _ _, Or.inl (ok_iload_n (k := 1) rfl (by decide +kernel))⟩,
  List.forall_mem_cons.mpr ⟨⟨mo_ic _ _, Or.inl (ok_bipush (n := 6) (v := 6) (by decide) (by decide +kernel))⟩,
  List.forall_mem_cons.mpr ⟨⟨mo_if2 _ _ _, Or.inl (ok_icmp_lt (off := 38) (by decide) (by decide +kernel))⟩,
  List.forall_mem_cons.mpr ⟨⟨mo_al _ _, Or.inl (ok_aload_n (k := 0) rfl (by decide +kernel))⟩,
  List.forall_mem_cons.mpr ⟨⟨mo_al _ _, Or.inl (ok_aload_n (k := 0) rfl (by decide +kernel))⟩,
  List.forall_mem_cons.mpr ⟨⟨mo_gi _ _ _ _, Or.inl (ok_gi (C := RX6) (T := TX6) (N := 12) (ci := 6) (k := 4) rfl inX6 (by decide) fl_X6_62 (by decide +kernel) (by decide +kernel))⟩,
  List.forall_mem_cons.mpr ⟨⟨mo_ic _ _, Or.inl (ok_iconst (n := 2) (v := 2) (by decide) (by decide +kernel))⟩,
  List.forall_mem_cons.mpr ⟨⟨mo_if2 _ _ _, Or.inl (ok_icmp_eq (off := 20) (by decide) (by decide +kernel))⟩,
  List.forall_mem_cons.mpr ⟨⟨mo_al _ _, Or.inl (ok_aload_n (k := 0) rfl (by decide +kernel))⟩,
  List.forall_mem_cons.mpr ⟨⟨mo_gi _ _ _ _, Or.inl (ok_gi (C := RX6) (T := TX6) (N := 12) (ci := 6) (k := 4) rfl inX6 (by decide) fl_X6_62 (by decide +kernel) (by decide +kernel))⟩,
  List.forall_mem_cons.mpr ⟨⟨mo_ic _ _, Or.inl (ok_iconst (n := 3) (v := 3) (by decide) (by decide +kernel))⟩,
  List.forall_mem_cons.mpr ⟨⟨mo_if2 _ _ _, Or.inl (ok_icmp_eq (off := 12) (by decide) (by decide +kernel))⟩,
  List.forall_mem_cons.mpr ⟨⟨mo_al _ _, Or.inl (ok_aload_n (k := 0) rfl (by decide +kernel))⟩,
  List.forall_mem_cons.mpr ⟨⟨mo_gi _ _ _ _, Or.inl (ok_gi (C := RX6) (T := TX6) (N := 12) (ci := 6) (k := 4) rfl inX6 (by decide) fl_X6_62 (by decide +kernel) (by decide +kernel))⟩,
  List.forall_mem_cons.mpr ⟨⟨mo_ic _ _, Or.inl (ok_bipush (n := 40) (v := 40) (by decide) (by decide +kernel))⟩,
  List.forall_mem_cons.mpr ⟨⟨mo_if2 _ _ _, Or.inl (ok_icmp_ne (off := 7) (by decide) (by decide +kernel))⟩,
  List.forall_mem_cons.mpr ⟨⟨mo_ic _ _, Or.inl (ok_iconst (n := 2) (v := 2) (by decide) (by decide +kernel))⟩,
  List.forall_mem_cons.mpr ⟨⟨mo_go _, Or.inl (ok_goto (off := 4) (by decide) (by decide +kernel))⟩,
  List.forall_mem_cons.mpr ⟨⟨mo_ic _ _, Or.inl (ok_iconst (n := 1) (v := 1) (by decide) (by decide +kernel))⟩,
  List.forall_mem_cons.mpr ⟨⟨mo_inv _ _ _ _ _, Or.inr (Or.inl (ok_inv (T := TX6) (N := 12) rfl cw_X6_fail (by decide) (by decide) ml_X6_72 ci_X6_fail cv_X6_fail (show Cond.initialized (yX6_fail).cls ∈ am_ts from ci9_RX6) ⟨by decide +kernel, by decide +kernel, by decide +kernel⟩ rfl (by decide +kernel)))⟩,
  fun _ h => absurd h List.not_mem_nil⟩⟩⟩⟩⟩⟩⟩⟩⟩⟩⟩⟩⟩⟩⟩⟩⟩⟩⟩⟩
def t_X6_readEither_1 : List (Nat × am_F) := [(40, im_ret0e), (41, im_al 0 42), (42, im_il 1 43), (43, im_inv q_SH 6 32 1 46), (46, im_ic 0 47), (47, im_is 2 48), (48, im_il 2 49), (49, im_ic 500 52), (52, im_if2 ic_ge 85 55), (55, im_al 0 56), (56, im_ic 5 57), (57, im_inv q_SH 6 37 1 60), (60, im_if1 ib_eq 85 63), (63, im_al 0 64), (64, im_inv q_SH 6 43 0 67), (67, im_al 0 68), (68, im_il 1 69), (69, im_inv q_SH 6 32 1 72), (72, im_al 0 73), (73, im_ic (-202) 76)]
set_option maxRecDepth 20000 in
theorem o_X6_readEither_1 : ∀ q ∈ t_X6_readEither_1, am_ok vwCl q_SH ξ (q_E ξ β xs L) q_EN q_KD q_ML (cX6_readEither, 3, RX6, "readEither", none, []) q.1 q.2 :=
  List.forall_mem_cons.mpr ⟨⟨mo_ret0e, Or.inr (Or.inr (ok_ret0 rfl (by decide +kernel)))⟩,
  List.forall_mem_cons.mpr ⟨⟨mo_al _ _, Or.inl (ok_aload_n (k := 0) rfl (by decide +kernel))⟩,
  List.forall_mem_cons.mpr ⟨⟨mo_il _ _, Or.inl (ok_iload_n (k := 1) rfl (by decide +kernel))⟩,
  List.forall_mem_cons.mpr ⟨⟨mo_inv _ _ _ _ _, Or.inr (Or.inl (ok_inv (T := TX6) (N := 12) rfl cw_X6_readBoth (by decide) (by decide) ml_X6_117 ci_X6_readBoth cv_X6_readBoth (show Cond.initialized (yX6_readBoth).cls ∈ am_ts from ci9_RX6) ⟨by decide +kernel, by decide +kernel, by decide +kernel⟩ rfl (by decide +kernel)))⟩,
  List.forall_mem_cons.mpr ⟨⟨mo_ic _ _, Or.inl (ok_iconst (n := 0) (v := 0) (by decide) (by decide +kernel))⟩,
  List.forall_mem_cons.mpr ⟨⟨mo_is _ _, Or.inl (ok_istore_n (k := 2) rfl (by decide) (by decide +kernel))⟩,
  List.forall_mem_cons.mpr ⟨⟨mo_il _ _, Or.inl (ok_iload_n (k := 2) rfl (by decide +kernel))⟩,
  List.forall_mem_cons.mpr ⟨⟨mo_ic _ _, Or.inl (ok_sipush (n := 500) (v := 500) (by decide) (by decide +kernel))⟩,
  List.forall_mem_cons.mpr ⟨⟨mo_if2 _ _ _, Or.inl (ok_icmp_ge (off := 33) (by decide) (by decide +kernel))⟩,
  List.forall_mem_cons.mpr ⟨⟨mo_al _ _, Or.inl (ok_aload_n (k := 0) rfl (by decide +kernel))⟩,
  List.forall_mem_cons.mpr ⟨⟨mo_ic _ _, Or.inl (ok_iconst (n := 5) (v := 5) (by decide) (by decide +kernel))⟩,
  List.forall_mem_cons.mpr ⟨⟨mo_inv _ _ _ _ _, Or.inr (Or.inl (ok_inv (T := TX6) (N := 12) rfl cw_X6_isWord (by decide) (by decide) ml_X6_107 ci_X6_isWord cv_X6_isWord (show Cond.initialized (yX6_isWord).cls ∈ am_ts from ci9_RX6) ⟨by decide +kernel, by decide +kernel, by decide +kernel⟩ rfl (by decide +kernel)))⟩,
  List.forall_mem_cons.mpr ⟨⟨mo_if1 _ _ _, Or.inl (ok_if_eq (off := 25) (by decide) (by decide +kernel))⟩,
  List.forall_mem_cons.mpr ⟨⟨mo_al _ _, Or.inl (ok_aload_n (k := 0) rfl (by decide +kernel))⟩,
  List.forall_mem_cons.mpr ⟨⟨mo_inv _ _ _ _ _, Or.inr (Or.inl (ok_inv (T := TX6) (N := 12) rfl cw_X6_next (by decide) (by decide) ml_X6_59 ci_X6_next cv_X6_next (show Cond.initialized (yX6_next).cls ∈ am_ts from ci9_RX6) ⟨by decide +kernel, by decide +kernel, by decide +kernel⟩ rfl (by decide +kernel)))⟩,
  List.forall_mem_cons.mpr ⟨⟨mo_al _ _, Or.inl (ok_aload_n (k := 0) rfl (by decide +kernel))⟩,
  List.forall_mem_cons.mpr ⟨⟨mo_il _ _, Or.inl (ok_iload_n (k := 1) rfl (by decide +kernel))⟩,
  List.forall_mem_cons.mpr ⟨⟨mo_inv _ _ _ _ _, Or.inr (Or.inl (ok_inv (T := TX6) (N := 12) rfl cw_X6_readBoth (by decide) (by decide) ml_X6_117 ci_X6_readBoth cv_X6_readBoth (show Cond.initialized (yX6_readBoth).cls ∈ am_ts from ci9_RX6) ⟨by decide +kernel, by decide +kernel, by decide +kernel⟩ rfl (by decide +kernel)))⟩,
  List.forall_mem_cons.mpr ⟨⟨mo_al _ _, Or.inl (ok_aload_n (k := 0) rfl (by decide +kernel))⟩,
  List.forall_mem_cons.mpr ⟨⟨mo_ic _ _, Or.inl (ok_sipush (n := (-202)) (v := (-202)) (by decide) (by decide +kernel))⟩,
  fun _ h => absurd h List.not_mem_nil⟩⟩⟩⟩⟩⟩⟩⟩⟩⟩⟩⟩⟩⟩⟩⟩⟩⟩⟩⟩
def t_X6_readEither_2 : List (Nat × am_F) := [(76, im_inv q_SH 6 42 1 79), (79, im_iinc 2 1 82), (82, im_go 48), (85, im_ret0e)]
set_option maxRecDepth 20000 in
theorem o_X6_readEither_2 : ∀ q ∈ t_X6_readEither_2, am_ok vwCl q_SH ξ (q_E ξ β xs L) q_EN q_KD q_ML (cX6_readEither, 3, RX6, "readEither", none, []) q.1 q.2 :=
  List.forall_mem_cons.mpr ⟨⟨mo_inv _ _ _ _ _, Or.inr (Or.inl (ok_inv (T := TX6) (N := 12) rfl cw_X6_put (by decide) (by decide) ml_X6_120 ci_X6_put cv_X6_put (show Cond.initialized (yX6_put).cls ∈ am_ts from ci9_RX6) ⟨by decide +kernel, by decide +kernel, by decide +kernel⟩ rfl (by decide +kernel)))⟩,
  List.forall_mem_cons.mpr ⟨⟨mo_iinc _ _ _, Or.inl (ok_iinc (n := 1) (v := 1) (by decide) (by decide) (by decide +kernel))⟩,
  List.forall_mem_cons.mpr ⟨⟨mo_go _, Or.inl (ok_goto (off := (-34)) (by decide) (by decide +kernel))⟩,
  List.forall_mem_cons.mpr ⟨⟨mo_ret0e, Or.inr (Or.inr (ok_ret0 rfl (by decide +kernel)))⟩,
  fun _ h => absurd h List.not_mem_nil⟩⟩⟩⟩
def t_X6_readEither : List (Nat × am_F) := t_X6_readEither_0 ++ (t_X6_readEither_1 ++ (t_X6_readEither_2))
theorem o_X6_readEither : ∀ q ∈ t_X6_readEither, am_ok vwCl q_SH ξ (q_E ξ β xs L) q_EN q_KD q_ML (cX6_readEither, 3, RX6, "readEither", none, []) q.1 q.2 := List.forall_mem_append.mpr ⟨o_X6_readEither_0, List.forall_mem_append.mpr ⟨o_X6_readEither_1, o_X6_readEither_2⟩⟩
def t_X6_readBoth_0 : List (Nat × am_F) := [(0, im_al 0 1), (1, im_il 1 2), (2, im_inv q_SH 6 33 1 5), (5, im_ic 0 6), (6, im_is 2 7), (7, im_il 2 8), (8, im_ic 500 11), (11, im_if2 ic_ge 45 14), (14, im_al 0 15), (15, im_ic 6 17), (17, im_inv q_SH 6 37 1 20), (20, im_if1 ib_eq 45 23), (23, im_al 0 24), (24, im_inv q_SH 6 43 0 27), (27, im_al 0 28), (28, im_il 1 29), (29, im_inv q_SH 6 33 1 32), (32, im_al 0 33), (33, im_ic (-201) 36), (36, im_inv q_SH 6 42 1 39)]
set_option maxRecDepth 20000 in
theorem o_X6_readBoth_0 : ∀ q ∈ t_X6_readBoth_0, am_ok vwCl q_SH ξ (q_E ξ β xs L) q_EN q_KD q_ML (cX6_readBoth, 3, RX6, "readBoth", none, []) q.1 q.2 :=
  List.forall_mem_cons.mpr ⟨⟨mo_al _ _, Or.inl (ok_aload_n (k := 0) rfl (by decide +kernel))⟩,
  List.forall_mem_cons.mpr ⟨⟨mo_il _ _, Or.inl (ok_iload_n (k := 1) rfl (by decide +kernel))⟩,
  List.forall_mem_cons.mpr ⟨⟨mo_inv _ _ _ _ _, Or.inr (Or.inl (ok_inv (T := TX6) (N := 12) rfl cw_X6_readTest (by decide) (by decide) ml_X6_123 ci_X6_readTest cv_X6_readTest (show Cond.initialized (yX6_readTest).cls ∈ am_ts from ci9_RX6) ⟨by decide +kernel, by decide +kernel, by decide +kernel⟩ rfl (by decide +kernel)))⟩,
  List.forall_mem_cons.mpr ⟨⟨mo_ic _ _, Or.inl (ok_iconst (n := 0) (v := 0) (by decide) (by decide +kernel))⟩,
  List.forall_mem_cons.mpr ⟨⟨mo_is _ _, Or.inl (ok_istore_n (k := 2) rfl (by decide) (by decide +kernel))⟩,
  List.forall_mem_cons.mpr ⟨⟨mo_il _ _, Or.inl (ok_iload_n (k := 2) rfl (by decide +kernel))⟩,
  List.forall_mem_cons.mpr ⟨⟨mo_ic _ _, Or.inl (ok_sipush (n := 500) (v := 500) (by decide) (by decide +kernel))⟩,
  List.forall_mem_cons.mpr ⟨⟨mo_if2 _ _ _, Or.inl (ok_icmp_ge (off := 34) (by decide) (by decide +kernel))⟩,
  List.forall_mem_cons.mpr ⟨⟨mo_al _ _, Or.inl (ok_aload_n (k := 0) rfl (by decide +kernel))⟩,
  List.forall_mem_cons.mpr ⟨⟨mo_ic _ _, Or.inl (ok_bipush (n := 6) (v := 6) (by decide) (by decide +kernel))⟩,
  List.forall_mem_cons.mpr ⟨⟨mo_inv _ _ _ _ _, Or.inr (Or.inl (ok_inv (T := TX6) (N := 12) rfl cw_X6_isWord (by decide) (by decide) ml_X6_107 ci_X6_isWord cv_X6_isWord (show Cond.initialized (yX6_isWord).cls ∈ am_ts from ci9_RX6) ⟨by decide +kernel, by decide +kernel, by decide +kernel⟩ rfl (by decide +kernel)))⟩,
  List.forall_mem_cons.mpr ⟨⟨mo_if1 _ _ _, Or.inl (ok_if_eq (off := 25) (by decide) (by decide +kernel))⟩,
  List.forall_mem_cons.mpr ⟨⟨mo_al _ _, Or.inl (ok_aload_n (k := 0) rfl (by decide +kernel))⟩,
  List.forall_mem_cons.mpr ⟨⟨mo_inv _ _ _ _ _, Or.inr (Or.inl (ok_inv (T := TX6) (N := 12) rfl cw_X6_next (by decide) (by decide) ml_X6_59 ci_X6_next cv_X6_next (show Cond.initialized (yX6_next).cls ∈ am_ts from ci9_RX6) ⟨by decide +kernel, by decide +kernel, by decide +kernel⟩ rfl (by decide +kernel)))⟩,
  List.forall_mem_cons.mpr ⟨⟨mo_al _ _, Or.inl (ok_aload_n (k := 0) rfl (by decide +kernel))⟩,
  List.forall_mem_cons.mpr ⟨⟨mo_il _ _, Or.inl (ok_iload_n (k := 1) rfl (by decide +kernel))⟩,
  List.forall_mem_cons.mpr ⟨⟨mo_inv _ _ _ _ _, Or.inr (Or.inl (ok_inv (T := TX6) (N := 12) rfl cw_X6_readTest (by decide) (by decide) ml_X6_123 ci_X6_readTest cv_X6_readTest (show Cond.initialized (yX6_readTest).cls ∈ am_ts from ci9_RX6) ⟨by decide +kernel, by decide +kernel, by decide +kernel⟩ rfl (by decide +kernel)))⟩,
  List.forall_mem_cons.mpr ⟨⟨mo_al _ _, Or.inl (ok_aload_n (k := 0) rfl (by decide +kernel))⟩,
  List.forall_mem_cons.mpr ⟨⟨mo_ic _ _, Or.inl (ok_sipush (n := (-201)) (v := (-201)) (by decide) (by decide +kernel))⟩,
  List.forall_mem_cons.mpr ⟨⟨mo_inv _ _ _ _ _, Or.inr (Or.inl (ok_inv (T := TX6) (N := 12) rfl cw_X6_put (by decide) (by decide) ml_X6_120 ci_X6_put cv_X6_put (show Cond.initialized (yX6_put).cls ∈ am_ts from ci9_RX6) ⟨by decide +kernel, by decide +kernel, by decide +kernel⟩ rfl (by decide +kernel)))⟩,
  fun _ h => absurd h List.not_mem_nil⟩⟩⟩⟩⟩⟩⟩⟩⟩⟩⟩⟩⟩⟩⟩⟩⟩⟩⟩⟩
def t_X6_readBoth_1 : List (Nat × am_F) := [(39, im_iinc 2 1 42), (42, im_go 7), (45, im_ret0e)]
set_option maxRecDepth 20000 in
theorem o_X6_readBoth_1 : ∀ q ∈ t_X6_readBoth_1, am_ok vwCl q_SH ξ (q_E ξ β xs L) q_EN q_KD q_ML (cX6_readBoth, 3, RX6, "readBoth", none, []) q.1 q.2 :=
  List.forall_mem_cons.mpr ⟨⟨mo_iinc _ _ _, Or.inl (ok_iinc (n := 1) (v := 1) (by decide) (by decide) (by decide +kernel))⟩,
  List.forall_mem_cons.mpr ⟨⟨mo_go _, Or.inl (ok_goto (off := (-35)) (by decide) (by decide +kernel))⟩,
  List.forall_mem_cons.mpr ⟨⟨mo_ret0e, Or.inr (Or.inr (ok_ret0 rfl (by decide +kernel)))⟩,
  fun _ h => absurd h List.not_mem_nil⟩⟩⟩
def t_X6_readBoth : List (Nat × am_F) := t_X6_readBoth_0 ++ (t_X6_readBoth_1)
theorem o_X6_readBoth : ∀ q ∈ t_X6_readBoth, am_ok vwCl q_SH ξ (q_E ξ β xs L) q_EN q_KD q_ML (cX6_readBoth, 3, RX6, "readBoth", none, []) q.1 q.2 := List.forall_mem_append.mpr ⟨o_X6_readBoth_0, o_X6_readBoth_1⟩
def t_X6_readTest_0 : List (Nat × am_F) := [(0, im_ic 0 1), (1, im_is 2 2), (2, im_il 2 3), (3, im_ic 6 5), (5, im_if2 ic_gt 39 8), (8, im_al 0 9), (9, im_ic 7 11), (11, im_inv q_SH 6 37 1 14), (14, im_if1 ib_eq 39 17), (17, im_il 2 18), (18, im_ic 6 20), (20, im_if2 ic_ne 29 23), (23, im_al 0 24), (24, im_ic 2 25), (25, im_inv q_SH 6 41 1 28), (28, im_ret0e), (29, im_al 0 30), (30, im_inv q_SH 6 43 0 33), (33, im_iinc 2 1 36), (36, im_go 2)]
set_option maxRecDepth 20000 in
theorem o_X6_readTest_0 : ∀ q ∈ t_X6_readTest_0, am_ok vwCl q_SH ξ (q_E ξ β xs L) q_EN q_KD q_ML (cX6_readTest, 4, RX6, "readTest", none, []) q.1 q.2 :=
  List.forall_mem_cons.mpr ⟨⟨mo_ic _ _, Or.inl (ok_iconst (n := 0) (v := 0) (by decide) (by decide +kernel))⟩,
  List.forall_mem_cons.mpr ⟨⟨mo_is _ _, Or.inl (ok_istore_n (k := 2) rfl (by decide) (by decide +kernel))⟩,
  List.forall_mem_cons.mpr ⟨⟨mo_il _ _, Or.inl (ok_iload_n (k := 2) rfl (by decide +kernel))⟩,
  List.forall_mem_cons.mpr ⟨⟨mo_ic _ _, Or.inl (ok_bipush (n := 6) (v := 6) (by decide) (by decide +kernel))⟩,
  List.forall_mem_cons.mpr ⟨⟨mo_if2 _ _ _, Or.inl (ok_icmp_gt (off := 34) (by decide) (by decide +kernel))⟩,
  List.forall_mem_cons.mpr ⟨⟨mo_al _ _, Or.inl (ok_aload_n (k := 0) rfl (by decide +kernel))⟩,
  List.forall_mem_cons.mpr ⟨⟨mo_ic _ _, Or.inl (ok_bipush (n := 7) (v := 7) (by decide) (by decide +kernel))⟩,
  List.forall_mem_cons.mpr ⟨⟨mo_inv _ _ _ _ _, Or.inr (Or.inl (ok_inv (T := TX6) (N := 12) rfl cw_X6_isWord (by decide) (by decide) ml_X6_107 ci_X6_isWord cv_X6_isWord (show Cond.initialized (yX6_isWord).cls ∈ am_ts from ci9_RX6) ⟨by decide +kernel, by decide +kernel, by decide +kernel⟩ rfl (by decide +kernel)))⟩,
  List.forall_mem_cons.mpr ⟨⟨mo_if1 _ _ _, Or.inl (ok_if_eq (off := 25) (by decide) (by decide +kernel))⟩,
  List.forall_mem_cons.mpr ⟨⟨mo_il _ _, Or.inl (ok_iload_n (k := 2) rfl (by decide +kernel))⟩,
  List.forall_mem_cons.mpr ⟨⟨mo_ic _ _, Or.inl (ok_bipush (n := 6) (v := 6) (by decide) (by decide +kernel))⟩,
  List.forall_mem_cons.mpr ⟨⟨mo_if2 _ _ _, Or.inl (ok_icmp_ne (off := 9) (by decide) (by decide +kernel))⟩,
  List.forall_mem_cons.mpr ⟨⟨mo_al _ _, Or.inl (ok_aload_n (k := 0) rfl (by decide +kernel))⟩,
  List.forall_mem_cons.mpr ⟨⟨mo_ic _ _, Or.inl (ok_iconst (n := 2) (v := 2) (by decide) (by decide +kernel))⟩,
  List.forall_mem_cons.mpr ⟨⟨mo_inv _ _ _ _ _, Or.inr (Or.inl (ok_inv (T := TX6) (N := 12) rfl cw_X6_fail (by decide) (by decide) ml_X6_72 ci_X6_fail cv_X6_fail (show Cond.initialized (yX6_fail).cls ∈ am_ts from ci9_RX6) ⟨by decide +kernel, by decide +kernel, by decide +kernel⟩ rfl (by decide +kernel)))⟩,
  List.forall_mem_cons.mpr ⟨⟨mo_ret0e, Or.inr (Or.inr (ok_ret0 rfl (by decide +kernel)))⟩,
  List.forall_mem_cons.mpr ⟨⟨mo_al _ _, Or.inl (ok_aload_n (k := 0) rfl (by decide +kernel))⟩,
  List.forall_mem_cons.mpr ⟨⟨mo_inv _ _ _ _ _, Or.inr (Or.inl (ok_inv (T := TX6) (N := 12) rfl cw_X6_next (by decide) (by decide) ml_X6_59 ci_X6_next cv_X6_next (show Cond.initialized (yX6_next).cls ∈ am_ts from ci9_RX6) ⟨by decide +kernel, by decide +kernel, by decide +kernel⟩ rfl (by decide +kernel)))⟩,
  List.forall_mem_cons.mpr ⟨⟨mo_iinc _ _ _, Or.inl (ok_iinc (n := 1) (v := 1) (by decide) (by decide) (by decide +kernel))⟩,
  List.forall_mem_cons.mpr ⟨⟨mo_go _, Or.inl (ok_goto (off := (-34)) (by decide) (by decide +kernel))⟩,
  fun _ h => absurd h List.not_mem_nil⟩⟩⟩⟩⟩⟩⟩⟩⟩⟩⟩⟩⟩⟩⟩⟩⟩⟩⟩⟩
def t_X6_readTest_1 : List (Nat × am_F) := [(39, im_al 0 40), (40, im_il 1 41), (41, im_inv q_SH 6 34 1 44), (44, im_al 0 45), (45, im_ic 60 47), (47, im_inv q_SH 6 38 1 50), (50, im_if1 ib_ne 62 53), (53, im_al 0 54), (54, im_ic 61 56), (56, im_inv q_SH 6 38 1 59), (59, im_if1 ib_eq 82 62), (62, im_al 0 63), (63, im_gi q_SH 6 4 66), (66, im_is 3 67), (67, im_al 0 68), (68, im_inv q_SH 6 43 0 71), (71, im_al 0 72), (72, im_il 1 73), (73, im_inv q_SH 6 34 1 76), (76, im_al 0 77)]
set_option maxRecDepth 20000 in
theorem o_X6_readTest_1 : ∀ q ∈ t_X6_readTest_1, am_ok vwCl q_SH ξ (q_E ξ β xs L) q_EN q_KD q_ML (cX6_readTest, 4, RX6, "readTest", none, []) q.1 q.2 :=
  List.forall_mem_cons.mpr ⟨⟨mo_al _ _, Or.inl (ok_aload_n (k := 0) rfl (by decide +kernel))⟩,
  List.forall_mem_cons.mpr ⟨⟨mo_il _ _, Or.inl (ok_iload_n (k := 1) rfl (by decide +kernel))⟩,
  List.forall_mem_cons.mpr ⟨⟨mo_inv _ _ _ _ _, Or.inr (Or.inl (ok_inv (T := TX6) (N := 12) rfl cw_X6_readSum (by decide) (by decide) ml_X6_126 ci_X6_readSum cv_X6_readSum (show Cond.initialized (yX6_readSum).cls ∈ am_ts from ci9_RX6) ⟨by decide +kernel, by decide +kernel, by decide +kernel⟩ rfl (by decide +kernel)))⟩,
  List.forall_mem_cons.mpr ⟨⟨mo_al _ _, Or.inl (ok_aload_n (k := 0) rfl (by decide +kernel))⟩,
  List.forall_mem_cons.mpr ⟨⟨mo_ic _ _, Or.inl (ok_bipush (n := 60) (v := 60) (by decide) (by decide +kernel))⟩,
  List.forall_mem_cons.mpr ⟨⟨mo_inv _ _ _ _ _, Or.inr (Or.inl (ok_inv (T := TX6) (N := 12) rfl cw_X6_isSign (by decide) (by decide) ml_X6_129 ci_X6_isSign cv_X6_isSign (show Cond.initialized (yX6_isSign).cls ∈ am_ts from ci9_RX6) ⟨by decide +kernel, by decide +kernel, by decide +kernel⟩ rfl (by decide +kernel)))⟩,
  List.forall_mem_cons.mpr ⟨⟨mo_if1 _ _ _, Or.inl (ok_if_ne (off := 12) (by decide) (by decide +kernel))⟩,
  List.forall_mem_cons.mpr ⟨⟨mo_al _ _, Or.inl (ok_aload_n (k := 0) rfl (by decide +kernel))⟩,
  List.forall_mem_cons.mpr ⟨⟨mo_ic _ _, Or.inl (ok_bipush (n := 61) (v := 61) (by decide) (by decide +kernel))⟩,
  List.forall_mem_cons.mpr ⟨⟨mo_inv _ _ _ _ _, Or.inr (Or.inl (ok_inv (T := TX6) (N := 12) rfl cw_X6_isSign (by decide) (by decide) ml_X6_129 ci_X6_isSign cv_X6_isSign (show Cond.initialized (yX6_isSign).cls ∈ am_ts from ci9_RX6) ⟨by decide +kernel, by decide +kernel, by decide +kernel⟩ rfl (by decide +kernel)))⟩,
  List.forall_mem_cons.mpr ⟨⟨mo_if1 _ _ _, Or.inl (ok_if_eq (off := 23) (by decide) (by decide +kernel))⟩,
  List.forall_mem_cons.mpr ⟨⟨mo_al _ _, Or.inl (ok_aload_n (k := 0) rfl (by decide +kernel))⟩,
  List.forall_mem_cons.mpr ⟨⟨mo_gi _ _ _ _, Or.inl (ok_gi (C := RX6) (T := TX6) (N := 12) (ci := 6) (k := 4) rfl inX6 (by decide) fl_X6_62 (by decide +kernel) (by decide +kernel))⟩,
  List.forall_mem_cons.mpr ⟨⟨mo_is _ _, Or.inl (ok_istore_n (k := 3) rfl (by decide) (by decide +kernel))⟩,
  List.forall_mem_cons.mpr ⟨⟨mo_al _ _, Or.inl (ok_aload_n (k := 0) rfl (by decide +kernel))⟩,
  List.forall_mem_cons.mpr ⟨⟨mo_inv _ _ _ _ _, Or.inr (Or.inl (ok_inv (T := TX6) (N := 12) rfl cw_X6_next (by decide) (by decide) ml_X6_59 ci_X6_next cv_X6_next (show Cond.initialized (yX6_next).cls ∈ am_ts from ci9_RX6) ⟨by decide +kernel, by decide +kernel, by decide +kernel⟩ rfl (by decide +kernel)))⟩,
  List.forall_mem_cons.mpr ⟨⟨mo_al _ _, Or.inl (ok_aload_n (k := 0) rfl (by decide +kernel))⟩,
  List.forall_mem_cons.mpr ⟨⟨mo_il _ _, Or.inl (ok_iload_n (k := 1) rfl (by decide +kernel))⟩,
  List.forall_mem_cons.mpr ⟨⟨mo_inv _ _ _ _ _, Or.inr (Or.inl (ok_inv (T := TX6) (N := 12) rfl cw_X6_readSum (by decide) (by decide) ml_X6_126 ci_X6_readSum cv_X6_readSum (show Cond.initialized (yX6_readSum).cls ∈ am_ts from ci9_RX6) ⟨by decide +kernel, by decide +kernel, by decide +kernel⟩ rfl (by decide +kernel)))⟩,
  List.forall_mem_cons.mpr ⟨⟨mo_al _ _, Or.inl (ok_aload_n (k := 0) rfl (by decide +kernel))⟩,
  fun _ h => absurd h List.not_mem_nil⟩⟩⟩⟩⟩⟩⟩⟩⟩⟩⟩⟩⟩⟩⟩⟩⟩⟩⟩⟩
def t_X6_readTest_2 : List (Nat × am_F) := [(77, im_il 3 78), (78, im_un (fun x => -x) 79), (79, im_inv q_SH 6 42 1 82), (82, im_ic 0 83), (83, im_is 3 84), (84, im_il 3 85), (85, im_il 2 86), (86, im_if2 ic_ge 102 89), (89, im_al 0 90), (90, im_ic (-203) 93), (93, im_inv q_SH 6 42 1 96), (96, im_iinc 3 1 99), (99, im_go 84), (102, im_ret0e)]
set_option maxRecDepth 20000 in
theorem o_X6_readTest_2 : ∀ q ∈ t_X6_readTest_2, am_ok vwCl q_SH ξ (q_E ξ β xs L) q_EN q_KD q_ML (cX6_readTest, 4, RX6, "readTest", none, []) q.1 q.2 :=
  List.forall_mem_cons.mpr ⟨⟨mo_il _ _, Or.inl (ok_iload_n (k := 3) rfl (by decide +kernel))⟩,
  List.forall_mem_cons.mpr ⟨⟨mo_un _ _, Or.inl (ok_ineg (by decide +kernel))⟩,
  List.forall_mem_cons.mpr ⟨⟨mo_inv _ _ _ _ _, Or.inr (Or.inl (ok_inv (T := TX6) (N := 12) rfl cw_X6_put (by decide) (by decide) ml_X6_120 ci_X6_put cv_X6_put (show Cond.initialized (yX6_put).cls ∈ am_ts from ci9_RX6) ⟨by decide +kernel, by decide +kernel, by decide +kernel⟩ rfl (by decide +kernel)))⟩,
  List.forall_mem_cons.mpr ⟨⟨mo_ic _ _, Or.inl (ok_iconst (n := 0) (v := 0) (by decide) (by decide +kernel))⟩,
  List.forall_mem_cons.mpr ⟨⟨mo_is _ _, Or.inl (ok_istore_n (k := 3) rfl (by decide) (by decide +kernel))⟩,
  List.forall_mem_cons.mpr ⟨⟨mo_il _ _, Or.inl (ok_iload_n (k := 3) rfl (by decide +kernel))⟩,
  List.forall_mem_cons.mpr ⟨⟨mo_il _ _, Or.inl (ok_iload_n (k := 2) rfl (by decide +kernel))⟩,
  List.forall_mem_cons.mpr ⟨⟨mo_if2 _ _ _, Or.inl (ok_icmp_ge (off := 16) (by decide) (by decide +kernel))⟩,
  List.forall_mem_cons.mpr ⟨⟨mo_al _ _, Or.inl (ok_aload_n (k := 0) rfl (by decide +kernel))⟩,
  List.forall_mem_cons.mpr ⟨⟨mo_ic _ _, Or.inl (ok_sipush (n := (-203)) (v := (-203)) (by decide) (by decide +kernel))⟩,
  List.forall_mem_cons.mpr ⟨⟨mo_inv _ _ _ _ _, Or.inr (Or.inl (ok_inv (T := TX6) (N := 12) rfl cw_X6_put (by decide) (by decide) ml_X6_120 ci_X6_put cv_X6_put (show Cond.initialized (yX6_put).cls ∈ am_ts from ci9_RX6) ⟨by decide +kernel, by decide +kernel, by decide +kernel⟩ rfl (by decide +kernel)))⟩,
  List.forall_mem_cons.mpr ⟨⟨mo_iinc _ _ _, Or.inl (ok_iinc (n := 1) (v := 1) (by decide) (by decide) (by decide +kernel))⟩,
  List.forall_mem_cons.mpr ⟨⟨mo_go _, Or.inl (ok_goto (off := (-15)) (by decide) (by decide +kernel))⟩,
  List.forall_mem_cons.mpr ⟨⟨mo_ret0e, Or.inr (Or.inr (ok_ret0 rfl (by decide +kernel)))⟩,
  fun _ h => absurd h List.not_mem_nil⟩⟩⟩⟩⟩⟩⟩⟩⟩⟩⟩⟩⟩⟩
def t_X6_readTest : List (Nat × am_F) := t_X6_readTest_0 ++ (t_X6_readTest_1 ++ (t_X6_readTest_2))
theorem o_X6_readTest : ∀ q ∈ t_X6_readTest, am_ok vwCl q_SH ξ (q_E ξ β xs L) q_EN q_KD q_ML (cX6_readTest, 4, RX6, "readTest", none, []) q.1 q.2 := List.forall_mem_append.mpr ⟨o_X6_readTest_0, List.forall_mem_append.mpr ⟨o_X6_readTest_1, o_X6_readTest_2⟩⟩
def t_X6_readSum_0 : List (Nat × am_F) := [(0, im_al 0 1), (1, im_il 1 2), (2, im_inv q_SH 6 35 1 5), (5, im_ic 0 6), (6, im_is 2 7), (7, im_il 2 8), (8, im_ic 500 11), (11, im_if2 ic_ge 58 14), (14, im_al 0 15), (15, im_ic 43 17), (17, im_inv q_SH 6 38 1 20), (20, im_if1 ib_ne 32 23), (23, im_al 0 24), (24, im_ic 45 26), (26, im_inv q_SH 6 38 1 29), (29, im_if1 ib_eq 58 32), (32, im_al 0 33), (33, im_gi q_SH 6 4 36), (36, im_is 3 37), (37, im_al 0 38)]
set_option maxRecDepth 20000 in
theorem o_X6_readSum_0 : ∀ q ∈ t_X6_readSum_0, am_ok vwCl q_SH ξ (q_E ξ β xs L) q_EN q_KD q_ML (cX6_readSum, 4, RX6, "readSum", none, []) q.1 q.2 :=
  List.forall_mem_cons.mpr ⟨⟨mo_al _ _, Or.inl (ok_aload_n (k := 0) rfl (by decide +kernel))⟩,
  List.forall_mem_cons.mpr ⟨⟨mo_il _ _, Or.inl (ok_iload_n (k := 1) rfl (by decide +kernel))⟩,
  List.forall_mem_cons.mpr ⟨⟨mo_inv _ _ _ _ _, Or.inr (Or.inl (ok_inv (T := TX6) (N := 12) rfl cw_X6_readProduct (by decide) (by decide) ml_X6_132 ci_X6_readProduct cv_X6_readProduct (show Cond.initialized (yX6_readProduct).cls ∈ am_ts from ci9_RX6) ⟨by decide +kernel, by decide +kernel, by decide +kernel⟩ rfl (by decide +kernel)))⟩,
  List.forall_mem_cons.mpr ⟨⟨mo_ic _ _, Or.inl (ok_iconst (n := 0) (v := 0) (by decide) (by decide +kernel))⟩,
  List.forall_mem_cons.mpr ⟨⟨mo_is _ _, Or.inl (ok_istore_n (k := 2) rfl (by decide) (by decide +kernel))⟩,
  List.forall_mem_cons.mpr ⟨⟨mo_il _ _, Or.inl (ok_iload_n (k := 2) rfl (by decide +kernel))⟩,
  List.forall_mem_cons.mpr ⟨⟨mo_ic _ _, Or.inl (ok_sipush (n := 500) (v := 500) (by decide) (by decide +kernel))⟩,
  List.forall_mem_cons.mpr ⟨⟨mo_if2 _ _ _, Or.inl (ok_icmp_ge (off := 47) (by decide) (by decide +kernel))⟩,
  List.forall_mem_cons.mpr ⟨⟨mo_al _ _, Or.inl (ok_aload_n (k := 0) rfl (by decide +kernel))⟩,
  List.forall_mem_cons.mpr ⟨⟨mo_ic _ _, Or.inl (ok_bipush (n := 43) (v := 43) (by decide) (by decide +kernel))⟩,
  List.forall_mem_cons.mpr ⟨⟨mo_inv _ _ _ _ _, Or.inr (Or.inl (ok_inv (T := TX6) (N := 12) rfl cw_X6_isSign (by decide) (by decide) ml_X6_129 ci_X6_isSign cv_X6_isSign (show Cond.initialized (yX6_isSign).cls ∈ am_ts from ci9_RX6) ⟨by decide +kernel, by decide +kernel, by decide +kernel⟩ rfl (by decide +kernel)))⟩,
  List.forall_mem_cons.mpr ⟨⟨mo_if1 _ _ _, Or.inl (ok_if_ne (off := 12) (by decide) (by decide +kernel))⟩,
  List.forall_mem_cons.mpr ⟨⟨mo_al _ _, Or.inl (ok_aload_n (k := 0) rfl (by decide +kernel))⟩,
  List.forall_mem_cons.mpr ⟨⟨mo_ic _ _, Or.inl (ok_bipush (n := 45) (v := 45) (by decide) (by decide +kernel))⟩,
  List.forall_mem_cons.mpr ⟨⟨mo_inv _ _ _ _ _, Or.inr (Or.inl (ok_inv (T := TX6) (N := 12) rfl cw_X6_isSign (by decide) (by decide) ml_X6_129 ci_X6_isSign cv_X6_isSign (show Cond.initialized (yX6_isSign).cls ∈ am_ts from ci9_RX6) ⟨by decide +kernel, by decide +kernel, by decide +kernel⟩ rfl (by decide +kernel)))⟩,
  List.forall_mem_cons.mpr ⟨⟨mo_if1 _ _ _, Or.inl (ok_if_eq (off := 29) (by decide) (by decide +kernel))⟩,
  List.forall_mem_cons.mpr ⟨⟨mo_al _ _, Or.inl (ok_aload_n (k := 0) rfl (by decide +kernel))⟩,
  List.forall_mem_cons.mpr ⟨⟨mo_gi _ _ _ _, Or.inl (ok_gi (C := RX6) (T := TX6) (N := 12) (ci := 6) (k := 4) rfl inX6 (by decide) fl_X6_62 (by decide +kernel) (by decide +kernel))⟩,
  List.forall_mem_cons.mpr ⟨⟨mo_is _ _, Or.inl (ok_istore_n (k := 3) rfl (by decide) (by decide +kernel))⟩,
  List.forall_mem_cons.mpr ⟨⟨mo_al _ _, Or.inl (ok_aload_n (k := 0) rfl (by decide +kernel))⟩,
  fun _ h => absurd h List.not_mem_nil⟩⟩⟩⟩⟩⟩⟩⟩⟩⟩⟩⟩⟩⟩⟩⟩⟩⟩⟩⟩
def t_X6_readSum_1 : List (Nat × am_F) := [(38, im_inv q_SH 6 43 0 41), (41, im_al 0 42), (42, im_il 1 43), (43, im_inv q_SH 6 35 1 46), (46, im_al 0 47), (47, im_il 3 48), (48, im_un (fun x => -x) 49), (49, im_inv q_SH 6 42 1 52), (52, im_iinc 2 1 55), (55, im_go 7), (58, im_ret0e)]
set_option maxRecDepth 20000 in
theorem o_X6_readSum_1 : ∀ q ∈ t_X6_readSum_1, am_ok vwCl q_SH ξ (q_E ξ β xs L) q_EN q_KD q_ML (cX6_readSum, 4, RX6, "readSum", none, []) q.1 q.2 :=
  List.forall_mem_cons.mpr ⟨⟨mo_inv _ _ _ _ _, Or.inr (Or.inl (ok_inv (T := TX6) (N := 12) rfl cw_X6_next (by decide) (by decide) ml_X6_59 ci_X6_next cv_X6_next (show Cond.initialized (yX6_next).cls ∈ am_ts from ci9_RX6) ⟨by decide +kernel, by decide +kernel, by decide +kernel⟩ rfl (by decide +kernel)))⟩,
  List.forall_mem_cons.mpr ⟨⟨mo_al _ _, Or.inl (ok_aload_n (k := 0) rfl (by decide +kernel))⟩,
  List.forall_mem_cons.mpr ⟨⟨mo_il _ _, Or.inl (ok_iload_n (k := 1) rfl (by decide +kernel))⟩,
  List.forall_mem_cons.mpr ⟨⟨mo_inv _ _ _ _ _, Or.inr (Or.inl (ok_inv (T := TX6) (N := 12) rfl cw_X6_readProduct (by decide) (by decide) ml_X6_132 ci_X6_readProduct cv_X6_readProduct (show Cond.initialized (yX6_readProduct).cls ∈ am_ts from ci9_RX6) ⟨by decide +kernel, by decide +kernel, by decide +kernel⟩ rfl (by decide +kernel)))⟩,
  List.forall_mem_cons.mpr ⟨⟨mo_al _ _, Or.inl (ok_aload_n (k := 0) rfl (by decide +kernel))⟩,
  List.forall_mem_cons.mpr ⟨⟨mo_il _ _, Or.inl (ok_iload_n (k := 3) rfl (by decide +kernel))⟩,
  List.forall_mem_cons.mpr ⟨⟨mo_un _ _, Or.inl (ok_ineg (by decide +kernel))⟩,
  List.forall_mem_cons.mpr ⟨⟨mo_inv _ _ _ _ _, Or.inr (Or.inl (ok_inv (T := TX6) (N := 12) rfl cw_X6_put (by decide) (by decide) ml_X6_120 ci_X6_put cv_X6_put (show Cond.initialized (yX6_put).cls ∈ am_ts from ci9_RX6) ⟨by decide +kernel, by decide +kernel, by decide +kernel⟩ rfl (by decide +kernel)))⟩,
  List.forall_mem_cons.mpr ⟨⟨mo_iinc _ _ _, Or.inl (ok_iinc (n := 1) (v := 1) (by decide) (by decide) (by decide +kernel))⟩,
  List.forall_mem_cons.mpr ⟨⟨mo_go _, Or.inl (ok_goto (off := (-48)) (by decide) (by decide +kernel))⟩,
  List.forall_mem_cons.mpr ⟨⟨mo_ret0e, Or.inr (Or.inr (ok_ret0 rfl (by decide +kernel)))⟩,
  fun _ h => absurd h List.not_mem_nil⟩⟩⟩⟩⟩⟩⟩⟩⟩⟩⟩
def t_X6_readSum : List (Nat × am_F) := t_X6_readSum_0 ++ (t_X6_readSum_1)
theorem o_X6_readSum : ∀ q ∈ t_X6_readSum, am_ok vwCl q_SH ξ (q_E ξ β xs L) q_EN q_KD q_ML (cX6_readSum, 4, RX6, "readSum", none, []) q.1 q.2 := List.forall_mem_append.mpr ⟨o_X6_readSum_0, o_X6_readSum_1⟩
def t_X6_readProduct_0 : List (Nat × am_F) := [(0, im_al 0 1), (1, im_il 1 2), (2, im_inv q_SH 6 36 1 5), (5, im_ic 0 6), (6, im_is 2 7), (7, im_il 2 8), (8, im_ic 500 11), (11, im_if2 ic_ge 58 14), (14, im_al 0 15), (15, im_ic 42 17), (17, im_inv q_SH 6 38 1 20), (20, im_if1 ib_ne 32 23), (23, im_al 0 24), (24, im_ic 47 26), (26, im_inv q_SH 6 38 1 29), (29, im_if1 ib_eq 58 32), (32, im_al 0 33), (33, im_gi q_SH 6 4 36), (36, im_is 3 37), (37, im_al 0 38)]
set_option maxRecDepth 20000 in
theorem o_X6_readProduct_0 : ∀ q ∈ t_X6_readProduct_0, am_ok vwCl q_SH ξ (q_E ξ β xs L) q_EN q_KD q_ML (cX6_readProduct, 4, RX6, "readProduct", none, []) q.1 q.2 :=
  List.forall_mem_cons.mpr ⟨⟨mo_al _ _, Or.inl (ok_aload_n (k := 0) rfl (by decide +kernel))⟩,
  List.forall_mem_cons.mpr ⟨⟨mo_il _ _, Or.inl (ok_iload_n (k := 1) rfl (by decide +kernel))⟩,
  List.forall_mem_cons.mpr ⟨⟨mo_inv _ _ _ _ _, Or.inr (Or.inl (ok_inv (T := TX6) (N := 12) rfl cw_X6_readPart (by decide) (by decide) ml_X6_135 ci_X6_readPart cv_X6_readPart (show Cond.initialized (yX6_readPart).cls ∈ am_ts from ci9_RX6) ⟨by decide +kernel, by decide +kernel, by decide +kernel⟩ rfl (by decide +kernel)))⟩,
  List.forall_mem_cons.mpr ⟨⟨mo_ic _ _, Or.inl (ok_iconst (n := 0) (v := 0) (by decide) (by decide +kernel))⟩,
  List.forall_mem_cons.mpr ⟨⟨mo_is _ _, Or.inl (ok_istore_n (k := 2) rfl (by decide) (by decide +kernel))⟩,
  List.forall_mem_cons.mpr ⟨⟨mo_il _ _, Or.inl (ok_iload_n (k := 2) rfl (by decide +kernel))⟩,
  List.forall_mem_cons.mpr ⟨⟨mo_ic _ _, Or.inl (ok_sipush (n := 500) (v := 500) (by decide) (by decide +kernel))⟩,
  List.forall_mem_cons.mpr ⟨⟨mo_if2 _ _ _, Or.inl (ok_icmp_ge (off := 47) (by decide) (by decide +kernel))⟩,
  List.forall_mem_cons.mpr ⟨⟨mo_al _ _, Or.inl (ok_aload_n (k := 0) rfl (by decide +kernel))⟩,
  List.forall_mem_cons.mpr ⟨⟨mo_ic _ _, Or.inl (ok_bipush (n := 42) (v := 42) (by decide) (by decide +kernel))⟩,
  List.forall_mem_cons.mpr ⟨⟨mo_inv _ _ _ _ _, Or.inr (Or.inl (ok_inv (T := TX6) (N := 12) rfl cw_X6_isSign (by decide) (by decide) ml_X6_129 ci_X6_isSign cv_X6_isSign (show Cond.initialized (yX6_isSign).cls ∈ am_ts from ci9_RX6) ⟨by decide +kernel, by decide +kernel, by decide +kernel⟩ rfl (by decide +kernel)))⟩,
  List.forall_mem_cons.mpr ⟨⟨mo_if1 _ _ _, Or.inl (ok_if_ne (off := 12) (by decide) (by decide +kernel))⟩,
  List.forall_mem_cons.mpr ⟨⟨mo_al _ _, Or.inl (ok_aload_n (k := 0) rfl (by decide +kernel))⟩,
  List.forall_mem_cons.mpr ⟨⟨mo_ic _ _, Or.inl (ok_bipush (n := 47) (v := 47) (by decide) (by decide +kernel))⟩,
  List.forall_mem_cons.mpr ⟨⟨mo_inv _ _ _ _ _, Or.inr (Or.inl (ok_inv (T := TX6) (N := 12) rfl cw_X6_isSign (by decide) (by decide) ml_X6_129 ci_X6_isSign cv_X6_isSign (show Cond.initialized (yX6_isSign).cls ∈ am_ts from ci9_RX6) ⟨by decide +kernel, by decide +kernel, by decide +kernel⟩ rfl (by decide +kernel)))⟩,
  List.forall_mem_cons.mpr ⟨⟨mo_if1 _ _ _, Or.inl (ok_if_eq (off := 29) (by decide) (by decide +kernel))⟩,
  List.forall_mem_cons.mpr ⟨⟨mo_al _ _, Or.inl (ok_aload_n (k := 0) rfl (by decide +kernel))⟩,
  List.forall_mem_cons.mpr ⟨⟨mo_gi _ _ _ _, Or.inl (ok_gi (C := RX6) (T := TX6) (N := 12) (ci := 6) (k := 4) rfl inX6 (by decide) fl_X6_62 (by decide +kernel) (by decide +kernel))⟩,
  List.forall_mem_cons.mpr ⟨⟨mo_is _ _, Or.inl (ok_istore_n (k := 3) rfl (by decide) (by decide +kernel))⟩,
  List.forall_mem_cons.mpr ⟨⟨mo_al _ _, Or.inl (ok_aload_n (k := 0) rfl (by decide +kernel))⟩,
  fun _ h => absurd h List.not_mem_nil⟩⟩⟩⟩⟩⟩⟩⟩⟩⟩⟩⟩⟩⟩⟩⟩⟩⟩⟩⟩
def t_X6_readProduct_1 : List (Nat × am_F) := [(38, im_inv q_SH 6 43 0 41), (41, im_al 0 42), (42, im_il 1 43), (43, im_inv q_SH 6 36 1 46), (46, im_al 0 47), (47, im_il 3 48), (48, im_un (fun x => -x) 49), (49, im_inv q_SH 6 42 1 52), (52, im_iinc 2 1 55), (55, im_go 7), (58, im_ret0e)]
set_option maxRecDepth 20000 in
theorem o_X6_readProduct_1 : ∀ q ∈ t_X6_readProduct_1, am_ok vwCl q_SH ξ (q_E ξ β xs L) q_EN q_KD q_ML (cX6_readProduct, 4, RX6, "readProduct", none, []) q.1 q.2 :=
  List.forall_mem_cons.mpr ⟨⟨mo_inv _ _ _ _ _, Or.inr (Or.inl (ok_inv (T := TX6) (N := 12) rfl cw_X6_next (by decide) (by decide) ml_X6_59 ci_X6_next cv_X6_next (show Cond.initialized (yX6_next).cls ∈ am_ts from ci9_RX6) ⟨by decide +kernel, by decide +kernel, by decide +kernel⟩ rfl (by decide +kernel)))⟩,
  List.forall_mem_cons.mpr ⟨⟨mo_al _ _, Or.inl (ok_aload_n (k := 0) rfl (by decide +kernel))⟩,
  List.forall_mem_cons.mpr ⟨⟨mo_il _ _, Or.inl (ok_iload_n (k := 1) rfl (by decide +kernel))⟩,
  List.forall_mem_cons.mpr ⟨⟨mo_inv _ _ _ _ _, Or.inr (Or.inl (ok_inv (T := TX6) (N := 12) rfl cw_X6_readPart (by decide) (by decide) ml_X6_135 ci_X6_readPart cv_X6_readPart (show Cond.initialized (yX6_readPart).cls ∈ am_ts from ci9_RX6) ⟨by decide +kernel, by decide +kernel, by decide +kernel⟩ rfl (by decide +kernel)))⟩,
  List.forall_mem_cons.mpr ⟨⟨mo_al _ _, Or.inl (ok_aload_n (k := 0) rfl (by decide +kernel))⟩,
  List.forall_mem_cons.mpr ⟨⟨mo_il _ _, Or.inl (ok_iload_n (k := 3) rfl (by decide +kernel))⟩,
  List.forall_mem_cons.mpr ⟨⟨mo_un _ _, Or.inl (ok_ineg (by decide +kernel))⟩,
  List.forall_mem_cons.mpr ⟨⟨mo_inv _ _ _ _ _, Or.inr (Or.inl (ok_inv (T := TX6) (N := 12) rfl cw_X6_put (by decide) (by decide) ml_X6_120 ci_X6_put cv_X6_put (show Cond.initialized (yX6_put).cls ∈ am_ts from ci9_RX6) ⟨by decide +kernel, by decide +kernel, by decide +kernel⟩ rfl (by decide +kernel)))⟩,
  List.forall_mem_cons.mpr ⟨⟨mo_iinc _ _ _, Or.inl (ok_iinc (n := 1) (v := 1) (by decide) (by decide) (by decide +kernel))⟩,
  List.forall_mem_cons.mpr ⟨⟨mo_go _, Or.inl (ok_goto (off := (-48)) (by decide) (by decide +kernel))⟩,
  List.forall_mem_cons.mpr ⟨⟨mo_ret0e, Or.inr (Or.inr (ok_ret0 rfl (by decide +kernel)))⟩,
  fun _ h => absurd h List.not_mem_nil⟩⟩⟩⟩⟩⟩⟩⟩⟩⟩⟩
def t_X6_readProduct : List (Nat × am_F) := t_X6_readProduct_0 ++ (t_X6_readProduct_1)
theorem o_X6_readProduct : ∀ q ∈ t_X6_readProduct, am_ok vwCl q_SH ξ (q_E ξ β xs L) q_EN q_KD q_ML (cX6_readProduct, 4, RX6, "readProduct", none, []) q.1 q.2 := List.forall_mem_append.mpr ⟨o_X6_readProduct_0, o_X6_readProduct_1⟩
def t_X6_readPart_0 : List (Nat × am_F) := [(0, im_al 0 1), (1, im_ic 40 3), (3, im_inv q_SH 6 38 1 6), (6, im_if1 ib_eq 29 9), (9, im_al 0 10), (10, im_inv q_SH 6 43 0 13), (13, im_al 0 14), (14, im_il 1 15), (15, im_ic 1 16), (16, im_bin (fun x y => x + y) 17), (17, im_inv q_SH 6 31 1 20), (20, im_al 0 21), (21, im_ic 41 23), (23, im_inv q_SH 6 40 1 26), (26, im_go 100), (29, im_al 0 30), (30, im_gi q_SH 6 4 33), (33, im_ic 3 34), (34, im_if2 ic_ne 81 37), (37, im_al 0 38)]
set_option maxRecDepth 20000 in
theorem o_X6_readPart_0 : ∀ q ∈ t_X6_readPart_0, am_ok vwCl q_SH ξ (q_E ξ β xs L) q_EN q_KD q_ML (cX6_readPart, 2, RX6, "readPart", none, []) q.1 q.2 :=
  List.forall_mem_cons.mpr ⟨⟨mo_al _ _, Or.inl (ok_aload_n (k := 0) rfl (by decide +kernel))⟩,
  List.forall_mem_cons.mpr ⟨⟨mo_ic _ _, Or.inl (ok_bipush (n := 40) (v := 40) (by decide) (by decide +kernel))⟩,
  List.forall_mem_cons.mpr ⟨⟨mo_inv _ _ _ _ _, Or.inr (Or.inl (ok_inv (T := TX6) (N := 12) rfl cw_X6_isSign (by decide) (by decide) ml_X6_129 ci_X6_isSign cv_X6_isSign (show Cond.initialized (yX6_isSign).cls ∈ am_ts from ci9_RX6) ⟨by decide +kernel, by decide +kernel, by decide +kernel⟩ rfl (by decide +kernel)))⟩,
  List.forall_mem_cons.mpr ⟨⟨mo_if1 _ _ _, Or.inl (ok_if_eq (off := 23) (by decide) (by decide +kernel))⟩,
  List.forall_mem_cons.mpr ⟨⟨mo_al _ _, Or.inl (ok_aload_n (k := 0) rfl (by decide +kernel))⟩,
  List.forall_mem_cons.mpr ⟨⟨mo_inv _ _ _ _ _, Or.inr (Or.inl (ok_inv (T := TX6) (N := 12) rfl cw_X6_next (by decide) (by decide) ml_X6_59 ci_X6_next cv_X6_next (show Cond.initialized (yX6_next).cls ∈ am_ts from ci9_RX6) ⟨by decide +kernel, by decide +kernel, by decide +kernel⟩ rfl (by decide +kernel)))⟩,
  List.forall_mem_cons.mpr ⟨⟨mo_al _ _, Or.inl (ok_aload_n (k := 0) rfl (by decide +kernel))⟩,
  List.forall_mem_cons.mpr ⟨⟨mo_il _ _, Or.inl (ok_iload_n (k := 1) rfl (by decide +kernel))⟩,
  List.forall_mem_cons.mpr ⟨⟨mo_ic _ _, Or.inl (ok_iconst (n := 1) (v := 1) (by decide) (by decide +kernel))⟩,
  List.forall_mem_cons.mpr ⟨⟨mo_bin _ _, Or.inl (ok_iadd (by decide +kernel))⟩,
  List.forall_mem_cons.mpr ⟨⟨mo_inv _ _ _ _ _, Or.inr (Or.inl (ok_inv (T := TX6) (N := 12) rfl cw_X6_readEither (by decide) (by decide) ml_X6_101 ci_X6_readEither cv_X6_readEither (show Cond.initialized (yX6_readEither).cls ∈ am_ts from ci9_RX6) ⟨by decide +kernel, by decide +kernel, by decide +kernel⟩ rfl (by decide +kernel)))⟩,
  List.forall_mem_cons.mpr ⟨⟨mo_al _ _, Or.inl (ok_aload_n (k := 0) rfl (by decide +kernel))⟩,
  List.forall_mem_cons.mpr ⟨⟨mo_ic _ _, Or.inl (ok_bipush (n := 41) (v := 41) (by decide) (by decide +kernel))⟩,
  List.forall_mem_cons.mpr ⟨⟨mo_inv _ _ _ _ _, Or.inr (Or.inl (ok_inv (T := TX6) (N := 12) rfl cw_X6_expect (by decide) (by decide) ml_X6_85 ci_X6_expect cv_X6_expect (show Cond.initialized (yX6_expect).cls ∈ am_ts from ci9_RX6) ⟨by decide +kernel, by decide +kernel, by decide +kernel⟩ rfl (by decide +kernel)))⟩,
  List.forall_mem_cons.mpr ⟨⟨mo_go _, Or.inl (ok_goto (off := 74) (by decide) (by decide +kernel))⟩,
  List.forall_mem_cons.mpr ⟨⟨mo_al _ _, Or.inl (ok_aload_n (k := 0) rfl (by decide +kernel))⟩,
  List.forall_mem_cons.mpr ⟨⟨mo_gi _ _ _ _, Or.inl (ok_gi (C := RX6) (T := TX6) (N := 12) (ci := 6) (k := 4) rfl inX6 (by decide) fl_X6_62 (by decide +kernel) (by decide +kernel))⟩,
  List.forall_mem_cons.mpr ⟨⟨mo_ic _ _, Or.inl (ok_iconst (n := 3) (v := 3) (by decide) (by decide +kernel))⟩,
  List.forall_mem_cons.mpr ⟨⟨mo_if2 _ _ _, Or.inl (ok_icmp_ne (off := 47) (by decide) (by decide +kernel))⟩,
  List.forall_mem_cons.mpr ⟨⟨mo_al _ _, Or.inl (ok_aload_n (k := 0) rfl (by decide +kernel))⟩,
  fun _ h => absurd h List.not_mem_nil⟩⟩⟩⟩⟩⟩⟩⟩⟩⟩⟩⟩⟩⟩⟩⟩⟩⟩⟩⟩
def t_X6_readPart_1 : List (Nat × am_F) := [(38, im_gi q_SH 6 8 41), (41, im_ic 15 43), (43, im_if2 ic_lt 55 46), (46, im_al 0 47), (47, im_gi q_SH 6 8 50), (50, im_ic 28 52), (52, im_if2 ic_lt 61 55), (55, im_al 0 56), (56, im_ic 3 57), (57, im_inv q_SH 6 41 1 60), (60, im_ret0e), (61, im_al 0 62), (62, im_ic (-1) 63), (63, im_al 0 64), (64, im_gi q_SH 6 8 67), (67, im_ic 15 69), (69, im_bin (fun x y => x - y) 70), (70, im_bin (fun x y => x - y) 71), (71, im_inv q_SH 6 42 1 74), (74, im_al 0 75)]
set_option maxRecDepth 20000 in
theorem o_X6_readPart_1 : ∀ q ∈ t_X6_readPart_1, am_ok vwCl q_SH ξ (q_E ξ β xs L) q_EN q_KD q_ML (cX6_readPart, 2, RX6, "readPart", none, []) q.1 q.2 :=
  List.forall_mem_cons.mpr ⟨⟨mo_gi _ _ _ _, Or.inl (ok_gi (C := RX6) (T := TX6) (N := 12) (ci := 6) (k := 8) rfl inX6 (by decide) fl_X6_69 (by decide +kernel) (by decide +kernel))⟩,
  List.forall_mem_cons.mpr ⟨⟨mo_ic _ _, Or.inl (ok_bipush (n := 15) (v := 15) (by decide) (by decide +kernel))⟩,
  List.forall_mem_cons.mpr ⟨⟨mo_if2 _ _ _, Or.inl (ok_icmp_lt (off := 12) (by decide) (by decide +kernel))⟩,
  List.forall_mem_cons.mpr ⟨⟨mo_al _ _, Or.inl (ok_aload_n (k := 0) rfl (by decide +kernel))⟩,
  List.forall_mem_cons.mpr ⟨⟨mo_gi _ _ _ _, Or.inl (ok_gi (C := RX6) (T := TX6) (N := 12) (ci := 6) (k := 8) rfl inX6 (by decide) fl_X6_69 (by decide +kernel) (by decide +kernel))⟩,
  List.forall_mem_cons.mpr ⟨⟨mo_ic _ _, Or.inl (ok_bipush (n := 28) (v := 28) (by decide) (by decide +kernel))⟩,
  List.forall_mem_cons.mpr ⟨⟨mo_if2 _ _ _, Or.inl (ok_icmp_lt (off := 9) (by decide) (by decide +kernel))⟩,
  List.forall_mem_cons.mpr ⟨⟨mo_al _ _, Or.inl (ok_aload_n (k := 0) rfl (by decide +kernel))⟩,
  List.forall_mem_cons.mpr ⟨⟨mo_ic _ _, Or.inl (ok_iconst (n := 3) (v := 3) (by decide) (by decide +kernel))⟩,
  List.forall_mem_cons.mpr ⟨⟨mo_inv _ _ _ _ _, Or.inr (Or.inl (ok_inv (T := TX6) (N := 12) rfl cw_X6_fail (by decide) (by decide) ml_X6_72 ci_X6_fail cv_X6_fail (show Cond.initialized (yX6_fail).cls ∈ am_ts from ci9_RX6) ⟨by decide +kernel, by decide +kernel, by decide +kernel⟩ rfl (by decide +kernel)))⟩,
  List.forall_mem_cons.mpr ⟨⟨mo_ret0e, Or.inr (Or.inr (ok_ret0 rfl (by decide +kernel)))⟩,
  List.forall_mem_cons.mpr ⟨⟨mo_al _ _, Or.inl (ok_aload_n (k := 0) rfl (by decide +kernel))⟩,
  List.forall_mem_cons.mpr ⟨⟨mo_ic _ _, Or.inl (ok_iconst (n := (-1)) (v := (-1)) (by decide) (by decide +kernel))⟩,
  List.forall_mem_cons.mpr ⟨⟨mo_al _ _, Or.inl (ok_aload_n (k := 0) rfl (by decide +kernel))⟩,
  List.forall_mem_cons.mpr ⟨⟨mo_gi _ _ _ _, Or.inl (ok_gi (C := RX6) (T := TX6) (N := 12) (ci := 6) (k := 8) rfl inX6 (by decide) fl_X6_69 (by decide +kernel) (by decide +kernel))⟩,
  List.forall_mem_cons.mpr ⟨⟨mo_ic _ _, Or.inl (ok_bipush (n := 15) (v := 15) (by decide) (by decide +kernel))⟩,
  List.forall_mem_cons.mpr ⟨⟨mo_bin _ _, Or.inl (ok_isub (by decide +kernel))⟩,
  List.forall_mem_cons.mpr ⟨⟨mo_bin _ _, Or.inl (ok_isub (by decide +kernel))⟩,
  List.forall_mem_cons.mpr ⟨⟨mo_inv _ _ _ _ _, Or.inr (Or.inl (ok_inv (T := TX6) (N := 12) rfl cw_X6_put (by decide) (by decide) ml_X6_120 ci_X6_put cv_X6_put (show Cond.initialized (yX6_put).cls ∈ am_ts from ci9_RX6) ⟨by decide +kernel, by decide +kernel, by decide +kernel⟩ rfl (by decide +kernel)))⟩,
  List.forall_mem_cons.mpr ⟨⟨mo_al _ _, Or.inl (ok_aload_n (k := 0) rfl (by decide +kernel))⟩,
  fun _ h => absurd h List.not_mem_nil⟩⟩⟩⟩⟩⟩⟩⟩⟩⟩⟩⟩⟩⟩⟩⟩⟩⟩⟩⟩
def t_X6_readPart_2 : List (Nat × am_F) := [(75, im_inv q_SH 6 43 0 78), (78, im_go 100), (81, im_al 0 82), (82, im_inv q_SH 6 39 0 85), (85, im_if1 ib_eq 100 88), (88, im_al 0 89), (89, im_al 0 90), (90, im_gi q_SH 6 7 93), (93, im_inv q_SH 6 42 1 96), (96, im_al 0 97), (97, im_inv q_SH 6 43 0 100), (100, im_ret0e)]
set_option maxRecDepth 20000 in
theorem o_X6_readPart_2 : ∀ q ∈ t_X6_readPart_2, am_ok vwCl q_SH ξ (q_E ξ β xs L) q_EN q_KD q_ML (cX6_readPart, 2, RX6, "readPart", none, []) q.1 q.2 :=
  List.forall_mem_cons.mpr ⟨⟨mo_inv _ _ _ _ _, Or.inr (Or.inl (ok_inv (T := TX6) (N := 12) rfl cw_X6_next (by decide) (by decide) ml_X6_59 ci_X6_next cv_X6_next (show Cond.initialized (yX6_next).cls ∈ am_ts from ci9_RX6) ⟨by decide +kernel, by decide +kernel, by decide +kernel⟩ rfl (by decide +kernel)))⟩,
  List.forall_mem_cons.mpr ⟨⟨mo_go _, Or.inl (ok_goto (off := 22) (by decide) (by decide +kernel))⟩,
  List.forall_mem_cons.mpr ⟨⟨mo_al _ _, Or.inl (ok_aload_n (k := 0) rfl (by decide +kernel))⟩,
  List.forall_mem_cons.mpr ⟨⟨mo_inv _ _ _ _ _, Or.inr (Or.inl (ok_inv (T := TX6) (N := 12) rfl cw_X6_isNumberHere (by decide) (by decide) ml_X6_88 ci_X6_isNumberHere cv_X6_isNumberHere (show Cond.initialized (yX6_isNumberHere).cls ∈ am_ts from ci9_RX6) ⟨by decide +kernel, by decide +kernel, by decide +kernel⟩ rfl (by decide +kernel)))⟩,
  List.forall_mem_cons.mpr ⟨⟨mo_if1 _ _ _, Or.inl (ok_if_eq (off := 15) (by decide) (by decide +kernel))⟩,
  List.forall_mem_cons.mpr ⟨⟨mo_al _ _, Or.inl (ok_aload_n (k := 0) rfl (by decide +kernel))⟩,
  List.forall_mem_cons.mpr ⟨⟨mo_al _ _, Or.inl (ok_aload_n (k := 0) rfl (by decide +kernel))⟩,
  List.forall_mem_cons.mpr ⟨⟨mo_gi _ _ _ _, Or.inl (ok_gi (C := RX6) (T := TX6) (N := 12) (ci := 6) (k := 7) rfl inX6 (by decide) fl_X6_92 (by decide +kernel) (by decide +kernel))⟩,
  List.forall_mem_cons.mpr ⟨⟨mo_inv _ _ _ _ _, Or.inr (Or.inl (ok_inv (T := TX6) (N := 12) rfl cw_X6_put (by decide) (by decide) ml_X6_120 ci_X6_put cv_X6_put (show Cond.initialized (yX6_put).cls ∈ am_ts from ci9_RX6) ⟨by decide +kernel, by decide +kernel, by decide +kernel⟩ rfl (by decide +kernel)))⟩,
  List.forall_mem_cons.mpr ⟨⟨mo_al _ _, Or.inl (ok_aload_n (k := 0) rfl (by decide +kernel))⟩,
  List.forall_mem_cons.mpr ⟨⟨mo_inv _ _ _ _ _, Or.inr (Or.inl (ok_inv (T := TX6) (N := 12) rfl cw_X6_next (by decide) (by decide) ml_X6_59 ci_X6_next cv_X6_next (show Cond.initialized (yX6_next).cls ∈ am_ts from ci9_RX6) ⟨by decide +kernel, by decide +kernel, by decide +kernel⟩ rfl (by decide +kernel)))⟩,
  List.forall_mem_cons.mpr ⟨⟨mo_ret0e, Or.inr (Or.inr (ok_ret0 rfl (by decide +kernel)))⟩,
  fun _ h => absurd h List.not_mem_nil⟩⟩⟩⟩⟩⟩⟩⟩⟩⟩⟩⟩
def t_X6_readPart : List (Nat × am_F) := t_X6_readPart_0 ++ (t_X6_readPart_1 ++ (t_X6_readPart_2))
theorem o_X6_readPart : ∀ q ∈ t_X6_readPart, am_ok vwCl q_SH ξ (q_E ξ β xs L) q_EN q_KD q_ML (cX6_readPart, 2, RX6, "readPart", none, []) q.1 q.2 := List.forall_mem_append.mpr ⟨o_X6_readPart_0, List.forall_mem_append.mpr ⟨o_X6_readPart_1, o_X6_readPart_2⟩⟩
def t_X6_isWord_0 : List (Nat × am_F) := [(0, im_al 0 1), (1, im_gi q_SH 6 10 4), (4, im_if1 ib_ne 27 7), (7, im_al 0 8), (8, im_gi q_SH 6 4 11), (11, im_ic 3 12), (12, im_if2 ic_ne 27 15), (15, im_al 0 16), (16, im_gi q_SH 6 8 19), (19, im_il 1 20), (20, im_if2 ic_ne 27 23), (23, im_ic 1 24), (24, im_go 28), (27, im_ic 0 28), (28, im_retz)]
set_option maxRecDepth 20000 in
theorem o_X6_isWord_0 : ∀ q ∈ t_X6_isWord_0, am_ok vwCl q_SH ξ (q_E ξ β xs L) q_EN q_KD q_ML (cX6_isWord, 2, RX6, "isWord", (some .boolean), []) q.1 q.2 :=
  List.forall_mem_cons.mpr ⟨⟨mo_al _ _, Or.inl (ok_aload_n (k := 0) rfl (by decide +kernel))⟩,
  List.forall_mem_cons.mpr ⟨⟨mo_gi _ _ _ _, Or.inl (ok_gi (C := RX6) (T := TX6) (N := 12) (ci := 6) (k := 10) rfl inX6 (by decide) fl_X6_35 (by decide +kernel) (by decide +kernel))⟩,
  List.forall_mem_cons.mpr ⟨⟨mo_if1 _ _ _, Or.inl (ok_if_ne (off := 23) (by decide) (by decide +kernel))⟩,
  List.forall_mem_cons.mpr ⟨⟨mo_al _ _, Or.inl (ok_aload_n (k := 0) rfl (by decide +kernel))⟩,
  List.forall_mem_cons.mpr ⟨⟨mo_gi _ _ _ _, Or.inl (ok_gi (C := RX6) (T := TX6) (N := 12) (ci := 6) (k := 4) rfl inX6 (by decide) fl_X6_62 (by decide +kernel) (by decide +kernel))⟩,
  List.forall_mem_cons.mpr ⟨⟨mo_ic _ _, Or.inl (ok_iconst (n := 3) (v := 3) (by decide) (by decide +kernel))⟩,
  List.forall_mem_cons.mpr ⟨⟨mo_if2 _ _ _, Or.inl (ok_icmp_ne (off := 15) (by decide) (by decide +kernel))⟩,
  List.forall_mem_cons.mpr ⟨⟨mo_al _ _, Or.inl (ok_aload_n (k := 0) rfl (by decide +kernel))⟩,
  List.forall_mem_cons.mpr ⟨⟨mo_gi _ _ _ _, Or.inl (ok_gi (C := RX6) (T := TX6) (N := 12) (ci := 6) (k := 8) rfl inX6 (by decide) fl_X6_69 (by decide +kernel) (by decide +kernel))⟩,
  List.forall_mem_cons.mpr ⟨⟨mo_il _ _, Or.inl (ok_iload_n (k := 1) rfl (by decide +kernel))⟩,
  List.forall_mem_cons.mpr ⟨⟨mo_if2 _ _ _, Or.inl (ok_icmp_ne (off := 7) (by decide) (by decide +kernel))⟩,
  List.forall_mem_cons.mpr ⟨⟨mo_ic _ _, Or.inl (ok_iconst (n := 1) (v := 1) (by decide) (by decide +kernel))⟩,
  List.forall_mem_cons.mpr ⟨⟨mo_go _, Or.inl (ok_goto (off := 4) (by decide) (by decide +kernel))⟩,
  List.forall_mem_cons.mpr ⟨⟨mo_ic _ _, Or.inl (ok_iconst (n := 0) (v := 0) (by decide) (by decide +kernel))⟩,
  List.forall_mem_cons.mpr ⟨⟨mo_retz, Or.inr (Or.inr (ok_retz rfl (by decide +kernel)))⟩,
  fun _ h => absurd h List.not_mem_nil⟩⟩⟩⟩⟩⟩⟩⟩⟩⟩⟩⟩⟩⟩⟩
def t_X6_isWord : List (Nat × am_F) := t_X6_isWord_0
theorem o_X6_isWord : ∀ q ∈ t_X6_isWord, am_ok vwCl q_SH ξ (q_E ξ β xs L) q_EN q_KD q_ML (cX6_isWord, 2, RX6, "isWord", (some .boolean), []) q.1 q.2 := o_X6_isWord_0
def t_X6_isSign_0 : List (Nat × am_F) := [(0, im_al 0 1), (1, im_gi q_SH 6 10 4), (4, im_if1 ib_ne 19 7), (7, im_al 0 8), (8, im_gi q_SH 6 4 11), (11, im_il 1 12), (12, im_if2 ic_ne 19 15), (15, im_ic 1 16), (16, im_go 20), (19, im_ic 0 20), (20, im_retz)]
set_option maxRecDepth 20000 in
theorem o_X6_isSign_0 : ∀ q ∈ t_X6_isSign_0, am_ok vwCl q_SH ξ (q_E ξ β xs L) q_EN q_KD q_ML (cX6_isSign, 2, RX6, "isSign", (some .boolean), []) q.1 q.2 :=
  List.forall_mem_cons.mpr ⟨⟨mo_al _ _, Or.inl (ok_aload_n (k := 0) rfl (by decide +kernel))⟩,
  List.forall_mem_cons.mpr ⟨⟨mo_gi _ _ _ _, Or.inl (ok_gi (C := RX6) (T := TX6) (N := 12) (ci := 6) (k := 10) rfl inX6 (by decide) fl_X6_35 (by decide +kernel) (by decide +kernel))⟩,
  List.forall_mem_cons.mpr ⟨⟨mo_if1 _ _ _, Or.inl (ok_if_ne (off := 15) (by decide) (by decide +kernel))⟩,
  List.forall_mem_cons.mpr ⟨⟨mo_al _ _, Or.inl (ok_aload_n (k := 0) rfl (by decide +kernel))⟩,
  List.forall_mem_cons.mpr ⟨⟨mo_gi _ _ _ _, Or.inl (ok_gi (C := RX6) (T := TX6) (N := 12) (ci := 6) (k := 4) rfl inX6 (by decide) fl_X6_62 (by decide +kernel) (by decide +kernel))⟩,
  List.forall_mem_cons.mpr ⟨⟨mo_il _ _, Or.inl (ok_iload_n (k := 1) rfl (by decide +kernel))⟩,
  List.forall_mem_cons.mpr ⟨⟨mo_if2 _ _ _, Or.inl (ok_icmp_ne (off := 7) (by decide) (by decide +kernel))⟩,
  List.forall_mem_cons.mpr ⟨⟨mo_ic _ _, Or.inl (ok_iconst (n := 1) (v := 1) (by decide) (by decide +kernel))⟩,
  List.forall_mem_cons.mpr ⟨⟨mo_go _, Or.inl (ok_goto (off := 4) (by decide) (by decide +kernel))⟩,
  List.forall_mem_cons.mpr ⟨⟨mo_ic _ _, Or.inl (ok_iconst (n := 0) (v := 0) (by decide) (by decide +kernel))⟩,
  List.forall_mem_cons.mpr ⟨⟨mo_retz, Or.inr (Or.inr (ok_retz rfl (by decide +kernel)))⟩,
  fun _ h => absurd h List.not_mem_nil⟩⟩⟩⟩⟩⟩⟩⟩⟩⟩⟩
def t_X6_isSign : List (Nat × am_F) := t_X6_isSign_0
theorem o_X6_isSign : ∀ q ∈ t_X6_isSign, am_ok vwCl q_SH ξ (q_E ξ β xs L) q_EN q_KD q_ML (cX6_isSign, 2, RX6, "isSign", (some .boolean), []) q.1 q.2 := o_X6_isSign_0
def t_X6_isNumberHere_0 : List (Nat × am_F) := [(0, im_al 0 1), (1, im_gi q_SH 6 4 4), (4, im_ic 2 5), (5, im_if2 ic_eq 16 8), (8, im_al 0 9), (9, im_ic 1 10), (10, im_inv q_SH 6 41 1 13), (13, im_go 29), (16, im_al 0 17), (17, im_gi q_SH 6 6 20), (20, im_ic 5 21), (21, im_if2 ic_le 29 24), (24, im_al 0 25), (25, im_ic 2 26), (26, im_inv q_SH 6 41 1 29), (29, im_al 0 30), (30, im_gi q_SH 6 10 33), (33, im_if1 ib_ne 40 36), (36, im_ic 1 37), (37, im_go 41)]
set_option maxRecDepth 20000 in
theorem o_X6_isNumberHere_0 : ∀ q ∈ t_X6_isNumberHere_0, am_ok vwCl q_SH ξ (q_E ξ β xs L) q_EN q_KD q_ML (cX6_isNumberHere, 1, RX6, "isNumberHere", (some .boolean), []) q.1 q.2 :=
  List.forall_mem_cons.mpr ⟨⟨mo_al _ _, Or.inl (ok_aload_n (k := 0) rfl (by decide +kernel))⟩,
  List.forall_mem_cons.mpr ⟨⟨mo_gi _ _ _ _, Or.inl (ok_gi (C := RX6) (T := TX6) (N := 12) (ci := 6) (k := 4) rfl inX6 (by decide) fl_X6_62 (by decide +kernel) (by decide +kernel))⟩,
  List.forall_mem_cons.mpr ⟨⟨mo_ic _ _, Or.inl (ok_iconst (n := 2) (v := 2) (by decide) (by decide +kernel))⟩,
  List.forall_mem_cons.mpr ⟨⟨mo_if2 _ _ _, Or.inl (ok_icmp_eq (off := 11) (by decide) (by decide +kernel))⟩,
  List.forall_mem_cons.mpr ⟨⟨mo_al _ _, Or.inl (ok_aload_n (k := 0) rfl (by decide +kernel))⟩,
  List.forall_mem_cons.mpr ⟨⟨mo_ic _ _, Or.inl (ok_iconst (n := 1) (v := 1) (by decide) (by decide +kernel))⟩,
  List.forall_mem_cons.mpr ⟨⟨mo_inv _ _ _ _ _, Or.inr (Or.inl (ok_inv (T := TX6) (N := 12) rfl cw_X6_fail (by decide) (by decide) ml_X6_72 ci_X6_fail cv_X6_fail (show Cond.initialized (yX6_fail).cls ∈ am_ts from ci9_RX6) ⟨by decide +kernel, by decide +kernel, by decide +kernel⟩ rfl (by decide +kernel)))⟩,
  List.forall_mem_cons.mpr ⟨⟨mo_go _, Or.inl (ok_goto (off := 16) (by decide) (by decide +kernel))⟩,
  List.forall_mem_cons.mpr ⟨⟨mo_al _ _, Or.inl (ok_aload_n (k := 0) rfl (by decide +kernel))⟩,
  List.forall_mem_cons.mpr ⟨⟨mo_gi _ _ _ _, Or.inl (ok_gi (C := RX6) (T := TX6) (N := 12) (ci := 6) (k := 6) rfl inX6 (by decide) fl_X6_138 (by decide +kernel) (by decide +kernel))⟩,
  List.forall_mem_cons.mpr ⟨⟨mo_ic _ _, Or.inl (ok_iconst (n := 5) (v := 5) (by decide) (by decide +kernel))⟩,
  List.forall_mem_cons.mpr ⟨⟨mo_if2 _ _ _, Or.inl (ok_icmp_le (off := 8) (by decide) (by decide +kernel))⟩,
  List.forall_mem_cons.mpr ⟨⟨mo_al _ _, Or.inl (ok_aload_n (k := 0) rfl (by decide +kernel))⟩,
  List.forall_mem_cons.mpr ⟨⟨mo_ic _ _, Or.inl (ok_iconst (n := 2) (v := 2) (by decide) (by decide +kernel))⟩,
  List.forall_mem_cons.mpr ⟨⟨mo_inv _ _ _ _ _, Or.inr (Or.inl (ok_inv (T := TX6) (N := 12) rfl cw_X6_fail (by decide) (by decide) ml_X6_72 ci_X6_fail cv_X6_fail (show Cond.initialized (yX6_fail).cls ∈ am_ts from ci9_RX6) ⟨by decide +kernel, by decide +kernel, by decide +kernel⟩ rfl (by decide +kernel)))⟩,
  List.forall_mem_cons.mpr ⟨⟨mo_al _ _, Or.inl (ok_aload_n (k := 0) rfl (by decide +kernel))⟩,
  List.forall_mem_cons.mpr ⟨⟨mo_gi _ _ _ _, Or.inl (ok_gi (C := RX6) (T := TX6) (N := 12) (ci := 6) (k := 10) rfl inX6 (by decide) fl_X6_35 (by decide +kernel) (by decide +kernel))⟩,
  List.forall_mem_cons.mpr ⟨⟨mo_if1 _ _ _, Or.inl (ok_if_ne (off := 7) (by decide) (by decide +kernel))⟩,
  List.forall_mem_cons.mpr ⟨⟨mo_ic _ _, Or.inl (ok_iconst (n := 1) (v := 1) (by decide) (by decide +kernel))⟩,
  List.forall_mem_cons.mpr ⟨⟨mo_go _, Or.inl (ok_goto (off := 4) (by decide) (by decide +kernel))⟩,
  fun _ h => absurd h List.not_mem_nil⟩⟩⟩⟩⟩⟩⟩⟩⟩⟩⟩⟩⟩⟩⟩⟩⟩⟩⟩⟩
def t_X6_isNumberHere_1 : List (Nat × am_F) := [(40, im_ic 0 41), (41, im_retz)]
set_option maxRecDepth 20000 in
theorem o_X6_isNumberHere_1 : ∀ q ∈ t_X6_isNumberHere_1, am_ok vwCl q_SH ξ (q_E ξ β xs L) q_EN q_KD q_ML (cX6_isNumberHere, 1, RX6, "isNumberHere", (some .boolean), []) q.1 q.2 :=
  List.forall_mem_cons.mpr ⟨⟨mo_ic _ _, Or.inl (ok_iconst (n := 0) (v := 0) (by decide) (by decide +kernel))⟩,
  List.forall_mem_cons.mpr ⟨⟨mo_retz, Or.inr (Or.inr (ok_retz rfl (by decide +kernel)))⟩,
  fun _ h => absurd h List.not_mem_nil⟩⟩
def t_X6_isNumberHere : List (Nat × am_F) := t_X6_isNumberHere_0 ++ (t_X6_isNumberHere_1)
theorem o_X6_isNumberHere : ∀ q ∈ t_X6_isNumberHere, am_ok vwCl q_SH ξ (q_E ξ β xs L) q_EN q_KD q_ML (cX6_isNumberHere, 1, RX6, "isNumberHere", (some .boolean), []) q.1 q.2 := List.forall_mem_append.mpr ⟨o_X6_isNumberHere_0, o_X6_isNumberHere_1⟩
def t_X6_expect_0 : List (Nat × am_F) := [(0, im_al 0 1), (1, im_gi q_SH 6 4 4), (4, im_il 1 5), (5, im_if2 ic_ne 15 8), (8, im_al 0 9), (9, im_inv q_SH 6 43 0 12), (12, im_go 20), (15, im_al 0 16), (16, im_ic 1 17), (17, im_inv q_SH 6 41 1 20), (20, im_ret0e)]
set_option maxRecDepth 20000 in
theorem o_X6_expect_0 : ∀ q ∈ t_X6_expect_0, am_ok vwCl q_SH ξ (q_E ξ β xs L) q_EN q_KD q_ML (cX6_expect, 2, RX6, "expect", none, []) q.1 q.2 :=
  List.forall_mem_cons.mpr ⟨⟨mo_al _ _, Or.inl (ok_aload_n (k := 0) rfl (by decide +kernel))⟩,
  List.forall_mem_cons.mpr ⟨⟨mo_gi _ _ _ _, Or.inl (ok_gi (C := RX6) (T := TX6) (N := 12) (ci := 6) (k := 4) rfl inX6 (by decide) fl_X6_62 (by decide +kernel) (by decide +kernel))⟩,
  List.forall_mem_cons.mpr ⟨⟨mo_il _ _, Or.inl (ok_iload_n (k := 1) rfl (by decide +kernel))⟩,
  List.forall_mem_cons.mpr ⟨⟨mo_if2 _ _ _, Or.inl (ok_icmp_ne (off := 10) (by decide) (by decide +kernel))⟩,
  List.forall_mem_cons.mpr ⟨⟨mo_al _ _, Or.inl (ok_aload_n (k := 0) rfl (by decide +kernel))⟩,
  List.forall_mem_cons.mpr ⟨⟨mo_inv _ _ _ _ _, Or.inr (Or.inl (ok_inv (T := TX6) (N := 12) rfl cw_X6_next (by decide) (by decide) ml_X6_59 ci_X6_next cv_X6_next (show Cond.initialized (yX6_next).cls ∈ am_ts from ci9_RX6) ⟨by decide +kernel, by decide +kernel, by decide +kernel⟩ rfl (by decide +kernel)))⟩,
  List.forall_mem_cons.mpr ⟨⟨mo_go _, Or.inl (ok_goto (off := 8) (by decide) (by decide +kernel))⟩,
  List.forall_mem_cons.mpr ⟨⟨mo_al _ _, Or.inl (ok_aload_n (k := 0) rfl (by decide +kernel))⟩,
  List.forall_mem_cons.mpr ⟨⟨mo_ic _ _, Or.inl (ok_iconst (n := 1) (v := 1) (by decide) (by decide +kernel))⟩,
  List.forall_mem_cons.mpr ⟨⟨mo_inv _ _ _ _ _, Or.inr (Or.inl (ok_inv (T := TX6) (N := 12) rfl cw_X6_fail (by decide) (by decide) ml_X6_72 ci_X6_fail cv_X6_fail (show Cond.initialized (yX6_fail).cls ∈ am_ts from ci9_RX6) ⟨by decide +kernel, by decide +kernel, by decide +kernel⟩ rfl (by decide +kernel)))⟩,
  List.forall_mem_cons.mpr ⟨⟨mo_ret0e, Or.inr (Or.inr (ok_ret0 rfl (by decide +kernel)))⟩,
  fun _ h => absurd h List.not_mem_nil⟩⟩⟩⟩⟩⟩⟩⟩⟩⟩⟩
def t_X6_expect : List (Nat × am_F) := t_X6_expect_0
theorem o_X6_expect : ∀ q ∈ t_X6_expect, am_ok vwCl q_SH ξ (q_E ξ β xs L) q_EN q_KD q_ML (cX6_expect, 2, RX6, "expect", none, []) q.1 q.2 := o_X6_expect_0
def t_X6_fail_0 : List (Nat × am_F) := [(0, im_al 0 1), (1, im_gi q_SH 6 10 4), (4, im_if1 ib_ne 20 7), (7, im_al 0 8), (8, im_il 1 9), (9, im_pi q_SH 6 10 12), (12, im_al 0 13), (13, im_al 0 14), (14, im_gi q_SH 6 5 17), (17, im_pi q_SH 6 11 20), (20, im_ret0e)]
set_option maxRecDepth 20000 in
theorem o_X6_fail_0 : ∀ q ∈ t_X6_fail_0, am_ok vwCl q_SH ξ (q_E ξ β xs L) q_EN q_KD q_ML (cX6_fail, 2, RX6, "fail", none, []) q.1 q.2 :=
  List.forall_mem_cons.mpr ⟨⟨mo_al _ _, Or.inl (ok_aload_n (k := 0) rfl (by decide +kernel))⟩,
  List.forall_mem_cons.mpr ⟨⟨mo_gi _ _ _ _, Or.inl (ok_gi (C := RX6) (T := TX6) (N := 12) (ci := 6) (k := 10) rfl inX6 (by decide) fl_X6_35 (by decide +kernel) (by decide +kernel))⟩,
  List.forall_mem_cons.mpr ⟨⟨mo_if1 _ _ _, Or.inl (ok_if_ne (off := 16) (by decide) (by decide +kernel))⟩,
  List.forall_mem_cons.mpr ⟨⟨mo_al _ _, Or.inl (ok_aload_n (k := 0) rfl (by decide +kernel))⟩,
  List.forall_mem_cons.mpr ⟨⟨mo_il _ _, Or.inl (ok_iload_n (k := 1) rfl (by decide +kernel))⟩,
  List.forall_mem_cons.mpr ⟨⟨mo_pi _ _ _ _, Or.inl (ok_pi (ty := .int) (C := RX6) (T := TX6) (N := 12) (ci := 6) (k := 10) rfl inX6 (by decide) fl_X6_35 (by decide +kernel) tyX6 tyX6_ok nmX6 (by decide +kernel) (by decide +kernel) (by decide +kernel))⟩,
  List.forall_mem_cons.mpr ⟨⟨mo_al _ _, Or.inl (ok_aload_n (k := 0) rfl (by decide +kernel))⟩,
  List.forall_mem_cons.mpr ⟨⟨mo_al _ _, Or.inl (ok_aload_n (k := 0) rfl (by decide +kernel))⟩,
  List.forall_mem_cons.mpr ⟨⟨mo_gi _ _ _ _, Or.inl (ok_gi (C := RX6) (T := TX6) (N := 12) (ci := 6) (k := 5) rfl inX6 (by decide) fl_X6_141 (by decide +kernel) (by decide +kernel))⟩,
  List.forall_mem_cons.mpr ⟨⟨mo_pi _ _ _ _, Or.inl (ok_pi (ty := .int) (C := RX6) (T := TX6) (N := 12) (ci := 6) (k := 11) rfl inX6 (by decide) fl_X6_19 (by decide +kernel) tyX6 tyX6_ok nmX6 (by decide +kernel) (by decide +kernel) (by decide +kernel))⟩,
  List.forall_mem_cons.mpr ⟨⟨mo_ret0e, Or.inr (Or.inr (ok_ret0 rfl (by decide +kernel)))⟩,
  fun _ h => absurd h List.not_mem_nil⟩⟩⟩⟩⟩⟩⟩⟩⟩⟩⟩
def t_X6_fail : List (Nat × am_F) := t_X6_fail_0
theorem o_X6_fail : ∀ q ∈ t_X6_fail, am_ok vwCl q_SH ξ (q_E ξ β xs L) q_EN q_KD q_ML (cX6_fail, 2, RX6, "fail", none, []) q.1 q.2 := o_X6_fail_0
def t_X6_put_0 : List (Nat × am_F) := [(0, im_al 0 1), (1, im_gi q_SH 6 9 4), (4, im_if1 ib_lt 45 7), (7, im_al 0 8), (8, im_gi q_SH 6 9 11), (11, im_al 0 12), (12, im_gr q_SH 6 0 15), (15, im_gr q_SH 0 14 18), (18, im_alen q_SH .int 19), (19, im_if2 ic_ge 45 22), (22, im_al 0 23), (23, im_gr q_SH 6 0 26), (26, im_gr q_SH 0 14 29), (29, im_al 0 30), (30, im_gi q_SH 6 9 33), (33, im_il 1 34), (34, im_ast q_SH .int (fun x => x) 35), (35, im_al 0 36), (36, im_dup 37), (37, im_gi q_SH 6 9 40)]
set_option maxRecDepth 20000 in
theorem o_X6_put_0 : ∀ q ∈ t_X6_put_0, am_ok vwCl q_SH ξ (q_E ξ β xs L) q_EN q_KD q_ML (cX6_put, 2, RX6, "put", none, []) q.1 q.2 :=
  List.forall_mem_cons.mpr ⟨⟨mo_al _ _, Or.inl (ok_aload_n (k := 0) rfl (by decide +kernel))⟩,
  List.forall_mem_cons.mpr ⟨⟨mo_gi _ _ _ _, Or.inl (ok_gi (C := RX6) (T := TX6) (N := 12) (ci := 6) (k := 9) rfl inX6 (by decide) fl_X6_43 (by decide +kernel) (by decide +kernel))⟩,
  List.forall_mem_cons.mpr ⟨⟨mo_if1 _ _ _, Or.inl (ok_if_lt (off := 41) (by decide) (by decide +kernel))⟩,
  List.forall_mem_cons.mpr ⟨⟨mo_al _ _, Or.inl (ok_aload_n (k := 0) rfl (by decide +kernel))⟩,
  List.forall_mem_cons.mpr ⟨⟨mo_gi _ _ _ _, Or.inl (ok_gi (C := RX6) (T := TX6) (N := 12) (ci := 6) (k := 9) rfl inX6 (by decide) fl_X6_43 (by decide +kernel) (by decide +kernel))⟩,
  List.forall_mem_cons.mpr ⟨⟨mo_al _ _, Or.inl (ok_aload_n (k := 0) rfl (by decide +kernel))⟩,
  List.forall_mem_cons.mpr ⟨⟨mo_gr _ _ _ _, Or.inl (ok_gr (C := RX6) (T := TX6) (N := 12) (ci := 6) (k := 0) rfl inX6 (by decide) fl_X6_9 (by decide +kernel) (by decide +kernel))⟩,
  List.forall_mem_cons.mpr ⟨⟨mo_gr _ _ _ _, Or.inl (ok_gr (C := RX0) (T := TX0) (N := 16) (ci := 0) (k := 14) rfl inX0 (by decide) fl_X6_144 (by decide +kernel) (by decide +kernel))⟩,
  List.forall_mem_cons.mpr ⟨⟨mo_alen _ _ _, Or.inl (ok_alen (by decide +kernel))⟩,
  List.forall_mem_cons.mpr ⟨⟨mo_if2 _ _ _, Or.inl (ok_icmp_ge (off := 26) (by decide) (by decide +kernel))⟩,
  List.forall_mem_cons.mpr ⟨⟨mo_al _ _, Or.inl (ok_aload_n (k := 0) rfl (by decide +kernel))⟩,
  List.forall_mem_cons.mpr ⟨⟨mo_gr _ _ _ _, Or.inl (ok_gr (C := RX6) (T := TX6) (N := 12) (ci := 6) (k := 0) rfl inX6 (by decide) fl_X6_9 (by decide +kernel) (by decide +kernel))⟩,
  List.forall_mem_cons.mpr ⟨⟨mo_gr _ _ _ _, Or.inl (ok_gr (C := RX0) (T := TX0) (N := 16) (ci := 0) (k := 14) rfl inX0 (by decide) fl_X6_144 (by decide +kernel) (by decide +kernel))⟩,
  List.forall_mem_cons.mpr ⟨⟨mo_al _ _, Or.inl (ok_aload_n (k := 0) rfl (by decide +kernel))⟩,
  List.forall_mem_cons.mpr ⟨⟨mo_gi _ _ _ _, Or.inl (ok_gi (C := RX6) (T := TX6) (N := 12) (ci := 6) (k := 9) rfl inX6 (by decide) fl_X6_43 (by decide +kernel) (by decide +kernel))⟩,
  List.forall_mem_cons.mpr ⟨⟨mo_il _ _, Or.inl (ok_iload_n (k := 1) rfl (by decide +kernel))⟩,
  List.forall_mem_cons.mpr ⟨⟨mo_ast _ _ _ _, Or.inl (ok_iast (by decide +kernel))⟩,
  List.forall_mem_cons.mpr ⟨⟨mo_al _ _, Or.inl (ok_aload_n (k := 0) rfl (by decide +kernel))⟩,
  List.forall_mem_cons.mpr ⟨⟨mo_dup _, Or.inl (ok_dup (by decide +kernel))⟩,
  List.forall_mem_cons.mpr ⟨⟨mo_gi _ _ _ _, Or.inl (ok_gi (C := RX6) (T := TX6) (N := 12) (ci := 6) (k := 9) rfl inX6 (by decide) fl_X6_43 (by decide +kernel) (by decide +kernel))⟩,
  fun _ h => absurd h List.not_mem_nil⟩⟩⟩⟩⟩⟩⟩⟩⟩⟩⟩⟩⟩⟩⟩⟩⟩⟩⟩⟩
def t_X6_put_1 : List (Nat × am_F) := [(40, im_ic 1 41), (41, im_bin (fun x y => x + y) 42), (42, im_pi q_SH 6 9 45), (45, im_ret0e)]
set_option maxRecDepth 20000 in
theorem o_X6_put_1 : ∀ q ∈ t_X6_put_1, am_ok vwCl q_SH ξ (q_E ξ β xs L) q_EN q_KD q_ML (cX6_put, 2, RX6, "put", none, []) q.1 q.2 :=
  List.forall_mem_cons.mpr ⟨⟨mo_ic _ _, Or.inl (ok_iconst (n := 1) (v := 1) (by decide) (by decide +kernel))⟩,
  List.forall_mem_cons.mpr ⟨⟨mo_bin _ _, Or.inl (ok_iadd (by decide +kernel))⟩,
  List.forall_mem_cons.mpr ⟨⟨mo_pi _ _ _ _, Or.inl (ok_pi (ty := .int) (C := RX6) (T := TX6) (N := 12) (ci := 6) (k := 9) rfl inX6 (by decide) fl_X6_43 (by decide +kernel) tyX6 tyX6_ok nmX6 (by decide +kernel) (by decide +kernel) (by decide +kernel))⟩,
  List.forall_mem_cons.mpr ⟨⟨mo_ret0e, Or.inr (Or.inr (ok_ret0 rfl (by decide +kernel)))⟩,
  fun _ h => absurd h List.not_mem_nil⟩⟩⟩⟩
def t_X6_put : List (Nat × am_F) := t_X6_put_0 ++ (t_X6_put_1)
theorem o_X6_put : ∀ q ∈ t_X6_put, am_ok vwCl q_SH ξ (q_E ξ β xs L) q_EN q_KD q_ML (cX6_put, 2, RX6, "put", none, []) q.1 q.2 := List.forall_mem_append.mpr ⟨o_X6_put_0, o_X6_put_1⟩
def t_X6_next_0 : List (Nat × am_F) := [(0, im_al 0 1), (1, im_gi q_SH 6 3 4), (4, im_al 0 5), (5, im_gi q_SH 6 2 8), (8, im_if2 ic_ge 52 11), (11, im_al 0 12), (12, im_gr q_SH 6 1 15), (15, im_al 0 16), (16, im_gi q_SH 6 3 19), (19, im_ald q_SH .byte 20), (20, im_ic 32 22), (22, im_if2 ic_eq 39 25), (25, im_al 0 26), (26, im_gr q_SH 6 1 29), (29, im_al 0 30), (30, im_gi q_SH 6 3 33), (33, im_ald q_SH .byte 34), (34, im_ic 10 36), (36, im_if2 ic_ne 52 39), (39, im_al 0 40)]
set_option maxRecDepth 20000 in
theorem o_X6_next_0 : ∀ q ∈ t_X6_next_0, am_ok vwCl q_SH ξ (q_E ξ β xs L) q_EN q_KD q_ML (cX6_next, 2, RX6, "next", none, []) q.1 q.2 :=
  List.forall_mem_cons.mpr ⟨⟨mo_al _ _, Or.inl (ok_aload_n (k := 0) rfl (by decide +kernel))⟩,
  List.forall_mem_cons.mpr ⟨⟨mo_gi _ _ _ _, Or.inl (ok_gi (C := RX6) (T := TX6) (N := 12) (ci := 6) (k := 3) rfl inX6 (by decide) fl_X6_32 (by decide +kernel) (by decide +kernel))⟩,
  List.forall_mem_cons.mpr ⟨⟨mo_al _ _, Or.inl (ok_aload_n (k := 0) rfl (by decide +kernel))⟩,
  List.forall_mem_cons.mpr ⟨⟨mo_gi _ _ _ _, Or.inl (ok_gi (C := RX6) (T := TX6) (N := 12) (ci := 6) (k := 2) rfl inX6 (by decide) fl_X6_29 (by decide +kernel) (by decide +kernel))⟩,
  List.forall_mem_cons.mpr ⟨⟨mo_if2 _ _ _, Or.inl (ok_icmp_ge (off := 44) (by decide) (by decide +kernel))⟩,
  List.forall_mem_cons.mpr ⟨⟨mo_al _ _, Or.inl (ok_aload_n (k := 0) rfl (by decide +kernel))⟩,
  List.forall_mem_cons.mpr ⟨⟨mo_gr _ _ _ _, Or.inl (ok_gr (C := RX6) (T := TX6) (N := 12) (ci := 6) (k := 1) rfl inX6 (by decide) fl_X6_15 (by decide +kernel) (by decide +kernel))⟩,
  List.forall_mem_cons.mpr ⟨⟨mo_al _ _, Or.inl (ok_aload_n (k := 0) rfl (by decide +kernel))⟩,
  List.forall_mem_cons.mpr ⟨⟨mo_gi _ _ _ _, Or.inl (ok_gi (C := RX6) (T := TX6) (N := 12) (ci := 6) (k := 3) rfl inX6 (by decide) fl_X6_32 (by decide +kernel) (by decide +kernel))⟩,
  List.forall_mem_cons.mpr ⟨⟨mo_ald _ _ _, Or.inl (ok_bald (by decide +kernel))⟩,
  List.forall_mem_cons.mpr ⟨⟨mo_ic _ _, Or.inl (ok_bipush (n := 32) (v := 32) (by decide) (by decide +kernel))⟩,
  List.forall_mem_cons.mpr ⟨⟨mo_if2 _ _ _, Or.inl (ok_icmp_eq (off := 17) (by decide) (by decide +kernel))⟩,
  List.forall_mem_cons.mpr ⟨⟨mo_al _ _, Or.inl (ok_aload_n (k := 0) rfl (by decide +kernel))⟩,
  List.forall_mem_cons.mpr ⟨⟨mo_gr _ _ _ _, Or.inl (ok_gr (C := RX6) (T := TX6) (N := 12) (ci := 6) (k := 1) rfl inX6 (by decide) fl_X6_15 (by decide +kernel) (by decide +kernel))⟩,
  List.forall_mem_cons.mpr ⟨⟨mo_al _ _, Or.inl (ok_aload_n (k := 0) rfl (by decide +kernel))⟩,
  List.forall_mem_cons.mpr ⟨⟨mo_gi _ _ _ _, Or.inl (ok_gi (C := RX6) (T := TX6) (N := 12) (ci := 6) (k := 3) rfl inX6 (by decide) fl_X6_32 (by decide +kernel) (by decide +kernel))⟩,
  List.forall_mem_cons.mpr ⟨⟨mo_ald _ _ _, Or.inl (ok_bald (by decide +kernel))⟩,
  List.forall_mem_cons.mpr ⟨⟨mo_ic _ _, Or.inl (ok_bipush (n := 10) (v := 10) (by decide) (by decide +kernel))⟩,
  List.forall_mem_cons.mpr ⟨⟨mo_if2 _ _ _, Or.inl (ok_icmp_ne (off := 16) (by decide) (by decide +kernel))⟩,
  List.forall_mem_cons.mpr ⟨⟨mo_al _ _, Or.inl (ok_aload_n (k := 0) rfl (by decide +kernel))⟩,
  fun _ h => absurd h List.not_mem_nil⟩⟩⟩⟩⟩⟩⟩⟩⟩⟩⟩⟩⟩⟩⟩⟩⟩⟩⟩⟩
def t_X6_next_1 : List (Nat × am_F) := [(40, im_dup 41), (41, im_gi q_SH 6 3 44), (44, im_ic 1 45), (45, im_bin (fun x y => x + y) 46), (46, im_pi q_SH 6 3 49), (49, im_go 0), (52, im_al 0 53), (53, im_al 0 54), (54, im_gi q_SH 6 3 57), (57, im_pi q_SH 6 5 60), (60, im_al 0 61), (61, im_gi q_SH 6 3 64), (64, im_al 0 65), (65, im_gi q_SH 6 2 68), (68, im_if2 ic_lt 79 71), (71, im_al 0 72), (72, im_ic 0 73), (73, im_pi q_SH 6 4 76), (76, im_go 243), (79, im_al 0 80)]
set_option maxRecDepth 20000 in
theorem o_X6_next_1 : ∀ q ∈ t_X6_next_1, am_ok vwCl q_SH ξ (q_E ξ β xs L) q_EN q_KD q_ML (cX6_next, 2, RX6, "next", none, []) q.1 q.2 :=
  List.forall_mem_cons.mpr ⟨⟨mo_dup _, Or.inl (ok_dup (by decide +kernel))⟩,
  List.forall_mem_cons.mpr ⟨⟨mo_gi _ _ _ _, Or.inl (ok_gi (C := RX6) (T := TX6) (N := 12) (ci := 6) (k := 3) rfl inX6 (by decide) fl_X6_32 (by decide +kernel) (by decide +kernel))⟩,
  List.forall_mem_cons.mpr ⟨⟨mo_ic _ _, Or.inl (ok_iconst (n := 1) (v := 1) (by decide) (by decide +kernel))⟩,
  List.forall_mem_cons.mpr ⟨⟨mo_bin _ _, Or.inl (ok_iadd (by decide +kernel))⟩,
  List.forall_mem_cons.mpr ⟨⟨mo_pi _ _ _ _, Or.inl (ok_pi (ty := .int) (C := RX6) (T := TX6) (N := 12) (ci := 6) (k := 3) rfl inX6 (by decide) fl_X6_32 (by decide +kernel) tyX6 tyX6_ok nmX6 (by decide +kernel) (by decide +kernel) (by decide +kernel))⟩,
  List.forall_mem_cons.mpr ⟨⟨mo_go _, Or.inl (ok_goto (off := (-49)) (by decide) (by decide +kernel))⟩,
  List.forall_mem_cons.mpr ⟨⟨mo_al _ _, Or.inl (ok_aload_n (k := 0) rfl (by decide +kernel))⟩,
  List.forall_mem_cons.mpr ⟨⟨mo_al _ _, Or.inl (ok_aload_n (k := 0) rfl (by decide +kernel))⟩,
  List.forall_mem_cons.mpr ⟨⟨mo_gi _ _ _ _, Or.inl (ok_gi (C := RX6) (T := TX6) (N := 12) (ci := 6) (k := 3) rfl inX6 (by decide) fl_X6_32 (by decide +kernel) (by decide +kernel))⟩,
  List.forall_mem_cons.mpr ⟨⟨mo_pi _ _ _ _, Or.inl (ok_pi (ty := .int) (C := RX6) (T := TX6) (N := 12) (ci := 6) (k := 5) rfl inX6 (by decide) fl_X6_141 (by decide +kernel) tyX6 tyX6_ok nmX6 (by decide +kernel) (by decide +kernel) (by decide +kernel))⟩,
  List.forall_mem_cons.mpr ⟨⟨mo_al _ _, Or.inl (ok_aload_n (k := 0) rfl (by decide +kernel))⟩,
  List.forall_mem_cons.mpr ⟨⟨mo_gi _ _ _ _, Or.inl (ok_gi (C := RX6) (T := TX6) (N := 12) (ci := 6) (k := 3) rfl inX6 (by decide) fl_X6_32 (by decide +kernel) (by decide +kernel))⟩,
  List.forall_mem_cons.mpr ⟨⟨mo_al _ _, Or.inl (ok_aload_n (k := 0) rfl (by decide +kernel))⟩,
  List.forall_mem_cons.mpr ⟨⟨mo_gi _ _ _ _, Or.inl (ok_gi (C := RX6) (T := TX6) (N := 12) (ci := 6) (k := 2) rfl inX6 (by decide) fl_X6_29 (by decide +kernel) (by decide +kernel))⟩,
  List.forall_mem_cons.mpr ⟨⟨mo_if2 _ _ _, Or.inl (ok_icmp_lt (off := 11) (by decide) (by decide +kernel))⟩,
  List.forall_mem_cons.mpr ⟨⟨mo_al _ _, Or.inl (ok_aload_n (k := 0) rfl (by decide +kernel))⟩,
  List.forall_mem_cons.mpr ⟨⟨mo_ic _ _, Or.inl (ok_iconst (n := 0) (v := 0) (by decide) (by decide +kernel))⟩,
  List.forall_mem_cons.mpr ⟨⟨mo_pi _ _ _ _, Or.inl (ok_pi (ty := .int) (C := RX6) (T := TX6) (N := 12) (ci := 6) (k := 4) rfl inX6 (by decide) fl_X6_62 (by decide +kernel) tyX6 tyX6_ok nmX6 (by decide +kernel) (by decide +kernel) (by decide +kernel))⟩,
  List.forall_mem_cons.mpr ⟨⟨mo_go _, Or.inl (ok_goto (off := 167) (by decide) (by decide +kernel))⟩,
  List.forall_mem_cons.mpr ⟨⟨mo_al _ _, Or.inl (ok_aload_n (k := 0) rfl (by decide +kernel))⟩,
  fun _ h => absurd h List.not_mem_nil⟩⟩⟩⟩⟩⟩⟩⟩⟩⟩⟩⟩⟩⟩⟩⟩⟩⟩⟩⟩
def t_X6_next_2 : List (Nat × am_F) := [(80, im_gr q_SH 6 1 83), (83, im_al 0 84), (84, im_gi q_SH 6 3 87), (87, im_ald q_SH .byte 88), (88, im_invs 46 1 91), (91, im_if1 ib_eq 149 94), (94, im_al 0 95), (95, im_ic 3 96), (96, im_pi q_SH 6 4 99), (99, im_al 0 100), (100, im_gi q_SH 6 3 103), (103, im_al 0 104), (104, im_gi q_SH 6 2 107), (107, im_if2 ic_ge 138 110), (110, im_al 0 111), (111, im_gr q_SH 6 1 114), (114, im_al 0 115), (115, im_gi q_SH 6 3 118), (118, im_ald q_SH .byte 119), (119, im_invs 46 1 122)]
set_option maxRecDepth 20000 in
theorem o_X6_next_2 : ∀ q ∈ t_X6_next_2, am_ok vwCl q_SH ξ (q_E ξ β xs L) q_EN q_KD q_ML (cX6_next, 2, RX6, "next", none, []) q.1 q.2 :=
  List.forall_mem_cons.mpr ⟨⟨mo_gr _ _ _ _, Or.inl (ok_gr (C := RX6) (T := TX6) (N := 12) (ci := 6) (k := 1) rfl inX6 (by decide) fl_X6_15 (by decide +kernel) (by decide +kernel))⟩,
  List.forall_mem_cons.mpr ⟨⟨mo_al _ _, Or.inl (ok_aload_n (k := 0) rfl (by decide +kernel))⟩,
  List.forall_mem_cons.mpr ⟨⟨mo_gi _ _ _ _, Or.inl (ok_gi (C := RX6) (T := TX6) (N := 12) (ci := 6) (k := 3) rfl inX6 (by decide) fl_X6_32 (by decide +kernel) (by decide +kernel))⟩,
  List.forall_mem_cons.mpr ⟨⟨mo_ald _ _ _, Or.inl (ok_bald (by decide +kernel))⟩,
  List.forall_mem_cons.mpr ⟨⟨mo_invs _ _ _, Or.inr (Or.inl (ok_invs cw_X6_isLetter (by decide) (by decide) ml_X6_147 cs_X6_isLetter (show Cond.initialized (yX6_isLetter).cls ∈ am_ts from ci9_RX6) ⟨by decide +kernel, by decide +kernel, by decide +kernel⟩ rfl (by decide +kernel)))⟩,
  List.forall_mem_cons.mpr ⟨⟨mo_if1 _ _ _, Or.inl (ok_if_eq (off := 58) (by decide) (by decide +kernel))⟩,
  List.forall_mem_cons.mpr ⟨⟨mo_al _ _, Or.inl (ok_aload_n (k := 0) rfl (by decide +kernel))⟩,
  List.forall_mem_cons.mpr ⟨⟨mo_ic _ _, Or.inl (ok_iconst (n := 3) (v := 3) (by decide) (by decide +kernel))⟩,
  List.forall_mem_cons.mpr ⟨⟨mo_pi _ _ _ _, Or.inl (ok_pi (ty := .int) (C := RX6) (T := TX6) (N := 12) (ci := 6) (k := 4) rfl inX6 (by decide) fl_X6_62 (by decide +kernel) tyX6 tyX6_ok nmX6 (by decide +kernel) (by decide +kernel) (by decide +kernel))⟩,
  List.forall_mem_cons.mpr ⟨⟨mo_al _ _, Or.inl (ok_aload_n (k := 0) rfl (by decide +kernel))⟩,
  List.forall_mem_cons.mpr ⟨⟨mo_gi _ _ _ _, Or.inl (ok_gi (C := RX6) (T := TX6) (N := 12) (ci := 6) (k := 3) rfl inX6 (by decide) fl_X6_32 (by decide +kernel) (by decide +kernel))⟩,
  List.forall_mem_cons.mpr ⟨⟨mo_al _ _, Or.inl (ok_aload_n (k := 0) rfl (by decide +kernel))⟩,
  List.forall_mem_cons.mpr ⟨⟨mo_gi _ _ _ _, Or.inl (ok_gi (C := RX6) (T := TX6) (N := 12) (ci := 6) (k := 2) rfl inX6 (by decide) fl_X6_29 (by decide +kernel) (by decide +kernel))⟩,
  List.forall_mem_cons.mpr ⟨⟨mo_if2 _ _ _, Or.inl (ok_icmp_ge (off := 31) (by decide) (by decide +kernel))⟩,
  List.forall_mem_cons.mpr ⟨⟨mo_al _ _, Or.inl (ok_aload_n (k := 0) rfl (by decide +kernel))⟩,
  List.forall_mem_cons.mpr ⟨⟨mo_gr _ _ _ _, Or.inl (ok_gr (C := RX6) (T := TX6) (N := 12) (ci := 6) (k := 1) rfl inX6 (by decide) fl_X6_15 (by decide +kernel) (by decide +kernel))⟩,
  List.forall_mem_cons.mpr ⟨⟨mo_al _ _, Or.inl (ok_aload_n (k := 0) rfl (by decide +kernel))⟩,
  List.forall_mem_cons.mpr ⟨⟨mo_gi _ _ _ _, Or.inl (ok_gi (C := RX6) (T := TX6) (N := 12) (ci := 6) (k := 3) rfl inX6 (by decide) fl_X6_32 (by decide +kernel) (by decide +kernel))⟩,
  List.forall_mem_cons.mpr ⟨⟨mo_ald _ _ _, Or.inl (ok_bald (by decide +kernel))⟩,
  List.forall_mem_cons.mpr ⟨⟨mo_invs _ _ _, Or.inr (Or.inl (ok_invs cw_X6_isLetter (by decide) (by decide) ml_X6_147 cs_X6_isLetter (show Cond.initialized (yX6_isLetter).cls ∈ am_ts from ci9_RX6) ⟨by decide +kernel, by decide +kernel, by decide +kernel⟩ rfl (by decide +kernel)))⟩,
  fun _ h => absurd h List.not_mem_nil⟩⟩⟩⟩⟩⟩⟩⟩⟩⟩⟩⟩⟩⟩⟩⟩⟩⟩⟩⟩
def t_X6_next_3 : List (Nat × am_F) := [(122, im_if1 ib_eq 138 125), (125, im_al 0 126), (126, im_dup 127), (127, im_gi q_SH 6 3 130), (130, im_ic 1 131), (131, im_bin (fun x y => x + y) 132), (132, im_pi q_SH 6 3 135), (135, im_go 99), (138, im_al 0 139), (139, im_al 0 140), (140, im_inv q_SH 6 45 0 143), (143, im_pi q_SH 6 8 146), (146, im_go 243), (149, im_al 0 150), (150, im_gr q_SH 6 1 153), (153, im_al 0 154), (154, im_gi q_SH 6 3 157), (157, im_ald q_SH .byte 158), (158, im_invs 47 1 161), (161, im_if1 ib_eq 176 164)]
set_option maxRecDepth 20000 in
theorem o_X6_next_3 : ∀ q ∈ t_X6_next_3, am_ok vwCl q_SH ξ (q_E ξ β xs L) q_EN q_KD q_ML (cX6_next, 2, RX6, "next", none, []) q.1 q.2 :=
  List.forall_mem_cons.mpr ⟨⟨mo_if1 _ _ _, Or.inl (ok_if_eq (off := 16) (by decide) (by decide +kernel))⟩,
  List.forall_mem_cons.mpr ⟨⟨mo_al _ _, Or.inl (ok_aload_n (k := 0) rfl (by decide +kernel))⟩,
  List.forall_mem_cons.mpr ⟨⟨mo_dup _, Or.inl (ok_dup (by decide +kernel))⟩,
  List.forall_mem_cons.mpr ⟨⟨mo_gi _ _ _ _, Or.inl (ok_gi (C := RX6) (T := TX6) (N := 12) (ci := 6) (k := 3) rfl inX6 (by decide) fl_X6_32 (by decide +kernel) (by decide +kernel))⟩,
  List.forall_mem_cons.mpr ⟨⟨mo_ic _ _, Or.inl (ok_iconst (n := 1) (v := 1) (by decide) (by decide +kernel))⟩,
  List.forall_mem_cons.mpr ⟨⟨mo_bin _ _, Or.inl (ok_iadd (by decide +kernel))⟩,
  List.forall_mem_cons.mpr ⟨⟨mo_pi _ _ _ _, Or.inl (ok_pi (ty := .int) (C := RX6) (T := TX6) (N := 12) (ci := 6) (k := 3) rfl inX6 (by decide) fl_X6_32 (by decide +kernel) tyX6 tyX6_ok nmX6 (by decide +kernel) (by decide +kernel) (by decide +kernel))⟩,
  List.forall_mem_cons.mpr ⟨⟨mo_go _, Or.inl (ok_goto (off := (-36)) (by decide) (by decide +kernel))⟩,
  List.forall_mem_cons.mpr ⟨⟨mo_al _ _, Or.inl (ok_aload_n (k := 0) rfl (by decide +kernel))⟩,
  List.forall_mem_cons.mpr ⟨⟨mo_al _ _, Or.inl (ok_aload_n (k := 0) rfl (by decide +kernel))⟩,
  List.forall_mem_cons.mpr ⟨⟨mo_inv _ _ _ _ _, Or.inr (Or.inl (ok_inv (T := TX6) (N := 12) rfl cw_X6_wordNumber (by decide) (by decide) ml_X6_150 ci_X6_wordNumber cv_X6_wordNumber (show Cond.initialized (yX6_wordNumber).cls ∈ am_ts from ci9_RX6) ⟨by decide +kernel, by decide +kernel, by decide +kernel⟩ rfl (by decide +kernel)))⟩,
  List.forall_mem_cons.mpr ⟨⟨mo_pi _ _ _ _, Or.inl (ok_pi (ty := .int) (C := RX6) (T := TX6) (N := 12) (ci := 6) (k := 8) rfl inX6 (by decide) fl_X6_69 (by decide +kernel) tyX6 tyX6_ok nmX6 (by decide +kernel) (by decide +kernel) (by decide +kernel))⟩,
  List.forall_mem_cons.mpr ⟨⟨mo_go _, Or.inl (ok_goto (off := 97) (by decide) (by decide +kernel))⟩,
  List.forall_mem_cons.mpr ⟨⟨mo_al _ _, Or.inl (ok_aload_n (k := 0) rfl (by decide +kernel))⟩,
  List.forall_mem_cons.mpr ⟨⟨mo_gr _ _ _ _, Or.inl (ok_gr (C := RX6) (T := TX6) (N := 12) (ci := 6) (k := 1) rfl inX6 (by decide) fl_X6_15 (by decide +kernel) (by decide +kernel))⟩,
  List.forall_mem_cons.mpr ⟨⟨mo_al _ _, Or.inl (ok_aload_n (k := 0) rfl (by decide +kernel))⟩,
  List.forall_mem_cons.mpr ⟨⟨mo_gi _ _ _ _, Or.inl (ok_gi (C := RX6) (T := TX6) (N := 12) (ci := 6) (k := 3) rfl inX6 (by decide) fl_X6_32 (by decide +kernel) (by decide +kernel))⟩,
  List.forall_mem_cons.mpr ⟨⟨mo_ald _ _ _, Or.inl (ok_bald (by decide +kernel))⟩,
  List.forall_mem_cons.mpr ⟨⟨mo_invs _ _ _, Or.inr (Or.inl (ok_invs cw_X6_isDigit (by decide) (by decide) ml_X6_154 cs_X6_isDigit (show Cond.initialized (yX6_isDigit).cls ∈ am_ts from ci9_RX6) ⟨by decide +kernel, by decide +kernel, by decide +kernel⟩ rfl (by decide +kernel)))⟩,
  List.forall_mem_cons.mpr ⟨⟨mo_if1 _ _ _, Or.inl (ok_if_eq (off := 15) (by decide) (by decide +kernel))⟩,
  fun _ h => absurd h List.not_mem_nil⟩⟩⟩⟩⟩⟩⟩⟩⟩⟩⟩⟩⟩⟩⟩⟩⟩⟩⟩⟩
def t_X6_next_4 : List (Nat × am_F) := [(164, im_al 0 165), (165, im_ic 2 166), (166, im_pi q_SH 6 4 169), (169, im_al 0 170), (170, im_inv q_SH 6 44 0 173), (173, im_go 243), (176, im_al 0 177), (177, im_gr q_SH 6 1 180), (180, im_al 0 181), (181, im_gi q_SH 6 3 184), (184, im_ald q_SH .byte 185), (185, im_if1 ib_le 210 188), (188, im_es 4 190), (190, im_al 0 191), (191, im_gr q_SH 6 1 194), (194, im_al 0 195), (195, im_gi q_SH 6 3 198), (198, im_ald q_SH .byte 199), (199, im_un (fun x => (x.toUInt32 % 65536).toInt32) 200), (200, im_invx 210 1 203)]
set_option maxRecDepth 20000 in
theorem o_X6_next_4 : ∀ q ∈ t_X6_next_4, am_ok vwCl q_SH ξ (q_E ξ β xs L) q_EN q_KD q_ML (cX6_next, 2, RX6, "next", none, []) q.1 q.2 :=
  List.forall_mem_cons.mpr ⟨⟨mo_al _ _, Or.inl (ok_aload_n (k := 0) rfl (by decide +kernel))⟩,
  List.forall_mem_cons.mpr ⟨⟨mo_ic _ _, Or.inl (ok_iconst (n := 2) (v := 2) (by decide) (by decide +kernel))⟩,
  List.forall_mem_cons.mpr ⟨⟨mo_pi _ _ _ _, Or.inl (ok_pi (ty := .int) (C := RX6) (T := TX6) (N := 12) (ci := 6) (k := 4) rfl inX6 (by decide) fl_X6_62 (by decide +kernel) tyX6 tyX6_ok nmX6 (by decide +kernel) (by decide +kernel) (by decide +kernel))⟩,
  List.forall_mem_cons.mpr ⟨⟨mo_al _ _, Or.inl (ok_aload_n (k := 0) rfl (by decide +kernel))⟩,
  List.forall_mem_cons.mpr ⟨⟨mo_inv _ _ _ _ _, Or.inr (Or.inl (ok_inv (T := TX6) (N := 12) rfl cw_X6_readDigits (by decide) (by decide) ml_X6_157 ci_X6_readDigits cv_X6_readDigits (show Cond.initialized (yX6_readDigits).cls ∈ am_ts from ci9_RX6) ⟨by decide +kernel, by decide +kernel, by decide +kernel⟩ rfl (by decide +kernel)))⟩,
  List.forall_mem_cons.mpr ⟨⟨mo_go _, Or.inl (ok_goto (off := 70) (by decide) (by decide +kernel))⟩,
  List.forall_mem_cons.mpr ⟨⟨mo_al _ _, Or.inl (ok_aload_n (k := 0) rfl (by decide +kernel))⟩,
  List.forall_mem_cons.mpr ⟨⟨mo_gr _ _ _ _, Or.inl (ok_gr (C := RX6) (T := TX6) (N := 12) (ci := 6) (k := 1) rfl inX6 (by decide) fl_X6_15 (by decide +kernel) (by decide +kernel))⟩,
  List.forall_mem_cons.mpr ⟨⟨mo_al _ _, Or.inl (ok_aload_n (k := 0) rfl (by decide +kernel))⟩,
  List.forall_mem_cons.mpr ⟨⟨mo_gi _ _ _ _, Or.inl (ok_gi (C := RX6) (T := TX6) (N := 12) (ci := 6) (k := 3) rfl inX6 (by decide) fl_X6_32 (by decide +kernel) (by decide +kernel))⟩,
  List.forall_mem_cons.mpr ⟨⟨mo_ald _ _ _, Or.inl (ok_bald (by decide +kernel))⟩,
  List.forall_mem_cons.mpr ⟨⟨mo_if1 _ _ _, Or.inl (ok_if_le (off := 25) (by decide) (by decide +kernel))⟩,
  List.forall_mem_cons.mpr ⟨⟨mo_es _ _, Or.inl (ok_ldcS (tx := q_tx4) (fun _ _ _ h => q_R4 h) (by decide +kernel))⟩,
  List.forall_mem_cons.mpr ⟨⟨mo_al _ _, Or.inl (ok_aload_n (k := 0) rfl (by decide +kernel))⟩,
  List.forall_mem_cons.mpr ⟨⟨mo_gr _ _ _ _, Or.inl (ok_gr (C := RX6) (T := TX6) (N := 12) (ci := 6) (k := 1) rfl inX6 (by decide) fl_X6_15 (by decide +kernel) (by decide +kernel))⟩,
  List.forall_mem_cons.mpr ⟨⟨mo_al _ _, Or.inl (ok_aload_n (k := 0) rfl (by decide +kernel))⟩,
  List.forall_mem_cons.mpr ⟨⟨mo_gi _ _ _ _, Or.inl (ok_gi (C := RX6) (T := TX6) (N := 12) (ci := 6) (k := 3) rfl inX6 (by decide) fl_X6_32 (by decide +kernel) (by decide +kernel))⟩,
  List.forall_mem_cons.mpr ⟨⟨mo_ald _ _ _, Or.inl (ok_bald (by decide +kernel))⟩,
  List.forall_mem_cons.mpr ⟨⟨mo_un _ _, Or.inl (ok_i2c (by decide +kernel))⟩,
  List.forall_mem_cons.mpr ⟨⟨mo_invx _ _ _, Or.inr (Or.inl (ok_invx rfl cw_J0_indexOf_0f7a4 (by decide) (by decide) ml_X6_162 ci_J0_indexOf_0f7a4 cv_J0_indexOf_0f7a4 (show Cond.initialized (yJ0_indexOf_0f7a4).cls ∈ am_ts from ci9_RJ0) ⟨by decide +kernel, by decide +kernel, by decide +kernel⟩ rfl (by decide +kernel)))⟩,
  fun _ h => absurd h List.not_mem_nil⟩⟩⟩⟩⟩⟩⟩⟩⟩⟩⟩⟩⟩⟩⟩⟩⟩⟩⟩⟩
def t_X6_next_5 : List (Nat × am_F) := [(203, im_if1 ib_lt 210 206), (206, im_ic 1 207), (207, im_go 211), (210, im_ic 0 211), (211, im_is 1 212), (212, im_al 0 213), (213, im_il 1 214), (214, im_if1 ib_eq 229 217), (217, im_al 0 218), (218, im_gr q_SH 6 1 221), (221, im_al 0 222), (222, im_gi q_SH 6 3 225), (225, im_ald q_SH .byte 226), (226, im_go 230), (229, im_ic 1 230), (230, im_pi q_SH 6 4 233), (233, im_al 0 234), (234, im_dup 235), (235, im_gi q_SH 6 3 238), (238, im_ic 1 239)]
set_option maxRecDepth 20000 in
theorem o_X6_next_5 : ∀ q ∈ t_X6_next_5, am_ok vwCl q_SH ξ (q_E ξ β xs L) q_EN q_KD q_ML (cX6_next, 2, RX6, "next", none, []) q.1 q.2 :=
  List.forall_mem_cons.mpr ⟨⟨mo_if1 _ _ _, Or.inl (ok_if_lt (off := 7) (by decide) (by decide +kernel))⟩,
  List.forall_mem_cons.mpr ⟨⟨mo_ic _ _, Or.inl (ok_iconst (n := 1) (v := 1) (by decide) (by decide +kernel))⟩,
  List.forall_mem_cons.mpr ⟨⟨mo_go _, Or.inl (ok_goto (off := 4) (by decide) (by decide +kernel))⟩,
  List.forall_mem_cons.mpr ⟨⟨mo_ic _ _, Or.inl (ok_iconst (n := 0) (v := 0) (by decide) (by decide +kernel))⟩,
  List.forall_mem_cons.mpr ⟨⟨mo_is _ _, Or.inl (ok_istore_n (k := 1) rfl (by decide) (by decide +kernel))⟩,
  List.forall_mem_cons.mpr ⟨⟨mo_al _ _, Or.inl (ok_aload_n (k := 0) rfl (by decide +kernel))⟩,
  List.forall_mem_cons.mpr ⟨⟨mo_il _ _, Or.inl (ok_iload_n (k := 1) rfl (by decide +kernel))⟩,
  List.forall_mem_cons.mpr ⟨⟨mo_if1 _ _ _, Or.inl (ok_if_eq (off := 15) (by decide) (by decide +kernel))⟩,
  List.forall_mem_cons.mpr ⟨⟨mo_al _ _, Or.inl (ok_aload_n (k := 0) rfl (by decide +kernel))⟩,
  List.forall_mem_cons.mpr ⟨⟨mo_gr _ _ _ _, Or.inl (ok_gr (C := RX6) (T := TX6) (N := 12) (ci := 6) (k := 1) rfl inX6 (by decide) fl_X6_15 (by decide +kernel) (by decide +kernel))⟩,
  List.forall_mem_cons.mpr ⟨⟨mo_al _ _, Or.inl (ok_aload_n (k := 0) rfl (by decide +kernel))⟩,
  List.forall_mem_cons.mpr ⟨⟨mo_gi _ _ _ _, Or.inl (ok_gi (C := RX6) (T := TX6) (N := 12) (ci := 6) (k := 3) rfl inX6 (by decide) fl_X6_32 (by decide +kernel) (by decide +kernel))⟩,
  List.forall_mem_cons.mpr ⟨⟨mo_ald _ _ _, Or.inl (ok_bald (by decide +kernel))⟩,
  List.forall_mem_cons.mpr ⟨⟨mo_go _, Or.inl (ok_goto (off := 4) (by decide) (by decide +kernel))⟩,
  List.forall_mem_cons.mpr ⟨⟨mo_ic _ _, Or.inl (ok_iconst (n := 1) (v := 1) (by decide) (by decide +kernel))⟩,
  List.forall_mem_cons.mpr ⟨⟨mo_pi _ _ _ _, Or.inl (ok_pi (ty := .int) (C := RX6) (T := TX6) (N := 12) (ci := 6) (k := 4) rfl inX6 (by decide) fl_X6_62 (by decide +kernel) tyX6 tyX6_ok nmX6 (by decide +kernel) (by decide +kernel) (by decide +kernel))⟩,
  List.forall_mem_cons.mpr ⟨⟨mo_al _ _, Or.inl (ok_aload_n (k := 0) rfl (by decide +kernel))⟩,
  List.forall_mem_cons.mpr ⟨⟨mo_dup _, Or.inl (ok_dup (by decide +kernel))⟩,
  List.forall_mem_cons.mpr ⟨⟨mo_gi _ _ _ _, Or.inl (ok_gi (C := RX6) (T := TX6) (N := 12) (ci := 6) (k := 3) rfl inX6 (by decide) fl_X6_32 (by decide +kernel) (by decide +kernel))⟩,
  List.forall_mem_cons.mpr ⟨⟨mo_ic _ _, Or.inl (ok_iconst (n := 1) (v := 1) (by decide) (by decide +kernel))⟩,
  fun _ h => absurd h List.not_mem_nil⟩⟩⟩⟩⟩⟩⟩⟩⟩⟩⟩⟩⟩⟩⟩⟩⟩⟩⟩⟩
def t_X6_next_6 : List (Nat × am_F) := [(239, im_bin (fun x y => x + y) 240), (240, im_pi q_SH 6 3 243), (243, im_ret0e)]
set_option maxRecDepth 20000 in
theorem o_X6_next_6 : ∀ q ∈ t_X6_next_6, am_ok vwCl q_SH ξ (q_E ξ β xs L) q_EN q_KD q_ML (cX6_next, 2, RX6, "next", none, []) q.1 q.2 :=
  List.forall_mem_cons.mpr ⟨⟨mo_bin _ _, Or.inl (ok_iadd (by decide +kernel))⟩,
  List.forall_mem_cons.mpr ⟨⟨mo_pi _ _ _ _, Or.inl (ok_pi (ty := .int) (C := RX6) (T := TX6) (N := 12) (ci := 6) (k := 3) rfl inX6 (by decide) fl_X6_32 (by decide +kernel) tyX6 tyX6_ok nmX6 (by decide +kernel) (by decide +kernel) (by decide +kernel))⟩,
  List.forall_mem_cons.mpr ⟨⟨mo_ret0e, Or.inr (Or.inr (ok_ret0 rfl (by decide +kernel)))⟩,
  fun _ h => absurd h List.not_mem_nil⟩⟩⟩
def t_X6_next : List (Nat × am_F) := t_X6_next_0 ++ (t_X6_next_1 ++ (t_X6_next_2 ++ (t_X6_next_3 ++ (t_X6_next_4 ++ (t_X6_next_5 ++ (t_X6_next_6))))))
theorem o_X6_next : ∀ q ∈ t_X6_next, am_ok vwCl q_SH ξ (q_E ξ β xs L) q_EN q_KD q_ML (cX6_next, 2, RX6, "next", none, []) q.1 q.2 := List.forall_mem_append.mpr ⟨o_X6_next_0, List.forall_mem_append.mpr ⟨o_X6_next_1, List.forall_mem_append.mpr ⟨o_X6_next_2, List.forall_mem_append.mpr ⟨o_X6_next_3, List.forall_mem_append.mpr ⟨o_X6_next_4, List.forall_mem_append.mpr ⟨o_X6_next_5, o_X6_next_6⟩⟩⟩⟩⟩⟩
def t_X6_readDigits_0 : List (Nat × am_F) := [(0, im_al 0 1), (1, im_ic 0 2), (2, im_pi q_SH 6 6 5), (5, im_al 0 6), (6, im_ic 0 7), (7, im_pi q_SH 6 7 10), (10, im_al 0 11), (11, im_gi q_SH 6 3 14), (14, im_al 0 15), (15, im_gi q_SH 6 2 18), (18, im_if2 ic_ge 91 21), (21, im_al 0 22), (22, im_gr q_SH 6 1 25), (25, im_al 0 26), (26, im_gi q_SH 6 3 29), (29, im_ald q_SH .byte 30), (30, im_invs 47 1 33), (33, im_if1 ib_eq 91 36), (36, im_al 0 37), (37, im_dup 38)]
set_option maxRecDepth 20000 in
theorem o_X6_readDigits_0 : ∀ q ∈ t_X6_readDigits_0, am_ok vwCl q_SH ξ (q_E ξ β xs L) q_EN q_KD q_ML (cX6_readDigits, 1, RX6, "readDigits", none, []) q.1 q.2 :=
  List.forall_mem_cons.mpr ⟨⟨mo_al _ _, Or.inl (ok_aload_n (k := 0) rfl (by decide +kernel))⟩,
  List.forall_mem_cons.mpr ⟨⟨mo_ic _ _, Or.inl (ok_iconst (n := 0) (v := 0) (by decide) (by decide +kernel))⟩,
  List.forall_mem_cons.mpr ⟨⟨mo_pi _ _ _ _, Or.inl (ok_pi (ty := .int) (C := RX6) (T := TX6) (N := 12) (ci := 6) (k := 6) rfl inX6 (by decide) fl_X6_138 (by decide +kernel) tyX6 tyX6_ok nmX6 (by decide +kernel) (by decide +kernel) (by decide +kernel))⟩,
  List.forall_mem_cons.mpr ⟨⟨mo_al _ _, Or.inl (ok_aload_n (k := 0) rfl (by decide +kernel))⟩,
  List.forall_mem_cons.mpr ⟨⟨mo_ic _ _, Or.inl (ok_iconst (n := 0) (v := 0) (by decide) (by decide +kernel))⟩,
  List.forall_mem_cons.mpr ⟨⟨mo_pi _ _ _ _, Or.inl (ok_pi (ty := .int) (C := RX6) (T := TX6) (N := 12) (ci := 6) (k := 7) rfl inX6 (by decide) fl_X6_92 (by decide +kernel) tyX6 tyX6_ok nmX6 (by decide +kernel) (by decide +kernel) (by decide +kernel))⟩,
  List.forall_mem_cons.mpr ⟨⟨mo_al _ _, Or.inl (ok_aload_n (k := 0) rfl (by decide +kernel))⟩,
  List.forall_mem_cons.mpr ⟨⟨mo_gi _ _ _ _, Or.inl (ok_gi (C := RX6) (T := TX6) (N := 12) (ci := 6) (k := 3) rfl inX6 (by decide) fl_X6_32 (by decide +kernel) (by decide +kernel))⟩,
  List.forall_mem_cons.mpr ⟨⟨mo_al _ _, Or.inl (ok_aload_n (k := 0) rfl (by decide +kernel))⟩,
  List.forall_mem_cons.mpr ⟨⟨mo_gi _ _ _ _, Or.inl (ok_gi (C := RX6) (T := TX6) (N := 12) (ci := 6) (k := 2) rfl inX6 (by decide) fl_X6_29 (by decide +kernel) (by decide +kernel))⟩,
  List.forall_mem_cons.mpr ⟨⟨mo_if2 _ _ _, Or.inl (ok_icmp_ge (off := 73) (by decide) (by decide +kernel))⟩,
  List.forall_mem_cons.mpr ⟨⟨mo_al _ _, Or.inl (ok_aload_n (k := 0) rfl (by decide +kernel))⟩,
  List.forall_mem_cons.mpr ⟨⟨mo_gr _ _ _ _, Or.inl (ok_gr (C := RX6) (T := TX6) (N := 12) (ci := 6) (k := 1) rfl inX6 (by decide) fl_X6_15 (by decide +kernel) (by decide +kernel))⟩,
  List.forall_mem_cons.mpr ⟨⟨mo_al _ _, Or.inl (ok_aload_n (k := 0) rfl (by decide +kernel))⟩,
  List.forall_mem_cons.mpr ⟨⟨mo_gi _ _ _ _, Or.inl (ok_gi (C := RX6) (T := TX6) (N := 12) (ci := 6) (k := 3) rfl inX6 (by decide) fl_X6_32 (by decide +kernel) (by decide +kernel))⟩,
  List.forall_mem_cons.mpr ⟨⟨mo_ald _ _ _, Or.inl (ok_bald (by decide +kernel))⟩,
  List.forall_mem_cons.mpr ⟨⟨mo_invs _ _ _, Or.inr (Or.inl (ok_invs cw_X6_isDigit (by decide) (by decide) ml_X6_154 cs_X6_isDigit (show Cond.initialized (yX6_isDigit).cls ∈ am_ts from ci9_RX6) ⟨by decide +kernel, by decide +kernel, by decide +kernel⟩ rfl (by decide +kernel)))⟩,
  List.forall_mem_cons.mpr ⟨⟨mo_if1 _ _ _, Or.inl (ok_if_eq (off := 58) (by decide) (by decide +kernel))⟩,
  List.forall_mem_cons.mpr ⟨⟨mo_al _ _, Or.inl (ok_aload_n (k := 0) rfl (by decide +kernel))⟩,
  List.forall_mem_cons.mpr ⟨⟨mo_dup _, Or.inl (ok_dup (by decide +kernel))⟩,
  fun _ h => absurd h List.not_mem_nil⟩⟩⟩⟩⟩⟩⟩⟩⟩⟩⟩⟩⟩⟩⟩⟩⟩⟩⟩⟩
def t_X6_readDigits_1 : List (Nat × am_F) := [(38, im_gi q_SH 6 6 41), (41, im_ic 1 42), (42, im_bin (fun x y => x + y) 43), (43, im_pi q_SH 6 6 46), (46, im_al 0 47), (47, im_gi q_SH 6 6 50), (50, im_ic 5 51), (51, im_if2 ic_gt 78 54), (54, im_al 0 55), (55, im_al 0 56), (56, im_gi q_SH 6 7 59), (59, im_ic 10 61), (61, im_bin (fun x y => x * y) 62), (62, im_al 0 63), (63, im_gr q_SH 6 1 66), (66, im_al 0 67), (67, im_gi q_SH 6 3 70), (70, im_ald q_SH .byte 71), (71, im_ic 48 73), (73, im_bin (fun x y => x - y) 74)]
set_option maxRecDepth 20000 in
theorem o_X6_readDigits_1 : ∀ q ∈ t_X6_readDigits_1, am_ok vwCl q_SH ξ (q_E ξ β xs L) q_EN q_KD q_ML (cX6_readDigits, 1, RX6, "readDigits", none, []) q.1 q.2 :=
  List.forall_mem_cons.mpr ⟨⟨mo_gi _ _ _ _, Or.inl (ok_gi (C := RX6) (T := TX6) (N := 12) (ci := 6) (k := 6) rfl inX6 (by decide) fl_X6_138 (by decide +kernel) (by decide +kernel))⟩,
  List.forall_mem_cons.mpr ⟨⟨mo_ic _ _, Or.inl (ok_iconst (n := 1) (v := 1) (by decide) (by decide +kernel))⟩,
  List.forall_mem_cons.mpr ⟨⟨mo_bin _ _, Or.inl (ok_iadd (by decide +kernel))⟩,
  List.forall_mem_cons.mpr ⟨⟨mo_pi _ _ _ _, Or.inl (ok_pi (ty := .int) (C := RX6) (T := TX6) (N := 12) (ci := 6) (k := 6) rfl inX6 (by decide) fl_X6_138 (by decide +kernel) tyX6 tyX6_ok nmX6 (by decide +kernel) (by decide +kernel) (by decide +kernel))⟩,
  List.forall_mem_cons.mpr ⟨⟨mo_al _ _, Or.inl (ok_aload_n (k := 0) rfl (by decide +kernel))⟩,
  List.forall_mem_cons.mpr ⟨⟨mo_gi _ _ _ _, Or.inl (ok_gi (C := RX6) (T := TX6) (N := 12) (ci := 6) (k := 6) rfl inX6 (by decide) fl_X6_138 (by decide +kernel) (by decide +kernel))⟩,
  List.forall_mem_cons.mpr ⟨⟨mo_ic _ _, Or.inl (ok_iconst (n := 5) (v := 5) (by decide) (by decide +kernel))⟩,
  List.forall_mem_cons.mpr ⟨⟨mo_if2 _ _ _, Or.inl (ok_icmp_gt (off := 27) (by decide) (by decide +kernel))⟩,
  List.forall_mem_cons.mpr ⟨⟨mo_al _ _, Or.inl (ok_aload_n (k := 0) rfl (by decide +kernel))⟩,
  List.forall_mem_cons.mpr ⟨⟨mo_al _ _, Or.inl (ok_aload_n (k := 0) rfl (by decide +kernel))⟩,
  List.forall_mem_cons.mpr ⟨⟨mo_gi _ _ _ _, Or.inl (ok_gi (C := RX6) (T := TX6) (N := 12) (ci := 6) (k := 7) rfl inX6 (by decide) fl_X6_92 (by decide +kernel) (by decide +kernel))⟩,
  List.forall_mem_cons.mpr ⟨⟨mo_ic _ _, Or.inl (ok_bipush (n := 10) (v := 10) (by decide) (by decide +kernel))⟩,
  List.forall_mem_cons.mpr ⟨⟨mo_bin _ _, Or.inl (ok_imul (by decide +kernel))⟩,
  List.forall_mem_cons.mpr ⟨⟨mo_al _ _, Or.inl (ok_aload_n (k := 0) rfl (by decide +kernel))⟩,
  List.forall_mem_cons.mpr ⟨⟨mo_gr _ _ _ _, Or.inl (ok_gr (C := RX6) (T := TX6) (N := 12) (ci := 6) (k := 1) rfl inX6 (by decide) fl_X6_15 (by decide +kernel) (by decide +kernel))⟩,
  List.forall_mem_cons.mpr ⟨⟨mo_al _ _, Or.inl (ok_aload_n (k := 0) rfl (by decide +kernel))⟩,
  List.forall_mem_cons.mpr ⟨⟨mo_gi _ _ _ _, Or.inl (ok_gi (C := RX6) (T := TX6) (N := 12) (ci := 6) (k := 3) rfl inX6 (by decide) fl_X6_32 (by decide +kernel) (by decide +kernel))⟩,
  List.forall_mem_cons.mpr ⟨⟨mo_ald _ _ _, Or.inl (ok_bald (by decide +kernel))⟩,
  List.forall_mem_cons.mpr ⟨⟨mo_ic _ _, Or.inl (ok_bipush (n := 48) (v := 48) (by decide) (by decide +kernel))⟩,
  List.forall_mem_cons.mpr ⟨⟨mo_bin _ _, Or.inl (ok_isub (by decide +kernel))⟩,
  fun _ h => absurd h List.not_mem_nil⟩⟩⟩⟩⟩⟩⟩⟩⟩⟩⟩⟩⟩⟩⟩⟩⟩⟩⟩⟩
def t_X6_readDigits_2 : List (Nat × am_F) := [(74, im_bin (fun x y => x + y) 75), (75, im_pi q_SH 6 7 78), (78, im_al 0 79), (79, im_dup 80), (80, im_gi q_SH 6 3 83), (83, im_ic 1 84), (84, im_bin (fun x y => x + y) 85), (85, im_pi q_SH 6 3 88), (88, im_go 10), (91, im_ret0e)]
set_option maxRecDepth 20000 in
theorem o_X6_readDigits_2 : ∀ q ∈ t_X6_readDigits_2, am_ok vwCl q_SH ξ (q_E ξ β xs L) q_EN q_KD q_ML (cX6_readDigits, 1, RX6, "readDigits", none, []) q.1 q.2 :=
  List.forall_mem_cons.mpr ⟨⟨mo_bin _ _, Or.inl (ok_iadd (by decide +kernel))⟩,
  List.forall_mem_cons.mpr ⟨⟨mo_pi _ _ _ _, Or.inl (ok_pi (ty := .int) (C := RX6) (T := TX6) (N := 12) (ci := 6) (k := 7) rfl inX6 (by decide) fl_X6_92 (by decide +kernel) tyX6 tyX6_ok nmX6 (by decide +kernel) (by decide +kernel) (by decide +kernel))⟩,
  List.forall_mem_cons.mpr ⟨⟨mo_al _ _, Or.inl (ok_aload_n (k := 0) rfl (by decide +kernel))⟩,
  List.forall_mem_cons.mpr ⟨⟨mo_dup _, Or.inl (ok_dup (by decide +kernel))⟩,
  List.forall_mem_cons.mpr ⟨⟨mo_gi _ _ _ _, Or.inl (ok_gi (C := RX6) (T := TX6) (N := 12) (ci := 6) (k := 3) rfl inX6 (by decide) fl_X6_32 (by decide +kernel) (by decide +kernel))⟩,
  List.forall_mem_cons.mpr ⟨⟨mo_ic _ _, Or.inl (ok_iconst (n := 1) (v := 1) (by decide) (by decide +kernel))⟩,
  List.forall_mem_cons.mpr ⟨⟨mo_bin _ _, Or.inl (ok_iadd (by decide +kernel))⟩,
  List.forall_mem_cons.mpr ⟨⟨mo_pi _ _ _ _, Or.inl (ok_pi (ty := .int) (C := RX6) (T := TX6) (N := 12) (ci := 6) (k := 3) rfl inX6 (by decide) fl_X6_32 (by decide +kernel) tyX6 tyX6_ok nmX6 (by decide +kernel) (by decide +kernel) (by decide +kernel))⟩,
  List.forall_mem_cons.mpr ⟨⟨mo_go _, Or.inl (ok_goto (off := (-78)) (by decide) (by decide +kernel))⟩,
  List.forall_mem_cons.mpr ⟨⟨mo_ret0e, Or.inr (Or.inr (ok_ret0 rfl (by decide +kernel)))⟩,
  fun _ h => absurd h List.not_mem_nil⟩⟩⟩⟩⟩⟩⟩⟩⟩⟩
def t_X6_readDigits : List (Nat × am_F) := t_X6_readDigits_0 ++ (t_X6_readDigits_1 ++ (t_X6_readDigits_2))
theorem o_X6_readDigits : ∀ q ∈ t_X6_readDigits, am_ok vwCl q_SH ξ (q_E ξ β xs L) q_EN q_KD q_ML (cX6_readDigits, 1, RX6, "readDigits", none, []) q.1 q.2 := List.forall_mem_append.mpr ⟨o_X6_readDigits_0, List.forall_mem_append.mpr ⟨o_X6_readDigits_1, o_X6_readDigits_2⟩⟩
def t_X6_wordNumber_0 : List (Nat × am_F) := [(0, im_ic 0 1), (1, im_is 1 2), (2, im_al 0 3), (3, im_gi q_SH 6 5 6), (6, im_is 2 7), (7, im_ic 0 8), (8, im_is 3 9), (9, im_il 3 10), (10, im_es 3 12), (12, im_invx 203 0 15), (15, im_if2 ic_ge 91 18), (18, im_es 3 20), (20, im_il 3 21), (21, im_invx 205 1 24), (24, im_is 4 26), (26, im_il 4 28), (28, im_ic 32 30), (30, im_if2 ic_eq 67 33), (33, im_il 2 34), (34, im_if1 ib_lt 62 37)]
set_option maxRecDepth 20000 in
theorem o_X6_wordNumber_0 : ∀ q ∈ t_X6_wordNumber_0, am_ok vwCl q_SH ξ (q_E ξ β xs L) q_EN q_KD q_ML (cX6_wordNumber, 5, RX6, "wordNumber", (some .int), []) q.1 q.2 :=
  List.forall_mem_cons.mpr ⟨⟨mo_ic _ _, Or.inl (ok_iconst (n := 0) (v := 0) (by decide) (by decide +kernel))⟩,
  List.forall_mem_cons.mpr ⟨⟨mo_is _ _, Or.inl (ok_istore_n (k := 1) rfl (by decide) (by decide +kernel))⟩,
  List.forall_mem_cons.mpr ⟨⟨mo_al _ _, Or.inl (ok_aload_n (k := 0) rfl (by decide +kernel))⟩,
  List.forall_mem_cons.mpr ⟨⟨mo_gi _ _ _ _, Or.inl (ok_gi (C := RX6) (T := TX6) (N := 12) (ci := 6) (k := 5) rfl inX6 (by decide) fl_X6_141 (by decide +kernel) (by decide +kernel))⟩,
  List.forall_mem_cons.mpr ⟨⟨mo_is _ _, Or.inl (ok_istore_n (k := 2) rfl (by decide) (by decide +kernel))⟩,
  List.forall_mem_cons.mpr ⟨⟨mo_ic _ _, Or.inl (ok_iconst (n := 0) (v := 0) (by decide) (by decide +kernel))⟩,
  List.forall_mem_cons.mpr ⟨⟨mo_is _ _, Or.inl (ok_istore_n (k := 3) rfl (by decide) (by decide +kernel))⟩,
  List.forall_mem_cons.mpr ⟨⟨mo_il _ _, Or.inl (ok_iload_n (k := 3) rfl (by decide +kernel))⟩,
  List.forall_mem_cons.mpr ⟨⟨mo_es _ _, Or.inl (ok_ldcS (tx := q_tx3) (fun _ _ _ h => q_R3 h) (by decide +kernel))⟩,
  List.forall_mem_cons.mpr ⟨⟨mo_invx _ _ _, Or.inr (Or.inl (ok_invx rfl cw_J0_length_8abf5 (by decide) (by decide) ml_X6_170 ci_J0_length_8abf5 cv_J0_length_8abf5 (show Cond.initialized (yJ0_length_8abf5).cls ∈ am_ts from ci9_RJ0) ⟨by decide +kernel, by decide +kernel, by decide +kernel⟩ rfl (by decide +kernel)))⟩,
  List.forall_mem_cons.mpr ⟨⟨mo_if2 _ _ _, Or.inl (ok_icmp_ge (off := 76) (by decide) (by decide +kernel))⟩,
  List.forall_mem_cons.mpr ⟨⟨mo_es _ _, Or.inl (ok_ldcS (tx := q_tx3) (fun _ _ _ h => q_R3 h) (by decide +kernel))⟩,
  List.forall_mem_cons.mpr ⟨⟨mo_il _ _, Or.inl (ok_iload_n (k := 3) rfl (by decide +kernel))⟩,
  List.forall_mem_cons.mpr ⟨⟨mo_invx _ _ _, Or.inr (Or.inl (ok_invx rfl cw_J0_charAt_5068e (by decide) (by decide) ml_X6_172 ci_J0_charAt_5068e cv_J0_charAt_5068e (show Cond.initialized (yJ0_charAt_5068e).cls ∈ am_ts from ci9_RJ0) ⟨by decide +kernel, by decide +kernel, by decide +kernel⟩ rfl (by decide +kernel)))⟩,
  List.forall_mem_cons.mpr ⟨⟨mo_is _ _, Or.inl (ok_istore (by decide) (by decide +kernel))⟩,
  List.forall_mem_cons.mpr ⟨⟨mo_il _ _, Or.inl (ok_iload (by decide +kernel))⟩,
  List.forall_mem_cons.mpr ⟨⟨mo_ic _ _, Or.inl (ok_bipush (n := 32) (v := 32) (by decide) (by decide +kernel))⟩,
  List.forall_mem_cons.mpr ⟨⟨mo_if2 _ _ _, Or.inl (ok_icmp_eq (off := 37) (by decide) (by decide +kernel))⟩,
  List.forall_mem_cons.mpr ⟨⟨mo_il _ _, Or.inl (ok_iload_n (k := 2) rfl (by decide +kernel))⟩,
  List.forall_mem_cons.mpr ⟨⟨mo_if1 _ _ _, Or.inl (ok_if_lt (off := 28) (by decide) (by decide +kernel))⟩,
  fun _ h => absurd h List.not_mem_nil⟩⟩⟩⟩⟩⟩⟩⟩⟩⟩⟩⟩⟩⟩⟩⟩⟩⟩⟩⟩
def t_X6_wordNumber_1 : List (Nat × am_F) := [(37, im_il 2 38), (38, im_al 0 39), (39, im_gi q_SH 6 3 42), (42, im_if2 ic_ge 62 45), (45, im_al 0 46), (46, im_gr q_SH 6 1 49), (49, im_il 2 50), (50, im_ald q_SH .byte 51), (51, im_il 4 53), (53, im_if2 ic_ne 62 56), (56, im_il 2 57), (57, im_ic 1 58), (58, im_bin (fun x y => x + y) 59), (59, im_go 63), (62, im_ic (-1) 63), (63, im_is 2 64), (64, im_go 85), (67, im_il 2 68), (68, im_al 0 69), (69, im_gi q_SH 6 3 72)]
set_option maxRecDepth 20000 in
theorem o_X6_wordNumber_1 : ∀ q ∈ t_X6_wordNumber_1, am_ok vwCl q_SH ξ (q_E ξ β xs L) q_EN q_KD q_ML (cX6_wordNumber, 5, RX6, "wordNumber", (some .int), []) q.1 q.2 :=
  List.forall_mem_cons.mpr ⟨⟨mo_il _ _, Or.inl (ok_iload_n (k := 2) rfl (by decide +kernel))⟩,
  List.forall_mem_cons.mpr ⟨⟨mo_al _ _, Or.inl (ok_aload_n (k := 0) rfl (by decide +kernel))⟩,
  List.forall_mem_cons.mpr ⟨⟨mo_gi _ _ _ _, Or.inl (ok_gi (C := RX6) (T := TX6) (N := 12) (ci := 6) (k := 3) rfl inX6 (by decide) fl_X6_32 (by decide +kernel) (by decide +kernel))⟩,
  List.forall_mem_cons.mpr ⟨⟨mo_if2 _ _ _, Or.inl (ok_icmp_ge (off := 20) (by decide) (by decide +kernel))⟩,
  List.forall_mem_cons.mpr ⟨⟨mo_al _ _, Or.inl (ok_aload_n (k := 0) rfl (by decide +kernel))⟩,
  List.forall_mem_cons.mpr ⟨⟨mo_gr _ _ _ _, Or.inl (ok_gr (C := RX6) (T := TX6) (N := 12) (ci := 6) (k := 1) rfl inX6 (by decide) fl_X6_15 (by decide +kernel) (by decide +kernel))⟩,
  List.forall_mem_cons.mpr ⟨⟨mo_il _ _, Or.inl (ok_iload_n (k := 2) rfl (by decide +kernel))⟩,
  List.forall_mem_cons.mpr ⟨⟨mo_ald _ _ _, Or.inl (ok_bald (by decide +kernel))⟩,
  List.forall_mem_cons.mpr ⟨⟨mo_il _ _, Or.inl (ok_iload (by decide +kernel))⟩,
  List.forall_mem_cons.mpr ⟨⟨mo_if2 _ _ _, Or.inl (ok_icmp_ne (off := 9) (by decide) (by decide +kernel))⟩,
  List.forall_mem_cons.mpr ⟨⟨mo_il _ _, Or.inl (ok_iload_n (k := 2) rfl (by decide +kernel))⟩,
  List.forall_mem_cons.mpr ⟨⟨mo_ic _ _, Or.inl (ok_iconst (n := 1) (v := 1) (by decide) (by decide +kernel))⟩,
  List.forall_mem_cons.mpr ⟨⟨mo_bin _ _, Or.inl (ok_iadd (by decide +kernel))⟩,
  List.forall_mem_cons.mpr ⟨⟨mo_go _, Or.inl (ok_goto (off := 4) (by decide) (by decide +kernel))⟩,
  List.forall_mem_cons.mpr ⟨⟨mo_ic _ _, Or.inl (ok_iconst (n := (-1)) (v := (-1)) (by decide) (by decide +kernel))⟩,
  List.forall_mem_cons.mpr ⟨⟨mo_is _ _, Or.inl (ok_istore_n (k := 2) rfl (by decide) (by decide +kernel))⟩,
  List.forall_mem_cons.mpr ⟨⟨mo_go _, Or.inl (ok_goto (off := 21) (by decide) (by decide +kernel))⟩,
  List.forall_mem_cons.mpr ⟨⟨mo_il _ _, Or.inl (ok_iload_n (k := 2) rfl (by decide +kernel))⟩,
  List.forall_mem_cons.mpr ⟨⟨mo_al _ _, Or.inl (ok_aload_n (k := 0) rfl (by decide +kernel))⟩,
  List.forall_mem_cons.mpr ⟨⟨mo_gi _ _ _ _, Or.inl (ok_gi (C := RX6) (T := TX6) (N := 12) (ci := 6) (k := 3) rfl inX6 (by decide) fl_X6_32 (by decide +kernel) (by decide +kernel))⟩,
  fun _ h => absurd h List.not_mem_nil⟩⟩⟩⟩⟩⟩⟩⟩⟩⟩⟩⟩⟩⟩⟩⟩⟩⟩⟩⟩
def t_X6_wordNumber_2 : List (Nat × am_F) := [(72, im_if2 ic_ne 77 75), (75, im_il 1 76), (76, im_reti), (77, im_iinc 1 1 80), (80, im_al 0 81), (81, im_gi q_SH 6 5 84), (84, im_is 2 85), (85, im_iinc 3 1 88), (88, im_go 9), (91, im_ic 28 93), (93, im_reti)]
set_option maxRecDepth 20000 in
theorem o_X6_wordNumber_2 : ∀ q ∈ t_X6_wordNumber_2, am_ok vwCl q_SH ξ (q_E ξ β xs L) q_EN q_KD q_ML (cX6_wordNumber, 5, RX6, "wordNumber", (some .int), []) q.1 q.2 :=
  List.forall_mem_cons.mpr ⟨⟨mo_if2 _ _ _, Or.inl (ok_icmp_ne (off := 5) (by decide) (by decide +kernel))⟩,
  List.forall_mem_cons.mpr ⟨⟨mo_il _ _, Or.inl (ok_iload_n (k := 1) rfl (by decide +kernel))⟩,
  List.forall_mem_cons.mpr ⟨⟨mo_reti, Or.inr (Or.inr (ok_reti rfl (by decide +kernel)))⟩,
  List.forall_mem_cons.mpr ⟨⟨mo_iinc _ _ _, Or.inl (ok_iinc (n := 1) (v := 1) (by decide) (by decide) (by decide +kernel))⟩,
  List.forall_mem_cons.mpr ⟨⟨mo_al _ _, Or.inl (ok_aload_n (k := 0) rfl (by decide +kernel))⟩,
  List.forall_mem_cons.mpr ⟨⟨mo_gi _ _ _ _, Or.inl (ok_gi (C := RX6) (T := TX6) (N := 12) (ci := 6) (k := 5) rfl inX6 (by decide) fl_X6_141 (by decide +kernel) (by decide +kernel))⟩,
  List.forall_mem_cons.mpr ⟨⟨mo_is _ _, Or.inl (ok_istore_n (k := 2) rfl (by decide) (by decide +kernel))⟩,
  List.forall_mem_cons.mpr ⟨⟨mo_iinc _ _ _, Or.inl (ok_iinc (n := 1) (v := 1) (by decide) (by decide) (by decide +kernel))⟩,
  List.forall_mem_cons.mpr ⟨⟨mo_go _, Or.inl (ok_goto (off := (-79)) (by decide) (by decide +kernel))⟩,
  List.forall_mem_cons.mpr ⟨⟨mo_ic _ _, Or.inl (ok_bipush (n := 28) (v := 28) (by decide) (by decide +kernel))⟩,
  List.forall_mem_cons.mpr ⟨⟨mo_reti, Or.inr (Or.inr (ok_reti rfl (by decide +kernel)))⟩,
  fun _ h => absurd h List.not_mem_nil⟩⟩⟩⟩⟩⟩⟩⟩⟩⟩⟩
def t_X6_wordNumber : List (Nat × am_F) := t_X6_wordNumber_0 ++ (t_X6_wordNumber_1 ++ (t_X6_wordNumber_2))
theorem o_X6_wordNumber : ∀ q ∈ t_X6_wordNumber, am_ok vwCl q_SH ξ (q_E ξ β xs L) q_EN q_KD q_ML (cX6_wordNumber, 5, RX6, "wordNumber", (some .int), []) q.1 q.2 := List.forall_mem_append.mpr ⟨o_X6_wordNumber_0, List.forall_mem_append.mpr ⟨o_X6_wordNumber_1, o_X6_wordNumber_2⟩⟩
def t_X6_isLetter_0 : List (Nat × am_F) := [(0, im_il 0 1), (1, im_ic 97 3), (3, im_if2 ic_lt 16 6), (6, im_il 0 7), (7, im_ic 122 9), (9, im_if2 ic_gt 16 12), (12, im_ic 1 13), (13, im_go 17), (16, im_ic 0 17), (17, im_retz)]
set_option maxRecDepth 20000 in
theorem o_X6_isLetter_0 : ∀ q ∈ t_X6_isLetter_0, am_ok vwCl q_SH ξ (q_E ξ β xs L) q_EN q_KD q_ML (cX6_isLetter, 1, RX6, "isLetter", (some .boolean), []) q.1 q.2 :=
  List.forall_mem_cons.mpr ⟨⟨mo_il _ _, Or.inl (ok_iload_n (k := 0) rfl (by decide +kernel))⟩,
  List.forall_mem_cons.mpr ⟨⟨mo_ic _ _, Or.inl (ok_bipush (n := 97) (v := 97) (by decide) (by decide +kernel))⟩,
  List.forall_mem_cons.mpr ⟨⟨mo_if2 _ _ _, Or.inl (ok_icmp_lt (off := 13) (by decide) (by decide +kernel))⟩,
  List.forall_mem_cons.mpr ⟨⟨mo_il _ _, Or.inl (ok_iload_n (k := 0) rfl (by decide +kernel))⟩,
  List.forall_mem_cons.mpr ⟨⟨mo_ic _ _, Or.inl (ok_bipush (n := 122) (v := 122) (by decide) (by decide +kernel))⟩,
  List.forall_mem_cons.mpr ⟨⟨mo_if2 _ _ _, Or.inl (ok_icmp_gt (off := 7) (by decide) (by decide +kernel))⟩,
  List.forall_mem_cons.mpr ⟨⟨mo_ic _ _, Or.inl (ok_iconst (n := 1) (v := 1) (by decide) (by decide +kernel))⟩,
  List.forall_mem_cons.mpr ⟨⟨mo_go _, Or.inl (ok_goto (off := 4) (by decide) (by decide +kernel))⟩,
  List.forall_mem_cons.mpr ⟨⟨mo_ic _ _, Or.inl (ok_iconst (n := 0) (v := 0) (by decide) (by decide +kernel))⟩,
  List.forall_mem_cons.mpr ⟨⟨mo_retz, Or.inr (Or.inr (ok_retz rfl (by decide +kernel)))⟩,
  fun _ h => absurd h List.not_mem_nil⟩⟩⟩⟩⟩⟩⟩⟩⟩⟩
def t_X6_isLetter : List (Nat × am_F) := t_X6_isLetter_0
theorem o_X6_isLetter : ∀ q ∈ t_X6_isLetter, am_ok vwCl q_SH ξ (q_E ξ β xs L) q_EN q_KD q_ML (cX6_isLetter, 1, RX6, "isLetter", (some .boolean), []) q.1 q.2 := o_X6_isLetter_0
def t_X6_isDigit_0 : List (Nat × am_F) := [(0, im_il 0 1), (1, im_ic 48 3), (3, im_if2 ic_lt 16 6), (6, im_il 0 7), (7, im_ic 57 9), (9, im_if2 ic_gt 16 12), (12, im_ic 1 13), (13, im_go 17), (16, im_ic 0 17), (17, im_retz)]
set_option maxRecDepth 20000 in
theorem o_X6_isDigit_0 : ∀ q ∈ t_X6_isDigit_0, am_ok vwCl q_SH ξ (q_E ξ β xs L) q_EN q_KD q_ML (cX6_isDigit, 1, RX6, "isDigit", (some .boolean), []) q.1 q.2 :=
  List.forall_mem_cons.mpr ⟨⟨mo_il _ _, Or.inl (ok_iload_n (k := 0) rfl (by decide +kernel))⟩,
  List.forall_mem_cons.mpr ⟨⟨mo_ic _ _, Or.inl (ok_bipush (n := 48) (v := 48) (by decide) (by decide +kernel))⟩,
  List.forall_mem_cons.mpr ⟨⟨mo_if2 _ _ _, Or.inl (ok_icmp_lt (off := 13) (by decide) (by decide +kernel))⟩,
  List.forall_mem_cons.mpr ⟨⟨mo_il _ _, Or.inl (ok_iload_n (k := 0) rfl (by decide +kernel))⟩,
  List.forall_mem_cons.mpr ⟨⟨mo_ic _ _, Or.inl (ok_bipush (n := 57) (v := 57) (by decide) (by decide +kernel))⟩,
  List.forall_mem_cons.mpr ⟨⟨mo_if2 _ _ _, Or.inl (ok_icmp_gt (off := 7) (by decide) (by decide +kernel))⟩,
  List.forall_mem_cons.mpr ⟨⟨mo_ic _ _, Or.inl (ok_iconst (n := 1) (v := 1) (by decide) (by decide +kernel))⟩,
  List.forall_mem_cons.mpr ⟨⟨mo_go _, Or.inl (ok_goto (off := 4) (by decide) (by decide +kernel))⟩,
  List.forall_mem_cons.mpr ⟨⟨mo_ic _ _, Or.inl (ok_iconst (n := 0) (v := 0) (by decide) (by decide +kernel))⟩,
  List.forall_mem_cons.mpr ⟨⟨mo_retz, Or.inr (Or.inr (ok_retz rfl (by decide +kernel)))⟩,
  fun _ h => absurd h List.not_mem_nil⟩⟩⟩⟩⟩⟩⟩⟩⟩⟩
def t_X6_isDigit : List (Nat × am_F) := t_X6_isDigit_0
theorem o_X6_isDigit : ∀ q ∈ t_X6_isDigit, am_ok vwCl q_SH ξ (q_E ξ β xs L) q_EN q_KD q_ML (cX6_isDigit, 1, RX6, "isDigit", (some .boolean), []) q.1 q.2 := o_X6_isDigit_0
def t_X7_init_0 : List (Nat × am_F) := [(0, im_al 0 1), (1, im_obj 4), (4, im_al 0 5), (5, im_ic 20 7), (7, im_newa q_SH .int 9), (9, im_pr q_SH 7 0 12), (12, im_al 0 13), (13, im_ic 20 15), (15, im_newa q_SH .int 17), (17, im_pr q_SH 7 1 20), (20, im_al 0 21), (21, im_ic 20 23), (23, im_newa q_SH .int 25), (25, im_pr q_SH 7 2 28), (28, im_ret0e)]
set_option maxRecDepth 20000 in
theorem o_X7_init_0 : ∀ q ∈ t_X7_init_0, am_ok vwCl q_SH ξ (q_E ξ β xs L) q_EN q_KD q_ML (cX7_init, 1, RX7, "<init>", none, []) q.1 q.2 :=
  List.forall_mem_cons.mpr ⟨⟨mo_al _ _, Or.inl (ok_aload_n (k := 0) rfl (by decide +kernel))⟩,
  List.forall_mem_cons.mpr ⟨⟨mo_obj _, Or.inl (ok_obj (am_in1 60 rfl rfl) (am_in1 33 rfl rfl) (am_in1 34 rfl rfl) (by decide +kernel))⟩,
  List.forall_mem_cons.mpr ⟨⟨mo_al _ _, Or.inl (ok_aload_n (k := 0) rfl (by decide +kernel))⟩,
  List.forall_mem_cons.mpr ⟨⟨mo_ic _ _, Or.inl (ok_bipush (n := 20) (v := 20) (by decide) (by decide +kernel))⟩,
  List.forall_mem_cons.mpr ⟨⟨mo_newa _ _ _, Or.inl (ok_newi (am_in1 54 rfl rfl) (by decide +kernel))⟩,
  List.forall_mem_cons.mpr ⟨⟨mo_pr _ _ _ _, Or.inl (ok_prF (C := RX7) (T := TX7) (N := 4) (ci := 7) (k := 0) rfl inX7 (by decide) fl_X7_9 (by decide +kernel) tyX7 tyX7_ok nmX7 (by decide +kernel) rfl rfl (ty := .array .int) (by decide +kernel) (fun _ => ⟨rfl, rfl⟩) (by decide +kernel))⟩,
  List.forall_mem_cons.mpr ⟨⟨mo_al _ _, Or.inl (ok_aload_n (k := 0) rfl (by decide +kernel))⟩,
  List.forall_mem_cons.mpr ⟨⟨mo_ic _ _, Or.inl (ok_bipush (n := 20) (v := 20) (by decide) (by decide +kernel))⟩,
  List.forall_mem_cons.mpr ⟨⟨mo_newa _ _ _, Or.inl (ok_newi (am_in1 54 rfl rfl) (by decide +kernel))⟩,
  List.forall_mem_cons.mpr ⟨⟨mo_pr _ _ _ _, Or.inl (ok_prF (C := RX7) (T := TX7) (N := 4) (ci := 7) (k := 1) rfl inX7 (by decide) fl_X7_15 (by decide +kernel) tyX7 tyX7_ok nmX7 (by decide +kernel) rfl rfl (ty := .array .int) (by decide +kernel) (fun _ => ⟨rfl, rfl⟩) (by decide +kernel))⟩,
  List.forall_mem_cons.mpr ⟨⟨mo_al _ _, Or.inl (ok_aload_n (k := 0) rfl (by decide +kernel))⟩,
  List.forall_mem_cons.mpr ⟨⟨mo_ic _ _, Or.inl (ok_bipush (n := 20) (v := 20) (by decide) (by decide +kernel))⟩,
  List.forall_mem_cons.mpr ⟨⟨mo_newa _ _ _, Or.inl (ok_newi (am_in1 54 rfl rfl) (by decide +kernel))⟩,
  List.forall_mem_cons.mpr ⟨⟨mo_pr _ _ _ _, Or.inl (ok_prF (C := RX7) (T := TX7) (N := 4) (ci := 7) (k := 2) rfl inX7 (by decide) fl_X7_18 (by decide +kernel) tyX7 tyX7_ok nmX7 (by decide +kernel) rfl rfl (ty := .array .int) (by decide +kernel) (fun _ => ⟨rfl, rfl⟩) (by decide +kernel))⟩,
  List.forall_mem_cons.mpr ⟨⟨mo_ret0e, Or.inr (Or.inr (ok_ret0 rfl (by decide +kernel)))⟩,
  fun _ h => absurd h List.not_mem_nil⟩⟩⟩⟩⟩⟩⟩⟩⟩⟩⟩⟩⟩⟩⟩
def t_X7_init : List (Nat × am_F) := t_X7_init_0
theorem o_X7_init : ∀ q ∈ t_X7_init, am_ok vwCl q_SH ξ (q_E ξ β xs L) q_EN q_KD q_ML (cX7_init, 1, RX7, "<init>", none, []) q.1 q.2 := o_X7_init_0
def t_X7_isChildOf_0 : List (Nat × am_F) := [(0, im_al 0 1), (1, im_gr q_SH 7 1 4), (4, im_il 1 5), (5, im_ald q_SH .int 6), (6, im_ic (-1) 7), (7, im_if2 ic_ne 19 10), (10, im_al 0 11), (11, im_gr q_SH 7 2 14), (14, im_il 1 15), (15, im_ald q_SH .int 16), (16, im_go 25), (19, im_al 0 20), (20, im_gr q_SH 7 1 23), (23, im_il 1 24), (24, im_ald q_SH .int 25), (25, im_is 3 26), (26, im_il 3 27), (27, im_il 2 28), (28, im_if2 ic_ne 35 31), (31, im_ic 1 32)]
set_option maxRecDepth 20000 in
theorem o_X7_isChildOf_0 : ∀ q ∈ t_X7_isChildOf_0, am_ok vwCl q_SH ξ (q_E ξ β xs L) q_EN q_KD q_ML (cX7_isChildOf, 4, RX7, "isChildOf", (some .boolean), []) q.1 q.2 :=
  List.forall_mem_cons.mpr ⟨⟨mo_al _ _, Or.inl (ok_aload_n (k := 0) rfl (by decide +kernel))⟩,
  List.forall_mem_cons.mpr ⟨⟨mo_gr _ _ _ _, Or.inl (ok_gr (C := RX7) (T := TX7) (N := 4) (ci := 7) (k := 1) rfl inX7 (by decide) fl_X7_15 (by decide +kernel) (by decide +kernel))⟩,
  List.forall_mem_cons.mpr ⟨⟨mo_il _ _, Or.inl (ok_iload_n (k := 1) rfl (by decide +kernel))⟩,
  List.forall_mem_cons.mpr ⟨⟨mo_ald _ _ _, Or.inl (ok_iald (by decide +kernel))⟩,
  List.forall_mem_cons.mpr ⟨⟨mo_ic _ _, Or.inl (ok_iconst (n := (-1)) (v := (-1)) (by decide) (by decide +kernel))⟩,
  List.forall_mem_cons.mpr ⟨⟨mo_if2 _ _ _, Or.inl (ok_icmp_ne (off := 12) (by decide) (by decide +kernel))⟩,
  List.forall_mem_cons.mpr ⟨⟨mo_al _ _, Or.inl (ok_aload_n (k := 0) rfl (by decide +kernel))⟩,
  List.forall_mem_cons.mpr ⟨⟨mo_gr _ _ _ _, Or.inl (ok_gr (C := RX7) (T := TX7) (N := 4) (ci := 7) (k := 2) rfl inX7 (by decide) fl_X7_18 (by decide +kernel) (by decide +kernel))⟩,
  List.forall_mem_cons.mpr ⟨⟨mo_il _ _, Or.inl (ok_iload_n (k := 1) rfl (by decide +kernel))⟩,
  List.forall_mem_cons.mpr ⟨⟨mo_ald _ _ _, Or.inl (ok_iald (by decide +kernel))⟩,
  List.forall_mem_cons.mpr ⟨⟨mo_go _, Or.inl (ok_goto (off := 9) (by decide) (by decide +kernel))⟩,
  List.forall_mem_cons.mpr ⟨⟨mo_al _ _, Or.inl (ok_aload_n (k := 0) rfl (by decide +kernel))⟩,
  List.forall_mem_cons.mpr ⟨⟨mo_gr _ _ _ _, Or.inl (ok_gr (C := RX7) (T := TX7) (N := 4) (ci := 7) (k := 1) rfl inX7 (by decide) fl_X7_15 (by decide +kernel) (by decide +kernel))⟩,
  List.forall_mem_cons.mpr ⟨⟨mo_il _ _, Or.inl (ok_iload_n (k := 1) rfl (by decide +kernel))⟩,
  List.forall_mem_cons.mpr ⟨⟨mo_ald _ _ _, Or.inl (ok_iald (by decide +kernel))⟩,
  List.forall_mem_cons.mpr ⟨⟨mo_is _ _, Or.inl (ok_istore_n (k := 3) rfl (by decide) (by decide +kernel))⟩,
  List.forall_mem_cons.mpr ⟨⟨mo_il _ _, Or.inl (ok_iload_n (k := 3) rfl (by decide +kernel))⟩,
  List.forall_mem_cons.mpr ⟨⟨mo_il _ _, Or.inl (ok_iload_n (k := 2) rfl (by decide +kernel))⟩,
  List.forall_mem_cons.mpr ⟨⟨mo_if2 _ _ _, Or.inl (ok_icmp_ne (off := 7) (by decide) (by decide +kernel))⟩,
  List.forall_mem_cons.mpr ⟨⟨mo_ic _ _, Or.inl (ok_iconst (n := 1) (v := 1) (by decide) (by decide +kernel))⟩,
  fun _ h => absurd h List.not_mem_nil⟩⟩⟩⟩⟩⟩⟩⟩⟩⟩⟩⟩⟩⟩⟩⟩⟩⟩⟩⟩
def t_X7_isChildOf_1 : List (Nat × am_F) := [(32, im_go 36), (35, im_ic 0 36), (36, im_retz)]
set_option maxRecDepth 20000 in
theorem o_X7_isChildOf_1 : ∀ q ∈ t_X7_isChildOf_1, am_ok vwCl q_SH ξ (q_E ξ β xs L) q_EN q_KD q_ML (cX7_isChildOf, 4, RX7, "isChildOf", (some .boolean), []) q.1 q.2 :=
  List.forall_mem_cons.mpr ⟨⟨mo_go _, Or.inl (ok_goto (off := 4) (by decide) (by decide +kernel))⟩,
  List.forall_mem_cons.mpr ⟨⟨mo_ic _ _, Or.inl (ok_iconst (n := 0) (v := 0) (by decide) (by decide +kernel))⟩,
  List.forall_mem_cons.mpr ⟨⟨mo_retz, Or.inr (Or.inr (ok_retz rfl (by decide +kernel)))⟩,
  fun _ h => absurd h List.not_mem_nil⟩⟩⟩
def t_X7_isChildOf : List (Nat × am_F) := t_X7_isChildOf_0 ++ (t_X7_isChildOf_1)
theorem o_X7_isChildOf : ∀ q ∈ t_X7_isChildOf, am_ok vwCl q_SH ξ (q_E ξ β xs L) q_EN q_KD q_ML (cX7_isChildOf, 4, RX7, "isChildOf", (some .boolean), []) q.1 q.2 := List.forall_mem_append.mpr ⟨o_X7_isChildOf_0, o_X7_isChildOf_1⟩
def t_X8_init_0 : List (Nat × am_F) := [(0, im_al 0 1), (1, im_obj 4), (4, im_al 0 5), (5, im_ic 12 7), (7, im_newa q_SH .int 9), (9, im_pr q_SH 8 0 12), (12, im_ret0e)]
set_option maxRecDepth 20000 in
theorem o_X8_init_0 : ∀ q ∈ t_X8_init_0, am_ok vwCl q_SH ξ (q_E ξ β xs L) q_EN q_KD q_ML (cX8_init, 1, RX8, "<init>", none, []) q.1 q.2 :=
  List.forall_mem_cons.mpr ⟨⟨mo_al _ _, Or.inl (ok_aload_n (k := 0) rfl (by decide +kernel))⟩,
  List.forall_mem_cons.mpr ⟨⟨mo_obj _, Or.inl (ok_obj (am_in1 40 rfl rfl) (am_in1 33 rfl rfl) (am_in1 34 rfl rfl) (by decide +kernel))⟩,
  List.forall_mem_cons.mpr ⟨⟨mo_al _ _, Or.inl (ok_aload_n (k := 0) rfl (by decide +kernel))⟩,
  List.forall_mem_cons.mpr ⟨⟨mo_ic _ _, Or.inl (ok_bipush (n := 12) (v := 12) (by decide) (by decide +kernel))⟩,
  List.forall_mem_cons.mpr ⟨⟨mo_newa _ _ _, Or.inl (ok_newi (am_in1 54 rfl rfl) (by decide +kernel))⟩,
  List.forall_mem_cons.mpr ⟨⟨mo_pr _ _ _ _, Or.inl (ok_prF (C := RX8) (T := TX8) (N := 3) (ci := 8) (k := 0) rfl inX8 (by decide) fl_X8_9 (by decide +kernel) tyX8 tyX8_ok nmX8 (by decide +kernel) rfl rfl (ty := .array .int) (by decide +kernel) (fun _ => ⟨rfl, rfl⟩) (by decide +kernel))⟩,
  List.forall_mem_cons.mpr ⟨⟨mo_ret0e, Or.inr (Or.inr (ok_ret0 rfl (by decide +kernel)))⟩,
  fun _ h => absurd h List.not_mem_nil⟩⟩⟩⟩⟩⟩⟩
def t_X8_init : List (Nat × am_F) := t_X8_init_0
theorem o_X8_init : ∀ q ∈ t_X8_init, am_ok vwCl q_SH ξ (q_E ξ β xs L) q_EN q_KD q_ML (cX8_init, 1, RX8, "<init>", none, []) q.1 q.2 := o_X8_init_0
def t_J6_bitCount_0f7a4_0 : List (Nat × am_F) := [(0, im_il 0 1), (1, im_il 0 2), (2, im_ic 1 3), (3, im_bin (fun x y => (x.toUInt32 >>> (y.toUInt32 &&& Int32.toUInt32 31)).toInt32) 4), (4, im_ic 1431655765 7), (7, im_bin (fun x y => x &&& y) 8), (8, im_bin (fun x y => x - y) 9), (9, im_is 0 10), (10, im_il 0 11), (11, im_ic 858993459 14), (14, im_bin (fun x y => x &&& y) 15), (15, im_il 0 16), (16, im_ic 2 17), (17, im_bin (fun x y => (x.toUInt32 >>> (y.toUInt32 &&& Int32.toUInt32 31)).toInt32) 18), (18, im_ic 858993459 21), (21, im_bin (fun x y => x &&& y) 22), (22, im_bin (fun x y => x + y) 23), (23, im_is 0 24), (24, im_il 0 25), (25, im_il 0 26)]
set_option maxRecDepth 20000 in
theorem o_J6_bitCount_0f7a4_0 : ∀ q ∈ t_J6_bitCount_0f7a4_0, am_ok vwCl q_SH ξ (q_E ξ β xs L) q_EN q_KD q_ML (cJ6_bitCount_0f7a4, 1, RJ6, "bitCount", (some .int), []) q.1 q.2 :=
  List.forall_mem_cons.mpr ⟨⟨mo_il _ _, Or.inl (ok_iload_n (k := 0) rfl (by decide +kernel))⟩,
  List.forall_mem_cons.mpr ⟨⟨mo_il _ _, Or.inl (ok_iload_n (k := 0) rfl (by decide +kernel))⟩,
  List.forall_mem_cons.mpr ⟨⟨mo_ic _ _, Or.inl (ok_iconst (n := 1) (v := 1) (by decide) (by decide +kernel))⟩,
  List.forall_mem_cons.mpr ⟨⟨mo_bin _ _, Or.inl (ok_iushr (by decide +kernel))⟩,
  List.forall_mem_cons.mpr ⟨⟨mo_ic _ _, Or.inl (ok_ldcw (v := 1431655765) (am_in5 47 rfl rfl) (by decide +kernel))⟩,
  List.forall_mem_cons.mpr ⟨⟨mo_bin _ _, Or.inl (ok_iand (by decide +kernel))⟩,
  List.forall_mem_cons.mpr ⟨⟨mo_bin _ _, Or.inl (ok_isub (by decide +kernel))⟩,
  List.forall_mem_cons.mpr ⟨⟨mo_is _ _, Or.inl (ok_istore_n (k := 0) rfl (by decide) (by decide +kernel))⟩,
  List.forall_mem_cons.mpr ⟨⟨mo_il _ _, Or.inl (ok_iload_n (k := 0) rfl (by decide +kernel))⟩,
  List.forall_mem_cons.mpr ⟨⟨mo_ic _ _, Or.inl (ok_ldcw (v := 858993459) (am_in5 48 rfl rfl) (by decide +kernel))⟩,
  List.forall_mem_cons.mpr ⟨⟨mo_bin _ _, Or.inl (ok_iand (by decide +kernel))⟩,
  List.forall_mem_cons.mpr ⟨⟨mo_il _ _, Or.inl (ok_iload_n (k := 0) rfl (by decide +kernel))⟩,
  List.forall_mem_cons.mpr ⟨⟨mo_ic _ _, Or.inl (ok_iconst (n := 2) (v := 2) (by decide) (by decide +kernel))⟩,
  List.forall_mem_cons.mpr ⟨⟨mo_bin _ _, Or.inl (ok_iushr (by decide +kernel))⟩,
  List.forall_mem_cons.mpr ⟨⟨mo_ic _ _, Or.inl (ok_ldcw (v := 858993459) (am_in5 48 rfl rfl) (by decide +kernel))⟩,
  List.forall_mem_cons.mpr ⟨⟨mo_bin _ _, Or.inl (ok_iand (by decide +kernel))⟩,
  List.forall_mem_cons.mpr ⟨⟨mo_bin _ _, Or.inl (ok_iadd (by decide +kernel))⟩,
  List.forall_mem_cons.mpr ⟨⟨mo_is _ _, Or.inl (ok_istore_n (k := 0) rfl (by decide) (by decide +kernel))⟩,
  List.forall_mem_cons.mpr ⟨⟨mo_il _ _, Or.inl (ok_iload_n (k := 0) rfl (by decide +kernel))⟩,
  List.forall_mem_cons.mpr ⟨⟨mo_il _ _, Or.inl (ok_iload_n (k := 0) rfl (by decide +kernel))⟩,
  fun _ h => absurd h List.not_mem_nil⟩⟩⟩⟩⟩⟩⟩⟩⟩⟩⟩⟩⟩⟩⟩⟩⟩⟩⟩⟩
def t_J6_bitCount_0f7a4_1 : List (Nat × am_F) := [(26, im_ic 4 27), (27, im_bin (fun x y => (x.toUInt32 >>> (y.toUInt32 &&& Int32.toUInt32 31)).toInt32) 28), (28, im_bin (fun x y => x + y) 29), (29, im_ic 252645135 32), (32, im_bin (fun x y => x &&& y) 33), (33, im_is 0 34), (34, im_il 0 35), (35, im_il 0 36), (36, im_ic 8 38), (38, im_bin (fun x y => (x.toUInt32 >>> (y.toUInt32 &&& Int32.toUInt32 31)).toInt32) 39), (39, im_bin (fun x y => x + y) 40), (40, im_is 0 41), (41, im_il 0 42), (42, im_il 0 43), (43, im_ic 16 45), (45, im_bin (fun x y => (x.toUInt32 >>> (y.toUInt32 &&& Int32.toUInt32 31)).toInt32) 46), (46, im_bin (fun x y => x + y) 47), (47, im_is 0 48), (48, im_il 0 49), (49, im_ic 63 51)]
set_option maxRecDepth 20000 in
theorem o_J6_bitCount_0f7a4_1 : ∀ q ∈ t_J6_bitCount_0f7a4_1, am_ok vwCl q_SH ξ (q_E ξ β xs L) q_EN q_KD q_ML (cJ6_bitCount_0f7a4, 1, RJ6, "bitCount", (some .int), []) q.1 q.2 :=
  List.forall_mem_cons.mpr ⟨⟨mo_ic _ _, Or.inl (ok_iconst (n := 4) (v := 4) (by decide) (by decide +kernel))⟩,
  List.forall_mem_cons.mpr ⟨⟨mo_bin _ _, Or.inl (ok_iushr (by decide +kernel))⟩,
  List.forall_mem_cons.mpr ⟨⟨mo_bin _ _, Or.inl (ok_iadd (by decide +kernel))⟩,
  List.forall_mem_cons.mpr ⟨⟨mo_ic _ _, Or.inl (ok_ldcw (v := 252645135) (am_in5 49 rfl rfl) (by decide +kernel))⟩,
  List.forall_mem_cons.mpr ⟨⟨mo_bin _ _, Or.inl (ok_iand (by decide +kernel))⟩,
  List.forall_mem_cons.mpr ⟨⟨mo_is _ _, Or.inl (ok_istore_n (k := 0) rfl (by decide) (by decide +kernel))⟩,
  List.forall_mem_cons.mpr ⟨⟨mo_il _ _, Or.inl (ok_iload_n (k := 0) rfl (by decide +kernel))⟩,
  List.forall_mem_cons.mpr ⟨⟨mo_il _ _, Or.inl (ok_iload_n (k := 0) rfl (by decide +kernel))⟩,
  List.forall_mem_cons.mpr ⟨⟨mo_ic _ _, Or.inl (ok_bipush (n := 8) (v := 8) (by decide) (by decide +kernel))⟩,
  List.forall_mem_cons.mpr ⟨⟨mo_bin _ _, Or.inl (ok_iushr (by decide +kernel))⟩,
  List.forall_mem_cons.mpr ⟨⟨mo_bin _ _, Or.inl (ok_iadd (by decide +kernel))⟩,
  List.forall_mem_cons.mpr ⟨⟨mo_is _ _, Or.inl (ok_istore_n (k := 0) rfl (by decide) (by decide +kernel))⟩,
  List.forall_mem_cons.mpr ⟨⟨mo_il _ _, Or.inl (ok_iload_n (k := 0) rfl (by decide +kernel))⟩,
  List.forall_mem_cons.mpr ⟨⟨mo_il _ _, Or.inl (ok_iload_n (k := 0) rfl (by decide +kernel))⟩,
  List.forall_mem_cons.mpr ⟨⟨mo_ic _ _, Or.inl (ok_bipush (n := 16) (v := 16) (by decide) (by decide +kernel))⟩,
  List.forall_mem_cons.mpr ⟨⟨mo_bin _ _, Or.inl (ok_iushr (by decide +kernel))⟩,
  List.forall_mem_cons.mpr ⟨⟨mo_bin _ _, Or.inl (ok_iadd (by decide +kernel))⟩,
  List.forall_mem_cons.mpr ⟨⟨mo_is _ _, Or.inl (ok_istore_n (k := 0) rfl (by decide) (by decide +kernel))⟩,
  List.forall_mem_cons.mpr ⟨⟨mo_il _ _, Or.inl (ok_iload_n (k := 0) rfl (by decide +kernel))⟩,
  List.forall_mem_cons.mpr ⟨⟨mo_ic _ _, Or.inl (ok_bipush (n := 63) (v := 63) (by decide) (by decide +kernel))⟩,
  fun _ h => absurd h List.not_mem_nil⟩⟩⟩⟩⟩⟩⟩⟩⟩⟩⟩⟩⟩⟩⟩⟩⟩⟩⟩⟩
def t_J6_bitCount_0f7a4_2 : List (Nat × am_F) := [(51, im_bin (fun x y => x &&& y) 52), (52, im_reti)]
set_option maxRecDepth 20000 in
theorem o_J6_bitCount_0f7a4_2 : ∀ q ∈ t_J6_bitCount_0f7a4_2, am_ok vwCl q_SH ξ (q_E ξ β xs L) q_EN q_KD q_ML (cJ6_bitCount_0f7a4, 1, RJ6, "bitCount", (some .int), []) q.1 q.2 :=
  List.forall_mem_cons.mpr ⟨⟨mo_bin _ _, Or.inl (ok_iand (by decide +kernel))⟩,
  List.forall_mem_cons.mpr ⟨⟨mo_reti, Or.inr (Or.inr (ok_reti rfl (by decide +kernel)))⟩,
  fun _ h => absurd h List.not_mem_nil⟩⟩
def t_J6_bitCount_0f7a4 : List (Nat × am_F) := t_J6_bitCount_0f7a4_0 ++ (t_J6_bitCount_0f7a4_1 ++ (t_J6_bitCount_0f7a4_2))
theorem o_J6_bitCount_0f7a4 : ∀ q ∈ t_J6_bitCount_0f7a4, am_ok vwCl q_SH ξ (q_E ξ β xs L) q_EN q_KD q_ML (cJ6_bitCount_0f7a4, 1, RJ6, "bitCount", (some .int), []) q.1 q.2 := List.forall_mem_append.mpr ⟨o_J6_bitCount_0f7a4_0, List.forall_mem_append.mpr ⟨o_J6_bitCount_0f7a4_1, o_J6_bitCount_0f7a4_2⟩⟩
def t_J7_fill_53178_0 : List (Nat × am_F) := [(0, im_ic 0 1), (1, im_is 2 2), (2, im_al 0 3), (3, im_alen q_SH .int 4), (4, im_is 3 5), (5, im_il 2 6), (6, im_il 3 7), (7, im_if2 ic_ge 20 10), (10, im_al 0 11), (11, im_il 2 12), (12, im_il 1 13), (13, im_ast q_SH .int (fun x => x) 14), (14, im_iinc 2 1 17), (17, im_go 5), (20, im_ret0e)]
set_option maxRecDepth 20000 in
theorem o_J7_fill_53178_0 : ∀ q ∈ t_J7_fill_53178_0, am_ok vwCl q_SH ξ (q_E ξ β xs L) q_EN q_KD q_ML (cJ7_fill_53178, 4, RJ7, "fill", none, []) q.1 q.2 :=
  List.forall_mem_cons.mpr ⟨⟨mo_ic _ _, Or.inl (ok_iconst (n := 0) (v := 0) (by decide) (by decide +kernel))⟩,
  List.forall_mem_cons.mpr ⟨⟨mo_is _ _, Or.inl (ok_istore_n (k := 2) rfl (by decide) (by decide +kernel))⟩,
  List.forall_mem_cons.mpr ⟨⟨mo_al _ _, Or.inl (ok_aload_n (k := 0) rfl (by decide +kernel))⟩,
  List.forall_mem_cons.mpr ⟨⟨mo_alen _ _ _, Or.inl (ok_alen (by decide +kernel))⟩,
  List.forall_mem_cons.mpr ⟨⟨mo_is _ _, Or.inl (ok_istore_n (k := 3) rfl (by decide) (by decide +kernel))⟩,
  List.forall_mem_cons.mpr ⟨⟨mo_il _ _, Or.inl (ok_iload_n (k := 2) rfl (by decide +kernel))⟩,
  List.forall_mem_cons.mpr ⟨⟨mo_il _ _, Or.inl (ok_iload_n (k := 3) rfl (by decide +kernel))⟩,
  List.forall_mem_cons.mpr ⟨⟨mo_if2 _ _ _, Or.inl (ok_icmp_ge (off := 13) (by decide) (by decide +kernel))⟩,
  List.forall_mem_cons.mpr ⟨⟨mo_al _ _, Or.inl (ok_aload_n (k := 0) rfl (by decide +kernel))⟩,
  List.forall_mem_cons.mpr ⟨⟨mo_il _ _, Or.inl (ok_iload_n (k := 2) rfl (by decide +kernel))⟩,
  List.forall_mem_cons.mpr ⟨⟨mo_il _ _, Or.inl (ok_iload_n (k := 1) rfl (by decide +kernel))⟩,
  List.forall_mem_cons.mpr ⟨⟨mo_ast _ _ _ _, Or.inl (ok_iast (by decide +kernel))⟩,
  List.forall_mem_cons.mpr ⟨⟨mo_iinc _ _ _, Or.inl (ok_iinc (n := 1) (v := 1) (by decide) (by decide) (by decide +kernel))⟩,
  List.forall_mem_cons.mpr ⟨⟨mo_go _, Or.inl (ok_goto (off := (-12)) (by decide) (by decide +kernel))⟩,
  List.forall_mem_cons.mpr ⟨⟨mo_ret0e, Or.inr (Or.inr (ok_ret0 rfl (by decide +kernel)))⟩,
  fun _ h => absurd h List.not_mem_nil⟩⟩⟩⟩⟩⟩⟩⟩⟩⟩⟩⟩⟩⟩⟩
def t_J7_fill_53178 : List (Nat × am_F) := t_J7_fill_53178_0
theorem o_J7_fill_53178 : ∀ q ∈ t_J7_fill_53178, am_ok vwCl q_SH ξ (q_E ξ β xs L) q_EN q_KD q_ML (cJ7_fill_53178, 4, RJ7, "fill", none, []) q.1 q.2 := o_J7_fill_53178_0
def t_J7_copyOf_59c91_0 : List (Nat × am_F) := [(0, im_il 1 1), (1, im_al 0 2), (2, im_alen q_SH .int 3), (3, im_if2 ic_ne 14 6), (6, im_al 0 7), (13, im_reta), (14, im_il 1 15), (15, im_newa q_SH .int 17), (17, im_as 2 18), (18, im_al 0 19), (19, im_ic 0 20), (20, im_al 2 21), (21, im_ic 0 22), (22, im_al 0 23), (23, im_alen q_SH .int 24), (24, im_il 1 25), (25, im_mm (fun x y => if y < x then y else x) 28), (28, im_acopy q_SH 31), (31, im_al 2 32), (32, im_reta)]
set_option maxRecDepth 20000 in
theorem o_J7_copyOf_59c91_0 : ∀ q ∈ t_J7_copyOf_59c91_0, am_ok vwCl q_SH ξ (q_E ξ β xs L) q_EN q_KD q_ML (cJ7_copyOf_59c91, 3, RJ7, "copyOf", (some (.array .int)), []) q.1 q.2 :=
  List.forall_mem_cons.mpr ⟨⟨mo_il _ _, Or.inl (ok_iload_n (k := 1) rfl (by decide +kernel))⟩,
  List.forall_mem_cons.mpr ⟨⟨mo_al _ _, Or.inl (ok_aload_n (k := 0) rfl (by decide +kernel))⟩,
  List.forall_mem_cons.mpr ⟨⟨mo_alen _ _ _, Or.inl (ok_alen (by decide +kernel))⟩,
  List.forall_mem_cons.mpr ⟨⟨mo_if2 _ _ _, Or.inl (ok_icmp_ne (off := 11) (by decide) (by decide +kernel))⟩,
  List.forall_mem_cons.mpr ⟨⟨mo_al _ _, Or.inl (ok_aload_n (k := 0) rfl (by decide +kernel))⟩,
  List.forall_mem_cons.mpr ⟨⟨mo_reta, Or.inr (Or.inr (ok_reta (ty := .int) rfl (by decide +kernel)))⟩,
  List.forall_mem_cons.mpr ⟨⟨mo_il _ _, Or.inl (ok_iload_n (k := 1) rfl (by decide +kernel))⟩,
  List.forall_mem_cons.mpr ⟨⟨mo_newa _ _ _, Or.inl (ok_newi (am_in1 54 rfl rfl) (by decide +kernel))⟩,
  List.forall_mem_cons.mpr ⟨⟨mo_as _ _, Or.inl (ok_astore_n (k := 2) rfl (by decide) (by decide +kernel))⟩,
  List.forall_mem_cons.mpr ⟨⟨mo_al _ _, Or.inl (ok_aload_n (k := 0) rfl (by decide +kernel))⟩,
  List.forall_mem_cons.mpr ⟨⟨mo_ic _ _, Or.inl (ok_iconst (n := 0) (v := 0) (by decide) (by decide +kernel))⟩,
  List.forall_mem_cons.mpr ⟨⟨mo_al _ _, Or.inl (ok_aload_n (k := 2) rfl (by decide +kernel))⟩,
  List.forall_mem_cons.mpr ⟨⟨mo_ic _ _, Or.inl (ok_iconst (n := 0) (v := 0) (by decide) (by decide +kernel))⟩,
  List.forall_mem_cons.mpr ⟨⟨mo_al _ _, Or.inl (ok_aload_n (k := 0) rfl (by decide +kernel))⟩,
  List.forall_mem_cons.mpr ⟨⟨mo_alen _ _ _, Or.inl (ok_alen (by decide +kernel))⟩,
  List.forall_mem_cons.mpr ⟨⟨mo_il _ _, Or.inl (ok_iload_n (k := 1) rfl (by decide +kernel))⟩,
  List.forall_mem_cons.mpr ⟨⟨mo_mm _ _, Or.inl (ok_mmin (am_in5 76 rfl rfl) (am_in3 167 rfl rfl) (am_in1 18 rfl rfl) (am_in3 168 rfl rfl) (by decide +kernel))⟩,
  List.forall_mem_cons.mpr ⟨⟨mo_acopy _ _, Or.inl (ok_acopy (am_in5 77 rfl rfl) (am_in4 196 rfl rfl) (am_in4 195 rfl rfl) (am_in1 25 rfl rfl) (by decide +kernel))⟩,
  List.forall_mem_cons.mpr ⟨⟨mo_al _ _, Or.inl (ok_aload_n (k := 2) rfl (by decide +kernel))⟩,
  List.forall_mem_cons.mpr ⟨⟨mo_reta, Or.inr (Or.inr (ok_reta (ty := .int) rfl (by decide +kernel)))⟩,
  fun _ h => absurd h List.not_mem_nil⟩⟩⟩⟩⟩⟩⟩⟩⟩⟩⟩⟩⟩⟩⟩⟩⟩⟩⟩⟩
def t_J7_copyOf_59c91 : List (Nat × am_F) := t_J7_copyOf_59c91_0
theorem o_J7_copyOf_59c91 : ∀ q ∈ t_J7_copyOf_59c91, am_ok vwCl q_SH ξ (q_E ξ β xs L) q_EN q_KD q_ML (cJ7_copyOf_59c91, 3, RJ7, "copyOf", (some (.array .int)), []) q.1 q.2 := o_J7_copyOf_59c91_0
def t_J0_length_8abf5_0 : List (Nat × am_F) := [(0, im_al 0 1), (1, im_xr 4), (4, im_xl 5), (5, im_al 0 6), (6, im_invx 204 0 9), (9, im_bin (fun x y => x >>> (y &&& 31)) 10), (10, im_reti)]
set_option maxRecDepth 20000 in
theorem o_J0_length_8abf5_0 : ∀ q ∈ t_J0_length_8abf5_0, am_ok vwCl q_SH ξ (q_E ξ β xs L) q_EN q_KD q_ML (cJ0_length_8abf5, 1, RJ0, "length", (some .int), []) q.1 q.2 :=
  List.forall_mem_cons.mpr ⟨⟨mo_al _ _, Or.inl (ok_aload_n (k := 0) rfl (by decide +kernel))⟩,
  List.forall_mem_cons.mpr ⟨⟨mo_xr _, Or.inl (ok_xr (am_in8 60 rfl rfl) (by decide +kernel))⟩,
  List.forall_mem_cons.mpr ⟨⟨mo_xl _, Or.inl (ok_xl (by decide +kernel))⟩,
  List.forall_mem_cons.mpr ⟨⟨mo_al _ _, Or.inl (ok_aload_n (k := 0) rfl (by decide +kernel))⟩,
  List.forall_mem_cons.mpr ⟨⟨mo_invx _ _ _, Or.inr (Or.inl (ok_invx rfl cw_J0_coder_7d493 (by decide) (by decide) ml_J0_335 ci_J0_coder_7d493 cv_J0_coder_7d493 (show Cond.initialized (yJ0_coder_7d493).cls ∈ am_ts from ci9_RJ0) ⟨by decide +kernel, by decide +kernel, by decide +kernel⟩ rfl (by decide +kernel)))⟩,
  List.forall_mem_cons.mpr ⟨⟨mo_bin _ _, Or.inl (ok_ishr (by decide +kernel))⟩,
  List.forall_mem_cons.mpr ⟨⟨mo_reti, Or.inr (Or.inr (ok_reti rfl (by decide +kernel)))⟩,
  fun _ h => absurd h List.not_mem_nil⟩⟩⟩⟩⟩⟩⟩
def t_J0_length_8abf5 : List (Nat × am_F) := t_J0_length_8abf5_0
theorem o_J0_length_8abf5 : ∀ q ∈ t_J0_length_8abf5, am_ok vwCl q_SH ξ (q_E ξ β xs L) q_EN q_KD q_ML (cJ0_length_8abf5, 1, RJ0, "length", (some .int), []) q.1 q.2 := o_J0_length_8abf5_0
def t_J0_coder_7d493_0 : List (Nat × am_F) := [(0, im_ic 1 3), (3, im_if1 ib_eq 13 6), (6, im_al 0 7), (7, im_xc 10), (10, im_go 14), (13, im_ic 1 14), (14, im_retn .byte)]
set_option maxRecDepth 20000 in
theorem o_J0_coder_7d493_0 : ∀ q ∈ t_J0_coder_7d493_0, am_ok vwCl q_SH ξ (q_E ξ β xs L) q_EN q_KD q_ML (cJ0_coder_7d493, 1, RJ0, "coder", (some .byte), []) q.1 q.2 :=
  List.forall_mem_cons.mpr ⟨⟨mo_ic _ _, Or.inl (ok_gz (am_in3 189 rfl rfl) (by decide +kernel))⟩,
  List.forall_mem_cons.mpr ⟨⟨mo_if1 _ _ _, Or.inl (ok_if_eq (off := 10) (by decide) (by decide +kernel))⟩,
  List.forall_mem_cons.mpr ⟨⟨mo_al _ _, Or.inl (ok_aload_n (k := 0) rfl (by decide +kernel))⟩,
  List.forall_mem_cons.mpr ⟨⟨mo_xc _, Or.inl (ok_xc (am_in8 61 rfl rfl) (by decide +kernel))⟩,
  List.forall_mem_cons.mpr ⟨⟨mo_go _, Or.inl (ok_goto (off := 4) (by decide) (by decide +kernel))⟩,
  List.forall_mem_cons.mpr ⟨⟨mo_ic _ _, Or.inl (ok_iconst (n := 1) (v := 1) (by decide) (by decide +kernel))⟩,
  List.forall_mem_cons.mpr ⟨⟨mo_retn _, Or.inr (Or.inr (ok_retn rfl (by decide +kernel)))⟩,
  fun _ h => absurd h List.not_mem_nil⟩⟩⟩⟩⟩⟩⟩
def t_J0_coder_7d493 : List (Nat × am_F) := t_J0_coder_7d493_0
theorem o_J0_coder_7d493 : ∀ q ∈ t_J0_coder_7d493, am_ok vwCl q_SH ξ (q_E ξ β xs L) q_EN q_KD q_ML (cJ0_coder_7d493, 1, RJ0, "coder", (some .byte), []) q.1 q.2 := o_J0_coder_7d493_0
def t_J0_charAt_5068e_0 : List (Nat × am_F) := [(0, im_al 0 1), (1, im_invx 206 0 4), (4, im_if1 ib_eq 16 7), (7, im_al 0 8), (8, im_xr 11), (11, im_il 1 12), (12, im_invs 207 2 15), (15, im_retn .char)]
set_option maxRecDepth 20000 in
theorem o_J0_charAt_5068e_0 : ∀ q ∈ t_J0_charAt_5068e_0, am_ok vwCl q_SH ξ (q_E ξ β xs L) q_EN q_KD q_ML (cJ0_charAt_5068e, 2, RJ0, "charAt", (some .char), []) q.1 q.2 :=
  List.forall_mem_cons.mpr ⟨⟨mo_al _ _, Or.inl (ok_aload_n (k := 0) rfl (by decide +kernel))⟩,
  List.forall_mem_cons.mpr ⟨⟨mo_invx _ _ _, Or.inr (Or.inl (ok_invx rfl cw_J0_isLatin1_aae02 (by decide) (by decide) ml_J0_492 ci_J0_isLatin1_aae02 cv_J0_isLatin1_aae02 (show Cond.initialized (yJ0_isLatin1_aae02).cls ∈ am_ts from ci9_RJ0) ⟨by decide +kernel, by decide +kernel, by decide +kernel⟩ rfl (by decide +kernel)))⟩,
  List.forall_mem_cons.mpr ⟨⟨mo_if1 _ _ _, Or.inl (ok_if_eq (off := 12) (by decide) (by decide +kernel))⟩,
  List.forall_mem_cons.mpr ⟨⟨mo_al _ _, Or.inl (ok_aload_n (k := 0) rfl (by decide +kernel))⟩,
  List.forall_mem_cons.mpr ⟨⟨mo_xr _, Or.inl (ok_xr (am_in8 60 rfl rfl) (by decide +kernel))⟩,
  List.forall_mem_cons.mpr ⟨⟨mo_il _ _, Or.inl (ok_iload_n (k := 1) rfl (by decide +kernel))⟩,
  List.forall_mem_cons.mpr ⟨⟨mo_invs _ _ _, Or.inr (Or.inl (ok_invs cw_J1_charAt_3b067 (by decide) (by decide) ml_J0_495 cs_J1_charAt_3b067 (show Cond.initialized (yJ1_charAt_3b067).cls ∈ am_ts from ci9_RJ1) ⟨by decide +kernel, by decide +kernel, by decide +kernel⟩ rfl (by decide +kernel)))⟩,
  List.forall_mem_cons.mpr ⟨⟨mo_retn _, Or.inr (Or.inr (ok_retn rfl (by decide +kernel)))⟩,
  fun _ h => absurd h List.not_mem_nil⟩⟩⟩⟩⟩⟩⟩⟩
def t_J0_charAt_5068e : List (Nat × am_F) := t_J0_charAt_5068e_0
theorem o_J0_charAt_5068e : ∀ q ∈ t_J0_charAt_5068e, am_ok vwCl q_SH ξ (q_E ξ β xs L) q_EN q_KD q_ML (cJ0_charAt_5068e, 2, RJ0, "charAt", (some .char), []) q.1 q.2 := o_J0_charAt_5068e_0
def t_J0_isLatin1_aae02_0 : List (Nat × am_F) := [(0, im_ic 1 3), (3, im_if1 ib_eq 17 6), (6, im_al 0 7), (7, im_xc 10), (10, im_if1 ib_ne 17 13), (13, im_ic 1 14), (14, im_go 18), (17, im_ic 0 18), (18, im_retz)]
set_option maxRecDepth 20000 in
theorem o_J0_isLatin1_aae02_0 : ∀ q ∈ t_J0_isLatin1_aae02_0, am_ok vwCl q_SH ξ (q_E ξ β xs L) q_EN q_KD q_ML (cJ0_isLatin1_aae02, 1, RJ0, "isLatin1", (some .boolean), []) q.1 q.2 :=
  List.forall_mem_cons.mpr ⟨⟨mo_ic _ _, Or.inl (ok_gz (am_in3 189 rfl rfl) (by decide +kernel))⟩,
  List.forall_mem_cons.mpr ⟨⟨mo_if1 _ _ _, Or.inl (ok_if_eq (off := 14) (by decide) (by decide +kernel))⟩,
  List.forall_mem_cons.mpr ⟨⟨mo_al _ _, Or.inl (ok_aload_n (k := 0) rfl (by decide +kernel))⟩,
  List.forall_mem_cons.mpr ⟨⟨mo_xc _, Or.inl (ok_xc (am_in8 61 rfl rfl) (by decide +kernel))⟩,
  List.forall_mem_cons.mpr ⟨⟨mo_if1 _ _ _, Or.inl (ok_if_ne (off := 7) (by decide) (by decide +kernel))⟩,
  List.forall_mem_cons.mpr ⟨⟨mo_ic _ _, Or.inl (ok_iconst (n := 1) (v := 1) (by decide) (by decide +kernel))⟩,
  List.forall_mem_cons.mpr ⟨⟨mo_go _, Or.inl (ok_goto (off := 4) (by decide) (by decide +kernel))⟩,
  List.forall_mem_cons.mpr ⟨⟨mo_ic _ _, Or.inl (ok_iconst (n := 0) (v := 0) (by decide) (by decide +kernel))⟩,
  List.forall_mem_cons.mpr ⟨⟨mo_retz, Or.inr (Or.inr (ok_retz rfl (by decide +kernel)))⟩,
  fun _ h => absurd h List.not_mem_nil⟩⟩⟩⟩⟩⟩⟩⟩⟩
def t_J0_isLatin1_aae02 : List (Nat × am_F) := t_J0_isLatin1_aae02_0
theorem o_J0_isLatin1_aae02 : ∀ q ∈ t_J0_isLatin1_aae02, am_ok vwCl q_SH ξ (q_E ξ β xs L) q_EN q_KD q_ML (cJ0_isLatin1_aae02, 1, RJ0, "isLatin1", (some .boolean), []) q.1 q.2 := o_J0_isLatin1_aae02_0
def t_J1_charAt_3b067_0 : List (Nat × am_F) := [(0, im_il 1 1), (1, im_al 0 2), (2, im_xl 3), (3, im_invs 208 2 6), (6, im_al 0 7), (7, im_il 1 8), (8, im_xb 9), (9, im_ic 255 12), (12, im_bin (fun x y => x &&& y) 13), (13, im_un (fun x => (x.toUInt32 % 65536).toInt32) 14), (14, im_retn .char)]
set_option maxRecDepth 20000 in
theorem o_J1_charAt_3b067_0 : ∀ q ∈ t_J1_charAt_3b067_0, am_ok vwCl q_SH ξ (q_E ξ β xs L) q_EN q_KD q_ML (cJ1_charAt_3b067, 2, RJ1, "charAt", (some .char), []) q.1 q.2 :=
  List.forall_mem_cons.mpr ⟨⟨mo_il _ _, Or.inl (ok_iload_n (k := 1) rfl (by decide +kernel))⟩,
  List.forall_mem_cons.mpr ⟨⟨mo_al _ _, Or.inl (ok_aload_n (k := 0) rfl (by decide +kernel))⟩,
  List.forall_mem_cons.mpr ⟨⟨mo_xl _, Or.inl (ok_xl (by decide +kernel))⟩,
  List.forall_mem_cons.mpr ⟨⟨mo_invs _ _ _, Or.inr (Or.inl (ok_invs cw_J0_checkIndex_df160 (by decide) (by decide) ml_J1_9 cs_J0_checkIndex_df160 (show Cond.initialized (yJ0_checkIndex_df160).cls ∈ am_ts from ci9_RJ0) ⟨by decide +kernel, by decide +kernel, by decide +kernel⟩ rfl (by decide +kernel)))⟩,
  List.forall_mem_cons.mpr ⟨⟨mo_al _ _, Or.inl (ok_aload_n (k := 0) rfl (by decide +kernel))⟩,
  List.forall_mem_cons.mpr ⟨⟨mo_il _ _, Or.inl (ok_iload_n (k := 1) rfl (by decide +kernel))⟩,
  List.forall_mem_cons.mpr ⟨⟨mo_xb _, Or.inl (ok_xb (by decide +kernel))⟩,
  List.forall_mem_cons.mpr ⟨⟨mo_ic _ _, Or.inl (ok_sipush (n := 255) (v := 255) (by decide) (by decide +kernel))⟩,
  List.forall_mem_cons.mpr ⟨⟨mo_bin _ _, Or.inl (ok_iand (by decide +kernel))⟩,
  List.forall_mem_cons.mpr ⟨⟨mo_un _ _, Or.inl (ok_i2c (by decide +kernel))⟩,
  List.forall_mem_cons.mpr ⟨⟨mo_retn _, Or.inr (Or.inr (ok_retn rfl (by decide +kernel)))⟩,
  fun _ h => absurd h List.not_mem_nil⟩⟩⟩⟩⟩⟩⟩⟩⟩⟩⟩
def t_J1_charAt_3b067 : List (Nat × am_F) := t_J1_charAt_3b067_0
theorem o_J1_charAt_3b067 : ∀ q ∈ t_J1_charAt_3b067, am_ok vwCl q_SH ξ (q_E ξ β xs L) q_EN q_KD q_ML (cJ1_charAt_3b067, 2, RJ1, "charAt", (some .char), []) q.1 q.2 := o_J1_charAt_3b067_0
def t_J0_checkIndex_df160_0 (β : Bool) : List (Nat × am_F) := [(0, im_il 0 1), (1, im_il 1 2), (2, im_fm β 5), (5, im_invs 209 3 8), (8, im_pop 9), (9, im_ret0e)]
set_option maxRecDepth 20000 in
theorem o_J0_checkIndex_df160_0 : ∀ q ∈ t_J0_checkIndex_df160_0 β, am_ok vwCl q_SH ξ (q_E ξ β xs L) q_EN q_KD q_ML (cJ0_checkIndex_df160, 2, RJ0, "checkIndex", none, []) q.1 q.2 :=
  List.forall_mem_cons.mpr ⟨⟨mo_il _ _, Or.inl (ok_iload_n (k := 0) rfl (by decide +kernel))⟩,
  List.forall_mem_cons.mpr ⟨⟨mo_il _ _, Or.inl (ok_iload_n (k := 1) rfl (by decide +kernel))⟩,
  List.forall_mem_cons.mpr ⟨⟨mo_fm _ _, Or.inl (ok_fm (pc := 2) (am_in3 205 rfl rfl) (by decide +kernel))⟩,
  List.forall_mem_cons.mpr ⟨⟨mo_invs _ _ _, Or.inr (Or.inl (ok_invs cw_J3_checkIndex_8e157 (by decide) (by decide) ml_J0_1059 cs_J3_checkIndex_8e157 (show Cond.initialized (yJ3_checkIndex_8e157).cls ∈ am_ts from ci9_RJ3) ⟨by decide +kernel, by decide +kernel, by decide +kernel⟩ rfl (by decide +kernel)))⟩,
  List.forall_mem_cons.mpr ⟨⟨mo_pop _, Or.inl (ok_pop (by decide +kernel))⟩,
  List.forall_mem_cons.mpr ⟨⟨mo_ret0e, Or.inr (Or.inr (ok_ret0 rfl (by decide +kernel)))⟩,
  fun _ h => absurd h List.not_mem_nil⟩⟩⟩⟩⟩⟩
def t_J0_checkIndex_df160 (β : Bool) : List (Nat × am_F) := t_J0_checkIndex_df160_0 β
theorem o_J0_checkIndex_df160 : ∀ q ∈ t_J0_checkIndex_df160 β, am_ok vwCl q_SH ξ (q_E ξ β xs L) q_EN q_KD q_ML (cJ0_checkIndex_df160, 2, RJ0, "checkIndex", none, []) q.1 q.2 := o_J0_checkIndex_df160_0
def t_J3_checkIndex_8e157_0 : List (Nat × am_F) := [(0, im_il 0 1), (1, im_if1 ib_lt 9 4), (4, im_il 0 5), (5, im_il 1 6), (6, im_if2 ic_lt 16 9), (16, im_il 0 17), (17, im_reti)]
set_option maxRecDepth 20000 in
theorem o_J3_checkIndex_8e157_0 : ∀ q ∈ t_J3_checkIndex_8e157_0, am_ok vwCl q_SH ξ (q_E ξ β xs L) q_EN q_KD q_ML (cJ3_checkIndex_8e157, 3, RJ3, "checkIndex", (some .int), []) q.1 q.2 :=
  List.forall_mem_cons.mpr ⟨⟨mo_il _ _, Or.inl (ok_iload_n (k := 0) rfl (by decide +kernel))⟩,
  List.forall_mem_cons.mpr ⟨⟨mo_if1 _ _ _, Or.inl (ok_if_lt (off := 8) (by decide) (by decide +kernel))⟩,
  List.forall_mem_cons.mpr ⟨⟨mo_il _ _, Or.inl (ok_iload_n (k := 0) rfl (by decide +kernel))⟩,
  List.forall_mem_cons.mpr ⟨⟨mo_il _ _, Or.inl (ok_iload_n (k := 1) rfl (by decide +kernel))⟩,
  List.forall_mem_cons.mpr ⟨⟨mo_if2 _ _ _, Or.inl (ok_icmp_lt (off := 10) (by decide) (by decide +kernel))⟩,
  List.forall_mem_cons.mpr ⟨⟨mo_il _ _, Or.inl (ok_iload_n (k := 0) rfl (by decide +kernel))⟩,
  List.forall_mem_cons.mpr ⟨⟨mo_reti, Or.inr (Or.inr (ok_reti rfl (by decide +kernel)))⟩,
  fun _ h => absurd h List.not_mem_nil⟩⟩⟩⟩⟩⟩⟩
def t_J3_checkIndex_8e157 : List (Nat × am_F) := t_J3_checkIndex_8e157_0
theorem o_J3_checkIndex_8e157 : ∀ q ∈ t_J3_checkIndex_8e157, am_ok vwCl q_SH ξ (q_E ξ β xs L) q_EN q_KD q_ML (cJ3_checkIndex_8e157, 3, RJ3, "checkIndex", (some .int), []) q.1 q.2 := o_J3_checkIndex_8e157_0
def t_J0_indexOf_0f7a4_0 : List (Nat × am_F) := [(0, im_al 0 1), (1, im_il 1 2), (2, im_ic 0 3), (3, im_invx 211 2 6), (6, im_reti)]
set_option maxRecDepth 20000 in
theorem o_J0_indexOf_0f7a4_0 : ∀ q ∈ t_J0_indexOf_0f7a4_0, am_ok vwCl q_SH ξ (q_E ξ β xs L) q_EN q_KD q_ML (cJ0_indexOf_0f7a4, 2, RJ0, "indexOf", (some .int), []) q.1 q.2 :=
  List.forall_mem_cons.mpr ⟨⟨mo_al _ _, Or.inl (ok_aload_n (k := 0) rfl (by decide +kernel))⟩,
  List.forall_mem_cons.mpr ⟨⟨mo_il _ _, Or.inl (ok_iload_n (k := 1) rfl (by decide +kernel))⟩,
  List.forall_mem_cons.mpr ⟨⟨mo_ic _ _, Or.inl (ok_iconst (n := 0) (v := 0) (by decide) (by decide +kernel))⟩,
  List.forall_mem_cons.mpr ⟨⟨mo_invx _ _ _, Or.inr (Or.inl (ok_invx rfl cw_J0_indexOf_7cf53 (by decide) (by decide) ml_J0_633 ci_J0_indexOf_7cf53 cv_J0_indexOf_7cf53 (show Cond.initialized (yJ0_indexOf_7cf53).cls ∈ am_ts from ci9_RJ0) ⟨by decide +kernel, by decide +kernel, by decide +kernel⟩ rfl (by decide +kernel)))⟩,
  List.forall_mem_cons.mpr ⟨⟨mo_reti, Or.inr (Or.inr (ok_reti rfl (by decide +kernel)))⟩,
  fun _ h => absurd h List.not_mem_nil⟩⟩⟩⟩⟩
def t_J0_indexOf_0f7a4 : List (Nat × am_F) := t_J0_indexOf_0f7a4_0
theorem o_J0_indexOf_0f7a4 : ∀ q ∈ t_J0_indexOf_0f7a4, am_ok vwCl q_SH ξ (q_E ξ β xs L) q_EN q_KD q_ML (cJ0_indexOf_0f7a4, 2, RJ0, "indexOf", (some .int), []) q.1 q.2 := o_J0_indexOf_0f7a4_0
def t_J0_indexOf_7cf53_0 : List (Nat × am_F) := [(0, im_al 0 1), (1, im_invx 206 0 4), (4, im_if1 ib_eq 23 7), (7, im_al 0 8), (8, im_xr 11), (11, im_il 1 12), (12, im_il 2 13), (13, im_al 0 14), (14, im_invx 203 0 17), (17, im_invs 212 4 20), (20, im_go 36), (36, im_reti)]
set_option maxRecDepth 20000 in
theorem o_J0_indexOf_7cf53_0 : ∀ q ∈ t_J0_indexOf_7cf53_0, am_ok vwCl q_SH ξ (q_E ξ β xs L) q_EN q_KD q_ML (cJ0_indexOf_7cf53, 3, RJ0, "indexOf", (some .int), []) q.1 q.2 :=
  List.forall_mem_cons.mpr ⟨⟨mo_al _ _, Or.inl (ok_aload_n (k := 0) rfl (by decide +kernel))⟩,
  List.forall_mem_cons.mpr ⟨⟨mo_invx _ _ _, Or.inr (Or.inl (ok_invx rfl cw_J0_isLatin1_aae02 (by decide) (by decide) ml_J0_492 ci_J0_isLatin1_aae02 cv_J0_isLatin1_aae02 (show Cond.initialized (yJ0_isLatin1_aae02).cls ∈ am_ts from ci9_RJ0) ⟨by decide +kernel, by decide +kernel, by decide +kernel⟩ rfl (by decide +kernel)))⟩,
  List.forall_mem_cons.mpr ⟨⟨mo_if1 _ _ _, Or.inl (ok_if_eq (off := 19) (by decide) (by decide +kernel))⟩,
  List.forall_mem_cons.mpr ⟨⟨mo_al _ _, Or.inl (ok_aload_n (k := 0) rfl (by decide +kernel))⟩,
  List.forall_mem_cons.mpr ⟨⟨mo_xr _, Or.inl (ok_xr (am_in8 60 rfl rfl) (by decide +kernel))⟩,
  List.forall_mem_cons.mpr ⟨⟨mo_il _ _, Or.inl (ok_iload_n (k := 1) rfl (by decide +kernel))⟩,
  List.forall_mem_cons.mpr ⟨⟨mo_il _ _, Or.inl (ok_iload_n (k := 2) rfl (by decide +kernel))⟩,
  List.forall_mem_cons.mpr ⟨⟨mo_al _ _, Or.inl (ok_aload_n (k := 0) rfl (by decide +kernel))⟩,
  List.forall_mem_cons.mpr ⟨⟨mo_invx _ _ _, Or.inr (Or.inl (ok_invx rfl cw_J0_length_8abf5 (by decide) (by decide) ml_J0_505 ci_J0_length_8abf5 cv_J0_length_8abf5 (show Cond.initialized (yJ0_length_8abf5).cls ∈ am_ts from ci9_RJ0) ⟨by decide +kernel, by decide +kernel, by decide +kernel⟩ rfl (by decide +kernel)))⟩,
  List.forall_mem_cons.mpr ⟨⟨mo_invs _ _ _, Or.inr (Or.inl (ok_invs cw_J1_indexOf_4cfef (by decide) (by decide) ml_J0_637 cs_J1_indexOf_4cfef (show Cond.initialized (yJ1_indexOf_4cfef).cls ∈ am_ts from ci9_RJ1) ⟨by decide +kernel, by decide +kernel, by decide +kernel⟩ rfl (by decide +kernel)))⟩,
  List.forall_mem_cons.mpr ⟨⟨mo_go _, Or.inl (ok_goto (off := 16) (by decide) (by decide +kernel))⟩,
  List.forall_mem_cons.mpr ⟨⟨mo_reti, Or.inr (Or.inr (ok_reti rfl (by decide +kernel)))⟩,
  fun _ h => absurd h List.not_mem_nil⟩⟩⟩⟩⟩⟩⟩⟩⟩⟩⟩⟩
def t_J0_indexOf_7cf53 : List (Nat × am_F) := t_J0_indexOf_7cf53_0
theorem o_J0_indexOf_7cf53 : ∀ q ∈ t_J0_indexOf_7cf53, am_ok vwCl q_SH ξ (q_E ξ β xs L) q_EN q_KD q_ML (cJ0_indexOf_7cf53, 3, RJ0, "indexOf", (some .int), []) q.1 q.2 := o_J0_indexOf_7cf53_0
def t_J1_indexOf_4cfef_0 : List (Nat × am_F) := [(0, im_il 1 1), (1, im_invs 213 1 4), (4, im_if1 ib_ne 9 7), (7, im_ic (-1) 8), (8, im_reti), (9, im_il 2 10), (10, im_ic 0 11), (11, im_mm (fun x y => if x < y then y else x) 14), (14, im_is 2 15), (15, im_il 3 16), (16, im_al 0 17), (17, im_xl 18), (18, im_mm (fun x y => if y < x then y else x) 21), (21, im_is 3 22), (22, im_il 2 23), (23, im_il 3 24), (24, im_if2 ic_lt 29 27), (27, im_ic (-1) 28), (28, im_reti), (29, im_al 0 30)]
set_option maxRecDepth 20000 in
theorem o_J1_indexOf_4cfef_0 : ∀ q ∈ t_J1_indexOf_4cfef_0, am_ok vwCl q_SH ξ (q_E ξ β xs L) q_EN q_KD q_ML (cJ1_indexOf_4cfef, 4, RJ1, "indexOf", (some .int), []) q.1 q.2 :=
  List.forall_mem_cons.mpr ⟨⟨mo_il _ _, Or.inl (ok_iload_n (k := 1) rfl (by decide +kernel))⟩,
  List.forall_mem_cons.mpr ⟨⟨mo_invs _ _ _, Or.inr (Or.inl (ok_invs cw_J1_canEncode_9a6ad (by decide) (by decide) ml_J1_88 cs_J1_canEncode_9a6ad (show Cond.initialized (yJ1_canEncode_9a6ad).cls ∈ am_ts from ci9_RJ1) ⟨by decide +kernel, by decide +kernel, by decide +kernel⟩ rfl (by decide +kernel)))⟩,
  List.forall_mem_cons.mpr ⟨⟨mo_if1 _ _ _, Or.inl (ok_if_ne (off := 5) (by decide) (by decide +kernel))⟩,
  List.forall_mem_cons.mpr ⟨⟨mo_ic _ _, Or.inl (ok_iconst (n := (-1)) (v := (-1)) (by decide) (by decide +kernel))⟩,
  List.forall_mem_cons.mpr ⟨⟨mo_reti, Or.inr (Or.inr (ok_reti rfl (by decide +kernel)))⟩,
  List.forall_mem_cons.mpr ⟨⟨mo_il _ _, Or.inl (ok_iload_n (k := 2) rfl (by decide +kernel))⟩,
  List.forall_mem_cons.mpr ⟨⟨mo_ic _ _, Or.inl (ok_iconst (n := 0) (v := 0) (by decide) (by decide +kernel))⟩,
  List.forall_mem_cons.mpr ⟨⟨mo_mm _ _, Or.inl (ok_mmax (am_in4 12 rfl rfl) (am_in4 13 rfl rfl) (am_in1 18 rfl rfl) (am_in4 14 rfl rfl) (by decide +kernel))⟩,
  List.forall_mem_cons.mpr ⟨⟨mo_is _ _, Or.inl (ok_istore_n (k := 2) rfl (by decide) (by decide +kernel))⟩,
  List.forall_mem_cons.mpr ⟨⟨mo_il _ _, Or.inl (ok_iload_n (k := 3) rfl (by decide +kernel))⟩,
  List.forall_mem_cons.mpr ⟨⟨mo_al _ _, Or.inl (ok_aload_n (k := 0) rfl (by decide +kernel))⟩,
  List.forall_mem_cons.mpr ⟨⟨mo_xl _, Or.inl (ok_xl (by decide +kernel))⟩,
  List.forall_mem_cons.mpr ⟨⟨mo_mm _ _, Or.inl (ok_mmin (am_in4 15 rfl rfl) (am_in3 167 rfl rfl) (am_in1 18 rfl rfl) (am_in3 168 rfl rfl) (by decide +kernel))⟩,
  List.forall_mem_cons.mpr ⟨⟨mo_is _ _, Or.inl (ok_istore_n (k := 3) rfl (by decide) (by decide +kernel))⟩,
  List.forall_mem_cons.mpr ⟨⟨mo_il _ _, Or.inl (ok_iload_n (k := 2) rfl (by decide +kernel))⟩,
  List.forall_mem_cons.mpr ⟨⟨mo_il _ _, Or.inl (ok_iload_n (k := 3) rfl (by decide +kernel))⟩,
  List.forall_mem_cons.mpr ⟨⟨mo_if2 _ _ _, Or.inl (ok_icmp_lt (off := 5) (by decide) (by decide +kernel))⟩,
  List.forall_mem_cons.mpr ⟨⟨mo_ic _ _, Or.inl (ok_iconst (n := (-1)) (v := (-1)) (by decide) (by decide +kernel))⟩,
  List.forall_mem_cons.mpr ⟨⟨mo_reti, Or.inr (Or.inr (ok_reti rfl (by decide +kernel)))⟩,
  List.forall_mem_cons.mpr ⟨⟨mo_al _ _, Or.inl (ok_aload_n (k := 0) rfl (by decide +kernel))⟩,
  fun _ h => absurd h List.not_mem_nil⟩⟩⟩⟩⟩⟩⟩⟩⟩⟩⟩⟩⟩⟩⟩⟩⟩⟩⟩⟩
def t_J1_indexOf_4cfef_1 : List (Nat × am_F) := [(30, im_il 1 31), (31, im_il 2 32), (32, im_il 3 33), (33, im_invs 214 4 36), (36, im_reti)]
set_option maxRecDepth 20000 in
theorem o_J1_indexOf_4cfef_1 : ∀ q ∈ t_J1_indexOf_4cfef_1, am_ok vwCl q_SH ξ (q_E ξ β xs L) q_EN q_KD q_ML (cJ1_indexOf_4cfef, 4, RJ1, "indexOf", (some .int), []) q.1 q.2 :=
  List.forall_mem_cons.mpr ⟨⟨mo_il _ _, Or.inl (ok_iload_n (k := 1) rfl (by decide +kernel))⟩,
  List.forall_mem_cons.mpr ⟨⟨mo_il _ _, Or.inl (ok_iload_n (k := 2) rfl (by decide +kernel))⟩,
  List.forall_mem_cons.mpr ⟨⟨mo_il _ _, Or.inl (ok_iload_n (k := 3) rfl (by decide +kernel))⟩,
  List.forall_mem_cons.mpr ⟨⟨mo_invs _ _ _, Or.inr (Or.inl (ok_invs cw_J1_indexOfChar_4cfef (by decide) (by decide) ml_J1_95 cs_J1_indexOfChar_4cfef (show Cond.initialized (yJ1_indexOfChar_4cfef).cls ∈ am_ts from ci9_RJ1) ⟨by decide +kernel, by decide +kernel, by decide +kernel⟩ rfl (by decide +kernel)))⟩,
  List.forall_mem_cons.mpr ⟨⟨mo_reti, Or.inr (Or.inr (ok_reti rfl (by decide +kernel)))⟩,
  fun _ h => absurd h List.not_mem_nil⟩⟩⟩⟩⟩
def t_J1_indexOf_4cfef : List (Nat × am_F) := t_J1_indexOf_4cfef_0 ++ (t_J1_indexOf_4cfef_1)
theorem o_J1_indexOf_4cfef : ∀ q ∈ t_J1_indexOf_4cfef, am_ok vwCl q_SH ξ (q_E ξ β xs L) q_EN q_KD q_ML (cJ1_indexOf_4cfef, 4, RJ1, "indexOf", (some .int), []) q.1 q.2 := List.forall_mem_append.mpr ⟨o_J1_indexOf_4cfef_0, o_J1_indexOf_4cfef_1⟩
def t_J1_canEncode_9a6ad_0 : List (Nat × am_F) := [(0, im_il 0 1), (1, im_if1 ib_lt 15 4), (4, im_il 0 5), (5, im_ic 255 8), (8, im_if2 ic_gt 15 11), (11, im_ic 1 12), (12, im_go 16), (15, im_ic 0 16), (16, im_retz)]
set_option maxRecDepth 20000 in
theorem o_J1_canEncode_9a6ad_0 : ∀ q ∈ t_J1_canEncode_9a6ad_0, am_ok vwCl q_SH ξ (q_E ξ β xs L) q_EN q_KD q_ML (cJ1_canEncode_9a6ad, 1, RJ1, "canEncode", (some .boolean), []) q.1 q.2 :=
  List.forall_mem_cons.mpr ⟨⟨mo_il _ _, Or.inl (ok_iload_n (k := 0) rfl (by decide +kernel))⟩,
  List.forall_mem_cons.mpr ⟨⟨mo_if1 _ _ _, Or.inl (ok_if_lt (off := 14) (by decide) (by decide +kernel))⟩,
  List.forall_mem_cons.mpr ⟨⟨mo_il _ _, Or.inl (ok_iload_n (k := 0) rfl (by decide +kernel))⟩,
  List.forall_mem_cons.mpr ⟨⟨mo_ic _ _, Or.inl (ok_sipush (n := 255) (v := 255) (by decide) (by decide +kernel))⟩,
  List.forall_mem_cons.mpr ⟨⟨mo_if2 _ _ _, Or.inl (ok_icmp_gt (off := 7) (by decide) (by decide +kernel))⟩,
  List.forall_mem_cons.mpr ⟨⟨mo_ic _ _, Or.inl (ok_iconst (n := 1) (v := 1) (by decide) (by decide +kernel))⟩,
  List.forall_mem_cons.mpr ⟨⟨mo_go _, Or.inl (ok_goto (off := 4) (by decide) (by decide +kernel))⟩,
  List.forall_mem_cons.mpr ⟨⟨mo_ic _ _, Or.inl (ok_iconst (n := 0) (v := 0) (by decide) (by decide +kernel))⟩,
  List.forall_mem_cons.mpr ⟨⟨mo_retz, Or.inr (Or.inr (ok_retz rfl (by decide +kernel)))⟩,
  fun _ h => absurd h List.not_mem_nil⟩⟩⟩⟩⟩⟩⟩⟩⟩
def t_J1_canEncode_9a6ad : List (Nat × am_F) := t_J1_canEncode_9a6ad_0
theorem o_J1_canEncode_9a6ad : ∀ q ∈ t_J1_canEncode_9a6ad, am_ok vwCl q_SH ξ (q_E ξ β xs L) q_EN q_KD q_ML (cJ1_canEncode_9a6ad, 1, RJ1, "canEncode", (some .boolean), []) q.1 q.2 := o_J1_canEncode_9a6ad_0
def t_J1_indexOfChar_4cfef_0 : List (Nat × am_F) := [(0, im_il 1 1), (1, im_un (fun x => x.toInt8.toInt32) 2), (2, im_is 4 4), (4, im_il 2 5), (5, im_is 5 7), (7, im_il 5 9), (9, im_il 3 10), (10, im_if2 ic_ge 31 13), (13, im_al 0 14), (14, im_il 5 16), (16, im_xb 17), (17, im_il 4 19), (19, im_if2 ic_ne 25 22), (22, im_il 5 24), (24, im_reti), (25, im_iinc 5 1 28), (28, im_go 7), (31, im_ic (-1) 32), (32, im_reti)]
set_option maxRecDepth 20000 in
theorem o_J1_indexOfChar_4cfef_0 : ∀ q ∈ t_J1_indexOfChar_4cfef_0, am_ok vwCl q_SH ξ (q_E ξ β xs L) q_EN q_KD q_ML (cJ1_indexOfChar_4cfef, 6, RJ1, "indexOfChar", (some .int), []) q.1 q.2 :=
  List.forall_mem_cons.mpr ⟨⟨mo_il _ _, Or.inl (ok_iload_n (k := 1) rfl (by decide +kernel))⟩,
  List.forall_mem_cons.mpr ⟨⟨mo_un _ _, Or.inl (ok_i2b (by decide +kernel))⟩,
  List.forall_mem_cons.mpr ⟨⟨mo_is _ _, Or.inl (ok_istore (by decide) (by decide +kernel))⟩,
  List.forall_mem_cons.mpr ⟨⟨mo_il _ _, Or.inl (ok_iload_n (k := 2) rfl (by decide +kernel))⟩,
  List.forall_mem_cons.mpr ⟨⟨mo_is _ _, Or.inl (ok_istore (by decide) (by decide +kernel))⟩,
  List.forall_mem_cons.mpr ⟨⟨mo_il _ _, Or.inl (ok_iload (by decide +kernel))⟩,
  List.forall_mem_cons.mpr ⟨⟨mo_il _ _, Or.inl (ok_iload_n (k := 3) rfl (by decide +kernel))⟩,
  List.forall_mem_cons.mpr ⟨⟨mo_if2 _ _ _, Or.inl (ok_icmp_ge (off := 21) (by decide) (by decide +kernel))⟩,
  List.forall_mem_cons.mpr ⟨⟨mo_al _ _, Or.inl (ok_aload_n (k := 0) rfl (by decide +kernel))⟩,
  List.forall_mem_cons.mpr ⟨⟨mo_il _ _, Or.inl (ok_iload (by decide +kernel))⟩,
  List.forall_mem_cons.mpr ⟨⟨mo_xb _, Or.inl (ok_xb (by decide +kernel))⟩,
  List.forall_mem_cons.mpr ⟨⟨mo_il _ _, Or.inl (ok_iload (by decide +kernel))⟩,
  List.forall_mem_cons.mpr ⟨⟨mo_if2 _ _ _, Or.inl (ok_icmp_ne (off := 6) (by decide) (by decide +kernel))⟩,
  List.forall_mem_cons.mpr ⟨⟨mo_il _ _, Or.inl (ok_iload (by decide +kernel))⟩,
  List.forall_mem_cons.mpr ⟨⟨mo_reti, Or.inr (Or.inr (ok_reti rfl (by decide +kernel)))⟩,
  List.forall_mem_cons.mpr ⟨⟨mo_iinc _ _ _, Or.inl (ok_iinc (n := 1) (v := 1) (by decide) (by decide) (by decide +kernel))⟩,
  List.forall_mem_cons.mpr ⟨⟨mo_go _, Or.inl (ok_goto (off := (-21)) (by decide) (by decide +kernel))⟩,
  List.forall_mem_cons.mpr ⟨⟨mo_ic _ _, Or.inl (ok_iconst (n := (-1)) (v := (-1)) (by decide) (by decide +kernel))⟩,
  List.forall_mem_cons.mpr ⟨⟨mo_reti, Or.inr (Or.inr (ok_reti rfl (by decide +kernel)))⟩,
  fun _ h => absurd h List.not_mem_nil⟩⟩⟩⟩⟩⟩⟩⟩⟩⟩⟩⟩⟩⟩⟩⟩⟩⟩⟩
def t_J1_indexOfChar_4cfef : List (Nat × am_F) := t_J1_indexOfChar_4cfef_0
theorem o_J1_indexOfChar_4cfef : ∀ q ∈ t_J1_indexOfChar_4cfef, am_ok vwCl q_SH ξ (q_E ξ β xs L) q_EN q_KD q_ML (cJ1_indexOfChar_4cfef, 6, RJ1, "indexOfChar", (some .int), []) q.1 q.2 := o_J1_indexOfChar_4cfef_0
end Tab

section Tab
variable {ξ : Nat → Nat} {β : Bool} {xs : Nat → Int32} {L : Nat}
def t_X11_runs_0 : List (Nat × am_F) := [(0, im_al 0 1), (1, im_il 1 2), (2, im_il 2 3), (3, im_il 3 4), (4, im_il 4 6), (6, im_inv q_SH 11 145 4 9), (9, im_ic 0 10), (10, im_is 5 12), (12, im_il 5 14), (14, im_al 0 15), (15, im_gi q_SH 11 73 18), (18, im_if2 ic_ge 100 21), (21, im_al 0 22), (22, im_al 0 23), (23, im_gr q_SH 11 75 26), (26, im_il 5 28), (28, im_ald q_SH .int 29), (29, im_pi q_SH 11 76 32), (32, im_al 0 33), (33, im_al 0 34)]
set_option maxRecDepth 20000 in
theorem o_X11_runs_0 : ∀ q ∈ t_X11_runs_0, am_ok vwCl q_SH ξ (q_E ξ β xs L) q_EN q_KD q_ML (cX11_runs, 7, RX11, "runs", none, []) q.1 q.2 :=
  List.forall_mem_cons.mpr ⟨⟨mo_al _ _, Or.inl (ok_aload_n (k := 0) rfl (by decide +kernel))⟩,
  List.forall_mem_cons.mpr ⟨⟨mo_il _ _, Or.inl (ok_iload_n (k := 1) rfl (by decide +kernel))⟩,
  List.forall_mem_cons.mpr ⟨⟨mo_il _ _, Or.inl (ok_iload_n (k := 2) rfl (by decide +kernel))⟩,
  List.forall_mem_cons.mpr ⟨⟨mo_il _ _, Or.inl (ok_iload_n (k := 3) rfl (by decide +kernel))⟩,
  List.forall_mem_cons.mpr ⟨⟨mo_il _ _, Or.inl (ok_iload (by decide +kernel))⟩,
  List.forall_mem_cons.mpr ⟨⟨mo_inv _ _ _ _ _, Or.inr (Or.inl (ok_inv (T := TX11) (N := 93) rfl cw_X11_starts (by decide) (by decide) ml_X11_369 ci_X11_starts cv_X11_starts (show Cond.initialized (yX11_starts).cls ∈ am_ts from ci9_RX11) ⟨by decide +kernel, by decide +kernel, by decide +kernel⟩ rfl (by decide +kernel)))⟩,
  List.forall_mem_cons.mpr ⟨⟨mo_ic _ _, Or.inl (ok_iconst (n := 0) (v := 0) (by decide) (by decide +kernel))⟩,
  List.forall_mem_cons.mpr ⟨⟨mo_is _ _, Or.inl (ok_istore (by decide) (by decide +kernel))⟩,
  List.forall_mem_cons.mpr ⟨⟨mo_il _ _, Or.inl (ok_iload (by decide +kernel))⟩,
  List.forall_mem_cons.mpr ⟨⟨mo_al _ _, Or.inl (ok_aload_n (k := 0) rfl (by decide +kernel))⟩,
  List.forall_mem_cons.mpr ⟨⟨mo_gi _ _ _ _, Or.inl (ok_gi (C := RX11) (T := TX11) (N := 93) (ci := 11) (k := 73) rfl inX11 (by decide) fl_X11_358 (by decide +kernel) (by decide +kernel))⟩,
  List.forall_mem_cons.mpr ⟨⟨mo_if2 _ _ _, Or.inl (ok_icmp_ge (off := 82) (by decide) (by decide +kernel))⟩,
  List.forall_mem_cons.mpr ⟨⟨mo_al _ _, Or.inl (ok_aload_n (k := 0) rfl (by decide +kernel))⟩,
  List.forall_mem_cons.mpr ⟨⟨mo_al _ _, Or.inl (ok_aload_n (k := 0) rfl (by decide +kernel))⟩,
  List.forall_mem_cons.mpr ⟨⟨mo_gr _ _ _ _, Or.inl (ok_gr (C := RX11) (T := TX11) (N := 93) (ci := 11) (k := 75) rfl inX11 (by decide) fl_X11_244 (by decide +kernel) (by decide +kernel))⟩,
  List.forall_mem_cons.mpr ⟨⟨mo_il _ _, Or.inl (ok_iload (by decide +kernel))⟩,
  List.forall_mem_cons.mpr ⟨⟨mo_ald _ _ _, Or.inl (ok_iald (by decide +kernel))⟩,
  List.forall_mem_cons.mpr ⟨⟨mo_pi _ _ _ _, Or.inl (ok_pi (ty := .int) (C := RX11) (T := TX11) (N := 93) (ci := 11) (k := 76) rfl inX11 (by decide) fl_X11_373 (by decide +kernel) tyX11 tyX11_ok nmX11 (by decide +kernel) (by decide +kernel) (by decide +kernel))⟩,
  List.forall_mem_cons.mpr ⟨⟨mo_al _ _, Or.inl (ok_aload_n (k := 0) rfl (by decide +kernel))⟩,
  List.forall_mem_cons.mpr ⟨⟨mo_al _ _, Or.inl (ok_aload_n (k := 0) rfl (by decide +kernel))⟩,
  fun _ h => absurd h List.not_mem_nil⟩⟩⟩⟩⟩⟩⟩⟩⟩⟩⟩⟩⟩⟩⟩⟩⟩⟩⟩⟩
def t_X11_runs_1 : List (Nat × am_F) := [(34, im_al 0 35), (35, im_gi q_SH 11 76 38), (38, im_il 3 39), (39, im_il 4 41), (41, im_inv q_SH 11 142 3 44), (44, im_pi q_SH 11 77 47), (47, im_al 0 48), (48, im_gr q_SH 11 74 51), (51, im_il 5 53), (53, im_ald q_SH .int 54), (54, im_is 6 56), (56, im_il 6 58), (58, im_ic 12 60), (60, im_if2 ic_lt 75 63), (63, im_al 0 64), (64, im_il 6 66), (66, im_ic 12 68), (68, im_bin (fun x y => x - y) 69), (69, im_inv q_SH 11 149 1 72), (72, im_go 94)]
set_option maxRecDepth 20000 in
theorem o_X11_runs_1 : ∀ q ∈ t_X11_runs_1, am_ok vwCl q_SH ξ (q_E ξ β xs L) q_EN q_KD q_ML (cX11_runs, 7, RX11, "runs", none, []) q.1 q.2 :=
  List.forall_mem_cons.mpr ⟨⟨mo_al _ _, Or.inl (ok_aload_n (k := 0) rfl (by decide +kernel))⟩,
  List.forall_mem_cons.mpr ⟨⟨mo_gi _ _ _ _, Or.inl (ok_gi (C := RX11) (T := TX11) (N := 93) (ci := 11) (k := 76) rfl inX11 (by decide) fl_X11_373 (by decide +kernel) (by decide +kernel))⟩,
  List.forall_mem_cons.mpr ⟨⟨mo_il _ _, Or.inl (ok_iload_n (k := 3) rfl (by decide +kernel))⟩,
  List.forall_mem_cons.mpr ⟨⟨mo_il _ _, Or.inl (ok_iload (by decide +kernel))⟩,
  List.forall_mem_cons.mpr ⟨⟨mo_inv _ _ _ _ _, Or.inr (Or.inl (ok_inv (T := TX11) (N := 93) rfl cw_X11_inForce (by decide) (by decide) ml_X11_376 ci_X11_inForce cv_X11_inForce (show Cond.initialized (yX11_inForce).cls ∈ am_ts from ci9_RX11) ⟨by decide +kernel, by decide +kernel, by decide +kernel⟩ rfl (by decide +kernel)))⟩,
  List.forall_mem_cons.mpr ⟨⟨mo_pi _ _ _ _, Or.inl (ok_pi (ty := .int) (C := RX11) (T := TX11) (N := 93) (ci := 11) (k := 77) rfl inX11 (by decide) fl_X11_380 (by decide +kernel) tyX11 tyX11_ok nmX11 (by decide +kernel) (by decide +kernel) (by decide +kernel))⟩,
  List.forall_mem_cons.mpr ⟨⟨mo_al _ _, Or.inl (ok_aload_n (k := 0) rfl (by decide +kernel))⟩,
  List.forall_mem_cons.mpr ⟨⟨mo_gr _ _ _ _, Or.inl (ok_gr (C := RX11) (T := TX11) (N := 93) (ci := 11) (k := 74) rfl inX11 (by decide) fl_X11_241 (by decide +kernel) (by decide +kernel))⟩,
  List.forall_mem_cons.mpr ⟨⟨mo_il _ _, Or.inl (ok_iload (by decide +kernel))⟩,
  List.forall_mem_cons.mpr ⟨⟨mo_ald _ _ _, Or.inl (ok_iald (by decide +kernel))⟩,
  List.forall_mem_cons.mpr ⟨⟨mo_is _ _, Or.inl (ok_istore (by decide) (by decide +kernel))⟩,
  List.forall_mem_cons.mpr ⟨⟨mo_il _ _, Or.inl (ok_iload (by decide +kernel))⟩,
  List.forall_mem_cons.mpr ⟨⟨mo_ic _ _, Or.inl (ok_bipush (n := 12) (v := 12) (by decide) (by decide +kernel))⟩,
  List.forall_mem_cons.mpr ⟨⟨mo_if2 _ _ _, Or.inl (ok_icmp_lt (off := 15) (by decide) (by decide +kernel))⟩,
  List.forall_mem_cons.mpr ⟨⟨mo_al _ _, Or.inl (ok_aload_n (k := 0) rfl (by decide +kernel))⟩,
  List.forall_mem_cons.mpr ⟨⟨mo_il _ _, Or.inl (ok_iload (by decide +kernel))⟩,
  List.forall_mem_cons.mpr ⟨⟨mo_ic _ _, Or.inl (ok_bipush (n := 12) (v := 12) (by decide) (by decide +kernel))⟩,
  List.forall_mem_cons.mpr ⟨⟨mo_bin _ _, Or.inl (ok_isub (by decide +kernel))⟩,
  List.forall_mem_cons.mpr ⟨⟨mo_inv _ _ _ _ _, Or.inr (Or.inl (ok_inv (T := TX11) (N := 93) rfl cw_X11_happens (by decide) (by decide) ml_X11_383 ci_X11_happens cv_X11_happens (show Cond.initialized (yX11_happens).cls ∈ am_ts from ci9_RX11) ⟨by decide +kernel, by decide +kernel, by decide +kernel⟩ rfl (by decide +kernel)))⟩,
  List.forall_mem_cons.mpr ⟨⟨mo_go _, Or.inl (ok_goto (off := 22) (by decide) (by decide +kernel))⟩,
  fun _ h => absurd h List.not_mem_nil⟩⟩⟩⟩⟩⟩⟩⟩⟩⟩⟩⟩⟩⟩⟩⟩⟩⟩⟩⟩
def t_X11_runs_2 : List (Nat × am_F) := [(75, im_al 0 76), (76, im_gi q_SH 11 77 79), (79, im_il 6 81), (81, im_bin (fun x y => x >>> (y &&& 31)) 82), (82, im_ic 1 83), (83, im_bin (fun x y => x &&& y) 84), (84, im_ic 1 85), (85, im_if2 ic_ne 94 88), (88, im_al 0 89), (89, im_il 6 91), (91, im_inv q_SH 11 148 1 94), (94, im_iinc 5 1 97), (97, im_go 12), (100, im_ret0e)]
set_option maxRecDepth 20000 in
theorem o_X11_runs_2 : ∀ q ∈ t_X11_runs_2, am_ok vwCl q_SH ξ (q_E ξ β xs L) q_EN q_KD q_ML (cX11_runs, 7, RX11, "runs", none, []) q.1 q.2 :=
  List.forall_mem_cons.mpr ⟨⟨mo_al _ _, Or.inl (ok_aload_n (k := 0) rfl (by decide +kernel))⟩,
  List.forall_mem_cons.mpr ⟨⟨mo_gi _ _ _ _, Or.inl (ok_gi (C := RX11) (T := TX11) (N := 93) (ci := 11) (k := 77) rfl inX11 (by decide) fl_X11_380 (by decide +kernel) (by decide +kernel))⟩,
  List.forall_mem_cons.mpr ⟨⟨mo_il _ _, Or.inl (ok_iload (by decide +kernel))⟩,
  List.forall_mem_cons.mpr ⟨⟨mo_bin _ _, Or.inl (ok_ishr (by decide +kernel))⟩,
  List.forall_mem_cons.mpr ⟨⟨mo_ic _ _, Or.inl (ok_iconst (n := 1) (v := 1) (by decide) (by decide +kernel))⟩,
  List.forall_mem_cons.mpr ⟨⟨mo_bin _ _, Or.inl (ok_iand (by decide +kernel))⟩,
  List.forall_mem_cons.mpr ⟨⟨mo_ic _ _, Or.inl (ok_iconst (n := 1) (v := 1) (by decide) (by decide +kernel))⟩,
  List.forall_mem_cons.mpr ⟨⟨mo_if2 _ _ _, Or.inl (ok_icmp_ne (off := 9) (by decide) (by decide +kernel))⟩,
  List.forall_mem_cons.mpr ⟨⟨mo_al _ _, Or.inl (ok_aload_n (k := 0) rfl (by decide +kernel))⟩,
  List.forall_mem_cons.mpr ⟨⟨mo_il _ _, Or.inl (ok_iload (by decide +kernel))⟩,
  List.forall_mem_cons.mpr ⟨⟨mo_inv _ _ _ _ _, Or.inr (Or.inl (ok_inv (T := TX11) (N := 93) rfl cw_X11_actBegins (by decide) (by decide) ml_X11_386 ci_X11_actBegins cv_X11_actBegins (show Cond.initialized (yX11_actBegins).cls ∈ am_ts from ci9_RX11) ⟨by decide +kernel, by decide +kernel, by decide +kernel⟩ rfl (by decide +kernel)))⟩,
  List.forall_mem_cons.mpr ⟨⟨mo_iinc _ _ _, Or.inl (ok_iinc (n := 1) (v := 1) (by decide) (by decide) (by decide +kernel))⟩,
  List.forall_mem_cons.mpr ⟨⟨mo_go _, Or.inl (ok_goto (off := (-85)) (by decide) (by decide +kernel))⟩,
  List.forall_mem_cons.mpr ⟨⟨mo_ret0e, Or.inr (Or.inr (ok_ret0 rfl (by decide +kernel)))⟩,
  fun _ h => absurd h List.not_mem_nil⟩⟩⟩⟩⟩⟩⟩⟩⟩⟩⟩⟩⟩⟩
def t_X11_runs : List (Nat × am_F) := t_X11_runs_0 ++ (t_X11_runs_1 ++ (t_X11_runs_2))
theorem o_X11_runs : ∀ q ∈ t_X11_runs, am_ok vwCl q_SH ξ (q_E ξ β xs L) q_EN q_KD q_ML (cX11_runs, 7, RX11, "runs", none, []) q.1 q.2 := List.forall_mem_append.mpr ⟨o_X11_runs_0, List.forall_mem_append.mpr ⟨o_X11_runs_1, o_X11_runs_2⟩⟩
def t_X11_actBegins_0 : List (Nat × am_F) := [(0, im_al 0 1), (1, im_ic 14 3), (3, im_pi q_SH 11 78 6), (6, im_al 0 7), (7, im_ic (-1) 8), (8, im_pi q_SH 11 79 11), (11, im_al 0 12), (12, im_al 0 13), (13, im_gr q_SH 11 36 16), (16, im_il 1 17), (17, im_ald q_SH .int 18), (18, im_pi q_SH 11 80 21), (21, im_al 0 22), (22, im_ic (-1) 23), (23, im_pi q_SH 11 81 26), (26, im_ic 0 27), (27, im_is 2 28), (28, im_il 2 29), (29, im_al 0 30), (30, im_gi q_SH 11 5 33)]
set_option maxRecDepth 20000 in
theorem o_X11_actBegins_0 : ∀ q ∈ t_X11_actBegins_0, am_ok vwCl q_SH ξ (q_E ξ β xs L) q_EN q_KD q_ML (cX11_actBegins, 3, RX11, "actBegins", none, []) q.1 q.2 :=
  List.forall_mem_cons.mpr ⟨⟨mo_al _ _, Or.inl (ok_aload_n (k := 0) rfl (by decide +kernel))⟩,
  List.forall_mem_cons.mpr ⟨⟨mo_ic _ _, Or.inl (ok_bipush (n := 14) (v := 14) (by decide) (by decide +kernel))⟩,
  List.forall_mem_cons.mpr ⟨⟨mo_pi _ _ _ _, Or.inl (ok_pi (ty := .int) (C := RX11) (T := TX11) (N := 93) (ci := 11) (k := 78) rfl inX11 (by decide) fl_X11_389 (by decide +kernel) tyX11 tyX11_ok nmX11 (by decide +kernel) (by decide +kernel) (by decide +kernel))⟩,
  List.forall_mem_cons.mpr ⟨⟨mo_al _ _, Or.inl (ok_aload_n (k := 0) rfl (by decide +kernel))⟩,
  List.forall_mem_cons.mpr ⟨⟨mo_ic _ _, Or.inl (ok_iconst (n := (-1)) (v := (-1)) (by decide) (by decide +kernel))⟩,
  List.forall_mem_cons.mpr ⟨⟨mo_pi _ _ _ _, Or.inl (ok_pi (ty := .int) (C := RX11) (T := TX11) (N := 93) (ci := 11) (k := 79) rfl inX11 (by decide) fl_X11_392 (by decide +kernel) tyX11 tyX11_ok nmX11 (by decide +kernel) (by decide +kernel) (by decide +kernel))⟩,
  List.forall_mem_cons.mpr ⟨⟨mo_al _ _, Or.inl (ok_aload_n (k := 0) rfl (by decide +kernel))⟩,
  List.forall_mem_cons.mpr ⟨⟨mo_al _ _, Or.inl (ok_aload_n (k := 0) rfl (by decide +kernel))⟩,
  List.forall_mem_cons.mpr ⟨⟨mo_gr _ _ _ _, Or.inl (ok_gr (C := RX11) (T := TX11) (N := 93) (ci := 11) (k := 36) rfl inX11 (by decide) fl_X11_141 (by decide +kernel) (by decide +kernel))⟩,
  List.forall_mem_cons.mpr ⟨⟨mo_il _ _, Or.inl (ok_iload_n (k := 1) rfl (by decide +kernel))⟩,
  List.forall_mem_cons.mpr ⟨⟨mo_ald _ _ _, Or.inl (ok_iald (by decide +kernel))⟩,
  List.forall_mem_cons.mpr ⟨⟨mo_pi _ _ _ _, Or.inl (ok_pi (ty := .int) (C := RX11) (T := TX11) (N := 93) (ci := 11) (k := 80) rfl inX11 (by decide) fl_X11_395 (by decide +kernel) tyX11 tyX11_ok nmX11 (by decide +kernel) (by decide +kernel) (by decide +kernel))⟩,
  List.forall_mem_cons.mpr ⟨⟨mo_al _ _, Or.inl (ok_aload_n (k := 0) rfl (by decide +kernel))⟩,
  List.forall_mem_cons.mpr ⟨⟨mo_ic _ _, Or.inl (ok_iconst (n := (-1)) (v := (-1)) (by decide) (by decide +kernel))⟩,
  List.forall_mem_cons.mpr ⟨⟨mo_pi _ _ _ _, Or.inl (ok_pi (ty := .int) (C := RX11) (T := TX11) (N := 93) (ci := 11) (k := 81) rfl inX11 (by decide) fl_X11_398 (by decide +kernel) tyX11 tyX11_ok nmX11 (by decide +kernel) (by decide +kernel) (by decide +kernel))⟩,
  List.forall_mem_cons.mpr ⟨⟨mo_ic _ _, Or.inl (ok_iconst (n := 0) (v := 0) (by decide) (by decide +kernel))⟩,
  List.forall_mem_cons.mpr ⟨⟨mo_is _ _, Or.inl (ok_istore_n (k := 2) rfl (by decide) (by decide +kernel))⟩,
  List.forall_mem_cons.mpr ⟨⟨mo_il _ _, Or.inl (ok_iload_n (k := 2) rfl (by decide +kernel))⟩,
  List.forall_mem_cons.mpr ⟨⟨mo_al _ _, Or.inl (ok_aload_n (k := 0) rfl (by decide +kernel))⟩,
  List.forall_mem_cons.mpr ⟨⟨mo_gi _ _ _ _, Or.inl (ok_gi (C := RX11) (T := TX11) (N := 93) (ci := 11) (k := 5) rfl inX11 (by decide) fl_X11_20 (by decide +kernel) (by decide +kernel))⟩,
  fun _ h => absurd h List.not_mem_nil⟩⟩⟩⟩⟩⟩⟩⟩⟩⟩⟩⟩⟩⟩⟩⟩⟩⟩⟩⟩
def t_X11_actBegins_1 : List (Nat × am_F) := [(33, im_if2 ic_ge 59 36), (36, im_al 0 37), (37, im_il 2 38), (38, im_al 0 39), (39, im_gr q_SH 11 36 42), (42, im_il 1 43), (43, im_ald q_SH .int 44), (44, im_al 0 45), (45, im_gr q_SH 11 36 48), (48, im_il 1 49), (49, im_ald q_SH .int 50), (50, im_inv q_SH 11 158 3 53), (53, im_iinc 2 1 56), (56, im_go 28), (59, im_ret0e)]
set_option maxRecDepth 20000 in
theorem o_X11_actBegins_1 : ∀ q ∈ t_X11_actBegins_1, am_ok vwCl q_SH ξ (q_E ξ β xs L) q_EN q_KD q_ML (cX11_actBegins, 3, RX11, "actBegins", none, []) q.1 q.2 :=
  List.forall_mem_cons.mpr ⟨⟨mo_if2 _ _ _, Or.inl (ok_icmp_ge (off := 26) (by decide) (by decide +kernel))⟩,
  List.forall_mem_cons.mpr ⟨⟨mo_al _ _, Or.inl (ok_aload_n (k := 0) rfl (by decide +kernel))⟩,
  List.forall_mem_cons.mpr ⟨⟨mo_il _ _, Or.inl (ok_iload_n (k := 2) rfl (by decide +kernel))⟩,
  List.forall_mem_cons.mpr ⟨⟨mo_al _ _, Or.inl (ok_aload_n (k := 0) rfl (by decide +kernel))⟩,
  List.forall_mem_cons.mpr ⟨⟨mo_gr _ _ _ _, Or.inl (ok_gr (C := RX11) (T := TX11) (N := 93) (ci := 11) (k := 36) rfl inX11 (by decide) fl_X11_141 (by decide +kernel) (by decide +kernel))⟩,
  List.forall_mem_cons.mpr ⟨⟨mo_il _ _, Or.inl (ok_iload_n (k := 1) rfl (by decide +kernel))⟩,
  List.forall_mem_cons.mpr ⟨⟨mo_ald _ _ _, Or.inl (ok_iald (by decide +kernel))⟩,
  List.forall_mem_cons.mpr ⟨⟨mo_al _ _, Or.inl (ok_aload_n (k := 0) rfl (by decide +kernel))⟩,
  List.forall_mem_cons.mpr ⟨⟨mo_gr _ _ _ _, Or.inl (ok_gr (C := RX11) (T := TX11) (N := 93) (ci := 11) (k := 36) rfl inX11 (by decide) fl_X11_141 (by decide +kernel) (by decide +kernel))⟩,
  List.forall_mem_cons.mpr ⟨⟨mo_il _ _, Or.inl (ok_iload_n (k := 1) rfl (by decide +kernel))⟩,
  List.forall_mem_cons.mpr ⟨⟨mo_ald _ _ _, Or.inl (ok_iald (by decide +kernel))⟩,
  List.forall_mem_cons.mpr ⟨⟨mo_inv _ _ _ _ _, Or.inr (Or.inl (ok_inv (T := TX11) (N := 93) rfl cw_X11_asks (by decide) (by decide) ml_X11_401 ci_X11_asks cv_X11_asks (show Cond.initialized (yX11_asks).cls ∈ am_ts from ci9_RX11) ⟨by decide +kernel, by decide +kernel, by decide +kernel⟩ rfl (by decide +kernel)))⟩,
  List.forall_mem_cons.mpr ⟨⟨mo_iinc _ _ _, Or.inl (ok_iinc (n := 1) (v := 1) (by decide) (by decide) (by decide +kernel))⟩,
  List.forall_mem_cons.mpr ⟨⟨mo_go _, Or.inl (ok_goto (off := (-28)) (by decide) (by decide +kernel))⟩,
  List.forall_mem_cons.mpr ⟨⟨mo_ret0e, Or.inr (Or.inr (ok_ret0 rfl (by decide +kernel)))⟩,
  fun _ h => absurd h List.not_mem_nil⟩⟩⟩⟩⟩⟩⟩⟩⟩⟩⟩⟩⟩⟩⟩
def t_X11_actBegins : List (Nat × am_F) := t_X11_actBegins_0 ++ (t_X11_actBegins_1)
theorem o_X11_actBegins : ∀ q ∈ t_X11_actBegins, am_ok vwCl q_SH ξ (q_E ξ β xs L) q_EN q_KD q_ML (cX11_actBegins, 3, RX11, "actBegins", none, []) q.1 q.2 := List.forall_mem_append.mpr ⟨o_X11_actBegins_0, o_X11_actBegins_1⟩
def t_X11_happens_0 : List (Nat × am_F) := [(0, im_al 0 1), (1, im_il 1 2), (2, im_pi q_SH 11 81 5), (5, im_al 0 6), (6, im_gr q_SH 11 12 9), (9, im_il 1 10), (10, im_ald q_SH .int 11), (11, im_is 2 12), (12, im_al 0 13), (13, im_gr q_SH 11 11 16), (16, im_il 1 17), (17, im_ald q_SH .int 18), (18, im_is 3 19), (19, im_al 0 20), (20, im_il 3 21), (21, im_ic 2 22), (22, im_if2 ic_lt 39 25), (25, im_il 3 26), (26, im_ic 5 27), (27, im_if2 ic_gt 39 30)]
set_option maxRecDepth 20000 in
theorem o_X11_happens_0 : ∀ q ∈ t_X11_happens_0, am_ok vwCl q_SH ξ (q_E ξ β xs L) q_EN q_KD q_ML (cX11_happens, 4, RX11, "happens", none, []) q.1 q.2 :=
  List.forall_mem_cons.mpr ⟨⟨mo_al _ _, Or.inl (ok_aload_n (k := 0) rfl (by decide +kernel))⟩,
  List.forall_mem_cons.mpr ⟨⟨mo_il _ _, Or.inl (ok_iload_n (k := 1) rfl (by decide +kernel))⟩,
  List.forall_mem_cons.mpr ⟨⟨mo_pi _ _ _ _, Or.inl (ok_pi (ty := .int) (C := RX11) (T := TX11) (N := 93) (ci := 11) (k := 81) rfl inX11 (by decide) fl_X11_398 (by decide +kernel) tyX11 tyX11_ok nmX11 (by decide +kernel) (by decide +kernel) (by decide +kernel))⟩,
  List.forall_mem_cons.mpr ⟨⟨mo_al _ _, Or.inl (ok_aload_n (k := 0) rfl (by decide +kernel))⟩,
  List.forall_mem_cons.mpr ⟨⟨mo_gr _ _ _ _, Or.inl (ok_gr (C := RX11) (T := TX11) (N := 93) (ci := 11) (k := 12) rfl inX11 (by decide) fl_X11_53 (by decide +kernel) (by decide +kernel))⟩,
  List.forall_mem_cons.mpr ⟨⟨mo_il _ _, Or.inl (ok_iload_n (k := 1) rfl (by decide +kernel))⟩,
  List.forall_mem_cons.mpr ⟨⟨mo_ald _ _ _, Or.inl (ok_iald (by decide +kernel))⟩,
  List.forall_mem_cons.mpr ⟨⟨mo_is _ _, Or.inl (ok_istore_n (k := 2) rfl (by decide) (by decide +kernel))⟩,
  List.forall_mem_cons.mpr ⟨⟨mo_al _ _, Or.inl (ok_aload_n (k := 0) rfl (by decide +kernel))⟩,
  List.forall_mem_cons.mpr ⟨⟨mo_gr _ _ _ _, Or.inl (ok_gr (C := RX11) (T := TX11) (N := 93) (ci := 11) (k := 11) rfl inX11 (by decide) fl_X11_50 (by decide +kernel) (by decide +kernel))⟩,
  List.forall_mem_cons.mpr ⟨⟨mo_il _ _, Or.inl (ok_iload_n (k := 1) rfl (by decide +kernel))⟩,
  List.forall_mem_cons.mpr ⟨⟨mo_ald _ _ _, Or.inl (ok_iald (by decide +kernel))⟩,
  List.forall_mem_cons.mpr ⟨⟨mo_is _ _, Or.inl (ok_istore_n (k := 3) rfl (by decide) (by decide +kernel))⟩,
  List.forall_mem_cons.mpr ⟨⟨mo_al _ _, Or.inl (ok_aload_n (k := 0) rfl (by decide +kernel))⟩,
  List.forall_mem_cons.mpr ⟨⟨mo_il _ _, Or.inl (ok_iload_n (k := 3) rfl (by decide +kernel))⟩,
  List.forall_mem_cons.mpr ⟨⟨mo_ic _ _, Or.inl (ok_iconst (n := 2) (v := 2) (by decide) (by decide +kernel))⟩,
  List.forall_mem_cons.mpr ⟨⟨mo_if2 _ _ _, Or.inl (ok_icmp_lt (off := 17) (by decide) (by decide +kernel))⟩,
  List.forall_mem_cons.mpr ⟨⟨mo_il _ _, Or.inl (ok_iload_n (k := 3) rfl (by decide +kernel))⟩,
  List.forall_mem_cons.mpr ⟨⟨mo_ic _ _, Or.inl (ok_iconst (n := 5) (v := 5) (by decide) (by decide +kernel))⟩,
  List.forall_mem_cons.mpr ⟨⟨mo_if2 _ _ _, Or.inl (ok_icmp_gt (off := 12) (by decide) (by decide +kernel))⟩,
  fun _ h => absurd h List.not_mem_nil⟩⟩⟩⟩⟩⟩⟩⟩⟩⟩⟩⟩⟩⟩⟩⟩⟩⟩⟩⟩
def t_X11_happens_1 : List (Nat × am_F) := [(30, im_al 0 31), (31, im_gr q_SH 11 13 34), (34, im_il 1 35), (35, im_ald q_SH .int 36), (36, im_go 40), (39, im_ic (-1) 40), (40, im_pi q_SH 11 80 43), (43, im_al 0 44), (44, im_il 3 45), (45, im_ic 2 46), (46, im_if2 ic_lt 54 49), (49, im_il 3 50), (50, im_ic 5 51), (51, im_if2 ic_ne 63 54), (54, im_al 0 55), (55, im_gr q_SH 11 14 58), (58, im_il 1 59), (59, im_ald q_SH .int 60), (60, im_go 64), (63, im_ic (-1) 64)]
set_option maxRecDepth 20000 in
theorem o_X11_happens_1 : ∀ q ∈ t_X11_happens_1, am_ok vwCl q_SH ξ (q_E ξ β xs L) q_EN q_KD q_ML (cX11_happens, 4, RX11, "happens", none, []) q.1 q.2 :=
  List.forall_mem_cons.mpr ⟨⟨mo_al _ _, Or.inl (ok_aload_n (k := 0) rfl (by decide +kernel))⟩,
  List.forall_mem_cons.mpr ⟨⟨mo_gr _ _ _ _, Or.inl (ok_gr (C := RX11) (T := TX11) (N := 93) (ci := 11) (k := 13) rfl inX11 (by decide) fl_X11_56 (by decide +kernel) (by decide +kernel))⟩,
  List.forall_mem_cons.mpr ⟨⟨mo_il _ _, Or.inl (ok_iload_n (k := 1) rfl (by decide +kernel))⟩,
  List.forall_mem_cons.mpr ⟨⟨mo_ald _ _ _, Or.inl (ok_iald (by decide +kernel))⟩,
  List.forall_mem_cons.mpr ⟨⟨mo_go _, Or.inl (ok_goto (off := 4) (by decide) (by decide +kernel))⟩,
  List.forall_mem_cons.mpr ⟨⟨mo_ic _ _, Or.inl (ok_iconst (n := (-1)) (v := (-1)) (by decide) (by decide +kernel))⟩,
  List.forall_mem_cons.mpr ⟨⟨mo_pi _ _ _ _, Or.inl (ok_pi (ty := .int) (C := RX11) (T := TX11) (N := 93) (ci := 11) (k := 80) rfl inX11 (by decide) fl_X11_395 (by decide +kernel) tyX11 tyX11_ok nmX11 (by decide +kernel) (by decide +kernel) (by decide +kernel))⟩,
  List.forall_mem_cons.mpr ⟨⟨mo_al _ _, Or.inl (ok_aload_n (k := 0) rfl (by decide +kernel))⟩,
  List.forall_mem_cons.mpr ⟨⟨mo_il _ _, Or.inl (ok_iload_n (k := 3) rfl (by decide +kernel))⟩,
  List.forall_mem_cons.mpr ⟨⟨mo_ic _ _, Or.inl (ok_iconst (n := 2) (v := 2) (by decide) (by decide +kernel))⟩,
  List.forall_mem_cons.mpr ⟨⟨mo_if2 _ _ _, Or.inl (ok_icmp_lt (off := 8) (by decide) (by decide +kernel))⟩,
  List.forall_mem_cons.mpr ⟨⟨mo_il _ _, Or.inl (ok_iload_n (k := 3) rfl (by decide +kernel))⟩,
  List.forall_mem_cons.mpr ⟨⟨mo_ic _ _, Or.inl (ok_iconst (n := 5) (v := 5) (by decide) (by decide +kernel))⟩,
  List.forall_mem_cons.mpr ⟨⟨mo_if2 _ _ _, Or.inl (ok_icmp_ne (off := 12) (by decide) (by decide +kernel))⟩,
  List.forall_mem_cons.mpr ⟨⟨mo_al _ _, Or.inl (ok_aload_n (k := 0) rfl (by decide +kernel))⟩,
  List.forall_mem_cons.mpr ⟨⟨mo_gr _ _ _ _, Or.inl (ok_gr (C := RX11) (T := TX11) (N := 93) (ci := 11) (k := 14) rfl inX11 (by decide) fl_X11_59 (by decide +kernel) (by decide +kernel))⟩,
  List.forall_mem_cons.mpr ⟨⟨mo_il _ _, Or.inl (ok_iload_n (k := 1) rfl (by decide +kernel))⟩,
  List.forall_mem_cons.mpr ⟨⟨mo_ald _ _ _, Or.inl (ok_iald (by decide +kernel))⟩,
  List.forall_mem_cons.mpr ⟨⟨mo_go _, Or.inl (ok_goto (off := 4) (by decide) (by decide +kernel))⟩,
  List.forall_mem_cons.mpr ⟨⟨mo_ic _ _, Or.inl (ok_iconst (n := (-1)) (v := (-1)) (by decide) (by decide +kernel))⟩,
  fun _ h => absurd h List.not_mem_nil⟩⟩⟩⟩⟩⟩⟩⟩⟩⟩⟩⟩⟩⟩⟩⟩⟩⟩⟩⟩
def t_X11_happens_2 : List (Nat × am_F) := [(64, im_pi q_SH 11 79 67), (67, im_il 3 68), (68, im_if1 ib_ne 80 71), (71, im_al 0 72), (72, im_il 2 73), (73, im_il 1 74), (74, im_inv q_SH 11 151 2 77), (77, im_go 147), (80, im_il 3 81), (81, im_ic 1 82), (82, im_if2 ic_ne 99 85), (85, im_al 0 86), (86, im_il 2 87), (87, im_al 0 88), (88, im_gr q_SH 11 13 91), (91, im_il 1 92), (92, im_ald q_SH .int 93), (93, im_inv q_SH 11 152 2 96), (96, im_go 147), (99, im_il 3 100)]
set_option maxRecDepth 20000 in
theorem o_X11_happens_2 : ∀ q ∈ t_X11_happens_2, am_ok vwCl q_SH ξ (q_E ξ β xs L) q_EN q_KD q_ML (cX11_happens, 4, RX11, "happens", none, []) q.1 q.2 :=
  List.forall_mem_cons.mpr ⟨⟨mo_pi _ _ _ _, Or.inl (ok_pi (ty := .int) (C := RX11) (T := TX11) (N := 93) (ci := 11) (k := 79) rfl inX11 (by decide) fl_X11_392 (by decide +kernel) tyX11 tyX11_ok nmX11 (by decide +kernel) (by decide +kernel) (by decide +kernel))⟩,
  List.forall_mem_cons.mpr ⟨⟨mo_il _ _, Or.inl (ok_iload_n (k := 3) rfl (by decide +kernel))⟩,
  List.forall_mem_cons.mpr ⟨⟨mo_if1 _ _ _, Or.inl (ok_if_ne (off := 12) (by decide) (by decide +kernel))⟩,
  List.forall_mem_cons.mpr ⟨⟨mo_al _ _, Or.inl (ok_aload_n (k := 0) rfl (by decide +kernel))⟩,
  List.forall_mem_cons.mpr ⟨⟨mo_il _ _, Or.inl (ok_iload_n (k := 2) rfl (by decide +kernel))⟩,
  List.forall_mem_cons.mpr ⟨⟨mo_il _ _, Or.inl (ok_iload_n (k := 1) rfl (by decide +kernel))⟩,
  List.forall_mem_cons.mpr ⟨⟨mo_inv _ _ _ _ _, Or.inr (Or.inl (ok_inv (T := TX11) (N := 93) rfl cw_X11_birth (by decide) (by decide) ml_X11_404 ci_X11_birth cv_X11_birth (show Cond.initialized (yX11_birth).cls ∈ am_ts from ci9_RX11) ⟨by decide +kernel, by decide +kernel, by decide +kernel⟩ rfl (by decide +kernel)))⟩,
  List.forall_mem_cons.mpr ⟨⟨mo_go _, Or.inl (ok_goto (off := 70) (by decide) (by decide +kernel))⟩,
  List.forall_mem_cons.mpr ⟨⟨mo_il _ _, Or.inl (ok_iload_n (k := 3) rfl (by decide +kernel))⟩,
  List.forall_mem_cons.mpr ⟨⟨mo_ic _ _, Or.inl (ok_iconst (n := 1) (v := 1) (by decide) (by decide +kernel))⟩,
  List.forall_mem_cons.mpr ⟨⟨mo_if2 _ _ _, Or.inl (ok_icmp_ne (off := 17) (by decide) (by decide +kernel))⟩,
  List.forall_mem_cons.mpr ⟨⟨mo_al _ _, Or.inl (ok_aload_n (k := 0) rfl (by decide +kernel))⟩,
  List.forall_mem_cons.mpr ⟨⟨mo_il _ _, Or.inl (ok_iload_n (k := 2) rfl (by decide +kernel))⟩,
  List.forall_mem_cons.mpr ⟨⟨mo_al _ _, Or.inl (ok_aload_n (k := 0) rfl (by decide +kernel))⟩,
  List.forall_mem_cons.mpr ⟨⟨mo_gr _ _ _ _, Or.inl (ok_gr (C := RX11) (T := TX11) (N := 93) (ci := 11) (k := 13) rfl inX11 (by decide) fl_X11_56 (by decide +kernel) (by decide +kernel))⟩,
  List.forall_mem_cons.mpr ⟨⟨mo_il _ _, Or.inl (ok_iload_n (k := 1) rfl (by decide +kernel))⟩,
  List.forall_mem_cons.mpr ⟨⟨mo_ald _ _ _, Or.inl (ok_iald (by decide +kernel))⟩,
  List.forall_mem_cons.mpr ⟨⟨mo_inv _ _ _ _ _, Or.inr (Or.inl (ok_inv (T := TX11) (N := 93) rfl cw_X11_wedding (by decide) (by decide) ml_X11_408 ci_X11_wedding cv_X11_wedding (show Cond.initialized (yX11_wedding).cls ∈ am_ts from ci9_RX11) ⟨by decide +kernel, by decide +kernel, by decide +kernel⟩ rfl (by decide +kernel)))⟩,
  List.forall_mem_cons.mpr ⟨⟨mo_go _, Or.inl (ok_goto (off := 51) (by decide) (by decide +kernel))⟩,
  List.forall_mem_cons.mpr ⟨⟨mo_il _ _, Or.inl (ok_iload_n (k := 3) rfl (by decide +kernel))⟩,
  fun _ h => absurd h List.not_mem_nil⟩⟩⟩⟩⟩⟩⟩⟩⟩⟩⟩⟩⟩⟩⟩⟩⟩⟩⟩⟩
def t_X11_happens_3 : List (Nat × am_F) := [(100, im_ic 5 101), (101, im_if2 ic_ge 118 104), (104, im_al 0 105), (105, im_ic 10 107), (107, im_il 3 108), (108, im_bin (fun x y => x + y) 109), (109, im_ic 2 110), (110, im_bin (fun x y => x - y) 111), (111, im_il 2 112), (112, im_inv q_SH 11 150 2 115), (115, im_go 147), (118, im_il 3 119), (119, im_ic 5 120), (120, im_if2 ic_ne 136 123), (123, im_al 0 124), (124, im_al 0 125), (125, im_gr q_SH 11 14 128), (128, im_il 1 129), (129, im_ald q_SH .int 130), (130, im_inv q_SH 11 153 1 133)]
set_option maxRecDepth 20000 in
theorem o_X11_happens_3 : ∀ q ∈ t_X11_happens_3, am_ok vwCl q_SH ξ (q_E ξ β xs L) q_EN q_KD q_ML (cX11_happens, 4, RX11, "happens", none, []) q.1 q.2 :=
  List.forall_mem_cons.mpr ⟨⟨mo_ic _ _, Or.inl (ok_iconst (n := 5) (v := 5) (by decide) (by decide +kernel))⟩,
  List.forall_mem_cons.mpr ⟨⟨mo_if2 _ _ _, Or.inl (ok_icmp_ge (off := 17) (by decide) (by decide +kernel))⟩,
  List.forall_mem_cons.mpr ⟨⟨mo_al _ _, Or.inl (ok_aload_n (k := 0) rfl (by decide +kernel))⟩,
  List.forall_mem_cons.mpr ⟨⟨mo_ic _ _, Or.inl (ok_bipush (n := 10) (v := 10) (by decide) (by decide +kernel))⟩,
  List.forall_mem_cons.mpr ⟨⟨mo_il _ _, Or.inl (ok_iload_n (k := 3) rfl (by decide +kernel))⟩,
  List.forall_mem_cons.mpr ⟨⟨mo_bin _ _, Or.inl (ok_iadd (by decide +kernel))⟩,
  List.forall_mem_cons.mpr ⟨⟨mo_ic _ _, Or.inl (ok_iconst (n := 2) (v := 2) (by decide) (by decide +kernel))⟩,
  List.forall_mem_cons.mpr ⟨⟨mo_bin _ _, Or.inl (ok_isub (by decide +kernel))⟩,
  List.forall_mem_cons.mpr ⟨⟨mo_il _ _, Or.inl (ok_iload_n (k := 2) rfl (by decide +kernel))⟩,
  List.forall_mem_cons.mpr ⟨⟨mo_inv _ _ _ _ _, Or.inr (Or.inl (ok_inv (T := TX11) (N := 93) rfl cw_X11_one (by decide) (by decide) ml_X11_411 ci_X11_one cv_X11_one (show Cond.initialized (yX11_one).cls ∈ am_ts from ci9_RX11) ⟨by decide +kernel, by decide +kernel, by decide +kernel⟩ rfl (by decide +kernel)))⟩,
  List.forall_mem_cons.mpr ⟨⟨mo_go _, Or.inl (ok_goto (off := 32) (by decide) (by decide +kernel))⟩,
  List.forall_mem_cons.mpr ⟨⟨mo_il _ _, Or.inl (ok_iload_n (k := 3) rfl (by decide +kernel))⟩,
  List.forall_mem_cons.mpr ⟨⟨mo_ic _ _, Or.inl (ok_iconst (n := 5) (v := 5) (by decide) (by decide +kernel))⟩,
  List.forall_mem_cons.mpr ⟨⟨mo_if2 _ _ _, Or.inl (ok_icmp_ne (off := 16) (by decide) (by decide +kernel))⟩,
  List.forall_mem_cons.mpr ⟨⟨mo_al _ _, Or.inl (ok_aload_n (k := 0) rfl (by decide +kernel))⟩,
  List.forall_mem_cons.mpr ⟨⟨mo_al _ _, Or.inl (ok_aload_n (k := 0) rfl (by decide +kernel))⟩,
  List.forall_mem_cons.mpr ⟨⟨mo_gr _ _ _ _, Or.inl (ok_gr (C := RX11) (T := TX11) (N := 93) (ci := 11) (k := 14) rfl inX11 (by decide) fl_X11_59 (by decide +kernel) (by decide +kernel))⟩,
  List.forall_mem_cons.mpr ⟨⟨mo_il _ _, Or.inl (ok_iload_n (k := 1) rfl (by decide +kernel))⟩,
  List.forall_mem_cons.mpr ⟨⟨mo_ald _ _ _, Or.inl (ok_iald (by decide +kernel))⟩,
  List.forall_mem_cons.mpr ⟨⟨mo_inv _ _ _ _ _, Or.inr (Or.inl (ok_inv (T := TX11) (N := 93) rfl cw_X11_border (by decide) (by decide) ml_X11_414 ci_X11_border cv_X11_border (show Cond.initialized (yX11_border).cls ∈ am_ts from ci9_RX11) ⟨by decide +kernel, by decide +kernel, by decide +kernel⟩ rfl (by decide +kernel)))⟩,
  fun _ h => absurd h List.not_mem_nil⟩⟩⟩⟩⟩⟩⟩⟩⟩⟩⟩⟩⟩⟩⟩⟩⟩⟩⟩⟩
def t_X11_happens_4 : List (Nat × am_F) := [(133, im_go 147), (136, im_al 0 137), (137, im_il 2 138), (138, im_al 0 139), (139, im_gr q_SH 11 14 142), (142, im_il 1 143), (143, im_ald q_SH .int 144), (144, im_inv q_SH 11 154 2 147), (147, im_ret0e)]
set_option maxRecDepth 20000 in
theorem o_X11_happens_4 : ∀ q ∈ t_X11_happens_4, am_ok vwCl q_SH ξ (q_E ξ β xs L) q_EN q_KD q_ML (cX11_happens, 4, RX11, "happens", none, []) q.1 q.2 :=
  List.forall_mem_cons.mpr ⟨⟨mo_go _, Or.inl (ok_goto (off := 14) (by decide) (by decide +kernel))⟩,
  List.forall_mem_cons.mpr ⟨⟨mo_al _ _, Or.inl (ok_aload_n (k := 0) rfl (by decide +kernel))⟩,
  List.forall_mem_cons.mpr ⟨⟨mo_il _ _, Or.inl (ok_iload_n (k := 2) rfl (by decide +kernel))⟩,
  List.forall_mem_cons.mpr ⟨⟨mo_al _ _, Or.inl (ok_aload_n (k := 0) rfl (by decide +kernel))⟩,
  List.forall_mem_cons.mpr ⟨⟨mo_gr _ _ _ _, Or.inl (ok_gr (C := RX11) (T := TX11) (N := 93) (ci := 11) (k := 14) rfl inX11 (by decide) fl_X11_59 (by decide +kernel) (by decide +kernel))⟩,
  List.forall_mem_cons.mpr ⟨⟨mo_il _ _, Or.inl (ok_iload_n (k := 1) rfl (by decide +kernel))⟩,
  List.forall_mem_cons.mpr ⟨⟨mo_ald _ _ _, Or.inl (ok_iald (by decide +kernel))⟩,
  List.forall_mem_cons.mpr ⟨⟨mo_inv _ _ _ _ _, Or.inr (Or.inl (ok_inv (T := TX11) (N := 93) rfl cw_X11_stays (by decide) (by decide) ml_X11_417 ci_X11_stays cv_X11_stays (show Cond.initialized (yX11_stays).cls ∈ am_ts from ci9_RX11) ⟨by decide +kernel, by decide +kernel, by decide +kernel⟩ rfl (by decide +kernel)))⟩,
  List.forall_mem_cons.mpr ⟨⟨mo_ret0e, Or.inr (Or.inr (ok_ret0 rfl (by decide +kernel)))⟩,
  fun _ h => absurd h List.not_mem_nil⟩⟩⟩⟩⟩⟩⟩⟩⟩
def t_X11_happens : List (Nat × am_F) := t_X11_happens_0 ++ (t_X11_happens_1 ++ (t_X11_happens_2 ++ (t_X11_happens_3 ++ (t_X11_happens_4))))
theorem o_X11_happens : ∀ q ∈ t_X11_happens, am_ok vwCl q_SH ξ (q_E ξ β xs L) q_EN q_KD q_ML (cX11_happens, 4, RX11, "happens", none, []) q.1 q.2 := List.forall_mem_append.mpr ⟨o_X11_happens_0, List.forall_mem_append.mpr ⟨o_X11_happens_1, List.forall_mem_append.mpr ⟨o_X11_happens_2, List.forall_mem_append.mpr ⟨o_X11_happens_3, o_X11_happens_4⟩⟩⟩⟩
def t_X11_one_0 : List (Nat × am_F) := [(0, im_al 0 1), (1, im_il 1 2), (2, im_pi q_SH 11 78 5), (5, im_al 0 6), (6, im_il 2 7), (7, im_ic 0 8), (8, im_al 0 9), (9, im_gi q_SH 11 3 12), (12, im_ic 1 13), (13, im_bin (fun x y => x - y) 14), (14, im_inv q_SH 11 158 3 17), (17, im_ret0e)]
set_option maxRecDepth 20000 in
theorem o_X11_one_0 : ∀ q ∈ t_X11_one_0, am_ok vwCl q_SH ξ (q_E ξ β xs L) q_EN q_KD q_ML (cX11_one, 3, RX11, "one", none, []) q.1 q.2 :=
  List.forall_mem_cons.mpr ⟨⟨mo_al _ _, Or.inl (ok_aload_n (k := 0) rfl (by decide +kernel))⟩,
  List.forall_mem_cons.mpr ⟨⟨mo_il _ _, Or.inl (ok_iload_n (k := 1) rfl (by decide +kernel))⟩,
  List.forall_mem_cons.mpr ⟨⟨mo_pi _ _ _ _, Or.inl (ok_pi (ty := .int) (C := RX11) (T := TX11) (N := 93) (ci := 11) (k := 78) rfl inX11 (by decide) fl_X11_389 (by decide +kernel) tyX11 tyX11_ok nmX11 (by decide +kernel) (by decide +kernel) (by decide +kernel))⟩,
  List.forall_mem_cons.mpr ⟨⟨mo_al _ _, Or.inl (ok_aload_n (k := 0) rfl (by decide +kernel))⟩,
  List.forall_mem_cons.mpr ⟨⟨mo_il _ _, Or.inl (ok_iload_n (k := 2) rfl (by decide +kernel))⟩,
  List.forall_mem_cons.mpr ⟨⟨mo_ic _ _, Or.inl (ok_iconst (n := 0) (v := 0) (by decide) (by decide +kernel))⟩,
  List.forall_mem_cons.mpr ⟨⟨mo_al _ _, Or.inl (ok_aload_n (k := 0) rfl (by decide +kernel))⟩,
  List.forall_mem_cons.mpr ⟨⟨mo_gi _ _ _ _, Or.inl (ok_gi (C := RX11) (T := TX11) (N := 93) (ci := 11) (k := 3) rfl inX11 (by decide) fl_X11_7 (by decide +kernel) (by decide +kernel))⟩,
  List.forall_mem_cons.mpr ⟨⟨mo_ic _ _, Or.inl (ok_iconst (n := 1) (v := 1) (by decide) (by decide +kernel))⟩,
  List.forall_mem_cons.mpr ⟨⟨mo_bin _ _, Or.inl (ok_isub (by decide +kernel))⟩,
  List.forall_mem_cons.mpr ⟨⟨mo_inv _ _ _ _ _, Or.inr (Or.inl (ok_inv (T := TX11) (N := 93) rfl cw_X11_asks (by decide) (by decide) ml_X11_401 ci_X11_asks cv_X11_asks (show Cond.initialized (yX11_asks).cls ∈ am_ts from ci9_RX11) ⟨by decide +kernel, by decide +kernel, by decide +kernel⟩ rfl (by decide +kernel)))⟩,
  List.forall_mem_cons.mpr ⟨⟨mo_ret0e, Or.inr (Or.inr (ok_ret0 rfl (by decide +kernel)))⟩,
  fun _ h => absurd h List.not_mem_nil⟩⟩⟩⟩⟩⟩⟩⟩⟩⟩⟩⟩
def t_X11_one : List (Nat × am_F) := t_X11_one_0
theorem o_X11_one : ∀ q ∈ t_X11_one, am_ok vwCl q_SH ξ (q_E ξ β xs L) q_EN q_KD q_ML (cX11_one, 3, RX11, "one", none, []) q.1 q.2 := o_X11_one_0
def t_X11_birth_0 : List (Nat × am_F) := [(0, im_al 0 1), (1, im_gr q_SH 11 56 4), (4, im_il 1 5), (5, im_ald q_SH .int 6), (6, im_ic (-1) 7), (7, im_if2 ic_eq 11 10), (10, im_ret0e), (11, im_al 0 12), (12, im_gr q_SH 11 56 15), (15, im_il 1 16), (16, im_al 0 17), (17, im_gi q_SH 11 76 20), (20, im_ast q_SH .int (fun x => x) 21), (21, im_al 0 22), (22, im_gr q_SH 11 57 25), (25, im_il 1 26), (26, im_al 0 27), (27, im_gr q_SH 11 14 30), (30, im_il 2 31), (31, im_ald q_SH .int 32)]
set_option maxRecDepth 20000 in
theorem o_X11_birth_0 : ∀ q ∈ t_X11_birth_0, am_ok vwCl q_SH ξ (q_E ξ β xs L) q_EN q_KD q_ML (cX11_birth, 3, RX11, "birth", none, []) q.1 q.2 :=
  List.forall_mem_cons.mpr ⟨⟨mo_al _ _, Or.inl (ok_aload_n (k := 0) rfl (by decide +kernel))⟩,
  List.forall_mem_cons.mpr ⟨⟨mo_gr _ _ _ _, Or.inl (ok_gr (C := RX11) (T := TX11) (N := 93) (ci := 11) (k := 56) rfl inX11 (by decide) fl_X11_193 (by decide +kernel) (by decide +kernel))⟩,
  List.forall_mem_cons.mpr ⟨⟨mo_il _ _, Or.inl (ok_iload_n (k := 1) rfl (by decide +kernel))⟩,
  List.forall_mem_cons.mpr ⟨⟨mo_ald _ _ _, Or.inl (ok_iald (by decide +kernel))⟩,
  List.forall_mem_cons.mpr ⟨⟨mo_ic _ _, Or.inl (ok_iconst (n := (-1)) (v := (-1)) (by decide) (by decide +kernel))⟩,
  List.forall_mem_cons.mpr ⟨⟨mo_if2 _ _ _, Or.inl (ok_icmp_eq (off := 4) (by decide) (by decide +kernel))⟩,
  List.forall_mem_cons.mpr ⟨⟨mo_ret0e, Or.inr (Or.inr (ok_ret0 rfl (by decide +kernel)))⟩,
  List.forall_mem_cons.mpr ⟨⟨mo_al _ _, Or.inl (ok_aload_n (k := 0) rfl (by decide +kernel))⟩,
  List.forall_mem_cons.mpr ⟨⟨mo_gr _ _ _ _, Or.inl (ok_gr (C := RX11) (T := TX11) (N := 93) (ci := 11) (k := 56) rfl inX11 (by decide) fl_X11_193 (by decide +kernel) (by decide +kernel))⟩,
  List.forall_mem_cons.mpr ⟨⟨mo_il _ _, Or.inl (ok_iload_n (k := 1) rfl (by decide +kernel))⟩,
  List.forall_mem_cons.mpr ⟨⟨mo_al _ _, Or.inl (ok_aload_n (k := 0) rfl (by decide +kernel))⟩,
  List.forall_mem_cons.mpr ⟨⟨mo_gi _ _ _ _, Or.inl (ok_gi (C := RX11) (T := TX11) (N := 93) (ci := 11) (k := 76) rfl inX11 (by decide) fl_X11_373 (by decide +kernel) (by decide +kernel))⟩,
  List.forall_mem_cons.mpr ⟨⟨mo_ast _ _ _ _, Or.inl (ok_iast (by decide +kernel))⟩,
  List.forall_mem_cons.mpr ⟨⟨mo_al _ _, Or.inl (ok_aload_n (k := 0) rfl (by decide +kernel))⟩,
  List.forall_mem_cons.mpr ⟨⟨mo_gr _ _ _ _, Or.inl (ok_gr (C := RX11) (T := TX11) (N := 93) (ci := 11) (k := 57) rfl inX11 (by decide) fl_X11_196 (by decide +kernel) (by decide +kernel))⟩,
  List.forall_mem_cons.mpr ⟨⟨mo_il _ _, Or.inl (ok_iload_n (k := 1) rfl (by decide +kernel))⟩,
  List.forall_mem_cons.mpr ⟨⟨mo_al _ _, Or.inl (ok_aload_n (k := 0) rfl (by decide +kernel))⟩,
  List.forall_mem_cons.mpr ⟨⟨mo_gr _ _ _ _, Or.inl (ok_gr (C := RX11) (T := TX11) (N := 93) (ci := 11) (k := 14) rfl inX11 (by decide) fl_X11_59 (by decide +kernel) (by decide +kernel))⟩,
  List.forall_mem_cons.mpr ⟨⟨mo_il _ _, Or.inl (ok_iload_n (k := 2) rfl (by decide +kernel))⟩,
  List.forall_mem_cons.mpr ⟨⟨mo_ald _ _ _, Or.inl (ok_iald (by decide +kernel))⟩,
  fun _ h => absurd h List.not_mem_nil⟩⟩⟩⟩⟩⟩⟩⟩⟩⟩⟩⟩⟩⟩⟩⟩⟩⟩⟩⟩
def t_X11_birth_1 : List (Nat × am_F) := [(32, im_ast q_SH .int (fun x => x) 33), (33, im_al 0 34), (34, im_ic 8 36), (36, im_il 1 37), (37, im_inv q_SH 11 150 2 40), (40, im_ret0e)]
set_option maxRecDepth 20000 in
theorem o_X11_birth_1 : ∀ q ∈ t_X11_birth_1, am_ok vwCl q_SH ξ (q_E ξ β xs L) q_EN q_KD q_ML (cX11_birth, 3, RX11, "birth", none, []) q.1 q.2 :=
  List.forall_mem_cons.mpr ⟨⟨mo_ast _ _ _ _, Or.inl (ok_iast (by decide +kernel))⟩,
  List.forall_mem_cons.mpr ⟨⟨mo_al _ _, Or.inl (ok_aload_n (k := 0) rfl (by decide +kernel))⟩,
  List.forall_mem_cons.mpr ⟨⟨mo_ic _ _, Or.inl (ok_bipush (n := 8) (v := 8) (by decide) (by decide +kernel))⟩,
  List.forall_mem_cons.mpr ⟨⟨mo_il _ _, Or.inl (ok_iload_n (k := 1) rfl (by decide +kernel))⟩,
  List.forall_mem_cons.mpr ⟨⟨mo_inv _ _ _ _ _, Or.inr (Or.inl (ok_inv (T := TX11) (N := 93) rfl cw_X11_one (by decide) (by decide) ml_X11_411 ci_X11_one cv_X11_one (show Cond.initialized (yX11_one).cls ∈ am_ts from ci9_RX11) ⟨by decide +kernel, by decide +kernel, by decide +kernel⟩ rfl (by decide +kernel)))⟩,
  List.forall_mem_cons.mpr ⟨⟨mo_ret0e, Or.inr (Or.inr (ok_ret0 rfl (by decide +kernel)))⟩,
  fun _ h => absurd h List.not_mem_nil⟩⟩⟩⟩⟩⟩
def t_X11_birth : List (Nat × am_F) := t_X11_birth_0 ++ (t_X11_birth_1)
theorem o_X11_birth : ∀ q ∈ t_X11_birth, am_ok vwCl q_SH ξ (q_E ξ β xs L) q_EN q_KD q_ML (cX11_birth, 3, RX11, "birth", none, []) q.1 q.2 := List.forall_mem_append.mpr ⟨o_X11_birth_0, o_X11_birth_1⟩
def t_X11_wedding_0 : List (Nat × am_F) := [(0, im_al 0 1), (1, im_gr q_SH 11 55 4), (4, im_il 1 5), (5, im_ald q_SH .int 6), (6, im_is 3 7), (7, im_al 0 8), (8, im_gr q_SH 11 55 11), (11, im_il 2 12), (12, im_ald q_SH .int 13), (13, im_is 4 15), (15, im_al 0 16), (16, im_gr q_SH 11 58 19), (19, im_il 1 20), (20, im_il 2 21), (21, im_ast q_SH .int (fun x => x) 22), (22, im_al 0 23), (23, im_gr q_SH 11 58 26), (26, im_il 2 27), (27, im_il 1 28), (28, im_ast q_SH .int (fun x => x) 29)]
set_option maxRecDepth 20000 in
theorem o_X11_wedding_0 : ∀ q ∈ t_X11_wedding_0, am_ok vwCl q_SH ξ (q_E ξ β xs L) q_EN q_KD q_ML (cX11_wedding, 6, RX11, "wedding", none, []) q.1 q.2 :=
  List.forall_mem_cons.mpr ⟨⟨mo_al _ _, Or.inl (ok_aload_n (k := 0) rfl (by decide +kernel))⟩,
  List.forall_mem_cons.mpr ⟨⟨mo_gr _ _ _ _, Or.inl (ok_gr (C := RX11) (T := TX11) (N := 93) (ci := 11) (k := 55) rfl inX11 (by decide) fl_X11_190 (by decide +kernel) (by decide +kernel))⟩,
  List.forall_mem_cons.mpr ⟨⟨mo_il _ _, Or.inl (ok_iload_n (k := 1) rfl (by decide +kernel))⟩,
  List.forall_mem_cons.mpr ⟨⟨mo_ald _ _ _, Or.inl (ok_iald (by decide +kernel))⟩,
  List.forall_mem_cons.mpr ⟨⟨mo_is _ _, Or.inl (ok_istore_n (k := 3) rfl (by decide) (by decide +kernel))⟩,
  List.forall_mem_cons.mpr ⟨⟨mo_al _ _, Or.inl (ok_aload_n (k := 0) rfl (by decide +kernel))⟩,
  List.forall_mem_cons.mpr ⟨⟨mo_gr _ _ _ _, Or.inl (ok_gr (C := RX11) (T := TX11) (N := 93) (ci := 11) (k := 55) rfl inX11 (by decide) fl_X11_190 (by decide +kernel) (by decide +kernel))⟩,
  List.forall_mem_cons.mpr ⟨⟨mo_il _ _, Or.inl (ok_iload_n (k := 2) rfl (by decide +kernel))⟩,
  List.forall_mem_cons.mpr ⟨⟨mo_ald _ _ _, Or.inl (ok_iald (by decide +kernel))⟩,
  List.forall_mem_cons.mpr ⟨⟨mo_is _ _, Or.inl (ok_istore (by decide) (by decide +kernel))⟩,
  List.forall_mem_cons.mpr ⟨⟨mo_al _ _, Or.inl (ok_aload_n (k := 0) rfl (by decide +kernel))⟩,
  List.forall_mem_cons.mpr ⟨⟨mo_gr _ _ _ _, Or.inl (ok_gr (C := RX11) (T := TX11) (N := 93) (ci := 11) (k := 58) rfl inX11 (by decide) fl_X11_199 (by decide +kernel) (by decide +kernel))⟩,
  List.forall_mem_cons.mpr ⟨⟨mo_il _ _, Or.inl (ok_iload_n (k := 1) rfl (by decide +kernel))⟩,
  List.forall_mem_cons.mpr ⟨⟨mo_il _ _, Or.inl (ok_iload_n (k := 2) rfl (by decide +kernel))⟩,
  List.forall_mem_cons.mpr ⟨⟨mo_ast _ _ _ _, Or.inl (ok_iast (by decide +kernel))⟩,
  List.forall_mem_cons.mpr ⟨⟨mo_al _ _, Or.inl (ok_aload_n (k := 0) rfl (by decide +kernel))⟩,
  List.forall_mem_cons.mpr ⟨⟨mo_gr _ _ _ _, Or.inl (ok_gr (C := RX11) (T := TX11) (N := 93) (ci := 11) (k := 58) rfl inX11 (by decide) fl_X11_199 (by decide +kernel) (by decide +kernel))⟩,
  List.forall_mem_cons.mpr ⟨⟨mo_il _ _, Or.inl (ok_iload_n (k := 2) rfl (by decide +kernel))⟩,
  List.forall_mem_cons.mpr ⟨⟨mo_il _ _, Or.inl (ok_iload_n (k := 1) rfl (by decide +kernel))⟩,
  List.forall_mem_cons.mpr ⟨⟨mo_ast _ _ _ _, Or.inl (ok_iast (by decide +kernel))⟩,
  fun _ h => absurd h List.not_mem_nil⟩⟩⟩⟩⟩⟩⟩⟩⟩⟩⟩⟩⟩⟩⟩⟩⟩⟩⟩⟩
def t_X11_wedding_1 : List (Nat × am_F) := [(29, im_al 0 30), (30, im_ic 9 32), (32, im_pi q_SH 11 78 35), (35, im_ic 0 36), (36, im_is 5 38), (38, im_il 5 40), (40, im_ic 5 41), (41, im_if2 ic_ge 68 44), (44, im_al 0 45), (45, im_gr q_SH 11 86 48), (48, im_il 5 50), (50, im_al 0 51), (51, im_gr q_SH 11 63 54), (54, im_ic 5 55), (55, im_il 2 56), (56, im_bin (fun x y => x * y) 57), (57, im_il 5 59), (59, im_bin (fun x y => x + y) 60), (60, im_ald q_SH .int 61), (61, im_ast q_SH .int (fun x => x) 62)]
set_option maxRecDepth 20000 in
theorem o_X11_wedding_1 : ∀ q ∈ t_X11_wedding_1, am_ok vwCl q_SH ξ (q_E ξ β xs L) q_EN q_KD q_ML (cX11_wedding, 6, RX11, "wedding", none, []) q.1 q.2 :=
  List.forall_mem_cons.mpr ⟨⟨mo_al _ _, Or.inl (ok_aload_n (k := 0) rfl (by decide +kernel))⟩,
  List.forall_mem_cons.mpr ⟨⟨mo_ic _ _, Or.inl (ok_bipush (n := 9) (v := 9) (by decide) (by decide +kernel))⟩,
  List.forall_mem_cons.mpr ⟨⟨mo_pi _ _ _ _, Or.inl (ok_pi (ty := .int) (C := RX11) (T := TX11) (N := 93) (ci := 11) (k := 78) rfl inX11 (by decide) fl_X11_389 (by decide +kernel) tyX11 tyX11_ok nmX11 (by decide +kernel) (by decide +kernel) (by decide +kernel))⟩,
  List.forall_mem_cons.mpr ⟨⟨mo_ic _ _, Or.inl (ok_iconst (n := 0) (v := 0) (by decide) (by decide +kernel))⟩,
  List.forall_mem_cons.mpr ⟨⟨mo_is _ _, Or.inl (ok_istore (by decide) (by decide +kernel))⟩,
  List.forall_mem_cons.mpr ⟨⟨mo_il _ _, Or.inl (ok_iload (by decide +kernel))⟩,
  List.forall_mem_cons.mpr ⟨⟨mo_ic _ _, Or.inl (ok_iconst (n := 5) (v := 5) (by decide) (by decide +kernel))⟩,
  List.forall_mem_cons.mpr ⟨⟨mo_if2 _ _ _, Or.inl (ok_icmp_ge (off := 27) (by decide) (by decide +kernel))⟩,
  List.forall_mem_cons.mpr ⟨⟨mo_al _ _, Or.inl (ok_aload_n (k := 0) rfl (by decide +kernel))⟩,
  List.forall_mem_cons.mpr ⟨⟨mo_gr _ _ _ _, Or.inl (ok_gr (C := RX11) (T := TX11) (N := 93) (ci := 11) (k := 86) rfl inX11 (by decide) fl_X11_256 (by decide +kernel) (by decide +kernel))⟩,
  List.forall_mem_cons.mpr ⟨⟨mo_il _ _, Or.inl (ok_iload (by decide +kernel))⟩,
  List.forall_mem_cons.mpr ⟨⟨mo_al _ _, Or.inl (ok_aload_n (k := 0) rfl (by decide +kernel))⟩,
  List.forall_mem_cons.mpr ⟨⟨mo_gr _ _ _ _, Or.inl (ok_gr (C := RX11) (T := TX11) (N := 93) (ci := 11) (k := 63) rfl inX11 (by decide) fl_X11_214 (by decide +kernel) (by decide +kernel))⟩,
  List.forall_mem_cons.mpr ⟨⟨mo_ic _ _, Or.inl (ok_iconst (n := 5) (v := 5) (by decide) (by decide +kernel))⟩,
  List.forall_mem_cons.mpr ⟨⟨mo_il _ _, Or.inl (ok_iload_n (k := 2) rfl (by decide +kernel))⟩,
  List.forall_mem_cons.mpr ⟨⟨mo_bin _ _, Or.inl (ok_imul (by decide +kernel))⟩,
  List.forall_mem_cons.mpr ⟨⟨mo_il _ _, Or.inl (ok_iload (by decide +kernel))⟩,
  List.forall_mem_cons.mpr ⟨⟨mo_bin _ _, Or.inl (ok_iadd (by decide +kernel))⟩,
  List.forall_mem_cons.mpr ⟨⟨mo_ald _ _ _, Or.inl (ok_iald (by decide +kernel))⟩,
  List.forall_mem_cons.mpr ⟨⟨mo_ast _ _ _ _, Or.inl (ok_iast (by decide +kernel))⟩,
  fun _ h => absurd h List.not_mem_nil⟩⟩⟩⟩⟩⟩⟩⟩⟩⟩⟩⟩⟩⟩⟩⟩⟩⟩⟩⟩
def t_X11_wedding_2 : List (Nat × am_F) := [(62, im_iinc 5 1 65), (65, im_go 38), (68, im_al 0 69), (69, im_il 4 71), (71, im_pi q_SH 11 82 74), (74, im_ic 0 75), (75, im_is 5 77), (77, im_il 5 79), (79, im_ic 5 80), (80, im_if2 ic_ge 107 83), (83, im_al 0 84), (84, im_gr q_SH 11 87 87), (87, im_il 5 89), (89, im_al 0 90), (90, im_gr q_SH 11 63 93), (93, im_ic 5 94), (94, im_il 1 95), (95, im_bin (fun x y => x * y) 96), (96, im_il 5 98), (98, im_bin (fun x y => x + y) 99)]
set_option maxRecDepth 20000 in
theorem o_X11_wedding_2 : ∀ q ∈ t_X11_wedding_2, am_ok vwCl q_SH ξ (q_E ξ β xs L) q_EN q_KD q_ML (cX11_wedding, 6, RX11, "wedding", none, []) q.1 q.2 :=
  List.forall_mem_cons.mpr ⟨⟨mo_iinc _ _ _, Or.inl (ok_iinc (n := 1) (v := 1) (by decide) (by decide) (by decide +kernel))⟩,
  List.forall_mem_cons.mpr ⟨⟨mo_go _, Or.inl (ok_goto (off := (-27)) (by decide) (by decide +kernel))⟩,
  List.forall_mem_cons.mpr ⟨⟨mo_al _ _, Or.inl (ok_aload_n (k := 0) rfl (by decide +kernel))⟩,
  List.forall_mem_cons.mpr ⟨⟨mo_il _ _, Or.inl (ok_iload (by decide +kernel))⟩,
  List.forall_mem_cons.mpr ⟨⟨mo_pi _ _ _ _, Or.inl (ok_pi (ty := .int) (C := RX11) (T := TX11) (N := 93) (ci := 11) (k := 82) rfl inX11 (by decide) fl_X11_420 (by decide +kernel) tyX11 tyX11_ok nmX11 (by decide +kernel) (by decide +kernel) (by decide +kernel))⟩,
  List.forall_mem_cons.mpr ⟨⟨mo_ic _ _, Or.inl (ok_iconst (n := 0) (v := 0) (by decide) (by decide +kernel))⟩,
  List.forall_mem_cons.mpr ⟨⟨mo_is _ _, Or.inl (ok_istore (by decide) (by decide +kernel))⟩,
  List.forall_mem_cons.mpr ⟨⟨mo_il _ _, Or.inl (ok_iload (by decide +kernel))⟩,
  List.forall_mem_cons.mpr ⟨⟨mo_ic _ _, Or.inl (ok_iconst (n := 5) (v := 5) (by decide) (by decide +kernel))⟩,
  List.forall_mem_cons.mpr ⟨⟨mo_if2 _ _ _, Or.inl (ok_icmp_ge (off := 27) (by decide) (by decide +kernel))⟩,
  List.forall_mem_cons.mpr ⟨⟨mo_al _ _, Or.inl (ok_aload_n (k := 0) rfl (by decide +kernel))⟩,
  List.forall_mem_cons.mpr ⟨⟨mo_gr _ _ _ _, Or.inl (ok_gr (C := RX11) (T := TX11) (N := 93) (ci := 11) (k := 87) rfl inX11 (by decide) fl_X11_259 (by decide +kernel) (by decide +kernel))⟩,
  List.forall_mem_cons.mpr ⟨⟨mo_il _ _, Or.inl (ok_iload (by decide +kernel))⟩,
  List.forall_mem_cons.mpr ⟨⟨mo_al _ _, Or.inl (ok_aload_n (k := 0) rfl (by decide +kernel))⟩,
  List.forall_mem_cons.mpr ⟨⟨mo_gr _ _ _ _, Or.inl (ok_gr (C := RX11) (T := TX11) (N := 93) (ci := 11) (k := 63) rfl inX11 (by decide) fl_X11_214 (by decide +kernel) (by decide +kernel))⟩,
  List.forall_mem_cons.mpr ⟨⟨mo_ic _ _, Or.inl (ok_iconst (n := 5) (v := 5) (by decide) (by decide +kernel))⟩,
  List.forall_mem_cons.mpr ⟨⟨mo_il _ _, Or.inl (ok_iload_n (k := 1) rfl (by decide +kernel))⟩,
  List.forall_mem_cons.mpr ⟨⟨mo_bin _ _, Or.inl (ok_imul (by decide +kernel))⟩,
  List.forall_mem_cons.mpr ⟨⟨mo_il _ _, Or.inl (ok_iload (by decide +kernel))⟩,
  List.forall_mem_cons.mpr ⟨⟨mo_bin _ _, Or.inl (ok_iadd (by decide +kernel))⟩,
  fun _ h => absurd h List.not_mem_nil⟩⟩⟩⟩⟩⟩⟩⟩⟩⟩⟩⟩⟩⟩⟩⟩⟩⟩⟩⟩
def t_X11_wedding_3 : List (Nat × am_F) := [(99, im_ald q_SH .int 100), (100, im_ast q_SH .int (fun x => x) 101), (101, im_iinc 5 1 104), (104, im_go 77), (107, im_al 0 108), (108, im_il 1 109), (109, im_ic 0 110), (110, im_al 0 111), (111, im_gi q_SH 11 3 114), (114, im_ic 1 115), (115, im_bin (fun x y => x - y) 116), (116, im_inv q_SH 11 158 3 119), (119, im_al 0 120), (120, im_il 3 121), (121, im_pi q_SH 11 82 124), (124, im_ic 0 125), (125, im_is 5 127), (127, im_il 5 129), (129, im_ic 5 130), (130, im_if2 ic_ge 153 133)]
set_option maxRecDepth 20000 in
theorem o_X11_wedding_3 : ∀ q ∈ t_X11_wedding_3, am_ok vwCl q_SH ξ (q_E ξ β xs L) q_EN q_KD q_ML (cX11_wedding, 6, RX11, "wedding", none, []) q.1 q.2 :=
  List.forall_mem_cons.mpr ⟨⟨mo_ald _ _ _, Or.inl (ok_iald (by decide +kernel))⟩,
  List.forall_mem_cons.mpr ⟨⟨mo_ast _ _ _ _, Or.inl (ok_iast (by decide +kernel))⟩,
  List.forall_mem_cons.mpr ⟨⟨mo_iinc _ _ _, Or.inl (ok_iinc (n := 1) (v := 1) (by decide) (by decide) (by decide +kernel))⟩,
  List.forall_mem_cons.mpr ⟨⟨mo_go _, Or.inl (ok_goto (off := (-27)) (by decide) (by decide +kernel))⟩,
  List.forall_mem_cons.mpr ⟨⟨mo_al _ _, Or.inl (ok_aload_n (k := 0) rfl (by decide +kernel))⟩,
  List.forall_mem_cons.mpr ⟨⟨mo_il _ _, Or.inl (ok_iload_n (k := 1) rfl (by decide +kernel))⟩,
  List.forall_mem_cons.mpr ⟨⟨mo_ic _ _, Or.inl (ok_iconst (n := 0) (v := 0) (by decide) (by decide +kernel))⟩,
  List.forall_mem_cons.mpr ⟨⟨mo_al _ _, Or.inl (ok_aload_n (k := 0) rfl (by decide +kernel))⟩,
  List.forall_mem_cons.mpr ⟨⟨mo_gi _ _ _ _, Or.inl (ok_gi (C := RX11) (T := TX11) (N := 93) (ci := 11) (k := 3) rfl inX11 (by decide) fl_X11_7 (by decide +kernel) (by decide +kernel))⟩,
  List.forall_mem_cons.mpr ⟨⟨mo_ic _ _, Or.inl (ok_iconst (n := 1) (v := 1) (by decide) (by decide +kernel))⟩,
  List.forall_mem_cons.mpr ⟨⟨mo_bin _ _, Or.inl (ok_isub (by decide +kernel))⟩,
  List.forall_mem_cons.mpr ⟨⟨mo_inv _ _ _ _ _, Or.inr (Or.inl (ok_inv (T := TX11) (N := 93) rfl cw_X11_asks (by decide) (by decide) ml_X11_401 ci_X11_asks cv_X11_asks (show Cond.initialized (yX11_asks).cls ∈ am_ts from ci9_RX11) ⟨by decide +kernel, by decide +kernel, by decide +kernel⟩ rfl (by decide +kernel)))⟩,
  List.forall_mem_cons.mpr ⟨⟨mo_al _ _, Or.inl (ok_aload_n (k := 0) rfl (by decide +kernel))⟩,
  List.forall_mem_cons.mpr ⟨⟨mo_il _ _, Or.inl (ok_iload_n (k := 3) rfl (by decide +kernel))⟩,
  List.forall_mem_cons.mpr ⟨⟨mo_pi _ _ _ _, Or.inl (ok_pi (ty := .int) (C := RX11) (T := TX11) (N := 93) (ci := 11) (k := 82) rfl inX11 (by decide) fl_X11_420 (by decide +kernel) tyX11 tyX11_ok nmX11 (by decide +kernel) (by decide +kernel) (by decide +kernel))⟩,
  List.forall_mem_cons.mpr ⟨⟨mo_ic _ _, Or.inl (ok_iconst (n := 0) (v := 0) (by decide) (by decide +kernel))⟩,
  List.forall_mem_cons.mpr ⟨⟨mo_is _ _, Or.inl (ok_istore (by decide) (by decide +kernel))⟩,
  List.forall_mem_cons.mpr ⟨⟨mo_il _ _, Or.inl (ok_iload (by decide +kernel))⟩,
  List.forall_mem_cons.mpr ⟨⟨mo_ic _ _, Or.inl (ok_iconst (n := 5) (v := 5) (by decide) (by decide +kernel))⟩,
  List.forall_mem_cons.mpr ⟨⟨mo_if2 _ _ _, Or.inl (ok_icmp_ge (off := 23) (by decide) (by decide +kernel))⟩,
  fun _ h => absurd h List.not_mem_nil⟩⟩⟩⟩⟩⟩⟩⟩⟩⟩⟩⟩⟩⟩⟩⟩⟩⟩⟩⟩
def t_X11_wedding_4 : List (Nat × am_F) := [(133, im_al 0 134), (134, im_gr q_SH 11 86 137), (137, im_il 5 139), (139, im_al 0 140), (140, im_gr q_SH 11 87 143), (143, im_il 5 145), (145, im_ald q_SH .int 146), (146, im_ast q_SH .int (fun x => x) 147), (147, im_iinc 5 1 150), (150, im_go 127), (153, im_al 0 154), (154, im_il 2 155), (155, im_ic 0 156), (156, im_al 0 157), (157, im_gi q_SH 11 3 160), (160, im_ic 1 161), (161, im_bin (fun x y => x - y) 162), (162, im_inv q_SH 11 158 3 165), (165, im_ret0e)]
set_option maxRecDepth 20000 in
theorem o_X11_wedding_4 : ∀ q ∈ t_X11_wedding_4, am_ok vwCl q_SH ξ (q_E ξ β xs L) q_EN q_KD q_ML (cX11_wedding, 6, RX11, "wedding", none, []) q.1 q.2 :=
  List.forall_mem_cons.mpr ⟨⟨mo_al _ _, Or.inl (ok_aload_n (k := 0) rfl (by decide +kernel))⟩,
  List.forall_mem_cons.mpr ⟨⟨mo_gr _ _ _ _, Or.inl (ok_gr (C := RX11) (T := TX11) (N := 93) (ci := 11) (k := 86) rfl inX11 (by decide) fl_X11_256 (by decide +kernel) (by decide +kernel))⟩,
  List.forall_mem_cons.mpr ⟨⟨mo_il _ _, Or.inl (ok_iload (by decide +kernel))⟩,
  List.forall_mem_cons.mpr ⟨⟨mo_al _ _, Or.inl (ok_aload_n (k := 0) rfl (by decide +kernel))⟩,
  List.forall_mem_cons.mpr ⟨⟨mo_gr _ _ _ _, Or.inl (ok_gr (C := RX11) (T := TX11) (N := 93) (ci := 11) (k := 87) rfl inX11 (by decide) fl_X11_259 (by decide +kernel) (by decide +kernel))⟩,
  List.forall_mem_cons.mpr ⟨⟨mo_il _ _, Or.inl (ok_iload (by decide +kernel))⟩,
  List.forall_mem_cons.mpr ⟨⟨mo_ald _ _ _, Or.inl (ok_iald (by decide +kernel))⟩,
  List.forall_mem_cons.mpr ⟨⟨mo_ast _ _ _ _, Or.inl (ok_iast (by decide +kernel))⟩,
  List.forall_mem_cons.mpr ⟨⟨mo_iinc _ _ _, Or.inl (ok_iinc (n := 1) (v := 1) (by decide) (by decide) (by decide +kernel))⟩,
  List.forall_mem_cons.mpr ⟨⟨mo_go _, Or.inl (ok_goto (off := (-23)) (by decide) (by decide +kernel))⟩,
  List.forall_mem_cons.mpr ⟨⟨mo_al _ _, Or.inl (ok_aload_n (k := 0) rfl (by decide +kernel))⟩,
  List.forall_mem_cons.mpr ⟨⟨mo_il _ _, Or.inl (ok_iload_n (k := 2) rfl (by decide +kernel))⟩,
  List.forall_mem_cons.mpr ⟨⟨mo_ic _ _, Or.inl (ok_iconst (n := 0) (v := 0) (by decide) (by decide +kernel))⟩,
  List.forall_mem_cons.mpr ⟨⟨mo_al _ _, Or.inl (ok_aload_n (k := 0) rfl (by decide +kernel))⟩,
  List.forall_mem_cons.mpr ⟨⟨mo_gi _ _ _ _, Or.inl (ok_gi (C := RX11) (T := TX11) (N := 93) (ci := 11) (k := 3) rfl inX11 (by decide) fl_X11_7 (by decide +kernel) (by decide +kernel))⟩,
  List.forall_mem_cons.mpr ⟨⟨mo_ic _ _, Or.inl (ok_iconst (n := 1) (v := 1) (by decide) (by decide +kernel))⟩,
  List.forall_mem_cons.mpr ⟨⟨mo_bin _ _, Or.inl (ok_isub (by decide +kernel))⟩,
  List.forall_mem_cons.mpr ⟨⟨mo_inv _ _ _ _ _, Or.inr (Or.inl (ok_inv (T := TX11) (N := 93) rfl cw_X11_asks (by decide) (by decide) ml_X11_401 ci_X11_asks cv_X11_asks (show Cond.initialized (yX11_asks).cls ∈ am_ts from ci9_RX11) ⟨by decide +kernel, by decide +kernel, by decide +kernel⟩ rfl (by decide +kernel)))⟩,
  List.forall_mem_cons.mpr ⟨⟨mo_ret0e, Or.inr (Or.inr (ok_ret0 rfl (by decide +kernel)))⟩,
  fun _ h => absurd h List.not_mem_nil⟩⟩⟩⟩⟩⟩⟩⟩⟩⟩⟩⟩⟩⟩⟩⟩⟩⟩⟩
def t_X11_wedding : List (Nat × am_F) := t_X11_wedding_0 ++ (t_X11_wedding_1 ++ (t_X11_wedding_2 ++ (t_X11_wedding_3 ++ (t_X11_wedding_4))))
theorem o_X11_wedding : ∀ q ∈ t_X11_wedding, am_ok vwCl q_SH ξ (q_E ξ β xs L) q_EN q_KD q_ML (cX11_wedding, 6, RX11, "wedding", none, []) q.1 q.2 := List.forall_mem_append.mpr ⟨o_X11_wedding_0, List.forall_mem_append.mpr ⟨o_X11_wedding_1, List.forall_mem_append.mpr ⟨o_X11_wedding_2, List.forall_mem_append.mpr ⟨o_X11_wedding_3, o_X11_wedding_4⟩⟩⟩⟩
def t_X11_border_0 : List (Nat × am_F) := [(0, im_al 0 1), (1, im_gr q_SH 11 61 4), (4, im_il 1 5), (5, im_al 0 6), (6, im_gi q_SH 11 80 9), (9, im_ast q_SH .int (fun x => x) 10), (10, im_al 0 11), (11, im_gr q_SH 11 62 14), (14, im_il 1 15), (15, im_al 0 16), (16, im_gi q_SH 11 76 19), (19, im_ast q_SH .int (fun x => x) 20), (20, im_al 0 21), (21, im_ic 13 23), (23, im_pi q_SH 11 78 26), (26, im_ic 0 27), (27, im_is 2 28), (28, im_il 2 29), (29, im_al 0 30), (30, im_gi q_SH 11 5 33)]
set_option maxRecDepth 20000 in
theorem o_X11_border_0 : ∀ q ∈ t_X11_border_0, am_ok vwCl q_SH ξ (q_E ξ β xs L) q_EN q_KD q_ML (cX11_border, 3, RX11, "border", none, []) q.1 q.2 :=
  List.forall_mem_cons.mpr ⟨⟨mo_al _ _, Or.inl (ok_aload_n (k := 0) rfl (by decide +kernel))⟩,
  List.forall_mem_cons.mpr ⟨⟨mo_gr _ _ _ _, Or.inl (ok_gr (C := RX11) (T := TX11) (N := 93) (ci := 11) (k := 61) rfl inX11 (by decide) fl_X11_208 (by decide +kernel) (by decide +kernel))⟩,
  List.forall_mem_cons.mpr ⟨⟨mo_il _ _, Or.inl (ok_iload_n (k := 1) rfl (by decide +kernel))⟩,
  List.forall_mem_cons.mpr ⟨⟨mo_al _ _, Or.inl (ok_aload_n (k := 0) rfl (by decide +kernel))⟩,
  List.forall_mem_cons.mpr ⟨⟨mo_gi _ _ _ _, Or.inl (ok_gi (C := RX11) (T := TX11) (N := 93) (ci := 11) (k := 80) rfl inX11 (by decide) fl_X11_395 (by decide +kernel) (by decide +kernel))⟩,
  List.forall_mem_cons.mpr ⟨⟨mo_ast _ _ _ _, Or.inl (ok_iast (by decide +kernel))⟩,
  List.forall_mem_cons.mpr ⟨⟨mo_al _ _, Or.inl (ok_aload_n (k := 0) rfl (by decide +kernel))⟩,
  List.forall_mem_cons.mpr ⟨⟨mo_gr _ _ _ _, Or.inl (ok_gr (C := RX11) (T := TX11) (N := 93) (ci := 11) (k := 62) rfl inX11 (by decide) fl_X11_211 (by decide +kernel) (by decide +kernel))⟩,
  List.forall_mem_cons.mpr ⟨⟨mo_il _ _, Or.inl (ok_iload_n (k := 1) rfl (by decide +kernel))⟩,
  List.forall_mem_cons.mpr ⟨⟨mo_al _ _, Or.inl (ok_aload_n (k := 0) rfl (by decide +kernel))⟩,
  List.forall_mem_cons.mpr ⟨⟨mo_gi _ _ _ _, Or.inl (ok_gi (C := RX11) (T := TX11) (N := 93) (ci := 11) (k := 76) rfl inX11 (by decide) fl_X11_373 (by decide +kernel) (by decide +kernel))⟩,
  List.forall_mem_cons.mpr ⟨⟨mo_ast _ _ _ _, Or.inl (ok_iast (by decide +kernel))⟩,
  List.forall_mem_cons.mpr ⟨⟨mo_al _ _, Or.inl (ok_aload_n (k := 0) rfl (by decide +kernel))⟩,
  List.forall_mem_cons.mpr ⟨⟨mo_ic _ _, Or.inl (ok_bipush (n := 13) (v := 13) (by decide) (by decide +kernel))⟩,
  List.forall_mem_cons.mpr ⟨⟨mo_pi _ _ _ _, Or.inl (ok_pi (ty := .int) (C := RX11) (T := TX11) (N := 93) (ci := 11) (k := 78) rfl inX11 (by decide) fl_X11_389 (by decide +kernel) tyX11 tyX11_ok nmX11 (by decide +kernel) (by decide +kernel) (by decide +kernel))⟩,
  List.forall_mem_cons.mpr ⟨⟨mo_ic _ _, Or.inl (ok_iconst (n := 0) (v := 0) (by decide) (by decide +kernel))⟩,
  List.forall_mem_cons.mpr ⟨⟨mo_is _ _, Or.inl (ok_istore_n (k := 2) rfl (by decide) (by decide +kernel))⟩,
  List.forall_mem_cons.mpr ⟨⟨mo_il _ _, Or.inl (ok_iload_n (k := 2) rfl (by decide +kernel))⟩,
  List.forall_mem_cons.mpr ⟨⟨mo_al _ _, Or.inl (ok_aload_n (k := 0) rfl (by decide +kernel))⟩,
  List.forall_mem_cons.mpr ⟨⟨mo_gi _ _ _ _, Or.inl (ok_gi (C := RX11) (T := TX11) (N := 93) (ci := 11) (k := 5) rfl inX11 (by decide) fl_X11_20 (by decide +kernel) (by decide +kernel))⟩,
  fun _ h => absurd h List.not_mem_nil⟩⟩⟩⟩⟩⟩⟩⟩⟩⟩⟩⟩⟩⟩⟩⟩⟩⟩⟩⟩
def t_X11_border_1 : List (Nat × am_F) := [(33, im_if2 ic_ge 54 36), (36, im_al 0 37), (37, im_il 2 38), (38, im_ic 0 39), (39, im_al 0 40), (40, im_gi q_SH 11 3 43), (43, im_ic 1 44), (44, im_bin (fun x y => x - y) 45), (45, im_inv q_SH 11 158 3 48), (48, im_iinc 2 1 51), (51, im_go 28), (54, im_ret0e)]
set_option maxRecDepth 20000 in
theorem o_X11_border_1 : ∀ q ∈ t_X11_border_1, am_ok vwCl q_SH ξ (q_E ξ β xs L) q_EN q_KD q_ML (cX11_border, 3, RX11, "border", none, []) q.1 q.2 :=
  List.forall_mem_cons.mpr ⟨⟨mo_if2 _ _ _, Or.inl (ok_icmp_ge (off := 21) (by decide) (by decide +kernel))⟩,
  List.forall_mem_cons.mpr ⟨⟨mo_al _ _, Or.inl (ok_aload_n (k := 0) rfl (by decide +kernel))⟩,
  List.forall_mem_cons.mpr ⟨⟨mo_il _ _, Or.inl (ok_iload_n (k := 2) rfl (by decide +kernel))⟩,
  List.forall_mem_cons.mpr ⟨⟨mo_ic _ _, Or.inl (ok_iconst (n := 0) (v := 0) (by decide) (by decide +kernel))⟩,
  List.forall_mem_cons.mpr ⟨⟨mo_al _ _, Or.inl (ok_aload_n (k := 0) rfl (by decide +kernel))⟩,
  List.forall_mem_cons.mpr ⟨⟨mo_gi _ _ _ _, Or.inl (ok_gi (C := RX11) (T := TX11) (N := 93) (ci := 11) (k := 3) rfl inX11 (by decide) fl_X11_7 (by decide +kernel) (by decide +kernel))⟩,
  List.forall_mem_cons.mpr ⟨⟨mo_ic _ _, Or.inl (ok_iconst (n := 1) (v := 1) (by decide) (by decide +kernel))⟩,
  List.forall_mem_cons.mpr ⟨⟨mo_bin _ _, Or.inl (ok_isub (by decide +kernel))⟩,
  List.forall_mem_cons.mpr ⟨⟨mo_inv _ _ _ _ _, Or.inr (Or.inl (ok_inv (T := TX11) (N := 93) rfl cw_X11_asks (by decide) (by decide) ml_X11_401 ci_X11_asks cv_X11_asks (show Cond.initialized (yX11_asks).cls ∈ am_ts from ci9_RX11) ⟨by decide +kernel, by decide +kernel, by decide +kernel⟩ rfl (by decide +kernel)))⟩,
  List.forall_mem_cons.mpr ⟨⟨mo_iinc _ _ _, Or.inl (ok_iinc (n := 1) (v := 1) (by decide) (by decide) (by decide +kernel))⟩,
  List.forall_mem_cons.mpr ⟨⟨mo_go _, Or.inl (ok_goto (off := (-23)) (by decide) (by decide +kernel))⟩,
  List.forall_mem_cons.mpr ⟨⟨mo_ret0e, Or.inr (Or.inr (ok_ret0 rfl (by decide +kernel)))⟩,
  fun _ h => absurd h List.not_mem_nil⟩⟩⟩⟩⟩⟩⟩⟩⟩⟩⟩⟩
def t_X11_border : List (Nat × am_F) := t_X11_border_0 ++ (t_X11_border_1)
theorem o_X11_border : ∀ q ∈ t_X11_border, am_ok vwCl q_SH ξ (q_E ξ β xs L) q_EN q_KD q_ML (cX11_border, 3, RX11, "border", none, []) q.1 q.2 := List.forall_mem_append.mpr ⟨o_X11_border_0, o_X11_border_1⟩
def t_X11_stays_0 : List (Nat × am_F) := [(0, im_al 0 1), (1, im_gr q_SH 11 59 4), (4, im_il 1 5), (5, im_il 2 6), (6, im_ast q_SH .int (fun x => x) 7), (7, im_al 0 8), (8, im_gr q_SH 11 60 11), (11, im_il 1 12), (12, im_al 0 13), (13, im_gi q_SH 11 76 16), (16, im_ast q_SH .int (fun x => x) 17), (17, im_ret0e)]
set_option maxRecDepth 20000 in
theorem o_X11_stays_0 : ∀ q ∈ t_X11_stays_0, am_ok vwCl q_SH ξ (q_E ξ β xs L) q_EN q_KD q_ML (cX11_stays, 3, RX11, "stays", none, []) q.1 q.2 :=
  List.forall_mem_cons.mpr ⟨⟨mo_al _ _, Or.inl (ok_aload_n (k := 0) rfl (by decide +kernel))⟩,
  List.forall_mem_cons.mpr ⟨⟨mo_gr _ _ _ _, Or.inl (ok_gr (C := RX11) (T := TX11) (N := 93) (ci := 11) (k := 59) rfl inX11 (by decide) fl_X11_202 (by decide +kernel) (by decide +kernel))⟩,
  List.forall_mem_cons.mpr ⟨⟨mo_il _ _, Or.inl (ok_iload_n (k := 1) rfl (by decide +kernel))⟩,
  List.forall_mem_cons.mpr ⟨⟨mo_il _ _, Or.inl (ok_iload_n (k := 2) rfl (by decide +kernel))⟩,
  List.forall_mem_cons.mpr ⟨⟨mo_ast _ _ _ _, Or.inl (ok_iast (by decide +kernel))⟩,
  List.forall_mem_cons.mpr ⟨⟨mo_al _ _, Or.inl (ok_aload_n (k := 0) rfl (by decide +kernel))⟩,
  List.forall_mem_cons.mpr ⟨⟨mo_gr _ _ _ _, Or.inl (ok_gr (C := RX11) (T := TX11) (N := 93) (ci := 11) (k := 60) rfl inX11 (by decide) fl_X11_205 (by decide +kernel) (by decide +kernel))⟩,
  List.forall_mem_cons.mpr ⟨⟨mo_il _ _, Or.inl (ok_iload_n (k := 1) rfl (by decide +kernel))⟩,
  List.forall_mem_cons.mpr ⟨⟨mo_al _ _, Or.inl (ok_aload_n (k := 0) rfl (by decide +kernel))⟩,
  List.forall_mem_cons.mpr ⟨⟨mo_gi _ _ _ _, Or.inl (ok_gi (C := RX11) (T := TX11) (N := 93) (ci := 11) (k := 76) rfl inX11 (by decide) fl_X11_373 (by decide +kernel) (by decide +kernel))⟩,
  List.forall_mem_cons.mpr ⟨⟨mo_ast _ _ _ _, Or.inl (ok_iast (by decide +kernel))⟩,
  List.forall_mem_cons.mpr ⟨⟨mo_ret0e, Or.inr (Or.inr (ok_ret0 rfl (by decide +kernel)))⟩,
  fun _ h => absurd h List.not_mem_nil⟩⟩⟩⟩⟩⟩⟩⟩⟩⟩⟩⟩
def t_X11_stays : List (Nat × am_F) := t_X11_stays_0
theorem o_X11_stays : ∀ q ∈ t_X11_stays, am_ok vwCl q_SH ξ (q_E ξ β xs L) q_EN q_KD q_ML (cX11_stays, 3, RX11, "stays", none, []) q.1 q.2 := o_X11_stays_0
def t_X11_bit_0 : List (Nat × am_F) := [(0, im_il 0 1), (1, im_if1 ib_eq 8 4), (4, im_ic 1 5), (5, im_go 9), (8, im_ic 0 9), (9, im_reti)]
set_option maxRecDepth 20000 in
theorem o_X11_bit_0 : ∀ q ∈ t_X11_bit_0, am_ok vwCl q_SH ξ (q_E ξ β xs L) q_EN q_KD q_ML (cX11_bit, 1, RX11, "bit", (some .int), []) q.1 q.2 :=
  List.forall_mem_cons.mpr ⟨⟨mo_il _ _, Or.inl (ok_iload_n (k := 0) rfl (by decide +kernel))⟩,
  List.forall_mem_cons.mpr ⟨⟨mo_if1 _ _ _, Or.inl (ok_if_eq (off := 7) (by decide) (by decide +kernel))⟩,
  List.forall_mem_cons.mpr ⟨⟨mo_ic _ _, Or.inl (ok_iconst (n := 1) (v := 1) (by decide) (by decide +kernel))⟩,
  List.forall_mem_cons.mpr ⟨⟨mo_go _, Or.inl (ok_goto (off := 4) (by decide) (by decide +kernel))⟩,
  List.forall_mem_cons.mpr ⟨⟨mo_ic _ _, Or.inl (ok_iconst (n := 0) (v := 0) (by decide) (by decide +kernel))⟩,
  List.forall_mem_cons.mpr ⟨⟨mo_reti, Or.inr (Or.inr (ok_reti rfl (by decide +kernel)))⟩,
  fun _ h => absurd h List.not_mem_nil⟩⟩⟩⟩⟩⟩
def t_X11_bit : List (Nat × am_F) := t_X11_bit_0
theorem o_X11_bit : ∀ q ∈ t_X11_bit, am_ok vwCl q_SH ξ (q_E ξ β xs L) q_EN q_KD q_ML (cX11_bit, 1, RX11, "bit", (some .int), []) q.1 q.2 := o_X11_bit_0
def t_X11_has_0 : List (Nat × am_F) := [(0, im_il 1 1), (1, im_ic (-1) 2), (2, im_if2 ic_eq 23 5), (5, im_al 0 6), (6, im_gr q_SH 11 55 9), (9, im_il 1 10), (10, im_ald q_SH .int 11), (11, im_il 2 12), (12, im_bin (fun x y => x >>> (y &&& 31)) 13), (13, im_ic 1 14), (14, im_bin (fun x y => x &&& y) 15), (15, im_ic 1 16), (16, im_if2 ic_ne 23 19), (19, im_ic 1 20), (20, im_go 24), (23, im_ic 0 24), (24, im_retz)]
set_option maxRecDepth 20000 in
theorem o_X11_has_0 : ∀ q ∈ t_X11_has_0, am_ok vwCl q_SH ξ (q_E ξ β xs L) q_EN q_KD q_ML (cX11_has, 3, RX11, "has", (some .boolean), []) q.1 q.2 :=
  List.forall_mem_cons.mpr ⟨⟨mo_il _ _, Or.inl (ok_iload_n (k := 1) rfl (by decide +kernel))⟩,
  List.forall_mem_cons.mpr ⟨⟨mo_ic _ _, Or.inl (ok_iconst (n := (-1)) (v := (-1)) (by decide) (by decide +kernel))⟩,
  List.forall_mem_cons.mpr ⟨⟨mo_if2 _ _ _, Or.inl (ok_icmp_eq (off := 21) (by decide) (by decide +kernel))⟩,
  List.forall_mem_cons.mpr ⟨⟨mo_al _ _, Or.inl (ok_aload_n (k := 0) rfl (by decide +kernel))⟩,
  List.forall_mem_cons.mpr ⟨⟨mo_gr _ _ _ _, Or.inl (ok_gr (C := RX11) (T := TX11) (N := 93) (ci := 11) (k := 55) rfl inX11 (by decide) fl_X11_190 (by decide +kernel) (by decide +kernel))⟩,
  List.forall_mem_cons.mpr ⟨⟨mo_il _ _, Or.inl (ok_iload_n (k := 1) rfl (by decide +kernel))⟩,
  List.forall_mem_cons.mpr ⟨⟨mo_ald _ _ _, Or.inl (ok_iald (by decide +kernel))⟩,
  List.forall_mem_cons.mpr ⟨⟨mo_il _ _, Or.inl (ok_iload_n (k := 2) rfl (by decide +kernel))⟩,
  List.forall_mem_cons.mpr ⟨⟨mo_bin _ _, Or.inl (ok_ishr (by decide +kernel))⟩,
  List.forall_mem_cons.mpr ⟨⟨mo_ic _ _, Or.inl (ok_iconst (n := 1) (v := 1) (by decide) (by decide +kernel))⟩,
  List.forall_mem_cons.mpr ⟨⟨mo_bin _ _, Or.inl (ok_iand (by decide +kernel))⟩,
  List.forall_mem_cons.mpr ⟨⟨mo_ic _ _, Or.inl (ok_iconst (n := 1) (v := 1) (by decide) (by decide +kernel))⟩,
  List.forall_mem_cons.mpr ⟨⟨mo_if2 _ _ _, Or.inl (ok_icmp_ne (off := 7) (by decide) (by decide +kernel))⟩,
  List.forall_mem_cons.mpr ⟨⟨mo_ic _ _, Or.inl (ok_iconst (n := 1) (v := 1) (by decide) (by decide +kernel))⟩,
  List.forall_mem_cons.mpr ⟨⟨mo_go _, Or.inl (ok_goto (off := 4) (by decide) (by decide +kernel))⟩,
  List.forall_mem_cons.mpr ⟨⟨mo_ic _ _, Or.inl (ok_iconst (n := 0) (v := 0) (by decide) (by decide +kernel))⟩,
  List.forall_mem_cons.mpr ⟨⟨mo_retz, Or.inr (Or.inr (ok_retz rfl (by decide +kernel)))⟩,
  fun _ h => absurd h List.not_mem_nil⟩⟩⟩⟩⟩⟩⟩⟩⟩⟩⟩⟩⟩⟩⟩⟩⟩
def t_X11_has : List (Nat × am_F) := t_X11_has_0
theorem o_X11_has : ∀ q ∈ t_X11_has, am_ok vwCl q_SH ξ (q_E ξ β xs L) q_EN q_KD q_ML (cX11_has, 3, RX11, "has", (some .boolean), []) q.1 q.2 := o_X11_has_0
def t_X11_sees_0 : List (Nat × am_F) := [(0, im_al 0 1), (1, im_gi q_SH 11 79 4), (4, im_ic (-1) 5), (5, im_if2 ic_eq 15 8), (8, im_al 0 9), (9, im_gi q_SH 11 79 12), (12, im_go 21), (15, im_al 0 16), (16, im_gr q_SH 11 59 19), (19, im_il 1 20), (20, im_ald q_SH .int 21), (21, im_is 3 22), (22, im_al 0 23), (23, im_gr q_SH 11 83 26), (26, im_ic 0 27), (27, im_il 3 28), (28, im_ic (-1) 29), (29, im_if2 ic_eq 46 32), (32, im_al 0 33), (33, im_gr q_SH 11 61 36)]
set_option maxRecDepth 20000 in
theorem o_X11_sees_0 : ∀ q ∈ t_X11_sees_0, am_ok vwCl q_SH ξ (q_E ξ β xs L) q_EN q_KD q_ML (cX11_sees, 7, RX11, "sees", none, []) q.1 q.2 :=
  List.forall_mem_cons.mpr ⟨⟨mo_al _ _, Or.inl (ok_aload_n (k := 0) rfl (by decide +kernel))⟩,
  List.forall_mem_cons.mpr ⟨⟨mo_gi _ _ _ _, Or.inl (ok_gi (C := RX11) (T := TX11) (N := 93) (ci := 11) (k := 79) rfl inX11 (by decide) fl_X11_392 (by decide +kernel) (by decide +kernel))⟩,
  List.forall_mem_cons.mpr ⟨⟨mo_ic _ _, Or.inl (ok_iconst (n := (-1)) (v := (-1)) (by decide) (by decide +kernel))⟩,
  List.forall_mem_cons.mpr ⟨⟨mo_if2 _ _ _, Or.inl (ok_icmp_eq (off := 10) (by decide) (by decide +kernel))⟩,
  List.forall_mem_cons.mpr ⟨⟨mo_al _ _, Or.inl (ok_aload_n (k := 0) rfl (by decide +kernel))⟩,
  List.forall_mem_cons.mpr ⟨⟨mo_gi _ _ _ _, Or.inl (ok_gi (C := RX11) (T := TX11) (N := 93) (ci := 11) (k := 79) rfl inX11 (by decide) fl_X11_392 (by decide +kernel) (by decide +kernel))⟩,
  List.forall_mem_cons.mpr ⟨⟨mo_go _, Or.inl (ok_goto (off := 9) (by decide) (by decide +kernel))⟩,
  List.forall_mem_cons.mpr ⟨⟨mo_al _ _, Or.inl (ok_aload_n (k := 0) rfl (by decide +kernel))⟩,
  List.forall_mem_cons.mpr ⟨⟨mo_gr _ _ _ _, Or.inl (ok_gr (C := RX11) (T := TX11) (N := 93) (ci := 11) (k := 59) rfl inX11 (by decide) fl_X11_202 (by decide +kernel) (by decide +kernel))⟩,
  List.forall_mem_cons.mpr ⟨⟨mo_il _ _, Or.inl (ok_iload_n (k := 1) rfl (by decide +kernel))⟩,
  List.forall_mem_cons.mpr ⟨⟨mo_ald _ _ _, Or.inl (ok_iald (by decide +kernel))⟩,
  List.forall_mem_cons.mpr ⟨⟨mo_is _ _, Or.inl (ok_istore_n (k := 3) rfl (by decide) (by decide +kernel))⟩,
  List.forall_mem_cons.mpr ⟨⟨mo_al _ _, Or.inl (ok_aload_n (k := 0) rfl (by decide +kernel))⟩,
  List.forall_mem_cons.mpr ⟨⟨mo_gr _ _ _ _, Or.inl (ok_gr (C := RX11) (T := TX11) (N := 93) (ci := 11) (k := 83) rfl inX11 (by decide) fl_X11_247 (by decide +kernel) (by decide +kernel))⟩,
  List.forall_mem_cons.mpr ⟨⟨mo_ic _ _, Or.inl (ok_iconst (n := 0) (v := 0) (by decide) (by decide +kernel))⟩,
  List.forall_mem_cons.mpr ⟨⟨mo_il _ _, Or.inl (ok_iload_n (k := 3) rfl (by decide +kernel))⟩,
  List.forall_mem_cons.mpr ⟨⟨mo_ic _ _, Or.inl (ok_iconst (n := (-1)) (v := (-1)) (by decide) (by decide +kernel))⟩,
  List.forall_mem_cons.mpr ⟨⟨mo_if2 _ _ _, Or.inl (ok_icmp_eq (off := 17) (by decide) (by decide +kernel))⟩,
  List.forall_mem_cons.mpr ⟨⟨mo_al _ _, Or.inl (ok_aload_n (k := 0) rfl (by decide +kernel))⟩,
  List.forall_mem_cons.mpr ⟨⟨mo_gr _ _ _ _, Or.inl (ok_gr (C := RX11) (T := TX11) (N := 93) (ci := 11) (k := 61) rfl inX11 (by decide) fl_X11_208 (by decide +kernel) (by decide +kernel))⟩,
  fun _ h => absurd h List.not_mem_nil⟩⟩⟩⟩⟩⟩⟩⟩⟩⟩⟩⟩⟩⟩⟩⟩⟩⟩⟩⟩
def t_X11_sees_1 : List (Nat × am_F) := [(36, im_il 3 37), (37, im_ald q_SH .int 38), (38, im_il 2 39), (39, im_if2 ic_ne 46 42), (42, im_ic 1 43), (43, im_go 47), (46, im_ic 0 47), (47, im_invs 155 1 50), (50, im_ast q_SH .int (fun x => x) 51), (51, im_al 0 52), (52, im_gr q_SH 11 83 55), (55, im_ic 1 56), (56, im_al 0 57), (57, im_al 0 58), (58, im_gr q_SH 11 9 61), (61, im_il 1 62), (62, im_ald q_SH .int 63), (63, im_il 2 64), (64, im_inv q_SH 11 156 2 67), (67, im_invs 155 1 70)]
set_option maxRecDepth 20000 in
theorem o_X11_sees_1 : ∀ q ∈ t_X11_sees_1, am_ok vwCl q_SH ξ (q_E ξ β xs L) q_EN q_KD q_ML (cX11_sees, 7, RX11, "sees", none, []) q.1 q.2 :=
  List.forall_mem_cons.mpr ⟨⟨mo_il _ _, Or.inl (ok_iload_n (k := 3) rfl (by decide +kernel))⟩,
  List.forall_mem_cons.mpr ⟨⟨mo_ald _ _ _, Or.inl (ok_iald (by decide +kernel))⟩,
  List.forall_mem_cons.mpr ⟨⟨mo_il _ _, Or.inl (ok_iload_n (k := 2) rfl (by decide +kernel))⟩,
  List.forall_mem_cons.mpr ⟨⟨mo_if2 _ _ _, Or.inl (ok_icmp_ne (off := 7) (by decide) (by decide +kernel))⟩,
  List.forall_mem_cons.mpr ⟨⟨mo_ic _ _, Or.inl (ok_iconst (n := 1) (v := 1) (by decide) (by decide +kernel))⟩,
  List.forall_mem_cons.mpr ⟨⟨mo_go _, Or.inl (ok_goto (off := 4) (by decide) (by decide +kernel))⟩,
  List.forall_mem_cons.mpr ⟨⟨mo_ic _ _, Or.inl (ok_iconst (n := 0) (v := 0) (by decide) (by decide +kernel))⟩,
  List.forall_mem_cons.mpr ⟨⟨mo_invs _ _ _, Or.inr (Or.inl (ok_invs cw_X11_bit (by decide) (by decide) ml_X11_423 cs_X11_bit (show Cond.initialized (yX11_bit).cls ∈ am_ts from ci9_RX11) ⟨by decide +kernel, by decide +kernel, by decide +kernel⟩ rfl (by decide +kernel)))⟩,
  List.forall_mem_cons.mpr ⟨⟨mo_ast _ _ _ _, Or.inl (ok_iast (by decide +kernel))⟩,
  List.forall_mem_cons.mpr ⟨⟨mo_al _ _, Or.inl (ok_aload_n (k := 0) rfl (by decide +kernel))⟩,
  List.forall_mem_cons.mpr ⟨⟨mo_gr _ _ _ _, Or.inl (ok_gr (C := RX11) (T := TX11) (N := 93) (ci := 11) (k := 83) rfl inX11 (by decide) fl_X11_247 (by decide +kernel) (by decide +kernel))⟩,
  List.forall_mem_cons.mpr ⟨⟨mo_ic _ _, Or.inl (ok_iconst (n := 1) (v := 1) (by decide) (by decide +kernel))⟩,
  List.forall_mem_cons.mpr ⟨⟨mo_al _ _, Or.inl (ok_aload_n (k := 0) rfl (by decide +kernel))⟩,
  List.forall_mem_cons.mpr ⟨⟨mo_al _ _, Or.inl (ok_aload_n (k := 0) rfl (by decide +kernel))⟩,
  List.forall_mem_cons.mpr ⟨⟨mo_gr _ _ _ _, Or.inl (ok_gr (C := RX11) (T := TX11) (N := 93) (ci := 11) (k := 9) rfl inX11 (by decide) fl_X11_26 (by decide +kernel) (by decide +kernel))⟩,
  List.forall_mem_cons.mpr ⟨⟨mo_il _ _, Or.inl (ok_iload_n (k := 1) rfl (by decide +kernel))⟩,
  List.forall_mem_cons.mpr ⟨⟨mo_ald _ _ _, Or.inl (ok_iald (by decide +kernel))⟩,
  List.forall_mem_cons.mpr ⟨⟨mo_il _ _, Or.inl (ok_iload_n (k := 2) rfl (by decide +kernel))⟩,
  List.forall_mem_cons.mpr ⟨⟨mo_inv _ _ _ _ _, Or.inr (Or.inl (ok_inv (T := TX11) (N := 93) rfl cw_X11_has (by decide) (by decide) ml_X11_427 ci_X11_has cv_X11_has (show Cond.initialized (yX11_has).cls ∈ am_ts from ci9_RX11) ⟨by decide +kernel, by decide +kernel, by decide +kernel⟩ rfl (by decide +kernel)))⟩,
  List.forall_mem_cons.mpr ⟨⟨mo_invs _ _ _, Or.inr (Or.inl (ok_invs cw_X11_bit (by decide) (by decide) ml_X11_423 cs_X11_bit (show Cond.initialized (yX11_bit).cls ∈ am_ts from ci9_RX11) ⟨by decide +kernel, by decide +kernel, by decide +kernel⟩ rfl (by decide +kernel)))⟩,
  fun _ h => absurd h List.not_mem_nil⟩⟩⟩⟩⟩⟩⟩⟩⟩⟩⟩⟩⟩⟩⟩⟩⟩⟩⟩⟩
def t_X11_sees_2 : List (Nat × am_F) := [(70, im_ast q_SH .int (fun x => x) 71), (71, im_al 0 72), (72, im_gr q_SH 11 83 75), (75, im_ic 2 76), (76, im_al 0 77), (77, im_al 0 78), (78, im_gr q_SH 11 10 81), (81, im_il 1 82), (82, im_ald q_SH .int 83), (83, im_il 2 84), (84, im_inv q_SH 11 156 2 87), (87, im_invs 155 1 90), (90, im_ast q_SH .int (fun x => x) 91), (91, im_al 0 92), (92, im_gr q_SH 11 9 95), (95, im_il 1 96), (96, im_ald q_SH .int 97), (97, im_ic (-1) 98), (98, im_if2 ic_eq 155 101), (101, im_al 0 102)]
set_option maxRecDepth 20000 in
theorem o_X11_sees_2 : ∀ q ∈ t_X11_sees_2, am_ok vwCl q_SH ξ (q_E ξ β xs L) q_EN q_KD q_ML (cX11_sees, 7, RX11, "sees", none, []) q.1 q.2 :=
  List.forall_mem_cons.mpr ⟨⟨mo_ast _ _ _ _, Or.inl (ok_iast (by decide +kernel))⟩,
  List.forall_mem_cons.mpr ⟨⟨mo_al _ _, Or.inl (ok_aload_n (k := 0) rfl (by decide +kernel))⟩,
  List.forall_mem_cons.mpr ⟨⟨mo_gr _ _ _ _, Or.inl (ok_gr (C := RX11) (T := TX11) (N := 93) (ci := 11) (k := 83) rfl inX11 (by decide) fl_X11_247 (by decide +kernel) (by decide +kernel))⟩,
  List.forall_mem_cons.mpr ⟨⟨mo_ic _ _, Or.inl (ok_iconst (n := 2) (v := 2) (by decide) (by decide +kernel))⟩,
  List.forall_mem_cons.mpr ⟨⟨mo_al _ _, Or.inl (ok_aload_n (k := 0) rfl (by decide +kernel))⟩,
  List.forall_mem_cons.mpr ⟨⟨mo_al _ _, Or.inl (ok_aload_n (k := 0) rfl (by decide +kernel))⟩,
  List.forall_mem_cons.mpr ⟨⟨mo_gr _ _ _ _, Or.inl (ok_gr (C := RX11) (T := TX11) (N := 93) (ci := 11) (k := 10) rfl inX11 (by decide) fl_X11_29 (by decide +kernel) (by decide +kernel))⟩,
  List.forall_mem_cons.mpr ⟨⟨mo_il _ _, Or.inl (ok_iload_n (k := 1) rfl (by decide +kernel))⟩,
  List.forall_mem_cons.mpr ⟨⟨mo_ald _ _ _, Or.inl (ok_iald (by decide +kernel))⟩,
  List.forall_mem_cons.mpr ⟨⟨mo_il _ _, Or.inl (ok_iload_n (k := 2) rfl (by decide +kernel))⟩,
  List.forall_mem_cons.mpr ⟨⟨mo_inv _ _ _ _ _, Or.inr (Or.inl (ok_inv (T := TX11) (N := 93) rfl cw_X11_has (by decide) (by decide) ml_X11_427 ci_X11_has cv_X11_has (show Cond.initialized (yX11_has).cls ∈ am_ts from ci9_RX11) ⟨by decide +kernel, by decide +kernel, by decide +kernel⟩ rfl (by decide +kernel)))⟩,
  List.forall_mem_cons.mpr ⟨⟨mo_invs _ _ _, Or.inr (Or.inl (ok_invs cw_X11_bit (by decide) (by decide) ml_X11_423 cs_X11_bit (show Cond.initialized (yX11_bit).cls ∈ am_ts from ci9_RX11) ⟨by decide +kernel, by decide +kernel, by decide +kernel⟩ rfl (by decide +kernel)))⟩,
  List.forall_mem_cons.mpr ⟨⟨mo_ast _ _ _ _, Or.inl (ok_iast (by decide +kernel))⟩,
  List.forall_mem_cons.mpr ⟨⟨mo_al _ _, Or.inl (ok_aload_n (k := 0) rfl (by decide +kernel))⟩,
  List.forall_mem_cons.mpr ⟨⟨mo_gr _ _ _ _, Or.inl (ok_gr (C := RX11) (T := TX11) (N := 93) (ci := 11) (k := 9) rfl inX11 (by decide) fl_X11_26 (by decide +kernel) (by decide +kernel))⟩,
  List.forall_mem_cons.mpr ⟨⟨mo_il _ _, Or.inl (ok_iload_n (k := 1) rfl (by decide +kernel))⟩,
  List.forall_mem_cons.mpr ⟨⟨mo_ald _ _ _, Or.inl (ok_iald (by decide +kernel))⟩,
  List.forall_mem_cons.mpr ⟨⟨mo_ic _ _, Or.inl (ok_iconst (n := (-1)) (v := (-1)) (by decide) (by decide +kernel))⟩,
  List.forall_mem_cons.mpr ⟨⟨mo_if2 _ _ _, Or.inl (ok_icmp_eq (off := 57) (by decide) (by decide +kernel))⟩,
  List.forall_mem_cons.mpr ⟨⟨mo_al _ _, Or.inl (ok_aload_n (k := 0) rfl (by decide +kernel))⟩,
  fun _ h => absurd h List.not_mem_nil⟩⟩⟩⟩⟩⟩⟩⟩⟩⟩⟩⟩⟩⟩⟩⟩⟩⟩⟩⟩
def t_X11_sees_3 : List (Nat × am_F) := [(102, im_gr q_SH 11 10 105), (105, im_il 1 106), (106, im_ald q_SH .int 107), (107, im_ic (-1) 108), (108, im_if2 ic_eq 155 111), (111, im_al 0 112), (112, im_gr q_SH 11 58 115), (115, im_al 0 116), (116, im_gr q_SH 11 9 119), (119, im_il 1 120), (120, im_ald q_SH .int 121), (121, im_ald q_SH .int 122), (122, im_al 0 123), (123, im_gr q_SH 11 10 126), (126, im_il 1 127), (127, im_ald q_SH .int 128), (128, im_if2 ic_ne 155 131), (131, im_al 0 132), (132, im_gr q_SH 11 58 135), (135, im_al 0 136)]
set_option maxRecDepth 20000 in
theorem o_X11_sees_3 : ∀ q ∈ t_X11_sees_3, am_ok vwCl q_SH ξ (q_E ξ β xs L) q_EN q_KD q_ML (cX11_sees, 7, RX11, "sees", none, []) q.1 q.2 :=
  List.forall_mem_cons.mpr ⟨⟨mo_gr _ _ _ _, Or.inl (ok_gr (C := RX11) (T := TX11) (N := 93) (ci := 11) (k := 10) rfl inX11 (by decide) fl_X11_29 (by decide +kernel) (by decide +kernel))⟩,
  List.forall_mem_cons.mpr ⟨⟨mo_il _ _, Or.inl (ok_iload_n (k := 1) rfl (by decide +kernel))⟩,
  List.forall_mem_cons.mpr ⟨⟨mo_ald _ _ _, Or.inl (ok_iald (by decide +kernel))⟩,
  List.forall_mem_cons.mpr ⟨⟨mo_ic _ _, Or.inl (ok_iconst (n := (-1)) (v := (-1)) (by decide) (by decide +kernel))⟩,
  List.forall_mem_cons.mpr ⟨⟨mo_if2 _ _ _, Or.inl (ok_icmp_eq (off := 47) (by decide) (by decide +kernel))⟩,
  List.forall_mem_cons.mpr ⟨⟨mo_al _ _, Or.inl (ok_aload_n (k := 0) rfl (by decide +kernel))⟩,
  List.forall_mem_cons.mpr ⟨⟨mo_gr _ _ _ _, Or.inl (ok_gr (C := RX11) (T := TX11) (N := 93) (ci := 11) (k := 58) rfl inX11 (by decide) fl_X11_199 (by decide +kernel) (by decide +kernel))⟩,
  List.forall_mem_cons.mpr ⟨⟨mo_al _ _, Or.inl (ok_aload_n (k := 0) rfl (by decide +kernel))⟩,
  List.forall_mem_cons.mpr ⟨⟨mo_gr _ _ _ _, Or.inl (ok_gr (C := RX11) (T := TX11) (N := 93) (ci := 11) (k := 9) rfl inX11 (by decide) fl_X11_26 (by decide +kernel) (by decide +kernel))⟩,
  List.forall_mem_cons.mpr ⟨⟨mo_il _ _, Or.inl (ok_iload_n (k := 1) rfl (by decide +kernel))⟩,
  List.forall_mem_cons.mpr ⟨⟨mo_ald _ _ _, Or.inl (ok_iald (by decide +kernel))⟩,
  List.forall_mem_cons.mpr ⟨⟨mo_ald _ _ _, Or.inl (ok_iald (by decide +kernel))⟩,
  List.forall_mem_cons.mpr ⟨⟨mo_al _ _, Or.inl (ok_aload_n (k := 0) rfl (by decide +kernel))⟩,
  List.forall_mem_cons.mpr ⟨⟨mo_gr _ _ _ _, Or.inl (ok_gr (C := RX11) (T := TX11) (N := 93) (ci := 11) (k := 10) rfl inX11 (by decide) fl_X11_29 (by decide +kernel) (by decide +kernel))⟩,
  List.forall_mem_cons.mpr ⟨⟨mo_il _ _, Or.inl (ok_iload_n (k := 1) rfl (by decide +kernel))⟩,
  List.forall_mem_cons.mpr ⟨⟨mo_ald _ _ _, Or.inl (ok_iald (by decide +kernel))⟩,
  List.forall_mem_cons.mpr ⟨⟨mo_if2 _ _ _, Or.inl (ok_icmp_ne (off := 27) (by decide) (by decide +kernel))⟩,
  List.forall_mem_cons.mpr ⟨⟨mo_al _ _, Or.inl (ok_aload_n (k := 0) rfl (by decide +kernel))⟩,
  List.forall_mem_cons.mpr ⟨⟨mo_gr _ _ _ _, Or.inl (ok_gr (C := RX11) (T := TX11) (N := 93) (ci := 11) (k := 58) rfl inX11 (by decide) fl_X11_199 (by decide +kernel) (by decide +kernel))⟩,
  List.forall_mem_cons.mpr ⟨⟨mo_al _ _, Or.inl (ok_aload_n (k := 0) rfl (by decide +kernel))⟩,
  fun _ h => absurd h List.not_mem_nil⟩⟩⟩⟩⟩⟩⟩⟩⟩⟩⟩⟩⟩⟩⟩⟩⟩⟩⟩⟩
def t_X11_sees_4 : List (Nat × am_F) := [(136, im_gr q_SH 11 10 139), (139, im_il 1 140), (140, im_ald q_SH .int 141), (141, im_ald q_SH .int 142), (142, im_al 0 143), (143, im_gr q_SH 11 9 146), (146, im_il 1 147), (147, im_ald q_SH .int 148), (148, im_if2 ic_ne 155 151), (151, im_ic 1 152), (152, im_go 156), (155, im_ic 0 156), (156, im_is 4 158), (158, im_al 0 159), (159, im_gr q_SH 11 83 162), (162, im_ic 3 163), (163, im_al 0 164), (164, im_gi q_SH 11 78 167), (167, im_ic 8 169), (169, im_if2 ic_ne 177 172)]
set_option maxRecDepth 20000 in
theorem o_X11_sees_4 : ∀ q ∈ t_X11_sees_4, am_ok vwCl q_SH ξ (q_E ξ β xs L) q_EN q_KD q_ML (cX11_sees, 7, RX11, "sees", none, []) q.1 q.2 :=
  List.forall_mem_cons.mpr ⟨⟨mo_gr _ _ _ _, Or.inl (ok_gr (C := RX11) (T := TX11) (N := 93) (ci := 11) (k := 10) rfl inX11 (by decide) fl_X11_29 (by decide +kernel) (by decide +kernel))⟩,
  List.forall_mem_cons.mpr ⟨⟨mo_il _ _, Or.inl (ok_iload_n (k := 1) rfl (by decide +kernel))⟩,
  List.forall_mem_cons.mpr ⟨⟨mo_ald _ _ _, Or.inl (ok_iald (by decide +kernel))⟩,
  List.forall_mem_cons.mpr ⟨⟨mo_ald _ _ _, Or.inl (ok_iald (by decide +kernel))⟩,
  List.forall_mem_cons.mpr ⟨⟨mo_al _ _, Or.inl (ok_aload_n (k := 0) rfl (by decide +kernel))⟩,
  List.forall_mem_cons.mpr ⟨⟨mo_gr _ _ _ _, Or.inl (ok_gr (C := RX11) (T := TX11) (N := 93) (ci := 11) (k := 9) rfl inX11 (by decide) fl_X11_26 (by decide +kernel) (by decide +kernel))⟩,
  List.forall_mem_cons.mpr ⟨⟨mo_il _ _, Or.inl (ok_iload_n (k := 1) rfl (by decide +kernel))⟩,
  List.forall_mem_cons.mpr ⟨⟨mo_ald _ _ _, Or.inl (ok_iald (by decide +kernel))⟩,
  List.forall_mem_cons.mpr ⟨⟨mo_if2 _ _ _, Or.inl (ok_icmp_ne (off := 7) (by decide) (by decide +kernel))⟩,
  List.forall_mem_cons.mpr ⟨⟨mo_ic _ _, Or.inl (ok_iconst (n := 1) (v := 1) (by decide) (by decide +kernel))⟩,
  List.forall_mem_cons.mpr ⟨⟨mo_go _, Or.inl (ok_goto (off := 4) (by decide) (by decide +kernel))⟩,
  List.forall_mem_cons.mpr ⟨⟨mo_ic _ _, Or.inl (ok_iconst (n := 0) (v := 0) (by decide) (by decide +kernel))⟩,
  List.forall_mem_cons.mpr ⟨⟨mo_is _ _, Or.inl (ok_istore (by decide) (by decide +kernel))⟩,
  List.forall_mem_cons.mpr ⟨⟨mo_al _ _, Or.inl (ok_aload_n (k := 0) rfl (by decide +kernel))⟩,
  List.forall_mem_cons.mpr ⟨⟨mo_gr _ _ _ _, Or.inl (ok_gr (C := RX11) (T := TX11) (N := 93) (ci := 11) (k := 83) rfl inX11 (by decide) fl_X11_247 (by decide +kernel) (by decide +kernel))⟩,
  List.forall_mem_cons.mpr ⟨⟨mo_ic _ _, Or.inl (ok_iconst (n := 3) (v := 3) (by decide) (by decide +kernel))⟩,
  List.forall_mem_cons.mpr ⟨⟨mo_al _ _, Or.inl (ok_aload_n (k := 0) rfl (by decide +kernel))⟩,
  List.forall_mem_cons.mpr ⟨⟨mo_gi _ _ _ _, Or.inl (ok_gi (C := RX11) (T := TX11) (N := 93) (ci := 11) (k := 78) rfl inX11 (by decide) fl_X11_389 (by decide +kernel) (by decide +kernel))⟩,
  List.forall_mem_cons.mpr ⟨⟨mo_ic _ _, Or.inl (ok_bipush (n := 8) (v := 8) (by decide) (by decide +kernel))⟩,
  List.forall_mem_cons.mpr ⟨⟨mo_if2 _ _ _, Or.inl (ok_icmp_ne (off := 8) (by decide) (by decide +kernel))⟩,
  fun _ h => absurd h List.not_mem_nil⟩⟩⟩⟩⟩⟩⟩⟩⟩⟩⟩⟩⟩⟩⟩⟩⟩⟩⟩⟩
def t_X11_sees_5 : List (Nat × am_F) := [(172, im_il 4 174), (174, im_go 192), (177, im_al 0 178), (178, im_gr q_SH 11 58 181), (181, im_il 1 182), (182, im_ald q_SH .int 183), (183, im_ic (-1) 184), (184, im_if2 ic_eq 191 187), (187, im_ic 1 188), (188, im_go 192), (191, im_ic 0 192), (192, im_invs 155 1 195), (195, im_ast q_SH .int (fun x => x) 196), (196, im_al 0 197), (197, im_gr q_SH 11 83 200), (200, im_ic 4 201), (201, im_al 0 202), (202, im_gi q_SH 11 78 205), (205, im_ic 9 207), (207, im_if2 ic_ne 221 210)]
set_option maxRecDepth 20000 in
theorem o_X11_sees_5 : ∀ q ∈ t_X11_sees_5, am_ok vwCl q_SH ξ (q_E ξ β xs L) q_EN q_KD q_ML (cX11_sees, 7, RX11, "sees", none, []) q.1 q.2 :=
  List.forall_mem_cons.mpr ⟨⟨mo_il _ _, Or.inl (ok_iload (by decide +kernel))⟩,
  List.forall_mem_cons.mpr ⟨⟨mo_go _, Or.inl (ok_goto (off := 18) (by decide) (by decide +kernel))⟩,
  List.forall_mem_cons.mpr ⟨⟨mo_al _ _, Or.inl (ok_aload_n (k := 0) rfl (by decide +kernel))⟩,
  List.forall_mem_cons.mpr ⟨⟨mo_gr _ _ _ _, Or.inl (ok_gr (C := RX11) (T := TX11) (N := 93) (ci := 11) (k := 58) rfl inX11 (by decide) fl_X11_199 (by decide +kernel) (by decide +kernel))⟩,
  List.forall_mem_cons.mpr ⟨⟨mo_il _ _, Or.inl (ok_iload_n (k := 1) rfl (by decide +kernel))⟩,
  List.forall_mem_cons.mpr ⟨⟨mo_ald _ _ _, Or.inl (ok_iald (by decide +kernel))⟩,
  List.forall_mem_cons.mpr ⟨⟨mo_ic _ _, Or.inl (ok_iconst (n := (-1)) (v := (-1)) (by decide) (by decide +kernel))⟩,
  List.forall_mem_cons.mpr ⟨⟨mo_if2 _ _ _, Or.inl (ok_icmp_eq (off := 7) (by decide) (by decide +kernel))⟩,
  List.forall_mem_cons.mpr ⟨⟨mo_ic _ _, Or.inl (ok_iconst (n := 1) (v := 1) (by decide) (by decide +kernel))⟩,
  List.forall_mem_cons.mpr ⟨⟨mo_go _, Or.inl (ok_goto (off := 4) (by decide) (by decide +kernel))⟩,
  List.forall_mem_cons.mpr ⟨⟨mo_ic _ _, Or.inl (ok_iconst (n := 0) (v := 0) (by decide) (by decide +kernel))⟩,
  List.forall_mem_cons.mpr ⟨⟨mo_invs _ _ _, Or.inr (Or.inl (ok_invs cw_X11_bit (by decide) (by decide) ml_X11_423 cs_X11_bit (show Cond.initialized (yX11_bit).cls ∈ am_ts from ci9_RX11) ⟨by decide +kernel, by decide +kernel, by decide +kernel⟩ rfl (by decide +kernel)))⟩,
  List.forall_mem_cons.mpr ⟨⟨mo_ast _ _ _ _, Or.inl (ok_iast (by decide +kernel))⟩,
  List.forall_mem_cons.mpr ⟨⟨mo_al _ _, Or.inl (ok_aload_n (k := 0) rfl (by decide +kernel))⟩,
  List.forall_mem_cons.mpr ⟨⟨mo_gr _ _ _ _, Or.inl (ok_gr (C := RX11) (T := TX11) (N := 93) (ci := 11) (k := 83) rfl inX11 (by decide) fl_X11_247 (by decide +kernel) (by decide +kernel))⟩,
  List.forall_mem_cons.mpr ⟨⟨mo_ic _ _, Or.inl (ok_iconst (n := 4) (v := 4) (by decide) (by decide +kernel))⟩,
  List.forall_mem_cons.mpr ⟨⟨mo_al _ _, Or.inl (ok_aload_n (k := 0) rfl (by decide +kernel))⟩,
  List.forall_mem_cons.mpr ⟨⟨mo_gi _ _ _ _, Or.inl (ok_gi (C := RX11) (T := TX11) (N := 93) (ci := 11) (k := 78) rfl inX11 (by decide) fl_X11_389 (by decide +kernel) (by decide +kernel))⟩,
  List.forall_mem_cons.mpr ⟨⟨mo_ic _ _, Or.inl (ok_bipush (n := 9) (v := 9) (by decide) (by decide +kernel))⟩,
  List.forall_mem_cons.mpr ⟨⟨mo_if2 _ _ _, Or.inl (ok_icmp_ne (off := 14) (by decide) (by decide +kernel))⟩,
  fun _ h => absurd h List.not_mem_nil⟩⟩⟩⟩⟩⟩⟩⟩⟩⟩⟩⟩⟩⟩⟩⟩⟩⟩⟩⟩
def t_X11_sees_6 : List (Nat × am_F) := [(210, im_al 0 211), (211, im_gi q_SH 11 82 214), (214, im_il 2 215), (215, im_bin (fun x y => x >>> (y &&& 31)) 216), (216, im_ic 1 217), (217, im_bin (fun x y => x &&& y) 218), (218, im_go 235), (221, im_al 0 222), (222, im_al 0 223), (223, im_gr q_SH 11 58 226), (226, im_il 1 227), (227, im_ald q_SH .int 228), (228, im_il 2 229), (229, im_inv q_SH 11 156 2 232), (232, im_invs 155 1 235), (235, im_ast q_SH .int (fun x => x) 236), (236, im_al 0 237), (237, im_gr q_SH 11 83 240), (240, im_ic 5 241), (241, im_al 0 242)]
set_option maxRecDepth 20000 in
theorem o_X11_sees_6 : ∀ q ∈ t_X11_sees_6, am_ok vwCl q_SH ξ (q_E ξ β xs L) q_EN q_KD q_ML (cX11_sees, 7, RX11, "sees", none, []) q.1 q.2 :=
  List.forall_mem_cons.mpr ⟨⟨mo_al _ _, Or.inl (ok_aload_n (k := 0) rfl (by decide +kernel))⟩,
  List.forall_mem_cons.mpr ⟨⟨mo_gi _ _ _ _, Or.inl (ok_gi (C := RX11) (T := TX11) (N := 93) (ci := 11) (k := 82) rfl inX11 (by decide) fl_X11_420 (by decide +kernel) (by decide +kernel))⟩,
  List.forall_mem_cons.mpr ⟨⟨mo_il _ _, Or.inl (ok_iload_n (k := 2) rfl (by decide +kernel))⟩,
  List.forall_mem_cons.mpr ⟨⟨mo_bin _ _, Or.inl (ok_ishr (by decide +kernel))⟩,
  List.forall_mem_cons.mpr ⟨⟨mo_ic _ _, Or.inl (ok_iconst (n := 1) (v := 1) (by decide) (by decide +kernel))⟩,
  List.forall_mem_cons.mpr ⟨⟨mo_bin _ _, Or.inl (ok_iand (by decide +kernel))⟩,
  List.forall_mem_cons.mpr ⟨⟨mo_go _, Or.inl (ok_goto (off := 17) (by decide) (by decide +kernel))⟩,
  List.forall_mem_cons.mpr ⟨⟨mo_al _ _, Or.inl (ok_aload_n (k := 0) rfl (by decide +kernel))⟩,
  List.forall_mem_cons.mpr ⟨⟨mo_al _ _, Or.inl (ok_aload_n (k := 0) rfl (by decide +kernel))⟩,
  List.forall_mem_cons.mpr ⟨⟨mo_gr _ _ _ _, Or.inl (ok_gr (C := RX11) (T := TX11) (N := 93) (ci := 11) (k := 58) rfl inX11 (by decide) fl_X11_199 (by decide +kernel) (by decide +kernel))⟩,
  List.forall_mem_cons.mpr ⟨⟨mo_il _ _, Or.inl (ok_iload_n (k := 1) rfl (by decide +kernel))⟩,
  List.forall_mem_cons.mpr ⟨⟨mo_ald _ _ _, Or.inl (ok_iald (by decide +kernel))⟩,
  List.forall_mem_cons.mpr ⟨⟨mo_il _ _, Or.inl (ok_iload_n (k := 2) rfl (by decide +kernel))⟩,
  List.forall_mem_cons.mpr ⟨⟨mo_inv _ _ _ _ _, Or.inr (Or.inl (ok_inv (T := TX11) (N := 93) rfl cw_X11_has (by decide) (by decide) ml_X11_427 ci_X11_has cv_X11_has (show Cond.initialized (yX11_has).cls ∈ am_ts from ci9_RX11) ⟨by decide +kernel, by decide +kernel, by decide +kernel⟩ rfl (by decide +kernel)))⟩,
  List.forall_mem_cons.mpr ⟨⟨mo_invs _ _ _, Or.inr (Or.inl (ok_invs cw_X11_bit (by decide) (by decide) ml_X11_423 cs_X11_bit (show Cond.initialized (yX11_bit).cls ∈ am_ts from ci9_RX11) ⟨by decide +kernel, by decide +kernel, by decide +kernel⟩ rfl (by decide +kernel)))⟩,
  List.forall_mem_cons.mpr ⟨⟨mo_ast _ _ _ _, Or.inl (ok_iast (by decide +kernel))⟩,
  List.forall_mem_cons.mpr ⟨⟨mo_al _ _, Or.inl (ok_aload_n (k := 0) rfl (by decide +kernel))⟩,
  List.forall_mem_cons.mpr ⟨⟨mo_gr _ _ _ _, Or.inl (ok_gr (C := RX11) (T := TX11) (N := 93) (ci := 11) (k := 83) rfl inX11 (by decide) fl_X11_247 (by decide +kernel) (by decide +kernel))⟩,
  List.forall_mem_cons.mpr ⟨⟨mo_ic _ _, Or.inl (ok_iconst (n := 5) (v := 5) (by decide) (by decide +kernel))⟩,
  List.forall_mem_cons.mpr ⟨⟨mo_al _ _, Or.inl (ok_aload_n (k := 0) rfl (by decide +kernel))⟩,
  fun _ h => absurd h List.not_mem_nil⟩⟩⟩⟩⟩⟩⟩⟩⟩⟩⟩⟩⟩⟩⟩⟩⟩⟩⟩⟩
def t_X11_sees_7 : List (Nat × am_F) := [(242, im_gr q_SH 11 8 245), (245, im_il 1 246), (246, im_ald q_SH .int 247), (247, im_ast q_SH .int (fun x => x) 248), (248, im_al 0 249), (249, im_gr q_SH 11 83 252), (252, im_ic 6 254), (254, im_al 0 255), (255, im_gr q_SH 11 56 258), (258, im_il 1 259), (259, im_ald q_SH .int 260), (260, im_ic (-1) 261), (261, im_if2 ic_ne 268 264), (264, im_ic 0 265), (265, im_go 283), (268, im_al 0 269), (269, im_gi q_SH 11 76 272), (272, im_al 0 273), (273, im_gr q_SH 11 56 276), (276, im_il 1 277)]
set_option maxRecDepth 20000 in
theorem o_X11_sees_7 : ∀ q ∈ t_X11_sees_7, am_ok vwCl q_SH ξ (q_E ξ β xs L) q_EN q_KD q_ML (cX11_sees, 7, RX11, "sees", none, []) q.1 q.2 :=
  List.forall_mem_cons.mpr ⟨⟨mo_gr _ _ _ _, Or.inl (ok_gr (C := RX11) (T := TX11) (N := 93) (ci := 11) (k := 8) rfl inX11 (by decide) fl_X11_23 (by decide +kernel) (by decide +kernel))⟩,
  List.forall_mem_cons.mpr ⟨⟨mo_il _ _, Or.inl (ok_iload_n (k := 1) rfl (by decide +kernel))⟩,
  List.forall_mem_cons.mpr ⟨⟨mo_ald _ _ _, Or.inl (ok_iald (by decide +kernel))⟩,
  List.forall_mem_cons.mpr ⟨⟨mo_ast _ _ _ _, Or.inl (ok_iast (by decide +kernel))⟩,
  List.forall_mem_cons.mpr ⟨⟨mo_al _ _, Or.inl (ok_aload_n (k := 0) rfl (by decide +kernel))⟩,
  List.forall_mem_cons.mpr ⟨⟨mo_gr _ _ _ _, Or.inl (ok_gr (C := RX11) (T := TX11) (N := 93) (ci := 11) (k := 83) rfl inX11 (by decide) fl_X11_247 (by decide +kernel) (by decide +kernel))⟩,
  List.forall_mem_cons.mpr ⟨⟨mo_ic _ _, Or.inl (ok_bipush (n := 6) (v := 6) (by decide) (by decide +kernel))⟩,
  List.forall_mem_cons.mpr ⟨⟨mo_al _ _, Or.inl (ok_aload_n (k := 0) rfl (by decide +kernel))⟩,
  List.forall_mem_cons.mpr ⟨⟨mo_gr _ _ _ _, Or.inl (ok_gr (C := RX11) (T := TX11) (N := 93) (ci := 11) (k := 56) rfl inX11 (by decide) fl_X11_193 (by decide +kernel) (by decide +kernel))⟩,
  List.forall_mem_cons.mpr ⟨⟨mo_il _ _, Or.inl (ok_iload_n (k := 1) rfl (by decide +kernel))⟩,
  List.forall_mem_cons.mpr ⟨⟨mo_ald _ _ _, Or.inl (ok_iald (by decide +kernel))⟩,
  List.forall_mem_cons.mpr ⟨⟨mo_ic _ _, Or.inl (ok_iconst (n := (-1)) (v := (-1)) (by decide) (by decide +kernel))⟩,
  List.forall_mem_cons.mpr ⟨⟨mo_if2 _ _ _, Or.inl (ok_icmp_ne (off := 7) (by decide) (by decide +kernel))⟩,
  List.forall_mem_cons.mpr ⟨⟨mo_ic _ _, Or.inl (ok_iconst (n := 0) (v := 0) (by decide) (by decide +kernel))⟩,
  List.forall_mem_cons.mpr ⟨⟨mo_go _, Or.inl (ok_goto (off := 18) (by decide) (by decide +kernel))⟩,
  List.forall_mem_cons.mpr ⟨⟨mo_al _ _, Or.inl (ok_aload_n (k := 0) rfl (by decide +kernel))⟩,
  List.forall_mem_cons.mpr ⟨⟨mo_gi _ _ _ _, Or.inl (ok_gi (C := RX11) (T := TX11) (N := 93) (ci := 11) (k := 76) rfl inX11 (by decide) fl_X11_373 (by decide +kernel) (by decide +kernel))⟩,
  List.forall_mem_cons.mpr ⟨⟨mo_al _ _, Or.inl (ok_aload_n (k := 0) rfl (by decide +kernel))⟩,
  List.forall_mem_cons.mpr ⟨⟨mo_gr _ _ _ _, Or.inl (ok_gr (C := RX11) (T := TX11) (N := 93) (ci := 11) (k := 56) rfl inX11 (by decide) fl_X11_193 (by decide +kernel) (by decide +kernel))⟩,
  List.forall_mem_cons.mpr ⟨⟨mo_il _ _, Or.inl (ok_iload_n (k := 1) rfl (by decide +kernel))⟩,
  fun _ h => absurd h List.not_mem_nil⟩⟩⟩⟩⟩⟩⟩⟩⟩⟩⟩⟩⟩⟩⟩⟩⟩⟩⟩⟩
def t_X11_sees_8 : List (Nat × am_F) := [(277, im_ald q_SH .int 278), (278, im_bin (fun x y => x - y) 279), (279, im_ic 365 282), (282, im_div (fun x y => x / y) 283), (283, im_ast q_SH .int (fun x => x) 284), (284, im_al 0 285), (285, im_gr q_SH 11 83 288), (288, im_ic 7 290), (290, im_al 0 291), (291, im_gr q_SH 11 59 294), (294, im_il 1 295), (295, im_ald q_SH .int 296), (296, im_ic (-1) 297), (297, im_if2 ic_eq 329 300), (300, im_al 0 301), (301, im_gr q_SH 11 61 304), (304, im_al 0 305), (305, im_gr q_SH 11 59 308), (308, im_il 1 309), (309, im_ald q_SH .int 310)]
set_option maxRecDepth 20000 in
theorem o_X11_sees_8 : ∀ q ∈ t_X11_sees_8, am_ok vwCl q_SH ξ (q_E ξ β xs L) q_EN q_KD q_ML (cX11_sees, 7, RX11, "sees", none, []) q.1 q.2 :=
  List.forall_mem_cons.mpr ⟨⟨mo_ald _ _ _, Or.inl (ok_iald (by decide +kernel))⟩,
  List.forall_mem_cons.mpr ⟨⟨mo_bin _ _, Or.inl (ok_isub (by decide +kernel))⟩,
  List.forall_mem_cons.mpr ⟨⟨mo_ic _ _, Or.inl (ok_sipush (n := 365) (v := 365) (by decide) (by decide +kernel))⟩,
  List.forall_mem_cons.mpr ⟨⟨mo_div _ _, Or.inl (ok_idiv (by decide +kernel))⟩,
  List.forall_mem_cons.mpr ⟨⟨mo_ast _ _ _ _, Or.inl (ok_iast (by decide +kernel))⟩,
  List.forall_mem_cons.mpr ⟨⟨mo_al _ _, Or.inl (ok_aload_n (k := 0) rfl (by decide +kernel))⟩,
  List.forall_mem_cons.mpr ⟨⟨mo_gr _ _ _ _, Or.inl (ok_gr (C := RX11) (T := TX11) (N := 93) (ci := 11) (k := 83) rfl inX11 (by decide) fl_X11_247 (by decide +kernel) (by decide +kernel))⟩,
  List.forall_mem_cons.mpr ⟨⟨mo_ic _ _, Or.inl (ok_bipush (n := 7) (v := 7) (by decide) (by decide +kernel))⟩,
  List.forall_mem_cons.mpr ⟨⟨mo_al _ _, Or.inl (ok_aload_n (k := 0) rfl (by decide +kernel))⟩,
  List.forall_mem_cons.mpr ⟨⟨mo_gr _ _ _ _, Or.inl (ok_gr (C := RX11) (T := TX11) (N := 93) (ci := 11) (k := 59) rfl inX11 (by decide) fl_X11_202 (by decide +kernel) (by decide +kernel))⟩,
  List.forall_mem_cons.mpr ⟨⟨mo_il _ _, Or.inl (ok_iload_n (k := 1) rfl (by decide +kernel))⟩,
  List.forall_mem_cons.mpr ⟨⟨mo_ald _ _ _, Or.inl (ok_iald (by decide +kernel))⟩,
  List.forall_mem_cons.mpr ⟨⟨mo_ic _ _, Or.inl (ok_iconst (n := (-1)) (v := (-1)) (by decide) (by decide +kernel))⟩,
  List.forall_mem_cons.mpr ⟨⟨mo_if2 _ _ _, Or.inl (ok_icmp_eq (off := 32) (by decide) (by decide +kernel))⟩,
  List.forall_mem_cons.mpr ⟨⟨mo_al _ _, Or.inl (ok_aload_n (k := 0) rfl (by decide +kernel))⟩,
  List.forall_mem_cons.mpr ⟨⟨mo_gr _ _ _ _, Or.inl (ok_gr (C := RX11) (T := TX11) (N := 93) (ci := 11) (k := 61) rfl inX11 (by decide) fl_X11_208 (by decide +kernel) (by decide +kernel))⟩,
  List.forall_mem_cons.mpr ⟨⟨mo_al _ _, Or.inl (ok_aload_n (k := 0) rfl (by decide +kernel))⟩,
  List.forall_mem_cons.mpr ⟨⟨mo_gr _ _ _ _, Or.inl (ok_gr (C := RX11) (T := TX11) (N := 93) (ci := 11) (k := 59) rfl inX11 (by decide) fl_X11_202 (by decide +kernel) (by decide +kernel))⟩,
  List.forall_mem_cons.mpr ⟨⟨mo_il _ _, Or.inl (ok_iload_n (k := 1) rfl (by decide +kernel))⟩,
  List.forall_mem_cons.mpr ⟨⟨mo_ald _ _ _, Or.inl (ok_iald (by decide +kernel))⟩,
  fun _ h => absurd h List.not_mem_nil⟩⟩⟩⟩⟩⟩⟩⟩⟩⟩⟩⟩⟩⟩⟩⟩⟩⟩⟩⟩
def t_X11_sees_9 : List (Nat × am_F) := [(310, im_ald q_SH .int 311), (311, im_il 2 312), (312, im_if2 ic_ne 329 315), (315, im_al 0 316), (316, im_gi q_SH 11 76 319), (319, im_al 0 320), (320, im_gr q_SH 11 60 323), (323, im_il 1 324), (324, im_ald q_SH .int 325), (325, im_bin (fun x y => x - y) 326), (326, im_go 330), (329, im_ic 0 330), (330, im_ast q_SH .int (fun x => x) 331), (331, im_al 0 332), (332, im_gr q_SH 11 83 335), (335, im_ic 8 337), (337, im_al 0 338), (338, im_il 1 339), (339, im_il 2 340), (340, im_inv q_SH 11 156 2 343)]
set_option maxRecDepth 20000 in
theorem o_X11_sees_9 : ∀ q ∈ t_X11_sees_9, am_ok vwCl q_SH ξ (q_E ξ β xs L) q_EN q_KD q_ML (cX11_sees, 7, RX11, "sees", none, []) q.1 q.2 :=
  List.forall_mem_cons.mpr ⟨⟨mo_ald _ _ _, Or.inl (ok_iald (by decide +kernel))⟩,
  List.forall_mem_cons.mpr ⟨⟨mo_il _ _, Or.inl (ok_iload_n (k := 2) rfl (by decide +kernel))⟩,
  List.forall_mem_cons.mpr ⟨⟨mo_if2 _ _ _, Or.inl (ok_icmp_ne (off := 17) (by decide) (by decide +kernel))⟩,
  List.forall_mem_cons.mpr ⟨⟨mo_al _ _, Or.inl (ok_aload_n (k := 0) rfl (by decide +kernel))⟩,
  List.forall_mem_cons.mpr ⟨⟨mo_gi _ _ _ _, Or.inl (ok_gi (C := RX11) (T := TX11) (N := 93) (ci := 11) (k := 76) rfl inX11 (by decide) fl_X11_373 (by decide +kernel) (by decide +kernel))⟩,
  List.forall_mem_cons.mpr ⟨⟨mo_al _ _, Or.inl (ok_aload_n (k := 0) rfl (by decide +kernel))⟩,
  List.forall_mem_cons.mpr ⟨⟨mo_gr _ _ _ _, Or.inl (ok_gr (C := RX11) (T := TX11) (N := 93) (ci := 11) (k := 60) rfl inX11 (by decide) fl_X11_205 (by decide +kernel) (by decide +kernel))⟩,
  List.forall_mem_cons.mpr ⟨⟨mo_il _ _, Or.inl (ok_iload_n (k := 1) rfl (by decide +kernel))⟩,
  List.forall_mem_cons.mpr ⟨⟨mo_ald _ _ _, Or.inl (ok_iald (by decide +kernel))⟩,
  List.forall_mem_cons.mpr ⟨⟨mo_bin _ _, Or.inl (ok_isub (by decide +kernel))⟩,
  List.forall_mem_cons.mpr ⟨⟨mo_go _, Or.inl (ok_goto (off := 4) (by decide) (by decide +kernel))⟩,
  List.forall_mem_cons.mpr ⟨⟨mo_ic _ _, Or.inl (ok_iconst (n := 0) (v := 0) (by decide) (by decide +kernel))⟩,
  List.forall_mem_cons.mpr ⟨⟨mo_ast _ _ _ _, Or.inl (ok_iast (by decide +kernel))⟩,
  List.forall_mem_cons.mpr ⟨⟨mo_al _ _, Or.inl (ok_aload_n (k := 0) rfl (by decide +kernel))⟩,
  List.forall_mem_cons.mpr ⟨⟨mo_gr _ _ _ _, Or.inl (ok_gr (C := RX11) (T := TX11) (N := 93) (ci := 11) (k := 83) rfl inX11 (by decide) fl_X11_247 (by decide +kernel) (by decide +kernel))⟩,
  List.forall_mem_cons.mpr ⟨⟨mo_ic _ _, Or.inl (ok_bipush (n := 8) (v := 8) (by decide) (by decide +kernel))⟩,
  List.forall_mem_cons.mpr ⟨⟨mo_al _ _, Or.inl (ok_aload_n (k := 0) rfl (by decide +kernel))⟩,
  List.forall_mem_cons.mpr ⟨⟨mo_il _ _, Or.inl (ok_iload_n (k := 1) rfl (by decide +kernel))⟩,
  List.forall_mem_cons.mpr ⟨⟨mo_il _ _, Or.inl (ok_iload_n (k := 2) rfl (by decide +kernel))⟩,
  List.forall_mem_cons.mpr ⟨⟨mo_inv _ _ _ _ _, Or.inr (Or.inl (ok_inv (T := TX11) (N := 93) rfl cw_X11_has (by decide) (by decide) ml_X11_427 ci_X11_has cv_X11_has (show Cond.initialized (yX11_has).cls ∈ am_ts from ci9_RX11) ⟨by decide +kernel, by decide +kernel, by decide +kernel⟩ rfl (by decide +kernel)))⟩,
  fun _ h => absurd h List.not_mem_nil⟩⟩⟩⟩⟩⟩⟩⟩⟩⟩⟩⟩⟩⟩⟩⟩⟩⟩⟩⟩
def t_X11_sees_10 : List (Nat × am_F) := [(343, im_invs 155 1 346), (346, im_ast q_SH .int (fun x => x) 347), (347, im_ic 0 348), (348, im_is 5 350), (350, im_ic 0 351), (351, im_is 6 353), (353, im_il 6 355), (355, im_al 0 356), (356, im_gi q_SH 11 3 359), (359, im_if2 ic_ge 393 362), (362, im_il 5 364), (364, im_il 6 366), (366, im_il 2 367), (367, im_if2 ic_eq 383 370), (370, im_al 0 371), (371, im_il 1 372), (372, im_il 6 374), (374, im_inv q_SH 11 156 2 377), (377, im_invs 155 1 380), (380, im_go 384)]
set_option maxRecDepth 20000 in
theorem o_X11_sees_10 : ∀ q ∈ t_X11_sees_10, am_ok vwCl q_SH ξ (q_E ξ β xs L) q_EN q_KD q_ML (cX11_sees, 7, RX11, "sees", none, []) q.1 q.2 :=
  List.forall_mem_cons.mpr ⟨⟨mo_invs _ _ _, Or.inr (Or.inl (ok_invs cw_X11_bit (by decide) (by decide) ml_X11_423 cs_X11_bit (show Cond.initialized (yX11_bit).cls ∈ am_ts from ci9_RX11) ⟨by decide +kernel, by decide +kernel, by decide +kernel⟩ rfl (by decide +kernel)))⟩,
  List.forall_mem_cons.mpr ⟨⟨mo_ast _ _ _ _, Or.inl (ok_iast (by decide +kernel))⟩,
  List.forall_mem_cons.mpr ⟨⟨mo_ic _ _, Or.inl (ok_iconst (n := 0) (v := 0) (by decide) (by decide +kernel))⟩,
  List.forall_mem_cons.mpr ⟨⟨mo_is _ _, Or.inl (ok_istore (by decide) (by decide +kernel))⟩,
  List.forall_mem_cons.mpr ⟨⟨mo_ic _ _, Or.inl (ok_iconst (n := 0) (v := 0) (by decide) (by decide +kernel))⟩,
  List.forall_mem_cons.mpr ⟨⟨mo_is _ _, Or.inl (ok_istore (by decide) (by decide +kernel))⟩,
  List.forall_mem_cons.mpr ⟨⟨mo_il _ _, Or.inl (ok_iload (by decide +kernel))⟩,
  List.forall_mem_cons.mpr ⟨⟨mo_al _ _, Or.inl (ok_aload_n (k := 0) rfl (by decide +kernel))⟩,
  List.forall_mem_cons.mpr ⟨⟨mo_gi _ _ _ _, Or.inl (ok_gi (C := RX11) (T := TX11) (N := 93) (ci := 11) (k := 3) rfl inX11 (by decide) fl_X11_7 (by decide +kernel) (by decide +kernel))⟩,
  List.forall_mem_cons.mpr ⟨⟨mo_if2 _ _ _, Or.inl (ok_icmp_ge (off := 34) (by decide) (by decide +kernel))⟩,
  List.forall_mem_cons.mpr ⟨⟨mo_il _ _, Or.inl (ok_iload (by decide +kernel))⟩,
  List.forall_mem_cons.mpr ⟨⟨mo_il _ _, Or.inl (ok_iload (by decide +kernel))⟩,
  List.forall_mem_cons.mpr ⟨⟨mo_il _ _, Or.inl (ok_iload_n (k := 2) rfl (by decide +kernel))⟩,
  List.forall_mem_cons.mpr ⟨⟨mo_if2 _ _ _, Or.inl (ok_icmp_eq (off := 16) (by decide) (by decide +kernel))⟩,
  List.forall_mem_cons.mpr ⟨⟨mo_al _ _, Or.inl (ok_aload_n (k := 0) rfl (by decide +kernel))⟩,
  List.forall_mem_cons.mpr ⟨⟨mo_il _ _, Or.inl (ok_iload_n (k := 1) rfl (by decide +kernel))⟩,
  List.forall_mem_cons.mpr ⟨⟨mo_il _ _, Or.inl (ok_iload (by decide +kernel))⟩,
  List.forall_mem_cons.mpr ⟨⟨mo_inv _ _ _ _ _, Or.inr (Or.inl (ok_inv (T := TX11) (N := 93) rfl cw_X11_has (by decide) (by decide) ml_X11_427 ci_X11_has cv_X11_has (show Cond.initialized (yX11_has).cls ∈ am_ts from ci9_RX11) ⟨by decide +kernel, by decide +kernel, by decide +kernel⟩ rfl (by decide +kernel)))⟩,
  List.forall_mem_cons.mpr ⟨⟨mo_invs _ _ _, Or.inr (Or.inl (ok_invs cw_X11_bit (by decide) (by decide) ml_X11_423 cs_X11_bit (show Cond.initialized (yX11_bit).cls ∈ am_ts from ci9_RX11) ⟨by decide +kernel, by decide +kernel, by decide +kernel⟩ rfl (by decide +kernel)))⟩,
  List.forall_mem_cons.mpr ⟨⟨mo_go _, Or.inl (ok_goto (off := 4) (by decide) (by decide +kernel))⟩,
  fun _ h => absurd h List.not_mem_nil⟩⟩⟩⟩⟩⟩⟩⟩⟩⟩⟩⟩⟩⟩⟩⟩⟩⟩⟩⟩
def t_X11_sees_11 : List (Nat × am_F) := [(383, im_ic 0 384), (384, im_bin (fun x y => x + y) 385), (385, im_is 5 387), (387, im_iinc 6 1 390), (390, im_go 353), (393, im_al 0 394), (394, im_gr q_SH 11 83 397), (397, im_ic 9 399), (399, im_il 5 401), (401, im_ast q_SH .int (fun x => x) 402), (402, im_al 0 403), (403, im_gr q_SH 11 83 406), (406, im_ic 10 408), (408, im_al 0 409), (409, im_gi q_SH 11 78 412), (412, im_ic 14 414), (414, im_if2 ic_eq 425 417), (417, im_al 0 418), (418, im_gi q_SH 11 80 421), (421, im_il 2 422)]
set_option maxRecDepth 20000 in
theorem o_X11_sees_11 : ∀ q ∈ t_X11_sees_11, am_ok vwCl q_SH ξ (q_E ξ β xs L) q_EN q_KD q_ML (cX11_sees, 7, RX11, "sees", none, []) q.1 q.2 :=
  List.forall_mem_cons.mpr ⟨⟨mo_ic _ _, Or.inl (ok_iconst (n := 0) (v := 0) (by decide) (by decide +kernel))⟩,
  List.forall_mem_cons.mpr ⟨⟨mo_bin _ _, Or.inl (ok_iadd (by decide +kernel))⟩,
  List.forall_mem_cons.mpr ⟨⟨mo_is _ _, Or.inl (ok_istore (by decide) (by decide +kernel))⟩,
  List.forall_mem_cons.mpr ⟨⟨mo_iinc _ _ _, Or.inl (ok_iinc (n := 1) (v := 1) (by decide) (by decide) (by decide +kernel))⟩,
  List.forall_mem_cons.mpr ⟨⟨mo_go _, Or.inl (ok_goto (off := (-37)) (by decide) (by decide +kernel))⟩,
  List.forall_mem_cons.mpr ⟨⟨mo_al _ _, Or.inl (ok_aload_n (k := 0) rfl (by decide +kernel))⟩,
  List.forall_mem_cons.mpr ⟨⟨mo_gr _ _ _ _, Or.inl (ok_gr (C := RX11) (T := TX11) (N := 93) (ci := 11) (k := 83) rfl inX11 (by decide) fl_X11_247 (by decide +kernel) (by decide +kernel))⟩,
  List.forall_mem_cons.mpr ⟨⟨mo_ic _ _, Or.inl (ok_bipush (n := 9) (v := 9) (by decide) (by decide +kernel))⟩,
  List.forall_mem_cons.mpr ⟨⟨mo_il _ _, Or.inl (ok_iload (by decide +kernel))⟩,
  List.forall_mem_cons.mpr ⟨⟨mo_ast _ _ _ _, Or.inl (ok_iast (by decide +kernel))⟩,
  List.forall_mem_cons.mpr ⟨⟨mo_al _ _, Or.inl (ok_aload_n (k := 0) rfl (by decide +kernel))⟩,
  List.forall_mem_cons.mpr ⟨⟨mo_gr _ _ _ _, Or.inl (ok_gr (C := RX11) (T := TX11) (N := 93) (ci := 11) (k := 83) rfl inX11 (by decide) fl_X11_247 (by decide +kernel) (by decide +kernel))⟩,
  List.forall_mem_cons.mpr ⟨⟨mo_ic _ _, Or.inl (ok_bipush (n := 10) (v := 10) (by decide) (by decide +kernel))⟩,
  List.forall_mem_cons.mpr ⟨⟨mo_al _ _, Or.inl (ok_aload_n (k := 0) rfl (by decide +kernel))⟩,
  List.forall_mem_cons.mpr ⟨⟨mo_gi _ _ _ _, Or.inl (ok_gi (C := RX11) (T := TX11) (N := 93) (ci := 11) (k := 78) rfl inX11 (by decide) fl_X11_389 (by decide +kernel) (by decide +kernel))⟩,
  List.forall_mem_cons.mpr ⟨⟨mo_ic _ _, Or.inl (ok_bipush (n := 14) (v := 14) (by decide) (by decide +kernel))⟩,
  List.forall_mem_cons.mpr ⟨⟨mo_if2 _ _ _, Or.inl (ok_icmp_eq (off := 11) (by decide) (by decide +kernel))⟩,
  List.forall_mem_cons.mpr ⟨⟨mo_al _ _, Or.inl (ok_aload_n (k := 0) rfl (by decide +kernel))⟩,
  List.forall_mem_cons.mpr ⟨⟨mo_gi _ _ _ _, Or.inl (ok_gi (C := RX11) (T := TX11) (N := 93) (ci := 11) (k := 80) rfl inX11 (by decide) fl_X11_395 (by decide +kernel) (by decide +kernel))⟩,
  List.forall_mem_cons.mpr ⟨⟨mo_il _ _, Or.inl (ok_iload_n (k := 2) rfl (by decide +kernel))⟩,
  fun _ h => absurd h List.not_mem_nil⟩⟩⟩⟩⟩⟩⟩⟩⟩⟩⟩⟩⟩⟩⟩⟩⟩⟩⟩⟩
def t_X11_sees_12 : List (Nat × am_F) := [(422, im_if2 ic_ne 429 425), (425, im_ic 1 426), (426, im_go 430), (429, im_ic 0 430), (430, im_invs 155 1 433), (433, im_ast q_SH .int (fun x => x) 434), (434, im_al 0 435), (435, im_gr q_SH 11 83 438), (438, im_ic 11 440), (440, im_al 0 441), (441, im_gi q_SH 11 76 444), (444, im_ic 365 447), (447, im_div (fun x y => x / y) 448), (448, im_ast q_SH .int (fun x => x) 449), (449, im_al 0 450), (450, im_gr q_SH 11 83 453), (453, im_ic 12 455), (455, im_al 0 456), (456, im_gr q_SH 11 56 459), (459, im_il 1 460)]
set_option maxRecDepth 20000 in
theorem o_X11_sees_12 : ∀ q ∈ t_X11_sees_12, am_ok vwCl q_SH ξ (q_E ξ β xs L) q_EN q_KD q_ML (cX11_sees, 7, RX11, "sees", none, []) q.1 q.2 :=
  List.forall_mem_cons.mpr ⟨⟨mo_if2 _ _ _, Or.inl (ok_icmp_ne (off := 7) (by decide) (by decide +kernel))⟩,
  List.forall_mem_cons.mpr ⟨⟨mo_ic _ _, Or.inl (ok_iconst (n := 1) (v := 1) (by decide) (by decide +kernel))⟩,
  List.forall_mem_cons.mpr ⟨⟨mo_go _, Or.inl (ok_goto (off := 4) (by decide) (by decide +kernel))⟩,
  List.forall_mem_cons.mpr ⟨⟨mo_ic _ _, Or.inl (ok_iconst (n := 0) (v := 0) (by decide) (by decide +kernel))⟩,
  List.forall_mem_cons.mpr ⟨⟨mo_invs _ _ _, Or.inr (Or.inl (ok_invs cw_X11_bit (by decide) (by decide) ml_X11_423 cs_X11_bit (show Cond.initialized (yX11_bit).cls ∈ am_ts from ci9_RX11) ⟨by decide +kernel, by decide +kernel, by decide +kernel⟩ rfl (by decide +kernel)))⟩,
  List.forall_mem_cons.mpr ⟨⟨mo_ast _ _ _ _, Or.inl (ok_iast (by decide +kernel))⟩,
  List.forall_mem_cons.mpr ⟨⟨mo_al _ _, Or.inl (ok_aload_n (k := 0) rfl (by decide +kernel))⟩,
  List.forall_mem_cons.mpr ⟨⟨mo_gr _ _ _ _, Or.inl (ok_gr (C := RX11) (T := TX11) (N := 93) (ci := 11) (k := 83) rfl inX11 (by decide) fl_X11_247 (by decide +kernel) (by decide +kernel))⟩,
  List.forall_mem_cons.mpr ⟨⟨mo_ic _ _, Or.inl (ok_bipush (n := 11) (v := 11) (by decide) (by decide +kernel))⟩,
  List.forall_mem_cons.mpr ⟨⟨mo_al _ _, Or.inl (ok_aload_n (k := 0) rfl (by decide +kernel))⟩,
  List.forall_mem_cons.mpr ⟨⟨mo_gi _ _ _ _, Or.inl (ok_gi (C := RX11) (T := TX11) (N := 93) (ci := 11) (k := 76) rfl inX11 (by decide) fl_X11_373 (by decide +kernel) (by decide +kernel))⟩,
  List.forall_mem_cons.mpr ⟨⟨mo_ic _ _, Or.inl (ok_sipush (n := 365) (v := 365) (by decide) (by decide +kernel))⟩,
  List.forall_mem_cons.mpr ⟨⟨mo_div _ _, Or.inl (ok_idiv (by decide +kernel))⟩,
  List.forall_mem_cons.mpr ⟨⟨mo_ast _ _ _ _, Or.inl (ok_iast (by decide +kernel))⟩,
  List.forall_mem_cons.mpr ⟨⟨mo_al _ _, Or.inl (ok_aload_n (k := 0) rfl (by decide +kernel))⟩,
  List.forall_mem_cons.mpr ⟨⟨mo_gr _ _ _ _, Or.inl (ok_gr (C := RX11) (T := TX11) (N := 93) (ci := 11) (k := 83) rfl inX11 (by decide) fl_X11_247 (by decide +kernel) (by decide +kernel))⟩,
  List.forall_mem_cons.mpr ⟨⟨mo_ic _ _, Or.inl (ok_bipush (n := 12) (v := 12) (by decide) (by decide +kernel))⟩,
  List.forall_mem_cons.mpr ⟨⟨mo_al _ _, Or.inl (ok_aload_n (k := 0) rfl (by decide +kernel))⟩,
  List.forall_mem_cons.mpr ⟨⟨mo_gr _ _ _ _, Or.inl (ok_gr (C := RX11) (T := TX11) (N := 93) (ci := 11) (k := 56) rfl inX11 (by decide) fl_X11_193 (by decide +kernel) (by decide +kernel))⟩,
  List.forall_mem_cons.mpr ⟨⟨mo_il _ _, Or.inl (ok_iload_n (k := 1) rfl (by decide +kernel))⟩,
  fun _ h => absurd h List.not_mem_nil⟩⟩⟩⟩⟩⟩⟩⟩⟩⟩⟩⟩⟩⟩⟩⟩⟩⟩⟩⟩
def t_X11_sees_13 : List (Nat × am_F) := [(460, im_ald q_SH .int 461), (461, im_ic (-1) 462), (462, im_if2 ic_eq 480 465), (465, im_al 0 466), (466, im_gr q_SH 11 62 469), (469, im_al 0 470), (470, im_gr q_SH 11 57 473), (473, im_il 1 474), (474, im_ald q_SH .int 475), (475, im_ald q_SH .int 476), (476, im_ic (-1) 477), (477, im_if2 ic_ne 486 480), (480, im_ic 99999 483), (483, im_go 502), (486, im_al 0 487), (487, im_gi q_SH 11 76 490), (490, im_al 0 491), (491, im_gr q_SH 11 62 494), (494, im_al 0 495), (495, im_gr q_SH 11 57 498)]
set_option maxRecDepth 20000 in
theorem o_X11_sees_13 : ∀ q ∈ t_X11_sees_13, am_ok vwCl q_SH ξ (q_E ξ β xs L) q_EN q_KD q_ML (cX11_sees, 7, RX11, "sees", none, []) q.1 q.2 :=
  List.forall_mem_cons.mpr ⟨⟨mo_ald _ _ _, Or.inl (ok_iald (by decide +kernel))⟩,
  List.forall_mem_cons.mpr ⟨⟨mo_ic _ _, Or.inl (ok_iconst (n := (-1)) (v := (-1)) (by decide) (by decide +kernel))⟩,
  List.forall_mem_cons.mpr ⟨⟨mo_if2 _ _ _, Or.inl (ok_icmp_eq (off := 18) (by decide) (by decide +kernel))⟩,
  List.forall_mem_cons.mpr ⟨⟨mo_al _ _, Or.inl (ok_aload_n (k := 0) rfl (by decide +kernel))⟩,
  List.forall_mem_cons.mpr ⟨⟨mo_gr _ _ _ _, Or.inl (ok_gr (C := RX11) (T := TX11) (N := 93) (ci := 11) (k := 62) rfl inX11 (by decide) fl_X11_211 (by decide +kernel) (by decide +kernel))⟩,
  List.forall_mem_cons.mpr ⟨⟨mo_al _ _, Or.inl (ok_aload_n (k := 0) rfl (by decide +kernel))⟩,
  List.forall_mem_cons.mpr ⟨⟨mo_gr _ _ _ _, Or.inl (ok_gr (C := RX11) (T := TX11) (N := 93) (ci := 11) (k := 57) rfl inX11 (by decide) fl_X11_196 (by decide +kernel) (by decide +kernel))⟩,
  List.forall_mem_cons.mpr ⟨⟨mo_il _ _, Or.inl (ok_iload_n (k := 1) rfl (by decide +kernel))⟩,
  List.forall_mem_cons.mpr ⟨⟨mo_ald _ _ _, Or.inl (ok_iald (by decide +kernel))⟩,
  List.forall_mem_cons.mpr ⟨⟨mo_ald _ _ _, Or.inl (ok_iald (by decide +kernel))⟩,
  List.forall_mem_cons.mpr ⟨⟨mo_ic _ _, Or.inl (ok_iconst (n := (-1)) (v := (-1)) (by decide) (by decide +kernel))⟩,
  List.forall_mem_cons.mpr ⟨⟨mo_if2 _ _ _, Or.inl (ok_icmp_ne (off := 9) (by decide) (by decide +kernel))⟩,
  List.forall_mem_cons.mpr ⟨⟨mo_ic _ _, Or.inl (ok_ldcw (v := 99999) (am_in7 184 rfl rfl) (by decide +kernel))⟩,
  List.forall_mem_cons.mpr ⟨⟨mo_go _, Or.inl (ok_goto (off := 19) (by decide) (by decide +kernel))⟩,
  List.forall_mem_cons.mpr ⟨⟨mo_al _ _, Or.inl (ok_aload_n (k := 0) rfl (by decide +kernel))⟩,
  List.forall_mem_cons.mpr ⟨⟨mo_gi _ _ _ _, Or.inl (ok_gi (C := RX11) (T := TX11) (N := 93) (ci := 11) (k := 76) rfl inX11 (by decide) fl_X11_373 (by decide +kernel) (by decide +kernel))⟩,
  List.forall_mem_cons.mpr ⟨⟨mo_al _ _, Or.inl (ok_aload_n (k := 0) rfl (by decide +kernel))⟩,
  List.forall_mem_cons.mpr ⟨⟨mo_gr _ _ _ _, Or.inl (ok_gr (C := RX11) (T := TX11) (N := 93) (ci := 11) (k := 62) rfl inX11 (by decide) fl_X11_211 (by decide +kernel) (by decide +kernel))⟩,
  List.forall_mem_cons.mpr ⟨⟨mo_al _ _, Or.inl (ok_aload_n (k := 0) rfl (by decide +kernel))⟩,
  List.forall_mem_cons.mpr ⟨⟨mo_gr _ _ _ _, Or.inl (ok_gr (C := RX11) (T := TX11) (N := 93) (ci := 11) (k := 57) rfl inX11 (by decide) fl_X11_196 (by decide +kernel) (by decide +kernel))⟩,
  fun _ h => absurd h List.not_mem_nil⟩⟩⟩⟩⟩⟩⟩⟩⟩⟩⟩⟩⟩⟩⟩⟩⟩⟩⟩⟩
def t_X11_sees_14 : List (Nat × am_F) := [(498, im_il 1 499), (499, im_ald q_SH .int 500), (500, im_ald q_SH .int 501), (501, im_bin (fun x y => x - y) 502), (502, im_ast q_SH .int (fun x => x) 503), (503, im_ret0e)]
set_option maxRecDepth 20000 in
theorem o_X11_sees_14 : ∀ q ∈ t_X11_sees_14, am_ok vwCl q_SH ξ (q_E ξ β xs L) q_EN q_KD q_ML (cX11_sees, 7, RX11, "sees", none, []) q.1 q.2 :=
  List.forall_mem_cons.mpr ⟨⟨mo_il _ _, Or.inl (ok_iload_n (k := 1) rfl (by decide +kernel))⟩,
  List.forall_mem_cons.mpr ⟨⟨mo_ald _ _ _, Or.inl (ok_iald (by decide +kernel))⟩,
  List.forall_mem_cons.mpr ⟨⟨mo_ald _ _ _, Or.inl (ok_iald (by decide +kernel))⟩,
  List.forall_mem_cons.mpr ⟨⟨mo_bin _ _, Or.inl (ok_isub (by decide +kernel))⟩,
  List.forall_mem_cons.mpr ⟨⟨mo_ast _ _ _ _, Or.inl (ok_iast (by decide +kernel))⟩,
  List.forall_mem_cons.mpr ⟨⟨mo_ret0e, Or.inr (Or.inr (ok_ret0 rfl (by decide +kernel)))⟩,
  fun _ h => absurd h List.not_mem_nil⟩⟩⟩⟩⟩⟩
def t_X11_sees : List (Nat × am_F) := t_X11_sees_0 ++ (t_X11_sees_1 ++ (t_X11_sees_2 ++ (t_X11_sees_3 ++ (t_X11_sees_4 ++ (t_X11_sees_5 ++ (t_X11_sees_6 ++ (t_X11_sees_7 ++ (t_X11_sees_8 ++ (t_X11_sees_9 ++ (t_X11_sees_10 ++ (t_X11_sees_11 ++ (t_X11_sees_12 ++ (t_X11_sees_13 ++ (t_X11_sees_14))))))))))))))
theorem o_X11_sees : ∀ q ∈ t_X11_sees, am_ok vwCl q_SH ξ (q_E ξ β xs L) q_EN q_KD q_ML (cX11_sees, 7, RX11, "sees", none, []) q.1 q.2 := List.forall_mem_append.mpr ⟨o_X11_sees_0, List.forall_mem_append.mpr ⟨o_X11_sees_1, List.forall_mem_append.mpr ⟨o_X11_sees_2, List.forall_mem_append.mpr ⟨o_X11_sees_3, List.forall_mem_append.mpr ⟨o_X11_sees_4, List.forall_mem_append.mpr ⟨o_X11_sees_5, List.forall_mem_append.mpr ⟨o_X11_sees_6, List.forall_mem_append.mpr ⟨o_X11_sees_7, List.forall_mem_append.mpr ⟨o_X11_sees_8, List.forall_mem_append.mpr ⟨o_X11_sees_9, List.forall_mem_append.mpr ⟨o_X11_sees_10, List.forall_mem_append.mpr ⟨o_X11_sees_11, List.forall_mem_append.mpr ⟨o_X11_sees_12, List.forall_mem_append.mpr ⟨o_X11_sees_13, o_X11_sees_14⟩⟩⟩⟩⟩⟩⟩⟩⟩⟩⟩⟩⟩⟩
def t_X11_asks_0 : List (Nat × am_F) := [(0, im_il 2 1), (1, im_is 4 3), (3, im_il 4 5), (5, im_il 3 6), (6, im_if2 ic_gt 116 9), (9, im_al 0 10), (10, im_gr q_SH 11 85 13), (13, im_il 4 15), (15, im_ic (-1) 16), (16, im_ast q_SH .int (fun x => x) 17), (17, im_al 0 18), (18, im_il 1 19), (19, im_il 4 21), (21, im_inv q_SH 11 157 2 24), (24, im_al 0 25), (25, im_il 1 26), (26, im_il 4 28), (28, im_inv q_SH 11 156 2 31), (31, im_if1 ib_eq 38 34), (34, im_ic 1 35)]
set_option maxRecDepth 20000 in
theorem o_X11_asks_0 : ∀ q ∈ t_X11_asks_0, am_ok vwCl q_SH ξ (q_E ξ β xs L) q_EN q_KD q_ML (cX11_asks, 7, RX11, "asks", none, []) q.1 q.2 :=
  List.forall_mem_cons.mpr ⟨⟨mo_il _ _, Or.inl (ok_iload_n (k := 2) rfl (by decide +kernel))⟩,
  List.forall_mem_cons.mpr ⟨⟨mo_is _ _, Or.inl (ok_istore (by decide) (by decide +kernel))⟩,
  List.forall_mem_cons.mpr ⟨⟨mo_il _ _, Or.inl (ok_iload (by decide +kernel))⟩,
  List.forall_mem_cons.mpr ⟨⟨mo_il _ _, Or.inl (ok_iload_n (k := 3) rfl (by decide +kernel))⟩,
  List.forall_mem_cons.mpr ⟨⟨mo_if2 _ _ _, Or.inl (ok_icmp_gt (off := 110) (by decide) (by decide +kernel))⟩,
  List.forall_mem_cons.mpr ⟨⟨mo_al _ _, Or.inl (ok_aload_n (k := 0) rfl (by decide +kernel))⟩,
  List.forall_mem_cons.mpr ⟨⟨mo_gr _ _ _ _, Or.inl (ok_gr (C := RX11) (T := TX11) (N := 93) (ci := 11) (k := 85) rfl inX11 (by decide) fl_X11_253 (by decide +kernel) (by decide +kernel))⟩,
  List.forall_mem_cons.mpr ⟨⟨mo_il _ _, Or.inl (ok_iload (by decide +kernel))⟩,
  List.forall_mem_cons.mpr ⟨⟨mo_ic _ _, Or.inl (ok_iconst (n := (-1)) (v := (-1)) (by decide) (by decide +kernel))⟩,
  List.forall_mem_cons.mpr ⟨⟨mo_ast _ _ _ _, Or.inl (ok_iast (by decide +kernel))⟩,
  List.forall_mem_cons.mpr ⟨⟨mo_al _ _, Or.inl (ok_aload_n (k := 0) rfl (by decide +kernel))⟩,
  List.forall_mem_cons.mpr ⟨⟨mo_il _ _, Or.inl (ok_iload_n (k := 1) rfl (by decide +kernel))⟩,
  List.forall_mem_cons.mpr ⟨⟨mo_il _ _, Or.inl (ok_iload (by decide +kernel))⟩,
  List.forall_mem_cons.mpr ⟨⟨mo_inv _ _ _ _ _, Or.inr (Or.inl (ok_inv (T := TX11) (N := 93) rfl cw_X11_sees (by decide) (by decide) ml_X11_431 ci_X11_sees cv_X11_sees (show Cond.initialized (yX11_sees).cls ∈ am_ts from ci9_RX11) ⟨by decide +kernel, by decide +kernel, by decide +kernel⟩ rfl (by decide +kernel)))⟩,
  List.forall_mem_cons.mpr ⟨⟨mo_al _ _, Or.inl (ok_aload_n (k := 0) rfl (by decide +kernel))⟩,
  List.forall_mem_cons.mpr ⟨⟨mo_il _ _, Or.inl (ok_iload_n (k := 1) rfl (by decide +kernel))⟩,
  List.forall_mem_cons.mpr ⟨⟨mo_il _ _, Or.inl (ok_iload (by decide +kernel))⟩,
  List.forall_mem_cons.mpr ⟨⟨mo_inv _ _ _ _ _, Or.inr (Or.inl (ok_inv (T := TX11) (N := 93) rfl cw_X11_has (by decide) (by decide) ml_X11_427 ci_X11_has cv_X11_has (show Cond.initialized (yX11_has).cls ∈ am_ts from ci9_RX11) ⟨by decide +kernel, by decide +kernel, by decide +kernel⟩ rfl (by decide +kernel)))⟩,
  List.forall_mem_cons.mpr ⟨⟨mo_if1 _ _ _, Or.inl (ok_if_eq (off := 7) (by decide) (by decide +kernel))⟩,
  List.forall_mem_cons.mpr ⟨⟨mo_ic _ _, Or.inl (ok_iconst (n := 1) (v := 1) (by decide) (by decide +kernel))⟩,
  fun _ h => absurd h List.not_mem_nil⟩⟩⟩⟩⟩⟩⟩⟩⟩⟩⟩⟩⟩⟩⟩⟩⟩⟩⟩⟩
def t_X11_asks_1 : List (Nat × am_F) := [(35, im_go 39), (38, im_ic 0 39), (39, im_is 5 41), (41, im_ic 0 42), (42, im_is 6 44), (44, im_il 6 46), (46, im_al 0 47), (47, im_gi q_SH 11 32 50), (50, im_if2 ic_ge 110 53), (53, im_al 0 54), (54, im_gr q_SH 11 85 57), (57, im_il 4 59), (59, im_ald q_SH .int 60), (60, im_ic (-1) 61), (61, im_if2 ic_ne 110 64), (64, im_al 0 65), (65, im_gi q_SH 11 77 68), (68, im_il 6 70), (70, im_bin (fun x y => x >>> (y &&& 31)) 71), (71, im_ic 1 72)]
set_option maxRecDepth 20000 in
theorem o_X11_asks_1 : ∀ q ∈ t_X11_asks_1, am_ok vwCl q_SH ξ (q_E ξ β xs L) q_EN q_KD q_ML (cX11_asks, 7, RX11, "asks", none, []) q.1 q.2 :=
  List.forall_mem_cons.mpr ⟨⟨mo_go _, Or.inl (ok_goto (off := 4) (by decide) (by decide +kernel))⟩,
  List.forall_mem_cons.mpr ⟨⟨mo_ic _ _, Or.inl (ok_iconst (n := 0) (v := 0) (by decide) (by decide +kernel))⟩,
  List.forall_mem_cons.mpr ⟨⟨mo_is _ _, Or.inl (ok_istore (by decide) (by decide +kernel))⟩,
  List.forall_mem_cons.mpr ⟨⟨mo_ic _ _, Or.inl (ok_iconst (n := 0) (v := 0) (by decide) (by decide +kernel))⟩,
  List.forall_mem_cons.mpr ⟨⟨mo_is _ _, Or.inl (ok_istore (by decide) (by decide +kernel))⟩,
  List.forall_mem_cons.mpr ⟨⟨mo_il _ _, Or.inl (ok_iload (by decide +kernel))⟩,
  List.forall_mem_cons.mpr ⟨⟨mo_al _ _, Or.inl (ok_aload_n (k := 0) rfl (by decide +kernel))⟩,
  List.forall_mem_cons.mpr ⟨⟨mo_gi _ _ _ _, Or.inl (ok_gi (C := RX11) (T := TX11) (N := 93) (ci := 11) (k := 32) rfl inX11 (by decide) fl_X11_77 (by decide +kernel) (by decide +kernel))⟩,
  List.forall_mem_cons.mpr ⟨⟨mo_if2 _ _ _, Or.inl (ok_icmp_ge (off := 60) (by decide) (by decide +kernel))⟩,
  List.forall_mem_cons.mpr ⟨⟨mo_al _ _, Or.inl (ok_aload_n (k := 0) rfl (by decide +kernel))⟩,
  List.forall_mem_cons.mpr ⟨⟨mo_gr _ _ _ _, Or.inl (ok_gr (C := RX11) (T := TX11) (N := 93) (ci := 11) (k := 85) rfl inX11 (by decide) fl_X11_253 (by decide +kernel) (by decide +kernel))⟩,
  List.forall_mem_cons.mpr ⟨⟨mo_il _ _, Or.inl (ok_iload (by decide +kernel))⟩,
  List.forall_mem_cons.mpr ⟨⟨mo_ald _ _ _, Or.inl (ok_iald (by decide +kernel))⟩,
  List.forall_mem_cons.mpr ⟨⟨mo_ic _ _, Or.inl (ok_iconst (n := (-1)) (v := (-1)) (by decide) (by decide +kernel))⟩,
  List.forall_mem_cons.mpr ⟨⟨mo_if2 _ _ _, Or.inl (ok_icmp_ne (off := 49) (by decide) (by decide +kernel))⟩,
  List.forall_mem_cons.mpr ⟨⟨mo_al _ _, Or.inl (ok_aload_n (k := 0) rfl (by decide +kernel))⟩,
  List.forall_mem_cons.mpr ⟨⟨mo_gi _ _ _ _, Or.inl (ok_gi (C := RX11) (T := TX11) (N := 93) (ci := 11) (k := 77) rfl inX11 (by decide) fl_X11_380 (by decide +kernel) (by decide +kernel))⟩,
  List.forall_mem_cons.mpr ⟨⟨mo_il _ _, Or.inl (ok_iload (by decide +kernel))⟩,
  List.forall_mem_cons.mpr ⟨⟨mo_bin _ _, Or.inl (ok_ishr (by decide +kernel))⟩,
  List.forall_mem_cons.mpr ⟨⟨mo_ic _ _, Or.inl (ok_iconst (n := 1) (v := 1) (by decide) (by decide +kernel))⟩,
  fun _ h => absurd h List.not_mem_nil⟩⟩⟩⟩⟩⟩⟩⟩⟩⟩⟩⟩⟩⟩⟩⟩⟩⟩⟩⟩
def t_X11_asks_2 : List (Nat × am_F) := [(72, im_bin (fun x y => x &&& y) 73), (73, im_ic 1 74), (74, im_if2 ic_ne 104 77), (77, im_al 0 78), (78, im_gr q_SH 11 36 81), (81, im_il 6 83), (83, im_ald q_SH .int 84), (84, im_il 4 86), (86, im_if2 ic_ne 104 89), (89, im_al 0 90), (90, im_gr q_SH 11 85 93), (93, im_il 4 95), (95, im_al 0 96), (96, im_il 6 98), (98, im_il 5 100), (100, im_inv q_SH 11 159 2 103), (103, im_ast q_SH .int (fun x => x) 104), (104, im_iinc 6 1 107), (107, im_go 44), (110, im_iinc 4 1 113)]
set_option maxRecDepth 20000 in
theorem o_X11_asks_2 : ∀ q ∈ t_X11_asks_2, am_ok vwCl q_SH ξ (q_E ξ β xs L) q_EN q_KD q_ML (cX11_asks, 7, RX11, "asks", none, []) q.1 q.2 :=
  List.forall_mem_cons.mpr ⟨⟨mo_bin _ _, Or.inl (ok_iand (by decide +kernel))⟩,
  List.forall_mem_cons.mpr ⟨⟨mo_ic _ _, Or.inl (ok_iconst (n := 1) (v := 1) (by decide) (by decide +kernel))⟩,
  List.forall_mem_cons.mpr ⟨⟨mo_if2 _ _ _, Or.inl (ok_icmp_ne (off := 30) (by decide) (by decide +kernel))⟩,
  List.forall_mem_cons.mpr ⟨⟨mo_al _ _, Or.inl (ok_aload_n (k := 0) rfl (by decide +kernel))⟩,
  List.forall_mem_cons.mpr ⟨⟨mo_gr _ _ _ _, Or.inl (ok_gr (C := RX11) (T := TX11) (N := 93) (ci := 11) (k := 36) rfl inX11 (by decide) fl_X11_141 (by decide +kernel) (by decide +kernel))⟩,
  List.forall_mem_cons.mpr ⟨⟨mo_il _ _, Or.inl (ok_iload (by decide +kernel))⟩,
  List.forall_mem_cons.mpr ⟨⟨mo_ald _ _ _, Or.inl (ok_iald (by decide +kernel))⟩,
  List.forall_mem_cons.mpr ⟨⟨mo_il _ _, Or.inl (ok_iload (by decide +kernel))⟩,
  List.forall_mem_cons.mpr ⟨⟨mo_if2 _ _ _, Or.inl (ok_icmp_ne (off := 18) (by decide) (by decide +kernel))⟩,
  List.forall_mem_cons.mpr ⟨⟨mo_al _ _, Or.inl (ok_aload_n (k := 0) rfl (by decide +kernel))⟩,
  List.forall_mem_cons.mpr ⟨⟨mo_gr _ _ _ _, Or.inl (ok_gr (C := RX11) (T := TX11) (N := 93) (ci := 11) (k := 85) rfl inX11 (by decide) fl_X11_253 (by decide +kernel) (by decide +kernel))⟩,
  List.forall_mem_cons.mpr ⟨⟨mo_il _ _, Or.inl (ok_iload (by decide +kernel))⟩,
  List.forall_mem_cons.mpr ⟨⟨mo_al _ _, Or.inl (ok_aload_n (k := 0) rfl (by decide +kernel))⟩,
  List.forall_mem_cons.mpr ⟨⟨mo_il _ _, Or.inl (ok_iload (by decide +kernel))⟩,
  List.forall_mem_cons.mpr ⟨⟨mo_il _ _, Or.inl (ok_iload (by decide +kernel))⟩,
  List.forall_mem_cons.mpr ⟨⟨mo_inv _ _ _ _ _, Or.inr (Or.inl (ok_inv (T := TX11) (N := 93) rfl cw_X11_first (by decide) (by decide) ml_X11_434 ci_X11_first cv_X11_first (show Cond.initialized (yX11_first).cls ∈ am_ts from ci9_RX11) ⟨by decide +kernel, by decide +kernel, by decide +kernel⟩ rfl (by decide +kernel)))⟩,
  List.forall_mem_cons.mpr ⟨⟨mo_ast _ _ _ _, Or.inl (ok_iast (by decide +kernel))⟩,
  List.forall_mem_cons.mpr ⟨⟨mo_iinc _ _ _, Or.inl (ok_iinc (n := 1) (v := 1) (by decide) (by decide) (by decide +kernel))⟩,
  List.forall_mem_cons.mpr ⟨⟨mo_go _, Or.inl (ok_goto (off := (-63)) (by decide) (by decide +kernel))⟩,
  List.forall_mem_cons.mpr ⟨⟨mo_iinc _ _ _, Or.inl (ok_iinc (n := 1) (v := 1) (by decide) (by decide) (by decide +kernel))⟩,
  fun _ h => absurd h List.not_mem_nil⟩⟩⟩⟩⟩⟩⟩⟩⟩⟩⟩⟩⟩⟩⟩⟩⟩⟩⟩⟩
def t_X11_asks_3 : List (Nat × am_F) := [(113, im_go 3), (116, im_il 2 117), (117, im_is 4 119), (119, im_il 4 121), (121, im_il 3 122), (122, im_if2 ic_gt 156 125), (125, im_al 0 126), (126, im_gr q_SH 11 85 129), (129, im_il 4 131), (131, im_ald q_SH .int 132), (132, im_ic (-1) 133), (133, im_if2 ic_eq 150 136), (136, im_al 0 137), (137, im_il 1 138), (138, im_il 4 140), (140, im_al 0 141), (141, im_gr q_SH 11 85 144), (144, im_il 4 146), (146, im_ald q_SH .int 147), (147, im_inv q_SH 11 162 3 150)]
set_option maxRecDepth 20000 in
theorem o_X11_asks_3 : ∀ q ∈ t_X11_asks_3, am_ok vwCl q_SH ξ (q_E ξ β xs L) q_EN q_KD q_ML (cX11_asks, 7, RX11, "asks", none, []) q.1 q.2 :=
  List.forall_mem_cons.mpr ⟨⟨mo_go _, Or.inl (ok_goto (off := (-110)) (by decide) (by decide +kernel))⟩,
  List.forall_mem_cons.mpr ⟨⟨mo_il _ _, Or.inl (ok_iload_n (k := 2) rfl (by decide +kernel))⟩,
  List.forall_mem_cons.mpr ⟨⟨mo_is _ _, Or.inl (ok_istore (by decide) (by decide +kernel))⟩,
  List.forall_mem_cons.mpr ⟨⟨mo_il _ _, Or.inl (ok_iload (by decide +kernel))⟩,
  List.forall_mem_cons.mpr ⟨⟨mo_il _ _, Or.inl (ok_iload_n (k := 3) rfl (by decide +kernel))⟩,
  List.forall_mem_cons.mpr ⟨⟨mo_if2 _ _ _, Or.inl (ok_icmp_gt (off := 34) (by decide) (by decide +kernel))⟩,
  List.forall_mem_cons.mpr ⟨⟨mo_al _ _, Or.inl (ok_aload_n (k := 0) rfl (by decide +kernel))⟩,
  List.forall_mem_cons.mpr ⟨⟨mo_gr _ _ _ _, Or.inl (ok_gr (C := RX11) (T := TX11) (N := 93) (ci := 11) (k := 85) rfl inX11 (by decide) fl_X11_253 (by decide +kernel) (by decide +kernel))⟩,
  List.forall_mem_cons.mpr ⟨⟨mo_il _ _, Or.inl (ok_iload (by decide +kernel))⟩,
  List.forall_mem_cons.mpr ⟨⟨mo_ald _ _ _, Or.inl (ok_iald (by decide +kernel))⟩,
  List.forall_mem_cons.mpr ⟨⟨mo_ic _ _, Or.inl (ok_iconst (n := (-1)) (v := (-1)) (by decide) (by decide +kernel))⟩,
  List.forall_mem_cons.mpr ⟨⟨mo_if2 _ _ _, Or.inl (ok_icmp_eq (off := 17) (by decide) (by decide +kernel))⟩,
  List.forall_mem_cons.mpr ⟨⟨mo_al _ _, Or.inl (ok_aload_n (k := 0) rfl (by decide +kernel))⟩,
  List.forall_mem_cons.mpr ⟨⟨mo_il _ _, Or.inl (ok_iload_n (k := 1) rfl (by decide +kernel))⟩,
  List.forall_mem_cons.mpr ⟨⟨mo_il _ _, Or.inl (ok_iload (by decide +kernel))⟩,
  List.forall_mem_cons.mpr ⟨⟨mo_al _ _, Or.inl (ok_aload_n (k := 0) rfl (by decide +kernel))⟩,
  List.forall_mem_cons.mpr ⟨⟨mo_gr _ _ _ _, Or.inl (ok_gr (C := RX11) (T := TX11) (N := 93) (ci := 11) (k := 85) rfl inX11 (by decide) fl_X11_253 (by decide +kernel) (by decide +kernel))⟩,
  List.forall_mem_cons.mpr ⟨⟨mo_il _ _, Or.inl (ok_iload (by decide +kernel))⟩,
  List.forall_mem_cons.mpr ⟨⟨mo_ald _ _ _, Or.inl (ok_iald (by decide +kernel))⟩,
  List.forall_mem_cons.mpr ⟨⟨mo_inv _ _ _ _ _, Or.inr (Or.inl (ok_inv (T := TX11) (N := 93) rfl cw_X11_changes (by decide) (by decide) ml_X11_437 ci_X11_changes cv_X11_changes (show Cond.initialized (yX11_changes).cls ∈ am_ts from ci9_RX11) ⟨by decide +kernel, by decide +kernel, by decide +kernel⟩ rfl (by decide +kernel)))⟩,
  fun _ h => absurd h List.not_mem_nil⟩⟩⟩⟩⟩⟩⟩⟩⟩⟩⟩⟩⟩⟩⟩⟩⟩⟩⟩⟩
def t_X11_asks_4 : List (Nat × am_F) := [(150, im_iinc 4 1 153), (153, im_go 119), (156, im_ret0e)]
set_option maxRecDepth 20000 in
theorem o_X11_asks_4 : ∀ q ∈ t_X11_asks_4, am_ok vwCl q_SH ξ (q_E ξ β xs L) q_EN q_KD q_ML (cX11_asks, 7, RX11, "asks", none, []) q.1 q.2 :=
  List.forall_mem_cons.mpr ⟨⟨mo_iinc _ _ _, Or.inl (ok_iinc (n := 1) (v := 1) (by decide) (by decide) (by decide +kernel))⟩,
  List.forall_mem_cons.mpr ⟨⟨mo_go _, Or.inl (ok_goto (off := (-34)) (by decide) (by decide +kernel))⟩,
  List.forall_mem_cons.mpr ⟨⟨mo_ret0e, Or.inr (Or.inr (ok_ret0 rfl (by decide +kernel)))⟩,
  fun _ h => absurd h List.not_mem_nil⟩⟩⟩
def t_X11_asks : List (Nat × am_F) := t_X11_asks_0 ++ (t_X11_asks_1 ++ (t_X11_asks_2 ++ (t_X11_asks_3 ++ (t_X11_asks_4))))
theorem o_X11_asks : ∀ q ∈ t_X11_asks, am_ok vwCl q_SH ξ (q_E ξ β xs L) q_EN q_KD q_ML (cX11_asks, 7, RX11, "asks", none, []) q.1 q.2 := List.forall_mem_append.mpr ⟨o_X11_asks_0, List.forall_mem_append.mpr ⟨o_X11_asks_1, List.forall_mem_append.mpr ⟨o_X11_asks_2, List.forall_mem_append.mpr ⟨o_X11_asks_3, o_X11_asks_4⟩⟩⟩⟩
def t_X11_first_0 : List (Nat × am_F) := [(0, im_ic 0 1), (1, im_is 3 2), (2, im_il 3 3), (3, im_al 0 4), (4, im_gr q_SH 11 41 7), (7, im_il 1 8), (8, im_ald q_SH .int 9), (9, im_if2 ic_ge 96 12), (12, im_ic 12 14), (14, im_il 1 15), (15, im_bin (fun x y => x * y) 16), (16, im_il 3 17), (17, im_bin (fun x y => x + y) 18), (18, im_is 4 20), (20, im_al 0 21), (21, im_gr q_SH 11 43 24), (24, im_il 4 26), (26, im_ald q_SH .int 27), (27, im_il 2 28), (28, im_if2 ic_ne 90 31)]
set_option maxRecDepth 20000 in
theorem o_X11_first_0 : ∀ q ∈ t_X11_first_0, am_ok vwCl q_SH ξ (q_E ξ β xs L) q_EN q_KD q_ML (cX11_first, 5, RX11, "first", (some .int), []) q.1 q.2 :=
  List.forall_mem_cons.mpr ⟨⟨mo_ic _ _, Or.inl (ok_iconst (n := 0) (v := 0) (by decide) (by decide +kernel))⟩,
  List.forall_mem_cons.mpr ⟨⟨mo_is _ _, Or.inl (ok_istore_n (k := 3) rfl (by decide) (by decide +kernel))⟩,
  List.forall_mem_cons.mpr ⟨⟨mo_il _ _, Or.inl (ok_iload_n (k := 3) rfl (by decide +kernel))⟩,
  List.forall_mem_cons.mpr ⟨⟨mo_al _ _, Or.inl (ok_aload_n (k := 0) rfl (by decide +kernel))⟩,
  List.forall_mem_cons.mpr ⟨⟨mo_gr _ _ _ _, Or.inl (ok_gr (C := RX11) (T := TX11) (N := 93) (ci := 11) (k := 41) rfl inX11 (by decide) fl_X11_153 (by decide +kernel) (by decide +kernel))⟩,
  List.forall_mem_cons.mpr ⟨⟨mo_il _ _, Or.inl (ok_iload_n (k := 1) rfl (by decide +kernel))⟩,
  List.forall_mem_cons.mpr ⟨⟨mo_ald _ _ _, Or.inl (ok_iald (by decide +kernel))⟩,
  List.forall_mem_cons.mpr ⟨⟨mo_if2 _ _ _, Or.inl (ok_icmp_ge (off := 87) (by decide) (by decide +kernel))⟩,
  List.forall_mem_cons.mpr ⟨⟨mo_ic _ _, Or.inl (ok_bipush (n := 12) (v := 12) (by decide) (by decide +kernel))⟩,
  List.forall_mem_cons.mpr ⟨⟨mo_il _ _, Or.inl (ok_iload_n (k := 1) rfl (by decide +kernel))⟩,
  List.forall_mem_cons.mpr ⟨⟨mo_bin _ _, Or.inl (ok_imul (by decide +kernel))⟩,
  List.forall_mem_cons.mpr ⟨⟨mo_il _ _, Or.inl (ok_iload_n (k := 3) rfl (by decide +kernel))⟩,
  List.forall_mem_cons.mpr ⟨⟨mo_bin _ _, Or.inl (ok_iadd (by decide +kernel))⟩,
  List.forall_mem_cons.mpr ⟨⟨mo_is _ _, Or.inl (ok_istore (by decide) (by decide +kernel))⟩,
  List.forall_mem_cons.mpr ⟨⟨mo_al _ _, Or.inl (ok_aload_n (k := 0) rfl (by decide +kernel))⟩,
  List.forall_mem_cons.mpr ⟨⟨mo_gr _ _ _ _, Or.inl (ok_gr (C := RX11) (T := TX11) (N := 93) (ci := 11) (k := 43) rfl inX11 (by decide) fl_X11_159 (by decide +kernel) (by decide +kernel))⟩,
  List.forall_mem_cons.mpr ⟨⟨mo_il _ _, Or.inl (ok_iload (by decide +kernel))⟩,
  List.forall_mem_cons.mpr ⟨⟨mo_ald _ _ _, Or.inl (ok_iald (by decide +kernel))⟩,
  List.forall_mem_cons.mpr ⟨⟨mo_il _ _, Or.inl (ok_iload_n (k := 2) rfl (by decide +kernel))⟩,
  List.forall_mem_cons.mpr ⟨⟨mo_if2 _ _ _, Or.inl (ok_icmp_ne (off := 62) (by decide) (by decide +kernel))⟩,
  fun _ h => absurd h List.not_mem_nil⟩⟩⟩⟩⟩⟩⟩⟩⟩⟩⟩⟩⟩⟩⟩⟩⟩⟩⟩⟩
def t_X11_first_1 : List (Nat × am_F) := [(31, im_al 0 32), (32, im_gr q_SH 11 44 35), (35, im_il 4 37), (37, im_ald q_SH .int 38), (38, im_al 0 39), (39, im_gi q_SH 11 78 42), (42, im_if2 ic_eq 48 45), (45, im_go 90), (48, im_al 0 49), (49, im_gr q_SH 11 46 52), (52, im_il 4 54), (54, im_ald q_SH .int 55), (55, im_ic (-1) 56), (56, im_if2 ic_eq 73 59), (59, im_al 0 60), (60, im_al 0 61), (61, im_gr q_SH 11 46 64), (64, im_il 4 66), (66, im_ald q_SH .int 67), (67, im_inv q_SH 11 161 1 70)]
set_option maxRecDepth 20000 in
theorem o_X11_first_1 : ∀ q ∈ t_X11_first_1, am_ok vwCl q_SH ξ (q_E ξ β xs L) q_EN q_KD q_ML (cX11_first, 5, RX11, "first", (some .int), []) q.1 q.2 :=
  List.forall_mem_cons.mpr ⟨⟨mo_al _ _, Or.inl (ok_aload_n (k := 0) rfl (by decide +kernel))⟩,
  List.forall_mem_cons.mpr ⟨⟨mo_gr _ _ _ _, Or.inl (ok_gr (C := RX11) (T := TX11) (N := 93) (ci := 11) (k := 44) rfl inX11 (by decide) fl_X11_162 (by decide +kernel) (by decide +kernel))⟩,
  List.forall_mem_cons.mpr ⟨⟨mo_il _ _, Or.inl (ok_iload (by decide +kernel))⟩,
  List.forall_mem_cons.mpr ⟨⟨mo_ald _ _ _, Or.inl (ok_iald (by decide +kernel))⟩,
  List.forall_mem_cons.mpr ⟨⟨mo_al _ _, Or.inl (ok_aload_n (k := 0) rfl (by decide +kernel))⟩,
  List.forall_mem_cons.mpr ⟨⟨mo_gi _ _ _ _, Or.inl (ok_gi (C := RX11) (T := TX11) (N := 93) (ci := 11) (k := 78) rfl inX11 (by decide) fl_X11_389 (by decide +kernel) (by decide +kernel))⟩,
  List.forall_mem_cons.mpr ⟨⟨mo_if2 _ _ _, Or.inl (ok_icmp_eq (off := 6) (by decide) (by decide +kernel))⟩,
  List.forall_mem_cons.mpr ⟨⟨mo_go _, Or.inl (ok_goto (off := 45) (by decide) (by decide +kernel))⟩,
  List.forall_mem_cons.mpr ⟨⟨mo_al _ _, Or.inl (ok_aload_n (k := 0) rfl (by decide +kernel))⟩,
  List.forall_mem_cons.mpr ⟨⟨mo_gr _ _ _ _, Or.inl (ok_gr (C := RX11) (T := TX11) (N := 93) (ci := 11) (k := 46) rfl inX11 (by decide) fl_X11_168 (by decide +kernel) (by decide +kernel))⟩,
  List.forall_mem_cons.mpr ⟨⟨mo_il _ _, Or.inl (ok_iload (by decide +kernel))⟩,
  List.forall_mem_cons.mpr ⟨⟨mo_ald _ _ _, Or.inl (ok_iald (by decide +kernel))⟩,
  List.forall_mem_cons.mpr ⟨⟨mo_ic _ _, Or.inl (ok_iconst (n := (-1)) (v := (-1)) (by decide) (by decide +kernel))⟩,
  List.forall_mem_cons.mpr ⟨⟨mo_if2 _ _ _, Or.inl (ok_icmp_eq (off := 17) (by decide) (by decide +kernel))⟩,
  List.forall_mem_cons.mpr ⟨⟨mo_al _ _, Or.inl (ok_aload_n (k := 0) rfl (by decide +kernel))⟩,
  List.forall_mem_cons.mpr ⟨⟨mo_al _ _, Or.inl (ok_aload_n (k := 0) rfl (by decide +kernel))⟩,
  List.forall_mem_cons.mpr ⟨⟨mo_gr _ _ _ _, Or.inl (ok_gr (C := RX11) (T := TX11) (N := 93) (ci := 11) (k := 46) rfl inX11 (by decide) fl_X11_168 (by decide +kernel) (by decide +kernel))⟩,
  List.forall_mem_cons.mpr ⟨⟨mo_il _ _, Or.inl (ok_iload (by decide +kernel))⟩,
  List.forall_mem_cons.mpr ⟨⟨mo_ald _ _ _, Or.inl (ok_iald (by decide +kernel))⟩,
  List.forall_mem_cons.mpr ⟨⟨mo_inv _ _ _ _ _, Or.inr (Or.inl (ok_inv (T := TX11) (N := 93) rfl cw_X11_worth (by decide) (by decide) ml_X11_440 ci_X11_worth cv_X11_worth (show Cond.initialized (yX11_worth).cls ∈ am_ts from ci9_RX11) ⟨by decide +kernel, by decide +kernel, by decide +kernel⟩ rfl (by decide +kernel)))⟩,
  fun _ h => absurd h List.not_mem_nil⟩⟩⟩⟩⟩⟩⟩⟩⟩⟩⟩⟩⟩⟩⟩⟩⟩⟩⟩⟩
def t_X11_first_2 : List (Nat × am_F) := [(70, im_if1 ib_ne 90 73), (73, im_al 0 74), (74, im_al 0 75), (75, im_gr q_SH 11 45 78), (78, im_il 4 80), (80, im_ald q_SH .int 81), (81, im_inv q_SH 11 161 1 84), (84, im_if1 ib_eq 90 87), (87, im_il 4 89), (89, im_reti), (90, im_iinc 3 1 93), (93, im_go 2), (96, im_ic (-1) 97), (97, im_reti)]
set_option maxRecDepth 20000 in
theorem o_X11_first_2 : ∀ q ∈ t_X11_first_2, am_ok vwCl q_SH ξ (q_E ξ β xs L) q_EN q_KD q_ML (cX11_first, 5, RX11, "first", (some .int), []) q.1 q.2 :=
  List.forall_mem_cons.mpr ⟨⟨mo_if1 _ _ _, Or.inl (ok_if_ne (off := 20) (by decide) (by decide +kernel))⟩,
  List.forall_mem_cons.mpr ⟨⟨mo_al _ _, Or.inl (ok_aload_n (k := 0) rfl (by decide +kernel))⟩,
  List.forall_mem_cons.mpr ⟨⟨mo_al _ _, Or.inl (ok_aload_n (k := 0) rfl (by decide +kernel))⟩,
  List.forall_mem_cons.mpr ⟨⟨mo_gr _ _ _ _, Or.inl (ok_gr (C := RX11) (T := TX11) (N := 93) (ci := 11) (k := 45) rfl inX11 (by decide) fl_X11_165 (by decide +kernel) (by decide +kernel))⟩,
  List.forall_mem_cons.mpr ⟨⟨mo_il _ _, Or.inl (ok_iload (by decide +kernel))⟩,
  List.forall_mem_cons.mpr ⟨⟨mo_ald _ _ _, Or.inl (ok_iald (by decide +kernel))⟩,
  List.forall_mem_cons.mpr ⟨⟨mo_inv _ _ _ _ _, Or.inr (Or.inl (ok_inv (T := TX11) (N := 93) rfl cw_X11_worth (by decide) (by decide) ml_X11_440 ci_X11_worth cv_X11_worth (show Cond.initialized (yX11_worth).cls ∈ am_ts from ci9_RX11) ⟨by decide +kernel, by decide +kernel, by decide +kernel⟩ rfl (by decide +kernel)))⟩,
  List.forall_mem_cons.mpr ⟨⟨mo_if1 _ _ _, Or.inl (ok_if_eq (off := 6) (by decide) (by decide +kernel))⟩,
  List.forall_mem_cons.mpr ⟨⟨mo_il _ _, Or.inl (ok_iload (by decide +kernel))⟩,
  List.forall_mem_cons.mpr ⟨⟨mo_reti, Or.inr (Or.inr (ok_reti rfl (by decide +kernel)))⟩,
  List.forall_mem_cons.mpr ⟨⟨mo_iinc _ _ _, Or.inl (ok_iinc (n := 1) (v := 1) (by decide) (by decide) (by decide +kernel))⟩,
  List.forall_mem_cons.mpr ⟨⟨mo_go _, Or.inl (ok_goto (off := (-91)) (by decide) (by decide +kernel))⟩,
  List.forall_mem_cons.mpr ⟨⟨mo_ic _ _, Or.inl (ok_iconst (n := (-1)) (v := (-1)) (by decide) (by decide +kernel))⟩,
  List.forall_mem_cons.mpr ⟨⟨mo_reti, Or.inr (Or.inr (ok_reti rfl (by decide +kernel)))⟩,
  fun _ h => absurd h List.not_mem_nil⟩⟩⟩⟩⟩⟩⟩⟩⟩⟩⟩⟩⟩⟩
def t_X11_first : List (Nat × am_F) := t_X11_first_0 ++ (t_X11_first_1 ++ (t_X11_first_2))
theorem o_X11_first : ∀ q ∈ t_X11_first, am_ok vwCl q_SH ξ (q_E ξ β xs L) q_EN q_KD q_ML (cX11_first, 5, RX11, "first", (some .int), []) q.1 q.2 := List.forall_mem_append.mpr ⟨o_X11_first_0, List.forall_mem_append.mpr ⟨o_X11_first_1, o_X11_first_2⟩⟩
def t_X11_works_0 : List (Nat × am_F) := [(0, im_il 0 1), (1, im_sw (q_sw 4 10 [44, 58, 72, 83, 94, 98, 102] 106)), (44, im_il 1 45), (45, im_if1 ib_eq 56 48), (48, im_il 2 49), (49, im_if1 ib_eq 56 52), (52, im_ic 1 53), (53, im_go 57), (56, im_ic 0 57), (57, im_reti), (58, im_il 1 59), (59, im_if1 ib_ne 66 62), (62, im_il 2 63), (63, im_if1 ib_eq 70 66), (66, im_ic 1 67), (67, im_go 71), (70, im_ic 0 71), (71, im_reti), (72, im_il 1 73), (73, im_il 2 74)]
set_option maxRecDepth 20000 in
theorem o_X11_works_0 : ∀ q ∈ t_X11_works_0, am_ok vwCl q_SH ξ (q_E ξ β xs L) q_EN q_KD q_ML (cX11_works, 3, RX11, "works", (some .int), []) q.1 q.2 :=
  List.forall_mem_cons.mpr ⟨⟨mo_il _ _, Or.inl (ok_iload_n (k := 0) rfl (by decide +kernel))⟩,
  List.forall_mem_cons.mpr ⟨⟨mo_sw (q_sw 4 10 [44, 58, 72, 83, 94, 98, 102] 106), Or.inl (ok_tsw (dflt := 105) (offs := #[43, 57, 71, 82, 93, 97, 101]) (len := 43) (by decide) (by decide +kernel) (by decide) (by decide +kernel))⟩,
  List.forall_mem_cons.mpr ⟨⟨mo_il _ _, Or.inl (ok_iload_n (k := 1) rfl (by decide +kernel))⟩,
  List.forall_mem_cons.mpr ⟨⟨mo_if1 _ _ _, Or.inl (ok_if_eq (off := 11) (by decide) (by decide +kernel))⟩,
  List.forall_mem_cons.mpr ⟨⟨mo_il _ _, Or.inl (ok_iload_n (k := 2) rfl (by decide +kernel))⟩,
  List.forall_mem_cons.mpr ⟨⟨mo_if1 _ _ _, Or.inl (ok_if_eq (off := 7) (by decide) (by decide +kernel))⟩,
  List.forall_mem_cons.mpr ⟨⟨mo_ic _ _, Or.inl (ok_iconst (n := 1) (v := 1) (by decide) (by decide +kernel))⟩,
  List.forall_mem_cons.mpr ⟨⟨mo_go _, Or.inl (ok_goto (off := 4) (by decide) (by decide +kernel))⟩,
  List.forall_mem_cons.mpr ⟨⟨mo_ic _ _, Or.inl (ok_iconst (n := 0) (v := 0) (by decide) (by decide +kernel))⟩,
  List.forall_mem_cons.mpr ⟨⟨mo_reti, Or.inr (Or.inr (ok_reti rfl (by decide +kernel)))⟩,
  List.forall_mem_cons.mpr ⟨⟨mo_il _ _, Or.inl (ok_iload_n (k := 1) rfl (by decide +kernel))⟩,
  List.forall_mem_cons.mpr ⟨⟨mo_if1 _ _ _, Or.inl (ok_if_ne (off := 7) (by decide) (by decide +kernel))⟩,
  List.forall_mem_cons.mpr ⟨⟨mo_il _ _, Or.inl (ok_iload_n (k := 2) rfl (by decide +kernel))⟩,
  List.forall_mem_cons.mpr ⟨⟨mo_if1 _ _ _, Or.inl (ok_if_eq (off := 7) (by decide) (by decide +kernel))⟩,
  List.forall_mem_cons.mpr ⟨⟨mo_ic _ _, Or.inl (ok_iconst (n := 1) (v := 1) (by decide) (by decide +kernel))⟩,
  List.forall_mem_cons.mpr ⟨⟨mo_go _, Or.inl (ok_goto (off := 4) (by decide) (by decide +kernel))⟩,
  List.forall_mem_cons.mpr ⟨⟨mo_ic _ _, Or.inl (ok_iconst (n := 0) (v := 0) (by decide) (by decide +kernel))⟩,
  List.forall_mem_cons.mpr ⟨⟨mo_reti, Or.inr (Or.inr (ok_reti rfl (by decide +kernel)))⟩,
  List.forall_mem_cons.mpr ⟨⟨mo_il _ _, Or.inl (ok_iload_n (k := 1) rfl (by decide +kernel))⟩,
  List.forall_mem_cons.mpr ⟨⟨mo_il _ _, Or.inl (ok_iload_n (k := 2) rfl (by decide +kernel))⟩,
  fun _ h => absurd h List.not_mem_nil⟩⟩⟩⟩⟩⟩⟩⟩⟩⟩⟩⟩⟩⟩⟩⟩⟩⟩⟩⟩
def t_X11_works_1 : List (Nat × am_F) := [(74, im_if2 ic_ge 81 77), (77, im_ic 1 78), (78, im_go 82), (81, im_ic 0 82), (82, im_reti), (83, im_il 1 84), (84, im_il 2 85), (85, im_if2 ic_ne 92 88), (88, im_ic 1 89), (89, im_go 93), (92, im_ic 0 93), (93, im_reti), (94, im_il 1 95), (95, im_il 2 96), (96, im_bin (fun x y => x + y) 97), (97, im_reti), (98, im_il 1 99), (99, im_il 2 100), (100, im_bin (fun x y => x - y) 101), (101, im_reti)]
set_option maxRecDepth 20000 in
theorem o_X11_works_1 : ∀ q ∈ t_X11_works_1, am_ok vwCl q_SH ξ (q_E ξ β xs L) q_EN q_KD q_ML (cX11_works, 3, RX11, "works", (some .int), []) q.1 q.2 :=
  List.forall_mem_cons.mpr ⟨⟨mo_if2 _ _ _, Or.inl (ok_icmp_ge (off := 7) (by decide) (by decide +kernel))⟩,
  List.forall_mem_cons.mpr ⟨⟨mo_ic _ _, Or.inl (ok_iconst (n := 1) (v := 1) (by decide) (by decide +kernel))⟩,
  List.forall_mem_cons.mpr ⟨⟨mo_go _, Or.inl (ok_goto (off := 4) (by decide) (by decide +kernel))⟩,
  List.forall_mem_cons.mpr ⟨⟨mo_ic _ _, Or.inl (ok_iconst (n := 0) (v := 0) (by decide) (by decide +kernel))⟩,
  List.forall_mem_cons.mpr ⟨⟨mo_reti, Or.inr (Or.inr (ok_reti rfl (by decide +kernel)))⟩,
  List.forall_mem_cons.mpr ⟨⟨mo_il _ _, Or.inl (ok_iload_n (k := 1) rfl (by decide +kernel))⟩,
  List.forall_mem_cons.mpr ⟨⟨mo_il _ _, Or.inl (ok_iload_n (k := 2) rfl (by decide +kernel))⟩,
  List.forall_mem_cons.mpr ⟨⟨mo_if2 _ _ _, Or.inl (ok_icmp_ne (off := 7) (by decide) (by decide +kernel))⟩,
  List.forall_mem_cons.mpr ⟨⟨mo_ic _ _, Or.inl (ok_iconst (n := 1) (v := 1) (by decide) (by decide +kernel))⟩,
  List.forall_mem_cons.mpr ⟨⟨mo_go _, Or.inl (ok_goto (off := 4) (by decide) (by decide +kernel))⟩,
  List.forall_mem_cons.mpr ⟨⟨mo_ic _ _, Or.inl (ok_iconst (n := 0) (v := 0) (by decide) (by decide +kernel))⟩,
  List.forall_mem_cons.mpr ⟨⟨mo_reti, Or.inr (Or.inr (ok_reti rfl (by decide +kernel)))⟩,
  List.forall_mem_cons.mpr ⟨⟨mo_il _ _, Or.inl (ok_iload_n (k := 1) rfl (by decide +kernel))⟩,
  List.forall_mem_cons.mpr ⟨⟨mo_il _ _, Or.inl (ok_iload_n (k := 2) rfl (by decide +kernel))⟩,
  List.forall_mem_cons.mpr ⟨⟨mo_bin _ _, Or.inl (ok_iadd (by decide +kernel))⟩,
  List.forall_mem_cons.mpr ⟨⟨mo_reti, Or.inr (Or.inr (ok_reti rfl (by decide +kernel)))⟩,
  List.forall_mem_cons.mpr ⟨⟨mo_il _ _, Or.inl (ok_iload_n (k := 1) rfl (by decide +kernel))⟩,
  List.forall_mem_cons.mpr ⟨⟨mo_il _ _, Or.inl (ok_iload_n (k := 2) rfl (by decide +kernel))⟩,
  List.forall_mem_cons.mpr ⟨⟨mo_bin _ _, Or.inl (ok_isub (by decide +kernel))⟩,
  List.forall_mem_cons.mpr ⟨⟨mo_reti, Or.inr (Or.inr (ok_reti rfl (by decide +kernel)))⟩,
  fun _ h => absurd h List.not_mem_nil⟩⟩⟩⟩⟩⟩⟩⟩⟩⟩⟩⟩⟩⟩⟩⟩⟩⟩⟩⟩
def t_X11_works_2 : List (Nat × am_F) := [(102, im_il 1 103), (103, im_il 2 104), (104, im_bin (fun x y => x * y) 105), (105, im_reti), (106, im_il 2 107), (107, im_if1 ib_ne 114 110), (110, im_ic 0 111), (111, im_go 117), (114, im_il 1 115), (115, im_il 2 116), (116, im_div (fun x y => x / y) 117), (117, im_reti)]
set_option maxRecDepth 20000 in
theorem o_X11_works_2 : ∀ q ∈ t_X11_works_2, am_ok vwCl q_SH ξ (q_E ξ β xs L) q_EN q_KD q_ML (cX11_works, 3, RX11, "works", (some .int), []) q.1 q.2 :=
  List.forall_mem_cons.mpr ⟨⟨mo_il _ _, Or.inl (ok_iload_n (k := 1) rfl (by decide +kernel))⟩,
  List.forall_mem_cons.mpr ⟨⟨mo_il _ _, Or.inl (ok_iload_n (k := 2) rfl (by decide +kernel))⟩,
  List.forall_mem_cons.mpr ⟨⟨mo_bin _ _, Or.inl (ok_imul (by decide +kernel))⟩,
  List.forall_mem_cons.mpr ⟨⟨mo_reti, Or.inr (Or.inr (ok_reti rfl (by decide +kernel)))⟩,
  List.forall_mem_cons.mpr ⟨⟨mo_il _ _, Or.inl (ok_iload_n (k := 2) rfl (by decide +kernel))⟩,
  List.forall_mem_cons.mpr ⟨⟨mo_if1 _ _ _, Or.inl (ok_if_ne (off := 7) (by decide) (by decide +kernel))⟩,
  List.forall_mem_cons.mpr ⟨⟨mo_ic _ _, Or.inl (ok_iconst (n := 0) (v := 0) (by decide) (by decide +kernel))⟩,
  List.forall_mem_cons.mpr ⟨⟨mo_go _, Or.inl (ok_goto (off := 6) (by decide) (by decide +kernel))⟩,
  List.forall_mem_cons.mpr ⟨⟨mo_il _ _, Or.inl (ok_iload_n (k := 1) rfl (by decide +kernel))⟩,
  List.forall_mem_cons.mpr ⟨⟨mo_il _ _, Or.inl (ok_iload_n (k := 2) rfl (by decide +kernel))⟩,
  List.forall_mem_cons.mpr ⟨⟨mo_div _ _, Or.inl (ok_idiv (by decide +kernel))⟩,
  List.forall_mem_cons.mpr ⟨⟨mo_reti, Or.inr (Or.inr (ok_reti rfl (by decide +kernel)))⟩,
  fun _ h => absurd h List.not_mem_nil⟩⟩⟩⟩⟩⟩⟩⟩⟩⟩⟩⟩
def t_X11_works : List (Nat × am_F) := t_X11_works_0 ++ (t_X11_works_1 ++ (t_X11_works_2))
theorem o_X11_works : ∀ q ∈ t_X11_works, am_ok vwCl q_SH ξ (q_E ξ β xs L) q_EN q_KD q_ML (cX11_works, 3, RX11, "works", (some .int), []) q.1 q.2 := List.forall_mem_append.mpr ⟨o_X11_works_0, List.forall_mem_append.mpr ⟨o_X11_works_1, o_X11_works_2⟩⟩
def t_X11_worth_0 : List (Nat × am_F) := [(0, im_ic 0 1), (1, im_is 2 2), (2, im_il 1 3), (3, im_is 3 4), (4, im_al 0 5), (5, im_gr q_SH 11 48 8), (8, im_il 3 9), (9, im_ald q_SH .int 10), (10, im_if1 ib_eq 143 13), (13, im_al 0 14), (14, im_gr q_SH 11 48 17), (17, im_il 3 18), (18, im_ald q_SH .int 19), (19, im_is 4 21), (21, im_iinc 3 1 24), (24, im_il 4 26), (26, im_ic 1 27), (27, im_if2 ic_eq 36 30), (30, im_il 4 32), (32, im_ic 2 33)]
set_option maxRecDepth 20000 in
theorem o_X11_worth_0 : ∀ q ∈ t_X11_worth_0, am_ok vwCl q_SH ξ (q_E ξ β xs L) q_EN q_KD q_ML (cX11_worth, 5, RX11, "worth", (some .int), []) q.1 q.2 :=
  List.forall_mem_cons.mpr ⟨⟨mo_ic _ _, Or.inl (ok_iconst (n := 0) (v := 0) (by decide) (by decide +kernel))⟩,
  List.forall_mem_cons.mpr ⟨⟨mo_is _ _, Or.inl (ok_istore_n (k := 2) rfl (by decide) (by decide +kernel))⟩,
  List.forall_mem_cons.mpr ⟨⟨mo_il _ _, Or.inl (ok_iload_n (k := 1) rfl (by decide +kernel))⟩,
  List.forall_mem_cons.mpr ⟨⟨mo_is _ _, Or.inl (ok_istore_n (k := 3) rfl (by decide) (by decide +kernel))⟩,
  List.forall_mem_cons.mpr ⟨⟨mo_al _ _, Or.inl (ok_aload_n (k := 0) rfl (by decide +kernel))⟩,
  List.forall_mem_cons.mpr ⟨⟨mo_gr _ _ _ _, Or.inl (ok_gr (C := RX11) (T := TX11) (N := 93) (ci := 11) (k := 48) rfl inX11 (by decide) fl_X11_174 (by decide +kernel) (by decide +kernel))⟩,
  List.forall_mem_cons.mpr ⟨⟨mo_il _ _, Or.inl (ok_iload_n (k := 3) rfl (by decide +kernel))⟩,
  List.forall_mem_cons.mpr ⟨⟨mo_ald _ _ _, Or.inl (ok_iald (by decide +kernel))⟩,
  List.forall_mem_cons.mpr ⟨⟨mo_if1 _ _ _, Or.inl (ok_if_eq (off := 133) (by decide) (by decide +kernel))⟩,
  List.forall_mem_cons.mpr ⟨⟨mo_al _ _, Or.inl (ok_aload_n (k := 0) rfl (by decide +kernel))⟩,
  List.forall_mem_cons.mpr ⟨⟨mo_gr _ _ _ _, Or.inl (ok_gr (C := RX11) (T := TX11) (N := 93) (ci := 11) (k := 48) rfl inX11 (by decide) fl_X11_174 (by decide +kernel) (by decide +kernel))⟩,
  List.forall_mem_cons.mpr ⟨⟨mo_il _ _, Or.inl (ok_iload_n (k := 3) rfl (by decide +kernel))⟩,
  List.forall_mem_cons.mpr ⟨⟨mo_ald _ _ _, Or.inl (ok_iald (by decide +kernel))⟩,
  List.forall_mem_cons.mpr ⟨⟨mo_is _ _, Or.inl (ok_istore (by decide) (by decide +kernel))⟩,
  List.forall_mem_cons.mpr ⟨⟨mo_iinc _ _ _, Or.inl (ok_iinc (n := 1) (v := 1) (by decide) (by decide) (by decide +kernel))⟩,
  List.forall_mem_cons.mpr ⟨⟨mo_il _ _, Or.inl (ok_iload (by decide +kernel))⟩,
  List.forall_mem_cons.mpr ⟨⟨mo_ic _ _, Or.inl (ok_iconst (n := 1) (v := 1) (by decide) (by decide +kernel))⟩,
  List.forall_mem_cons.mpr ⟨⟨mo_if2 _ _ _, Or.inl (ok_icmp_eq (off := 9) (by decide) (by decide +kernel))⟩,
  List.forall_mem_cons.mpr ⟨⟨mo_il _ _, Or.inl (ok_iload (by decide +kernel))⟩,
  List.forall_mem_cons.mpr ⟨⟨mo_ic _ _, Or.inl (ok_iconst (n := 2) (v := 2) (by decide) (by decide +kernel))⟩,
  fun _ h => absurd h List.not_mem_nil⟩⟩⟩⟩⟩⟩⟩⟩⟩⟩⟩⟩⟩⟩⟩⟩⟩⟩⟩⟩
def t_X11_worth_1 : List (Nat × am_F) := [(33, im_if2 ic_ne 77 36), (36, im_al 0 37), (37, im_gr q_SH 11 84 40), (40, im_il 2 41), (41, im_il 4 43), (43, im_ic 1 44), (44, im_if2 ic_ne 56 47), (47, im_al 0 48), (48, im_gr q_SH 11 48 51), (51, im_il 3 52), (52, im_ald q_SH .int 53), (53, im_go 67), (56, im_al 0 57), (57, im_gr q_SH 11 83 60), (60, im_al 0 61), (61, im_gr q_SH 11 48 64), (64, im_il 3 65), (65, im_ald q_SH .int 66), (66, im_ald q_SH .int 67), (67, im_ast q_SH .int (fun x => x) 68)]
set_option maxRecDepth 20000 in
theorem o_X11_worth_1 : ∀ q ∈ t_X11_worth_1, am_ok vwCl q_SH ξ (q_E ξ β xs L) q_EN q_KD q_ML (cX11_worth, 5, RX11, "worth", (some .int), []) q.1 q.2 :=
  List.forall_mem_cons.mpr ⟨⟨mo_if2 _ _ _, Or.inl (ok_icmp_ne (off := 44) (by decide) (by decide +kernel))⟩,
  List.forall_mem_cons.mpr ⟨⟨mo_al _ _, Or.inl (ok_aload_n (k := 0) rfl (by decide +kernel))⟩,
  List.forall_mem_cons.mpr ⟨⟨mo_gr _ _ _ _, Or.inl (ok_gr (C := RX11) (T := TX11) (N := 93) (ci := 11) (k := 84) rfl inX11 (by decide) fl_X11_250 (by decide +kernel) (by decide +kernel))⟩,
  List.forall_mem_cons.mpr ⟨⟨mo_il _ _, Or.inl (ok_iload_n (k := 2) rfl (by decide +kernel))⟩,
  List.forall_mem_cons.mpr ⟨⟨mo_il _ _, Or.inl (ok_iload (by decide +kernel))⟩,
  List.forall_mem_cons.mpr ⟨⟨mo_ic _ _, Or.inl (ok_iconst (n := 1) (v := 1) (by decide) (by decide +kernel))⟩,
  List.forall_mem_cons.mpr ⟨⟨mo_if2 _ _ _, Or.inl (ok_icmp_ne (off := 12) (by decide) (by decide +kernel))⟩,
  List.forall_mem_cons.mpr ⟨⟨mo_al _ _, Or.inl (ok_aload_n (k := 0) rfl (by decide +kernel))⟩,
  List.forall_mem_cons.mpr ⟨⟨mo_gr _ _ _ _, Or.inl (ok_gr (C := RX11) (T := TX11) (N := 93) (ci := 11) (k := 48) rfl inX11 (by decide) fl_X11_174 (by decide +kernel) (by decide +kernel))⟩,
  List.forall_mem_cons.mpr ⟨⟨mo_il _ _, Or.inl (ok_iload_n (k := 3) rfl (by decide +kernel))⟩,
  List.forall_mem_cons.mpr ⟨⟨mo_ald _ _ _, Or.inl (ok_iald (by decide +kernel))⟩,
  List.forall_mem_cons.mpr ⟨⟨mo_go _, Or.inl (ok_goto (off := 14) (by decide) (by decide +kernel))⟩,
  List.forall_mem_cons.mpr ⟨⟨mo_al _ _, Or.inl (ok_aload_n (k := 0) rfl (by decide +kernel))⟩,
  List.forall_mem_cons.mpr ⟨⟨mo_gr _ _ _ _, Or.inl (ok_gr (C := RX11) (T := TX11) (N := 93) (ci := 11) (k := 83) rfl inX11 (by decide) fl_X11_247 (by decide +kernel) (by decide +kernel))⟩,
  List.forall_mem_cons.mpr ⟨⟨mo_al _ _, Or.inl (ok_aload_n (k := 0) rfl (by decide +kernel))⟩,
  List.forall_mem_cons.mpr ⟨⟨mo_gr _ _ _ _, Or.inl (ok_gr (C := RX11) (T := TX11) (N := 93) (ci := 11) (k := 48) rfl inX11 (by decide) fl_X11_174 (by decide +kernel) (by decide +kernel))⟩,
  List.forall_mem_cons.mpr ⟨⟨mo_il _ _, Or.inl (ok_iload_n (k := 3) rfl (by decide +kernel))⟩,
  List.forall_mem_cons.mpr ⟨⟨mo_ald _ _ _, Or.inl (ok_iald (by decide +kernel))⟩,
  List.forall_mem_cons.mpr ⟨⟨mo_ald _ _ _, Or.inl (ok_iald (by decide +kernel))⟩,
  List.forall_mem_cons.mpr ⟨⟨mo_ast _ _ _ _, Or.inl (ok_iast (by decide +kernel))⟩,
  fun _ h => absurd h List.not_mem_nil⟩⟩⟩⟩⟩⟩⟩⟩⟩⟩⟩⟩⟩⟩⟩⟩⟩⟩⟩⟩
def t_X11_worth_2 : List (Nat × am_F) := [(68, im_iinc 3 1 71), (71, im_iinc 2 1 74), (74, im_go 140), (77, im_il 4 79), (79, im_ic 3 80), (80, im_if2 ic_ne 110 83), (83, im_al 0 84), (84, im_gr q_SH 11 84 87), (87, im_il 2 88), (88, im_ic 1 89), (89, im_bin (fun x y => x - y) 90), (90, im_al 0 91), (91, im_gr q_SH 11 84 94), (94, im_il 2 95), (95, im_ic 1 96), (96, im_bin (fun x y => x - y) 97), (97, im_ald q_SH .int 98), (98, im_if1 ib_ne 105 101), (101, im_ic 1 102), (102, im_go 106)]
set_option maxRecDepth 20000 in
theorem o_X11_worth_2 : ∀ q ∈ t_X11_worth_2, am_ok vwCl q_SH ξ (q_E ξ β xs L) q_EN q_KD q_ML (cX11_worth, 5, RX11, "worth", (some .int), []) q.1 q.2 :=
  List.forall_mem_cons.mpr ⟨⟨mo_iinc _ _ _, Or.inl (ok_iinc (n := 1) (v := 1) (by decide) (by decide) (by decide +kernel))⟩,
  List.forall_mem_cons.mpr ⟨⟨mo_iinc _ _ _, Or.inl (ok_iinc (n := 1) (v := 1) (by decide) (by decide) (by decide +kernel))⟩,
  List.forall_mem_cons.mpr ⟨⟨mo_go _, Or.inl (ok_goto (off := 66) (by decide) (by decide +kernel))⟩,
  List.forall_mem_cons.mpr ⟨⟨mo_il _ _, Or.inl (ok_iload (by decide +kernel))⟩,
  List.forall_mem_cons.mpr ⟨⟨mo_ic _ _, Or.inl (ok_iconst (n := 3) (v := 3) (by decide) (by decide +kernel))⟩,
  List.forall_mem_cons.mpr ⟨⟨mo_if2 _ _ _, Or.inl (ok_icmp_ne (off := 30) (by decide) (by decide +kernel))⟩,
  List.forall_mem_cons.mpr ⟨⟨mo_al _ _, Or.inl (ok_aload_n (k := 0) rfl (by decide +kernel))⟩,
  List.forall_mem_cons.mpr ⟨⟨mo_gr _ _ _ _, Or.inl (ok_gr (C := RX11) (T := TX11) (N := 93) (ci := 11) (k := 84) rfl inX11 (by decide) fl_X11_250 (by decide +kernel) (by decide +kernel))⟩,
  List.forall_mem_cons.mpr ⟨⟨mo_il _ _, Or.inl (ok_iload_n (k := 2) rfl (by decide +kernel))⟩,
  List.forall_mem_cons.mpr ⟨⟨mo_ic _ _, Or.inl (ok_iconst (n := 1) (v := 1) (by decide) (by decide +kernel))⟩,
  List.forall_mem_cons.mpr ⟨⟨mo_bin _ _, Or.inl (ok_isub (by decide +kernel))⟩,
  List.forall_mem_cons.mpr ⟨⟨mo_al _ _, Or.inl (ok_aload_n (k := 0) rfl (by decide +kernel))⟩,
  List.forall_mem_cons.mpr ⟨⟨mo_gr _ _ _ _, Or.inl (ok_gr (C := RX11) (T := TX11) (N := 93) (ci := 11) (k := 84) rfl inX11 (by decide) fl_X11_250 (by decide +kernel) (by decide +kernel))⟩,
  List.forall_mem_cons.mpr ⟨⟨mo_il _ _, Or.inl (ok_iload_n (k := 2) rfl (by decide +kernel))⟩,
  List.forall_mem_cons.mpr ⟨⟨mo_ic _ _, Or.inl (ok_iconst (n := 1) (v := 1) (by decide) (by decide +kernel))⟩,
  List.forall_mem_cons.mpr ⟨⟨mo_bin _ _, Or.inl (ok_isub (by decide +kernel))⟩,
  List.forall_mem_cons.mpr ⟨⟨mo_ald _ _ _, Or.inl (ok_iald (by decide +kernel))⟩,
  List.forall_mem_cons.mpr ⟨⟨mo_if1 _ _ _, Or.inl (ok_if_ne (off := 7) (by decide) (by decide +kernel))⟩,
  List.forall_mem_cons.mpr ⟨⟨mo_ic _ _, Or.inl (ok_iconst (n := 1) (v := 1) (by decide) (by decide +kernel))⟩,
  List.forall_mem_cons.mpr ⟨⟨mo_go _, Or.inl (ok_goto (off := 4) (by decide) (by decide +kernel))⟩,
  fun _ h => absurd h List.not_mem_nil⟩⟩⟩⟩⟩⟩⟩⟩⟩⟩⟩⟩⟩⟩⟩⟩⟩⟩⟩⟩
def t_X11_worth_3 : List (Nat × am_F) := [(105, im_ic 0 106), (106, im_ast q_SH .int (fun x => x) 107), (107, im_go 140), (110, im_iinc 2 (-1) 113), (113, im_al 0 114), (114, im_gr q_SH 11 84 117), (117, im_il 2 118), (118, im_ic 1 119), (119, im_bin (fun x y => x - y) 120), (120, im_il 4 122), (122, im_al 0 123), (123, im_gr q_SH 11 84 126), (126, im_il 2 127), (127, im_ic 1 128), (128, im_bin (fun x y => x - y) 129), (129, im_ald q_SH .int 130), (130, im_al 0 131), (131, im_gr q_SH 11 84 134), (134, im_il 2 135), (135, im_ald q_SH .int 136)]
set_option maxRecDepth 20000 in
theorem o_X11_worth_3 : ∀ q ∈ t_X11_worth_3, am_ok vwCl q_SH ξ (q_E ξ β xs L) q_EN q_KD q_ML (cX11_worth, 5, RX11, "worth", (some .int), []) q.1 q.2 :=
  List.forall_mem_cons.mpr ⟨⟨mo_ic _ _, Or.inl (ok_iconst (n := 0) (v := 0) (by decide) (by decide +kernel))⟩,
  List.forall_mem_cons.mpr ⟨⟨mo_ast _ _ _ _, Or.inl (ok_iast (by decide +kernel))⟩,
  List.forall_mem_cons.mpr ⟨⟨mo_go _, Or.inl (ok_goto (off := 33) (by decide) (by decide +kernel))⟩,
  List.forall_mem_cons.mpr ⟨⟨mo_iinc _ _ _, Or.inl (ok_iinc (n := (-1)) (v := (-1)) (by decide) (by decide) (by decide +kernel))⟩,
  List.forall_mem_cons.mpr ⟨⟨mo_al _ _, Or.inl (ok_aload_n (k := 0) rfl (by decide +kernel))⟩,
  List.forall_mem_cons.mpr ⟨⟨mo_gr _ _ _ _, Or.inl (ok_gr (C := RX11) (T := TX11) (N := 93) (ci := 11) (k := 84) rfl inX11 (by decide) fl_X11_250 (by decide +kernel) (by decide +kernel))⟩,
  List.forall_mem_cons.mpr ⟨⟨mo_il _ _, Or.inl (ok_iload_n (k := 2) rfl (by decide +kernel))⟩,
  List.forall_mem_cons.mpr ⟨⟨mo_ic _ _, Or.inl (ok_iconst (n := 1) (v := 1) (by decide) (by decide +kernel))⟩,
  List.forall_mem_cons.mpr ⟨⟨mo_bin _ _, Or.inl (ok_isub (by decide +kernel))⟩,
  List.forall_mem_cons.mpr ⟨⟨mo_il _ _, Or.inl (ok_iload (by decide +kernel))⟩,
  List.forall_mem_cons.mpr ⟨⟨mo_al _ _, Or.inl (ok_aload_n (k := 0) rfl (by decide +kernel))⟩,
  List.forall_mem_cons.mpr ⟨⟨mo_gr _ _ _ _, Or.inl (ok_gr (C := RX11) (T := TX11) (N := 93) (ci := 11) (k := 84) rfl inX11 (by decide) fl_X11_250 (by decide +kernel) (by decide +kernel))⟩,
  List.forall_mem_cons.mpr ⟨⟨mo_il _ _, Or.inl (ok_iload_n (k := 2) rfl (by decide +kernel))⟩,
  List.forall_mem_cons.mpr ⟨⟨mo_ic _ _, Or.inl (ok_iconst (n := 1) (v := 1) (by decide) (by decide +kernel))⟩,
  List.forall_mem_cons.mpr ⟨⟨mo_bin _ _, Or.inl (ok_isub (by decide +kernel))⟩,
  List.forall_mem_cons.mpr ⟨⟨mo_ald _ _ _, Or.inl (ok_iald (by decide +kernel))⟩,
  List.forall_mem_cons.mpr ⟨⟨mo_al _ _, Or.inl (ok_aload_n (k := 0) rfl (by decide +kernel))⟩,
  List.forall_mem_cons.mpr ⟨⟨mo_gr _ _ _ _, Or.inl (ok_gr (C := RX11) (T := TX11) (N := 93) (ci := 11) (k := 84) rfl inX11 (by decide) fl_X11_250 (by decide +kernel) (by decide +kernel))⟩,
  List.forall_mem_cons.mpr ⟨⟨mo_il _ _, Or.inl (ok_iload_n (k := 2) rfl (by decide +kernel))⟩,
  List.forall_mem_cons.mpr ⟨⟨mo_ald _ _ _, Or.inl (ok_iald (by decide +kernel))⟩,
  fun _ h => absurd h List.not_mem_nil⟩⟩⟩⟩⟩⟩⟩⟩⟩⟩⟩⟩⟩⟩⟩⟩⟩⟩⟩⟩
def t_X11_worth_4 : List (Nat × am_F) := [(136, im_invs 160 3 139), (139, im_ast q_SH .int (fun x => x) 140), (140, im_go 4), (143, im_al 0 144), (144, im_gr q_SH 11 84 147), (147, im_ic 0 148), (148, im_ald q_SH .int 149), (149, im_reti)]
set_option maxRecDepth 20000 in
theorem o_X11_worth_4 : ∀ q ∈ t_X11_worth_4, am_ok vwCl q_SH ξ (q_E ξ β xs L) q_EN q_KD q_ML (cX11_worth, 5, RX11, "worth", (some .int), []) q.1 q.2 :=
  List.forall_mem_cons.mpr ⟨⟨mo_invs _ _ _, Or.inr (Or.inl (ok_invs cw_X11_works (by decide) (by decide) ml_X11_443 cs_X11_works (show Cond.initialized (yX11_works).cls ∈ am_ts from ci9_RX11) ⟨by decide +kernel, by decide +kernel, by decide +kernel⟩ rfl (by decide +kernel)))⟩,
  List.forall_mem_cons.mpr ⟨⟨mo_ast _ _ _ _, Or.inl (ok_iast (by decide +kernel))⟩,
  List.forall_mem_cons.mpr ⟨⟨mo_go _, Or.inl (ok_goto (off := (-136)) (by decide) (by decide +kernel))⟩,
  List.forall_mem_cons.mpr ⟨⟨mo_al _ _, Or.inl (ok_aload_n (k := 0) rfl (by decide +kernel))⟩,
  List.forall_mem_cons.mpr ⟨⟨mo_gr _ _ _ _, Or.inl (ok_gr (C := RX11) (T := TX11) (N := 93) (ci := 11) (k := 84) rfl inX11 (by decide) fl_X11_250 (by decide +kernel) (by decide +kernel))⟩,
  List.forall_mem_cons.mpr ⟨⟨mo_ic _ _, Or.inl (ok_iconst (n := 0) (v := 0) (by decide) (by decide +kernel))⟩,
  List.forall_mem_cons.mpr ⟨⟨mo_ald _ _ _, Or.inl (ok_iald (by decide +kernel))⟩,
  List.forall_mem_cons.mpr ⟨⟨mo_reti, Or.inr (Or.inr (ok_reti rfl (by decide +kernel)))⟩,
  fun _ h => absurd h List.not_mem_nil⟩⟩⟩⟩⟩⟩⟩⟩
def t_X11_worth : List (Nat × am_F) := t_X11_worth_0 ++ (t_X11_worth_1 ++ (t_X11_worth_2 ++ (t_X11_worth_3 ++ (t_X11_worth_4))))
theorem o_X11_worth : ∀ q ∈ t_X11_worth, am_ok vwCl q_SH ξ (q_E ξ β xs L) q_EN q_KD q_ML (cX11_worth, 5, RX11, "worth", (some .int), []) q.1 q.2 := List.forall_mem_append.mpr ⟨o_X11_worth_0, List.forall_mem_append.mpr ⟨o_X11_worth_1, List.forall_mem_append.mpr ⟨o_X11_worth_2, List.forall_mem_append.mpr ⟨o_X11_worth_3, o_X11_worth_4⟩⟩⟩⟩
def t_X11_changes_0 : List (Nat × am_F) := [(0, im_al 0 1), (1, im_gr q_SH 11 43 4), (4, im_il 3 5), (5, im_ald q_SH .int 6), (6, im_if1 ib_ne 13 9), (9, im_ic 1 10), (10, im_go 14), (13, im_ic 0 14), (14, im_is 4 16), (16, im_il 4 18), (18, im_if1 ib_eq 38 21), (21, im_al 0 22), (22, im_il 1 23), (23, im_il 2 24), (24, im_il 3 25), (25, im_al 0 26), (26, im_il 1 27), (27, im_il 2 28), (28, im_inv q_SH 11 163 2 31), (31, im_ic 0 32)]
set_option maxRecDepth 20000 in
theorem o_X11_changes_0 : ∀ q ∈ t_X11_changes_0, am_ok vwCl q_SH ξ (q_E ξ β xs L) q_EN q_KD q_ML (cX11_changes, 7, RX11, "changes", none, []) q.1 q.2 :=
  List.forall_mem_cons.mpr ⟨⟨mo_al _ _, Or.inl (ok_aload_n (k := 0) rfl (by decide +kernel))⟩,
  List.forall_mem_cons.mpr ⟨⟨mo_gr _ _ _ _, Or.inl (ok_gr (C := RX11) (T := TX11) (N := 93) (ci := 11) (k := 43) rfl inX11 (by decide) fl_X11_159 (by decide +kernel) (by decide +kernel))⟩,
  List.forall_mem_cons.mpr ⟨⟨mo_il _ _, Or.inl (ok_iload_n (k := 3) rfl (by decide +kernel))⟩,
  List.forall_mem_cons.mpr ⟨⟨mo_ald _ _ _, Or.inl (ok_iald (by decide +kernel))⟩,
  List.forall_mem_cons.mpr ⟨⟨mo_if1 _ _ _, Or.inl (ok_if_ne (off := 7) (by decide) (by decide +kernel))⟩,
  List.forall_mem_cons.mpr ⟨⟨mo_ic _ _, Or.inl (ok_iconst (n := 1) (v := 1) (by decide) (by decide +kernel))⟩,
  List.forall_mem_cons.mpr ⟨⟨mo_go _, Or.inl (ok_goto (off := 4) (by decide) (by decide +kernel))⟩,
  List.forall_mem_cons.mpr ⟨⟨mo_ic _ _, Or.inl (ok_iconst (n := 0) (v := 0) (by decide) (by decide +kernel))⟩,
  List.forall_mem_cons.mpr ⟨⟨mo_is _ _, Or.inl (ok_istore (by decide) (by decide +kernel))⟩,
  List.forall_mem_cons.mpr ⟨⟨mo_il _ _, Or.inl (ok_iload (by decide +kernel))⟩,
  List.forall_mem_cons.mpr ⟨⟨mo_if1 _ _ _, Or.inl (ok_if_eq (off := 20) (by decide) (by decide +kernel))⟩,
  List.forall_mem_cons.mpr ⟨⟨mo_al _ _, Or.inl (ok_aload_n (k := 0) rfl (by decide +kernel))⟩,
  List.forall_mem_cons.mpr ⟨⟨mo_il _ _, Or.inl (ok_iload_n (k := 1) rfl (by decide +kernel))⟩,
  List.forall_mem_cons.mpr ⟨⟨mo_il _ _, Or.inl (ok_iload_n (k := 2) rfl (by decide +kernel))⟩,
  List.forall_mem_cons.mpr ⟨⟨mo_il _ _, Or.inl (ok_iload_n (k := 3) rfl (by decide +kernel))⟩,
  List.forall_mem_cons.mpr ⟨⟨mo_al _ _, Or.inl (ok_aload_n (k := 0) rfl (by decide +kernel))⟩,
  List.forall_mem_cons.mpr ⟨⟨mo_il _ _, Or.inl (ok_iload_n (k := 1) rfl (by decide +kernel))⟩,
  List.forall_mem_cons.mpr ⟨⟨mo_il _ _, Or.inl (ok_iload_n (k := 2) rfl (by decide +kernel))⟩,
  List.forall_mem_cons.mpr ⟨⟨mo_inv _ _ _ _ _, Or.inr (Or.inl (ok_inv (T := TX11) (N := 93) rfl cw_X11_leans (by decide) (by decide) ml_X11_446 ci_X11_leans cv_X11_leans (show Cond.initialized (yX11_leans).cls ∈ am_ts from ci9_RX11) ⟨by decide +kernel, by decide +kernel, by decide +kernel⟩ rfl (by decide +kernel)))⟩,
  List.forall_mem_cons.mpr ⟨⟨mo_ic _ _, Or.inl (ok_iconst (n := 0) (v := 0) (by decide) (by decide +kernel))⟩,
  fun _ h => absurd h List.not_mem_nil⟩⟩⟩⟩⟩⟩⟩⟩⟩⟩⟩⟩⟩⟩⟩⟩⟩⟩⟩⟩
def t_X11_changes_1 : List (Nat × am_F) := [(32, im_inv q_SH 11 164 5 35), (35, im_go 44), (38, im_al 0 39), (39, im_il 1 40), (40, im_il 2 41), (41, im_inv q_SH 11 165 2 44), (44, im_ic 0 45), (45, im_is 5 47), (47, im_il 5 49), (49, im_al 0 50), (50, im_gi q_SH 11 5 53), (53, im_if2 ic_ge 202 56), (56, im_al 0 57), (57, im_gr q_SH 11 47 60), (60, im_il 3 61), (61, im_ald q_SH .int 62), (62, im_ic (-1) 63), (63, im_if2 ic_eq 202 66), (66, im_al 0 67), (67, im_gr q_SH 11 9 70)]
set_option maxRecDepth 20000 in
theorem o_X11_changes_1 : ∀ q ∈ t_X11_changes_1, am_ok vwCl q_SH ξ (q_E ξ β xs L) q_EN q_KD q_ML (cX11_changes, 7, RX11, "changes", none, []) q.1 q.2 :=
  List.forall_mem_cons.mpr ⟨⟨mo_inv _ _ _ _ _, Or.inr (Or.inl (ok_inv (T := TX11) (N := 93) rfl cw_X11_gains (by decide) (by decide) ml_X11_449 ci_X11_gains cv_X11_gains (show Cond.initialized (yX11_gains).cls ∈ am_ts from ci9_RX11) ⟨by decide +kernel, by decide +kernel, by decide +kernel⟩ rfl (by decide +kernel)))⟩,
  List.forall_mem_cons.mpr ⟨⟨mo_go _, Or.inl (ok_goto (off := 9) (by decide) (by decide +kernel))⟩,
  List.forall_mem_cons.mpr ⟨⟨mo_al _ _, Or.inl (ok_aload_n (k := 0) rfl (by decide +kernel))⟩,
  List.forall_mem_cons.mpr ⟨⟨mo_il _ _, Or.inl (ok_iload_n (k := 1) rfl (by decide +kernel))⟩,
  List.forall_mem_cons.mpr ⟨⟨mo_il _ _, Or.inl (ok_iload_n (k := 2) rfl (by decide +kernel))⟩,
  List.forall_mem_cons.mpr ⟨⟨mo_inv _ _ _ _ _, Or.inr (Or.inl (ok_inv (T := TX11) (N := 93) rfl cw_X11_loses (by decide) (by decide) ml_X11_453 ci_X11_loses cv_X11_loses (show Cond.initialized (yX11_loses).cls ∈ am_ts from ci9_RX11) ⟨by decide +kernel, by decide +kernel, by decide +kernel⟩ rfl (by decide +kernel)))⟩,
  List.forall_mem_cons.mpr ⟨⟨mo_ic _ _, Or.inl (ok_iconst (n := 0) (v := 0) (by decide) (by decide +kernel))⟩,
  List.forall_mem_cons.mpr ⟨⟨mo_is _ _, Or.inl (ok_istore (by decide) (by decide +kernel))⟩,
  List.forall_mem_cons.mpr ⟨⟨mo_il _ _, Or.inl (ok_iload (by decide +kernel))⟩,
  List.forall_mem_cons.mpr ⟨⟨mo_al _ _, Or.inl (ok_aload_n (k := 0) rfl (by decide +kernel))⟩,
  List.forall_mem_cons.mpr ⟨⟨mo_gi _ _ _ _, Or.inl (ok_gi (C := RX11) (T := TX11) (N := 93) (ci := 11) (k := 5) rfl inX11 (by decide) fl_X11_20 (by decide +kernel) (by decide +kernel))⟩,
  List.forall_mem_cons.mpr ⟨⟨mo_if2 _ _ _, Or.inl (ok_icmp_ge (off := 149) (by decide) (by decide +kernel))⟩,
  List.forall_mem_cons.mpr ⟨⟨mo_al _ _, Or.inl (ok_aload_n (k := 0) rfl (by decide +kernel))⟩,
  List.forall_mem_cons.mpr ⟨⟨mo_gr _ _ _ _, Or.inl (ok_gr (C := RX11) (T := TX11) (N := 93) (ci := 11) (k := 47) rfl inX11 (by decide) fl_X11_171 (by decide +kernel) (by decide +kernel))⟩,
  List.forall_mem_cons.mpr ⟨⟨mo_il _ _, Or.inl (ok_iload_n (k := 3) rfl (by decide +kernel))⟩,
  List.forall_mem_cons.mpr ⟨⟨mo_ald _ _ _, Or.inl (ok_iald (by decide +kernel))⟩,
  List.forall_mem_cons.mpr ⟨⟨mo_ic _ _, Or.inl (ok_iconst (n := (-1)) (v := (-1)) (by decide) (by decide +kernel))⟩,
  List.forall_mem_cons.mpr ⟨⟨mo_if2 _ _ _, Or.inl (ok_icmp_eq (off := 139) (by decide) (by decide +kernel))⟩,
  List.forall_mem_cons.mpr ⟨⟨mo_al _ _, Or.inl (ok_aload_n (k := 0) rfl (by decide +kernel))⟩,
  List.forall_mem_cons.mpr ⟨⟨mo_gr _ _ _ _, Or.inl (ok_gr (C := RX11) (T := TX11) (N := 93) (ci := 11) (k := 9) rfl inX11 (by decide) fl_X11_26 (by decide +kernel) (by decide +kernel))⟩,
  fun _ h => absurd h List.not_mem_nil⟩⟩⟩⟩⟩⟩⟩⟩⟩⟩⟩⟩⟩⟩⟩⟩⟩⟩⟩⟩
def t_X11_changes_2 : List (Nat × am_F) := [(70, im_il 5 72), (72, im_ald q_SH .int 73), (73, im_il 1 74), (74, im_if2 ic_eq 99 77), (77, im_al 0 78), (78, im_gr q_SH 11 9 81), (81, im_il 5 83), (83, im_ald q_SH .int 84), (84, im_ic (-1) 85), (85, im_if2 ic_ne 103 88), (88, im_al 0 89), (89, im_gr q_SH 11 10 92), (92, im_il 5 94), (94, im_ald q_SH .int 95), (95, im_il 1 96), (96, im_if2 ic_ne 103 99), (99, im_ic 1 100), (100, im_go 104), (103, im_ic 0 104), (104, im_is 6 106)]
set_option maxRecDepth 20000 in
theorem o_X11_changes_2 : ∀ q ∈ t_X11_changes_2, am_ok vwCl q_SH ξ (q_E ξ β xs L) q_EN q_KD q_ML (cX11_changes, 7, RX11, "changes", none, []) q.1 q.2 :=
  List.forall_mem_cons.mpr ⟨⟨mo_il _ _, Or.inl (ok_iload (by decide +kernel))⟩,
  List.forall_mem_cons.mpr ⟨⟨mo_ald _ _ _, Or.inl (ok_iald (by decide +kernel))⟩,
  List.forall_mem_cons.mpr ⟨⟨mo_il _ _, Or.inl (ok_iload_n (k := 1) rfl (by decide +kernel))⟩,
  List.forall_mem_cons.mpr ⟨⟨mo_if2 _ _ _, Or.inl (ok_icmp_eq (off := 25) (by decide) (by decide +kernel))⟩,
  List.forall_mem_cons.mpr ⟨⟨mo_al _ _, Or.inl (ok_aload_n (k := 0) rfl (by decide +kernel))⟩,
  List.forall_mem_cons.mpr ⟨⟨mo_gr _ _ _ _, Or.inl (ok_gr (C := RX11) (T := TX11) (N := 93) (ci := 11) (k := 9) rfl inX11 (by decide) fl_X11_26 (by decide +kernel) (by decide +kernel))⟩,
  List.forall_mem_cons.mpr ⟨⟨mo_il _ _, Or.inl (ok_iload (by decide +kernel))⟩,
  List.forall_mem_cons.mpr ⟨⟨mo_ald _ _ _, Or.inl (ok_iald (by decide +kernel))⟩,
  List.forall_mem_cons.mpr ⟨⟨mo_ic _ _, Or.inl (ok_iconst (n := (-1)) (v := (-1)) (by decide) (by decide +kernel))⟩,
  List.forall_mem_cons.mpr ⟨⟨mo_if2 _ _ _, Or.inl (ok_icmp_ne (off := 18) (by decide) (by decide +kernel))⟩,
  List.forall_mem_cons.mpr ⟨⟨mo_al _ _, Or.inl (ok_aload_n (k := 0) rfl (by decide +kernel))⟩,
  List.forall_mem_cons.mpr ⟨⟨mo_gr _ _ _ _, Or.inl (ok_gr (C := RX11) (T := TX11) (N := 93) (ci := 11) (k := 10) rfl inX11 (by decide) fl_X11_29 (by decide +kernel) (by decide +kernel))⟩,
  List.forall_mem_cons.mpr ⟨⟨mo_il _ _, Or.inl (ok_iload (by decide +kernel))⟩,
  List.forall_mem_cons.mpr ⟨⟨mo_ald _ _ _, Or.inl (ok_iald (by decide +kernel))⟩,
  List.forall_mem_cons.mpr ⟨⟨mo_il _ _, Or.inl (ok_iload_n (k := 1) rfl (by decide +kernel))⟩,
  List.forall_mem_cons.mpr ⟨⟨mo_if2 _ _ _, Or.inl (ok_icmp_ne (off := 7) (by decide) (by decide +kernel))⟩,
  List.forall_mem_cons.mpr ⟨⟨mo_ic _ _, Or.inl (ok_iconst (n := 1) (v := 1) (by decide) (by decide +kernel))⟩,
  List.forall_mem_cons.mpr ⟨⟨mo_go _, Or.inl (ok_goto (off := 4) (by decide) (by decide +kernel))⟩,
  List.forall_mem_cons.mpr ⟨⟨mo_ic _ _, Or.inl (ok_iconst (n := 0) (v := 0) (by decide) (by decide +kernel))⟩,
  List.forall_mem_cons.mpr ⟨⟨mo_is _ _, Or.inl (ok_istore (by decide) (by decide +kernel))⟩,
  fun _ h => absurd h List.not_mem_nil⟩⟩⟩⟩⟩⟩⟩⟩⟩⟩⟩⟩⟩⟩⟩⟩⟩⟩⟩⟩
def t_X11_changes_3 : List (Nat × am_F) := [(106, im_il 6 108), (108, im_if1 ib_eq 196 111), (111, im_al 0 112), (112, im_gr q_SH 11 56 115), (115, im_il 5 117), (117, im_ald q_SH .int 118), (118, im_ic (-1) 119), (119, im_if2 ic_eq 196 122), (122, im_al 0 123), (123, im_gi q_SH 11 76 126), (126, im_al 0 127), (127, im_gr q_SH 11 56 130), (130, im_il 5 132), (132, im_ald q_SH .int 133), (133, im_bin (fun x y => x - y) 134), (134, im_ic 365 137), (137, im_div (fun x y => x / y) 138), (138, im_al 0 139), (139, im_gr q_SH 11 47 142), (142, im_il 3 143)]
set_option maxRecDepth 20000 in
theorem o_X11_changes_3 : ∀ q ∈ t_X11_changes_3, am_ok vwCl q_SH ξ (q_E ξ β xs L) q_EN q_KD q_ML (cX11_changes, 7, RX11, "changes", none, []) q.1 q.2 :=
  List.forall_mem_cons.mpr ⟨⟨mo_il _ _, Or.inl (ok_iload (by decide +kernel))⟩,
  List.forall_mem_cons.mpr ⟨⟨mo_if1 _ _ _, Or.inl (ok_if_eq (off := 88) (by decide) (by decide +kernel))⟩,
  List.forall_mem_cons.mpr ⟨⟨mo_al _ _, Or.inl (ok_aload_n (k := 0) rfl (by decide +kernel))⟩,
  List.forall_mem_cons.mpr ⟨⟨mo_gr _ _ _ _, Or.inl (ok_gr (C := RX11) (T := TX11) (N := 93) (ci := 11) (k := 56) rfl inX11 (by decide) fl_X11_193 (by decide +kernel) (by decide +kernel))⟩,
  List.forall_mem_cons.mpr ⟨⟨mo_il _ _, Or.inl (ok_iload (by decide +kernel))⟩,
  List.forall_mem_cons.mpr ⟨⟨mo_ald _ _ _, Or.inl (ok_iald (by decide +kernel))⟩,
  List.forall_mem_cons.mpr ⟨⟨mo_ic _ _, Or.inl (ok_iconst (n := (-1)) (v := (-1)) (by decide) (by decide +kernel))⟩,
  List.forall_mem_cons.mpr ⟨⟨mo_if2 _ _ _, Or.inl (ok_icmp_eq (off := 77) (by decide) (by decide +kernel))⟩,
  List.forall_mem_cons.mpr ⟨⟨mo_al _ _, Or.inl (ok_aload_n (k := 0) rfl (by decide +kernel))⟩,
  List.forall_mem_cons.mpr ⟨⟨mo_gi _ _ _ _, Or.inl (ok_gi (C := RX11) (T := TX11) (N := 93) (ci := 11) (k := 76) rfl inX11 (by decide) fl_X11_373 (by decide +kernel) (by decide +kernel))⟩,
  List.forall_mem_cons.mpr ⟨⟨mo_al _ _, Or.inl (ok_aload_n (k := 0) rfl (by decide +kernel))⟩,
  List.forall_mem_cons.mpr ⟨⟨mo_gr _ _ _ _, Or.inl (ok_gr (C := RX11) (T := TX11) (N := 93) (ci := 11) (k := 56) rfl inX11 (by decide) fl_X11_193 (by decide +kernel) (by decide +kernel))⟩,
  List.forall_mem_cons.mpr ⟨⟨mo_il _ _, Or.inl (ok_iload (by decide +kernel))⟩,
  List.forall_mem_cons.mpr ⟨⟨mo_ald _ _ _, Or.inl (ok_iald (by decide +kernel))⟩,
  List.forall_mem_cons.mpr ⟨⟨mo_bin _ _, Or.inl (ok_isub (by decide +kernel))⟩,
  List.forall_mem_cons.mpr ⟨⟨mo_ic _ _, Or.inl (ok_sipush (n := 365) (v := 365) (by decide) (by decide +kernel))⟩,
  List.forall_mem_cons.mpr ⟨⟨mo_div _ _, Or.inl (ok_idiv (by decide +kernel))⟩,
  List.forall_mem_cons.mpr ⟨⟨mo_al _ _, Or.inl (ok_aload_n (k := 0) rfl (by decide +kernel))⟩,
  List.forall_mem_cons.mpr ⟨⟨mo_gr _ _ _ _, Or.inl (ok_gr (C := RX11) (T := TX11) (N := 93) (ci := 11) (k := 47) rfl inX11 (by decide) fl_X11_171 (by decide +kernel) (by decide +kernel))⟩,
  List.forall_mem_cons.mpr ⟨⟨mo_il _ _, Or.inl (ok_iload_n (k := 3) rfl (by decide +kernel))⟩,
  fun _ h => absurd h List.not_mem_nil⟩⟩⟩⟩⟩⟩⟩⟩⟩⟩⟩⟩⟩⟩⟩⟩⟩⟩⟩⟩
def t_X11_changes_4 : List (Nat × am_F) := [(143, im_ald q_SH .int 144), (144, im_if2 ic_ge 196 147), (147, im_al 0 148), (148, im_il 5 150), (150, im_il 2 151), (151, im_inv q_SH 11 156 2 154), (154, im_il 4 156), (156, im_if2 ic_ne 162 159), (159, im_go 196), (162, im_il 4 164), (164, im_if1 ib_eq 189 167), (167, im_al 0 168), (168, im_il 5 170), (170, im_il 2 171), (171, im_il 3 172), (172, im_al 0 173), (173, im_gr q_SH 11 63 176), (176, im_ic 5 177), (177, im_il 1 178), (178, im_bin (fun x y => x * y) 179)]
set_option maxRecDepth 20000 in
theorem o_X11_changes_4 : ∀ q ∈ t_X11_changes_4, am_ok vwCl q_SH ξ (q_E ξ β xs L) q_EN q_KD q_ML (cX11_changes, 7, RX11, "changes", none, []) q.1 q.2 :=
  List.forall_mem_cons.mpr ⟨⟨mo_ald _ _ _, Or.inl (ok_iald (by decide +kernel))⟩,
  List.forall_mem_cons.mpr ⟨⟨mo_if2 _ _ _, Or.inl (ok_icmp_ge (off := 52) (by decide) (by decide +kernel))⟩,
  List.forall_mem_cons.mpr ⟨⟨mo_al _ _, Or.inl (ok_aload_n (k := 0) rfl (by decide +kernel))⟩,
  List.forall_mem_cons.mpr ⟨⟨mo_il _ _, Or.inl (ok_iload (by decide +kernel))⟩,
  List.forall_mem_cons.mpr ⟨⟨mo_il _ _, Or.inl (ok_iload_n (k := 2) rfl (by decide +kernel))⟩,
  List.forall_mem_cons.mpr ⟨⟨mo_inv _ _ _ _ _, Or.inr (Or.inl (ok_inv (T := TX11) (N := 93) rfl cw_X11_has (by decide) (by decide) ml_X11_427 ci_X11_has cv_X11_has (show Cond.initialized (yX11_has).cls ∈ am_ts from ci9_RX11) ⟨by decide +kernel, by decide +kernel, by decide +kernel⟩ rfl (by decide +kernel)))⟩,
  List.forall_mem_cons.mpr ⟨⟨mo_il _ _, Or.inl (ok_iload (by decide +kernel))⟩,
  List.forall_mem_cons.mpr ⟨⟨mo_if2 _ _ _, Or.inl (ok_icmp_ne (off := 6) (by decide) (by decide +kernel))⟩,
  List.forall_mem_cons.mpr ⟨⟨mo_go _, Or.inl (ok_goto (off := 37) (by decide) (by decide +kernel))⟩,
  List.forall_mem_cons.mpr ⟨⟨mo_il _ _, Or.inl (ok_iload (by decide +kernel))⟩,
  List.forall_mem_cons.mpr ⟨⟨mo_if1 _ _ _, Or.inl (ok_if_eq (off := 25) (by decide) (by decide +kernel))⟩,
  List.forall_mem_cons.mpr ⟨⟨mo_al _ _, Or.inl (ok_aload_n (k := 0) rfl (by decide +kernel))⟩,
  List.forall_mem_cons.mpr ⟨⟨mo_il _ _, Or.inl (ok_iload (by decide +kernel))⟩,
  List.forall_mem_cons.mpr ⟨⟨mo_il _ _, Or.inl (ok_iload_n (k := 2) rfl (by decide +kernel))⟩,
  List.forall_mem_cons.mpr ⟨⟨mo_il _ _, Or.inl (ok_iload_n (k := 3) rfl (by decide +kernel))⟩,
  List.forall_mem_cons.mpr ⟨⟨mo_al _ _, Or.inl (ok_aload_n (k := 0) rfl (by decide +kernel))⟩,
  List.forall_mem_cons.mpr ⟨⟨mo_gr _ _ _ _, Or.inl (ok_gr (C := RX11) (T := TX11) (N := 93) (ci := 11) (k := 63) rfl inX11 (by decide) fl_X11_214 (by decide +kernel) (by decide +kernel))⟩,
  List.forall_mem_cons.mpr ⟨⟨mo_ic _ _, Or.inl (ok_iconst (n := 5) (v := 5) (by decide) (by decide +kernel))⟩,
  List.forall_mem_cons.mpr ⟨⟨mo_il _ _, Or.inl (ok_iload_n (k := 1) rfl (by decide +kernel))⟩,
  List.forall_mem_cons.mpr ⟨⟨mo_bin _ _, Or.inl (ok_imul (by decide +kernel))⟩,
  fun _ h => absurd h List.not_mem_nil⟩⟩⟩⟩⟩⟩⟩⟩⟩⟩⟩⟩⟩⟩⟩⟩⟩⟩⟩⟩
def t_X11_changes_5 : List (Nat × am_F) := [(179, im_il 2 180), (180, im_bin (fun x y => x + y) 181), (181, im_ald q_SH .int 182), (182, im_ic 1 183), (183, im_inv q_SH 11 164 5 186), (186, im_go 196), (189, im_al 0 190), (190, im_il 5 192), (192, im_il 2 193), (193, im_inv q_SH 11 165 2 196), (196, im_iinc 5 1 199), (199, im_go 47), (202, im_ret0e)]
set_option maxRecDepth 20000 in
theorem o_X11_changes_5 : ∀ q ∈ t_X11_changes_5, am_ok vwCl q_SH ξ (q_E ξ β xs L) q_EN q_KD q_ML (cX11_changes, 7, RX11, "changes", none, []) q.1 q.2 :=
  List.forall_mem_cons.mpr ⟨⟨mo_il _ _, Or.inl (ok_iload_n (k := 2) rfl (by decide +kernel))⟩,
  List.forall_mem_cons.mpr ⟨⟨mo_bin _ _, Or.inl (ok_iadd (by decide +kernel))⟩,
  List.forall_mem_cons.mpr ⟨⟨mo_ald _ _ _, Or.inl (ok_iald (by decide +kernel))⟩,
  List.forall_mem_cons.mpr ⟨⟨mo_ic _ _, Or.inl (ok_iconst (n := 1) (v := 1) (by decide) (by decide +kernel))⟩,
  List.forall_mem_cons.mpr ⟨⟨mo_inv _ _ _ _ _, Or.inr (Or.inl (ok_inv (T := TX11) (N := 93) rfl cw_X11_gains (by decide) (by decide) ml_X11_449 ci_X11_gains cv_X11_gains (show Cond.initialized (yX11_gains).cls ∈ am_ts from ci9_RX11) ⟨by decide +kernel, by decide +kernel, by decide +kernel⟩ rfl (by decide +kernel)))⟩,
  List.forall_mem_cons.mpr ⟨⟨mo_go _, Or.inl (ok_goto (off := 10) (by decide) (by decide +kernel))⟩,
  List.forall_mem_cons.mpr ⟨⟨mo_al _ _, Or.inl (ok_aload_n (k := 0) rfl (by decide +kernel))⟩,
  List.forall_mem_cons.mpr ⟨⟨mo_il _ _, Or.inl (ok_iload (by decide +kernel))⟩,
  List.forall_mem_cons.mpr ⟨⟨mo_il _ _, Or.inl (ok_iload_n (k := 2) rfl (by decide +kernel))⟩,
  List.forall_mem_cons.mpr ⟨⟨mo_inv _ _ _ _ _, Or.inr (Or.inl (ok_inv (T := TX11) (N := 93) rfl cw_X11_loses (by decide) (by decide) ml_X11_453 ci_X11_loses cv_X11_loses (show Cond.initialized (yX11_loses).cls ∈ am_ts from ci9_RX11) ⟨by decide +kernel, by decide +kernel, by decide +kernel⟩ rfl (by decide +kernel)))⟩,
  List.forall_mem_cons.mpr ⟨⟨mo_iinc _ _ _, Or.inl (ok_iinc (n := 1) (v := 1) (by decide) (by decide) (by decide +kernel))⟩,
  List.forall_mem_cons.mpr ⟨⟨mo_go _, Or.inl (ok_goto (off := (-152)) (by decide) (by decide +kernel))⟩,
  List.forall_mem_cons.mpr ⟨⟨mo_ret0e, Or.inr (Or.inr (ok_ret0 rfl (by decide +kernel)))⟩,
  fun _ h => absurd h List.not_mem_nil⟩⟩⟩⟩⟩⟩⟩⟩⟩⟩⟩⟩⟩
def t_X11_changes : List (Nat × am_F) := t_X11_changes_0 ++ (t_X11_changes_1 ++ (t_X11_changes_2 ++ (t_X11_changes_3 ++ (t_X11_changes_4 ++ (t_X11_changes_5)))))
theorem o_X11_changes : ∀ q ∈ t_X11_changes, am_ok vwCl q_SH ξ (q_E ξ β xs L) q_EN q_KD q_ML (cX11_changes, 7, RX11, "changes", none, []) q.1 q.2 := List.forall_mem_append.mpr ⟨o_X11_changes_0, List.forall_mem_append.mpr ⟨o_X11_changes_1, List.forall_mem_append.mpr ⟨o_X11_changes_2, List.forall_mem_append.mpr ⟨o_X11_changes_3, List.forall_mem_append.mpr ⟨o_X11_changes_4, o_X11_changes_5⟩⟩⟩⟩⟩
def t_X11_leans_0 : List (Nat × am_F) := [(0, im_al 0 1), (1, im_gi q_SH 11 78 4), (4, im_ic 8 6), (6, im_if2 ic_ne 75 9), (9, im_al 0 10), (10, im_al 0 11), (11, im_gr q_SH 11 9 14), (14, im_il 1 15), (15, im_ald q_SH .int 16), (16, im_il 2 17), (17, im_inv q_SH 11 156 2 20), (20, im_if1 ib_eq 41 23), (23, im_al 0 24), (24, im_gr q_SH 11 63 27), (27, im_ic 5 28), (28, im_al 0 29), (29, im_gr q_SH 11 9 32), (32, im_il 1 33), (33, im_ald q_SH .int 34), (34, im_bin (fun x y => x * y) 35)]
set_option maxRecDepth 20000 in
theorem o_X11_leans_0 : ∀ q ∈ t_X11_leans_0, am_ok vwCl q_SH ξ (q_E ξ β xs L) q_EN q_KD q_ML (cX11_leans, 3, RX11, "leans", (some .int), []) q.1 q.2 :=
  List.forall_mem_cons.mpr ⟨⟨mo_al _ _, Or.inl (ok_aload_n (k := 0) rfl (by decide +kernel))⟩,
  List.forall_mem_cons.mpr ⟨⟨mo_gi _ _ _ _, Or.inl (ok_gi (C := RX11) (T := TX11) (N := 93) (ci := 11) (k := 78) rfl inX11 (by decide) fl_X11_389 (by decide +kernel) (by decide +kernel))⟩,
  List.forall_mem_cons.mpr ⟨⟨mo_ic _ _, Or.inl (ok_bipush (n := 8) (v := 8) (by decide) (by decide +kernel))⟩,
  List.forall_mem_cons.mpr ⟨⟨mo_if2 _ _ _, Or.inl (ok_icmp_ne (off := 69) (by decide) (by decide +kernel))⟩,
  List.forall_mem_cons.mpr ⟨⟨mo_al _ _, Or.inl (ok_aload_n (k := 0) rfl (by decide +kernel))⟩,
  List.forall_mem_cons.mpr ⟨⟨mo_al _ _, Or.inl (ok_aload_n (k := 0) rfl (by decide +kernel))⟩,
  List.forall_mem_cons.mpr ⟨⟨mo_gr _ _ _ _, Or.inl (ok_gr (C := RX11) (T := TX11) (N := 93) (ci := 11) (k := 9) rfl inX11 (by decide) fl_X11_26 (by decide +kernel) (by decide +kernel))⟩,
  List.forall_mem_cons.mpr ⟨⟨mo_il _ _, Or.inl (ok_iload_n (k := 1) rfl (by decide +kernel))⟩,
  List.forall_mem_cons.mpr ⟨⟨mo_ald _ _ _, Or.inl (ok_iald (by decide +kernel))⟩,
  List.forall_mem_cons.mpr ⟨⟨mo_il _ _, Or.inl (ok_iload_n (k := 2) rfl (by decide +kernel))⟩,
  List.forall_mem_cons.mpr ⟨⟨mo_inv _ _ _ _ _, Or.inr (Or.inl (ok_inv (T := TX11) (N := 93) rfl cw_X11_has (by decide) (by decide) ml_X11_427 ci_X11_has cv_X11_has (show Cond.initialized (yX11_has).cls ∈ am_ts from ci9_RX11) ⟨by decide +kernel, by decide +kernel, by decide +kernel⟩ rfl (by decide +kernel)))⟩,
  List.forall_mem_cons.mpr ⟨⟨mo_if1 _ _ _, Or.inl (ok_if_eq (off := 21) (by decide) (by decide +kernel))⟩,
  List.forall_mem_cons.mpr ⟨⟨mo_al _ _, Or.inl (ok_aload_n (k := 0) rfl (by decide +kernel))⟩,
  List.forall_mem_cons.mpr ⟨⟨mo_gr _ _ _ _, Or.inl (ok_gr (C := RX11) (T := TX11) (N := 93) (ci := 11) (k := 63) rfl inX11 (by decide) fl_X11_214 (by decide +kernel) (by decide +kernel))⟩,
  List.forall_mem_cons.mpr ⟨⟨mo_ic _ _, Or.inl (ok_iconst (n := 5) (v := 5) (by decide) (by decide +kernel))⟩,
  List.forall_mem_cons.mpr ⟨⟨mo_al _ _, Or.inl (ok_aload_n (k := 0) rfl (by decide +kernel))⟩,
  List.forall_mem_cons.mpr ⟨⟨mo_gr _ _ _ _, Or.inl (ok_gr (C := RX11) (T := TX11) (N := 93) (ci := 11) (k := 9) rfl inX11 (by decide) fl_X11_26 (by decide +kernel) (by decide +kernel))⟩,
  List.forall_mem_cons.mpr ⟨⟨mo_il _ _, Or.inl (ok_iload_n (k := 1) rfl (by decide +kernel))⟩,
  List.forall_mem_cons.mpr ⟨⟨mo_ald _ _ _, Or.inl (ok_iald (by decide +kernel))⟩,
  List.forall_mem_cons.mpr ⟨⟨mo_bin _ _, Or.inl (ok_imul (by decide +kernel))⟩,
  fun _ h => absurd h List.not_mem_nil⟩⟩⟩⟩⟩⟩⟩⟩⟩⟩⟩⟩⟩⟩⟩⟩⟩⟩⟩⟩
def t_X11_leans_1 : List (Nat × am_F) := [(35, im_il 2 36), (36, im_bin (fun x y => x + y) 37), (37, im_ald q_SH .int 38), (38, im_go 74), (41, im_al 0 42), (42, im_al 0 43), (43, im_gr q_SH 11 10 46), (46, im_il 1 47), (47, im_ald q_SH .int 48), (48, im_il 2 49), (49, im_inv q_SH 11 156 2 52), (52, im_if1 ib_eq 73 55), (55, im_al 0 56), (56, im_gr q_SH 11 63 59), (59, im_ic 5 60), (60, im_al 0 61), (61, im_gr q_SH 11 10 64), (64, im_il 1 65), (65, im_ald q_SH .int 66), (66, im_bin (fun x y => x * y) 67)]
set_option maxRecDepth 20000 in
theorem o_X11_leans_1 : ∀ q ∈ t_X11_leans_1, am_ok vwCl q_SH ξ (q_E ξ β xs L) q_EN q_KD q_ML (cX11_leans, 3, RX11, "leans", (some .int), []) q.1 q.2 :=
  List.forall_mem_cons.mpr ⟨⟨mo_il _ _, Or.inl (ok_iload_n (k := 2) rfl (by decide +kernel))⟩,
  List.forall_mem_cons.mpr ⟨⟨mo_bin _ _, Or.inl (ok_iadd (by decide +kernel))⟩,
  List.forall_mem_cons.mpr ⟨⟨mo_ald _ _ _, Or.inl (ok_iald (by decide +kernel))⟩,
  List.forall_mem_cons.mpr ⟨⟨mo_go _, Or.inl (ok_goto (off := 36) (by decide) (by decide +kernel))⟩,
  List.forall_mem_cons.mpr ⟨⟨mo_al _ _, Or.inl (ok_aload_n (k := 0) rfl (by decide +kernel))⟩,
  List.forall_mem_cons.mpr ⟨⟨mo_al _ _, Or.inl (ok_aload_n (k := 0) rfl (by decide +kernel))⟩,
  List.forall_mem_cons.mpr ⟨⟨mo_gr _ _ _ _, Or.inl (ok_gr (C := RX11) (T := TX11) (N := 93) (ci := 11) (k := 10) rfl inX11 (by decide) fl_X11_29 (by decide +kernel) (by decide +kernel))⟩,
  List.forall_mem_cons.mpr ⟨⟨mo_il _ _, Or.inl (ok_iload_n (k := 1) rfl (by decide +kernel))⟩,
  List.forall_mem_cons.mpr ⟨⟨mo_ald _ _ _, Or.inl (ok_iald (by decide +kernel))⟩,
  List.forall_mem_cons.mpr ⟨⟨mo_il _ _, Or.inl (ok_iload_n (k := 2) rfl (by decide +kernel))⟩,
  List.forall_mem_cons.mpr ⟨⟨mo_inv _ _ _ _ _, Or.inr (Or.inl (ok_inv (T := TX11) (N := 93) rfl cw_X11_has (by decide) (by decide) ml_X11_427 ci_X11_has cv_X11_has (show Cond.initialized (yX11_has).cls ∈ am_ts from ci9_RX11) ⟨by decide +kernel, by decide +kernel, by decide +kernel⟩ rfl (by decide +kernel)))⟩,
  List.forall_mem_cons.mpr ⟨⟨mo_if1 _ _ _, Or.inl (ok_if_eq (off := 21) (by decide) (by decide +kernel))⟩,
  List.forall_mem_cons.mpr ⟨⟨mo_al _ _, Or.inl (ok_aload_n (k := 0) rfl (by decide +kernel))⟩,
  List.forall_mem_cons.mpr ⟨⟨mo_gr _ _ _ _, Or.inl (ok_gr (C := RX11) (T := TX11) (N := 93) (ci := 11) (k := 63) rfl inX11 (by decide) fl_X11_214 (by decide +kernel) (by decide +kernel))⟩,
  List.forall_mem_cons.mpr ⟨⟨mo_ic _ _, Or.inl (ok_iconst (n := 5) (v := 5) (by decide) (by decide +kernel))⟩,
  List.forall_mem_cons.mpr ⟨⟨mo_al _ _, Or.inl (ok_aload_n (k := 0) rfl (by decide +kernel))⟩,
  List.forall_mem_cons.mpr ⟨⟨mo_gr _ _ _ _, Or.inl (ok_gr (C := RX11) (T := TX11) (N := 93) (ci := 11) (k := 10) rfl inX11 (by decide) fl_X11_29 (by decide +kernel) (by decide +kernel))⟩,
  List.forall_mem_cons.mpr ⟨⟨mo_il _ _, Or.inl (ok_iload_n (k := 1) rfl (by decide +kernel))⟩,
  List.forall_mem_cons.mpr ⟨⟨mo_ald _ _ _, Or.inl (ok_iald (by decide +kernel))⟩,
  List.forall_mem_cons.mpr ⟨⟨mo_bin _ _, Or.inl (ok_imul (by decide +kernel))⟩,
  fun _ h => absurd h List.not_mem_nil⟩⟩⟩⟩⟩⟩⟩⟩⟩⟩⟩⟩⟩⟩⟩⟩⟩⟩⟩⟩
def t_X11_leans_2 : List (Nat × am_F) := [(67, im_il 2 68), (68, im_bin (fun x y => x + y) 69), (69, im_ald q_SH .int 70), (70, im_go 74), (73, im_ic (-1) 74), (74, im_reti), (75, im_al 0 76), (76, im_gi q_SH 11 78 79), (79, im_ic 9 81), (81, im_if2 ic_ne 105 84), (84, im_al 0 85), (85, im_gi q_SH 11 82 88), (88, im_il 2 89), (89, im_bin (fun x y => x >>> (y &&& 31)) 90), (90, im_ic 1 91), (91, im_bin (fun x y => x &&& y) 92), (92, im_ic 1 93), (93, im_if2 ic_ne 105 96), (96, im_al 0 97), (97, im_gr q_SH 11 86 100)]
set_option maxRecDepth 20000 in
theorem o_X11_leans_2 : ∀ q ∈ t_X11_leans_2, am_ok vwCl q_SH ξ (q_E ξ β xs L) q_EN q_KD q_ML (cX11_leans, 3, RX11, "leans", (some .int), []) q.1 q.2 :=
  List.forall_mem_cons.mpr ⟨⟨mo_il _ _, Or.inl (ok_iload_n (k := 2) rfl (by decide +kernel))⟩,
  List.forall_mem_cons.mpr ⟨⟨mo_bin _ _, Or.inl (ok_iadd (by decide +kernel))⟩,
  List.forall_mem_cons.mpr ⟨⟨mo_ald _ _ _, Or.inl (ok_iald (by decide +kernel))⟩,
  List.forall_mem_cons.mpr ⟨⟨mo_go _, Or.inl (ok_goto (off := 4) (by decide) (by decide +kernel))⟩,
  List.forall_mem_cons.mpr ⟨⟨mo_ic _ _, Or.inl (ok_iconst (n := (-1)) (v := (-1)) (by decide) (by decide +kernel))⟩,
  List.forall_mem_cons.mpr ⟨⟨mo_reti, Or.inr (Or.inr (ok_reti rfl (by decide +kernel)))⟩,
  List.forall_mem_cons.mpr ⟨⟨mo_al _ _, Or.inl (ok_aload_n (k := 0) rfl (by decide +kernel))⟩,
  List.forall_mem_cons.mpr ⟨⟨mo_gi _ _ _ _, Or.inl (ok_gi (C := RX11) (T := TX11) (N := 93) (ci := 11) (k := 78) rfl inX11 (by decide) fl_X11_389 (by decide +kernel) (by decide +kernel))⟩,
  List.forall_mem_cons.mpr ⟨⟨mo_ic _ _, Or.inl (ok_bipush (n := 9) (v := 9) (by decide) (by decide +kernel))⟩,
  List.forall_mem_cons.mpr ⟨⟨mo_if2 _ _ _, Or.inl (ok_icmp_ne (off := 24) (by decide) (by decide +kernel))⟩,
  List.forall_mem_cons.mpr ⟨⟨mo_al _ _, Or.inl (ok_aload_n (k := 0) rfl (by decide +kernel))⟩,
  List.forall_mem_cons.mpr ⟨⟨mo_gi _ _ _ _, Or.inl (ok_gi (C := RX11) (T := TX11) (N := 93) (ci := 11) (k := 82) rfl inX11 (by decide) fl_X11_420 (by decide +kernel) (by decide +kernel))⟩,
  List.forall_mem_cons.mpr ⟨⟨mo_il _ _, Or.inl (ok_iload_n (k := 2) rfl (by decide +kernel))⟩,
  List.forall_mem_cons.mpr ⟨⟨mo_bin _ _, Or.inl (ok_ishr (by decide +kernel))⟩,
  List.forall_mem_cons.mpr ⟨⟨mo_ic _ _, Or.inl (ok_iconst (n := 1) (v := 1) (by decide) (by decide +kernel))⟩,
  List.forall_mem_cons.mpr ⟨⟨mo_bin _ _, Or.inl (ok_iand (by decide +kernel))⟩,
  List.forall_mem_cons.mpr ⟨⟨mo_ic _ _, Or.inl (ok_iconst (n := 1) (v := 1) (by decide) (by decide +kernel))⟩,
  List.forall_mem_cons.mpr ⟨⟨mo_if2 _ _ _, Or.inl (ok_icmp_ne (off := 12) (by decide) (by decide +kernel))⟩,
  List.forall_mem_cons.mpr ⟨⟨mo_al _ _, Or.inl (ok_aload_n (k := 0) rfl (by decide +kernel))⟩,
  List.forall_mem_cons.mpr ⟨⟨mo_gr _ _ _ _, Or.inl (ok_gr (C := RX11) (T := TX11) (N := 93) (ci := 11) (k := 86) rfl inX11 (by decide) fl_X11_256 (by decide +kernel) (by decide +kernel))⟩,
  fun _ h => absurd h List.not_mem_nil⟩⟩⟩⟩⟩⟩⟩⟩⟩⟩⟩⟩⟩⟩⟩⟩⟩⟩⟩⟩
def t_X11_leans_3 : List (Nat × am_F) := [(100, im_il 2 101), (101, im_ald q_SH .int 102), (102, im_go 106), (105, im_ic (-1) 106), (106, im_reti)]
set_option maxRecDepth 20000 in
theorem o_X11_leans_3 : ∀ q ∈ t_X11_leans_3, am_ok vwCl q_SH ξ (q_E ξ β xs L) q_EN q_KD q_ML (cX11_leans, 3, RX11, "leans", (some .int), []) q.1 q.2 :=
  List.forall_mem_cons.mpr ⟨⟨mo_il _ _, Or.inl (ok_iload_n (k := 2) rfl (by decide +kernel))⟩,
  List.forall_mem_cons.mpr ⟨⟨mo_ald _ _ _, Or.inl (ok_iald (by decide +kernel))⟩,
  List.forall_mem_cons.mpr ⟨⟨mo_go _, Or.inl (ok_goto (off := 4) (by decide) (by decide +kernel))⟩,
  List.forall_mem_cons.mpr ⟨⟨mo_ic _ _, Or.inl (ok_iconst (n := (-1)) (v := (-1)) (by decide) (by decide +kernel))⟩,
  List.forall_mem_cons.mpr ⟨⟨mo_reti, Or.inr (Or.inr (ok_reti rfl (by decide +kernel)))⟩,
  fun _ h => absurd h List.not_mem_nil⟩⟩⟩⟩⟩
def t_X11_leans : List (Nat × am_F) := t_X11_leans_0 ++ (t_X11_leans_1 ++ (t_X11_leans_2 ++ (t_X11_leans_3)))
theorem o_X11_leans : ∀ q ∈ t_X11_leans, am_ok vwCl q_SH ξ (q_E ξ β xs L) q_EN q_KD q_ML (cX11_leans, 3, RX11, "leans", (some .int), []) q.1 q.2 := List.forall_mem_append.mpr ⟨o_X11_leans_0, List.forall_mem_append.mpr ⟨o_X11_leans_1, List.forall_mem_append.mpr ⟨o_X11_leans_2, o_X11_leans_3⟩⟩⟩
def t_X11_gains_0 : List (Nat × am_F) := [(0, im_al 0 1), (1, im_gr q_SH 11 55 4), (4, im_il 1 5), (5, im_dup2 6), (6, im_ald q_SH .int 7), (7, im_ic 1 8), (8, im_il 2 9), (9, im_bin (fun x y => x <<< (y &&& 31)) 10), (10, im_bin (fun x y => x ||| y) 11), (11, im_ast q_SH .int (fun x => x) 12), (12, im_al 0 13), (13, im_gr q_SH 11 64 16), (16, im_ic 5 17), (17, im_il 1 18), (18, im_bin (fun x y => x * y) 19), (19, im_il 2 20), (20, im_bin (fun x y => x + y) 21), (21, im_dup2 22), (22, im_ald q_SH .int 23), (23, im_ic 1 24)]
set_option maxRecDepth 20000 in
theorem o_X11_gains_0 : ∀ q ∈ t_X11_gains_0, am_ok vwCl q_SH ξ (q_E ξ β xs L) q_EN q_KD q_ML (cX11_gains, 6, RX11, "gains", none, []) q.1 q.2 :=
  List.forall_mem_cons.mpr ⟨⟨mo_al _ _, Or.inl (ok_aload_n (k := 0) rfl (by decide +kernel))⟩,
  List.forall_mem_cons.mpr ⟨⟨mo_gr _ _ _ _, Or.inl (ok_gr (C := RX11) (T := TX11) (N := 93) (ci := 11) (k := 55) rfl inX11 (by decide) fl_X11_190 (by decide +kernel) (by decide +kernel))⟩,
  List.forall_mem_cons.mpr ⟨⟨mo_il _ _, Or.inl (ok_iload_n (k := 1) rfl (by decide +kernel))⟩,
  List.forall_mem_cons.mpr ⟨⟨mo_dup2 _, Or.inl (ok_dup2 (by decide +kernel))⟩,
  List.forall_mem_cons.mpr ⟨⟨mo_ald _ _ _, Or.inl (ok_iald (by decide +kernel))⟩,
  List.forall_mem_cons.mpr ⟨⟨mo_ic _ _, Or.inl (ok_iconst (n := 1) (v := 1) (by decide) (by decide +kernel))⟩,
  List.forall_mem_cons.mpr ⟨⟨mo_il _ _, Or.inl (ok_iload_n (k := 2) rfl (by decide +kernel))⟩,
  List.forall_mem_cons.mpr ⟨⟨mo_bin _ _, Or.inl (ok_ishl (by decide +kernel))⟩,
  List.forall_mem_cons.mpr ⟨⟨mo_bin _ _, Or.inl (ok_ior (by decide +kernel))⟩,
  List.forall_mem_cons.mpr ⟨⟨mo_ast _ _ _ _, Or.inl (ok_iast (by decide +kernel))⟩,
  List.forall_mem_cons.mpr ⟨⟨mo_al _ _, Or.inl (ok_aload_n (k := 0) rfl (by decide +kernel))⟩,
  List.forall_mem_cons.mpr ⟨⟨mo_gr _ _ _ _, Or.inl (ok_gr (C := RX11) (T := TX11) (N := 93) (ci := 11) (k := 64) rfl inX11 (by decide) fl_X11_217 (by decide +kernel) (by decide +kernel))⟩,
  List.forall_mem_cons.mpr ⟨⟨mo_ic _ _, Or.inl (ok_iconst (n := 5) (v := 5) (by decide) (by decide +kernel))⟩,
  List.forall_mem_cons.mpr ⟨⟨mo_il _ _, Or.inl (ok_iload_n (k := 1) rfl (by decide +kernel))⟩,
  List.forall_mem_cons.mpr ⟨⟨mo_bin _ _, Or.inl (ok_imul (by decide +kernel))⟩,
  List.forall_mem_cons.mpr ⟨⟨mo_il _ _, Or.inl (ok_iload_n (k := 2) rfl (by decide +kernel))⟩,
  List.forall_mem_cons.mpr ⟨⟨mo_bin _ _, Or.inl (ok_iadd (by decide +kernel))⟩,
  List.forall_mem_cons.mpr ⟨⟨mo_dup2 _, Or.inl (ok_dup2 (by decide +kernel))⟩,
  List.forall_mem_cons.mpr ⟨⟨mo_ald _ _ _, Or.inl (ok_iald (by decide +kernel))⟩,
  List.forall_mem_cons.mpr ⟨⟨mo_ic _ _, Or.inl (ok_iconst (n := 1) (v := 1) (by decide) (by decide +kernel))⟩,
  fun _ h => absurd h List.not_mem_nil⟩⟩⟩⟩⟩⟩⟩⟩⟩⟩⟩⟩⟩⟩⟩⟩⟩⟩⟩⟩
def t_X11_gains_1 : List (Nat × am_F) := [(24, im_bin (fun x y => x + y) 25), (25, im_ast q_SH .int (fun x => x) 26), (26, im_al 0 27), (27, im_gr q_SH 11 63 30), (30, im_ic 5 31), (31, im_il 1 32), (32, im_bin (fun x y => x * y) 33), (33, im_il 2 34), (34, im_bin (fun x y => x + y) 35), (35, im_al 0 36), (36, im_gi q_SH 11 66 39), (39, im_ast q_SH .int (fun x => x) 40), (40, im_al 0 41), (41, im_gr q_SH 11 67 44), (44, im_al 0 45), (45, im_gi q_SH 11 66 48), (48, im_il 1 49), (49, im_ast q_SH .int (fun x => x) 50), (50, im_al 0 51), (51, im_gr q_SH 11 68 54)]
set_option maxRecDepth 20000 in
theorem o_X11_gains_1 : ∀ q ∈ t_X11_gains_1, am_ok vwCl q_SH ξ (q_E ξ β xs L) q_EN q_KD q_ML (cX11_gains, 6, RX11, "gains", none, []) q.1 q.2 :=
  List.forall_mem_cons.mpr ⟨⟨mo_bin _ _, Or.inl (ok_iadd (by decide +kernel))⟩,
  List.forall_mem_cons.mpr ⟨⟨mo_ast _ _ _ _, Or.inl (ok_iast (by decide +kernel))⟩,
  List.forall_mem_cons.mpr ⟨⟨mo_al _ _, Or.inl (ok_aload_n (k := 0) rfl (by decide +kernel))⟩,
  List.forall_mem_cons.mpr ⟨⟨mo_gr _ _ _ _, Or.inl (ok_gr (C := RX11) (T := TX11) (N := 93) (ci := 11) (k := 63) rfl inX11 (by decide) fl_X11_214 (by decide +kernel) (by decide +kernel))⟩,
  List.forall_mem_cons.mpr ⟨⟨mo_ic _ _, Or.inl (ok_iconst (n := 5) (v := 5) (by decide) (by decide +kernel))⟩,
  List.forall_mem_cons.mpr ⟨⟨mo_il _ _, Or.inl (ok_iload_n (k := 1) rfl (by decide +kernel))⟩,
  List.forall_mem_cons.mpr ⟨⟨mo_bin _ _, Or.inl (ok_imul (by decide +kernel))⟩,
  List.forall_mem_cons.mpr ⟨⟨mo_il _ _, Or.inl (ok_iload_n (k := 2) rfl (by decide +kernel))⟩,
  List.forall_mem_cons.mpr ⟨⟨mo_bin _ _, Or.inl (ok_iadd (by decide +kernel))⟩,
  List.forall_mem_cons.mpr ⟨⟨mo_al _ _, Or.inl (ok_aload_n (k := 0) rfl (by decide +kernel))⟩,
  List.forall_mem_cons.mpr ⟨⟨mo_gi _ _ _ _, Or.inl (ok_gi (C := RX11) (T := TX11) (N := 93) (ci := 11) (k := 66) rfl inX11 (by decide) fl_X11_355 (by decide +kernel) (by decide +kernel))⟩,
  List.forall_mem_cons.mpr ⟨⟨mo_ast _ _ _ _, Or.inl (ok_iast (by decide +kernel))⟩,
  List.forall_mem_cons.mpr ⟨⟨mo_al _ _, Or.inl (ok_aload_n (k := 0) rfl (by decide +kernel))⟩,
  List.forall_mem_cons.mpr ⟨⟨mo_gr _ _ _ _, Or.inl (ok_gr (C := RX11) (T := TX11) (N := 93) (ci := 11) (k := 67) rfl inX11 (by decide) fl_X11_223 (by decide +kernel) (by decide +kernel))⟩,
  List.forall_mem_cons.mpr ⟨⟨mo_al _ _, Or.inl (ok_aload_n (k := 0) rfl (by decide +kernel))⟩,
  List.forall_mem_cons.mpr ⟨⟨mo_gi _ _ _ _, Or.inl (ok_gi (C := RX11) (T := TX11) (N := 93) (ci := 11) (k := 66) rfl inX11 (by decide) fl_X11_355 (by decide +kernel) (by decide +kernel))⟩,
  List.forall_mem_cons.mpr ⟨⟨mo_il _ _, Or.inl (ok_iload_n (k := 1) rfl (by decide +kernel))⟩,
  List.forall_mem_cons.mpr ⟨⟨mo_ast _ _ _ _, Or.inl (ok_iast (by decide +kernel))⟩,
  List.forall_mem_cons.mpr ⟨⟨mo_al _ _, Or.inl (ok_aload_n (k := 0) rfl (by decide +kernel))⟩,
  List.forall_mem_cons.mpr ⟨⟨mo_gr _ _ _ _, Or.inl (ok_gr (C := RX11) (T := TX11) (N := 93) (ci := 11) (k := 68) rfl inX11 (by decide) fl_X11_226 (by decide +kernel) (by decide +kernel))⟩,
  fun _ h => absurd h List.not_mem_nil⟩⟩⟩⟩⟩⟩⟩⟩⟩⟩⟩⟩⟩⟩⟩⟩⟩⟩⟩⟩
def t_X11_gains_2 : List (Nat × am_F) := [(54, im_al 0 55), (55, im_gi q_SH 11 66 58), (58, im_al 0 59), (59, im_gi q_SH 11 76 62), (62, im_ast q_SH .int (fun x => x) 63), (63, im_al 0 64), (64, im_gr q_SH 11 69 67), (67, im_al 0 68), (68, im_gi q_SH 11 66 71), (71, im_il 3 72), (72, im_ast q_SH .int (fun x => x) 73), (73, im_al 0 74), (74, im_gr q_SH 11 70 77), (77, im_al 0 78), (78, im_gi q_SH 11 66 81), (81, im_al 0 82), (82, im_gi q_SH 11 81 85), (85, im_ast q_SH .int (fun x => x) 86), (86, im_al 0 87), (87, im_gr q_SH 11 71 90)]
set_option maxRecDepth 20000 in
theorem o_X11_gains_2 : ∀ q ∈ t_X11_gains_2, am_ok vwCl q_SH ξ (q_E ξ β xs L) q_EN q_KD q_ML (cX11_gains, 6, RX11, "gains", none, []) q.1 q.2 :=
  List.forall_mem_cons.mpr ⟨⟨mo_al _ _, Or.inl (ok_aload_n (k := 0) rfl (by decide +kernel))⟩,
  List.forall_mem_cons.mpr ⟨⟨mo_gi _ _ _ _, Or.inl (ok_gi (C := RX11) (T := TX11) (N := 93) (ci := 11) (k := 66) rfl inX11 (by decide) fl_X11_355 (by decide +kernel) (by decide +kernel))⟩,
  List.forall_mem_cons.mpr ⟨⟨mo_al _ _, Or.inl (ok_aload_n (k := 0) rfl (by decide +kernel))⟩,
  List.forall_mem_cons.mpr ⟨⟨mo_gi _ _ _ _, Or.inl (ok_gi (C := RX11) (T := TX11) (N := 93) (ci := 11) (k := 76) rfl inX11 (by decide) fl_X11_373 (by decide +kernel) (by decide +kernel))⟩,
  List.forall_mem_cons.mpr ⟨⟨mo_ast _ _ _ _, Or.inl (ok_iast (by decide +kernel))⟩,
  List.forall_mem_cons.mpr ⟨⟨mo_al _ _, Or.inl (ok_aload_n (k := 0) rfl (by decide +kernel))⟩,
  List.forall_mem_cons.mpr ⟨⟨mo_gr _ _ _ _, Or.inl (ok_gr (C := RX11) (T := TX11) (N := 93) (ci := 11) (k := 69) rfl inX11 (by decide) fl_X11_229 (by decide +kernel) (by decide +kernel))⟩,
  List.forall_mem_cons.mpr ⟨⟨mo_al _ _, Or.inl (ok_aload_n (k := 0) rfl (by decide +kernel))⟩,
  List.forall_mem_cons.mpr ⟨⟨mo_gi _ _ _ _, Or.inl (ok_gi (C := RX11) (T := TX11) (N := 93) (ci := 11) (k := 66) rfl inX11 (by decide) fl_X11_355 (by decide +kernel) (by decide +kernel))⟩,
  List.forall_mem_cons.mpr ⟨⟨mo_il _ _, Or.inl (ok_iload_n (k := 3) rfl (by decide +kernel))⟩,
  List.forall_mem_cons.mpr ⟨⟨mo_ast _ _ _ _, Or.inl (ok_iast (by decide +kernel))⟩,
  List.forall_mem_cons.mpr ⟨⟨mo_al _ _, Or.inl (ok_aload_n (k := 0) rfl (by decide +kernel))⟩,
  List.forall_mem_cons.mpr ⟨⟨mo_gr _ _ _ _, Or.inl (ok_gr (C := RX11) (T := TX11) (N := 93) (ci := 11) (k := 70) rfl inX11 (by decide) fl_X11_232 (by decide +kernel) (by decide +kernel))⟩,
  List.forall_mem_cons.mpr ⟨⟨mo_al _ _, Or.inl (ok_aload_n (k := 0) rfl (by decide +kernel))⟩,
  List.forall_mem_cons.mpr ⟨⟨mo_gi _ _ _ _, Or.inl (ok_gi (C := RX11) (T := TX11) (N := 93) (ci := 11) (k := 66) rfl inX11 (by decide) fl_X11_355 (by decide +kernel) (by decide +kernel))⟩,
  List.forall_mem_cons.mpr ⟨⟨mo_al _ _, Or.inl (ok_aload_n (k := 0) rfl (by decide +kernel))⟩,
  List.forall_mem_cons.mpr ⟨⟨mo_gi _ _ _ _, Or.inl (ok_gi (C := RX11) (T := TX11) (N := 93) (ci := 11) (k := 81) rfl inX11 (by decide) fl_X11_398 (by decide +kernel) (by decide +kernel))⟩,
  List.forall_mem_cons.mpr ⟨⟨mo_ast _ _ _ _, Or.inl (ok_iast (by decide +kernel))⟩,
  List.forall_mem_cons.mpr ⟨⟨mo_al _ _, Or.inl (ok_aload_n (k := 0) rfl (by decide +kernel))⟩,
  List.forall_mem_cons.mpr ⟨⟨mo_gr _ _ _ _, Or.inl (ok_gr (C := RX11) (T := TX11) (N := 93) (ci := 11) (k := 71) rfl inX11 (by decide) fl_X11_235 (by decide +kernel) (by decide +kernel))⟩,
  fun _ h => absurd h List.not_mem_nil⟩⟩⟩⟩⟩⟩⟩⟩⟩⟩⟩⟩⟩⟩⟩⟩⟩⟩⟩⟩
def t_X11_gains_3 : List (Nat × am_F) := [(90, im_al 0 91), (91, im_gi q_SH 11 66 94), (94, im_il 4 96), (96, im_ast q_SH .int (fun x => x) 97), (97, im_al 0 98), (98, im_gr q_SH 11 72 101), (101, im_al 0 102), (102, im_gi q_SH 11 66 105), (105, im_il 5 107), (107, im_ast q_SH .boolean (vp_nar .boolean) 108), (108, im_al 0 109), (109, im_dup 110), (110, im_gi q_SH 11 66 113), (113, im_ic 1 114), (114, im_bin (fun x y => x + y) 115), (115, im_pi q_SH 11 66 118), (118, im_ret0e)]
set_option maxRecDepth 20000 in
theorem o_X11_gains_3 : ∀ q ∈ t_X11_gains_3, am_ok vwCl q_SH ξ (q_E ξ β xs L) q_EN q_KD q_ML (cX11_gains, 6, RX11, "gains", none, []) q.1 q.2 :=
  List.forall_mem_cons.mpr ⟨⟨mo_al _ _, Or.inl (ok_aload_n (k := 0) rfl (by decide +kernel))⟩,
  List.forall_mem_cons.mpr ⟨⟨mo_gi _ _ _ _, Or.inl (ok_gi (C := RX11) (T := TX11) (N := 93) (ci := 11) (k := 66) rfl inX11 (by decide) fl_X11_355 (by decide +kernel) (by decide +kernel))⟩,
  List.forall_mem_cons.mpr ⟨⟨mo_il _ _, Or.inl (ok_iload (by decide +kernel))⟩,
  List.forall_mem_cons.mpr ⟨⟨mo_ast _ _ _ _, Or.inl (ok_iast (by decide +kernel))⟩,
  List.forall_mem_cons.mpr ⟨⟨mo_al _ _, Or.inl (ok_aload_n (k := 0) rfl (by decide +kernel))⟩,
  List.forall_mem_cons.mpr ⟨⟨mo_gr _ _ _ _, Or.inl (ok_gr (C := RX11) (T := TX11) (N := 93) (ci := 11) (k := 72) rfl inX11 (by decide) fl_X11_238 (by decide +kernel) (by decide +kernel))⟩,
  List.forall_mem_cons.mpr ⟨⟨mo_al _ _, Or.inl (ok_aload_n (k := 0) rfl (by decide +kernel))⟩,
  List.forall_mem_cons.mpr ⟨⟨mo_gi _ _ _ _, Or.inl (ok_gi (C := RX11) (T := TX11) (N := 93) (ci := 11) (k := 66) rfl inX11 (by decide) fl_X11_355 (by decide +kernel) (by decide +kernel))⟩,
  List.forall_mem_cons.mpr ⟨⟨mo_il _ _, Or.inl (ok_iload (by decide +kernel))⟩,
  List.forall_mem_cons.mpr ⟨⟨mo_ast _ _ _ _, Or.inl (ok_zast (by decide +kernel))⟩,
  List.forall_mem_cons.mpr ⟨⟨mo_al _ _, Or.inl (ok_aload_n (k := 0) rfl (by decide +kernel))⟩,
  List.forall_mem_cons.mpr ⟨⟨mo_dup _, Or.inl (ok_dup (by decide +kernel))⟩,
  List.forall_mem_cons.mpr ⟨⟨mo_gi _ _ _ _, Or.inl (ok_gi (C := RX11) (T := TX11) (N := 93) (ci := 11) (k := 66) rfl inX11 (by decide) fl_X11_355 (by decide +kernel) (by decide +kernel))⟩,
  List.forall_mem_cons.mpr ⟨⟨mo_ic _ _, Or.inl (ok_iconst (n := 1) (v := 1) (by decide) (by decide +kernel))⟩,
  List.forall_mem_cons.mpr ⟨⟨mo_bin _ _, Or.inl (ok_iadd (by decide +kernel))⟩,
  List.forall_mem_cons.mpr ⟨⟨mo_pi _ _ _ _, Or.inl (ok_pi (ty := .int) (C := RX11) (T := TX11) (N := 93) (ci := 11) (k := 66) rfl inX11 (by decide) fl_X11_355 (by decide +kernel) tyX11 tyX11_ok nmX11 (by decide +kernel) (by decide +kernel) (by decide +kernel))⟩,
  List.forall_mem_cons.mpr ⟨⟨mo_ret0e, Or.inr (Or.inr (ok_ret0 rfl (by decide +kernel)))⟩,
  fun _ h => absurd h List.not_mem_nil⟩⟩⟩⟩⟩⟩⟩⟩⟩⟩⟩⟩⟩⟩⟩⟩⟩
def t_X11_gains : List (Nat × am_F) := t_X11_gains_0 ++ (t_X11_gains_1 ++ (t_X11_gains_2 ++ (t_X11_gains_3)))
theorem o_X11_gains : ∀ q ∈ t_X11_gains, am_ok vwCl q_SH ξ (q_E ξ β xs L) q_EN q_KD q_ML (cX11_gains, 6, RX11, "gains", none, []) q.1 q.2 := List.forall_mem_append.mpr ⟨o_X11_gains_0, List.forall_mem_append.mpr ⟨o_X11_gains_1, List.forall_mem_append.mpr ⟨o_X11_gains_2, o_X11_gains_3⟩⟩⟩
def t_X11_loses_0 : List (Nat × am_F) := [(0, im_al 0 1), (1, im_gr q_SH 11 55 4), (4, im_il 1 5), (5, im_dup2 6), (6, im_ald q_SH .int 7), (7, im_ic 1 8), (8, im_il 2 9), (9, im_bin (fun x y => x <<< (y &&& 31)) 10), (10, im_ic (-1) 11), (11, im_bin (fun x y => x ^^^ y) 12), (12, im_bin (fun x y => x &&& y) 13), (13, im_ast q_SH .int (fun x => x) 14), (14, im_al 0 15), (15, im_gr q_SH 11 65 18), (18, im_ic 5 19), (19, im_il 1 20), (20, im_bin (fun x y => x * y) 21), (21, im_il 2 22), (22, im_bin (fun x y => x + y) 23), (23, im_dup2 24)]
set_option maxRecDepth 20000 in
theorem o_X11_loses_0 : ∀ q ∈ t_X11_loses_0, am_ok vwCl q_SH ξ (q_E ξ β xs L) q_EN q_KD q_ML (cX11_loses, 3, RX11, "loses", none, []) q.1 q.2 :=
  List.forall_mem_cons.mpr ⟨⟨mo_al _ _, Or.inl (ok_aload_n (k := 0) rfl (by decide +kernel))⟩,
  List.forall_mem_cons.mpr ⟨⟨mo_gr _ _ _ _, Or.inl (ok_gr (C := RX11) (T := TX11) (N := 93) (ci := 11) (k := 55) rfl inX11 (by decide) fl_X11_190 (by decide +kernel) (by decide +kernel))⟩,
  List.forall_mem_cons.mpr ⟨⟨mo_il _ _, Or.inl (ok_iload_n (k := 1) rfl (by decide +kernel))⟩,
  List.forall_mem_cons.mpr ⟨⟨mo_dup2 _, Or.inl (ok_dup2 (by decide +kernel))⟩,
  List.forall_mem_cons.mpr ⟨⟨mo_ald _ _ _, Or.inl (ok_iald (by decide +kernel))⟩,
  List.forall_mem_cons.mpr ⟨⟨mo_ic _ _, Or.inl (ok_iconst (n := 1) (v := 1) (by decide) (by decide +kernel))⟩,
  List.forall_mem_cons.mpr ⟨⟨mo_il _ _, Or.inl (ok_iload_n (k := 2) rfl (by decide +kernel))⟩,
  List.forall_mem_cons.mpr ⟨⟨mo_bin _ _, Or.inl (ok_ishl (by decide +kernel))⟩,
  List.forall_mem_cons.mpr ⟨⟨mo_ic _ _, Or.inl (ok_iconst (n := (-1)) (v := (-1)) (by decide) (by decide +kernel))⟩,
  List.forall_mem_cons.mpr ⟨⟨mo_bin _ _, Or.inl (ok_ixor (by decide +kernel))⟩,
  List.forall_mem_cons.mpr ⟨⟨mo_bin _ _, Or.inl (ok_iand (by decide +kernel))⟩,
  List.forall_mem_cons.mpr ⟨⟨mo_ast _ _ _ _, Or.inl (ok_iast (by decide +kernel))⟩,
  List.forall_mem_cons.mpr ⟨⟨mo_al _ _, Or.inl (ok_aload_n (k := 0) rfl (by decide +kernel))⟩,
  List.forall_mem_cons.mpr ⟨⟨mo_gr _ _ _ _, Or.inl (ok_gr (C := RX11) (T := TX11) (N := 93) (ci := 11) (k := 65) rfl inX11 (by decide) fl_X11_220 (by decide +kernel) (by decide +kernel))⟩,
  List.forall_mem_cons.mpr ⟨⟨mo_ic _ _, Or.inl (ok_iconst (n := 5) (v := 5) (by decide) (by decide +kernel))⟩,
  List.forall_mem_cons.mpr ⟨⟨mo_il _ _, Or.inl (ok_iload_n (k := 1) rfl (by decide +kernel))⟩,
  List.forall_mem_cons.mpr ⟨⟨mo_bin _ _, Or.inl (ok_imul (by decide +kernel))⟩,
  List.forall_mem_cons.mpr ⟨⟨mo_il _ _, Or.inl (ok_iload_n (k := 2) rfl (by decide +kernel))⟩,
  List.forall_mem_cons.mpr ⟨⟨mo_bin _ _, Or.inl (ok_iadd (by decide +kernel))⟩,
  List.forall_mem_cons.mpr ⟨⟨mo_dup2 _, Or.inl (ok_dup2 (by decide +kernel))⟩,
  fun _ h => absurd h List.not_mem_nil⟩⟩⟩⟩⟩⟩⟩⟩⟩⟩⟩⟩⟩⟩⟩⟩⟩⟩⟩⟩
def t_X11_loses_1 : List (Nat × am_F) := [(24, im_ald q_SH .int 25), (25, im_ic 1 26), (26, im_bin (fun x y => x + y) 27), (27, im_ast q_SH .int (fun x => x) 28), (28, im_al 0 29), (29, im_gr q_SH 11 63 32), (32, im_ic 5 33), (33, im_il 1 34), (34, im_bin (fun x y => x * y) 35), (35, im_il 2 36), (36, im_bin (fun x y => x + y) 37), (37, im_ic (-1) 38), (38, im_ast q_SH .int (fun x => x) 39), (39, im_ret0e)]
set_option maxRecDepth 20000 in
theorem o_X11_loses_1 : ∀ q ∈ t_X11_loses_1, am_ok vwCl q_SH ξ (q_E ξ β xs L) q_EN q_KD q_ML (cX11_loses, 3, RX11, "loses", none, []) q.1 q.2 :=
  List.forall_mem_cons.mpr ⟨⟨mo_ald _ _ _, Or.inl (ok_iald (by decide +kernel))⟩,
  List.forall_mem_cons.mpr ⟨⟨mo_ic _ _, Or.inl (ok_iconst (n := 1) (v := 1) (by decide) (by decide +kernel))⟩,
  List.forall_mem_cons.mpr ⟨⟨mo_bin _ _, Or.inl (ok_iadd (by decide +kernel))⟩,
  List.forall_mem_cons.mpr ⟨⟨mo_ast _ _ _ _, Or.inl (ok_iast (by decide +kernel))⟩,
  List.forall_mem_cons.mpr ⟨⟨mo_al _ _, Or.inl (ok_aload_n (k := 0) rfl (by decide +kernel))⟩,
  List.forall_mem_cons.mpr ⟨⟨mo_gr _ _ _ _, Or.inl (ok_gr (C := RX11) (T := TX11) (N := 93) (ci := 11) (k := 63) rfl inX11 (by decide) fl_X11_214 (by decide +kernel) (by decide +kernel))⟩,
  List.forall_mem_cons.mpr ⟨⟨mo_ic _ _, Or.inl (ok_iconst (n := 5) (v := 5) (by decide) (by decide +kernel))⟩,
  List.forall_mem_cons.mpr ⟨⟨mo_il _ _, Or.inl (ok_iload_n (k := 1) rfl (by decide +kernel))⟩,
  List.forall_mem_cons.mpr ⟨⟨mo_bin _ _, Or.inl (ok_imul (by decide +kernel))⟩,
  List.forall_mem_cons.mpr ⟨⟨mo_il _ _, Or.inl (ok_iload_n (k := 2) rfl (by decide +kernel))⟩,
  List.forall_mem_cons.mpr ⟨⟨mo_bin _ _, Or.inl (ok_iadd (by decide +kernel))⟩,
  List.forall_mem_cons.mpr ⟨⟨mo_ic _ _, Or.inl (ok_iconst (n := (-1)) (v := (-1)) (by decide) (by decide +kernel))⟩,
  List.forall_mem_cons.mpr ⟨⟨mo_ast _ _ _ _, Or.inl (ok_iast (by decide +kernel))⟩,
  List.forall_mem_cons.mpr ⟨⟨mo_ret0e, Or.inr (Or.inr (ok_ret0 rfl (by decide +kernel)))⟩,
  fun _ h => absurd h List.not_mem_nil⟩⟩⟩⟩⟩⟩⟩⟩⟩⟩⟩⟩⟩⟩
def t_X11_loses : List (Nat × am_F) := t_X11_loses_0 ++ (t_X11_loses_1)
theorem o_X11_loses : ∀ q ∈ t_X11_loses, am_ok vwCl q_SH ξ (q_E ξ β xs L) q_EN q_KD q_ML (cX11_loses, 3, RX11, "loses", none, []) q.1 q.2 := List.forall_mem_append.mpr ⟨o_X11_loses_0, o_X11_loses_1⟩
def t_X11_finds_0 : List (Nat × am_F) := [(0, im_al 0 1), (1, im_il 2 2), (2, im_inv q_SH 11 143 1 5), (5, im_al 0 6), (6, im_gi q_SH 11 88 9), (9, im_al 0 10), (10, im_gi q_SH 11 2 13), (13, im_if2 ic_ne 33 16), (16, im_al 0 17), (17, im_gi q_SH 11 89 20), (20, im_il 1 21), (21, im_if2 ic_ne 33 24), (24, im_al 0 25), (25, im_gi q_SH 11 90 28), (28, im_il 2 29), (29, im_if2 ic_ne 33 32), (32, im_ret0e), (33, im_al 0 34), (34, im_al 0 35), (35, im_gi q_SH 11 2 38)]
set_option maxRecDepth 20000 in
theorem o_X11_finds_0 : ∀ q ∈ t_X11_finds_0, am_ok vwCl q_SH ξ (q_E ξ β xs L) q_EN q_KD q_ML (cX11_finds, 5, RX11, "finds", none, []) q.1 q.2 :=
  List.forall_mem_cons.mpr ⟨⟨mo_al _ _, Or.inl (ok_aload_n (k := 0) rfl (by decide +kernel))⟩,
  List.forall_mem_cons.mpr ⟨⟨mo_il _ _, Or.inl (ok_iload_n (k := 2) rfl (by decide +kernel))⟩,
  List.forall_mem_cons.mpr ⟨⟨mo_inv _ _ _ _ _, Or.inr (Or.inl (ok_inv (T := TX11) (N := 93) rfl cw_X11_findsDoubts (by decide) (by decide) ml_X11_456 ci_X11_findsDoubts cv_X11_findsDoubts (show Cond.initialized (yX11_findsDoubts).cls ∈ am_ts from ci9_RX11) ⟨by decide +kernel, by decide +kernel, by decide +kernel⟩ rfl (by decide +kernel)))⟩,
  List.forall_mem_cons.mpr ⟨⟨mo_al _ _, Or.inl (ok_aload_n (k := 0) rfl (by decide +kernel))⟩,
  List.forall_mem_cons.mpr ⟨⟨mo_gi _ _ _ _, Or.inl (ok_gi (C := RX11) (T := TX11) (N := 93) (ci := 11) (k := 88) rfl inX11 (by decide) fl_X11_459 (by decide +kernel) (by decide +kernel))⟩,
  List.forall_mem_cons.mpr ⟨⟨mo_al _ _, Or.inl (ok_aload_n (k := 0) rfl (by decide +kernel))⟩,
  List.forall_mem_cons.mpr ⟨⟨mo_gi _ _ _ _, Or.inl (ok_gi (C := RX11) (T := TX11) (N := 93) (ci := 11) (k := 2) rfl inX11 (by decide) fl_X11_10 (by decide +kernel) (by decide +kernel))⟩,
  List.forall_mem_cons.mpr ⟨⟨mo_if2 _ _ _, Or.inl (ok_icmp_ne (off := 20) (by decide) (by decide +kernel))⟩,
  List.forall_mem_cons.mpr ⟨⟨mo_al _ _, Or.inl (ok_aload_n (k := 0) rfl (by decide +kernel))⟩,
  List.forall_mem_cons.mpr ⟨⟨mo_gi _ _ _ _, Or.inl (ok_gi (C := RX11) (T := TX11) (N := 93) (ci := 11) (k := 89) rfl inX11 (by decide) fl_X11_462 (by decide +kernel) (by decide +kernel))⟩,
  List.forall_mem_cons.mpr ⟨⟨mo_il _ _, Or.inl (ok_iload_n (k := 1) rfl (by decide +kernel))⟩,
  List.forall_mem_cons.mpr ⟨⟨mo_if2 _ _ _, Or.inl (ok_icmp_ne (off := 12) (by decide) (by decide +kernel))⟩,
  List.forall_mem_cons.mpr ⟨⟨mo_al _ _, Or.inl (ok_aload_n (k := 0) rfl (by decide +kernel))⟩,
  List.forall_mem_cons.mpr ⟨⟨mo_gi _ _ _ _, Or.inl (ok_gi (C := RX11) (T := TX11) (N := 93) (ci := 11) (k := 90) rfl inX11 (by decide) fl_X11_465 (by decide +kernel) (by decide +kernel))⟩,
  List.forall_mem_cons.mpr ⟨⟨mo_il _ _, Or.inl (ok_iload_n (k := 2) rfl (by decide +kernel))⟩,
  List.forall_mem_cons.mpr ⟨⟨mo_if2 _ _ _, Or.inl (ok_icmp_ne (off := 4) (by decide) (by decide +kernel))⟩,
  List.forall_mem_cons.mpr ⟨⟨mo_ret0e, Or.inr (Or.inr (ok_ret0 rfl (by decide +kernel)))⟩,
  List.forall_mem_cons.mpr ⟨⟨mo_al _ _, Or.inl (ok_aload_n (k := 0) rfl (by decide +kernel))⟩,
  List.forall_mem_cons.mpr ⟨⟨mo_al _ _, Or.inl (ok_aload_n (k := 0) rfl (by decide +kernel))⟩,
  List.forall_mem_cons.mpr ⟨⟨mo_gi _ _ _ _, Or.inl (ok_gi (C := RX11) (T := TX11) (N := 93) (ci := 11) (k := 2) rfl inX11 (by decide) fl_X11_10 (by decide +kernel) (by decide +kernel))⟩,
  fun _ h => absurd h List.not_mem_nil⟩⟩⟩⟩⟩⟩⟩⟩⟩⟩⟩⟩⟩⟩⟩⟩⟩⟩⟩⟩
def t_X11_finds_1 : List (Nat × am_F) := [(38, im_pi q_SH 11 88 41), (41, im_al 0 42), (42, im_il 1 43), (43, im_pi q_SH 11 89 46), (46, im_al 0 47), (47, im_il 2 48), (48, im_pi q_SH 11 90 51), (51, im_ic 0 52), (52, im_is 3 53), (53, im_il 3 54), (54, im_al 0 55), (55, im_gi q_SH 11 52 58), (58, im_if2 ic_ge 110 61), (61, im_al 0 62), (62, im_il 3 63), (63, im_il 1 64), (64, im_il 2 65), (65, im_ic (-1) 66), (66, im_inv q_SH 11 147 4 69), (69, im_ic 0 70)]
set_option maxRecDepth 20000 in
theorem o_X11_finds_1 : ∀ q ∈ t_X11_finds_1, am_ok vwCl q_SH ξ (q_E ξ β xs L) q_EN q_KD q_ML (cX11_finds, 5, RX11, "finds", none, []) q.1 q.2 :=
  List.forall_mem_cons.mpr ⟨⟨mo_pi _ _ _ _, Or.inl (ok_pi (ty := .int) (C := RX11) (T := TX11) (N := 93) (ci := 11) (k := 88) rfl inX11 (by decide) fl_X11_459 (by decide +kernel) tyX11 tyX11_ok nmX11 (by decide +kernel) (by decide +kernel) (by decide +kernel))⟩,
  List.forall_mem_cons.mpr ⟨⟨mo_al _ _, Or.inl (ok_aload_n (k := 0) rfl (by decide +kernel))⟩,
  List.forall_mem_cons.mpr ⟨⟨mo_il _ _, Or.inl (ok_iload_n (k := 1) rfl (by decide +kernel))⟩,
  List.forall_mem_cons.mpr ⟨⟨mo_pi _ _ _ _, Or.inl (ok_pi (ty := .int) (C := RX11) (T := TX11) (N := 93) (ci := 11) (k := 89) rfl inX11 (by decide) fl_X11_462 (by decide +kernel) tyX11 tyX11_ok nmX11 (by decide +kernel) (by decide +kernel) (by decide +kernel))⟩,
  List.forall_mem_cons.mpr ⟨⟨mo_al _ _, Or.inl (ok_aload_n (k := 0) rfl (by decide +kernel))⟩,
  List.forall_mem_cons.mpr ⟨⟨mo_il _ _, Or.inl (ok_iload_n (k := 2) rfl (by decide +kernel))⟩,
  List.forall_mem_cons.mpr ⟨⟨mo_pi _ _ _ _, Or.inl (ok_pi (ty := .int) (C := RX11) (T := TX11) (N := 93) (ci := 11) (k := 90) rfl inX11 (by decide) fl_X11_465 (by decide +kernel) tyX11 tyX11_ok nmX11 (by decide +kernel) (by decide +kernel) (by decide +kernel))⟩,
  List.forall_mem_cons.mpr ⟨⟨mo_ic _ _, Or.inl (ok_iconst (n := 0) (v := 0) (by decide) (by decide +kernel))⟩,
  List.forall_mem_cons.mpr ⟨⟨mo_is _ _, Or.inl (ok_istore_n (k := 3) rfl (by decide) (by decide +kernel))⟩,
  List.forall_mem_cons.mpr ⟨⟨mo_il _ _, Or.inl (ok_iload_n (k := 3) rfl (by decide +kernel))⟩,
  List.forall_mem_cons.mpr ⟨⟨mo_al _ _, Or.inl (ok_aload_n (k := 0) rfl (by decide +kernel))⟩,
  List.forall_mem_cons.mpr ⟨⟨mo_gi _ _ _ _, Or.inl (ok_gi (C := RX11) (T := TX11) (N := 93) (ci := 11) (k := 52) rfl inX11 (by decide) fl_X11_349 (by decide +kernel) (by decide +kernel))⟩,
  List.forall_mem_cons.mpr ⟨⟨mo_if2 _ _ _, Or.inl (ok_icmp_ge (off := 52) (by decide) (by decide +kernel))⟩,
  List.forall_mem_cons.mpr ⟨⟨mo_al _ _, Or.inl (ok_aload_n (k := 0) rfl (by decide +kernel))⟩,
  List.forall_mem_cons.mpr ⟨⟨mo_il _ _, Or.inl (ok_iload_n (k := 3) rfl (by decide +kernel))⟩,
  List.forall_mem_cons.mpr ⟨⟨mo_il _ _, Or.inl (ok_iload_n (k := 1) rfl (by decide +kernel))⟩,
  List.forall_mem_cons.mpr ⟨⟨mo_il _ _, Or.inl (ok_iload_n (k := 2) rfl (by decide +kernel))⟩,
  List.forall_mem_cons.mpr ⟨⟨mo_ic _ _, Or.inl (ok_iconst (n := (-1)) (v := (-1)) (by decide) (by decide +kernel))⟩,
  List.forall_mem_cons.mpr ⟨⟨mo_inv _ _ _ _ _, Or.inr (Or.inl (ok_inv (T := TX11) (N := 93) rfl cw_X11_runs (by decide) (by decide) ml_X11_468 ci_X11_runs cv_X11_runs (show Cond.initialized (yX11_runs).cls ∈ am_ts from ci9_RX11) ⟨by decide +kernel, by decide +kernel, by decide +kernel⟩ rfl (by decide +kernel)))⟩,
  List.forall_mem_cons.mpr ⟨⟨mo_ic _ _, Or.inl (ok_iconst (n := 0) (v := 0) (by decide) (by decide +kernel))⟩,
  fun _ h => absurd h List.not_mem_nil⟩⟩⟩⟩⟩⟩⟩⟩⟩⟩⟩⟩⟩⟩⟩⟩⟩⟩⟩⟩
def t_X11_finds_2 : List (Nat × am_F) := [(70, im_is 4 72), (72, im_il 4 74), (74, im_ic 20 76), (76, im_if2 ic_ge 104 79), (79, im_al 0 80), (80, im_gr q_SH 11 91 83), (83, im_ic 20 85), (85, im_il 3 86), (86, im_bin (fun x y => x * y) 87), (87, im_il 4 89), (89, im_bin (fun x y => x + y) 90), (90, im_al 0 91), (91, im_gr q_SH 11 55 94), (94, im_il 4 96), (96, im_ald q_SH .int 97), (97, im_ast q_SH .int (fun x => x) 98), (98, im_iinc 4 1 101), (101, im_go 72), (104, im_iinc 3 1 107), (107, im_go 53)]
set_option maxRecDepth 20000 in
theorem o_X11_finds_2 : ∀ q ∈ t_X11_finds_2, am_ok vwCl q_SH ξ (q_E ξ β xs L) q_EN q_KD q_ML (cX11_finds, 5, RX11, "finds", none, []) q.1 q.2 :=
  List.forall_mem_cons.mpr ⟨⟨mo_is _ _, Or.inl (ok_istore (by decide) (by decide +kernel))⟩,
  List.forall_mem_cons.mpr ⟨⟨mo_il _ _, Or.inl (ok_iload (by decide +kernel))⟩,
  List.forall_mem_cons.mpr ⟨⟨mo_ic _ _, Or.inl (ok_bipush (n := 20) (v := 20) (by decide) (by decide +kernel))⟩,
  List.forall_mem_cons.mpr ⟨⟨mo_if2 _ _ _, Or.inl (ok_icmp_ge (off := 28) (by decide) (by decide +kernel))⟩,
  List.forall_mem_cons.mpr ⟨⟨mo_al _ _, Or.inl (ok_aload_n (k := 0) rfl (by decide +kernel))⟩,
  List.forall_mem_cons.mpr ⟨⟨mo_gr _ _ _ _, Or.inl (ok_gr (C := RX11) (T := TX11) (N := 93) (ci := 11) (k := 91) rfl inX11 (by decide) fl_X11_262 (by decide +kernel) (by decide +kernel))⟩,
  List.forall_mem_cons.mpr ⟨⟨mo_ic _ _, Or.inl (ok_bipush (n := 20) (v := 20) (by decide) (by decide +kernel))⟩,
  List.forall_mem_cons.mpr ⟨⟨mo_il _ _, Or.inl (ok_iload_n (k := 3) rfl (by decide +kernel))⟩,
  List.forall_mem_cons.mpr ⟨⟨mo_bin _ _, Or.inl (ok_imul (by decide +kernel))⟩,
  List.forall_mem_cons.mpr ⟨⟨mo_il _ _, Or.inl (ok_iload (by decide +kernel))⟩,
  List.forall_mem_cons.mpr ⟨⟨mo_bin _ _, Or.inl (ok_iadd (by decide +kernel))⟩,
  List.forall_mem_cons.mpr ⟨⟨mo_al _ _, Or.inl (ok_aload_n (k := 0) rfl (by decide +kernel))⟩,
  List.forall_mem_cons.mpr ⟨⟨mo_gr _ _ _ _, Or.inl (ok_gr (C := RX11) (T := TX11) (N := 93) (ci := 11) (k := 55) rfl inX11 (by decide) fl_X11_190 (by decide +kernel) (by decide +kernel))⟩,
  List.forall_mem_cons.mpr ⟨⟨mo_il _ _, Or.inl (ok_iload (by decide +kernel))⟩,
  List.forall_mem_cons.mpr ⟨⟨mo_ald _ _ _, Or.inl (ok_iald (by decide +kernel))⟩,
  List.forall_mem_cons.mpr ⟨⟨mo_ast _ _ _ _, Or.inl (ok_iast (by decide +kernel))⟩,
  List.forall_mem_cons.mpr ⟨⟨mo_iinc _ _ _, Or.inl (ok_iinc (n := 1) (v := 1) (by decide) (by decide) (by decide +kernel))⟩,
  List.forall_mem_cons.mpr ⟨⟨mo_go _, Or.inl (ok_goto (off := (-29)) (by decide) (by decide +kernel))⟩,
  List.forall_mem_cons.mpr ⟨⟨mo_iinc _ _ _, Or.inl (ok_iinc (n := 1) (v := 1) (by decide) (by decide) (by decide +kernel))⟩,
  List.forall_mem_cons.mpr ⟨⟨mo_go _, Or.inl (ok_goto (off := (-54)) (by decide) (by decide +kernel))⟩,
  fun _ h => absurd h List.not_mem_nil⟩⟩⟩⟩⟩⟩⟩⟩⟩⟩⟩⟩⟩⟩⟩⟩⟩⟩⟩⟩
def t_X11_finds_3 : List (Nat × am_F) := [(110, im_ret0e)]
set_option maxRecDepth 20000 in
theorem o_X11_finds_3 : ∀ q ∈ t_X11_finds_3, am_ok vwCl q_SH ξ (q_E ξ β xs L) q_EN q_KD q_ML (cX11_finds, 5, RX11, "finds", none, []) q.1 q.2 :=
  List.forall_mem_cons.mpr ⟨⟨mo_ret0e, Or.inr (Or.inr (ok_ret0 rfl (by decide +kernel)))⟩,
  fun _ h => absurd h List.not_mem_nil⟩
def t_X11_finds : List (Nat × am_F) := t_X11_finds_0 ++ (t_X11_finds_1 ++ (t_X11_finds_2 ++ (t_X11_finds_3)))
theorem o_X11_finds : ∀ q ∈ t_X11_finds, am_ok vwCl q_SH ξ (q_E ξ β xs L) q_EN q_KD q_ML (cX11_finds, 5, RX11, "finds", none, []) q.1 q.2 := List.forall_mem_append.mpr ⟨o_X11_finds_0, List.forall_mem_append.mpr ⟨o_X11_finds_1, List.forall_mem_append.mpr ⟨o_X11_finds_2, o_X11_finds_3⟩⟩⟩
def t_X11_isEvening_0 : List (Nat × am_F) := [(0, im_al 0 1), (1, im_il 1 2), (2, im_if1 ib_lt 17 5), (5, im_il 1 6), (6, im_al 0 7), (7, im_gi q_SH 11 1 10), (10, im_if2 ic_gt 17 13), (13, im_ic 1 14), (14, im_go 18), (17, im_ic 0 18), (18, im_ic 2 19), (19, im_inv q_SH 11 103 2 22), (22, im_retz)]
set_option maxRecDepth 20000 in
theorem o_X11_isEvening_0 : ∀ q ∈ t_X11_isEvening_0, am_ok vwCl q_SH ξ (q_E ξ β xs L) q_EN q_KD q_ML (cX11_isEvening, 2, RX11, "isEvening", (some .boolean), []) q.1 q.2 :=
  List.forall_mem_cons.mpr ⟨⟨mo_al _ _, Or.inl (ok_aload_n (k := 0) rfl (by decide +kernel))⟩,
  List.forall_mem_cons.mpr ⟨⟨mo_il _ _, Or.inl (ok_iload_n (k := 1) rfl (by decide +kernel))⟩,
  List.forall_mem_cons.mpr ⟨⟨mo_if1 _ _ _, Or.inl (ok_if_lt (off := 15) (by decide) (by decide +kernel))⟩,
  List.forall_mem_cons.mpr ⟨⟨mo_il _ _, Or.inl (ok_iload_n (k := 1) rfl (by decide +kernel))⟩,
  List.forall_mem_cons.mpr ⟨⟨mo_al _ _, Or.inl (ok_aload_n (k := 0) rfl (by decide +kernel))⟩,
  List.forall_mem_cons.mpr ⟨⟨mo_gi _ _ _ _, Or.inl (ok_gi (C := RX11) (T := TX11) (N := 93) (ci := 11) (k := 1) rfl inX11 (by decide) fl_X11_65 (by decide +kernel) (by decide +kernel))⟩,
  List.forall_mem_cons.mpr ⟨⟨mo_if2 _ _ _, Or.inl (ok_icmp_gt (off := 7) (by decide) (by decide +kernel))⟩,
  List.forall_mem_cons.mpr ⟨⟨mo_ic _ _, Or.inl (ok_iconst (n := 1) (v := 1) (by decide) (by decide +kernel))⟩,
  List.forall_mem_cons.mpr ⟨⟨mo_go _, Or.inl (ok_goto (off := 4) (by decide) (by decide +kernel))⟩,
  List.forall_mem_cons.mpr ⟨⟨mo_ic _ _, Or.inl (ok_iconst (n := 0) (v := 0) (by decide) (by decide +kernel))⟩,
  List.forall_mem_cons.mpr ⟨⟨mo_ic _ _, Or.inl (ok_iconst (n := 2) (v := 2) (by decide) (by decide +kernel))⟩,
  List.forall_mem_cons.mpr ⟨⟨mo_inv _ _ _ _ _, Or.inr (Or.inl (ok_inv (T := TX11) (N := 93) rfl cw_X11_right (by decide) (by decide) ml_X11_32 ci_X11_right cv_X11_right (show Cond.initialized (yX11_right).cls ∈ am_ts from ci9_RX11) ⟨by decide +kernel, by decide +kernel, by decide +kernel⟩ rfl (by decide +kernel)))⟩,
  List.forall_mem_cons.mpr ⟨⟨mo_retz, Or.inr (Or.inr (ok_retz rfl (by decide +kernel)))⟩,
  fun _ h => absurd h List.not_mem_nil⟩⟩⟩⟩⟩⟩⟩⟩⟩⟩⟩⟩⟩
def t_X11_isEvening : List (Nat × am_F) := t_X11_isEvening_0
theorem o_X11_isEvening : ∀ q ∈ t_X11_isEvening, am_ok vwCl q_SH ξ (q_E ξ β xs L) q_EN q_KD q_ML (cX11_isEvening, 2, RX11, "isEvening", (some .boolean), []) q.1 q.2 := o_X11_isEvening_0
def t_X11_force_0 : List (Nat × am_F) := [(0, im_al 0 1), (1, im_ic 0 2), (2, im_pi q_SH 11 0 5), (5, im_al 0 6), (6, im_il 1 7), (7, im_if1 ib_lt 29 10), (10, im_il 1 11), (11, im_al 0 12), (12, im_gi q_SH 11 32 15), (15, im_if2 ic_ge 29 18), (18, im_il 2 19), (19, im_invs 109 1 22), (22, im_if1 ib_eq 29 25), (25, im_ic 1 26), (26, im_go 30), (29, im_ic 0 30), (30, im_ic 1 31), (31, im_inv q_SH 11 103 2 34), (34, im_if1 ib_eq 64 37), (37, im_al 0 38)]
set_option maxRecDepth 20000 in
theorem o_X11_force_0 : ∀ q ∈ t_X11_force_0, am_ok vwCl q_SH ξ (q_E ξ β xs L) q_EN q_KD q_ML (cX11_force, 4, RX11, "force", (some .boolean), []) q.1 q.2 :=
  List.forall_mem_cons.mpr ⟨⟨mo_al _ _, Or.inl (ok_aload_n (k := 0) rfl (by decide +kernel))⟩,
  List.forall_mem_cons.mpr ⟨⟨mo_ic _ _, Or.inl (ok_iconst (n := 0) (v := 0) (by decide) (by decide +kernel))⟩,
  List.forall_mem_cons.mpr ⟨⟨mo_pi _ _ _ _, Or.inl (ok_pi (ty := .int) (C := RX11) (T := TX11) (N := 93) (ci := 11) (k := 0) rfl inX11 (by decide) fl_X11_1 (by decide +kernel) tyX11 tyX11_ok nmX11 (by decide +kernel) (by decide +kernel) (by decide +kernel))⟩,
  List.forall_mem_cons.mpr ⟨⟨mo_al _ _, Or.inl (ok_aload_n (k := 0) rfl (by decide +kernel))⟩,
  List.forall_mem_cons.mpr ⟨⟨mo_il _ _, Or.inl (ok_iload_n (k := 1) rfl (by decide +kernel))⟩,
  List.forall_mem_cons.mpr ⟨⟨mo_if1 _ _ _, Or.inl (ok_if_lt (off := 22) (by decide) (by decide +kernel))⟩,
  List.forall_mem_cons.mpr ⟨⟨mo_il _ _, Or.inl (ok_iload_n (k := 1) rfl (by decide +kernel))⟩,
  List.forall_mem_cons.mpr ⟨⟨mo_al _ _, Or.inl (ok_aload_n (k := 0) rfl (by decide +kernel))⟩,
  List.forall_mem_cons.mpr ⟨⟨mo_gi _ _ _ _, Or.inl (ok_gi (C := RX11) (T := TX11) (N := 93) (ci := 11) (k := 32) rfl inX11 (by decide) fl_X11_77 (by decide +kernel) (by decide +kernel))⟩,
  List.forall_mem_cons.mpr ⟨⟨mo_if2 _ _ _, Or.inl (ok_icmp_ge (off := 14) (by decide) (by decide +kernel))⟩,
  List.forall_mem_cons.mpr ⟨⟨mo_il _ _, Or.inl (ok_iload_n (k := 2) rfl (by decide +kernel))⟩,
  List.forall_mem_cons.mpr ⟨⟨mo_invs _ _ _, Or.inr (Or.inl (ok_invs cw_X11_isDay (by decide) (by decide) ml_X11_47 cs_X11_isDay (show Cond.initialized (yX11_isDay).cls ∈ am_ts from ci9_RX11) ⟨by decide +kernel, by decide +kernel, by decide +kernel⟩ rfl (by decide +kernel)))⟩,
  List.forall_mem_cons.mpr ⟨⟨mo_if1 _ _ _, Or.inl (ok_if_eq (off := 7) (by decide) (by decide +kernel))⟩,
  List.forall_mem_cons.mpr ⟨⟨mo_ic _ _, Or.inl (ok_iconst (n := 1) (v := 1) (by decide) (by decide +kernel))⟩,
  List.forall_mem_cons.mpr ⟨⟨mo_go _, Or.inl (ok_goto (off := 4) (by decide) (by decide +kernel))⟩,
  List.forall_mem_cons.mpr ⟨⟨mo_ic _ _, Or.inl (ok_iconst (n := 0) (v := 0) (by decide) (by decide +kernel))⟩,
  List.forall_mem_cons.mpr ⟨⟨mo_ic _ _, Or.inl (ok_iconst (n := 1) (v := 1) (by decide) (by decide +kernel))⟩,
  List.forall_mem_cons.mpr ⟨⟨mo_inv _ _ _ _ _, Or.inr (Or.inl (ok_inv (T := TX11) (N := 93) rfl cw_X11_right (by decide) (by decide) ml_X11_32 ci_X11_right cv_X11_right (show Cond.initialized (yX11_right).cls ∈ am_ts from ci9_RX11) ⟨by decide +kernel, by decide +kernel, by decide +kernel⟩ rfl (by decide +kernel)))⟩,
  List.forall_mem_cons.mpr ⟨⟨mo_if1 _ _ _, Or.inl (ok_if_eq (off := 30) (by decide) (by decide +kernel))⟩,
  List.forall_mem_cons.mpr ⟨⟨mo_al _ _, Or.inl (ok_aload_n (k := 0) rfl (by decide +kernel))⟩,
  fun _ h => absurd h List.not_mem_nil⟩⟩⟩⟩⟩⟩⟩⟩⟩⟩⟩⟩⟩⟩⟩⟩⟩⟩⟩⟩
def t_X11_force_1 : List (Nat × am_F) := [(38, im_il 3 39), (39, im_inv q_SH 11 167 1 42), (42, im_if1 ib_eq 64 45), (45, im_al 0 46), (46, im_il 2 47), (47, im_il 3 48), (48, im_ic (-1) 49), (49, im_inv q_SH 11 142 3 52), (52, im_il 1 53), (53, im_bin (fun x y => x >>> (y &&& 31)) 54), (54, im_ic 1 55), (55, im_bin (fun x y => x &&& y) 56), (56, im_ic 1 57), (57, im_if2 ic_ne 64 60), (60, im_ic 1 61), (61, im_go 65), (64, im_ic 0 65), (65, im_retz)]
set_option maxRecDepth 20000 in
theorem o_X11_force_1 : ∀ q ∈ t_X11_force_1, am_ok vwCl q_SH ξ (q_E ξ β xs L) q_EN q_KD q_ML (cX11_force, 4, RX11, "force", (some .boolean), []) q.1 q.2 :=
  List.forall_mem_cons.mpr ⟨⟨mo_il _ _, Or.inl (ok_iload_n (k := 3) rfl (by decide +kernel))⟩,
  List.forall_mem_cons.mpr ⟨⟨mo_inv _ _ _ _ _, Or.inr (Or.inl (ok_inv (T := TX11) (N := 93) rfl cw_X11_isEvening (by decide) (by decide) ml_X11_471 ci_X11_isEvening cv_X11_isEvening (show Cond.initialized (yX11_isEvening).cls ∈ am_ts from ci9_RX11) ⟨by decide +kernel, by decide +kernel, by decide +kernel⟩ rfl (by decide +kernel)))⟩,
  List.forall_mem_cons.mpr ⟨⟨mo_if1 _ _ _, Or.inl (ok_if_eq (off := 22) (by decide) (by decide +kernel))⟩,
  List.forall_mem_cons.mpr ⟨⟨mo_al _ _, Or.inl (ok_aload_n (k := 0) rfl (by decide +kernel))⟩,
  List.forall_mem_cons.mpr ⟨⟨mo_il _ _, Or.inl (ok_iload_n (k := 2) rfl (by decide +kernel))⟩,
  List.forall_mem_cons.mpr ⟨⟨mo_il _ _, Or.inl (ok_iload_n (k := 3) rfl (by decide +kernel))⟩,
  List.forall_mem_cons.mpr ⟨⟨mo_ic _ _, Or.inl (ok_iconst (n := (-1)) (v := (-1)) (by decide) (by decide +kernel))⟩,
  List.forall_mem_cons.mpr ⟨⟨mo_inv _ _ _ _ _, Or.inr (Or.inl (ok_inv (T := TX11) (N := 93) rfl cw_X11_inForce (by decide) (by decide) ml_X11_376 ci_X11_inForce cv_X11_inForce (show Cond.initialized (yX11_inForce).cls ∈ am_ts from ci9_RX11) ⟨by decide +kernel, by decide +kernel, by decide +kernel⟩ rfl (by decide +kernel)))⟩,
  List.forall_mem_cons.mpr ⟨⟨mo_il _ _, Or.inl (ok_iload_n (k := 1) rfl (by decide +kernel))⟩,
  List.forall_mem_cons.mpr ⟨⟨mo_bin _ _, Or.inl (ok_ishr (by decide +kernel))⟩,
  List.forall_mem_cons.mpr ⟨⟨mo_ic _ _, Or.inl (ok_iconst (n := 1) (v := 1) (by decide) (by decide +kernel))⟩,
  List.forall_mem_cons.mpr ⟨⟨mo_bin _ _, Or.inl (ok_iand (by decide +kernel))⟩,
  List.forall_mem_cons.mpr ⟨⟨mo_ic _ _, Or.inl (ok_iconst (n := 1) (v := 1) (by decide) (by decide +kernel))⟩,
  List.forall_mem_cons.mpr ⟨⟨mo_if2 _ _ _, Or.inl (ok_icmp_ne (off := 7) (by decide) (by decide +kernel))⟩,
  List.forall_mem_cons.mpr ⟨⟨mo_ic _ _, Or.inl (ok_iconst (n := 1) (v := 1) (by decide) (by decide +kernel))⟩,
  List.forall_mem_cons.mpr ⟨⟨mo_go _, Or.inl (ok_goto (off := 4) (by decide) (by decide +kernel))⟩,
  List.forall_mem_cons.mpr ⟨⟨mo_ic _ _, Or.inl (ok_iconst (n := 0) (v := 0) (by decide) (by decide +kernel))⟩,
  List.forall_mem_cons.mpr ⟨⟨mo_retz, Or.inr (Or.inr (ok_retz rfl (by decide +kernel)))⟩,
  fun _ h => absurd h List.not_mem_nil⟩⟩⟩⟩⟩⟩⟩⟩⟩⟩⟩⟩⟩⟩⟩⟩⟩⟩
def t_X11_force : List (Nat × am_F) := t_X11_force_0 ++ (t_X11_force_1)
theorem o_X11_force : ∀ q ∈ t_X11_force, am_ok vwCl q_SH ξ (q_E ξ β xs L) q_EN q_KD q_ML (cX11_force, 4, RX11, "force", (some .boolean), []) q.1 q.2 := List.forall_mem_append.mpr ⟨o_X11_force_0, o_X11_force_1⟩
def t_X11_landOf_0 : List (Nat × am_F) := [(0, im_al 0 1), (1, im_ic 0 2), (2, im_pi q_SH 11 0 5), (5, im_al 0 6), (6, im_il 1 7), (7, im_if1 ib_lt 29 10), (10, im_il 1 11), (11, im_al 0 12), (12, im_gi q_SH 11 4 15), (15, im_if2 ic_ge 29 18), (18, im_il 2 19), (19, im_invs 109 1 22), (22, im_if1 ib_eq 29 25), (25, im_ic 1 26), (26, im_go 30), (29, im_ic 0 30), (30, im_ic 1 31), (31, im_inv q_SH 11 103 2 34), (34, im_if1 ib_eq 45 37), (37, im_al 0 38)]
set_option maxRecDepth 20000 in
theorem o_X11_landOf_0 : ∀ q ∈ t_X11_landOf_0, am_ok vwCl q_SH ξ (q_E ξ β xs L) q_EN q_KD q_ML (cX11_landOf, 4, RX11, "landOf", (some .int), []) q.1 q.2 :=
  List.forall_mem_cons.mpr ⟨⟨mo_al _ _, Or.inl (ok_aload_n (k := 0) rfl (by decide +kernel))⟩,
  List.forall_mem_cons.mpr ⟨⟨mo_ic _ _, Or.inl (ok_iconst (n := 0) (v := 0) (by decide) (by decide +kernel))⟩,
  List.forall_mem_cons.mpr ⟨⟨mo_pi _ _ _ _, Or.inl (ok_pi (ty := .int) (C := RX11) (T := TX11) (N := 93) (ci := 11) (k := 0) rfl inX11 (by decide) fl_X11_1 (by decide +kernel) tyX11 tyX11_ok nmX11 (by decide +kernel) (by decide +kernel) (by decide +kernel))⟩,
  List.forall_mem_cons.mpr ⟨⟨mo_al _ _, Or.inl (ok_aload_n (k := 0) rfl (by decide +kernel))⟩,
  List.forall_mem_cons.mpr ⟨⟨mo_il _ _, Or.inl (ok_iload_n (k := 1) rfl (by decide +kernel))⟩,
  List.forall_mem_cons.mpr ⟨⟨mo_if1 _ _ _, Or.inl (ok_if_lt (off := 22) (by decide) (by decide +kernel))⟩,
  List.forall_mem_cons.mpr ⟨⟨mo_il _ _, Or.inl (ok_iload_n (k := 1) rfl (by decide +kernel))⟩,
  List.forall_mem_cons.mpr ⟨⟨mo_al _ _, Or.inl (ok_aload_n (k := 0) rfl (by decide +kernel))⟩,
  List.forall_mem_cons.mpr ⟨⟨mo_gi _ _ _ _, Or.inl (ok_gi (C := RX11) (T := TX11) (N := 93) (ci := 11) (k := 4) rfl inX11 (by decide) fl_X11_13 (by decide +kernel) (by decide +kernel))⟩,
  List.forall_mem_cons.mpr ⟨⟨mo_if2 _ _ _, Or.inl (ok_icmp_ge (off := 14) (by decide) (by decide +kernel))⟩,
  List.forall_mem_cons.mpr ⟨⟨mo_il _ _, Or.inl (ok_iload_n (k := 2) rfl (by decide +kernel))⟩,
  List.forall_mem_cons.mpr ⟨⟨mo_invs _ _ _, Or.inr (Or.inl (ok_invs cw_X11_isDay (by decide) (by decide) ml_X11_47 cs_X11_isDay (show Cond.initialized (yX11_isDay).cls ∈ am_ts from ci9_RX11) ⟨by decide +kernel, by decide +kernel, by decide +kernel⟩ rfl (by decide +kernel)))⟩,
  List.forall_mem_cons.mpr ⟨⟨mo_if1 _ _ _, Or.inl (ok_if_eq (off := 7) (by decide) (by decide +kernel))⟩,
  List.forall_mem_cons.mpr ⟨⟨mo_ic _ _, Or.inl (ok_iconst (n := 1) (v := 1) (by decide) (by decide +kernel))⟩,
  List.forall_mem_cons.mpr ⟨⟨mo_go _, Or.inl (ok_goto (off := 4) (by decide) (by decide +kernel))⟩,
  List.forall_mem_cons.mpr ⟨⟨mo_ic _ _, Or.inl (ok_iconst (n := 0) (v := 0) (by decide) (by decide +kernel))⟩,
  List.forall_mem_cons.mpr ⟨⟨mo_ic _ _, Or.inl (ok_iconst (n := 1) (v := 1) (by decide) (by decide +kernel))⟩,
  List.forall_mem_cons.mpr ⟨⟨mo_inv _ _ _ _ _, Or.inr (Or.inl (ok_inv (T := TX11) (N := 93) rfl cw_X11_right (by decide) (by decide) ml_X11_32 ci_X11_right cv_X11_right (show Cond.initialized (yX11_right).cls ∈ am_ts from ci9_RX11) ⟨by decide +kernel, by decide +kernel, by decide +kernel⟩ rfl (by decide +kernel)))⟩,
  List.forall_mem_cons.mpr ⟨⟨mo_if1 _ _ _, Or.inl (ok_if_eq (off := 11) (by decide) (by decide +kernel))⟩,
  List.forall_mem_cons.mpr ⟨⟨mo_al _ _, Or.inl (ok_aload_n (k := 0) rfl (by decide +kernel))⟩,
  fun _ h => absurd h List.not_mem_nil⟩⟩⟩⟩⟩⟩⟩⟩⟩⟩⟩⟩⟩⟩⟩⟩⟩⟩⟩⟩
def t_X11_landOf_1 : List (Nat × am_F) := [(38, im_il 3 39), (39, im_inv q_SH 11 167 1 42), (42, im_if1 ib_ne 47 45), (45, im_ic 0 46), (46, im_reti), (47, im_al 0 48), (48, im_il 3 49), (49, im_inv q_SH 11 143 1 52), (52, im_al 0 53), (53, im_ic 0 54), (54, im_il 2 55), (55, im_il 3 56), (56, im_ic (-1) 57), (57, im_inv q_SH 11 147 4 60), (60, im_al 0 61), (61, im_gr q_SH 11 61 64), (64, im_il 1 65), (65, im_ald q_SH .int 66), (66, im_reti)]
set_option maxRecDepth 20000 in
theorem o_X11_landOf_1 : ∀ q ∈ t_X11_landOf_1, am_ok vwCl q_SH ξ (q_E ξ β xs L) q_EN q_KD q_ML (cX11_landOf, 4, RX11, "landOf", (some .int), []) q.1 q.2 :=
  List.forall_mem_cons.mpr ⟨⟨mo_il _ _, Or.inl (ok_iload_n (k := 3) rfl (by decide +kernel))⟩,
  List.forall_mem_cons.mpr ⟨⟨mo_inv _ _ _ _ _, Or.inr (Or.inl (ok_inv (T := TX11) (N := 93) rfl cw_X11_isEvening (by decide) (by decide) ml_X11_471 ci_X11_isEvening cv_X11_isEvening (show Cond.initialized (yX11_isEvening).cls ∈ am_ts from ci9_RX11) ⟨by decide +kernel, by decide +kernel, by decide +kernel⟩ rfl (by decide +kernel)))⟩,
  List.forall_mem_cons.mpr ⟨⟨mo_if1 _ _ _, Or.inl (ok_if_ne (off := 5) (by decide) (by decide +kernel))⟩,
  List.forall_mem_cons.mpr ⟨⟨mo_ic _ _, Or.inl (ok_iconst (n := 0) (v := 0) (by decide) (by decide +kernel))⟩,
  List.forall_mem_cons.mpr ⟨⟨mo_reti, Or.inr (Or.inr (ok_reti rfl (by decide +kernel)))⟩,
  List.forall_mem_cons.mpr ⟨⟨mo_al _ _, Or.inl (ok_aload_n (k := 0) rfl (by decide +kernel))⟩,
  List.forall_mem_cons.mpr ⟨⟨mo_il _ _, Or.inl (ok_iload_n (k := 3) rfl (by decide +kernel))⟩,
  List.forall_mem_cons.mpr ⟨⟨mo_inv _ _ _ _ _, Or.inr (Or.inl (ok_inv (T := TX11) (N := 93) rfl cw_X11_findsDoubts (by decide) (by decide) ml_X11_456 ci_X11_findsDoubts cv_X11_findsDoubts (show Cond.initialized (yX11_findsDoubts).cls ∈ am_ts from ci9_RX11) ⟨by decide +kernel, by decide +kernel, by decide +kernel⟩ rfl (by decide +kernel)))⟩,
  List.forall_mem_cons.mpr ⟨⟨mo_al _ _, Or.inl (ok_aload_n (k := 0) rfl (by decide +kernel))⟩,
  List.forall_mem_cons.mpr ⟨⟨mo_ic _ _, Or.inl (ok_iconst (n := 0) (v := 0) (by decide) (by decide +kernel))⟩,
  List.forall_mem_cons.mpr ⟨⟨mo_il _ _, Or.inl (ok_iload_n (k := 2) rfl (by decide +kernel))⟩,
  List.forall_mem_cons.mpr ⟨⟨mo_il _ _, Or.inl (ok_iload_n (k := 3) rfl (by decide +kernel))⟩,
  List.forall_mem_cons.mpr ⟨⟨mo_ic _ _, Or.inl (ok_iconst (n := (-1)) (v := (-1)) (by decide) (by decide +kernel))⟩,
  List.forall_mem_cons.mpr ⟨⟨mo_inv _ _ _ _ _, Or.inr (Or.inl (ok_inv (T := TX11) (N := 93) rfl cw_X11_runs (by decide) (by decide) ml_X11_468 ci_X11_runs cv_X11_runs (show Cond.initialized (yX11_runs).cls ∈ am_ts from ci9_RX11) ⟨by decide +kernel, by decide +kernel, by decide +kernel⟩ rfl (by decide +kernel)))⟩,
  List.forall_mem_cons.mpr ⟨⟨mo_al _ _, Or.inl (ok_aload_n (k := 0) rfl (by decide +kernel))⟩,
  List.forall_mem_cons.mpr ⟨⟨mo_gr _ _ _ _, Or.inl (ok_gr (C := RX11) (T := TX11) (N := 93) (ci := 11) (k := 61) rfl inX11 (by decide) fl_X11_208 (by decide +kernel) (by decide +kernel))⟩,
  List.forall_mem_cons.mpr ⟨⟨mo_il _ _, Or.inl (ok_iload_n (k := 1) rfl (by decide +kernel))⟩,
  List.forall_mem_cons.mpr ⟨⟨mo_ald _ _ _, Or.inl (ok_iald (by decide +kernel))⟩,
  List.forall_mem_cons.mpr ⟨⟨mo_reti, Or.inr (Or.inr (ok_reti rfl (by decide +kernel)))⟩,
  fun _ h => absurd h List.not_mem_nil⟩⟩⟩⟩⟩⟩⟩⟩⟩⟩⟩⟩⟩⟩⟩⟩⟩⟩⟩
def t_X11_landOf : List (Nat × am_F) := t_X11_landOf_0 ++ (t_X11_landOf_1)
theorem o_X11_landOf : ∀ q ∈ t_X11_landOf, am_ok vwCl q_SH ξ (q_E ξ β xs L) q_EN q_KD q_ML (cX11_landOf, 4, RX11, "landOf", (some .int), []) q.1 q.2 := List.forall_mem_append.mpr ⟨o_X11_landOf_0, o_X11_landOf_1⟩
def t_X11_ways_0 : List (Nat × am_F) := [(0, im_al 0 1), (1, im_ic 0 2), (2, im_pi q_SH 11 0 5), (5, im_al 0 6), (6, im_il 1 7), (7, im_if1 ib_lt 19 10), (10, im_il 1 11), (11, im_ic 4 12), (12, im_if2 ic_gt 19 15), (15, im_ic 1 16), (16, im_go 20), (19, im_ic 0 20), (20, im_ic 1 21), (21, im_inv q_SH 11 103 2 24), (24, im_if1 ib_eq 35 27), (27, im_al 0 28), (28, im_il 2 29), (29, im_inv q_SH 11 167 1 32), (32, im_if1 ib_ne 37 35), (35, im_ic 0 36)]
set_option maxRecDepth 20000 in
theorem o_X11_ways_0 : ∀ q ∈ t_X11_ways_0, am_ok vwCl q_SH ξ (q_E ξ β xs L) q_EN q_KD q_ML (cX11_ways, 3, RX11, "ways", (some .int), []) q.1 q.2 :=
  List.forall_mem_cons.mpr ⟨⟨mo_al _ _, Or.inl (ok_aload_n (k := 0) rfl (by decide +kernel))⟩,
  List.forall_mem_cons.mpr ⟨⟨mo_ic _ _, Or.inl (ok_iconst (n := 0) (v := 0) (by decide) (by decide +kernel))⟩,
  List.forall_mem_cons.mpr ⟨⟨mo_pi _ _ _ _, Or.inl (ok_pi (ty := .int) (C := RX11) (T := TX11) (N := 93) (ci := 11) (k := 0) rfl inX11 (by decide) fl_X11_1 (by decide +kernel) tyX11 tyX11_ok nmX11 (by decide +kernel) (by decide +kernel) (by decide +kernel))⟩,
  List.forall_mem_cons.mpr ⟨⟨mo_al _ _, Or.inl (ok_aload_n (k := 0) rfl (by decide +kernel))⟩,
  List.forall_mem_cons.mpr ⟨⟨mo_il _ _, Or.inl (ok_iload_n (k := 1) rfl (by decide +kernel))⟩,
  List.forall_mem_cons.mpr ⟨⟨mo_if1 _ _ _, Or.inl (ok_if_lt (off := 12) (by decide) (by decide +kernel))⟩,
  List.forall_mem_cons.mpr ⟨⟨mo_il _ _, Or.inl (ok_iload_n (k := 1) rfl (by decide +kernel))⟩,
  List.forall_mem_cons.mpr ⟨⟨mo_ic _ _, Or.inl (ok_iconst (n := 4) (v := 4) (by decide) (by decide +kernel))⟩,
  List.forall_mem_cons.mpr ⟨⟨mo_if2 _ _ _, Or.inl (ok_icmp_gt (off := 7) (by decide) (by decide +kernel))⟩,
  List.forall_mem_cons.mpr ⟨⟨mo_ic _ _, Or.inl (ok_iconst (n := 1) (v := 1) (by decide) (by decide +kernel))⟩,
  List.forall_mem_cons.mpr ⟨⟨mo_go _, Or.inl (ok_goto (off := 4) (by decide) (by decide +kernel))⟩,
  List.forall_mem_cons.mpr ⟨⟨mo_ic _ _, Or.inl (ok_iconst (n := 0) (v := 0) (by decide) (by decide +kernel))⟩,
  List.forall_mem_cons.mpr ⟨⟨mo_ic _ _, Or.inl (ok_iconst (n := 1) (v := 1) (by decide) (by decide +kernel))⟩,
  List.forall_mem_cons.mpr ⟨⟨mo_inv _ _ _ _ _, Or.inr (Or.inl (ok_inv (T := TX11) (N := 93) rfl cw_X11_right (by decide) (by decide) ml_X11_32 ci_X11_right cv_X11_right (show Cond.initialized (yX11_right).cls ∈ am_ts from ci9_RX11) ⟨by decide +kernel, by decide +kernel, by decide +kernel⟩ rfl (by decide +kernel)))⟩,
  List.forall_mem_cons.mpr ⟨⟨mo_if1 _ _ _, Or.inl (ok_if_eq (off := 11) (by decide) (by decide +kernel))⟩,
  List.forall_mem_cons.mpr ⟨⟨mo_al _ _, Or.inl (ok_aload_n (k := 0) rfl (by decide +kernel))⟩,
  List.forall_mem_cons.mpr ⟨⟨mo_il _ _, Or.inl (ok_iload_n (k := 2) rfl (by decide +kernel))⟩,
  List.forall_mem_cons.mpr ⟨⟨mo_inv _ _ _ _ _, Or.inr (Or.inl (ok_inv (T := TX11) (N := 93) rfl cw_X11_isEvening (by decide) (by decide) ml_X11_471 ci_X11_isEvening cv_X11_isEvening (show Cond.initialized (yX11_isEvening).cls ∈ am_ts from ci9_RX11) ⟨by decide +kernel, by decide +kernel, by decide +kernel⟩ rfl (by decide +kernel)))⟩,
  List.forall_mem_cons.mpr ⟨⟨mo_if1 _ _ _, Or.inl (ok_if_ne (off := 5) (by decide) (by decide +kernel))⟩,
  List.forall_mem_cons.mpr ⟨⟨mo_ic _ _, Or.inl (ok_iconst (n := 0) (v := 0) (by decide) (by decide +kernel))⟩,
  fun _ h => absurd h List.not_mem_nil⟩⟩⟩⟩⟩⟩⟩⟩⟩⟩⟩⟩⟩⟩⟩⟩⟩⟩⟩⟩
def t_X11_ways_1 : List (Nat × am_F) := [(36, im_reti), (37, im_al 0 38), (38, im_il 2 39), (39, im_inv q_SH 11 143 1 42), (42, im_il 1 43), (43, im_if1 ib_ne 53 46), (46, im_al 0 47), (47, im_gi q_SH 11 52 50), (50, im_go 87), (53, im_il 1 54), (54, im_ic 1 55), (55, im_if2 ic_ne 65 58), (58, im_al 0 59), (59, im_gi q_SH 11 51 62), (62, im_go 87), (65, im_il 1 66), (66, im_ic 2 67), (67, im_bin (fun x y => x - y) 68), (68, im_al 0 69), (69, im_gi q_SH 11 51 72)]
set_option maxRecDepth 20000 in
theorem o_X11_ways_1 : ∀ q ∈ t_X11_ways_1, am_ok vwCl q_SH ξ (q_E ξ β xs L) q_EN q_KD q_ML (cX11_ways, 3, RX11, "ways", (some .int), []) q.1 q.2 :=
  List.forall_mem_cons.mpr ⟨⟨mo_reti, Or.inr (Or.inr (ok_reti rfl (by decide +kernel)))⟩,
  List.forall_mem_cons.mpr ⟨⟨mo_al _ _, Or.inl (ok_aload_n (k := 0) rfl (by decide +kernel))⟩,
  List.forall_mem_cons.mpr ⟨⟨mo_il _ _, Or.inl (ok_iload_n (k := 2) rfl (by decide +kernel))⟩,
  List.forall_mem_cons.mpr ⟨⟨mo_inv _ _ _ _ _, Or.inr (Or.inl (ok_inv (T := TX11) (N := 93) rfl cw_X11_findsDoubts (by decide) (by decide) ml_X11_456 ci_X11_findsDoubts cv_X11_findsDoubts (show Cond.initialized (yX11_findsDoubts).cls ∈ am_ts from ci9_RX11) ⟨by decide +kernel, by decide +kernel, by decide +kernel⟩ rfl (by decide +kernel)))⟩,
  List.forall_mem_cons.mpr ⟨⟨mo_il _ _, Or.inl (ok_iload_n (k := 1) rfl (by decide +kernel))⟩,
  List.forall_mem_cons.mpr ⟨⟨mo_if1 _ _ _, Or.inl (ok_if_ne (off := 10) (by decide) (by decide +kernel))⟩,
  List.forall_mem_cons.mpr ⟨⟨mo_al _ _, Or.inl (ok_aload_n (k := 0) rfl (by decide +kernel))⟩,
  List.forall_mem_cons.mpr ⟨⟨mo_gi _ _ _ _, Or.inl (ok_gi (C := RX11) (T := TX11) (N := 93) (ci := 11) (k := 52) rfl inX11 (by decide) fl_X11_349 (by decide +kernel) (by decide +kernel))⟩,
  List.forall_mem_cons.mpr ⟨⟨mo_go _, Or.inl (ok_goto (off := 37) (by decide) (by decide +kernel))⟩,
  List.forall_mem_cons.mpr ⟨⟨mo_il _ _, Or.inl (ok_iload_n (k := 1) rfl (by decide +kernel))⟩,
  List.forall_mem_cons.mpr ⟨⟨mo_ic _ _, Or.inl (ok_iconst (n := 1) (v := 1) (by decide) (by decide +kernel))⟩,
  List.forall_mem_cons.mpr ⟨⟨mo_if2 _ _ _, Or.inl (ok_icmp_ne (off := 10) (by decide) (by decide +kernel))⟩,
  List.forall_mem_cons.mpr ⟨⟨mo_al _ _, Or.inl (ok_aload_n (k := 0) rfl (by decide +kernel))⟩,
  List.forall_mem_cons.mpr ⟨⟨mo_gi _ _ _ _, Or.inl (ok_gi (C := RX11) (T := TX11) (N := 93) (ci := 11) (k := 51) rfl inX11 (by decide) fl_X11_346 (by decide +kernel) (by decide +kernel))⟩,
  List.forall_mem_cons.mpr ⟨⟨mo_go _, Or.inl (ok_goto (off := 25) (by decide) (by decide +kernel))⟩,
  List.forall_mem_cons.mpr ⟨⟨mo_il _ _, Or.inl (ok_iload_n (k := 1) rfl (by decide +kernel))⟩,
  List.forall_mem_cons.mpr ⟨⟨mo_ic _ _, Or.inl (ok_iconst (n := 2) (v := 2) (by decide) (by decide +kernel))⟩,
  List.forall_mem_cons.mpr ⟨⟨mo_bin _ _, Or.inl (ok_isub (by decide +kernel))⟩,
  List.forall_mem_cons.mpr ⟨⟨mo_al _ _, Or.inl (ok_aload_n (k := 0) rfl (by decide +kernel))⟩,
  List.forall_mem_cons.mpr ⟨⟨mo_gi _ _ _ _, Or.inl (ok_gi (C := RX11) (T := TX11) (N := 93) (ci := 11) (k := 51) rfl inX11 (by decide) fl_X11_346 (by decide +kernel) (by decide +kernel))⟩,
  fun _ h => absurd h List.not_mem_nil⟩⟩⟩⟩⟩⟩⟩⟩⟩⟩⟩⟩⟩⟩⟩⟩⟩⟩⟩⟩
def t_X11_ways_2 : List (Nat × am_F) := [(72, im_if2 ic_ge 86 75), (75, im_al 0 76), (76, im_gr q_SH 11 53 79), (79, im_il 1 80), (80, im_ic 2 81), (81, im_bin (fun x y => x - y) 82), (82, im_ald q_SH .int 83), (83, im_go 87), (86, im_ic (-1) 87), (87, im_reti)]
set_option maxRecDepth 20000 in
theorem o_X11_ways_2 : ∀ q ∈ t_X11_ways_2, am_ok vwCl q_SH ξ (q_E ξ β xs L) q_EN q_KD q_ML (cX11_ways, 3, RX11, "ways", (some .int), []) q.1 q.2 :=
  List.forall_mem_cons.mpr ⟨⟨mo_if2 _ _ _, Or.inl (ok_icmp_ge (off := 14) (by decide) (by decide +kernel))⟩,
  List.forall_mem_cons.mpr ⟨⟨mo_al _ _, Or.inl (ok_aload_n (k := 0) rfl (by decide +kernel))⟩,
  List.forall_mem_cons.mpr ⟨⟨mo_gr _ _ _ _, Or.inl (ok_gr (C := RX11) (T := TX11) (N := 93) (ci := 11) (k := 53) rfl inX11 (by decide) fl_X11_184 (by decide +kernel) (by decide +kernel))⟩,
  List.forall_mem_cons.mpr ⟨⟨mo_il _ _, Or.inl (ok_iload_n (k := 1) rfl (by decide +kernel))⟩,
  List.forall_mem_cons.mpr ⟨⟨mo_ic _ _, Or.inl (ok_iconst (n := 2) (v := 2) (by decide) (by decide +kernel))⟩,
  List.forall_mem_cons.mpr ⟨⟨mo_bin _ _, Or.inl (ok_isub (by decide +kernel))⟩,
  List.forall_mem_cons.mpr ⟨⟨mo_ald _ _ _, Or.inl (ok_iald (by decide +kernel))⟩,
  List.forall_mem_cons.mpr ⟨⟨mo_go _, Or.inl (ok_goto (off := 4) (by decide) (by decide +kernel))⟩,
  List.forall_mem_cons.mpr ⟨⟨mo_ic _ _, Or.inl (ok_iconst (n := (-1)) (v := (-1)) (by decide) (by decide +kernel))⟩,
  List.forall_mem_cons.mpr ⟨⟨mo_reti, Or.inr (Or.inr (ok_reti rfl (by decide +kernel)))⟩,
  fun _ h => absurd h List.not_mem_nil⟩⟩⟩⟩⟩⟩⟩⟩⟩⟩
def t_X11_ways : List (Nat × am_F) := t_X11_ways_0 ++ (t_X11_ways_1 ++ (t_X11_ways_2))
theorem o_X11_ways : ∀ q ∈ t_X11_ways, am_ok vwCl q_SH ξ (q_E ξ β xs L) q_EN q_KD q_ML (cX11_ways, 3, RX11, "ways", (some .int), []) q.1 q.2 := List.forall_mem_append.mpr ⟨o_X11_ways_0, List.forall_mem_append.mpr ⟨o_X11_ways_1, o_X11_ways_2⟩⟩
def t_X11_isBond_0 : List (Nat × am_F) := [(0, im_al 0 1), (1, im_ic 0 2), (2, im_pi q_SH 11 0 5), (5, im_al 0 6), (6, im_il 1 7), (7, im_inv q_SH 11 107 1 10), (10, im_if1 ib_eq 46 13), (13, im_al 0 14), (14, im_il 2 15), (15, im_inv q_SH 11 108 1 18), (18, im_if1 ib_eq 46 21), (21, im_al 0 22), (22, im_il 3 23), (23, im_invs 109 1 26), (26, im_ic 1 27), (27, im_inv q_SH 11 103 2 30), (30, im_if1 ib_eq 46 33), (33, im_al 0 34), (34, im_il 4 36), (36, im_inv q_SH 11 167 1 39)]
set_option maxRecDepth 20000 in
theorem o_X11_isBond_0 : ∀ q ∈ t_X11_isBond_0, am_ok vwCl q_SH ξ (q_E ξ β xs L) q_EN q_KD q_ML (cX11_isBond, 5, RX11, "isBond", (some .boolean), []) q.1 q.2 :=
  List.forall_mem_cons.mpr ⟨⟨mo_al _ _, Or.inl (ok_aload_n (k := 0) rfl (by decide +kernel))⟩,
  List.forall_mem_cons.mpr ⟨⟨mo_ic _ _, Or.inl (ok_iconst (n := 0) (v := 0) (by decide) (by decide +kernel))⟩,
  List.forall_mem_cons.mpr ⟨⟨mo_pi _ _ _ _, Or.inl (ok_pi (ty := .int) (C := RX11) (T := TX11) (N := 93) (ci := 11) (k := 0) rfl inX11 (by decide) fl_X11_1 (by decide +kernel) tyX11 tyX11_ok nmX11 (by decide +kernel) (by decide +kernel) (by decide +kernel))⟩,
  List.forall_mem_cons.mpr ⟨⟨mo_al _ _, Or.inl (ok_aload_n (k := 0) rfl (by decide +kernel))⟩,
  List.forall_mem_cons.mpr ⟨⟨mo_il _ _, Or.inl (ok_iload_n (k := 1) rfl (by decide +kernel))⟩,
  List.forall_mem_cons.mpr ⟨⟨mo_inv _ _ _ _ _, Or.inr (Or.inl (ok_inv (T := TX11) (N := 93) rfl cw_X11_isPerson (by decide) (by decide) ml_X11_37 ci_X11_isPerson cv_X11_isPerson (show Cond.initialized (yX11_isPerson).cls ∈ am_ts from ci9_RX11) ⟨by decide +kernel, by decide +kernel, by decide +kernel⟩ rfl (by decide +kernel)))⟩,
  List.forall_mem_cons.mpr ⟨⟨mo_if1 _ _ _, Or.inl (ok_if_eq (off := 36) (by decide) (by decide +kernel))⟩,
  List.forall_mem_cons.mpr ⟨⟨mo_al _ _, Or.inl (ok_aload_n (k := 0) rfl (by decide +kernel))⟩,
  List.forall_mem_cons.mpr ⟨⟨mo_il _ _, Or.inl (ok_iload_n (k := 2) rfl (by decide +kernel))⟩,
  List.forall_mem_cons.mpr ⟨⟨mo_inv _ _ _ _ _, Or.inr (Or.inl (ok_inv (T := TX11) (N := 93) rfl cw_X11_isLand (by decide) (by decide) ml_X11_41 ci_X11_isLand cv_X11_isLand (show Cond.initialized (yX11_isLand).cls ∈ am_ts from ci9_RX11) ⟨by decide +kernel, by decide +kernel, by decide +kernel⟩ rfl (by decide +kernel)))⟩,
  List.forall_mem_cons.mpr ⟨⟨mo_if1 _ _ _, Or.inl (ok_if_eq (off := 28) (by decide) (by decide +kernel))⟩,
  List.forall_mem_cons.mpr ⟨⟨mo_al _ _, Or.inl (ok_aload_n (k := 0) rfl (by decide +kernel))⟩,
  List.forall_mem_cons.mpr ⟨⟨mo_il _ _, Or.inl (ok_iload_n (k := 3) rfl (by decide +kernel))⟩,
  List.forall_mem_cons.mpr ⟨⟨mo_invs _ _ _, Or.inr (Or.inl (ok_invs cw_X11_isDay (by decide) (by decide) ml_X11_47 cs_X11_isDay (show Cond.initialized (yX11_isDay).cls ∈ am_ts from ci9_RX11) ⟨by decide +kernel, by decide +kernel, by decide +kernel⟩ rfl (by decide +kernel)))⟩,
  List.forall_mem_cons.mpr ⟨⟨mo_ic _ _, Or.inl (ok_iconst (n := 1) (v := 1) (by decide) (by decide +kernel))⟩,
  List.forall_mem_cons.mpr ⟨⟨mo_inv _ _ _ _ _, Or.inr (Or.inl (ok_inv (T := TX11) (N := 93) rfl cw_X11_right (by decide) (by decide) ml_X11_32 ci_X11_right cv_X11_right (show Cond.initialized (yX11_right).cls ∈ am_ts from ci9_RX11) ⟨by decide +kernel, by decide +kernel, by decide +kernel⟩ rfl (by decide +kernel)))⟩,
  List.forall_mem_cons.mpr ⟨⟨mo_if1 _ _ _, Or.inl (ok_if_eq (off := 16) (by decide) (by decide +kernel))⟩,
  List.forall_mem_cons.mpr ⟨⟨mo_al _ _, Or.inl (ok_aload_n (k := 0) rfl (by decide +kernel))⟩,
  List.forall_mem_cons.mpr ⟨⟨mo_il _ _, Or.inl (ok_iload (by decide +kernel))⟩,
  List.forall_mem_cons.mpr ⟨⟨mo_inv _ _ _ _ _, Or.inr (Or.inl (ok_inv (T := TX11) (N := 93) rfl cw_X11_isEvening (by decide) (by decide) ml_X11_471 ci_X11_isEvening cv_X11_isEvening (show Cond.initialized (yX11_isEvening).cls ∈ am_ts from ci9_RX11) ⟨by decide +kernel, by decide +kernel, by decide +kernel⟩ rfl (by decide +kernel)))⟩,
  fun _ h => absurd h List.not_mem_nil⟩⟩⟩⟩⟩⟩⟩⟩⟩⟩⟩⟩⟩⟩⟩⟩⟩⟩⟩⟩
def t_X11_isBond_1 : List (Nat × am_F) := [(39, im_if1 ib_eq 46 42), (42, im_ic 1 43), (43, im_go 47), (46, im_ic 0 47), (47, im_retz)]
set_option maxRecDepth 20000 in
theorem o_X11_isBond_1 : ∀ q ∈ t_X11_isBond_1, am_ok vwCl q_SH ξ (q_E ξ β xs L) q_EN q_KD q_ML (cX11_isBond, 5, RX11, "isBond", (some .boolean), []) q.1 q.2 :=
  List.forall_mem_cons.mpr ⟨⟨mo_if1 _ _ _, Or.inl (ok_if_eq (off := 7) (by decide) (by decide +kernel))⟩,
  List.forall_mem_cons.mpr ⟨⟨mo_ic _ _, Or.inl (ok_iconst (n := 1) (v := 1) (by decide) (by decide +kernel))⟩,
  List.forall_mem_cons.mpr ⟨⟨mo_go _, Or.inl (ok_goto (off := 4) (by decide) (by decide +kernel))⟩,
  List.forall_mem_cons.mpr ⟨⟨mo_ic _ _, Or.inl (ok_iconst (n := 0) (v := 0) (by decide) (by decide +kernel))⟩,
  List.forall_mem_cons.mpr ⟨⟨mo_retz, Or.inr (Or.inr (ok_retz rfl (by decide +kernel)))⟩,
  fun _ h => absurd h List.not_mem_nil⟩⟩⟩⟩⟩
def t_X11_isBond : List (Nat × am_F) := t_X11_isBond_0 ++ (t_X11_isBond_1)
theorem o_X11_isBond : ∀ q ∈ t_X11_isBond, am_ok vwCl q_SH ξ (q_E ξ β xs L) q_EN q_KD q_ML (cX11_isBond, 5, RX11, "isBond", (some .boolean), []) q.1 q.2 := List.forall_mem_append.mpr ⟨o_X11_isBond_0, o_X11_isBond_1⟩
def t_X11_says0_0 : List (Nat × am_F) := [(0, im_ic 0 1), (1, im_is 3 2), (2, im_ic 0 3), (3, im_is 4 5), (5, im_il 4 7), (7, im_al 0 8), (8, im_gi q_SH 11 52 11), (11, im_if2 ic_ge 39 14), (14, im_il 3 15), (15, im_al 0 16), (16, im_gr q_SH 11 91 19), (19, im_ic 20 21), (21, im_il 4 23), (23, im_bin (fun x y => x * y) 24), (24, im_il 1 25), (25, im_bin (fun x y => x + y) 26), (26, im_ald q_SH .int 27), (27, im_il 2 28), (28, im_bin (fun x y => x >>> (y &&& 31)) 29), (29, im_ic 1 30)]
set_option maxRecDepth 20000 in
theorem o_X11_says0_0 : ∀ q ∈ t_X11_says0_0, am_ok vwCl q_SH ξ (q_E ξ β xs L) q_EN q_KD q_ML (cX11_says0, 5, RX11, "says0", (some .int), []) q.1 q.2 :=
  List.forall_mem_cons.mpr ⟨⟨mo_ic _ _, Or.inl (ok_iconst (n := 0) (v := 0) (by decide) (by decide +kernel))⟩,
  List.forall_mem_cons.mpr ⟨⟨mo_is _ _, Or.inl (ok_istore_n (k := 3) rfl (by decide) (by decide +kernel))⟩,
  List.forall_mem_cons.mpr ⟨⟨mo_ic _ _, Or.inl (ok_iconst (n := 0) (v := 0) (by decide) (by decide +kernel))⟩,
  List.forall_mem_cons.mpr ⟨⟨mo_is _ _, Or.inl (ok_istore (by decide) (by decide +kernel))⟩,
  List.forall_mem_cons.mpr ⟨⟨mo_il _ _, Or.inl (ok_iload (by decide +kernel))⟩,
  List.forall_mem_cons.mpr ⟨⟨mo_al _ _, Or.inl (ok_aload_n (k := 0) rfl (by decide +kernel))⟩,
  List.forall_mem_cons.mpr ⟨⟨mo_gi _ _ _ _, Or.inl (ok_gi (C := RX11) (T := TX11) (N := 93) (ci := 11) (k := 52) rfl inX11 (by decide) fl_X11_349 (by decide +kernel) (by decide +kernel))⟩,
  List.forall_mem_cons.mpr ⟨⟨mo_if2 _ _ _, Or.inl (ok_icmp_ge (off := 28) (by decide) (by decide +kernel))⟩,
  List.forall_mem_cons.mpr ⟨⟨mo_il _ _, Or.inl (ok_iload_n (k := 3) rfl (by decide +kernel))⟩,
  List.forall_mem_cons.mpr ⟨⟨mo_al _ _, Or.inl (ok_aload_n (k := 0) rfl (by decide +kernel))⟩,
  List.forall_mem_cons.mpr ⟨⟨mo_gr _ _ _ _, Or.inl (ok_gr (C := RX11) (T := TX11) (N := 93) (ci := 11) (k := 91) rfl inX11 (by decide) fl_X11_262 (by decide +kernel) (by decide +kernel))⟩,
  List.forall_mem_cons.mpr ⟨⟨mo_ic _ _, Or.inl (ok_bipush (n := 20) (v := 20) (by decide) (by decide +kernel))⟩,
  List.forall_mem_cons.mpr ⟨⟨mo_il _ _, Or.inl (ok_iload (by decide +kernel))⟩,
  List.forall_mem_cons.mpr ⟨⟨mo_bin _ _, Or.inl (ok_imul (by decide +kernel))⟩,
  List.forall_mem_cons.mpr ⟨⟨mo_il _ _, Or.inl (ok_iload_n (k := 1) rfl (by decide +kernel))⟩,
  List.forall_mem_cons.mpr ⟨⟨mo_bin _ _, Or.inl (ok_iadd (by decide +kernel))⟩,
  List.forall_mem_cons.mpr ⟨⟨mo_ald _ _ _, Or.inl (ok_iald (by decide +kernel))⟩,
  List.forall_mem_cons.mpr ⟨⟨mo_il _ _, Or.inl (ok_iload_n (k := 2) rfl (by decide +kernel))⟩,
  List.forall_mem_cons.mpr ⟨⟨mo_bin _ _, Or.inl (ok_ishr (by decide +kernel))⟩,
  List.forall_mem_cons.mpr ⟨⟨mo_ic _ _, Or.inl (ok_iconst (n := 1) (v := 1) (by decide) (by decide +kernel))⟩,
  fun _ h => absurd h List.not_mem_nil⟩⟩⟩⟩⟩⟩⟩⟩⟩⟩⟩⟩⟩⟩⟩⟩⟩⟩⟩⟩
def t_X11_says0_1 : List (Nat × am_F) := [(30, im_bin (fun x y => x &&& y) 31), (31, im_bin (fun x y => x + y) 32), (32, im_is 3 33), (33, im_iinc 4 1 36), (36, im_go 5), (39, im_il 3 40), (40, im_reti)]
set_option maxRecDepth 20000 in
theorem o_X11_says0_1 : ∀ q ∈ t_X11_says0_1, am_ok vwCl q_SH ξ (q_E ξ β xs L) q_EN q_KD q_ML (cX11_says0, 5, RX11, "says0", (some .int), []) q.1 q.2 :=
  List.forall_mem_cons.mpr ⟨⟨mo_bin _ _, Or.inl (ok_iand (by decide +kernel))⟩,
  List.forall_mem_cons.mpr ⟨⟨mo_bin _ _, Or.inl (ok_iadd (by decide +kernel))⟩,
  List.forall_mem_cons.mpr ⟨⟨mo_is _ _, Or.inl (ok_istore_n (k := 3) rfl (by decide) (by decide +kernel))⟩,
  List.forall_mem_cons.mpr ⟨⟨mo_iinc _ _ _, Or.inl (ok_iinc (n := 1) (v := 1) (by decide) (by decide) (by decide +kernel))⟩,
  List.forall_mem_cons.mpr ⟨⟨mo_go _, Or.inl (ok_goto (off := (-31)) (by decide) (by decide +kernel))⟩,
  List.forall_mem_cons.mpr ⟨⟨mo_il _ _, Or.inl (ok_iload_n (k := 3) rfl (by decide +kernel))⟩,
  List.forall_mem_cons.mpr ⟨⟨mo_reti, Or.inr (Or.inr (ok_reti rfl (by decide +kernel)))⟩,
  fun _ h => absurd h List.not_mem_nil⟩⟩⟩⟩⟩⟩⟩
def t_X11_says0 : List (Nat × am_F) := t_X11_says0_0 ++ (t_X11_says0_1)
theorem o_X11_says0 : ∀ q ∈ t_X11_says0, am_ok vwCl q_SH ξ (q_E ξ β xs L) q_EN q_KD q_ML (cX11_says0, 5, RX11, "says0", (some .int), []) q.1 q.2 := List.forall_mem_append.mpr ⟨o_X11_says0_0, o_X11_says0_1⟩
def t_X11_belongs_0 : List (Nat × am_F) := [(0, im_al 0 1), (1, im_il 1 2), (2, im_il 2 3), (3, im_il 3 4), (4, im_il 4 6), (6, im_inv q_SH 11 171 4 9), (9, im_if1 ib_ne 14 12), (12, im_ic 0 13), (13, im_reti), (14, im_al 0 15), (15, im_il 3 16), (16, im_il 4 18), (18, im_inv q_SH 11 166 2 21), (21, im_al 0 22), (22, im_il 1 23), (23, im_il 2 24), (24, im_inv q_SH 11 172 2 27), (27, im_is 5 29), (29, im_il 5 31), (31, im_if1 ib_ne 38 34)]
set_option maxRecDepth 20000 in
theorem o_X11_belongs_0 : ∀ q ∈ t_X11_belongs_0, am_ok vwCl q_SH ξ (q_E ξ β xs L) q_EN q_KD q_ML (cX11_belongs, 6, RX11, "belongs", (some .int), []) q.1 q.2 :=
  List.forall_mem_cons.mpr ⟨⟨mo_al _ _, Or.inl (ok_aload_n (k := 0) rfl (by decide +kernel))⟩,
  List.forall_mem_cons.mpr ⟨⟨mo_il _ _, Or.inl (ok_iload_n (k := 1) rfl (by decide +kernel))⟩,
  List.forall_mem_cons.mpr ⟨⟨mo_il _ _, Or.inl (ok_iload_n (k := 2) rfl (by decide +kernel))⟩,
  List.forall_mem_cons.mpr ⟨⟨mo_il _ _, Or.inl (ok_iload_n (k := 3) rfl (by decide +kernel))⟩,
  List.forall_mem_cons.mpr ⟨⟨mo_il _ _, Or.inl (ok_iload (by decide +kernel))⟩,
  List.forall_mem_cons.mpr ⟨⟨mo_inv _ _ _ _ _, Or.inr (Or.inl (ok_inv (T := TX11) (N := 93) rfl cw_X11_isBond (by decide) (by decide) ml_X11_474 ci_X11_isBond cv_X11_isBond (show Cond.initialized (yX11_isBond).cls ∈ am_ts from ci9_RX11) ⟨by decide +kernel, by decide +kernel, by decide +kernel⟩ rfl (by decide +kernel)))⟩,
  List.forall_mem_cons.mpr ⟨⟨mo_if1 _ _ _, Or.inl (ok_if_ne (off := 5) (by decide) (by decide +kernel))⟩,
  List.forall_mem_cons.mpr ⟨⟨mo_ic _ _, Or.inl (ok_iconst (n := 0) (v := 0) (by decide) (by decide +kernel))⟩,
  List.forall_mem_cons.mpr ⟨⟨mo_reti, Or.inr (Or.inr (ok_reti rfl (by decide +kernel)))⟩,
  List.forall_mem_cons.mpr ⟨⟨mo_al _ _, Or.inl (ok_aload_n (k := 0) rfl (by decide +kernel))⟩,
  List.forall_mem_cons.mpr ⟨⟨mo_il _ _, Or.inl (ok_iload_n (k := 3) rfl (by decide +kernel))⟩,
  List.forall_mem_cons.mpr ⟨⟨mo_il _ _, Or.inl (ok_iload (by decide +kernel))⟩,
  List.forall_mem_cons.mpr ⟨⟨mo_inv _ _ _ _ _, Or.inr (Or.inl (ok_inv (T := TX11) (N := 93) rfl cw_X11_finds (by decide) (by decide) ml_X11_478 ci_X11_finds cv_X11_finds (show Cond.initialized (yX11_finds).cls ∈ am_ts from ci9_RX11) ⟨by decide +kernel, by decide +kernel, by decide +kernel⟩ rfl (by decide +kernel)))⟩,
  List.forall_mem_cons.mpr ⟨⟨mo_al _ _, Or.inl (ok_aload_n (k := 0) rfl (by decide +kernel))⟩,
  List.forall_mem_cons.mpr ⟨⟨mo_il _ _, Or.inl (ok_iload_n (k := 1) rfl (by decide +kernel))⟩,
  List.forall_mem_cons.mpr ⟨⟨mo_il _ _, Or.inl (ok_iload_n (k := 2) rfl (by decide +kernel))⟩,
  List.forall_mem_cons.mpr ⟨⟨mo_inv _ _ _ _ _, Or.inr (Or.inl (ok_inv (T := TX11) (N := 93) rfl cw_X11_says0 (by decide) (by decide) ml_X11_481 ci_X11_says0 cv_X11_says0 (show Cond.initialized (yX11_says0).cls ∈ am_ts from ci9_RX11) ⟨by decide +kernel, by decide +kernel, by decide +kernel⟩ rfl (by decide +kernel)))⟩,
  List.forall_mem_cons.mpr ⟨⟨mo_is _ _, Or.inl (ok_istore (by decide) (by decide +kernel))⟩,
  List.forall_mem_cons.mpr ⟨⟨mo_il _ _, Or.inl (ok_iload (by decide +kernel))⟩,
  List.forall_mem_cons.mpr ⟨⟨mo_if1 _ _ _, Or.inl (ok_if_ne (off := 7) (by decide) (by decide +kernel))⟩,
  fun _ h => absurd h List.not_mem_nil⟩⟩⟩⟩⟩⟩⟩⟩⟩⟩⟩⟩⟩⟩⟩⟩⟩⟩⟩⟩
def t_X11_belongs_1 : List (Nat × am_F) := [(34, im_ic 0 35), (35, im_go 52), (38, im_il 5 40), (40, im_al 0 41), (41, im_gi q_SH 11 52 44), (44, im_if2 ic_ne 51 47), (47, im_ic 1 48), (48, im_go 52), (51, im_ic 2 52), (52, im_reti)]
set_option maxRecDepth 20000 in
theorem o_X11_belongs_1 : ∀ q ∈ t_X11_belongs_1, am_ok vwCl q_SH ξ (q_E ξ β xs L) q_EN q_KD q_ML (cX11_belongs, 6, RX11, "belongs", (some .int), []) q.1 q.2 :=
  List.forall_mem_cons.mpr ⟨⟨mo_ic _ _, Or.inl (ok_iconst (n := 0) (v := 0) (by decide) (by decide +kernel))⟩,
  List.forall_mem_cons.mpr ⟨⟨mo_go _, Or.inl (ok_goto (off := 17) (by decide) (by decide +kernel))⟩,
  List.forall_mem_cons.mpr ⟨⟨mo_il _ _, Or.inl (ok_iload (by decide +kernel))⟩,
  List.forall_mem_cons.mpr ⟨⟨mo_al _ _, Or.inl (ok_aload_n (k := 0) rfl (by decide +kernel))⟩,
  List.forall_mem_cons.mpr ⟨⟨mo_gi _ _ _ _, Or.inl (ok_gi (C := RX11) (T := TX11) (N := 93) (ci := 11) (k := 52) rfl inX11 (by decide) fl_X11_349 (by decide +kernel) (by decide +kernel))⟩,
  List.forall_mem_cons.mpr ⟨⟨mo_if2 _ _ _, Or.inl (ok_icmp_ne (off := 7) (by decide) (by decide +kernel))⟩,
  List.forall_mem_cons.mpr ⟨⟨mo_ic _ _, Or.inl (ok_iconst (n := 1) (v := 1) (by decide) (by decide +kernel))⟩,
  List.forall_mem_cons.mpr ⟨⟨mo_go _, Or.inl (ok_goto (off := 4) (by decide) (by decide +kernel))⟩,
  List.forall_mem_cons.mpr ⟨⟨mo_ic _ _, Or.inl (ok_iconst (n := 2) (v := 2) (by decide) (by decide +kernel))⟩,
  List.forall_mem_cons.mpr ⟨⟨mo_reti, Or.inr (Or.inr (ok_reti rfl (by decide +kernel)))⟩,
  fun _ h => absurd h List.not_mem_nil⟩⟩⟩⟩⟩⟩⟩⟩⟩⟩
def t_X11_belongs : List (Nat × am_F) := t_X11_belongs_0 ++ (t_X11_belongs_1)
theorem o_X11_belongs : ∀ q ∈ t_X11_belongs, am_ok vwCl q_SH ξ (q_E ξ β xs L) q_EN q_KD q_ML (cX11_belongs, 6, RX11, "belongs", (some .int), []) q.1 q.2 := List.forall_mem_append.mpr ⟨o_X11_belongs_0, o_X11_belongs_1⟩
def t_X11_says_0 : List (Nat × am_F) := [(0, im_al 0 1), (1, im_il 1 2), (2, im_il 2 3), (3, im_il 3 4), (4, im_il 4 6), (6, im_inv q_SH 11 171 4 9), (9, im_if1 ib_ne 14 12), (12, im_ic 0 13), (13, im_reti), (14, im_al 0 15), (15, im_il 3 16), (16, im_il 4 18), (18, im_inv q_SH 11 166 2 21), (21, im_al 0 22), (22, im_il 1 23), (23, im_il 2 24), (24, im_inv q_SH 11 172 2 27), (27, im_reti)]
set_option maxRecDepth 20000 in
theorem o_X11_says_0 : ∀ q ∈ t_X11_says_0, am_ok vwCl q_SH ξ (q_E ξ β xs L) q_EN q_KD q_ML (cX11_says, 5, RX11, "says", (some .int), []) q.1 q.2 :=
  List.forall_mem_cons.mpr ⟨⟨mo_al _ _, Or.inl (ok_aload_n (k := 0) rfl (by decide +kernel))⟩,
  List.forall_mem_cons.mpr ⟨⟨mo_il _ _, Or.inl (ok_iload_n (k := 1) rfl (by decide +kernel))⟩,
  List.forall_mem_cons.mpr ⟨⟨mo_il _ _, Or.inl (ok_iload_n (k := 2) rfl (by decide +kernel))⟩,
  List.forall_mem_cons.mpr ⟨⟨mo_il _ _, Or.inl (ok_iload_n (k := 3) rfl (by decide +kernel))⟩,
  List.forall_mem_cons.mpr ⟨⟨mo_il _ _, Or.inl (ok_iload (by decide +kernel))⟩,
  List.forall_mem_cons.mpr ⟨⟨mo_inv _ _ _ _ _, Or.inr (Or.inl (ok_inv (T := TX11) (N := 93) rfl cw_X11_isBond (by decide) (by decide) ml_X11_474 ci_X11_isBond cv_X11_isBond (show Cond.initialized (yX11_isBond).cls ∈ am_ts from ci9_RX11) ⟨by decide +kernel, by decide +kernel, by decide +kernel⟩ rfl (by decide +kernel)))⟩,
  List.forall_mem_cons.mpr ⟨⟨mo_if1 _ _ _, Or.inl (ok_if_ne (off := 5) (by decide) (by decide +kernel))⟩,
  List.forall_mem_cons.mpr ⟨⟨mo_ic _ _, Or.inl (ok_iconst (n := 0) (v := 0) (by decide) (by decide +kernel))⟩,
  List.forall_mem_cons.mpr ⟨⟨mo_reti, Or.inr (Or.inr (ok_reti rfl (by decide +kernel)))⟩,
  List.forall_mem_cons.mpr ⟨⟨mo_al _ _, Or.inl (ok_aload_n (k := 0) rfl (by decide +kernel))⟩,
  List.forall_mem_cons.mpr ⟨⟨mo_il _ _, Or.inl (ok_iload_n (k := 3) rfl (by decide +kernel))⟩,
  List.forall_mem_cons.mpr ⟨⟨mo_il _ _, Or.inl (ok_iload (by decide +kernel))⟩,
  List.forall_mem_cons.mpr ⟨⟨mo_inv _ _ _ _ _, Or.inr (Or.inl (ok_inv (T := TX11) (N := 93) rfl cw_X11_finds (by decide) (by decide) ml_X11_478 ci_X11_finds cv_X11_finds (show Cond.initialized (yX11_finds).cls ∈ am_ts from ci9_RX11) ⟨by decide +kernel, by decide +kernel, by decide +kernel⟩ rfl (by decide +kernel)))⟩,
  List.forall_mem_cons.mpr ⟨⟨mo_al _ _, Or.inl (ok_aload_n (k := 0) rfl (by decide +kernel))⟩,
  List.forall_mem_cons.mpr ⟨⟨mo_il _ _, Or.inl (ok_iload_n (k := 1) rfl (by decide +kernel))⟩,
  List.forall_mem_cons.mpr ⟨⟨mo_il _ _, Or.inl (ok_iload_n (k := 2) rfl (by decide +kernel))⟩,
  List.forall_mem_cons.mpr ⟨⟨mo_inv _ _ _ _ _, Or.inr (Or.inl (ok_inv (T := TX11) (N := 93) rfl cw_X11_says0 (by decide) (by decide) ml_X11_481 ci_X11_says0 cv_X11_says0 (show Cond.initialized (yX11_says0).cls ∈ am_ts from ci9_RX11) ⟨by decide +kernel, by decide +kernel, by decide +kernel⟩ rfl (by decide +kernel)))⟩,
  List.forall_mem_cons.mpr ⟨⟨mo_reti, Or.inr (Or.inr (ok_reti rfl (by decide +kernel)))⟩,
  fun _ h => absurd h List.not_mem_nil⟩⟩⟩⟩⟩⟩⟩⟩⟩⟩⟩⟩⟩⟩⟩⟩⟩⟩
def t_X11_says : List (Nat × am_F) := t_X11_says_0
theorem o_X11_says : ∀ q ∈ t_X11_says, am_ok vwCl q_SH ξ (q_E ξ β xs L) q_EN q_KD q_ML (cX11_says, 5, RX11, "says", (some .int), []) q.1 q.2 := o_X11_says_0
def t_X11_isSettled_0 : List (Nat × am_F) := [(0, im_ic 0 1), (1, im_is 4 3), (3, im_il 4 5), (5, im_al 0 6), (6, im_gi q_SH 11 52 9), (9, im_if2 ic_ge 137 12), (12, im_ic 0 13), (13, im_is 5 15), (15, im_il 5 17), (17, im_il 4 19), (19, im_if2 ic_ge 131 22), (22, im_ic 1 23), (23, im_is 6 25), (25, im_ic 0 26), (26, im_is 7 28), (28, im_il 7 30), (30, im_al 0 31), (31, im_gi q_SH 11 51 34), (34, im_if2 ic_ge 83 37), (37, im_il 6 39)]
set_option maxRecDepth 20000 in
theorem o_X11_isSettled_0 : ∀ q ∈ t_X11_isSettled_0, am_ok vwCl q_SH ξ (q_E ξ β xs L) q_EN q_KD q_ML (cX11_isSettled, 8, RX11, "isSettled", (some .boolean), []) q.1 q.2 :=
  List.forall_mem_cons.mpr ⟨⟨mo_ic _ _, Or.inl (ok_iconst (n := 0) (v := 0) (by decide) (by decide +kernel))⟩,
  List.forall_mem_cons.mpr ⟨⟨mo_is _ _, Or.inl (ok_istore (by decide) (by decide +kernel))⟩,
  List.forall_mem_cons.mpr ⟨⟨mo_il _ _, Or.inl (ok_iload (by decide +kernel))⟩,
  List.forall_mem_cons.mpr ⟨⟨mo_al _ _, Or.inl (ok_aload_n (k := 0) rfl (by decide +kernel))⟩,
  List.forall_mem_cons.mpr ⟨⟨mo_gi _ _ _ _, Or.inl (ok_gi (C := RX11) (T := TX11) (N := 93) (ci := 11) (k := 52) rfl inX11 (by decide) fl_X11_349 (by decide +kernel) (by decide +kernel))⟩,
  List.forall_mem_cons.mpr ⟨⟨mo_if2 _ _ _, Or.inl (ok_icmp_ge (off := 128) (by decide) (by decide +kernel))⟩,
  List.forall_mem_cons.mpr ⟨⟨mo_ic _ _, Or.inl (ok_iconst (n := 0) (v := 0) (by decide) (by decide +kernel))⟩,
  List.forall_mem_cons.mpr ⟨⟨mo_is _ _, Or.inl (ok_istore (by decide) (by decide +kernel))⟩,
  List.forall_mem_cons.mpr ⟨⟨mo_il _ _, Or.inl (ok_iload (by decide +kernel))⟩,
  List.forall_mem_cons.mpr ⟨⟨mo_il _ _, Or.inl (ok_iload (by decide +kernel))⟩,
  List.forall_mem_cons.mpr ⟨⟨mo_if2 _ _ _, Or.inl (ok_icmp_ge (off := 112) (by decide) (by decide +kernel))⟩,
  List.forall_mem_cons.mpr ⟨⟨mo_ic _ _, Or.inl (ok_iconst (n := 1) (v := 1) (by decide) (by decide +kernel))⟩,
  List.forall_mem_cons.mpr ⟨⟨mo_is _ _, Or.inl (ok_istore (by decide) (by decide +kernel))⟩,
  List.forall_mem_cons.mpr ⟨⟨mo_ic _ _, Or.inl (ok_iconst (n := 0) (v := 0) (by decide) (by decide +kernel))⟩,
  List.forall_mem_cons.mpr ⟨⟨mo_is _ _, Or.inl (ok_istore (by decide) (by decide +kernel))⟩,
  List.forall_mem_cons.mpr ⟨⟨mo_il _ _, Or.inl (ok_iload (by decide +kernel))⟩,
  List.forall_mem_cons.mpr ⟨⟨mo_al _ _, Or.inl (ok_aload_n (k := 0) rfl (by decide +kernel))⟩,
  List.forall_mem_cons.mpr ⟨⟨mo_gi _ _ _ _, Or.inl (ok_gi (C := RX11) (T := TX11) (N := 93) (ci := 11) (k := 51) rfl inX11 (by decide) fl_X11_346 (by decide +kernel) (by decide +kernel))⟩,
  List.forall_mem_cons.mpr ⟨⟨mo_if2 _ _ _, Or.inl (ok_icmp_ge (off := 49) (by decide) (by decide +kernel))⟩,
  List.forall_mem_cons.mpr ⟨⟨mo_il _ _, Or.inl (ok_iload (by decide +kernel))⟩,
  fun _ h => absurd h List.not_mem_nil⟩⟩⟩⟩⟩⟩⟩⟩⟩⟩⟩⟩⟩⟩⟩⟩⟩⟩⟩⟩
def t_X11_isSettled_1 : List (Nat × am_F) := [(39, im_if1 ib_eq 74 42), (42, im_il 1 43), (43, im_il 7 45), (45, im_bin (fun x y => x >>> (y &&& 31)) 46), (46, im_ic 1 47), (47, im_bin (fun x y => x &&& y) 48), (48, im_if1 ib_eq 70 51), (51, im_al 0 52), (52, im_il 4 54), (54, im_il 7 56), (56, im_inv q_SH 11 144 2 59), (59, im_al 0 60), (60, im_il 5 62), (62, im_il 7 64), (64, im_inv q_SH 11 144 2 67), (67, im_if2 ic_ne 74 70), (70, im_ic 1 71), (71, im_go 75), (74, im_ic 0 75), (75, im_is 6 77)]
set_option maxRecDepth 20000 in
theorem o_X11_isSettled_1 : ∀ q ∈ t_X11_isSettled_1, am_ok vwCl q_SH ξ (q_E ξ β xs L) q_EN q_KD q_ML (cX11_isSettled, 8, RX11, "isSettled", (some .boolean), []) q.1 q.2 :=
  List.forall_mem_cons.mpr ⟨⟨mo_if1 _ _ _, Or.inl (ok_if_eq (off := 35) (by decide) (by decide +kernel))⟩,
  List.forall_mem_cons.mpr ⟨⟨mo_il _ _, Or.inl (ok_iload_n (k := 1) rfl (by decide +kernel))⟩,
  List.forall_mem_cons.mpr ⟨⟨mo_il _ _, Or.inl (ok_iload (by decide +kernel))⟩,
  List.forall_mem_cons.mpr ⟨⟨mo_bin _ _, Or.inl (ok_ishr (by decide +kernel))⟩,
  List.forall_mem_cons.mpr ⟨⟨mo_ic _ _, Or.inl (ok_iconst (n := 1) (v := 1) (by decide) (by decide +kernel))⟩,
  List.forall_mem_cons.mpr ⟨⟨mo_bin _ _, Or.inl (ok_iand (by decide +kernel))⟩,
  List.forall_mem_cons.mpr ⟨⟨mo_if1 _ _ _, Or.inl (ok_if_eq (off := 22) (by decide) (by decide +kernel))⟩,
  List.forall_mem_cons.mpr ⟨⟨mo_al _ _, Or.inl (ok_aload_n (k := 0) rfl (by decide +kernel))⟩,
  List.forall_mem_cons.mpr ⟨⟨mo_il _ _, Or.inl (ok_iload (by decide +kernel))⟩,
  List.forall_mem_cons.mpr ⟨⟨mo_il _ _, Or.inl (ok_iload (by decide +kernel))⟩,
  List.forall_mem_cons.mpr ⟨⟨mo_inv _ _ _ _ _, Or.inr (Or.inl (ok_inv (T := TX11) (N := 93) rfl cw_X11_dayIn (by decide) (by decide) ml_X11_365 ci_X11_dayIn cv_X11_dayIn (show Cond.initialized (yX11_dayIn).cls ∈ am_ts from ci9_RX11) ⟨by decide +kernel, by decide +kernel, by decide +kernel⟩ rfl (by decide +kernel)))⟩,
  List.forall_mem_cons.mpr ⟨⟨mo_al _ _, Or.inl (ok_aload_n (k := 0) rfl (by decide +kernel))⟩,
  List.forall_mem_cons.mpr ⟨⟨mo_il _ _, Or.inl (ok_iload (by decide +kernel))⟩,
  List.forall_mem_cons.mpr ⟨⟨mo_il _ _, Or.inl (ok_iload (by decide +kernel))⟩,
  List.forall_mem_cons.mpr ⟨⟨mo_inv _ _ _ _ _, Or.inr (Or.inl (ok_inv (T := TX11) (N := 93) rfl cw_X11_dayIn (by decide) (by decide) ml_X11_365 ci_X11_dayIn cv_X11_dayIn (show Cond.initialized (yX11_dayIn).cls ∈ am_ts from ci9_RX11) ⟨by decide +kernel, by decide +kernel, by decide +kernel⟩ rfl (by decide +kernel)))⟩,
  List.forall_mem_cons.mpr ⟨⟨mo_if2 _ _ _, Or.inl (ok_icmp_ne (off := 7) (by decide) (by decide +kernel))⟩,
  List.forall_mem_cons.mpr ⟨⟨mo_ic _ _, Or.inl (ok_iconst (n := 1) (v := 1) (by decide) (by decide +kernel))⟩,
  List.forall_mem_cons.mpr ⟨⟨mo_go _, Or.inl (ok_goto (off := 4) (by decide) (by decide +kernel))⟩,
  List.forall_mem_cons.mpr ⟨⟨mo_ic _ _, Or.inl (ok_iconst (n := 0) (v := 0) (by decide) (by decide +kernel))⟩,
  List.forall_mem_cons.mpr ⟨⟨mo_is _ _, Or.inl (ok_istore (by decide) (by decide +kernel))⟩,
  fun _ h => absurd h List.not_mem_nil⟩⟩⟩⟩⟩⟩⟩⟩⟩⟩⟩⟩⟩⟩⟩⟩⟩⟩⟩⟩
def t_X11_isSettled_2 : List (Nat × am_F) := [(77, im_iinc 7 1 80), (80, im_go 28), (83, im_il 6 85), (85, im_if1 ib_eq 125 88), (88, im_al 0 89), (89, im_gr q_SH 11 91 92), (92, im_ic 20 94), (94, im_il 4 96), (96, im_bin (fun x y => x * y) 97), (97, im_il 2 98), (98, im_bin (fun x y => x + y) 99), (99, im_ald q_SH .int 100), (100, im_il 3 101), (101, im_bin (fun x y => x >>> (y &&& 31)) 102), (102, im_ic 1 103), (103, im_bin (fun x y => x &&& y) 104), (104, im_al 0 105), (105, im_gr q_SH 11 91 108), (108, im_ic 20 110), (110, im_il 5 112)]
set_option maxRecDepth 20000 in
theorem o_X11_isSettled_2 : ∀ q ∈ t_X11_isSettled_2, am_ok vwCl q_SH ξ (q_E ξ β xs L) q_EN q_KD q_ML (cX11_isSettled, 8, RX11, "isSettled", (some .boolean), []) q.1 q.2 :=
  List.forall_mem_cons.mpr ⟨⟨mo_iinc _ _ _, Or.inl (ok_iinc (n := 1) (v := 1) (by decide) (by decide) (by decide +kernel))⟩,
  List.forall_mem_cons.mpr ⟨⟨mo_go _, Or.inl (ok_goto (off := (-52)) (by decide) (by decide +kernel))⟩,
  List.forall_mem_cons.mpr ⟨⟨mo_il _ _, Or.inl (ok_iload (by decide +kernel))⟩,
  List.forall_mem_cons.mpr ⟨⟨mo_if1 _ _ _, Or.inl (ok_if_eq (off := 40) (by decide) (by decide +kernel))⟩,
  List.forall_mem_cons.mpr ⟨⟨mo_al _ _, Or.inl (ok_aload_n (k := 0) rfl (by decide +kernel))⟩,
  List.forall_mem_cons.mpr ⟨⟨mo_gr _ _ _ _, Or.inl (ok_gr (C := RX11) (T := TX11) (N := 93) (ci := 11) (k := 91) rfl inX11 (by decide) fl_X11_262 (by decide +kernel) (by decide +kernel))⟩,
  List.forall_mem_cons.mpr ⟨⟨mo_ic _ _, Or.inl (ok_bipush (n := 20) (v := 20) (by decide) (by decide +kernel))⟩,
  List.forall_mem_cons.mpr ⟨⟨mo_il _ _, Or.inl (ok_iload (by decide +kernel))⟩,
  List.forall_mem_cons.mpr ⟨⟨mo_bin _ _, Or.inl (ok_imul (by decide +kernel))⟩,
  List.forall_mem_cons.mpr ⟨⟨mo_il _ _, Or.inl (ok_iload_n (k := 2) rfl (by decide +kernel))⟩,
  List.forall_mem_cons.mpr ⟨⟨mo_bin _ _, Or.inl (ok_iadd (by decide +kernel))⟩,
  List.forall_mem_cons.mpr ⟨⟨mo_ald _ _ _, Or.inl (ok_iald (by decide +kernel))⟩,
  List.forall_mem_cons.mpr ⟨⟨mo_il _ _, Or.inl (ok_iload_n (k := 3) rfl (by decide +kernel))⟩,
  List.forall_mem_cons.mpr ⟨⟨mo_bin _ _, Or.inl (ok_ishr (by decide +kernel))⟩,
  List.forall_mem_cons.mpr ⟨⟨mo_ic _ _, Or.inl (ok_iconst (n := 1) (v := 1) (by decide) (by decide +kernel))⟩,
  List.forall_mem_cons.mpr ⟨⟨mo_bin _ _, Or.inl (ok_iand (by decide +kernel))⟩,
  List.forall_mem_cons.mpr ⟨⟨mo_al _ _, Or.inl (ok_aload_n (k := 0) rfl (by decide +kernel))⟩,
  List.forall_mem_cons.mpr ⟨⟨mo_gr _ _ _ _, Or.inl (ok_gr (C := RX11) (T := TX11) (N := 93) (ci := 11) (k := 91) rfl inX11 (by decide) fl_X11_262 (by decide +kernel) (by decide +kernel))⟩,
  List.forall_mem_cons.mpr ⟨⟨mo_ic _ _, Or.inl (ok_bipush (n := 20) (v := 20) (by decide) (by decide +kernel))⟩,
  List.forall_mem_cons.mpr ⟨⟨mo_il _ _, Or.inl (ok_iload (by decide +kernel))⟩,
  fun _ h => absurd h List.not_mem_nil⟩⟩⟩⟩⟩⟩⟩⟩⟩⟩⟩⟩⟩⟩⟩⟩⟩⟩⟩⟩
def t_X11_isSettled_3 : List (Nat × am_F) := [(112, im_bin (fun x y => x * y) 113), (113, im_il 2 114), (114, im_bin (fun x y => x + y) 115), (115, im_ald q_SH .int 116), (116, im_il 3 117), (117, im_bin (fun x y => x >>> (y &&& 31)) 118), (118, im_ic 1 119), (119, im_bin (fun x y => x &&& y) 120), (120, im_if2 ic_eq 125 123), (123, im_ic 0 124), (124, im_retz), (125, im_iinc 5 1 128), (128, im_go 15), (131, im_iinc 4 1 134), (134, im_go 3), (137, im_ic 1 138), (138, im_retz)]
set_option maxRecDepth 20000 in
theorem o_X11_isSettled_3 : ∀ q ∈ t_X11_isSettled_3, am_ok vwCl q_SH ξ (q_E ξ β xs L) q_EN q_KD q_ML (cX11_isSettled, 8, RX11, "isSettled", (some .boolean), []) q.1 q.2 :=
  List.forall_mem_cons.mpr ⟨⟨mo_bin _ _, Or.inl (ok_imul (by decide +kernel))⟩,
  List.forall_mem_cons.mpr ⟨⟨mo_il _ _, Or.inl (ok_iload_n (k := 2) rfl (by decide +kernel))⟩,
  List.forall_mem_cons.mpr ⟨⟨mo_bin _ _, Or.inl (ok_iadd (by decide +kernel))⟩,
  List.forall_mem_cons.mpr ⟨⟨mo_ald _ _ _, Or.inl (ok_iald (by decide +kernel))⟩,
  List.forall_mem_cons.mpr ⟨⟨mo_il _ _, Or.inl (ok_iload_n (k := 3) rfl (by decide +kernel))⟩,
  List.forall_mem_cons.mpr ⟨⟨mo_bin _ _, Or.inl (ok_ishr (by decide +kernel))⟩,
  List.forall_mem_cons.mpr ⟨⟨mo_ic _ _, Or.inl (ok_iconst (n := 1) (v := 1) (by decide) (by decide +kernel))⟩,
  List.forall_mem_cons.mpr ⟨⟨mo_bin _ _, Or.inl (ok_iand (by decide +kernel))⟩,
  List.forall_mem_cons.mpr ⟨⟨mo_if2 _ _ _, Or.inl (ok_icmp_eq (off := 5) (by decide) (by decide +kernel))⟩,
  List.forall_mem_cons.mpr ⟨⟨mo_ic _ _, Or.inl (ok_iconst (n := 0) (v := 0) (by decide) (by decide +kernel))⟩,
  List.forall_mem_cons.mpr ⟨⟨mo_retz, Or.inr (Or.inr (ok_retz rfl (by decide +kernel)))⟩,
  List.forall_mem_cons.mpr ⟨⟨mo_iinc _ _ _, Or.inl (ok_iinc (n := 1) (v := 1) (by decide) (by decide) (by decide +kernel))⟩,
  List.forall_mem_cons.mpr ⟨⟨mo_go _, Or.inl (ok_goto (off := (-113)) (by decide) (by decide +kernel))⟩,
  List.forall_mem_cons.mpr ⟨⟨mo_iinc _ _ _, Or.inl (ok_iinc (n := 1) (v := 1) (by decide) (by decide) (by decide +kernel))⟩,
  List.forall_mem_cons.mpr ⟨⟨mo_go _, Or.inl (ok_goto (off := (-131)) (by decide) (by decide +kernel))⟩,
  List.forall_mem_cons.mpr ⟨⟨mo_ic _ _, Or.inl (ok_iconst (n := 1) (v := 1) (by decide) (by decide +kernel))⟩,
  List.forall_mem_cons.mpr ⟨⟨mo_retz, Or.inr (Or.inr (ok_retz rfl (by decide +kernel)))⟩,
  fun _ h => absurd h List.not_mem_nil⟩⟩⟩⟩⟩⟩⟩⟩⟩⟩⟩⟩⟩⟩⟩⟩⟩
def t_X11_isSettled : List (Nat × am_F) := t_X11_isSettled_0 ++ (t_X11_isSettled_1 ++ (t_X11_isSettled_2 ++ (t_X11_isSettled_3)))
theorem o_X11_isSettled : ∀ q ∈ t_X11_isSettled, am_ok vwCl q_SH ξ (q_E ξ β xs L) q_EN q_KD q_ML (cX11_isSettled, 8, RX11, "isSettled", (some .boolean), []) q.1 q.2 := List.forall_mem_append.mpr ⟨o_X11_isSettled_0, List.forall_mem_append.mpr ⟨o_X11_isSettled_1, List.forall_mem_append.mpr ⟨o_X11_isSettled_2, o_X11_isSettled_3⟩⟩⟩
def t_X11_many_0 : List (Nat × am_F) := [(0, im_ic 0 1), (1, im_is 1 2), (2, im_ic 0 3), (3, im_is 2 4), (4, im_il 2 5), (5, im_ic 5 6), (6, im_if2 ic_ge 23 9), (9, im_il 1 10), (10, im_il 0 11), (11, im_il 2 12), (12, im_bin (fun x y => x >>> (y &&& 31)) 13), (13, im_ic 1 14), (14, im_bin (fun x y => x &&& y) 15), (15, im_bin (fun x y => x + y) 16), (16, im_is 1 17), (17, im_iinc 2 1 20), (20, im_go 4), (23, im_il 1 24), (24, im_reti)]
set_option maxRecDepth 20000 in
theorem o_X11_many_0 : ∀ q ∈ t_X11_many_0, am_ok vwCl q_SH ξ (q_E ξ β xs L) q_EN q_KD q_ML (cX11_many, 3, RX11, "many", (some .int), []) q.1 q.2 :=
  List.forall_mem_cons.mpr ⟨⟨mo_ic _ _, Or.inl (ok_iconst (n := 0) (v := 0) (by decide) (by decide +kernel))⟩,
  List.forall_mem_cons.mpr ⟨⟨mo_is _ _, Or.inl (ok_istore_n (k := 1) rfl (by decide) (by decide +kernel))⟩,
  List.forall_mem_cons.mpr ⟨⟨mo_ic _ _, Or.inl (ok_iconst (n := 0) (v := 0) (by decide) (by decide +kernel))⟩,
  List.forall_mem_cons.mpr ⟨⟨mo_is _ _, Or.inl (ok_istore_n (k := 2) rfl (by decide) (by decide +kernel))⟩,
  List.forall_mem_cons.mpr ⟨⟨mo_il _ _, Or.inl (ok_iload_n (k := 2) rfl (by decide +kernel))⟩,
  List.forall_mem_cons.mpr ⟨⟨mo_ic _ _, Or.inl (ok_iconst (n := 5) (v := 5) (by decide) (by decide +kernel))⟩,
  List.forall_mem_cons.mpr ⟨⟨mo_if2 _ _ _, Or.inl (ok_icmp_ge (off := 17) (by decide) (by decide +kernel))⟩,
  List.forall_mem_cons.mpr ⟨⟨mo_il _ _, Or.inl (ok_iload_n (k := 1) rfl (by decide +kernel))⟩,
  List.forall_mem_cons.mpr ⟨⟨mo_il _ _, Or.inl (ok_iload_n (k := 0) rfl (by decide +kernel))⟩,
  List.forall_mem_cons.mpr ⟨⟨mo_il _ _, Or.inl (ok_iload_n (k := 2) rfl (by decide +kernel))⟩,
  List.forall_mem_cons.mpr ⟨⟨mo_bin _ _, Or.inl (ok_ishr (by decide +kernel))⟩,
  List.forall_mem_cons.mpr ⟨⟨mo_ic _ _, Or.inl (ok_iconst (n := 1) (v := 1) (by decide) (by decide +kernel))⟩,
  List.forall_mem_cons.mpr ⟨⟨mo_bin _ _, Or.inl (ok_iand (by decide +kernel))⟩,
  List.forall_mem_cons.mpr ⟨⟨mo_bin _ _, Or.inl (ok_iadd (by decide +kernel))⟩,
  List.forall_mem_cons.mpr ⟨⟨mo_is _ _, Or.inl (ok_istore_n (k := 1) rfl (by decide) (by decide +kernel))⟩,
  List.forall_mem_cons.mpr ⟨⟨mo_iinc _ _ _, Or.inl (ok_iinc (n := 1) (v := 1) (by decide) (by decide) (by decide +kernel))⟩,
  List.forall_mem_cons.mpr ⟨⟨mo_go _, Or.inl (ok_goto (off := (-16)) (by decide) (by decide +kernel))⟩,
  List.forall_mem_cons.mpr ⟨⟨mo_il _ _, Or.inl (ok_iload_n (k := 1) rfl (by decide +kernel))⟩,
  List.forall_mem_cons.mpr ⟨⟨mo_reti, Or.inr (Or.inr (ok_reti rfl (by decide +kernel)))⟩,
  fun _ h => absurd h List.not_mem_nil⟩⟩⟩⟩⟩⟩⟩⟩⟩⟩⟩⟩⟩⟩⟩⟩⟩⟩⟩
def t_X11_many : List (Nat × am_F) := t_X11_many_0
theorem o_X11_many : ∀ q ∈ t_X11_many, am_ok vwCl q_SH ξ (q_E ξ β xs L) q_EN q_KD q_ML (cX11_many, 3, RX11, "many", (some .int), []) q.1 q.2 := o_X11_many_0
def t_X11_settles_0 : List (Nat × am_F) := [(0, im_al 0 1), (1, im_il 1 2), (2, im_il 2 3), (3, im_il 3 4), (4, im_il 4 6), (6, im_inv q_SH 11 171 4 9), (9, im_if1 ib_ne 14 12), (12, im_ic 0 13), (13, im_reti), (14, im_al 0 15), (15, im_il 3 16), (16, im_il 4 18), (18, im_inv q_SH 11 166 2 21), (21, im_ic (-1) 22), (22, im_is 5 24), (24, im_ic 0 25), (25, im_is 6 27), (27, im_il 6 29), (29, im_ic 1 30), (30, im_al 0 31)]
set_option maxRecDepth 20000 in
theorem o_X11_settles_0 : ∀ q ∈ t_X11_settles_0, am_ok vwCl q_SH ξ (q_E ξ β xs L) q_EN q_KD q_ML (cX11_settles, 9, RX11, "settles", (some .int), []) q.1 q.2 :=
  List.forall_mem_cons.mpr ⟨⟨mo_al _ _, Or.inl (ok_aload_n (k := 0) rfl (by decide +kernel))⟩,
  List.forall_mem_cons.mpr ⟨⟨mo_il _ _, Or.inl (ok_iload_n (k := 1) rfl (by decide +kernel))⟩,
  List.forall_mem_cons.mpr ⟨⟨mo_il _ _, Or.inl (ok_iload_n (k := 2) rfl (by decide +kernel))⟩,
  List.forall_mem_cons.mpr ⟨⟨mo_il _ _, Or.inl (ok_iload_n (k := 3) rfl (by decide +kernel))⟩,
  List.forall_mem_cons.mpr ⟨⟨mo_il _ _, Or.inl (ok_iload (by decide +kernel))⟩,
  List.forall_mem_cons.mpr ⟨⟨mo_inv _ _ _ _ _, Or.inr (Or.inl (ok_inv (T := TX11) (N := 93) rfl cw_X11_isBond (by decide) (by decide) ml_X11_474 ci_X11_isBond cv_X11_isBond (show Cond.initialized (yX11_isBond).cls ∈ am_ts from ci9_RX11) ⟨by decide +kernel, by decide +kernel, by decide +kernel⟩ rfl (by decide +kernel)))⟩,
  List.forall_mem_cons.mpr ⟨⟨mo_if1 _ _ _, Or.inl (ok_if_ne (off := 5) (by decide) (by decide +kernel))⟩,
  List.forall_mem_cons.mpr ⟨⟨mo_ic _ _, Or.inl (ok_iconst (n := 0) (v := 0) (by decide) (by decide +kernel))⟩,
  List.forall_mem_cons.mpr ⟨⟨mo_reti, Or.inr (Or.inr (ok_reti rfl (by decide +kernel)))⟩,
  List.forall_mem_cons.mpr ⟨⟨mo_al _ _, Or.inl (ok_aload_n (k := 0) rfl (by decide +kernel))⟩,
  List.forall_mem_cons.mpr ⟨⟨mo_il _ _, Or.inl (ok_iload_n (k := 3) rfl (by decide +kernel))⟩,
  List.forall_mem_cons.mpr ⟨⟨mo_il _ _, Or.inl (ok_iload (by decide +kernel))⟩,
  List.forall_mem_cons.mpr ⟨⟨mo_inv _ _ _ _ _, Or.inr (Or.inl (ok_inv (T := TX11) (N := 93) rfl cw_X11_finds (by decide) (by decide) ml_X11_478 ci_X11_finds cv_X11_finds (show Cond.initialized (yX11_finds).cls ∈ am_ts from ci9_RX11) ⟨by decide +kernel, by decide +kernel, by decide +kernel⟩ rfl (by decide +kernel)))⟩,
  List.forall_mem_cons.mpr ⟨⟨mo_ic _ _, Or.inl (ok_iconst (n := (-1)) (v := (-1)) (by decide) (by decide +kernel))⟩,
  List.forall_mem_cons.mpr ⟨⟨mo_is _ _, Or.inl (ok_istore (by decide) (by decide +kernel))⟩,
  List.forall_mem_cons.mpr ⟨⟨mo_ic _ _, Or.inl (ok_iconst (n := 0) (v := 0) (by decide) (by decide +kernel))⟩,
  List.forall_mem_cons.mpr ⟨⟨mo_is _ _, Or.inl (ok_istore (by decide) (by decide +kernel))⟩,
  List.forall_mem_cons.mpr ⟨⟨mo_il _ _, Or.inl (ok_iload (by decide +kernel))⟩,
  List.forall_mem_cons.mpr ⟨⟨mo_ic _ _, Or.inl (ok_iconst (n := 1) (v := 1) (by decide) (by decide +kernel))⟩,
  List.forall_mem_cons.mpr ⟨⟨mo_al _ _, Or.inl (ok_aload_n (k := 0) rfl (by decide +kernel))⟩,
  fun _ h => absurd h List.not_mem_nil⟩⟩⟩⟩⟩⟩⟩⟩⟩⟩⟩⟩⟩⟩⟩⟩⟩⟩⟩⟩
def t_X11_settles_1 : List (Nat × am_F) := [(31, im_gi q_SH 11 51 34), (34, im_bin (fun x y => x <<< (y &&& 31)) 35), (35, im_if2 ic_ge 131 38), (38, im_il 5 40), (40, im_ic (-1) 41), (41, im_if2 ic_eq 60 44), (44, im_il 6 46), (46, im_invs 176 1 49), (49, im_il 5 51), (51, im_invs 176 1 54), (54, im_if2 ic_le 60 57), (57, im_go 125), (60, im_il 6 62), (62, im_il 5 64), (64, im_bin (fun x y => x ^^^ y) 65), (65, im_is 7 67), (67, im_il 5 69), (69, im_ic (-1) 70), (70, im_if2 ic_eq 98 73), (73, im_il 6 75)]
set_option maxRecDepth 20000 in
theorem o_X11_settles_1 : ∀ q ∈ t_X11_settles_1, am_ok vwCl q_SH ξ (q_E ξ β xs L) q_EN q_KD q_ML (cX11_settles, 9, RX11, "settles", (some .int), []) q.1 q.2 :=
  List.forall_mem_cons.mpr ⟨⟨mo_gi _ _ _ _, Or.inl (ok_gi (C := RX11) (T := TX11) (N := 93) (ci := 11) (k := 51) rfl inX11 (by decide) fl_X11_346 (by decide +kernel) (by decide +kernel))⟩,
  List.forall_mem_cons.mpr ⟨⟨mo_bin _ _, Or.inl (ok_ishl (by decide +kernel))⟩,
  List.forall_mem_cons.mpr ⟨⟨mo_if2 _ _ _, Or.inl (ok_icmp_ge (off := 96) (by decide) (by decide +kernel))⟩,
  List.forall_mem_cons.mpr ⟨⟨mo_il _ _, Or.inl (ok_iload (by decide +kernel))⟩,
  List.forall_mem_cons.mpr ⟨⟨mo_ic _ _, Or.inl (ok_iconst (n := (-1)) (v := (-1)) (by decide) (by decide +kernel))⟩,
  List.forall_mem_cons.mpr ⟨⟨mo_if2 _ _ _, Or.inl (ok_icmp_eq (off := 19) (by decide) (by decide +kernel))⟩,
  List.forall_mem_cons.mpr ⟨⟨mo_il _ _, Or.inl (ok_iload (by decide +kernel))⟩,
  List.forall_mem_cons.mpr ⟨⟨mo_invs _ _ _, Or.inr (Or.inl (ok_invs cw_X11_many (by decide) (by decide) ml_X11_484 cs_X11_many (show Cond.initialized (yX11_many).cls ∈ am_ts from ci9_RX11) ⟨by decide +kernel, by decide +kernel, by decide +kernel⟩ rfl (by decide +kernel)))⟩,
  List.forall_mem_cons.mpr ⟨⟨mo_il _ _, Or.inl (ok_iload (by decide +kernel))⟩,
  List.forall_mem_cons.mpr ⟨⟨mo_invs _ _ _, Or.inr (Or.inl (ok_invs cw_X11_many (by decide) (by decide) ml_X11_484 cs_X11_many (show Cond.initialized (yX11_many).cls ∈ am_ts from ci9_RX11) ⟨by decide +kernel, by decide +kernel, by decide +kernel⟩ rfl (by decide +kernel)))⟩,
  List.forall_mem_cons.mpr ⟨⟨mo_if2 _ _ _, Or.inl (ok_icmp_le (off := 6) (by decide) (by decide +kernel))⟩,
  List.forall_mem_cons.mpr ⟨⟨mo_go _, Or.inl (ok_goto (off := 68) (by decide) (by decide +kernel))⟩,
  List.forall_mem_cons.mpr ⟨⟨mo_il _ _, Or.inl (ok_iload (by decide +kernel))⟩,
  List.forall_mem_cons.mpr ⟨⟨mo_il _ _, Or.inl (ok_iload (by decide +kernel))⟩,
  List.forall_mem_cons.mpr ⟨⟨mo_bin _ _, Or.inl (ok_ixor (by decide +kernel))⟩,
  List.forall_mem_cons.mpr ⟨⟨mo_is _ _, Or.inl (ok_istore (by decide) (by decide +kernel))⟩,
  List.forall_mem_cons.mpr ⟨⟨mo_il _ _, Or.inl (ok_iload (by decide +kernel))⟩,
  List.forall_mem_cons.mpr ⟨⟨mo_ic _ _, Or.inl (ok_iconst (n := (-1)) (v := (-1)) (by decide) (by decide +kernel))⟩,
  List.forall_mem_cons.mpr ⟨⟨mo_if2 _ _ _, Or.inl (ok_icmp_eq (off := 28) (by decide) (by decide +kernel))⟩,
  List.forall_mem_cons.mpr ⟨⟨mo_il _ _, Or.inl (ok_iload (by decide +kernel))⟩,
  fun _ h => absurd h List.not_mem_nil⟩⟩⟩⟩⟩⟩⟩⟩⟩⟩⟩⟩⟩⟩⟩⟩⟩⟩⟩⟩
def t_X11_settles_2 : List (Nat × am_F) := [(75, im_invs 176 1 78), (78, im_il 5 80), (80, im_invs 176 1 83), (83, im_if2 ic_lt 98 86), (86, im_il 6 88), (88, im_il 7 90), (90, im_il 7 92), (92, im_un (fun x => -x) 93), (93, im_bin (fun x y => x &&& y) 94), (94, im_bin (fun x y => x &&& y) 95), (95, im_if1 ib_eq 102 98), (98, im_ic 1 99), (99, im_go 103), (102, im_ic 0 103), (103, im_is 8 105), (105, im_il 8 107), (107, im_if1 ib_eq 125 110), (110, im_al 0 111), (111, im_il 6 113), (113, im_il 1 114)]
set_option maxRecDepth 20000 in
theorem o_X11_settles_2 : ∀ q ∈ t_X11_settles_2, am_ok vwCl q_SH ξ (q_E ξ β xs L) q_EN q_KD q_ML (cX11_settles, 9, RX11, "settles", (some .int), []) q.1 q.2 :=
  List.forall_mem_cons.mpr ⟨⟨mo_invs _ _ _, Or.inr (Or.inl (ok_invs cw_X11_many (by decide) (by decide) ml_X11_484 cs_X11_many (show Cond.initialized (yX11_many).cls ∈ am_ts from ci9_RX11) ⟨by decide +kernel, by decide +kernel, by decide +kernel⟩ rfl (by decide +kernel)))⟩,
  List.forall_mem_cons.mpr ⟨⟨mo_il _ _, Or.inl (ok_iload (by decide +kernel))⟩,
  List.forall_mem_cons.mpr ⟨⟨mo_invs _ _ _, Or.inr (Or.inl (ok_invs cw_X11_many (by decide) (by decide) ml_X11_484 cs_X11_many (show Cond.initialized (yX11_many).cls ∈ am_ts from ci9_RX11) ⟨by decide +kernel, by decide +kernel, by decide +kernel⟩ rfl (by decide +kernel)))⟩,
  List.forall_mem_cons.mpr ⟨⟨mo_if2 _ _ _, Or.inl (ok_icmp_lt (off := 15) (by decide) (by decide +kernel))⟩,
  List.forall_mem_cons.mpr ⟨⟨mo_il _ _, Or.inl (ok_iload (by decide +kernel))⟩,
  List.forall_mem_cons.mpr ⟨⟨mo_il _ _, Or.inl (ok_iload (by decide +kernel))⟩,
  List.forall_mem_cons.mpr ⟨⟨mo_il _ _, Or.inl (ok_iload (by decide +kernel))⟩,
  List.forall_mem_cons.mpr ⟨⟨mo_un _ _, Or.inl (ok_ineg (by decide +kernel))⟩,
  List.forall_mem_cons.mpr ⟨⟨mo_bin _ _, Or.inl (ok_iand (by decide +kernel))⟩,
  List.forall_mem_cons.mpr ⟨⟨mo_bin _ _, Or.inl (ok_iand (by decide +kernel))⟩,
  List.forall_mem_cons.mpr ⟨⟨mo_if1 _ _ _, Or.inl (ok_if_eq (off := 7) (by decide) (by decide +kernel))⟩,
  List.forall_mem_cons.mpr ⟨⟨mo_ic _ _, Or.inl (ok_iconst (n := 1) (v := 1) (by decide) (by decide +kernel))⟩,
  List.forall_mem_cons.mpr ⟨⟨mo_go _, Or.inl (ok_goto (off := 4) (by decide) (by decide +kernel))⟩,
  List.forall_mem_cons.mpr ⟨⟨mo_ic _ _, Or.inl (ok_iconst (n := 0) (v := 0) (by decide) (by decide +kernel))⟩,
  List.forall_mem_cons.mpr ⟨⟨mo_is _ _, Or.inl (ok_istore (by decide) (by decide +kernel))⟩,
  List.forall_mem_cons.mpr ⟨⟨mo_il _ _, Or.inl (ok_iload (by decide +kernel))⟩,
  List.forall_mem_cons.mpr ⟨⟨mo_if1 _ _ _, Or.inl (ok_if_eq (off := 18) (by decide) (by decide +kernel))⟩,
  List.forall_mem_cons.mpr ⟨⟨mo_al _ _, Or.inl (ok_aload_n (k := 0) rfl (by decide +kernel))⟩,
  List.forall_mem_cons.mpr ⟨⟨mo_il _ _, Or.inl (ok_iload (by decide +kernel))⟩,
  List.forall_mem_cons.mpr ⟨⟨mo_il _ _, Or.inl (ok_iload_n (k := 1) rfl (by decide +kernel))⟩,
  fun _ h => absurd h List.not_mem_nil⟩⟩⟩⟩⟩⟩⟩⟩⟩⟩⟩⟩⟩⟩⟩⟩⟩⟩⟩⟩
def t_X11_settles_3 : List (Nat × am_F) := [(114, im_il 2 115), (115, im_inv q_SH 11 175 3 118), (118, im_if1 ib_eq 125 121), (121, im_il 6 123), (123, im_is 5 125), (125, im_iinc 6 1 128), (128, im_go 27), (131, im_il 5 133), (133, im_reti)]
set_option maxRecDepth 20000 in
theorem o_X11_settles_3 : ∀ q ∈ t_X11_settles_3, am_ok vwCl q_SH ξ (q_E ξ β xs L) q_EN q_KD q_ML (cX11_settles, 9, RX11, "settles", (some .int), []) q.1 q.2 :=
  List.forall_mem_cons.mpr ⟨⟨mo_il _ _, Or.inl (ok_iload_n (k := 2) rfl (by decide +kernel))⟩,
  List.forall_mem_cons.mpr ⟨⟨mo_inv _ _ _ _ _, Or.inr (Or.inl (ok_inv (T := TX11) (N := 93) rfl cw_X11_isSettled (by decide) (by decide) ml_X11_487 ci_X11_isSettled cv_X11_isSettled (show Cond.initialized (yX11_isSettled).cls ∈ am_ts from ci9_RX11) ⟨by decide +kernel, by decide +kernel, by decide +kernel⟩ rfl (by decide +kernel)))⟩,
  List.forall_mem_cons.mpr ⟨⟨mo_if1 _ _ _, Or.inl (ok_if_eq (off := 7) (by decide) (by decide +kernel))⟩,
  List.forall_mem_cons.mpr ⟨⟨mo_il _ _, Or.inl (ok_iload (by decide +kernel))⟩,
  List.forall_mem_cons.mpr ⟨⟨mo_is _ _, Or.inl (ok_istore (by decide) (by decide +kernel))⟩,
  List.forall_mem_cons.mpr ⟨⟨mo_iinc _ _ _, Or.inl (ok_iinc (n := 1) (v := 1) (by decide) (by decide) (by decide +kernel))⟩,
  List.forall_mem_cons.mpr ⟨⟨mo_go _, Or.inl (ok_goto (off := (-101)) (by decide) (by decide +kernel))⟩,
  List.forall_mem_cons.mpr ⟨⟨mo_il _ _, Or.inl (ok_iload (by decide +kernel))⟩,
  List.forall_mem_cons.mpr ⟨⟨mo_reti, Or.inr (Or.inr (ok_reti rfl (by decide +kernel)))⟩,
  fun _ h => absurd h List.not_mem_nil⟩⟩⟩⟩⟩⟩⟩⟩⟩
def t_X11_settles : List (Nat × am_F) := t_X11_settles_0 ++ (t_X11_settles_1 ++ (t_X11_settles_2 ++ (t_X11_settles_3)))
theorem o_X11_settles : ∀ q ∈ t_X11_settles, am_ok vwCl q_SH ξ (q_E ξ β xs L) q_EN q_KD q_ML (cX11_settles, 9, RX11, "settles", (some .int), []) q.1 q.2 := List.forall_mem_append.mpr ⟨o_X11_settles_0, List.forall_mem_append.mpr ⟨o_X11_settles_1, List.forall_mem_append.mpr ⟨o_X11_settles_2, o_X11_settles_3⟩⟩⟩
def t_X11_lands_0 : List (Nat × am_F) := [(0, im_al 0 1), (1, im_ic 0 2), (2, im_pi q_SH 11 0 5), (5, im_al 0 6), (6, im_il 1 7), (7, im_inv q_SH 11 107 1 10), (10, im_if1 ib_eq 34 13), (13, im_al 0 14), (14, im_il 2 15), (15, im_invs 109 1 18), (18, im_ic 1 19), (19, im_inv q_SH 11 103 2 22), (22, im_if1 ib_eq 34 25), (25, im_al 0 26), (26, im_il 4 28), (28, im_inv q_SH 11 167 1 31), (31, im_if1 ib_ne 36 34), (34, im_ic 0 35), (35, im_reti), (36, im_al 0 37)]
set_option maxRecDepth 20000 in
theorem o_X11_lands_0 : ∀ q ∈ t_X11_lands_0, am_ok vwCl q_SH ξ (q_E ξ β xs L) q_EN q_KD q_ML (cX11_lands, 5, RX11, "lands", (some .int), []) q.1 q.2 :=
  List.forall_mem_cons.mpr ⟨⟨mo_al _ _, Or.inl (ok_aload_n (k := 0) rfl (by decide +kernel))⟩,
  List.forall_mem_cons.mpr ⟨⟨mo_ic _ _, Or.inl (ok_iconst (n := 0) (v := 0) (by decide) (by decide +kernel))⟩,
  List.forall_mem_cons.mpr ⟨⟨mo_pi _ _ _ _, Or.inl (ok_pi (ty := .int) (C := RX11) (T := TX11) (N := 93) (ci := 11) (k := 0) rfl inX11 (by decide) fl_X11_1 (by decide +kernel) tyX11 tyX11_ok nmX11 (by decide +kernel) (by decide +kernel) (by decide +kernel))⟩,
  List.forall_mem_cons.mpr ⟨⟨mo_al _ _, Or.inl (ok_aload_n (k := 0) rfl (by decide +kernel))⟩,
  List.forall_mem_cons.mpr ⟨⟨mo_il _ _, Or.inl (ok_iload_n (k := 1) rfl (by decide +kernel))⟩,
  List.forall_mem_cons.mpr ⟨⟨mo_inv _ _ _ _ _, Or.inr (Or.inl (ok_inv (T := TX11) (N := 93) rfl cw_X11_isPerson (by decide) (by decide) ml_X11_37 ci_X11_isPerson cv_X11_isPerson (show Cond.initialized (yX11_isPerson).cls ∈ am_ts from ci9_RX11) ⟨by decide +kernel, by decide +kernel, by decide +kernel⟩ rfl (by decide +kernel)))⟩,
  List.forall_mem_cons.mpr ⟨⟨mo_if1 _ _ _, Or.inl (ok_if_eq (off := 24) (by decide) (by decide +kernel))⟩,
  List.forall_mem_cons.mpr ⟨⟨mo_al _ _, Or.inl (ok_aload_n (k := 0) rfl (by decide +kernel))⟩,
  List.forall_mem_cons.mpr ⟨⟨mo_il _ _, Or.inl (ok_iload_n (k := 2) rfl (by decide +kernel))⟩,
  List.forall_mem_cons.mpr ⟨⟨mo_invs _ _ _, Or.inr (Or.inl (ok_invs cw_X11_isDay (by decide) (by decide) ml_X11_47 cs_X11_isDay (show Cond.initialized (yX11_isDay).cls ∈ am_ts from ci9_RX11) ⟨by decide +kernel, by decide +kernel, by decide +kernel⟩ rfl (by decide +kernel)))⟩,
  List.forall_mem_cons.mpr ⟨⟨mo_ic _ _, Or.inl (ok_iconst (n := 1) (v := 1) (by decide) (by decide +kernel))⟩,
  List.forall_mem_cons.mpr ⟨⟨mo_inv _ _ _ _ _, Or.inr (Or.inl (ok_inv (T := TX11) (N := 93) rfl cw_X11_right (by decide) (by decide) ml_X11_32 ci_X11_right cv_X11_right (show Cond.initialized (yX11_right).cls ∈ am_ts from ci9_RX11) ⟨by decide +kernel, by decide +kernel, by decide +kernel⟩ rfl (by decide +kernel)))⟩,
  List.forall_mem_cons.mpr ⟨⟨mo_if1 _ _ _, Or.inl (ok_if_eq (off := 12) (by decide) (by decide +kernel))⟩,
  List.forall_mem_cons.mpr ⟨⟨mo_al _ _, Or.inl (ok_aload_n (k := 0) rfl (by decide +kernel))⟩,
  List.forall_mem_cons.mpr ⟨⟨mo_il _ _, Or.inl (ok_iload (by decide +kernel))⟩,
  List.forall_mem_cons.mpr ⟨⟨mo_inv _ _ _ _ _, Or.inr (Or.inl (ok_inv (T := TX11) (N := 93) rfl cw_X11_isEvening (by decide) (by decide) ml_X11_471 ci_X11_isEvening cv_X11_isEvening (show Cond.initialized (yX11_isEvening).cls ∈ am_ts from ci9_RX11) ⟨by decide +kernel, by decide +kernel, by decide +kernel⟩ rfl (by decide +kernel)))⟩,
  List.forall_mem_cons.mpr ⟨⟨mo_if1 _ _ _, Or.inl (ok_if_ne (off := 5) (by decide) (by decide +kernel))⟩,
  List.forall_mem_cons.mpr ⟨⟨mo_ic _ _, Or.inl (ok_iconst (n := 0) (v := 0) (by decide) (by decide +kernel))⟩,
  List.forall_mem_cons.mpr ⟨⟨mo_reti, Or.inr (Or.inr (ok_reti rfl (by decide +kernel)))⟩,
  List.forall_mem_cons.mpr ⟨⟨mo_al _ _, Or.inl (ok_aload_n (k := 0) rfl (by decide +kernel))⟩,
  fun _ h => absurd h List.not_mem_nil⟩⟩⟩⟩⟩⟩⟩⟩⟩⟩⟩⟩⟩⟩⟩⟩⟩⟩⟩⟩
def t_X11_lands_1 : List (Nat × am_F) := [(37, im_il 4 39), (39, im_inv q_SH 11 143 1 42), (42, im_al 0 43), (43, im_il 3 44), (44, im_if1 ib_lt 59 47), (47, im_il 3 48), (48, im_al 0 49), (49, im_gi q_SH 11 52 52), (52, im_if2 ic_ge 59 55), (55, im_ic 1 56), (56, im_go 60), (59, im_ic 0 60), (60, im_ic 1 61), (61, im_inv q_SH 11 103 2 64), (64, im_if1 ib_ne 69 67), (67, im_ic 0 68), (68, im_reti), (69, im_al 0 70), (70, im_il 2 71), (71, im_il 4 73)]
set_option maxRecDepth 20000 in
theorem o_X11_lands_1 : ∀ q ∈ t_X11_lands_1, am_ok vwCl q_SH ξ (q_E ξ β xs L) q_EN q_KD q_ML (cX11_lands, 5, RX11, "lands", (some .int), []) q.1 q.2 :=
  List.forall_mem_cons.mpr ⟨⟨mo_il _ _, Or.inl (ok_iload (by decide +kernel))⟩,
  List.forall_mem_cons.mpr ⟨⟨mo_inv _ _ _ _ _, Or.inr (Or.inl (ok_inv (T := TX11) (N := 93) rfl cw_X11_findsDoubts (by decide) (by decide) ml_X11_456 ci_X11_findsDoubts cv_X11_findsDoubts (show Cond.initialized (yX11_findsDoubts).cls ∈ am_ts from ci9_RX11) ⟨by decide +kernel, by decide +kernel, by decide +kernel⟩ rfl (by decide +kernel)))⟩,
  List.forall_mem_cons.mpr ⟨⟨mo_al _ _, Or.inl (ok_aload_n (k := 0) rfl (by decide +kernel))⟩,
  List.forall_mem_cons.mpr ⟨⟨mo_il _ _, Or.inl (ok_iload_n (k := 3) rfl (by decide +kernel))⟩,
  List.forall_mem_cons.mpr ⟨⟨mo_if1 _ _ _, Or.inl (ok_if_lt (off := 15) (by decide) (by decide +kernel))⟩,
  List.forall_mem_cons.mpr ⟨⟨mo_il _ _, Or.inl (ok_iload_n (k := 3) rfl (by decide +kernel))⟩,
  List.forall_mem_cons.mpr ⟨⟨mo_al _ _, Or.inl (ok_aload_n (k := 0) rfl (by decide +kernel))⟩,
  List.forall_mem_cons.mpr ⟨⟨mo_gi _ _ _ _, Or.inl (ok_gi (C := RX11) (T := TX11) (N := 93) (ci := 11) (k := 52) rfl inX11 (by decide) fl_X11_349 (by decide +kernel) (by decide +kernel))⟩,
  List.forall_mem_cons.mpr ⟨⟨mo_if2 _ _ _, Or.inl (ok_icmp_ge (off := 7) (by decide) (by decide +kernel))⟩,
  List.forall_mem_cons.mpr ⟨⟨mo_ic _ _, Or.inl (ok_iconst (n := 1) (v := 1) (by decide) (by decide +kernel))⟩,
  List.forall_mem_cons.mpr ⟨⟨mo_go _, Or.inl (ok_goto (off := 4) (by decide) (by decide +kernel))⟩,
  List.forall_mem_cons.mpr ⟨⟨mo_ic _ _, Or.inl (ok_iconst (n := 0) (v := 0) (by decide) (by decide +kernel))⟩,
  List.forall_mem_cons.mpr ⟨⟨mo_ic _ _, Or.inl (ok_iconst (n := 1) (v := 1) (by decide) (by decide +kernel))⟩,
  List.forall_mem_cons.mpr ⟨⟨mo_inv _ _ _ _ _, Or.inr (Or.inl (ok_inv (T := TX11) (N := 93) rfl cw_X11_right (by decide) (by decide) ml_X11_32 ci_X11_right cv_X11_right (show Cond.initialized (yX11_right).cls ∈ am_ts from ci9_RX11) ⟨by decide +kernel, by decide +kernel, by decide +kernel⟩ rfl (by decide +kernel)))⟩,
  List.forall_mem_cons.mpr ⟨⟨mo_if1 _ _ _, Or.inl (ok_if_ne (off := 5) (by decide) (by decide +kernel))⟩,
  List.forall_mem_cons.mpr ⟨⟨mo_ic _ _, Or.inl (ok_iconst (n := 0) (v := 0) (by decide) (by decide +kernel))⟩,
  List.forall_mem_cons.mpr ⟨⟨mo_reti, Or.inr (Or.inr (ok_reti rfl (by decide +kernel)))⟩,
  List.forall_mem_cons.mpr ⟨⟨mo_al _ _, Or.inl (ok_aload_n (k := 0) rfl (by decide +kernel))⟩,
  List.forall_mem_cons.mpr ⟨⟨mo_il _ _, Or.inl (ok_iload_n (k := 2) rfl (by decide +kernel))⟩,
  List.forall_mem_cons.mpr ⟨⟨mo_il _ _, Or.inl (ok_iload (by decide +kernel))⟩,
  fun _ h => absurd h List.not_mem_nil⟩⟩⟩⟩⟩⟩⟩⟩⟩⟩⟩⟩⟩⟩⟩⟩⟩⟩⟩⟩
def t_X11_lands_2 : List (Nat × am_F) := [(73, im_inv q_SH 11 166 2 76), (76, im_al 0 77), (77, im_gr q_SH 11 91 80), (80, im_ic 20 82), (82, im_il 3 83), (83, im_bin (fun x y => x * y) 84), (84, im_il 1 85), (85, im_bin (fun x y => x + y) 86), (86, im_ald q_SH .int 87), (87, im_reti)]
set_option maxRecDepth 20000 in
theorem o_X11_lands_2 : ∀ q ∈ t_X11_lands_2, am_ok vwCl q_SH ξ (q_E ξ β xs L) q_EN q_KD q_ML (cX11_lands, 5, RX11, "lands", (some .int), []) q.1 q.2 :=
  List.forall_mem_cons.mpr ⟨⟨mo_inv _ _ _ _ _, Or.inr (Or.inl (ok_inv (T := TX11) (N := 93) rfl cw_X11_finds (by decide) (by decide) ml_X11_478 ci_X11_finds cv_X11_finds (show Cond.initialized (yX11_finds).cls ∈ am_ts from ci9_RX11) ⟨by decide +kernel, by decide +kernel, by decide +kernel⟩ rfl (by decide +kernel)))⟩,
  List.forall_mem_cons.mpr ⟨⟨mo_al _ _, Or.inl (ok_aload_n (k := 0) rfl (by decide +kernel))⟩,
  List.forall_mem_cons.mpr ⟨⟨mo_gr _ _ _ _, Or.inl (ok_gr (C := RX11) (T := TX11) (N := 93) (ci := 11) (k := 91) rfl inX11 (by decide) fl_X11_262 (by decide +kernel) (by decide +kernel))⟩,
  List.forall_mem_cons.mpr ⟨⟨mo_ic _ _, Or.inl (ok_bipush (n := 20) (v := 20) (by decide) (by decide +kernel))⟩,
  List.forall_mem_cons.mpr ⟨⟨mo_il _ _, Or.inl (ok_iload_n (k := 3) rfl (by decide +kernel))⟩,
  List.forall_mem_cons.mpr ⟨⟨mo_bin _ _, Or.inl (ok_imul (by decide +kernel))⟩,
  List.forall_mem_cons.mpr ⟨⟨mo_il _ _, Or.inl (ok_iload_n (k := 1) rfl (by decide +kernel))⟩,
  List.forall_mem_cons.mpr ⟨⟨mo_bin _ _, Or.inl (ok_iadd (by decide +kernel))⟩,
  List.forall_mem_cons.mpr ⟨⟨mo_ald _ _ _, Or.inl (ok_iald (by decide +kernel))⟩,
  List.forall_mem_cons.mpr ⟨⟨mo_reti, Or.inr (Or.inr (ok_reti rfl (by decide +kernel)))⟩,
  fun _ h => absurd h List.not_mem_nil⟩⟩⟩⟩⟩⟩⟩⟩⟩⟩
def t_X11_lands : List (Nat × am_F) := t_X11_lands_0 ++ (t_X11_lands_1 ++ (t_X11_lands_2))
theorem o_X11_lands : ∀ q ∈ t_X11_lands, am_ok vwCl q_SH ξ (q_E ξ β xs L) q_EN q_KD q_ML (cX11_lands, 5, RX11, "lands", (some .int), []) q.1 q.2 := List.forall_mem_append.mpr ⟨o_X11_lands_0, List.forall_mem_append.mpr ⟨o_X11_lands_1, o_X11_lands_2⟩⟩
def t_X11_chain_0 : List (Nat × am_F) := [(0, im_al 0 1), (1, im_ic 0 2), (2, im_pi q_SH 11 0 5), (5, im_al 0 6), (6, im_il 1 7), (7, im_inv q_SH 11 107 1 10), (10, im_if1 ib_eq 61 13), (13, im_al 0 14), (14, im_il 2 15), (15, im_inv q_SH 11 108 1 18), (18, im_if1 ib_eq 61 21), (21, im_al 0 22), (22, im_il 3 23), (23, im_invs 109 1 26), (26, im_if1 ib_eq 44 29), (29, im_il 5 31), (31, im_if1 ib_lt 44 34), (34, im_il 5 36), (36, im_ic 5 37), (37, im_if2 ic_gt 44 40)]
set_option maxRecDepth 20000 in
theorem o_X11_chain_0 : ∀ q ∈ t_X11_chain_0, am_ok vwCl q_SH ξ (q_E ξ β xs L) q_EN q_KD q_ML (cX11_chain, 10, RX11, "chain", (some .int), []) q.1 q.2 :=
  List.forall_mem_cons.mpr ⟨⟨mo_al _ _, Or.inl (ok_aload_n (k := 0) rfl (by decide +kernel))⟩,
  List.forall_mem_cons.mpr ⟨⟨mo_ic _ _, Or.inl (ok_iconst (n := 0) (v := 0) (by decide) (by decide +kernel))⟩,
  List.forall_mem_cons.mpr ⟨⟨mo_pi _ _ _ _, Or.inl (ok_pi (ty := .int) (C := RX11) (T := TX11) (N := 93) (ci := 11) (k := 0) rfl inX11 (by decide) fl_X11_1 (by decide +kernel) tyX11 tyX11_ok nmX11 (by decide +kernel) (by decide +kernel) (by decide +kernel))⟩,
  List.forall_mem_cons.mpr ⟨⟨mo_al _ _, Or.inl (ok_aload_n (k := 0) rfl (by decide +kernel))⟩,
  List.forall_mem_cons.mpr ⟨⟨mo_il _ _, Or.inl (ok_iload_n (k := 1) rfl (by decide +kernel))⟩,
  List.forall_mem_cons.mpr ⟨⟨mo_inv _ _ _ _ _, Or.inr (Or.inl (ok_inv (T := TX11) (N := 93) rfl cw_X11_isPerson (by decide) (by decide) ml_X11_37 ci_X11_isPerson cv_X11_isPerson (show Cond.initialized (yX11_isPerson).cls ∈ am_ts from ci9_RX11) ⟨by decide +kernel, by decide +kernel, by decide +kernel⟩ rfl (by decide +kernel)))⟩,
  List.forall_mem_cons.mpr ⟨⟨mo_if1 _ _ _, Or.inl (ok_if_eq (off := 51) (by decide) (by decide +kernel))⟩,
  List.forall_mem_cons.mpr ⟨⟨mo_al _ _, Or.inl (ok_aload_n (k := 0) rfl (by decide +kernel))⟩,
  List.forall_mem_cons.mpr ⟨⟨mo_il _ _, Or.inl (ok_iload_n (k := 2) rfl (by decide +kernel))⟩,
  List.forall_mem_cons.mpr ⟨⟨mo_inv _ _ _ _ _, Or.inr (Or.inl (ok_inv (T := TX11) (N := 93) rfl cw_X11_isLand (by decide) (by decide) ml_X11_41 ci_X11_isLand cv_X11_isLand (show Cond.initialized (yX11_isLand).cls ∈ am_ts from ci9_RX11) ⟨by decide +kernel, by decide +kernel, by decide +kernel⟩ rfl (by decide +kernel)))⟩,
  List.forall_mem_cons.mpr ⟨⟨mo_if1 _ _ _, Or.inl (ok_if_eq (off := 43) (by decide) (by decide +kernel))⟩,
  List.forall_mem_cons.mpr ⟨⟨mo_al _ _, Or.inl (ok_aload_n (k := 0) rfl (by decide +kernel))⟩,
  List.forall_mem_cons.mpr ⟨⟨mo_il _ _, Or.inl (ok_iload_n (k := 3) rfl (by decide +kernel))⟩,
  List.forall_mem_cons.mpr ⟨⟨mo_invs _ _ _, Or.inr (Or.inl (ok_invs cw_X11_isDay (by decide) (by decide) ml_X11_47 cs_X11_isDay (show Cond.initialized (yX11_isDay).cls ∈ am_ts from ci9_RX11) ⟨by decide +kernel, by decide +kernel, by decide +kernel⟩ rfl (by decide +kernel)))⟩,
  List.forall_mem_cons.mpr ⟨⟨mo_if1 _ _ _, Or.inl (ok_if_eq (off := 18) (by decide) (by decide +kernel))⟩,
  List.forall_mem_cons.mpr ⟨⟨mo_il _ _, Or.inl (ok_iload (by decide +kernel))⟩,
  List.forall_mem_cons.mpr ⟨⟨mo_if1 _ _ _, Or.inl (ok_if_lt (off := 13) (by decide) (by decide +kernel))⟩,
  List.forall_mem_cons.mpr ⟨⟨mo_il _ _, Or.inl (ok_iload (by decide +kernel))⟩,
  List.forall_mem_cons.mpr ⟨⟨mo_ic _ _, Or.inl (ok_iconst (n := 5) (v := 5) (by decide) (by decide +kernel))⟩,
  List.forall_mem_cons.mpr ⟨⟨mo_if2 _ _ _, Or.inl (ok_icmp_gt (off := 7) (by decide) (by decide +kernel))⟩,
  fun _ h => absurd h List.not_mem_nil⟩⟩⟩⟩⟩⟩⟩⟩⟩⟩⟩⟩⟩⟩⟩⟩⟩⟩⟩⟩
def t_X11_chain_1 : List (Nat × am_F) := [(40, im_ic 1 41), (41, im_go 45), (44, im_ic 0 45), (45, im_ic 1 46), (46, im_inv q_SH 11 103 2 49), (49, im_if1 ib_eq 61 52), (52, im_al 0 53), (53, im_il 6 55), (55, im_inv q_SH 11 167 1 58), (58, im_if1 ib_ne 63 61), (61, im_ic 0 62), (62, im_reti), (63, im_al 0 64), (64, im_il 6 66), (66, im_inv q_SH 11 143 1 69), (69, im_al 0 70), (70, im_ic 0 71), (71, im_il 3 72), (72, im_il 6 74), (74, im_ic (-1) 75)]
set_option maxRecDepth 20000 in
theorem o_X11_chain_1 : ∀ q ∈ t_X11_chain_1, am_ok vwCl q_SH ξ (q_E ξ β xs L) q_EN q_KD q_ML (cX11_chain, 10, RX11, "chain", (some .int), []) q.1 q.2 :=
  List.forall_mem_cons.mpr ⟨⟨mo_ic _ _, Or.inl (ok_iconst (n := 1) (v := 1) (by decide) (by decide +kernel))⟩,
  List.forall_mem_cons.mpr ⟨⟨mo_go _, Or.inl (ok_goto (off := 4) (by decide) (by decide +kernel))⟩,
  List.forall_mem_cons.mpr ⟨⟨mo_ic _ _, Or.inl (ok_iconst (n := 0) (v := 0) (by decide) (by decide +kernel))⟩,
  List.forall_mem_cons.mpr ⟨⟨mo_ic _ _, Or.inl (ok_iconst (n := 1) (v := 1) (by decide) (by decide +kernel))⟩,
  List.forall_mem_cons.mpr ⟨⟨mo_inv _ _ _ _ _, Or.inr (Or.inl (ok_inv (T := TX11) (N := 93) rfl cw_X11_right (by decide) (by decide) ml_X11_32 ci_X11_right cv_X11_right (show Cond.initialized (yX11_right).cls ∈ am_ts from ci9_RX11) ⟨by decide +kernel, by decide +kernel, by decide +kernel⟩ rfl (by decide +kernel)))⟩,
  List.forall_mem_cons.mpr ⟨⟨mo_if1 _ _ _, Or.inl (ok_if_eq (off := 12) (by decide) (by decide +kernel))⟩,
  List.forall_mem_cons.mpr ⟨⟨mo_al _ _, Or.inl (ok_aload_n (k := 0) rfl (by decide +kernel))⟩,
  List.forall_mem_cons.mpr ⟨⟨mo_il _ _, Or.inl (ok_iload (by decide +kernel))⟩,
  List.forall_mem_cons.mpr ⟨⟨mo_inv _ _ _ _ _, Or.inr (Or.inl (ok_inv (T := TX11) (N := 93) rfl cw_X11_isEvening (by decide) (by decide) ml_X11_471 ci_X11_isEvening cv_X11_isEvening (show Cond.initialized (yX11_isEvening).cls ∈ am_ts from ci9_RX11) ⟨by decide +kernel, by decide +kernel, by decide +kernel⟩ rfl (by decide +kernel)))⟩,
  List.forall_mem_cons.mpr ⟨⟨mo_if1 _ _ _, Or.inl (ok_if_ne (off := 5) (by decide) (by decide +kernel))⟩,
  List.forall_mem_cons.mpr ⟨⟨mo_ic _ _, Or.inl (ok_iconst (n := 0) (v := 0) (by decide) (by decide +kernel))⟩,
  List.forall_mem_cons.mpr ⟨⟨mo_reti, Or.inr (Or.inr (ok_reti rfl (by decide +kernel)))⟩,
  List.forall_mem_cons.mpr ⟨⟨mo_al _ _, Or.inl (ok_aload_n (k := 0) rfl (by decide +kernel))⟩,
  List.forall_mem_cons.mpr ⟨⟨mo_il _ _, Or.inl (ok_iload (by decide +kernel))⟩,
  List.forall_mem_cons.mpr ⟨⟨mo_inv _ _ _ _ _, Or.inr (Or.inl (ok_inv (T := TX11) (N := 93) rfl cw_X11_findsDoubts (by decide) (by decide) ml_X11_456 ci_X11_findsDoubts cv_X11_findsDoubts (show Cond.initialized (yX11_findsDoubts).cls ∈ am_ts from ci9_RX11) ⟨by decide +kernel, by decide +kernel, by decide +kernel⟩ rfl (by decide +kernel)))⟩,
  List.forall_mem_cons.mpr ⟨⟨mo_al _ _, Or.inl (ok_aload_n (k := 0) rfl (by decide +kernel))⟩,
  List.forall_mem_cons.mpr ⟨⟨mo_ic _ _, Or.inl (ok_iconst (n := 0) (v := 0) (by decide) (by decide +kernel))⟩,
  List.forall_mem_cons.mpr ⟨⟨mo_il _ _, Or.inl (ok_iload_n (k := 3) rfl (by decide +kernel))⟩,
  List.forall_mem_cons.mpr ⟨⟨mo_il _ _, Or.inl (ok_iload (by decide +kernel))⟩,
  List.forall_mem_cons.mpr ⟨⟨mo_ic _ _, Or.inl (ok_iconst (n := (-1)) (v := (-1)) (by decide) (by decide +kernel))⟩,
  fun _ h => absurd h List.not_mem_nil⟩⟩⟩⟩⟩⟩⟩⟩⟩⟩⟩⟩⟩⟩⟩⟩⟩⟩⟩⟩
def t_X11_chain_2 : List (Nat × am_F) := [(75, im_inv q_SH 11 147 4 78), (78, im_ic 0 79), (79, im_is 7 81), (81, im_ic (-1) 82), (82, im_is 8 84), (84, im_al 0 85), (85, im_gr q_SH 11 63 88), (88, im_ic 5 89), (89, im_il 1 90), (90, im_bin (fun x y => x * y) 91), (91, im_il 2 92), (92, im_bin (fun x y => x + y) 93), (93, im_ald q_SH .int 94), (94, im_is 9 96), (96, im_il 9 98), (98, im_ic (-1) 99), (99, im_if2 ic_eq 135 102), (102, im_il 7 104), (104, im_ic 40 106), (106, im_if2 ic_ge 135 109)]
set_option maxRecDepth 20000 in
theorem o_X11_chain_2 : ∀ q ∈ t_X11_chain_2, am_ok vwCl q_SH ξ (q_E ξ β xs L) q_EN q_KD q_ML (cX11_chain, 10, RX11, "chain", (some .int), []) q.1 q.2 :=
  List.forall_mem_cons.mpr ⟨⟨mo_inv _ _ _ _ _, Or.inr (Or.inl (ok_inv (T := TX11) (N := 93) rfl cw_X11_runs (by decide) (by decide) ml_X11_468 ci_X11_runs cv_X11_runs (show Cond.initialized (yX11_runs).cls ∈ am_ts from ci9_RX11) ⟨by decide +kernel, by decide +kernel, by decide +kernel⟩ rfl (by decide +kernel)))⟩,
  List.forall_mem_cons.mpr ⟨⟨mo_ic _ _, Or.inl (ok_iconst (n := 0) (v := 0) (by decide) (by decide +kernel))⟩,
  List.forall_mem_cons.mpr ⟨⟨mo_is _ _, Or.inl (ok_istore (by decide) (by decide +kernel))⟩,
  List.forall_mem_cons.mpr ⟨⟨mo_ic _ _, Or.inl (ok_iconst (n := (-1)) (v := (-1)) (by decide) (by decide +kernel))⟩,
  List.forall_mem_cons.mpr ⟨⟨mo_is _ _, Or.inl (ok_istore (by decide) (by decide +kernel))⟩,
  List.forall_mem_cons.mpr ⟨⟨mo_al _ _, Or.inl (ok_aload_n (k := 0) rfl (by decide +kernel))⟩,
  List.forall_mem_cons.mpr ⟨⟨mo_gr _ _ _ _, Or.inl (ok_gr (C := RX11) (T := TX11) (N := 93) (ci := 11) (k := 63) rfl inX11 (by decide) fl_X11_214 (by decide +kernel) (by decide +kernel))⟩,
  List.forall_mem_cons.mpr ⟨⟨mo_ic _ _, Or.inl (ok_iconst (n := 5) (v := 5) (by decide) (by decide +kernel))⟩,
  List.forall_mem_cons.mpr ⟨⟨mo_il _ _, Or.inl (ok_iload_n (k := 1) rfl (by decide +kernel))⟩,
  List.forall_mem_cons.mpr ⟨⟨mo_bin _ _, Or.inl (ok_imul (by decide +kernel))⟩,
  List.forall_mem_cons.mpr ⟨⟨mo_il _ _, Or.inl (ok_iload_n (k := 2) rfl (by decide +kernel))⟩,
  List.forall_mem_cons.mpr ⟨⟨mo_bin _ _, Or.inl (ok_iadd (by decide +kernel))⟩,
  List.forall_mem_cons.mpr ⟨⟨mo_ald _ _ _, Or.inl (ok_iald (by decide +kernel))⟩,
  List.forall_mem_cons.mpr ⟨⟨mo_is _ _, Or.inl (ok_istore (by decide) (by decide +kernel))⟩,
  List.forall_mem_cons.mpr ⟨⟨mo_il _ _, Or.inl (ok_iload (by decide +kernel))⟩,
  List.forall_mem_cons.mpr ⟨⟨mo_ic _ _, Or.inl (ok_iconst (n := (-1)) (v := (-1)) (by decide) (by decide +kernel))⟩,
  List.forall_mem_cons.mpr ⟨⟨mo_if2 _ _ _, Or.inl (ok_icmp_eq (off := 36) (by decide) (by decide +kernel))⟩,
  List.forall_mem_cons.mpr ⟨⟨mo_il _ _, Or.inl (ok_iload (by decide +kernel))⟩,
  List.forall_mem_cons.mpr ⟨⟨mo_ic _ _, Or.inl (ok_bipush (n := 40) (v := 40) (by decide) (by decide +kernel))⟩,
  List.forall_mem_cons.mpr ⟨⟨mo_if2 _ _ _, Or.inl (ok_icmp_ge (off := 29) (by decide) (by decide +kernel))⟩,
  fun _ h => absurd h List.not_mem_nil⟩⟩⟩⟩⟩⟩⟩⟩⟩⟩⟩⟩⟩⟩⟩⟩⟩⟩⟩⟩
def t_X11_chain_3 : List (Nat × am_F) := [(109, im_il 7 111), (111, im_il 4 113), (113, im_if2 ic_ne 120 116), (116, im_il 9 118), (118, im_is 8 120), (120, im_iinc 7 1 123), (123, im_al 0 124), (124, im_gr q_SH 11 71 127), (127, im_il 9 129), (129, im_ald q_SH .int 130), (130, im_is 9 132), (132, im_go 96), (135, im_il 4 137), (137, im_ic (-1) 138), (138, im_if2 ic_ne 144 141), (141, im_il 7 143), (143, im_reti), (144, im_al 0 145), (145, im_il 4 147), (147, im_if1 ib_lt 160 150)]
set_option maxRecDepth 20000 in
theorem o_X11_chain_3 : ∀ q ∈ t_X11_chain_3, am_ok vwCl q_SH ξ (q_E ξ β xs L) q_EN q_KD q_ML (cX11_chain, 10, RX11, "chain", (some .int), []) q.1 q.2 :=
  List.forall_mem_cons.mpr ⟨⟨mo_il _ _, Or.inl (ok_iload (by decide +kernel))⟩,
  List.forall_mem_cons.mpr ⟨⟨mo_il _ _, Or.inl (ok_iload (by decide +kernel))⟩,
  List.forall_mem_cons.mpr ⟨⟨mo_if2 _ _ _, Or.inl (ok_icmp_ne (off := 7) (by decide) (by decide +kernel))⟩,
  List.forall_mem_cons.mpr ⟨⟨mo_il _ _, Or.inl (ok_iload (by decide +kernel))⟩,
  List.forall_mem_cons.mpr ⟨⟨mo_is _ _, Or.inl (ok_istore (by decide) (by decide +kernel))⟩,
  List.forall_mem_cons.mpr ⟨⟨mo_iinc _ _ _, Or.inl (ok_iinc (n := 1) (v := 1) (by decide) (by decide) (by decide +kernel))⟩,
  List.forall_mem_cons.mpr ⟨⟨mo_al _ _, Or.inl (ok_aload_n (k := 0) rfl (by decide +kernel))⟩,
  List.forall_mem_cons.mpr ⟨⟨mo_gr _ _ _ _, Or.inl (ok_gr (C := RX11) (T := TX11) (N := 93) (ci := 11) (k := 71) rfl inX11 (by decide) fl_X11_235 (by decide +kernel) (by decide +kernel))⟩,
  List.forall_mem_cons.mpr ⟨⟨mo_il _ _, Or.inl (ok_iload (by decide +kernel))⟩,
  List.forall_mem_cons.mpr ⟨⟨mo_ald _ _ _, Or.inl (ok_iald (by decide +kernel))⟩,
  List.forall_mem_cons.mpr ⟨⟨mo_is _ _, Or.inl (ok_istore (by decide) (by decide +kernel))⟩,
  List.forall_mem_cons.mpr ⟨⟨mo_go _, Or.inl (ok_goto (off := (-36)) (by decide) (by decide +kernel))⟩,
  List.forall_mem_cons.mpr ⟨⟨mo_il _ _, Or.inl (ok_iload (by decide +kernel))⟩,
  List.forall_mem_cons.mpr ⟨⟨mo_ic _ _, Or.inl (ok_iconst (n := (-1)) (v := (-1)) (by decide) (by decide +kernel))⟩,
  List.forall_mem_cons.mpr ⟨⟨mo_if2 _ _ _, Or.inl (ok_icmp_ne (off := 6) (by decide) (by decide +kernel))⟩,
  List.forall_mem_cons.mpr ⟨⟨mo_il _ _, Or.inl (ok_iload (by decide +kernel))⟩,
  List.forall_mem_cons.mpr ⟨⟨mo_reti, Or.inr (Or.inr (ok_reti rfl (by decide +kernel)))⟩,
  List.forall_mem_cons.mpr ⟨⟨mo_al _ _, Or.inl (ok_aload_n (k := 0) rfl (by decide +kernel))⟩,
  List.forall_mem_cons.mpr ⟨⟨mo_il _ _, Or.inl (ok_iload (by decide +kernel))⟩,
  List.forall_mem_cons.mpr ⟨⟨mo_if1 _ _ _, Or.inl (ok_if_lt (off := 13) (by decide) (by decide +kernel))⟩,
  fun _ h => absurd h List.not_mem_nil⟩⟩⟩⟩⟩⟩⟩⟩⟩⟩⟩⟩⟩⟩⟩⟩⟩⟩⟩⟩
def t_X11_chain_4 : List (Nat × am_F) := [(150, im_il 8 152), (152, im_ic (-1) 153), (153, im_if2 ic_eq 160 156), (156, im_ic 1 157), (157, im_go 161), (160, im_ic 0 161), (161, im_ic 1 162), (162, im_inv q_SH 11 103 2 165), (165, im_if1 ib_ne 170 168), (168, im_ic 0 169), (169, im_reti), (170, im_il 5 172), (172, im_sw (q_sw 0 4 [208, 216, 224, 235, 246] 254)), (208, im_al 0 209), (209, im_gr q_SH 11 67 212), (212, im_il 8 214), (214, im_ald q_SH .int 215), (215, im_reti), (216, im_al 0 217), (217, im_gr q_SH 11 68 220)]
set_option maxRecDepth 20000 in
theorem o_X11_chain_4 : ∀ q ∈ t_X11_chain_4, am_ok vwCl q_SH ξ (q_E ξ β xs L) q_EN q_KD q_ML (cX11_chain, 10, RX11, "chain", (some .int), []) q.1 q.2 :=
  List.forall_mem_cons.mpr ⟨⟨mo_il _ _, Or.inl (ok_iload (by decide +kernel))⟩,
  List.forall_mem_cons.mpr ⟨⟨mo_ic _ _, Or.inl (ok_iconst (n := (-1)) (v := (-1)) (by decide) (by decide +kernel))⟩,
  List.forall_mem_cons.mpr ⟨⟨mo_if2 _ _ _, Or.inl (ok_icmp_eq (off := 7) (by decide) (by decide +kernel))⟩,
  List.forall_mem_cons.mpr ⟨⟨mo_ic _ _, Or.inl (ok_iconst (n := 1) (v := 1) (by decide) (by decide +kernel))⟩,
  List.forall_mem_cons.mpr ⟨⟨mo_go _, Or.inl (ok_goto (off := 4) (by decide) (by decide +kernel))⟩,
  List.forall_mem_cons.mpr ⟨⟨mo_ic _ _, Or.inl (ok_iconst (n := 0) (v := 0) (by decide) (by decide +kernel))⟩,
  List.forall_mem_cons.mpr ⟨⟨mo_ic _ _, Or.inl (ok_iconst (n := 1) (v := 1) (by decide) (by decide +kernel))⟩,
  List.forall_mem_cons.mpr ⟨⟨mo_inv _ _ _ _ _, Or.inr (Or.inl (ok_inv (T := TX11) (N := 93) rfl cw_X11_right (by decide) (by decide) ml_X11_32 ci_X11_right cv_X11_right (show Cond.initialized (yX11_right).cls ∈ am_ts from ci9_RX11) ⟨by decide +kernel, by decide +kernel, by decide +kernel⟩ rfl (by decide +kernel)))⟩,
  List.forall_mem_cons.mpr ⟨⟨mo_if1 _ _ _, Or.inl (ok_if_ne (off := 5) (by decide) (by decide +kernel))⟩,
  List.forall_mem_cons.mpr ⟨⟨mo_ic _ _, Or.inl (ok_iconst (n := 0) (v := 0) (by decide) (by decide +kernel))⟩,
  List.forall_mem_cons.mpr ⟨⟨mo_reti, Or.inr (Or.inr (ok_reti rfl (by decide +kernel)))⟩,
  List.forall_mem_cons.mpr ⟨⟨mo_il _ _, Or.inl (ok_iload (by decide +kernel))⟩,
  List.forall_mem_cons.mpr ⟨⟨mo_sw (q_sw 0 4 [208, 216, 224, 235, 246] 254), Or.inl (ok_tsw (dflt := 82) (offs := #[36, 44, 52, 63, 74]) (len := 36) (by decide) (by decide +kernel) (by decide) (by decide +kernel))⟩,
  List.forall_mem_cons.mpr ⟨⟨mo_al _ _, Or.inl (ok_aload_n (k := 0) rfl (by decide +kernel))⟩,
  List.forall_mem_cons.mpr ⟨⟨mo_gr _ _ _ _, Or.inl (ok_gr (C := RX11) (T := TX11) (N := 93) (ci := 11) (k := 67) rfl inX11 (by decide) fl_X11_223 (by decide +kernel) (by decide +kernel))⟩,
  List.forall_mem_cons.mpr ⟨⟨mo_il _ _, Or.inl (ok_iload (by decide +kernel))⟩,
  List.forall_mem_cons.mpr ⟨⟨mo_ald _ _ _, Or.inl (ok_iald (by decide +kernel))⟩,
  List.forall_mem_cons.mpr ⟨⟨mo_reti, Or.inr (Or.inr (ok_reti rfl (by decide +kernel)))⟩,
  List.forall_mem_cons.mpr ⟨⟨mo_al _ _, Or.inl (ok_aload_n (k := 0) rfl (by decide +kernel))⟩,
  List.forall_mem_cons.mpr ⟨⟨mo_gr _ _ _ _, Or.inl (ok_gr (C := RX11) (T := TX11) (N := 93) (ci := 11) (k := 68) rfl inX11 (by decide) fl_X11_226 (by decide +kernel) (by decide +kernel))⟩,
  fun _ h => absurd h List.not_mem_nil⟩⟩⟩⟩⟩⟩⟩⟩⟩⟩⟩⟩⟩⟩⟩⟩⟩⟩⟩⟩
def t_X11_chain_5 : List (Nat × am_F) := [(220, im_il 8 222), (222, im_ald q_SH .int 223), (223, im_reti), (224, im_al 0 225), (225, im_gr q_SH 11 69 228), (228, im_il 8 230), (230, im_ald q_SH .int 231), (231, im_ic 12 233), (233, im_div (fun x y => x / y) 234), (234, im_reti), (235, im_al 0 236), (236, im_gr q_SH 11 69 239), (239, im_il 8 241), (241, im_ald q_SH .int 242), (242, im_ic 12 244), (244, im_div (fun x y => x - x / y * y) 245), (245, im_reti), (246, im_al 0 247), (247, im_gr q_SH 11 70 250), (250, im_il 8 252)]
set_option maxRecDepth 20000 in
theorem o_X11_chain_5 : ∀ q ∈ t_X11_chain_5, am_ok vwCl q_SH ξ (q_E ξ β xs L) q_EN q_KD q_ML (cX11_chain, 10, RX11, "chain", (some .int), []) q.1 q.2 :=
  List.forall_mem_cons.mpr ⟨⟨mo_il _ _, Or.inl (ok_iload (by decide +kernel))⟩,
  List.forall_mem_cons.mpr ⟨⟨mo_ald _ _ _, Or.inl (ok_iald (by decide +kernel))⟩,
  List.forall_mem_cons.mpr ⟨⟨mo_reti, Or.inr (Or.inr (ok_reti rfl (by decide +kernel)))⟩,
  List.forall_mem_cons.mpr ⟨⟨mo_al _ _, Or.inl (ok_aload_n (k := 0) rfl (by decide +kernel))⟩,
  List.forall_mem_cons.mpr ⟨⟨mo_gr _ _ _ _, Or.inl (ok_gr (C := RX11) (T := TX11) (N := 93) (ci := 11) (k := 69) rfl inX11 (by decide) fl_X11_229 (by decide +kernel) (by decide +kernel))⟩,
  List.forall_mem_cons.mpr ⟨⟨mo_il _ _, Or.inl (ok_iload (by decide +kernel))⟩,
  List.forall_mem_cons.mpr ⟨⟨mo_ald _ _ _, Or.inl (ok_iald (by decide +kernel))⟩,
  List.forall_mem_cons.mpr ⟨⟨mo_ic _ _, Or.inl (ok_bipush (n := 12) (v := 12) (by decide) (by decide +kernel))⟩,
  List.forall_mem_cons.mpr ⟨⟨mo_div _ _, Or.inl (ok_idiv (by decide +kernel))⟩,
  List.forall_mem_cons.mpr ⟨⟨mo_reti, Or.inr (Or.inr (ok_reti rfl (by decide +kernel)))⟩,
  List.forall_mem_cons.mpr ⟨⟨mo_al _ _, Or.inl (ok_aload_n (k := 0) rfl (by decide +kernel))⟩,
  List.forall_mem_cons.mpr ⟨⟨mo_gr _ _ _ _, Or.inl (ok_gr (C := RX11) (T := TX11) (N := 93) (ci := 11) (k := 69) rfl inX11 (by decide) fl_X11_229 (by decide +kernel) (by decide +kernel))⟩,
  List.forall_mem_cons.mpr ⟨⟨mo_il _ _, Or.inl (ok_iload (by decide +kernel))⟩,
  List.forall_mem_cons.mpr ⟨⟨mo_ald _ _ _, Or.inl (ok_iald (by decide +kernel))⟩,
  List.forall_mem_cons.mpr ⟨⟨mo_ic _ _, Or.inl (ok_bipush (n := 12) (v := 12) (by decide) (by decide +kernel))⟩,
  List.forall_mem_cons.mpr ⟨⟨mo_div _ _, Or.inl (ok_irem (by decide +kernel))⟩,
  List.forall_mem_cons.mpr ⟨⟨mo_reti, Or.inr (Or.inr (ok_reti rfl (by decide +kernel)))⟩,
  List.forall_mem_cons.mpr ⟨⟨mo_al _ _, Or.inl (ok_aload_n (k := 0) rfl (by decide +kernel))⟩,
  List.forall_mem_cons.mpr ⟨⟨mo_gr _ _ _ _, Or.inl (ok_gr (C := RX11) (T := TX11) (N := 93) (ci := 11) (k := 70) rfl inX11 (by decide) fl_X11_232 (by decide +kernel) (by decide +kernel))⟩,
  List.forall_mem_cons.mpr ⟨⟨mo_il _ _, Or.inl (ok_iload (by decide +kernel))⟩,
  fun _ h => absurd h List.not_mem_nil⟩⟩⟩⟩⟩⟩⟩⟩⟩⟩⟩⟩⟩⟩⟩⟩⟩⟩⟩⟩
def t_X11_chain_6 : List (Nat × am_F) := [(252, im_ald q_SH .int 253), (253, im_reti), (254, im_al 0 255), (255, im_gr q_SH 11 72 258), (258, im_il 8 260), (260, im_ald q_SH .boolean 261), (261, im_invs 155 1 264), (264, im_reti)]
set_option maxRecDepth 20000 in
theorem o_X11_chain_6 : ∀ q ∈ t_X11_chain_6, am_ok vwCl q_SH ξ (q_E ξ β xs L) q_EN q_KD q_ML (cX11_chain, 10, RX11, "chain", (some .int), []) q.1 q.2 :=
  List.forall_mem_cons.mpr ⟨⟨mo_ald _ _ _, Or.inl (ok_iald (by decide +kernel))⟩,
  List.forall_mem_cons.mpr ⟨⟨mo_reti, Or.inr (Or.inr (ok_reti rfl (by decide +kernel)))⟩,
  List.forall_mem_cons.mpr ⟨⟨mo_al _ _, Or.inl (ok_aload_n (k := 0) rfl (by decide +kernel))⟩,
  List.forall_mem_cons.mpr ⟨⟨mo_gr _ _ _ _, Or.inl (ok_gr (C := RX11) (T := TX11) (N := 93) (ci := 11) (k := 72) rfl inX11 (by decide) fl_X11_238 (by decide +kernel) (by decide +kernel))⟩,
  List.forall_mem_cons.mpr ⟨⟨mo_il _ _, Or.inl (ok_iload (by decide +kernel))⟩,
  List.forall_mem_cons.mpr ⟨⟨mo_ald _ _ _, Or.inl (ok_zald (by decide +kernel))⟩,
  List.forall_mem_cons.mpr ⟨⟨mo_invs _ _ _, Or.inr (Or.inl (ok_invs cw_X11_bit (by decide) (by decide) ml_X11_423 cs_X11_bit (show Cond.initialized (yX11_bit).cls ∈ am_ts from ci9_RX11) ⟨by decide +kernel, by decide +kernel, by decide +kernel⟩ rfl (by decide +kernel)))⟩,
  List.forall_mem_cons.mpr ⟨⟨mo_reti, Or.inr (Or.inr (ok_reti rfl (by decide +kernel)))⟩,
  fun _ h => absurd h List.not_mem_nil⟩⟩⟩⟩⟩⟩⟩⟩
def t_X11_chain : List (Nat × am_F) := t_X11_chain_0 ++ (t_X11_chain_1 ++ (t_X11_chain_2 ++ (t_X11_chain_3 ++ (t_X11_chain_4 ++ (t_X11_chain_5 ++ (t_X11_chain_6))))))
theorem o_X11_chain : ∀ q ∈ t_X11_chain, am_ok vwCl q_SH ξ (q_E ξ β xs L) q_EN q_KD q_ML (cX11_chain, 10, RX11, "chain", (some .int), []) q.1 q.2 := List.forall_mem_append.mpr ⟨o_X11_chain_0, List.forall_mem_append.mpr ⟨o_X11_chain_1, List.forall_mem_append.mpr ⟨o_X11_chain_2, List.forall_mem_append.mpr ⟨o_X11_chain_3, List.forall_mem_append.mpr ⟨o_X11_chain_4, List.forall_mem_append.mpr ⟨o_X11_chain_5, o_X11_chain_6⟩⟩⟩⟩⟩⟩
def t_X11_times_0 : List (Nat × am_F) := [(0, im_al 0 1), (1, im_ic 0 2), (2, im_pi q_SH 11 0 5), (5, im_al 0 6), (6, im_il 1 7), (7, im_inv q_SH 11 107 1 10), (10, im_if1 ib_eq 61 13), (13, im_al 0 14), (14, im_il 2 15), (15, im_inv q_SH 11 108 1 18), (18, im_if1 ib_eq 61 21), (21, im_al 0 22), (22, im_il 3 23), (23, im_invs 109 1 26), (26, im_if1 ib_eq 44 29), (29, im_il 4 31), (31, im_if1 ib_eq 40 34), (34, im_il 4 36), (36, im_ic 1 37), (37, im_if2 ic_ne 44 40)]
set_option maxRecDepth 20000 in
theorem o_X11_times_0 : ∀ q ∈ t_X11_times_0, am_ok vwCl q_SH ξ (q_E ξ β xs L) q_EN q_KD q_ML (cX11_times, 6, RX11, "times", (some .int), []) q.1 q.2 :=
  List.forall_mem_cons.mpr ⟨⟨mo_al _ _, Or.inl (ok_aload_n (k := 0) rfl (by decide +kernel))⟩,
  List.forall_mem_cons.mpr ⟨⟨mo_ic _ _, Or.inl (ok_iconst (n := 0) (v := 0) (by decide) (by decide +kernel))⟩,
  List.forall_mem_cons.mpr ⟨⟨mo_pi _ _ _ _, Or.inl (ok_pi (ty := .int) (C := RX11) (T := TX11) (N := 93) (ci := 11) (k := 0) rfl inX11 (by decide) fl_X11_1 (by decide +kernel) tyX11 tyX11_ok nmX11 (by decide +kernel) (by decide +kernel) (by decide +kernel))⟩,
  List.forall_mem_cons.mpr ⟨⟨mo_al _ _, Or.inl (ok_aload_n (k := 0) rfl (by decide +kernel))⟩,
  List.forall_mem_cons.mpr ⟨⟨mo_il _ _, Or.inl (ok_iload_n (k := 1) rfl (by decide +kernel))⟩,
  List.forall_mem_cons.mpr ⟨⟨mo_inv _ _ _ _ _, Or.inr (Or.inl (ok_inv (T := TX11) (N := 93) rfl cw_X11_isPerson (by decide) (by decide) ml_X11_37 ci_X11_isPerson cv_X11_isPerson (show Cond.initialized (yX11_isPerson).cls ∈ am_ts from ci9_RX11) ⟨by decide +kernel, by decide +kernel, by decide +kernel⟩ rfl (by decide +kernel)))⟩,
  List.forall_mem_cons.mpr ⟨⟨mo_if1 _ _ _, Or.inl (ok_if_eq (off := 51) (by decide) (by decide +kernel))⟩,
  List.forall_mem_cons.mpr ⟨⟨mo_al _ _, Or.inl (ok_aload_n (k := 0) rfl (by decide +kernel))⟩,
  List.forall_mem_cons.mpr ⟨⟨mo_il _ _, Or.inl (ok_iload_n (k := 2) rfl (by decide +kernel))⟩,
  List.forall_mem_cons.mpr ⟨⟨mo_inv _ _ _ _ _, Or.inr (Or.inl (ok_inv (T := TX11) (N := 93) rfl cw_X11_isLand (by decide) (by decide) ml_X11_41 ci_X11_isLand cv_X11_isLand (show Cond.initialized (yX11_isLand).cls ∈ am_ts from ci9_RX11) ⟨by decide +kernel, by decide +kernel, by decide +kernel⟩ rfl (by decide +kernel)))⟩,
  List.forall_mem_cons.mpr ⟨⟨mo_if1 _ _ _, Or.inl (ok_if_eq (off := 43) (by decide) (by decide +kernel))⟩,
  List.forall_mem_cons.mpr ⟨⟨mo_al _ _, Or.inl (ok_aload_n (k := 0) rfl (by decide +kernel))⟩,
  List.forall_mem_cons.mpr ⟨⟨mo_il _ _, Or.inl (ok_iload_n (k := 3) rfl (by decide +kernel))⟩,
  List.forall_mem_cons.mpr ⟨⟨mo_invs _ _ _, Or.inr (Or.inl (ok_invs cw_X11_isDay (by decide) (by decide) ml_X11_47 cs_X11_isDay (show Cond.initialized (yX11_isDay).cls ∈ am_ts from ci9_RX11) ⟨by decide +kernel, by decide +kernel, by decide +kernel⟩ rfl (by decide +kernel)))⟩,
  List.forall_mem_cons.mpr ⟨⟨mo_if1 _ _ _, Or.inl (ok_if_eq (off := 18) (by decide) (by decide +kernel))⟩,
  List.forall_mem_cons.mpr ⟨⟨mo_il _ _, Or.inl (ok_iload (by decide +kernel))⟩,
  List.forall_mem_cons.mpr ⟨⟨mo_if1 _ _ _, Or.inl (ok_if_eq (off := 9) (by decide) (by decide +kernel))⟩,
  List.forall_mem_cons.mpr ⟨⟨mo_il _ _, Or.inl (ok_iload (by decide +kernel))⟩,
  List.forall_mem_cons.mpr ⟨⟨mo_ic _ _, Or.inl (ok_iconst (n := 1) (v := 1) (by decide) (by decide +kernel))⟩,
  List.forall_mem_cons.mpr ⟨⟨mo_if2 _ _ _, Or.inl (ok_icmp_ne (off := 7) (by decide) (by decide +kernel))⟩,
  fun _ h => absurd h List.not_mem_nil⟩⟩⟩⟩⟩⟩⟩⟩⟩⟩⟩⟩⟩⟩⟩⟩⟩⟩⟩⟩
def t_X11_times_1 : List (Nat × am_F) := [(40, im_ic 1 41), (41, im_go 45), (44, im_ic 0 45), (45, im_ic 1 46), (46, im_inv q_SH 11 103 2 49), (49, im_if1 ib_eq 61 52), (52, im_al 0 53), (53, im_il 5 55), (55, im_inv q_SH 11 167 1 58), (58, im_if1 ib_ne 63 61), (61, im_ic 0 62), (62, im_reti), (63, im_al 0 64), (64, im_il 5 66), (66, im_inv q_SH 11 143 1 69), (69, im_al 0 70), (70, im_ic 0 71), (71, im_il 3 72), (72, im_il 5 74), (74, im_ic (-1) 75)]
set_option maxRecDepth 20000 in
theorem o_X11_times_1 : ∀ q ∈ t_X11_times_1, am_ok vwCl q_SH ξ (q_E ξ β xs L) q_EN q_KD q_ML (cX11_times, 6, RX11, "times", (some .int), []) q.1 q.2 :=
  List.forall_mem_cons.mpr ⟨⟨mo_ic _ _, Or.inl (ok_iconst (n := 1) (v := 1) (by decide) (by decide +kernel))⟩,
  List.forall_mem_cons.mpr ⟨⟨mo_go _, Or.inl (ok_goto (off := 4) (by decide) (by decide +kernel))⟩,
  List.forall_mem_cons.mpr ⟨⟨mo_ic _ _, Or.inl (ok_iconst (n := 0) (v := 0) (by decide) (by decide +kernel))⟩,
  List.forall_mem_cons.mpr ⟨⟨mo_ic _ _, Or.inl (ok_iconst (n := 1) (v := 1) (by decide) (by decide +kernel))⟩,
  List.forall_mem_cons.mpr ⟨⟨mo_inv _ _ _ _ _, Or.inr (Or.inl (ok_inv (T := TX11) (N := 93) rfl cw_X11_right (by decide) (by decide) ml_X11_32 ci_X11_right cv_X11_right (show Cond.initialized (yX11_right).cls ∈ am_ts from ci9_RX11) ⟨by decide +kernel, by decide +kernel, by decide +kernel⟩ rfl (by decide +kernel)))⟩,
  List.forall_mem_cons.mpr ⟨⟨mo_if1 _ _ _, Or.inl (ok_if_eq (off := 12) (by decide) (by decide +kernel))⟩,
  List.forall_mem_cons.mpr ⟨⟨mo_al _ _, Or.inl (ok_aload_n (k := 0) rfl (by decide +kernel))⟩,
  List.forall_mem_cons.mpr ⟨⟨mo_il _ _, Or.inl (ok_iload (by decide +kernel))⟩,
  List.forall_mem_cons.mpr ⟨⟨mo_inv _ _ _ _ _, Or.inr (Or.inl (ok_inv (T := TX11) (N := 93) rfl cw_X11_isEvening (by decide) (by decide) ml_X11_471 ci_X11_isEvening cv_X11_isEvening (show Cond.initialized (yX11_isEvening).cls ∈ am_ts from ci9_RX11) ⟨by decide +kernel, by decide +kernel, by decide +kernel⟩ rfl (by decide +kernel)))⟩,
  List.forall_mem_cons.mpr ⟨⟨mo_if1 _ _ _, Or.inl (ok_if_ne (off := 5) (by decide) (by decide +kernel))⟩,
  List.forall_mem_cons.mpr ⟨⟨mo_ic _ _, Or.inl (ok_iconst (n := 0) (v := 0) (by decide) (by decide +kernel))⟩,
  List.forall_mem_cons.mpr ⟨⟨mo_reti, Or.inr (Or.inr (ok_reti rfl (by decide +kernel)))⟩,
  List.forall_mem_cons.mpr ⟨⟨mo_al _ _, Or.inl (ok_aload_n (k := 0) rfl (by decide +kernel))⟩,
  List.forall_mem_cons.mpr ⟨⟨mo_il _ _, Or.inl (ok_iload (by decide +kernel))⟩,
  List.forall_mem_cons.mpr ⟨⟨mo_inv _ _ _ _ _, Or.inr (Or.inl (ok_inv (T := TX11) (N := 93) rfl cw_X11_findsDoubts (by decide) (by decide) ml_X11_456 ci_X11_findsDoubts cv_X11_findsDoubts (show Cond.initialized (yX11_findsDoubts).cls ∈ am_ts from ci9_RX11) ⟨by decide +kernel, by decide +kernel, by decide +kernel⟩ rfl (by decide +kernel)))⟩,
  List.forall_mem_cons.mpr ⟨⟨mo_al _ _, Or.inl (ok_aload_n (k := 0) rfl (by decide +kernel))⟩,
  List.forall_mem_cons.mpr ⟨⟨mo_ic _ _, Or.inl (ok_iconst (n := 0) (v := 0) (by decide) (by decide +kernel))⟩,
  List.forall_mem_cons.mpr ⟨⟨mo_il _ _, Or.inl (ok_iload_n (k := 3) rfl (by decide +kernel))⟩,
  List.forall_mem_cons.mpr ⟨⟨mo_il _ _, Or.inl (ok_iload (by decide +kernel))⟩,
  List.forall_mem_cons.mpr ⟨⟨mo_ic _ _, Or.inl (ok_iconst (n := (-1)) (v := (-1)) (by decide) (by decide +kernel))⟩,
  fun _ h => absurd h List.not_mem_nil⟩⟩⟩⟩⟩⟩⟩⟩⟩⟩⟩⟩⟩⟩⟩⟩⟩⟩⟩⟩
def t_X11_times_2 : List (Nat × am_F) := [(75, im_inv q_SH 11 147 4 78), (78, im_il 4 80), (80, im_if1 ib_ne 96 83), (83, im_al 0 84), (84, im_gr q_SH 11 64 87), (87, im_ic 5 88), (88, im_il 1 89), (89, im_bin (fun x y => x * y) 90), (90, im_il 2 91), (91, im_bin (fun x y => x + y) 92), (92, im_ald q_SH .int 93), (93, im_go 106), (96, im_al 0 97), (97, im_gr q_SH 11 65 100), (100, im_ic 5 101), (101, im_il 1 102), (102, im_bin (fun x y => x * y) 103), (103, im_il 2 104), (104, im_bin (fun x y => x + y) 105), (105, im_ald q_SH .int 106)]
set_option maxRecDepth 20000 in
theorem o_X11_times_2 : ∀ q ∈ t_X11_times_2, am_ok vwCl q_SH ξ (q_E ξ β xs L) q_EN q_KD q_ML (cX11_times, 6, RX11, "times", (some .int), []) q.1 q.2 :=
  List.forall_mem_cons.mpr ⟨⟨mo_inv _ _ _ _ _, Or.inr (Or.inl (ok_inv (T := TX11) (N := 93) rfl cw_X11_runs (by decide) (by decide) ml_X11_468 ci_X11_runs cv_X11_runs (show Cond.initialized (yX11_runs).cls ∈ am_ts from ci9_RX11) ⟨by decide +kernel, by decide +kernel, by decide +kernel⟩ rfl (by decide +kernel)))⟩,
  List.forall_mem_cons.mpr ⟨⟨mo_il _ _, Or.inl (ok_iload (by decide +kernel))⟩,
  List.forall_mem_cons.mpr ⟨⟨mo_if1 _ _ _, Or.inl (ok_if_ne (off := 16) (by decide) (by decide +kernel))⟩,
  List.forall_mem_cons.mpr ⟨⟨mo_al _ _, Or.inl (ok_aload_n (k := 0) rfl (by decide +kernel))⟩,
  List.forall_mem_cons.mpr ⟨⟨mo_gr _ _ _ _, Or.inl (ok_gr (C := RX11) (T := TX11) (N := 93) (ci := 11) (k := 64) rfl inX11 (by decide) fl_X11_217 (by decide +kernel) (by decide +kernel))⟩,
  List.forall_mem_cons.mpr ⟨⟨mo_ic _ _, Or.inl (ok_iconst (n := 5) (v := 5) (by decide) (by decide +kernel))⟩,
  List.forall_mem_cons.mpr ⟨⟨mo_il _ _, Or.inl (ok_iload_n (k := 1) rfl (by decide +kernel))⟩,
  List.forall_mem_cons.mpr ⟨⟨mo_bin _ _, Or.inl (ok_imul (by decide +kernel))⟩,
  List.forall_mem_cons.mpr ⟨⟨mo_il _ _, Or.inl (ok_iload_n (k := 2) rfl (by decide +kernel))⟩,
  List.forall_mem_cons.mpr ⟨⟨mo_bin _ _, Or.inl (ok_iadd (by decide +kernel))⟩,
  List.forall_mem_cons.mpr ⟨⟨mo_ald _ _ _, Or.inl (ok_iald (by decide +kernel))⟩,
  List.forall_mem_cons.mpr ⟨⟨mo_go _, Or.inl (ok_goto (off := 13) (by decide) (by decide +kernel))⟩,
  List.forall_mem_cons.mpr ⟨⟨mo_al _ _, Or.inl (ok_aload_n (k := 0) rfl (by decide +kernel))⟩,
  List.forall_mem_cons.mpr ⟨⟨mo_gr _ _ _ _, Or.inl (ok_gr (C := RX11) (T := TX11) (N := 93) (ci := 11) (k := 65) rfl inX11 (by decide) fl_X11_220 (by decide +kernel) (by decide +kernel))⟩,
  List.forall_mem_cons.mpr ⟨⟨mo_ic _ _, Or.inl (ok_iconst (n := 5) (v := 5) (by decide) (by decide +kernel))⟩,
  List.forall_mem_cons.mpr ⟨⟨mo_il _ _, Or.inl (ok_iload_n (k := 1) rfl (by decide +kernel))⟩,
  List.forall_mem_cons.mpr ⟨⟨mo_bin _ _, Or.inl (ok_imul (by decide +kernel))⟩,
  List.forall_mem_cons.mpr ⟨⟨mo_il _ _, Or.inl (ok_iload_n (k := 2) rfl (by decide +kernel))⟩,
  List.forall_mem_cons.mpr ⟨⟨mo_bin _ _, Or.inl (ok_iadd (by decide +kernel))⟩,
  List.forall_mem_cons.mpr ⟨⟨mo_ald _ _ _, Or.inl (ok_iald (by decide +kernel))⟩,
  fun _ h => absurd h List.not_mem_nil⟩⟩⟩⟩⟩⟩⟩⟩⟩⟩⟩⟩⟩⟩⟩⟩⟩⟩⟩⟩
def t_X11_times_3 : List (Nat × am_F) := [(106, im_reti)]
set_option maxRecDepth 20000 in
theorem o_X11_times_3 : ∀ q ∈ t_X11_times_3, am_ok vwCl q_SH ξ (q_E ξ β xs L) q_EN q_KD q_ML (cX11_times, 6, RX11, "times", (some .int), []) q.1 q.2 :=
  List.forall_mem_cons.mpr ⟨⟨mo_reti, Or.inr (Or.inr (ok_reti rfl (by decide +kernel)))⟩,
  fun _ h => absurd h List.not_mem_nil⟩
def t_X11_times : List (Nat × am_F) := t_X11_times_0 ++ (t_X11_times_1 ++ (t_X11_times_2 ++ (t_X11_times_3)))
theorem o_X11_times : ∀ q ∈ t_X11_times, am_ok vwCl q_SH ξ (q_E ξ β xs L) q_EN q_KD q_ML (cX11_times, 6, RX11, "times", (some .int), []) q.1 q.2 := List.forall_mem_append.mpr ⟨o_X11_times_0, List.forall_mem_append.mpr ⟨o_X11_times_1, List.forall_mem_append.mpr ⟨o_X11_times_2, o_X11_times_3⟩⟩⟩
def t_X11_ifStruck_0 : List (Nat × am_F) := [(0, im_al 0 1), (1, im_ic 0 2), (2, im_pi q_SH 11 0 5), (5, im_al 0 6), (6, im_il 1 7), (7, im_if1 ib_lt 38 10), (10, im_il 1 11), (11, im_al 0 12), (12, im_gi q_SH 11 32 15), (15, im_if2 ic_ge 38 18), (18, im_il 2 19), (19, im_invs 109 1 22), (22, im_if1 ib_eq 38 25), (25, im_il 3 26), (26, im_if1 ib_eq 34 29), (29, im_il 3 30), (30, im_ic 1 31), (31, im_if2 ic_ne 38 34), (34, im_ic 1 35), (35, im_go 39)]
set_option maxRecDepth 20000 in
theorem o_X11_ifStruck_0 : ∀ q ∈ t_X11_ifStruck_0, am_ok vwCl q_SH ξ (q_E ξ β xs L) q_EN q_KD q_ML (cX11_ifStruck, 9, RX11, "ifStruck", (some .int), []) q.1 q.2 :=
  List.forall_mem_cons.mpr ⟨⟨mo_al _ _, Or.inl (ok_aload_n (k := 0) rfl (by decide +kernel))⟩,
  List.forall_mem_cons.mpr ⟨⟨mo_ic _ _, Or.inl (ok_iconst (n := 0) (v := 0) (by decide) (by decide +kernel))⟩,
  List.forall_mem_cons.mpr ⟨⟨mo_pi _ _ _ _, Or.inl (ok_pi (ty := .int) (C := RX11) (T := TX11) (N := 93) (ci := 11) (k := 0) rfl inX11 (by decide) fl_X11_1 (by decide +kernel) tyX11 tyX11_ok nmX11 (by decide +kernel) (by decide +kernel) (by decide +kernel))⟩,
  List.forall_mem_cons.mpr ⟨⟨mo_al _ _, Or.inl (ok_aload_n (k := 0) rfl (by decide +kernel))⟩,
  List.forall_mem_cons.mpr ⟨⟨mo_il _ _, Or.inl (ok_iload_n (k := 1) rfl (by decide +kernel))⟩,
  List.forall_mem_cons.mpr ⟨⟨mo_if1 _ _ _, Or.inl (ok_if_lt (off := 31) (by decide) (by decide +kernel))⟩,
  List.forall_mem_cons.mpr ⟨⟨mo_il _ _, Or.inl (ok_iload_n (k := 1) rfl (by decide +kernel))⟩,
  List.forall_mem_cons.mpr ⟨⟨mo_al _ _, Or.inl (ok_aload_n (k := 0) rfl (by decide +kernel))⟩,
  List.forall_mem_cons.mpr ⟨⟨mo_gi _ _ _ _, Or.inl (ok_gi (C := RX11) (T := TX11) (N := 93) (ci := 11) (k := 32) rfl inX11 (by decide) fl_X11_77 (by decide +kernel) (by decide +kernel))⟩,
  List.forall_mem_cons.mpr ⟨⟨mo_if2 _ _ _, Or.inl (ok_icmp_ge (off := 23) (by decide) (by decide +kernel))⟩,
  List.forall_mem_cons.mpr ⟨⟨mo_il _ _, Or.inl (ok_iload_n (k := 2) rfl (by decide +kernel))⟩,
  List.forall_mem_cons.mpr ⟨⟨mo_invs _ _ _, Or.inr (Or.inl (ok_invs cw_X11_isDay (by decide) (by decide) ml_X11_47 cs_X11_isDay (show Cond.initialized (yX11_isDay).cls ∈ am_ts from ci9_RX11) ⟨by decide +kernel, by decide +kernel, by decide +kernel⟩ rfl (by decide +kernel)))⟩,
  List.forall_mem_cons.mpr ⟨⟨mo_if1 _ _ _, Or.inl (ok_if_eq (off := 16) (by decide) (by decide +kernel))⟩,
  List.forall_mem_cons.mpr ⟨⟨mo_il _ _, Or.inl (ok_iload_n (k := 3) rfl (by decide +kernel))⟩,
  List.forall_mem_cons.mpr ⟨⟨mo_if1 _ _ _, Or.inl (ok_if_eq (off := 8) (by decide) (by decide +kernel))⟩,
  List.forall_mem_cons.mpr ⟨⟨mo_il _ _, Or.inl (ok_iload_n (k := 3) rfl (by decide +kernel))⟩,
  List.forall_mem_cons.mpr ⟨⟨mo_ic _ _, Or.inl (ok_iconst (n := 1) (v := 1) (by decide) (by decide +kernel))⟩,
  List.forall_mem_cons.mpr ⟨⟨mo_if2 _ _ _, Or.inl (ok_icmp_ne (off := 7) (by decide) (by decide +kernel))⟩,
  List.forall_mem_cons.mpr ⟨⟨mo_ic _ _, Or.inl (ok_iconst (n := 1) (v := 1) (by decide) (by decide +kernel))⟩,
  List.forall_mem_cons.mpr ⟨⟨mo_go _, Or.inl (ok_goto (off := 4) (by decide) (by decide +kernel))⟩,
  fun _ h => absurd h List.not_mem_nil⟩⟩⟩⟩⟩⟩⟩⟩⟩⟩⟩⟩⟩⟩⟩⟩⟩⟩⟩⟩
def t_X11_ifStruck_1 : List (Nat × am_F) := [(38, im_ic 0 39), (39, im_ic 1 40), (40, im_inv q_SH 11 103 2 43), (43, im_if1 ib_eq 55 46), (46, im_al 0 47), (47, im_il 4 49), (49, im_inv q_SH 11 167 1 52), (52, im_if1 ib_ne 57 55), (55, im_ic 0 56), (56, im_reti), (57, im_al 0 58), (58, im_il 4 60), (60, im_inv q_SH 11 143 1 63), (63, im_al 0 64), (64, im_ic 0 65), (65, im_il 2 66), (66, im_il 4 68), (68, im_ic (-1) 69), (69, im_inv q_SH 11 147 4 72), (72, im_ic 0 73)]
set_option maxRecDepth 20000 in
theorem o_X11_ifStruck_1 : ∀ q ∈ t_X11_ifStruck_1, am_ok vwCl q_SH ξ (q_E ξ β xs L) q_EN q_KD q_ML (cX11_ifStruck, 9, RX11, "ifStruck", (some .int), []) q.1 q.2 :=
  List.forall_mem_cons.mpr ⟨⟨mo_ic _ _, Or.inl (ok_iconst (n := 0) (v := 0) (by decide) (by decide +kernel))⟩,
  List.forall_mem_cons.mpr ⟨⟨mo_ic _ _, Or.inl (ok_iconst (n := 1) (v := 1) (by decide) (by decide +kernel))⟩,
  List.forall_mem_cons.mpr ⟨⟨mo_inv _ _ _ _ _, Or.inr (Or.inl (ok_inv (T := TX11) (N := 93) rfl cw_X11_right (by decide) (by decide) ml_X11_32 ci_X11_right cv_X11_right (show Cond.initialized (yX11_right).cls ∈ am_ts from ci9_RX11) ⟨by decide +kernel, by decide +kernel, by decide +kernel⟩ rfl (by decide +kernel)))⟩,
  List.forall_mem_cons.mpr ⟨⟨mo_if1 _ _ _, Or.inl (ok_if_eq (off := 12) (by decide) (by decide +kernel))⟩,
  List.forall_mem_cons.mpr ⟨⟨mo_al _ _, Or.inl (ok_aload_n (k := 0) rfl (by decide +kernel))⟩,
  List.forall_mem_cons.mpr ⟨⟨mo_il _ _, Or.inl (ok_iload (by decide +kernel))⟩,
  List.forall_mem_cons.mpr ⟨⟨mo_inv _ _ _ _ _, Or.inr (Or.inl (ok_inv (T := TX11) (N := 93) rfl cw_X11_isEvening (by decide) (by decide) ml_X11_471 ci_X11_isEvening cv_X11_isEvening (show Cond.initialized (yX11_isEvening).cls ∈ am_ts from ci9_RX11) ⟨by decide +kernel, by decide +kernel, by decide +kernel⟩ rfl (by decide +kernel)))⟩,
  List.forall_mem_cons.mpr ⟨⟨mo_if1 _ _ _, Or.inl (ok_if_ne (off := 5) (by decide) (by decide +kernel))⟩,
  List.forall_mem_cons.mpr ⟨⟨mo_ic _ _, Or.inl (ok_iconst (n := 0) (v := 0) (by decide) (by decide +kernel))⟩,
  List.forall_mem_cons.mpr ⟨⟨mo_reti, Or.inr (Or.inr (ok_reti rfl (by decide +kernel)))⟩,
  List.forall_mem_cons.mpr ⟨⟨mo_al _ _, Or.inl (ok_aload_n (k := 0) rfl (by decide +kernel))⟩,
  List.forall_mem_cons.mpr ⟨⟨mo_il _ _, Or.inl (ok_iload (by decide +kernel))⟩,
  List.forall_mem_cons.mpr ⟨⟨mo_inv _ _ _ _ _, Or.inr (Or.inl (ok_inv (T := TX11) (N := 93) rfl cw_X11_findsDoubts (by decide) (by decide) ml_X11_456 ci_X11_findsDoubts cv_X11_findsDoubts (show Cond.initialized (yX11_findsDoubts).cls ∈ am_ts from ci9_RX11) ⟨by decide +kernel, by decide +kernel, by decide +kernel⟩ rfl (by decide +kernel)))⟩,
  List.forall_mem_cons.mpr ⟨⟨mo_al _ _, Or.inl (ok_aload_n (k := 0) rfl (by decide +kernel))⟩,
  List.forall_mem_cons.mpr ⟨⟨mo_ic _ _, Or.inl (ok_iconst (n := 0) (v := 0) (by decide) (by decide +kernel))⟩,
  List.forall_mem_cons.mpr ⟨⟨mo_il _ _, Or.inl (ok_iload_n (k := 2) rfl (by decide +kernel))⟩,
  List.forall_mem_cons.mpr ⟨⟨mo_il _ _, Or.inl (ok_iload (by decide +kernel))⟩,
  List.forall_mem_cons.mpr ⟨⟨mo_ic _ _, Or.inl (ok_iconst (n := (-1)) (v := (-1)) (by decide) (by decide +kernel))⟩,
  List.forall_mem_cons.mpr ⟨⟨mo_inv _ _ _ _ _, Or.inr (Or.inl (ok_inv (T := TX11) (N := 93) rfl cw_X11_runs (by decide) (by decide) ml_X11_468 ci_X11_runs cv_X11_runs (show Cond.initialized (yX11_runs).cls ∈ am_ts from ci9_RX11) ⟨by decide +kernel, by decide +kernel, by decide +kernel⟩ rfl (by decide +kernel)))⟩,
  List.forall_mem_cons.mpr ⟨⟨mo_ic _ _, Or.inl (ok_iconst (n := 0) (v := 0) (by decide) (by decide +kernel))⟩,
  fun _ h => absurd h List.not_mem_nil⟩⟩⟩⟩⟩⟩⟩⟩⟩⟩⟩⟩⟩⟩⟩⟩⟩⟩⟩⟩
def t_X11_ifStruck_2 : List (Nat × am_F) := [(73, im_is 5 75), (75, im_il 5 77), (77, im_ic 20 79), (79, im_if2 ic_ge 102 82), (82, im_al 0 83), (83, im_gr q_SH 11 92 86), (86, im_il 5 88), (88, im_al 0 89), (89, im_gr q_SH 11 55 92), (92, im_il 5 94), (94, im_ald q_SH .int 95), (95, im_ast q_SH .int (fun x => x) 96), (96, im_iinc 5 1 99), (99, im_go 75), (102, im_al 0 103), (103, im_ic 0 104), (104, im_il 2 105), (105, im_il 4 107), (107, im_il 1 108), (108, im_inv q_SH 11 147 4 111)]
set_option maxRecDepth 20000 in
theorem o_X11_ifStruck_2 : ∀ q ∈ t_X11_ifStruck_2, am_ok vwCl q_SH ξ (q_E ξ β xs L) q_EN q_KD q_ML (cX11_ifStruck, 9, RX11, "ifStruck", (some .int), []) q.1 q.2 :=
  List.forall_mem_cons.mpr ⟨⟨mo_is _ _, Or.inl (ok_istore (by decide) (by decide +kernel))⟩,
  List.forall_mem_cons.mpr ⟨⟨mo_il _ _, Or.inl (ok_iload (by decide +kernel))⟩,
  List.forall_mem_cons.mpr ⟨⟨mo_ic _ _, Or.inl (ok_bipush (n := 20) (v := 20) (by decide) (by decide +kernel))⟩,
  List.forall_mem_cons.mpr ⟨⟨mo_if2 _ _ _, Or.inl (ok_icmp_ge (off := 23) (by decide) (by decide +kernel))⟩,
  List.forall_mem_cons.mpr ⟨⟨mo_al _ _, Or.inl (ok_aload_n (k := 0) rfl (by decide +kernel))⟩,
  List.forall_mem_cons.mpr ⟨⟨mo_gr _ _ _ _, Or.inl (ok_gr (C := RX11) (T := TX11) (N := 93) (ci := 11) (k := 92) rfl inX11 (by decide) fl_X11_265 (by decide +kernel) (by decide +kernel))⟩,
  List.forall_mem_cons.mpr ⟨⟨mo_il _ _, Or.inl (ok_iload (by decide +kernel))⟩,
  List.forall_mem_cons.mpr ⟨⟨mo_al _ _, Or.inl (ok_aload_n (k := 0) rfl (by decide +kernel))⟩,
  List.forall_mem_cons.mpr ⟨⟨mo_gr _ _ _ _, Or.inl (ok_gr (C := RX11) (T := TX11) (N := 93) (ci := 11) (k := 55) rfl inX11 (by decide) fl_X11_190 (by decide +kernel) (by decide +kernel))⟩,
  List.forall_mem_cons.mpr ⟨⟨mo_il _ _, Or.inl (ok_iload (by decide +kernel))⟩,
  List.forall_mem_cons.mpr ⟨⟨mo_ald _ _ _, Or.inl (ok_iald (by decide +kernel))⟩,
  List.forall_mem_cons.mpr ⟨⟨mo_ast _ _ _ _, Or.inl (ok_iast (by decide +kernel))⟩,
  List.forall_mem_cons.mpr ⟨⟨mo_iinc _ _ _, Or.inl (ok_iinc (n := 1) (v := 1) (by decide) (by decide) (by decide +kernel))⟩,
  List.forall_mem_cons.mpr ⟨⟨mo_go _, Or.inl (ok_goto (off := (-24)) (by decide) (by decide +kernel))⟩,
  List.forall_mem_cons.mpr ⟨⟨mo_al _ _, Or.inl (ok_aload_n (k := 0) rfl (by decide +kernel))⟩,
  List.forall_mem_cons.mpr ⟨⟨mo_ic _ _, Or.inl (ok_iconst (n := 0) (v := 0) (by decide) (by decide +kernel))⟩,
  List.forall_mem_cons.mpr ⟨⟨mo_il _ _, Or.inl (ok_iload_n (k := 2) rfl (by decide +kernel))⟩,
  List.forall_mem_cons.mpr ⟨⟨mo_il _ _, Or.inl (ok_iload (by decide +kernel))⟩,
  List.forall_mem_cons.mpr ⟨⟨mo_il _ _, Or.inl (ok_iload_n (k := 1) rfl (by decide +kernel))⟩,
  List.forall_mem_cons.mpr ⟨⟨mo_inv _ _ _ _ _, Or.inr (Or.inl (ok_inv (T := TX11) (N := 93) rfl cw_X11_runs (by decide) (by decide) ml_X11_468 ci_X11_runs cv_X11_runs (show Cond.initialized (yX11_runs).cls ∈ am_ts from ci9_RX11) ⟨by decide +kernel, by decide +kernel, by decide +kernel⟩ rfl (by decide +kernel)))⟩,
  fun _ h => absurd h List.not_mem_nil⟩⟩⟩⟩⟩⟩⟩⟩⟩⟩⟩⟩⟩⟩⟩⟩⟩⟩⟩⟩
def t_X11_ifStruck_3 : List (Nat × am_F) := [(111, im_ic 0 112), (112, im_is 5 114), (114, im_ic 0 115), (115, im_is 6 117), (117, im_il 6 119), (119, im_al 0 120), (120, im_gi q_SH 11 5 123), (123, im_if2 ic_ge 186 126), (126, im_al 0 127), (127, im_gr q_SH 11 92 130), (130, im_il 6 132), (132, im_ald q_SH .int 133), (133, im_al 0 134), (134, im_gr q_SH 11 36 137), (137, im_il 1 138), (138, im_ald q_SH .int 139), (139, im_bin (fun x y => x >>> (y &&& 31)) 140), (140, im_ic 1 141), (141, im_bin (fun x y => x &&& y) 142), (142, im_is 7 144)]
set_option maxRecDepth 20000 in
theorem o_X11_ifStruck_3 : ∀ q ∈ t_X11_ifStruck_3, am_ok vwCl q_SH ξ (q_E ξ β xs L) q_EN q_KD q_ML (cX11_ifStruck, 9, RX11, "ifStruck", (some .int), []) q.1 q.2 :=
  List.forall_mem_cons.mpr ⟨⟨mo_ic _ _, Or.inl (ok_iconst (n := 0) (v := 0) (by decide) (by decide +kernel))⟩,
  List.forall_mem_cons.mpr ⟨⟨mo_is _ _, Or.inl (ok_istore (by decide) (by decide +kernel))⟩,
  List.forall_mem_cons.mpr ⟨⟨mo_ic _ _, Or.inl (ok_iconst (n := 0) (v := 0) (by decide) (by decide +kernel))⟩,
  List.forall_mem_cons.mpr ⟨⟨mo_is _ _, Or.inl (ok_istore (by decide) (by decide +kernel))⟩,
  List.forall_mem_cons.mpr ⟨⟨mo_il _ _, Or.inl (ok_iload (by decide +kernel))⟩,
  List.forall_mem_cons.mpr ⟨⟨mo_al _ _, Or.inl (ok_aload_n (k := 0) rfl (by decide +kernel))⟩,
  List.forall_mem_cons.mpr ⟨⟨mo_gi _ _ _ _, Or.inl (ok_gi (C := RX11) (T := TX11) (N := 93) (ci := 11) (k := 5) rfl inX11 (by decide) fl_X11_20 (by decide +kernel) (by decide +kernel))⟩,
  List.forall_mem_cons.mpr ⟨⟨mo_if2 _ _ _, Or.inl (ok_icmp_ge (off := 63) (by decide) (by decide +kernel))⟩,
  List.forall_mem_cons.mpr ⟨⟨mo_al _ _, Or.inl (ok_aload_n (k := 0) rfl (by decide +kernel))⟩,
  List.forall_mem_cons.mpr ⟨⟨mo_gr _ _ _ _, Or.inl (ok_gr (C := RX11) (T := TX11) (N := 93) (ci := 11) (k := 92) rfl inX11 (by decide) fl_X11_265 (by decide +kernel) (by decide +kernel))⟩,
  List.forall_mem_cons.mpr ⟨⟨mo_il _ _, Or.inl (ok_iload (by decide +kernel))⟩,
  List.forall_mem_cons.mpr ⟨⟨mo_ald _ _ _, Or.inl (ok_iald (by decide +kernel))⟩,
  List.forall_mem_cons.mpr ⟨⟨mo_al _ _, Or.inl (ok_aload_n (k := 0) rfl (by decide +kernel))⟩,
  List.forall_mem_cons.mpr ⟨⟨mo_gr _ _ _ _, Or.inl (ok_gr (C := RX11) (T := TX11) (N := 93) (ci := 11) (k := 36) rfl inX11 (by decide) fl_X11_141 (by decide +kernel) (by decide +kernel))⟩,
  List.forall_mem_cons.mpr ⟨⟨mo_il _ _, Or.inl (ok_iload_n (k := 1) rfl (by decide +kernel))⟩,
  List.forall_mem_cons.mpr ⟨⟨mo_ald _ _ _, Or.inl (ok_iald (by decide +kernel))⟩,
  List.forall_mem_cons.mpr ⟨⟨mo_bin _ _, Or.inl (ok_ishr (by decide +kernel))⟩,
  List.forall_mem_cons.mpr ⟨⟨mo_ic _ _, Or.inl (ok_iconst (n := 1) (v := 1) (by decide) (by decide +kernel))⟩,
  List.forall_mem_cons.mpr ⟨⟨mo_bin _ _, Or.inl (ok_iand (by decide +kernel))⟩,
  List.forall_mem_cons.mpr ⟨⟨mo_is _ _, Or.inl (ok_istore (by decide) (by decide +kernel))⟩,
  fun _ h => absurd h List.not_mem_nil⟩⟩⟩⟩⟩⟩⟩⟩⟩⟩⟩⟩⟩⟩⟩⟩⟩⟩⟩⟩
def t_X11_ifStruck_4 : List (Nat × am_F) := [(144, im_al 0 145), (145, im_gr q_SH 11 55 148), (148, im_il 6 150), (150, im_ald q_SH .int 151), (151, im_al 0 152), (152, im_gr q_SH 11 36 155), (155, im_il 1 156), (156, im_ald q_SH .int 157), (157, im_bin (fun x y => x >>> (y &&& 31)) 158), (158, im_ic 1 159), (159, im_bin (fun x y => x &&& y) 160), (160, im_is 8 162), (162, im_il 8 164), (164, im_il 7 166), (166, im_if2 ic_eq 180 169), (169, im_il 8 171), (171, im_ic 1 172), (172, im_il 3 173), (173, im_bin (fun x y => x - y) 174), (174, im_if2 ic_ne 180 177)]
set_option maxRecDepth 20000 in
theorem o_X11_ifStruck_4 : ∀ q ∈ t_X11_ifStruck_4, am_ok vwCl q_SH ξ (q_E ξ β xs L) q_EN q_KD q_ML (cX11_ifStruck, 9, RX11, "ifStruck", (some .int), []) q.1 q.2 :=
  List.forall_mem_cons.mpr ⟨⟨mo_al _ _, Or.inl (ok_aload_n (k := 0) rfl (by decide +kernel))⟩,
  List.forall_mem_cons.mpr ⟨⟨mo_gr _ _ _ _, Or.inl (ok_gr (C := RX11) (T := TX11) (N := 93) (ci := 11) (k := 55) rfl inX11 (by decide) fl_X11_190 (by decide +kernel) (by decide +kernel))⟩,
  List.forall_mem_cons.mpr ⟨⟨mo_il _ _, Or.inl (ok_iload (by decide +kernel))⟩,
  List.forall_mem_cons.mpr ⟨⟨mo_ald _ _ _, Or.inl (ok_iald (by decide +kernel))⟩,
  List.forall_mem_cons.mpr ⟨⟨mo_al _ _, Or.inl (ok_aload_n (k := 0) rfl (by decide +kernel))⟩,
  List.forall_mem_cons.mpr ⟨⟨mo_gr _ _ _ _, Or.inl (ok_gr (C := RX11) (T := TX11) (N := 93) (ci := 11) (k := 36) rfl inX11 (by decide) fl_X11_141 (by decide +kernel) (by decide +kernel))⟩,
  List.forall_mem_cons.mpr ⟨⟨mo_il _ _, Or.inl (ok_iload_n (k := 1) rfl (by decide +kernel))⟩,
  List.forall_mem_cons.mpr ⟨⟨mo_ald _ _ _, Or.inl (ok_iald (by decide +kernel))⟩,
  List.forall_mem_cons.mpr ⟨⟨mo_bin _ _, Or.inl (ok_ishr (by decide +kernel))⟩,
  List.forall_mem_cons.mpr ⟨⟨mo_ic _ _, Or.inl (ok_iconst (n := 1) (v := 1) (by decide) (by decide +kernel))⟩,
  List.forall_mem_cons.mpr ⟨⟨mo_bin _ _, Or.inl (ok_iand (by decide +kernel))⟩,
  List.forall_mem_cons.mpr ⟨⟨mo_is _ _, Or.inl (ok_istore (by decide) (by decide +kernel))⟩,
  List.forall_mem_cons.mpr ⟨⟨mo_il _ _, Or.inl (ok_iload (by decide +kernel))⟩,
  List.forall_mem_cons.mpr ⟨⟨mo_il _ _, Or.inl (ok_iload (by decide +kernel))⟩,
  List.forall_mem_cons.mpr ⟨⟨mo_if2 _ _ _, Or.inl (ok_icmp_eq (off := 14) (by decide) (by decide +kernel))⟩,
  List.forall_mem_cons.mpr ⟨⟨mo_il _ _, Or.inl (ok_iload (by decide +kernel))⟩,
  List.forall_mem_cons.mpr ⟨⟨mo_ic _ _, Or.inl (ok_iconst (n := 1) (v := 1) (by decide) (by decide +kernel))⟩,
  List.forall_mem_cons.mpr ⟨⟨mo_il _ _, Or.inl (ok_iload_n (k := 3) rfl (by decide +kernel))⟩,
  List.forall_mem_cons.mpr ⟨⟨mo_bin _ _, Or.inl (ok_isub (by decide +kernel))⟩,
  List.forall_mem_cons.mpr ⟨⟨mo_if2 _ _ _, Or.inl (ok_icmp_ne (off := 6) (by decide) (by decide +kernel))⟩,
  fun _ h => absurd h List.not_mem_nil⟩⟩⟩⟩⟩⟩⟩⟩⟩⟩⟩⟩⟩⟩⟩⟩⟩⟩⟩⟩
def t_X11_ifStruck_5 : List (Nat × am_F) := [(177, im_iinc 5 1 180), (180, im_iinc 6 1 183), (183, im_go 117), (186, im_il 5 188), (188, im_reti)]
set_option maxRecDepth 20000 in
theorem o_X11_ifStruck_5 : ∀ q ∈ t_X11_ifStruck_5, am_ok vwCl q_SH ξ (q_E ξ β xs L) q_EN q_KD q_ML (cX11_ifStruck, 9, RX11, "ifStruck", (some .int), []) q.1 q.2 :=
  List.forall_mem_cons.mpr ⟨⟨mo_iinc _ _ _, Or.inl (ok_iinc (n := 1) (v := 1) (by decide) (by decide) (by decide +kernel))⟩,
  List.forall_mem_cons.mpr ⟨⟨mo_iinc _ _ _, Or.inl (ok_iinc (n := 1) (v := 1) (by decide) (by decide) (by decide +kernel))⟩,
  List.forall_mem_cons.mpr ⟨⟨mo_go _, Or.inl (ok_goto (off := (-66)) (by decide) (by decide +kernel))⟩,
  List.forall_mem_cons.mpr ⟨⟨mo_il _ _, Or.inl (ok_iload (by decide +kernel))⟩,
  List.forall_mem_cons.mpr ⟨⟨mo_reti, Or.inr (Or.inr (ok_reti rfl (by decide +kernel)))⟩,
  fun _ h => absurd h List.not_mem_nil⟩⟩⟩⟩⟩
def t_X11_ifStruck : List (Nat × am_F) := t_X11_ifStruck_0 ++ (t_X11_ifStruck_1 ++ (t_X11_ifStruck_2 ++ (t_X11_ifStruck_3 ++ (t_X11_ifStruck_4 ++ (t_X11_ifStruck_5)))))
theorem o_X11_ifStruck : ∀ q ∈ t_X11_ifStruck, am_ok vwCl q_SH ξ (q_E ξ β xs L) q_EN q_KD q_ML (cX11_ifStruck, 9, RX11, "ifStruck", (some .int), []) q.1 q.2 := List.forall_mem_append.mpr ⟨o_X11_ifStruck_0, List.forall_mem_append.mpr ⟨o_X11_ifStruck_1, List.forall_mem_append.mpr ⟨o_X11_ifStruck_2, List.forall_mem_append.mpr ⟨o_X11_ifStruck_3, List.forall_mem_append.mpr ⟨o_X11_ifStruck_4, o_X11_ifStruck_5⟩⟩⟩⟩⟩
def t_X11_count_0 : List (Nat × am_F) := [(0, im_al 0 1), (1, im_ic 0 2), (2, im_pi q_SH 11 0 5), (5, im_al 0 6), (6, im_il 1 7), (7, im_if1 ib_lt 20 10), (10, im_il 1 11), (11, im_ic 6 13), (13, im_if2 ic_gt 20 16), (16, im_ic 1 17), (17, im_go 21), (20, im_ic 0 21), (21, im_ic 1 22), (22, im_inv q_SH 11 103 2 25), (25, im_if1 ib_ne 30 28), (28, im_ic 0 29), (29, im_reti), (30, im_il 1 31), (31, im_sw (q_sw 0 5 [68, 73, 78, 83, 88, 93] 98)), (68, im_al 0 69)]
set_option maxRecDepth 20000 in
theorem o_X11_count_0 : ∀ q ∈ t_X11_count_0, am_ok vwCl q_SH ξ (q_E ξ β xs L) q_EN q_KD q_ML (cX11_count, 2, RX11, "count", (some .int), []) q.1 q.2 :=
  List.forall_mem_cons.mpr ⟨⟨mo_al _ _, Or.inl (ok_aload_n (k := 0) rfl (by decide +kernel))⟩,
  List.forall_mem_cons.mpr ⟨⟨mo_ic _ _, Or.inl (ok_iconst (n := 0) (v := 0) (by decide) (by decide +kernel))⟩,
  List.forall_mem_cons.mpr ⟨⟨mo_pi _ _ _ _, Or.inl (ok_pi (ty := .int) (C := RX11) (T := TX11) (N := 93) (ci := 11) (k := 0) rfl inX11 (by decide) fl_X11_1 (by decide +kernel) tyX11 tyX11_ok nmX11 (by decide +kernel) (by decide +kernel) (by decide +kernel))⟩,
  List.forall_mem_cons.mpr ⟨⟨mo_al _ _, Or.inl (ok_aload_n (k := 0) rfl (by decide +kernel))⟩,
  List.forall_mem_cons.mpr ⟨⟨mo_il _ _, Or.inl (ok_iload_n (k := 1) rfl (by decide +kernel))⟩,
  List.forall_mem_cons.mpr ⟨⟨mo_if1 _ _ _, Or.inl (ok_if_lt (off := 13) (by decide) (by decide +kernel))⟩,
  List.forall_mem_cons.mpr ⟨⟨mo_il _ _, Or.inl (ok_iload_n (k := 1) rfl (by decide +kernel))⟩,
  List.forall_mem_cons.mpr ⟨⟨mo_ic _ _, Or.inl (ok_bipush (n := 6) (v := 6) (by decide) (by decide +kernel))⟩,
  List.forall_mem_cons.mpr ⟨⟨mo_if2 _ _ _, Or.inl (ok_icmp_gt (off := 7) (by decide) (by decide +kernel))⟩,
  List.forall_mem_cons.mpr ⟨⟨mo_ic _ _, Or.inl (ok_iconst (n := 1) (v := 1) (by decide) (by decide +kernel))⟩,
  List.forall_mem_cons.mpr ⟨⟨mo_go _, Or.inl (ok_goto (off := 4) (by decide) (by decide +kernel))⟩,
  List.forall_mem_cons.mpr ⟨⟨mo_ic _ _, Or.inl (ok_iconst (n := 0) (v := 0) (by decide) (by decide +kernel))⟩,
  List.forall_mem_cons.mpr ⟨⟨mo_ic _ _, Or.inl (ok_iconst (n := 1) (v := 1) (by decide) (by decide +kernel))⟩,
  List.forall_mem_cons.mpr ⟨⟨mo_inv _ _ _ _ _, Or.inr (Or.inl (ok_inv (T := TX11) (N := 93) rfl cw_X11_right (by decide) (by decide) ml_X11_32 ci_X11_right cv_X11_right (show Cond.initialized (yX11_right).cls ∈ am_ts from ci9_RX11) ⟨by decide +kernel, by decide +kernel, by decide +kernel⟩ rfl (by decide +kernel)))⟩,
  List.forall_mem_cons.mpr ⟨⟨mo_if1 _ _ _, Or.inl (ok_if_ne (off := 5) (by decide) (by decide +kernel))⟩,
  List.forall_mem_cons.mpr ⟨⟨mo_ic _ _, Or.inl (ok_iconst (n := 0) (v := 0) (by decide) (by decide +kernel))⟩,
  List.forall_mem_cons.mpr ⟨⟨mo_reti, Or.inr (Or.inr (ok_reti rfl (by decide +kernel)))⟩,
  List.forall_mem_cons.mpr ⟨⟨mo_il _ _, Or.inl (ok_iload_n (k := 1) rfl (by decide +kernel))⟩,
  List.forall_mem_cons.mpr ⟨⟨mo_sw (q_sw 0 5 [68, 73, 78, 83, 88, 93] 98), Or.inl (ok_tsw (dflt := 67) (offs := #[37, 42, 47, 52, 57, 62]) (len := 37) (by decide) (by decide +kernel) (by decide) (by decide +kernel))⟩,
  List.forall_mem_cons.mpr ⟨⟨mo_al _ _, Or.inl (ok_aload_n (k := 0) rfl (by decide +kernel))⟩,
  fun _ h => absurd h List.not_mem_nil⟩⟩⟩⟩⟩⟩⟩⟩⟩⟩⟩⟩⟩⟩⟩⟩⟩⟩⟩⟩
def t_X11_count_1 : List (Nat × am_F) := [(69, im_gi q_SH 11 1 72), (72, im_reti), (73, im_al 0 74), (74, im_gi q_SH 11 3 77), (77, im_reti), (78, im_al 0 79), (79, im_gi q_SH 11 4 82), (82, im_reti), (83, im_al 0 84), (84, im_gi q_SH 11 5 87), (87, im_reti), (88, im_al 0 89), (89, im_gi q_SH 11 6 92), (92, im_reti), (93, im_al 0 94), (94, im_gi q_SH 11 32 97), (97, im_reti), (98, im_al 0 99), (99, im_gi q_SH 11 20 102), (102, im_reti)]
set_option maxRecDepth 20000 in
theorem o_X11_count_1 : ∀ q ∈ t_X11_count_1, am_ok vwCl q_SH ξ (q_E ξ β xs L) q_EN q_KD q_ML (cX11_count, 2, RX11, "count", (some .int), []) q.1 q.2 :=
  List.forall_mem_cons.mpr ⟨⟨mo_gi _ _ _ _, Or.inl (ok_gi (C := RX11) (T := TX11) (N := 93) (ci := 11) (k := 1) rfl inX11 (by decide) fl_X11_65 (by decide +kernel) (by decide +kernel))⟩,
  List.forall_mem_cons.mpr ⟨⟨mo_reti, Or.inr (Or.inr (ok_reti rfl (by decide +kernel)))⟩,
  List.forall_mem_cons.mpr ⟨⟨mo_al _ _, Or.inl (ok_aload_n (k := 0) rfl (by decide +kernel))⟩,
  List.forall_mem_cons.mpr ⟨⟨mo_gi _ _ _ _, Or.inl (ok_gi (C := RX11) (T := TX11) (N := 93) (ci := 11) (k := 3) rfl inX11 (by decide) fl_X11_7 (by decide +kernel) (by decide +kernel))⟩,
  List.forall_mem_cons.mpr ⟨⟨mo_reti, Or.inr (Or.inr (ok_reti rfl (by decide +kernel)))⟩,
  List.forall_mem_cons.mpr ⟨⟨mo_al _ _, Or.inl (ok_aload_n (k := 0) rfl (by decide +kernel))⟩,
  List.forall_mem_cons.mpr ⟨⟨mo_gi _ _ _ _, Or.inl (ok_gi (C := RX11) (T := TX11) (N := 93) (ci := 11) (k := 4) rfl inX11 (by decide) fl_X11_13 (by decide +kernel) (by decide +kernel))⟩,
  List.forall_mem_cons.mpr ⟨⟨mo_reti, Or.inr (Or.inr (ok_reti rfl (by decide +kernel)))⟩,
  List.forall_mem_cons.mpr ⟨⟨mo_al _ _, Or.inl (ok_aload_n (k := 0) rfl (by decide +kernel))⟩,
  List.forall_mem_cons.mpr ⟨⟨mo_gi _ _ _ _, Or.inl (ok_gi (C := RX11) (T := TX11) (N := 93) (ci := 11) (k := 5) rfl inX11 (by decide) fl_X11_20 (by decide +kernel) (by decide +kernel))⟩,
  List.forall_mem_cons.mpr ⟨⟨mo_reti, Or.inr (Or.inr (ok_reti rfl (by decide +kernel)))⟩,
  List.forall_mem_cons.mpr ⟨⟨mo_al _ _, Or.inl (ok_aload_n (k := 0) rfl (by decide +kernel))⟩,
  List.forall_mem_cons.mpr ⟨⟨mo_gi _ _ _ _, Or.inl (ok_gi (C := RX11) (T := TX11) (N := 93) (ci := 11) (k := 6) rfl inX11 (by decide) fl_X11_44 (by decide +kernel) (by decide +kernel))⟩,
  List.forall_mem_cons.mpr ⟨⟨mo_reti, Or.inr (Or.inr (ok_reti rfl (by decide +kernel)))⟩,
  List.forall_mem_cons.mpr ⟨⟨mo_al _ _, Or.inl (ok_aload_n (k := 0) rfl (by decide +kernel))⟩,
  List.forall_mem_cons.mpr ⟨⟨mo_gi _ _ _ _, Or.inl (ok_gi (C := RX11) (T := TX11) (N := 93) (ci := 11) (k := 32) rfl inX11 (by decide) fl_X11_77 (by decide +kernel) (by decide +kernel))⟩,
  List.forall_mem_cons.mpr ⟨⟨mo_reti, Or.inr (Or.inr (ok_reti rfl (by decide +kernel)))⟩,
  List.forall_mem_cons.mpr ⟨⟨mo_al _ _, Or.inl (ok_aload_n (k := 0) rfl (by decide +kernel))⟩,
  List.forall_mem_cons.mpr ⟨⟨mo_gi _ _ _ _, Or.inl (ok_gi (C := RX11) (T := TX11) (N := 93) (ci := 11) (k := 20) rfl inX11 (by decide) fl_X11_83 (by decide +kernel) (by decide +kernel))⟩,
  List.forall_mem_cons.mpr ⟨⟨mo_reti, Or.inr (Or.inr (ok_reti rfl (by decide +kernel)))⟩,
  fun _ h => absurd h List.not_mem_nil⟩⟩⟩⟩⟩⟩⟩⟩⟩⟩⟩⟩⟩⟩⟩⟩⟩⟩⟩⟩
def t_X11_count : List (Nat × am_F) := t_X11_count_0 ++ (t_X11_count_1)
theorem o_X11_count : ∀ q ∈ t_X11_count, am_ok vwCl q_SH ξ (q_E ξ β xs L) q_EN q_KD q_ML (cX11_count, 2, RX11, "count", (some .int), []) q.1 q.2 := List.forall_mem_append.mpr ⟨o_X11_count_0, o_X11_count_1⟩
end Tab

section Tab
variable {ξ : Nat → Nat} {β : Bool} {xs : Nat → Int32} {L : Nat}
def t_X11_thrown_0 : List (Nat × am_F) := [(0, im_al 0 1), (1, im_gi q_SH 11 0 4), (4, im_reti)]
set_option maxRecDepth 20000 in
theorem o_X11_thrown_0 : ∀ q ∈ t_X11_thrown_0, am_ok vwCl q_SH ξ (q_E ξ β xs L) q_EN q_KD q_ML (cX11_thrown, 1, RX11, "thrown", (some .int), []) q.1 q.2 :=
  List.forall_mem_cons.mpr ⟨⟨mo_al _ _, Or.inl (ok_aload_n (k := 0) rfl (by decide +kernel))⟩,
  List.forall_mem_cons.mpr ⟨⟨mo_gi _ _ _ _, Or.inl (ok_gi (C := RX11) (T := TX11) (N := 93) (ci := 11) (k := 0) rfl inX11 (by decide) fl_X11_1 (by decide +kernel) (by decide +kernel))⟩,
  List.forall_mem_cons.mpr ⟨⟨mo_reti, Or.inr (Or.inr (ok_reti rfl (by decide +kernel)))⟩,
  fun _ h => absurd h List.not_mem_nil⟩⟩⟩
def t_X11_thrown : List (Nat × am_F) := t_X11_thrown_0
theorem o_X11_thrown : ∀ q ∈ t_X11_thrown, am_ok vwCl q_SH ξ (q_E ξ β xs L) q_EN q_KD q_ML (cX11_thrown, 1, RX11, "thrown", (some .int), []) q.1 q.2 := o_X11_thrown_0
def t_X11_right_0 : List (Nat × am_F) := [(0, im_al 0 1), (1, im_gi q_SH 11 0 4), (4, im_if1 ib_ne 16 7), (7, im_il 1 8), (8, im_if1 ib_ne 16 11), (11, im_al 0 12), (12, im_il 2 13), (13, im_pi q_SH 11 0 16), (16, im_al 0 17), (17, im_gi q_SH 11 0 20), (20, im_if1 ib_ne 27 23), (23, im_ic 1 24), (24, im_go 28), (27, im_ic 0 28), (28, im_retz)]
set_option maxRecDepth 20000 in
theorem o_X11_right_0 : ∀ q ∈ t_X11_right_0, am_ok vwCl q_SH ξ (q_E ξ β xs L) q_EN q_KD q_ML (cX11_right, 3, RX11, "right", (some .boolean), []) q.1 q.2 :=
  List.forall_mem_cons.mpr ⟨⟨mo_al _ _, Or.inl (ok_aload_n (k := 0) rfl (by decide +kernel))⟩,
  List.forall_mem_cons.mpr ⟨⟨mo_gi _ _ _ _, Or.inl (ok_gi (C := RX11) (T := TX11) (N := 93) (ci := 11) (k := 0) rfl inX11 (by decide) fl_X11_1 (by decide +kernel) (by decide +kernel))⟩,
  List.forall_mem_cons.mpr ⟨⟨mo_if1 _ _ _, Or.inl (ok_if_ne (off := 12) (by decide) (by decide +kernel))⟩,
  List.forall_mem_cons.mpr ⟨⟨mo_il _ _, Or.inl (ok_iload_n (k := 1) rfl (by decide +kernel))⟩,
  List.forall_mem_cons.mpr ⟨⟨mo_if1 _ _ _, Or.inl (ok_if_ne (off := 8) (by decide) (by decide +kernel))⟩,
  List.forall_mem_cons.mpr ⟨⟨mo_al _ _, Or.inl (ok_aload_n (k := 0) rfl (by decide +kernel))⟩,
  List.forall_mem_cons.mpr ⟨⟨mo_il _ _, Or.inl (ok_iload_n (k := 2) rfl (by decide +kernel))⟩,
  List.forall_mem_cons.mpr ⟨⟨mo_pi _ _ _ _, Or.inl (ok_pi (ty := .int) (C := RX11) (T := TX11) (N := 93) (ci := 11) (k := 0) rfl inX11 (by decide) fl_X11_1 (by decide +kernel) tyX11 tyX11_ok nmX11 (by decide +kernel) (by decide +kernel) (by decide +kernel))⟩,
  List.forall_mem_cons.mpr ⟨⟨mo_al _ _, Or.inl (ok_aload_n (k := 0) rfl (by decide +kernel))⟩,
  List.forall_mem_cons.mpr ⟨⟨mo_gi _ _ _ _, Or.inl (ok_gi (C := RX11) (T := TX11) (N := 93) (ci := 11) (k := 0) rfl inX11 (by decide) fl_X11_1 (by decide +kernel) (by decide +kernel))⟩,
  List.forall_mem_cons.mpr ⟨⟨mo_if1 _ _ _, Or.inl (ok_if_ne (off := 7) (by decide) (by decide +kernel))⟩,
  List.forall_mem_cons.mpr ⟨⟨mo_ic _ _, Or.inl (ok_iconst (n := 1) (v := 1) (by decide) (by decide +kernel))⟩,
  List.forall_mem_cons.mpr ⟨⟨mo_go _, Or.inl (ok_goto (off := 4) (by decide) (by decide +kernel))⟩,
  List.forall_mem_cons.mpr ⟨⟨mo_ic _ _, Or.inl (ok_iconst (n := 0) (v := 0) (by decide) (by decide +kernel))⟩,
  List.forall_mem_cons.mpr ⟨⟨mo_retz, Or.inr (Or.inr (ok_retz rfl (by decide +kernel)))⟩,
  fun _ h => absurd h List.not_mem_nil⟩⟩⟩⟩⟩⟩⟩⟩⟩⟩⟩⟩⟩⟩⟩
def t_X11_right : List (Nat × am_F) := t_X11_right_0
theorem o_X11_right : ∀ q ∈ t_X11_right, am_ok vwCl q_SH ξ (q_E ξ β xs L) q_EN q_KD q_ML (cX11_right, 3, RX11, "right", (some .boolean), []) q.1 q.2 := o_X11_right_0
def t_X11_land_0 : List (Nat × am_F) := [(0, im_al 0 1), (1, im_ic 0 2), (2, im_pi q_SH 11 0 5), (5, im_al 0 6), (6, im_gi q_SH 11 3 9), (9, im_ic 5 10), (10, im_if2 ic_ne 15 13), (13, im_ic (-1) 14), (14, im_reti), (15, im_al 0 16), (16, im_dup 17), (17, im_gi q_SH 11 3 20), (20, im_ic 1 21), (21, im_bin (fun x y => x + y) 22), (22, im_pi q_SH 11 3 25), (25, im_al 0 26), (26, im_dup 27), (27, im_gi q_SH 11 2 30), (30, im_ic 1 31), (31, im_bin (fun x y => x + y) 32)]
set_option maxRecDepth 20000 in
theorem o_X11_land_0 : ∀ q ∈ t_X11_land_0, am_ok vwCl q_SH ξ (q_E ξ β xs L) q_EN q_KD q_ML (cX11_land, 1, RX11, "land", (some .int), []) q.1 q.2 :=
  List.forall_mem_cons.mpr ⟨⟨mo_al _ _, Or.inl (ok_aload_n (k := 0) rfl (by decide +kernel))⟩,
  List.forall_mem_cons.mpr ⟨⟨mo_ic _ _, Or.inl (ok_iconst (n := 0) (v := 0) (by decide) (by decide +kernel))⟩,
  List.forall_mem_cons.mpr ⟨⟨mo_pi _ _ _ _, Or.inl (ok_pi (ty := .int) (C := RX11) (T := TX11) (N := 93) (ci := 11) (k := 0) rfl inX11 (by decide) fl_X11_1 (by decide +kernel) tyX11 tyX11_ok nmX11 (by decide +kernel) (by decide +kernel) (by decide +kernel))⟩,
  List.forall_mem_cons.mpr ⟨⟨mo_al _ _, Or.inl (ok_aload_n (k := 0) rfl (by decide +kernel))⟩,
  List.forall_mem_cons.mpr ⟨⟨mo_gi _ _ _ _, Or.inl (ok_gi (C := RX11) (T := TX11) (N := 93) (ci := 11) (k := 3) rfl inX11 (by decide) fl_X11_7 (by decide +kernel) (by decide +kernel))⟩,
  List.forall_mem_cons.mpr ⟨⟨mo_ic _ _, Or.inl (ok_iconst (n := 5) (v := 5) (by decide) (by decide +kernel))⟩,
  List.forall_mem_cons.mpr ⟨⟨mo_if2 _ _ _, Or.inl (ok_icmp_ne (off := 5) (by decide) (by decide +kernel))⟩,
  List.forall_mem_cons.mpr ⟨⟨mo_ic _ _, Or.inl (ok_iconst (n := (-1)) (v := (-1)) (by decide) (by decide +kernel))⟩,
  List.forall_mem_cons.mpr ⟨⟨mo_reti, Or.inr (Or.inr (ok_reti rfl (by decide +kernel)))⟩,
  List.forall_mem_cons.mpr ⟨⟨mo_al _ _, Or.inl (ok_aload_n (k := 0) rfl (by decide +kernel))⟩,
  List.forall_mem_cons.mpr ⟨⟨mo_dup _, Or.inl (ok_dup (by decide +kernel))⟩,
  List.forall_mem_cons.mpr ⟨⟨mo_gi _ _ _ _, Or.inl (ok_gi (C := RX11) (T := TX11) (N := 93) (ci := 11) (k := 3) rfl inX11 (by decide) fl_X11_7 (by decide +kernel) (by decide +kernel))⟩,
  List.forall_mem_cons.mpr ⟨⟨mo_ic _ _, Or.inl (ok_iconst (n := 1) (v := 1) (by decide) (by decide +kernel))⟩,
  List.forall_mem_cons.mpr ⟨⟨mo_bin _ _, Or.inl (ok_iadd (by decide +kernel))⟩,
  List.forall_mem_cons.mpr ⟨⟨mo_pi _ _ _ _, Or.inl (ok_pi (ty := .int) (C := RX11) (T := TX11) (N := 93) (ci := 11) (k := 3) rfl inX11 (by decide) fl_X11_7 (by decide +kernel) tyX11 tyX11_ok nmX11 (by decide +kernel) (by decide +kernel) (by decide +kernel))⟩,
  List.forall_mem_cons.mpr ⟨⟨mo_al _ _, Or.inl (ok_aload_n (k := 0) rfl (by decide +kernel))⟩,
  List.forall_mem_cons.mpr ⟨⟨mo_dup _, Or.inl (ok_dup (by decide +kernel))⟩,
  List.forall_mem_cons.mpr ⟨⟨mo_gi _ _ _ _, Or.inl (ok_gi (C := RX11) (T := TX11) (N := 93) (ci := 11) (k := 2) rfl inX11 (by decide) fl_X11_10 (by decide +kernel) (by decide +kernel))⟩,
  List.forall_mem_cons.mpr ⟨⟨mo_ic _ _, Or.inl (ok_iconst (n := 1) (v := 1) (by decide) (by decide +kernel))⟩,
  List.forall_mem_cons.mpr ⟨⟨mo_bin _ _, Or.inl (ok_iadd (by decide +kernel))⟩,
  fun _ h => absurd h List.not_mem_nil⟩⟩⟩⟩⟩⟩⟩⟩⟩⟩⟩⟩⟩⟩⟩⟩⟩⟩⟩⟩
def t_X11_land_1 : List (Nat × am_F) := [(32, im_pi q_SH 11 2 35), (35, im_al 0 36), (36, im_gi q_SH 11 3 39), (39, im_ic 1 40), (40, im_bin (fun x y => x - y) 41), (41, im_reti)]
set_option maxRecDepth 20000 in
theorem o_X11_land_1 : ∀ q ∈ t_X11_land_1, am_ok vwCl q_SH ξ (q_E ξ β xs L) q_EN q_KD q_ML (cX11_land, 1, RX11, "land", (some .int), []) q.1 q.2 :=
  List.forall_mem_cons.mpr ⟨⟨mo_pi _ _ _ _, Or.inl (ok_pi (ty := .int) (C := RX11) (T := TX11) (N := 93) (ci := 11) (k := 2) rfl inX11 (by decide) fl_X11_10 (by decide +kernel) tyX11 tyX11_ok nmX11 (by decide +kernel) (by decide +kernel) (by decide +kernel))⟩,
  List.forall_mem_cons.mpr ⟨⟨mo_al _ _, Or.inl (ok_aload_n (k := 0) rfl (by decide +kernel))⟩,
  List.forall_mem_cons.mpr ⟨⟨mo_gi _ _ _ _, Or.inl (ok_gi (C := RX11) (T := TX11) (N := 93) (ci := 11) (k := 3) rfl inX11 (by decide) fl_X11_7 (by decide +kernel) (by decide +kernel))⟩,
  List.forall_mem_cons.mpr ⟨⟨mo_ic _ _, Or.inl (ok_iconst (n := 1) (v := 1) (by decide) (by decide +kernel))⟩,
  List.forall_mem_cons.mpr ⟨⟨mo_bin _ _, Or.inl (ok_isub (by decide +kernel))⟩,
  List.forall_mem_cons.mpr ⟨⟨mo_reti, Or.inr (Or.inr (ok_reti rfl (by decide +kernel)))⟩,
  fun _ h => absurd h List.not_mem_nil⟩⟩⟩⟩⟩⟩
def t_X11_land : List (Nat × am_F) := t_X11_land_0 ++ (t_X11_land_1)
theorem o_X11_land : ∀ q ∈ t_X11_land, am_ok vwCl q_SH ξ (q_E ξ β xs L) q_EN q_KD q_ML (cX11_land, 1, RX11, "land", (some .int), []) q.1 q.2 := List.forall_mem_append.mpr ⟨o_X11_land_0, o_X11_land_1⟩
def t_X11_place_0 : List (Nat × am_F) := [(0, im_al 0 1), (1, im_ic 0 2), (2, im_pi q_SH 11 0 5), (5, im_al 0 6), (6, im_gi q_SH 11 4 9), (9, im_ic 12 11), (11, im_if2 ic_eq 27 14), (14, im_il 1 15), (15, im_ic (-1) 16), (16, im_if2 ic_lt 27 19), (19, im_il 1 20), (20, im_al 0 21), (21, im_gi q_SH 11 3 24), (24, im_if2 ic_lt 29 27), (27, im_ic (-1) 28), (28, im_reti), (29, im_al 0 30), (30, im_gr q_SH 11 7 33), (33, im_al 0 34), (34, im_gi q_SH 11 4 37)]
set_option maxRecDepth 20000 in
theorem o_X11_place_0 : ∀ q ∈ t_X11_place_0, am_ok vwCl q_SH ξ (q_E ξ β xs L) q_EN q_KD q_ML (cX11_place, 2, RX11, "place", (some .int), []) q.1 q.2 :=
  List.forall_mem_cons.mpr ⟨⟨mo_al _ _, Or.inl (ok_aload_n (k := 0) rfl (by decide +kernel))⟩,
  List.forall_mem_cons.mpr ⟨⟨mo_ic _ _, Or.inl (ok_iconst (n := 0) (v := 0) (by decide) (by decide +kernel))⟩,
  List.forall_mem_cons.mpr ⟨⟨mo_pi _ _ _ _, Or.inl (ok_pi (ty := .int) (C := RX11) (T := TX11) (N := 93) (ci := 11) (k := 0) rfl inX11 (by decide) fl_X11_1 (by decide +kernel) tyX11 tyX11_ok nmX11 (by decide +kernel) (by decide +kernel) (by decide +kernel))⟩,
  List.forall_mem_cons.mpr ⟨⟨mo_al _ _, Or.inl (ok_aload_n (k := 0) rfl (by decide +kernel))⟩,
  List.forall_mem_cons.mpr ⟨⟨mo_gi _ _ _ _, Or.inl (ok_gi (C := RX11) (T := TX11) (N := 93) (ci := 11) (k := 4) rfl inX11 (by decide) fl_X11_13 (by decide +kernel) (by decide +kernel))⟩,
  List.forall_mem_cons.mpr ⟨⟨mo_ic _ _, Or.inl (ok_bipush (n := 12) (v := 12) (by decide) (by decide +kernel))⟩,
  List.forall_mem_cons.mpr ⟨⟨mo_if2 _ _ _, Or.inl (ok_icmp_eq (off := 16) (by decide) (by decide +kernel))⟩,
  List.forall_mem_cons.mpr ⟨⟨mo_il _ _, Or.inl (ok_iload_n (k := 1) rfl (by decide +kernel))⟩,
  List.forall_mem_cons.mpr ⟨⟨mo_ic _ _, Or.inl (ok_iconst (n := (-1)) (v := (-1)) (by decide) (by decide +kernel))⟩,
  List.forall_mem_cons.mpr ⟨⟨mo_if2 _ _ _, Or.inl (ok_icmp_lt (off := 11) (by decide) (by decide +kernel))⟩,
  List.forall_mem_cons.mpr ⟨⟨mo_il _ _, Or.inl (ok_iload_n (k := 1) rfl (by decide +kernel))⟩,
  List.forall_mem_cons.mpr ⟨⟨mo_al _ _, Or.inl (ok_aload_n (k := 0) rfl (by decide +kernel))⟩,
  List.forall_mem_cons.mpr ⟨⟨mo_gi _ _ _ _, Or.inl (ok_gi (C := RX11) (T := TX11) (N := 93) (ci := 11) (k := 3) rfl inX11 (by decide) fl_X11_7 (by decide +kernel) (by decide +kernel))⟩,
  List.forall_mem_cons.mpr ⟨⟨mo_if2 _ _ _, Or.inl (ok_icmp_lt (off := 5) (by decide) (by decide +kernel))⟩,
  List.forall_mem_cons.mpr ⟨⟨mo_ic _ _, Or.inl (ok_iconst (n := (-1)) (v := (-1)) (by decide) (by decide +kernel))⟩,
  List.forall_mem_cons.mpr ⟨⟨mo_reti, Or.inr (Or.inr (ok_reti rfl (by decide +kernel)))⟩,
  List.forall_mem_cons.mpr ⟨⟨mo_al _ _, Or.inl (ok_aload_n (k := 0) rfl (by decide +kernel))⟩,
  List.forall_mem_cons.mpr ⟨⟨mo_gr _ _ _ _, Or.inl (ok_gr (C := RX11) (T := TX11) (N := 93) (ci := 11) (k := 7) rfl inX11 (by decide) fl_X11_16 (by decide +kernel) (by decide +kernel))⟩,
  List.forall_mem_cons.mpr ⟨⟨mo_al _ _, Or.inl (ok_aload_n (k := 0) rfl (by decide +kernel))⟩,
  List.forall_mem_cons.mpr ⟨⟨mo_gi _ _ _ _, Or.inl (ok_gi (C := RX11) (T := TX11) (N := 93) (ci := 11) (k := 4) rfl inX11 (by decide) fl_X11_13 (by decide +kernel) (by decide +kernel))⟩,
  fun _ h => absurd h List.not_mem_nil⟩⟩⟩⟩⟩⟩⟩⟩⟩⟩⟩⟩⟩⟩⟩⟩⟩⟩⟩⟩
def t_X11_place_1 : List (Nat × am_F) := [(37, im_il 1 38), (38, im_ast q_SH .int (fun x => x) 39), (39, im_al 0 40), (40, im_dup 41), (41, im_gi q_SH 11 4 44), (44, im_ic 1 45), (45, im_bin (fun x y => x + y) 46), (46, im_pi q_SH 11 4 49), (49, im_al 0 50), (50, im_gi q_SH 11 4 53), (53, im_ic 1 54), (54, im_bin (fun x y => x - y) 55), (55, im_reti)]
set_option maxRecDepth 20000 in
theorem o_X11_place_1 : ∀ q ∈ t_X11_place_1, am_ok vwCl q_SH ξ (q_E ξ β xs L) q_EN q_KD q_ML (cX11_place, 2, RX11, "place", (some .int), []) q.1 q.2 :=
  List.forall_mem_cons.mpr ⟨⟨mo_il _ _, Or.inl (ok_iload_n (k := 1) rfl (by decide +kernel))⟩,
  List.forall_mem_cons.mpr ⟨⟨mo_ast _ _ _ _, Or.inl (ok_iast (by decide +kernel))⟩,
  List.forall_mem_cons.mpr ⟨⟨mo_al _ _, Or.inl (ok_aload_n (k := 0) rfl (by decide +kernel))⟩,
  List.forall_mem_cons.mpr ⟨⟨mo_dup _, Or.inl (ok_dup (by decide +kernel))⟩,
  List.forall_mem_cons.mpr ⟨⟨mo_gi _ _ _ _, Or.inl (ok_gi (C := RX11) (T := TX11) (N := 93) (ci := 11) (k := 4) rfl inX11 (by decide) fl_X11_13 (by decide +kernel) (by decide +kernel))⟩,
  List.forall_mem_cons.mpr ⟨⟨mo_ic _ _, Or.inl (ok_iconst (n := 1) (v := 1) (by decide) (by decide +kernel))⟩,
  List.forall_mem_cons.mpr ⟨⟨mo_bin _ _, Or.inl (ok_iadd (by decide +kernel))⟩,
  List.forall_mem_cons.mpr ⟨⟨mo_pi _ _ _ _, Or.inl (ok_pi (ty := .int) (C := RX11) (T := TX11) (N := 93) (ci := 11) (k := 4) rfl inX11 (by decide) fl_X11_13 (by decide +kernel) tyX11 tyX11_ok nmX11 (by decide +kernel) (by decide +kernel) (by decide +kernel))⟩,
  List.forall_mem_cons.mpr ⟨⟨mo_al _ _, Or.inl (ok_aload_n (k := 0) rfl (by decide +kernel))⟩,
  List.forall_mem_cons.mpr ⟨⟨mo_gi _ _ _ _, Or.inl (ok_gi (C := RX11) (T := TX11) (N := 93) (ci := 11) (k := 4) rfl inX11 (by decide) fl_X11_13 (by decide +kernel) (by decide +kernel))⟩,
  List.forall_mem_cons.mpr ⟨⟨mo_ic _ _, Or.inl (ok_iconst (n := 1) (v := 1) (by decide) (by decide +kernel))⟩,
  List.forall_mem_cons.mpr ⟨⟨mo_bin _ _, Or.inl (ok_isub (by decide +kernel))⟩,
  List.forall_mem_cons.mpr ⟨⟨mo_reti, Or.inr (Or.inr (ok_reti rfl (by decide +kernel)))⟩,
  fun _ h => absurd h List.not_mem_nil⟩⟩⟩⟩⟩⟩⟩⟩⟩⟩⟩⟩⟩
def t_X11_place : List (Nat × am_F) := t_X11_place_0 ++ (t_X11_place_1)
theorem o_X11_place : ∀ q ∈ t_X11_place, am_ok vwCl q_SH ξ (q_E ξ β xs L) q_EN q_KD q_ML (cX11_place, 2, RX11, "place", (some .int), []) q.1 q.2 := List.forall_mem_append.mpr ⟨o_X11_place_0, o_X11_place_1⟩
def t_X11_person_0 : List (Nat × am_F) := [(0, im_al 0 1), (1, im_ic 0 2), (2, im_pi q_SH 11 0 5), (5, im_al 0 6), (6, im_gi q_SH 11 5 9), (9, im_ic 20 11), (11, im_if2 ic_eq 49 14), (14, im_il 1 15), (15, im_if1 ib_lt 49 18), (18, im_il 1 19), (19, im_ic 1 20), (20, im_if2 ic_gt 49 23), (23, im_il 2 24), (24, im_ic (-1) 25), (25, im_if2 ic_lt 49 28), (28, im_il 2 29), (29, im_al 0 30), (30, im_gi q_SH 11 5 33), (33, im_if2 ic_ge 49 36), (36, im_il 3 37)]
set_option maxRecDepth 20000 in
theorem o_X11_person_0 : ∀ q ∈ t_X11_person_0, am_ok vwCl q_SH ξ (q_E ξ β xs L) q_EN q_KD q_ML (cX11_person, 4, RX11, "person", (some .int), []) q.1 q.2 :=
  List.forall_mem_cons.mpr ⟨⟨mo_al _ _, Or.inl (ok_aload_n (k := 0) rfl (by decide +kernel))⟩,
  List.forall_mem_cons.mpr ⟨⟨mo_ic _ _, Or.inl (ok_iconst (n := 0) (v := 0) (by decide) (by decide +kernel))⟩,
  List.forall_mem_cons.mpr ⟨⟨mo_pi _ _ _ _, Or.inl (ok_pi (ty := .int) (C := RX11) (T := TX11) (N := 93) (ci := 11) (k := 0) rfl inX11 (by decide) fl_X11_1 (by decide +kernel) tyX11 tyX11_ok nmX11 (by decide +kernel) (by decide +kernel) (by decide +kernel))⟩,
  List.forall_mem_cons.mpr ⟨⟨mo_al _ _, Or.inl (ok_aload_n (k := 0) rfl (by decide +kernel))⟩,
  List.forall_mem_cons.mpr ⟨⟨mo_gi _ _ _ _, Or.inl (ok_gi (C := RX11) (T := TX11) (N := 93) (ci := 11) (k := 5) rfl inX11 (by decide) fl_X11_20 (by decide +kernel) (by decide +kernel))⟩,
  List.forall_mem_cons.mpr ⟨⟨mo_ic _ _, Or.inl (ok_bipush (n := 20) (v := 20) (by decide) (by decide +kernel))⟩,
  List.forall_mem_cons.mpr ⟨⟨mo_if2 _ _ _, Or.inl (ok_icmp_eq (off := 38) (by decide) (by decide +kernel))⟩,
  List.forall_mem_cons.mpr ⟨⟨mo_il _ _, Or.inl (ok_iload_n (k := 1) rfl (by decide +kernel))⟩,
  List.forall_mem_cons.mpr ⟨⟨mo_if1 _ _ _, Or.inl (ok_if_lt (off := 34) (by decide) (by decide +kernel))⟩,
  List.forall_mem_cons.mpr ⟨⟨mo_il _ _, Or.inl (ok_iload_n (k := 1) rfl (by decide +kernel))⟩,
  List.forall_mem_cons.mpr ⟨⟨mo_ic _ _, Or.inl (ok_iconst (n := 1) (v := 1) (by decide) (by decide +kernel))⟩,
  List.forall_mem_cons.mpr ⟨⟨mo_if2 _ _ _, Or.inl (ok_icmp_gt (off := 29) (by decide) (by decide +kernel))⟩,
  List.forall_mem_cons.mpr ⟨⟨mo_il _ _, Or.inl (ok_iload_n (k := 2) rfl (by decide +kernel))⟩,
  List.forall_mem_cons.mpr ⟨⟨mo_ic _ _, Or.inl (ok_iconst (n := (-1)) (v := (-1)) (by decide) (by decide +kernel))⟩,
  List.forall_mem_cons.mpr ⟨⟨mo_if2 _ _ _, Or.inl (ok_icmp_lt (off := 24) (by decide) (by decide +kernel))⟩,
  List.forall_mem_cons.mpr ⟨⟨mo_il _ _, Or.inl (ok_iload_n (k := 2) rfl (by decide +kernel))⟩,
  List.forall_mem_cons.mpr ⟨⟨mo_al _ _, Or.inl (ok_aload_n (k := 0) rfl (by decide +kernel))⟩,
  List.forall_mem_cons.mpr ⟨⟨mo_gi _ _ _ _, Or.inl (ok_gi (C := RX11) (T := TX11) (N := 93) (ci := 11) (k := 5) rfl inX11 (by decide) fl_X11_20 (by decide +kernel) (by decide +kernel))⟩,
  List.forall_mem_cons.mpr ⟨⟨mo_if2 _ _ _, Or.inl (ok_icmp_ge (off := 16) (by decide) (by decide +kernel))⟩,
  List.forall_mem_cons.mpr ⟨⟨mo_il _ _, Or.inl (ok_iload_n (k := 3) rfl (by decide +kernel))⟩,
  fun _ h => absurd h List.not_mem_nil⟩⟩⟩⟩⟩⟩⟩⟩⟩⟩⟩⟩⟩⟩⟩⟩⟩⟩⟩⟩
def t_X11_person_1 : List (Nat × am_F) := [(37, im_ic (-1) 38), (38, im_if2 ic_lt 49 41), (41, im_il 3 42), (42, im_al 0 43), (43, im_gi q_SH 11 5 46), (46, im_if2 ic_lt 51 49), (49, im_ic (-1) 50), (50, im_reti), (51, im_al 0 52), (52, im_gr q_SH 11 8 55), (55, im_al 0 56), (56, im_gi q_SH 11 5 59), (59, im_il 1 60), (60, im_ast q_SH .int (fun x => x) 61), (61, im_al 0 62), (62, im_gr q_SH 11 9 65), (65, im_al 0 66), (66, im_gi q_SH 11 5 69), (69, im_il 2 70), (70, im_ast q_SH .int (fun x => x) 71)]
set_option maxRecDepth 20000 in
theorem o_X11_person_1 : ∀ q ∈ t_X11_person_1, am_ok vwCl q_SH ξ (q_E ξ β xs L) q_EN q_KD q_ML (cX11_person, 4, RX11, "person", (some .int), []) q.1 q.2 :=
  List.forall_mem_cons.mpr ⟨⟨mo_ic _ _, Or.inl (ok_iconst (n := (-1)) (v := (-1)) (by decide) (by decide +kernel))⟩,
  List.forall_mem_cons.mpr ⟨⟨mo_if2 _ _ _, Or.inl (ok_icmp_lt (off := 11) (by decide) (by decide +kernel))⟩,
  List.forall_mem_cons.mpr ⟨⟨mo_il _ _, Or.inl (ok_iload_n (k := 3) rfl (by decide +kernel))⟩,
  List.forall_mem_cons.mpr ⟨⟨mo_al _ _, Or.inl (ok_aload_n (k := 0) rfl (by decide +kernel))⟩,
  List.forall_mem_cons.mpr ⟨⟨mo_gi _ _ _ _, Or.inl (ok_gi (C := RX11) (T := TX11) (N := 93) (ci := 11) (k := 5) rfl inX11 (by decide) fl_X11_20 (by decide +kernel) (by decide +kernel))⟩,
  List.forall_mem_cons.mpr ⟨⟨mo_if2 _ _ _, Or.inl (ok_icmp_lt (off := 5) (by decide) (by decide +kernel))⟩,
  List.forall_mem_cons.mpr ⟨⟨mo_ic _ _, Or.inl (ok_iconst (n := (-1)) (v := (-1)) (by decide) (by decide +kernel))⟩,
  List.forall_mem_cons.mpr ⟨⟨mo_reti, Or.inr (Or.inr (ok_reti rfl (by decide +kernel)))⟩,
  List.forall_mem_cons.mpr ⟨⟨mo_al _ _, Or.inl (ok_aload_n (k := 0) rfl (by decide +kernel))⟩,
  List.forall_mem_cons.mpr ⟨⟨mo_gr _ _ _ _, Or.inl (ok_gr (C := RX11) (T := TX11) (N := 93) (ci := 11) (k := 8) rfl inX11 (by decide) fl_X11_23 (by decide +kernel) (by decide +kernel))⟩,
  List.forall_mem_cons.mpr ⟨⟨mo_al _ _, Or.inl (ok_aload_n (k := 0) rfl (by decide +kernel))⟩,
  List.forall_mem_cons.mpr ⟨⟨mo_gi _ _ _ _, Or.inl (ok_gi (C := RX11) (T := TX11) (N := 93) (ci := 11) (k := 5) rfl inX11 (by decide) fl_X11_20 (by decide +kernel) (by decide +kernel))⟩,
  List.forall_mem_cons.mpr ⟨⟨mo_il _ _, Or.inl (ok_iload_n (k := 1) rfl (by decide +kernel))⟩,
  List.forall_mem_cons.mpr ⟨⟨mo_ast _ _ _ _, Or.inl (ok_iast (by decide +kernel))⟩,
  List.forall_mem_cons.mpr ⟨⟨mo_al _ _, Or.inl (ok_aload_n (k := 0) rfl (by decide +kernel))⟩,
  List.forall_mem_cons.mpr ⟨⟨mo_gr _ _ _ _, Or.inl (ok_gr (C := RX11) (T := TX11) (N := 93) (ci := 11) (k := 9) rfl inX11 (by decide) fl_X11_26 (by decide +kernel) (by decide +kernel))⟩,
  List.forall_mem_cons.mpr ⟨⟨mo_al _ _, Or.inl (ok_aload_n (k := 0) rfl (by decide +kernel))⟩,
  List.forall_mem_cons.mpr ⟨⟨mo_gi _ _ _ _, Or.inl (ok_gi (C := RX11) (T := TX11) (N := 93) (ci := 11) (k := 5) rfl inX11 (by decide) fl_X11_20 (by decide +kernel) (by decide +kernel))⟩,
  List.forall_mem_cons.mpr ⟨⟨mo_il _ _, Or.inl (ok_iload_n (k := 2) rfl (by decide +kernel))⟩,
  List.forall_mem_cons.mpr ⟨⟨mo_ast _ _ _ _, Or.inl (ok_iast (by decide +kernel))⟩,
  fun _ h => absurd h List.not_mem_nil⟩⟩⟩⟩⟩⟩⟩⟩⟩⟩⟩⟩⟩⟩⟩⟩⟩⟩⟩⟩
def t_X11_person_2 : List (Nat × am_F) := [(71, im_al 0 72), (72, im_gr q_SH 11 10 75), (75, im_al 0 76), (76, im_gi q_SH 11 5 79), (79, im_il 3 80), (80, im_ast q_SH .int (fun x => x) 81), (81, im_al 0 82), (82, im_dup 83), (83, im_gi q_SH 11 5 86), (86, im_ic 1 87), (87, im_bin (fun x y => x + y) 88), (88, im_pi q_SH 11 5 91), (91, im_al 0 92), (92, im_dup 93), (93, im_gi q_SH 11 2 96), (96, im_ic 1 97), (97, im_bin (fun x y => x + y) 98), (98, im_pi q_SH 11 2 101), (101, im_al 0 102), (102, im_gi q_SH 11 5 105)]
set_option maxRecDepth 20000 in
theorem o_X11_person_2 : ∀ q ∈ t_X11_person_2, am_ok vwCl q_SH ξ (q_E ξ β xs L) q_EN q_KD q_ML (cX11_person, 4, RX11, "person", (some .int), []) q.1 q.2 :=
  List.forall_mem_cons.mpr ⟨⟨mo_al _ _, Or.inl (ok_aload_n (k := 0) rfl (by decide +kernel))⟩,
  List.forall_mem_cons.mpr ⟨⟨mo_gr _ _ _ _, Or.inl (ok_gr (C := RX11) (T := TX11) (N := 93) (ci := 11) (k := 10) rfl inX11 (by decide) fl_X11_29 (by decide +kernel) (by decide +kernel))⟩,
  List.forall_mem_cons.mpr ⟨⟨mo_al _ _, Or.inl (ok_aload_n (k := 0) rfl (by decide +kernel))⟩,
  List.forall_mem_cons.mpr ⟨⟨mo_gi _ _ _ _, Or.inl (ok_gi (C := RX11) (T := TX11) (N := 93) (ci := 11) (k := 5) rfl inX11 (by decide) fl_X11_20 (by decide +kernel) (by decide +kernel))⟩,
  List.forall_mem_cons.mpr ⟨⟨mo_il _ _, Or.inl (ok_iload_n (k := 3) rfl (by decide +kernel))⟩,
  List.forall_mem_cons.mpr ⟨⟨mo_ast _ _ _ _, Or.inl (ok_iast (by decide +kernel))⟩,
  List.forall_mem_cons.mpr ⟨⟨mo_al _ _, Or.inl (ok_aload_n (k := 0) rfl (by decide +kernel))⟩,
  List.forall_mem_cons.mpr ⟨⟨mo_dup _, Or.inl (ok_dup (by decide +kernel))⟩,
  List.forall_mem_cons.mpr ⟨⟨mo_gi _ _ _ _, Or.inl (ok_gi (C := RX11) (T := TX11) (N := 93) (ci := 11) (k := 5) rfl inX11 (by decide) fl_X11_20 (by decide +kernel) (by decide +kernel))⟩,
  List.forall_mem_cons.mpr ⟨⟨mo_ic _ _, Or.inl (ok_iconst (n := 1) (v := 1) (by decide) (by decide +kernel))⟩,
  List.forall_mem_cons.mpr ⟨⟨mo_bin _ _, Or.inl (ok_iadd (by decide +kernel))⟩,
  List.forall_mem_cons.mpr ⟨⟨mo_pi _ _ _ _, Or.inl (ok_pi (ty := .int) (C := RX11) (T := TX11) (N := 93) (ci := 11) (k := 5) rfl inX11 (by decide) fl_X11_20 (by decide +kernel) tyX11 tyX11_ok nmX11 (by decide +kernel) (by decide +kernel) (by decide +kernel))⟩,
  List.forall_mem_cons.mpr ⟨⟨mo_al _ _, Or.inl (ok_aload_n (k := 0) rfl (by decide +kernel))⟩,
  List.forall_mem_cons.mpr ⟨⟨mo_dup _, Or.inl (ok_dup (by decide +kernel))⟩,
  List.forall_mem_cons.mpr ⟨⟨mo_gi _ _ _ _, Or.inl (ok_gi (C := RX11) (T := TX11) (N := 93) (ci := 11) (k := 2) rfl inX11 (by decide) fl_X11_10 (by decide +kernel) (by decide +kernel))⟩,
  List.forall_mem_cons.mpr ⟨⟨mo_ic _ _, Or.inl (ok_iconst (n := 1) (v := 1) (by decide) (by decide +kernel))⟩,
  List.forall_mem_cons.mpr ⟨⟨mo_bin _ _, Or.inl (ok_iadd (by decide +kernel))⟩,
  List.forall_mem_cons.mpr ⟨⟨mo_pi _ _ _ _, Or.inl (ok_pi (ty := .int) (C := RX11) (T := TX11) (N := 93) (ci := 11) (k := 2) rfl inX11 (by decide) fl_X11_10 (by decide +kernel) tyX11 tyX11_ok nmX11 (by decide +kernel) (by decide +kernel) (by decide +kernel))⟩,
  List.forall_mem_cons.mpr ⟨⟨mo_al _ _, Or.inl (ok_aload_n (k := 0) rfl (by decide +kernel))⟩,
  List.forall_mem_cons.mpr ⟨⟨mo_gi _ _ _ _, Or.inl (ok_gi (C := RX11) (T := TX11) (N := 93) (ci := 11) (k := 5) rfl inX11 (by decide) fl_X11_20 (by decide +kernel) (by decide +kernel))⟩,
  fun _ h => absurd h List.not_mem_nil⟩⟩⟩⟩⟩⟩⟩⟩⟩⟩⟩⟩⟩⟩⟩⟩⟩⟩⟩⟩
def t_X11_person_3 : List (Nat × am_F) := [(105, im_ic 1 106), (106, im_bin (fun x y => x - y) 107), (107, im_reti)]
set_option maxRecDepth 20000 in
theorem o_X11_person_3 : ∀ q ∈ t_X11_person_3, am_ok vwCl q_SH ξ (q_E ξ β xs L) q_EN q_KD q_ML (cX11_person, 4, RX11, "person", (some .int), []) q.1 q.2 :=
  List.forall_mem_cons.mpr ⟨⟨mo_ic _ _, Or.inl (ok_iconst (n := 1) (v := 1) (by decide) (by decide +kernel))⟩,
  List.forall_mem_cons.mpr ⟨⟨mo_bin _ _, Or.inl (ok_isub (by decide +kernel))⟩,
  List.forall_mem_cons.mpr ⟨⟨mo_reti, Or.inr (Or.inr (ok_reti rfl (by decide +kernel)))⟩,
  fun _ h => absurd h List.not_mem_nil⟩⟩⟩
def t_X11_person : List (Nat × am_F) := t_X11_person_0 ++ (t_X11_person_1 ++ (t_X11_person_2 ++ (t_X11_person_3)))
theorem o_X11_person : ∀ q ∈ t_X11_person, am_ok vwCl q_SH ξ (q_E ξ β xs L) q_EN q_KD q_ML (cX11_person, 4, RX11, "person", (some .int), []) q.1 q.2 := List.forall_mem_append.mpr ⟨o_X11_person_0, List.forall_mem_append.mpr ⟨o_X11_person_1, List.forall_mem_append.mpr ⟨o_X11_person_2, o_X11_person_3⟩⟩⟩
def t_X11_isPerson_0 : List (Nat × am_F) := [(0, im_al 0 1), (1, im_il 1 2), (2, im_if1 ib_lt 17 5), (5, im_il 1 6), (6, im_al 0 7), (7, im_gi q_SH 11 5 10), (10, im_if2 ic_ge 17 13), (13, im_ic 1 14), (14, im_go 18), (17, im_ic 0 18), (18, im_ic 1 19), (19, im_inv q_SH 11 103 2 22), (22, im_retz)]
set_option maxRecDepth 20000 in
theorem o_X11_isPerson_0 : ∀ q ∈ t_X11_isPerson_0, am_ok vwCl q_SH ξ (q_E ξ β xs L) q_EN q_KD q_ML (cX11_isPerson, 2, RX11, "isPerson", (some .boolean), []) q.1 q.2 :=
  List.forall_mem_cons.mpr ⟨⟨mo_al _ _, Or.inl (ok_aload_n (k := 0) rfl (by decide +kernel))⟩,
  List.forall_mem_cons.mpr ⟨⟨mo_il _ _, Or.inl (ok_iload_n (k := 1) rfl (by decide +kernel))⟩,
  List.forall_mem_cons.mpr ⟨⟨mo_if1 _ _ _, Or.inl (ok_if_lt (off := 15) (by decide) (by decide +kernel))⟩,
  List.forall_mem_cons.mpr ⟨⟨mo_il _ _, Or.inl (ok_iload_n (k := 1) rfl (by decide +kernel))⟩,
  List.forall_mem_cons.mpr ⟨⟨mo_al _ _, Or.inl (ok_aload_n (k := 0) rfl (by decide +kernel))⟩,
  List.forall_mem_cons.mpr ⟨⟨mo_gi _ _ _ _, Or.inl (ok_gi (C := RX11) (T := TX11) (N := 93) (ci := 11) (k := 5) rfl inX11 (by decide) fl_X11_20 (by decide +kernel) (by decide +kernel))⟩,
  List.forall_mem_cons.mpr ⟨⟨mo_if2 _ _ _, Or.inl (ok_icmp_ge (off := 7) (by decide) (by decide +kernel))⟩,
  List.forall_mem_cons.mpr ⟨⟨mo_ic _ _, Or.inl (ok_iconst (n := 1) (v := 1) (by decide) (by decide +kernel))⟩,
  List.forall_mem_cons.mpr ⟨⟨mo_go _, Or.inl (ok_goto (off := 4) (by decide) (by decide +kernel))⟩,
  List.forall_mem_cons.mpr ⟨⟨mo_ic _ _, Or.inl (ok_iconst (n := 0) (v := 0) (by decide) (by decide +kernel))⟩,
  List.forall_mem_cons.mpr ⟨⟨mo_ic _ _, Or.inl (ok_iconst (n := 1) (v := 1) (by decide) (by decide +kernel))⟩,
  List.forall_mem_cons.mpr ⟨⟨mo_inv _ _ _ _ _, Or.inr (Or.inl (ok_inv (T := TX11) (N := 93) rfl cw_X11_right (by decide) (by decide) ml_X11_32 ci_X11_right cv_X11_right (show Cond.initialized (yX11_right).cls ∈ am_ts from ci9_RX11) ⟨by decide +kernel, by decide +kernel, by decide +kernel⟩ rfl (by decide +kernel)))⟩,
  List.forall_mem_cons.mpr ⟨⟨mo_retz, Or.inr (Or.inr (ok_retz rfl (by decide +kernel)))⟩,
  fun _ h => absurd h List.not_mem_nil⟩⟩⟩⟩⟩⟩⟩⟩⟩⟩⟩⟩⟩
def t_X11_isPerson : List (Nat × am_F) := t_X11_isPerson_0
theorem o_X11_isPerson : ∀ q ∈ t_X11_isPerson, am_ok vwCl q_SH ξ (q_E ξ β xs L) q_EN q_KD q_ML (cX11_isPerson, 2, RX11, "isPerson", (some .boolean), []) q.1 q.2 := o_X11_isPerson_0
def t_X11_isLand_0 : List (Nat × am_F) := [(0, im_al 0 1), (1, im_il 1 2), (2, im_if1 ib_lt 17 5), (5, im_il 1 6), (6, im_al 0 7), (7, im_gi q_SH 11 3 10), (10, im_if2 ic_ge 17 13), (13, im_ic 1 14), (14, im_go 18), (17, im_ic 0 18), (18, im_ic 1 19), (19, im_inv q_SH 11 103 2 22), (22, im_retz)]
set_option maxRecDepth 20000 in
theorem o_X11_isLand_0 : ∀ q ∈ t_X11_isLand_0, am_ok vwCl q_SH ξ (q_E ξ β xs L) q_EN q_KD q_ML (cX11_isLand, 2, RX11, "isLand", (some .boolean), []) q.1 q.2 :=
  List.forall_mem_cons.mpr ⟨⟨mo_al _ _, Or.inl (ok_aload_n (k := 0) rfl (by decide +kernel))⟩,
  List.forall_mem_cons.mpr ⟨⟨mo_il _ _, Or.inl (ok_iload_n (k := 1) rfl (by decide +kernel))⟩,
  List.forall_mem_cons.mpr ⟨⟨mo_if1 _ _ _, Or.inl (ok_if_lt (off := 15) (by decide) (by decide +kernel))⟩,
  List.forall_mem_cons.mpr ⟨⟨mo_il _ _, Or.inl (ok_iload_n (k := 1) rfl (by decide +kernel))⟩,
  List.forall_mem_cons.mpr ⟨⟨mo_al _ _, Or.inl (ok_aload_n (k := 0) rfl (by decide +kernel))⟩,
  List.forall_mem_cons.mpr ⟨⟨mo_gi _ _ _ _, Or.inl (ok_gi (C := RX11) (T := TX11) (N := 93) (ci := 11) (k := 3) rfl inX11 (by decide) fl_X11_7 (by decide +kernel) (by decide +kernel))⟩,
  List.forall_mem_cons.mpr ⟨⟨mo_if2 _ _ _, Or.inl (ok_icmp_ge (off := 7) (by decide) (by decide +kernel))⟩,
  List.forall_mem_cons.mpr ⟨⟨mo_ic _ _, Or.inl (ok_iconst (n := 1) (v := 1) (by decide) (by decide +kernel))⟩,
  List.forall_mem_cons.mpr ⟨⟨mo_go _, Or.inl (ok_goto (off := 4) (by decide) (by decide +kernel))⟩,
  List.forall_mem_cons.mpr ⟨⟨mo_ic _ _, Or.inl (ok_iconst (n := 0) (v := 0) (by decide) (by decide +kernel))⟩,
  List.forall_mem_cons.mpr ⟨⟨mo_ic _ _, Or.inl (ok_iconst (n := 1) (v := 1) (by decide) (by decide +kernel))⟩,
  List.forall_mem_cons.mpr ⟨⟨mo_inv _ _ _ _ _, Or.inr (Or.inl (ok_inv (T := TX11) (N := 93) rfl cw_X11_right (by decide) (by decide) ml_X11_32 ci_X11_right cv_X11_right (show Cond.initialized (yX11_right).cls ∈ am_ts from ci9_RX11) ⟨by decide +kernel, by decide +kernel, by decide +kernel⟩ rfl (by decide +kernel)))⟩,
  List.forall_mem_cons.mpr ⟨⟨mo_retz, Or.inr (Or.inr (ok_retz rfl (by decide +kernel)))⟩,
  fun _ h => absurd h List.not_mem_nil⟩⟩⟩⟩⟩⟩⟩⟩⟩⟩⟩⟩⟩
def t_X11_isLand : List (Nat × am_F) := t_X11_isLand_0
theorem o_X11_isLand : ∀ q ∈ t_X11_isLand, am_ok vwCl q_SH ξ (q_E ξ β xs L) q_EN q_KD q_ML (cX11_isLand, 2, RX11, "isLand", (some .boolean), []) q.1 q.2 := o_X11_isLand_0
def t_X11_isDay_0 : List (Nat × am_F) := [(0, im_il 0 1), (1, im_if1 ib_lt 14 4), (4, im_il 0 5), (5, im_ic 72999 7), (7, im_if2 ic_gt 14 10), (10, im_ic 1 11), (11, im_go 15), (14, im_ic 0 15), (15, im_retz)]
set_option maxRecDepth 20000 in
theorem o_X11_isDay_0 : ∀ q ∈ t_X11_isDay_0, am_ok vwCl q_SH ξ (q_E ξ β xs L) q_EN q_KD q_ML (cX11_isDay, 1, RX11, "isDay", (some .boolean), []) q.1 q.2 :=
  List.forall_mem_cons.mpr ⟨⟨mo_il _ _, Or.inl (ok_iload_n (k := 0) rfl (by decide +kernel))⟩,
  List.forall_mem_cons.mpr ⟨⟨mo_if1 _ _ _, Or.inl (ok_if_lt (off := 13) (by decide) (by decide +kernel))⟩,
  List.forall_mem_cons.mpr ⟨⟨mo_il _ _, Or.inl (ok_iload_n (k := 0) rfl (by decide +kernel))⟩,
  List.forall_mem_cons.mpr ⟨⟨mo_ic _ _, Or.inl (ok_ldc (v := 72999) (am_in5 195 rfl rfl) (by decide +kernel))⟩,
  List.forall_mem_cons.mpr ⟨⟨mo_if2 _ _ _, Or.inl (ok_icmp_gt (off := 7) (by decide) (by decide +kernel))⟩,
  List.forall_mem_cons.mpr ⟨⟨mo_ic _ _, Or.inl (ok_iconst (n := 1) (v := 1) (by decide) (by decide +kernel))⟩,
  List.forall_mem_cons.mpr ⟨⟨mo_go _, Or.inl (ok_goto (off := 4) (by decide) (by decide +kernel))⟩,
  List.forall_mem_cons.mpr ⟨⟨mo_ic _ _, Or.inl (ok_iconst (n := 0) (v := 0) (by decide) (by decide +kernel))⟩,
  List.forall_mem_cons.mpr ⟨⟨mo_retz, Or.inr (Or.inr (ok_retz rfl (by decide +kernel)))⟩,
  fun _ h => absurd h List.not_mem_nil⟩⟩⟩⟩⟩⟩⟩⟩⟩
def t_X11_isDay : List (Nat × am_F) := t_X11_isDay_0
theorem o_X11_isDay : ∀ q ∈ t_X11_isDay, am_ok vwCl q_SH ξ (q_E ξ β xs L) q_EN q_KD q_ML (cX11_isDay, 1, RX11, "isDay", (some .boolean), []) q.1 q.2 := o_X11_isDay_0
def t_X11_fact_0 : List (Nat × am_F) := [(0, im_al 0 1), (1, im_ic 0 2), (2, im_pi q_SH 11 0 5), (5, im_al 0 6), (6, im_il 1 7), (7, im_if1 ib_lt 20 10), (10, im_il 1 11), (11, im_ic 6 13), (13, im_if2 ic_gt 20 16), (16, im_ic 1 17), (17, im_go 21), (20, im_ic 0 21), (21, im_ic 1 22), (22, im_inv q_SH 11 103 2 25), (25, im_if1 ib_ne 30 28), (28, im_ic 0 29), (29, im_reti), (30, im_il 1 31), (31, im_ic 5 32), (32, im_if2 ic_eq 45 35)]
set_option maxRecDepth 20000 in
theorem o_X11_fact_0 : ∀ q ∈ t_X11_fact_0, am_ok vwCl q_SH ξ (q_E ξ β xs L) q_EN q_KD q_ML (cX11_fact, 6, RX11, "fact", (some .int), []) q.1 q.2 :=
  List.forall_mem_cons.mpr ⟨⟨mo_al _ _, Or.inl (ok_aload_n (k := 0) rfl (by decide +kernel))⟩,
  List.forall_mem_cons.mpr ⟨⟨mo_ic _ _, Or.inl (ok_iconst (n := 0) (v := 0) (by decide) (by decide +kernel))⟩,
  List.forall_mem_cons.mpr ⟨⟨mo_pi _ _ _ _, Or.inl (ok_pi (ty := .int) (C := RX11) (T := TX11) (N := 93) (ci := 11) (k := 0) rfl inX11 (by decide) fl_X11_1 (by decide +kernel) tyX11 tyX11_ok nmX11 (by decide +kernel) (by decide +kernel) (by decide +kernel))⟩,
  List.forall_mem_cons.mpr ⟨⟨mo_al _ _, Or.inl (ok_aload_n (k := 0) rfl (by decide +kernel))⟩,
  List.forall_mem_cons.mpr ⟨⟨mo_il _ _, Or.inl (ok_iload_n (k := 1) rfl (by decide +kernel))⟩,
  List.forall_mem_cons.mpr ⟨⟨mo_if1 _ _ _, Or.inl (ok_if_lt (off := 13) (by decide) (by decide +kernel))⟩,
  List.forall_mem_cons.mpr ⟨⟨mo_il _ _, Or.inl (ok_iload_n (k := 1) rfl (by decide +kernel))⟩,
  List.forall_mem_cons.mpr ⟨⟨mo_ic _ _, Or.inl (ok_bipush (n := 6) (v := 6) (by decide) (by decide +kernel))⟩,
  List.forall_mem_cons.mpr ⟨⟨mo_if2 _ _ _, Or.inl (ok_icmp_gt (off := 7) (by decide) (by decide +kernel))⟩,
  List.forall_mem_cons.mpr ⟨⟨mo_ic _ _, Or.inl (ok_iconst (n := 1) (v := 1) (by decide) (by decide +kernel))⟩,
  List.forall_mem_cons.mpr ⟨⟨mo_go _, Or.inl (ok_goto (off := 4) (by decide) (by decide +kernel))⟩,
  List.forall_mem_cons.mpr ⟨⟨mo_ic _ _, Or.inl (ok_iconst (n := 0) (v := 0) (by decide) (by decide +kernel))⟩,
  List.forall_mem_cons.mpr ⟨⟨mo_ic _ _, Or.inl (ok_iconst (n := 1) (v := 1) (by decide) (by decide +kernel))⟩,
  List.forall_mem_cons.mpr ⟨⟨mo_inv _ _ _ _ _, Or.inr (Or.inl (ok_inv (T := TX11) (N := 93) rfl cw_X11_right (by decide) (by decide) ml_X11_32 ci_X11_right cv_X11_right (show Cond.initialized (yX11_right).cls ∈ am_ts from ci9_RX11) ⟨by decide +kernel, by decide +kernel, by decide +kernel⟩ rfl (by decide +kernel)))⟩,
  List.forall_mem_cons.mpr ⟨⟨mo_if1 _ _ _, Or.inl (ok_if_ne (off := 5) (by decide) (by decide +kernel))⟩,
  List.forall_mem_cons.mpr ⟨⟨mo_ic _ _, Or.inl (ok_iconst (n := 0) (v := 0) (by decide) (by decide +kernel))⟩,
  List.forall_mem_cons.mpr ⟨⟨mo_reti, Or.inr (Or.inr (ok_reti rfl (by decide +kernel)))⟩,
  List.forall_mem_cons.mpr ⟨⟨mo_il _ _, Or.inl (ok_iload_n (k := 1) rfl (by decide +kernel))⟩,
  List.forall_mem_cons.mpr ⟨⟨mo_ic _ _, Or.inl (ok_iconst (n := 5) (v := 5) (by decide) (by decide +kernel))⟩,
  List.forall_mem_cons.mpr ⟨⟨mo_if2 _ _ _, Or.inl (ok_icmp_eq (off := 13) (by decide) (by decide +kernel))⟩,
  fun _ h => absurd h List.not_mem_nil⟩⟩⟩⟩⟩⟩⟩⟩⟩⟩⟩⟩⟩⟩⟩⟩⟩⟩⟩⟩
def t_X11_fact_1 : List (Nat × am_F) := [(35, im_al 0 36), (36, im_il 2 37), (37, im_inv q_SH 11 107 1 40), (40, im_if1 ib_ne 45 43), (43, im_ic 0 44), (44, im_reti), (45, im_il 1 46), (46, im_ic 1 47), (47, im_if2 ic_ne 60 50), (50, im_al 0 51), (51, im_il 3 52), (52, im_inv q_SH 11 107 1 55), (55, im_if1 ib_ne 60 58), (58, im_ic 0 59), (59, im_reti), (60, im_il 1 61), (61, im_ic 2 62), (62, im_if2 ic_lt 80 65), (65, im_il 1 66), (66, im_ic 5 67)]
set_option maxRecDepth 20000 in
theorem o_X11_fact_1 : ∀ q ∈ t_X11_fact_1, am_ok vwCl q_SH ξ (q_E ξ β xs L) q_EN q_KD q_ML (cX11_fact, 6, RX11, "fact", (some .int), []) q.1 q.2 :=
  List.forall_mem_cons.mpr ⟨⟨mo_al _ _, Or.inl (ok_aload_n (k := 0) rfl (by decide +kernel))⟩,
  List.forall_mem_cons.mpr ⟨⟨mo_il _ _, Or.inl (ok_iload_n (k := 2) rfl (by decide +kernel))⟩,
  List.forall_mem_cons.mpr ⟨⟨mo_inv _ _ _ _ _, Or.inr (Or.inl (ok_inv (T := TX11) (N := 93) rfl cw_X11_isPerson (by decide) (by decide) ml_X11_37 ci_X11_isPerson cv_X11_isPerson (show Cond.initialized (yX11_isPerson).cls ∈ am_ts from ci9_RX11) ⟨by decide +kernel, by decide +kernel, by decide +kernel⟩ rfl (by decide +kernel)))⟩,
  List.forall_mem_cons.mpr ⟨⟨mo_if1 _ _ _, Or.inl (ok_if_ne (off := 5) (by decide) (by decide +kernel))⟩,
  List.forall_mem_cons.mpr ⟨⟨mo_ic _ _, Or.inl (ok_iconst (n := 0) (v := 0) (by decide) (by decide +kernel))⟩,
  List.forall_mem_cons.mpr ⟨⟨mo_reti, Or.inr (Or.inr (ok_reti rfl (by decide +kernel)))⟩,
  List.forall_mem_cons.mpr ⟨⟨mo_il _ _, Or.inl (ok_iload_n (k := 1) rfl (by decide +kernel))⟩,
  List.forall_mem_cons.mpr ⟨⟨mo_ic _ _, Or.inl (ok_iconst (n := 1) (v := 1) (by decide) (by decide +kernel))⟩,
  List.forall_mem_cons.mpr ⟨⟨mo_if2 _ _ _, Or.inl (ok_icmp_ne (off := 13) (by decide) (by decide +kernel))⟩,
  List.forall_mem_cons.mpr ⟨⟨mo_al _ _, Or.inl (ok_aload_n (k := 0) rfl (by decide +kernel))⟩,
  List.forall_mem_cons.mpr ⟨⟨mo_il _ _, Or.inl (ok_iload_n (k := 3) rfl (by decide +kernel))⟩,
  List.forall_mem_cons.mpr ⟨⟨mo_inv _ _ _ _ _, Or.inr (Or.inl (ok_inv (T := TX11) (N := 93) rfl cw_X11_isPerson (by decide) (by decide) ml_X11_37 ci_X11_isPerson cv_X11_isPerson (show Cond.initialized (yX11_isPerson).cls ∈ am_ts from ci9_RX11) ⟨by decide +kernel, by decide +kernel, by decide +kernel⟩ rfl (by decide +kernel)))⟩,
  List.forall_mem_cons.mpr ⟨⟨mo_if1 _ _ _, Or.inl (ok_if_ne (off := 5) (by decide) (by decide +kernel))⟩,
  List.forall_mem_cons.mpr ⟨⟨mo_ic _ _, Or.inl (ok_iconst (n := 0) (v := 0) (by decide) (by decide +kernel))⟩,
  List.forall_mem_cons.mpr ⟨⟨mo_reti, Or.inr (Or.inr (ok_reti rfl (by decide +kernel)))⟩,
  List.forall_mem_cons.mpr ⟨⟨mo_il _ _, Or.inl (ok_iload_n (k := 1) rfl (by decide +kernel))⟩,
  List.forall_mem_cons.mpr ⟨⟨mo_ic _ _, Or.inl (ok_iconst (n := 2) (v := 2) (by decide) (by decide +kernel))⟩,
  List.forall_mem_cons.mpr ⟨⟨mo_if2 _ _ _, Or.inl (ok_icmp_lt (off := 18) (by decide) (by decide +kernel))⟩,
  List.forall_mem_cons.mpr ⟨⟨mo_il _ _, Or.inl (ok_iload_n (k := 1) rfl (by decide +kernel))⟩,
  List.forall_mem_cons.mpr ⟨⟨mo_ic _ _, Or.inl (ok_iconst (n := 5) (v := 5) (by decide) (by decide +kernel))⟩,
  fun _ h => absurd h List.not_mem_nil⟩⟩⟩⟩⟩⟩⟩⟩⟩⟩⟩⟩⟩⟩⟩⟩⟩⟩⟩⟩
def t_X11_fact_2 : List (Nat × am_F) := [(67, im_if2 ic_gt 80 70), (70, im_al 0 71), (71, im_il 3 72), (72, im_inv q_SH 11 108 1 75), (75, im_if1 ib_ne 80 78), (78, im_ic 0 79), (79, im_reti), (80, im_al 0 81), (81, im_il 1 82), (82, im_ic 2 83), (83, im_if2 ic_lt 91 86), (86, im_il 1 87), (87, im_ic 4 88), (88, im_if2 ic_le 105 91), (91, im_il 4 93), (93, im_if1 ib_lt 109 96), (96, im_il 4 98), (98, im_al 0 99), (99, im_gi q_SH 11 4 102), (102, im_if2 ic_ge 109 105)]
set_option maxRecDepth 20000 in
theorem o_X11_fact_2 : ∀ q ∈ t_X11_fact_2, am_ok vwCl q_SH ξ (q_E ξ β xs L) q_EN q_KD q_ML (cX11_fact, 6, RX11, "fact", (some .int), []) q.1 q.2 :=
  List.forall_mem_cons.mpr ⟨⟨mo_if2 _ _ _, Or.inl (ok_icmp_gt (off := 13) (by decide) (by decide +kernel))⟩,
  List.forall_mem_cons.mpr ⟨⟨mo_al _ _, Or.inl (ok_aload_n (k := 0) rfl (by decide +kernel))⟩,
  List.forall_mem_cons.mpr ⟨⟨mo_il _ _, Or.inl (ok_iload_n (k := 3) rfl (by decide +kernel))⟩,
  List.forall_mem_cons.mpr ⟨⟨mo_inv _ _ _ _ _, Or.inr (Or.inl (ok_inv (T := TX11) (N := 93) rfl cw_X11_isLand (by decide) (by decide) ml_X11_41 ci_X11_isLand cv_X11_isLand (show Cond.initialized (yX11_isLand).cls ∈ am_ts from ci9_RX11) ⟨by decide +kernel, by decide +kernel, by decide +kernel⟩ rfl (by decide +kernel)))⟩,
  List.forall_mem_cons.mpr ⟨⟨mo_if1 _ _ _, Or.inl (ok_if_ne (off := 5) (by decide) (by decide +kernel))⟩,
  List.forall_mem_cons.mpr ⟨⟨mo_ic _ _, Or.inl (ok_iconst (n := 0) (v := 0) (by decide) (by decide +kernel))⟩,
  List.forall_mem_cons.mpr ⟨⟨mo_reti, Or.inr (Or.inr (ok_reti rfl (by decide +kernel)))⟩,
  List.forall_mem_cons.mpr ⟨⟨mo_al _ _, Or.inl (ok_aload_n (k := 0) rfl (by decide +kernel))⟩,
  List.forall_mem_cons.mpr ⟨⟨mo_il _ _, Or.inl (ok_iload_n (k := 1) rfl (by decide +kernel))⟩,
  List.forall_mem_cons.mpr ⟨⟨mo_ic _ _, Or.inl (ok_iconst (n := 2) (v := 2) (by decide) (by decide +kernel))⟩,
  List.forall_mem_cons.mpr ⟨⟨mo_if2 _ _ _, Or.inl (ok_icmp_lt (off := 8) (by decide) (by decide +kernel))⟩,
  List.forall_mem_cons.mpr ⟨⟨mo_il _ _, Or.inl (ok_iload_n (k := 1) rfl (by decide +kernel))⟩,
  List.forall_mem_cons.mpr ⟨⟨mo_ic _ _, Or.inl (ok_iconst (n := 4) (v := 4) (by decide) (by decide +kernel))⟩,
  List.forall_mem_cons.mpr ⟨⟨mo_if2 _ _ _, Or.inl (ok_icmp_le (off := 17) (by decide) (by decide +kernel))⟩,
  List.forall_mem_cons.mpr ⟨⟨mo_il _ _, Or.inl (ok_iload (by decide +kernel))⟩,
  List.forall_mem_cons.mpr ⟨⟨mo_if1 _ _ _, Or.inl (ok_if_lt (off := 16) (by decide) (by decide +kernel))⟩,
  List.forall_mem_cons.mpr ⟨⟨mo_il _ _, Or.inl (ok_iload (by decide +kernel))⟩,
  List.forall_mem_cons.mpr ⟨⟨mo_al _ _, Or.inl (ok_aload_n (k := 0) rfl (by decide +kernel))⟩,
  List.forall_mem_cons.mpr ⟨⟨mo_gi _ _ _ _, Or.inl (ok_gi (C := RX11) (T := TX11) (N := 93) (ci := 11) (k := 4) rfl inX11 (by decide) fl_X11_13 (by decide +kernel) (by decide +kernel))⟩,
  List.forall_mem_cons.mpr ⟨⟨mo_if2 _ _ _, Or.inl (ok_icmp_ge (off := 7) (by decide) (by decide +kernel))⟩,
  fun _ h => absurd h List.not_mem_nil⟩⟩⟩⟩⟩⟩⟩⟩⟩⟩⟩⟩⟩⟩⟩⟩⟩⟩⟩⟩
def t_X11_fact_3 : List (Nat × am_F) := [(105, im_ic 1 106), (106, im_go 110), (109, im_ic 0 110), (110, im_ic 1 111), (111, im_inv q_SH 11 103 2 114), (114, im_if1 ib_ne 119 117), (117, im_ic 0 118), (118, im_reti), (119, im_al 0 120), (120, im_gi q_SH 11 6 123), (123, im_ic 100 125), (125, im_if2 ic_eq 146 128), (128, im_il 5 130), (130, im_invs 109 1 133), (133, im_if1 ib_eq 146 136), (136, im_il 1 137), (137, im_ic 1 138), (138, im_if2 ic_ne 148 141), (141, im_il 2 142), (142, im_il 3 143)]
set_option maxRecDepth 20000 in
theorem o_X11_fact_3 : ∀ q ∈ t_X11_fact_3, am_ok vwCl q_SH ξ (q_E ξ β xs L) q_EN q_KD q_ML (cX11_fact, 6, RX11, "fact", (some .int), []) q.1 q.2 :=
  List.forall_mem_cons.mpr ⟨⟨mo_ic _ _, Or.inl (ok_iconst (n := 1) (v := 1) (by decide) (by decide +kernel))⟩,
  List.forall_mem_cons.mpr ⟨⟨mo_go _, Or.inl (ok_goto (off := 4) (by decide) (by decide +kernel))⟩,
  List.forall_mem_cons.mpr ⟨⟨mo_ic _ _, Or.inl (ok_iconst (n := 0) (v := 0) (by decide) (by decide +kernel))⟩,
  List.forall_mem_cons.mpr ⟨⟨mo_ic _ _, Or.inl (ok_iconst (n := 1) (v := 1) (by decide) (by decide +kernel))⟩,
  List.forall_mem_cons.mpr ⟨⟨mo_inv _ _ _ _ _, Or.inr (Or.inl (ok_inv (T := TX11) (N := 93) rfl cw_X11_right (by decide) (by decide) ml_X11_32 ci_X11_right cv_X11_right (show Cond.initialized (yX11_right).cls ∈ am_ts from ci9_RX11) ⟨by decide +kernel, by decide +kernel, by decide +kernel⟩ rfl (by decide +kernel)))⟩,
  List.forall_mem_cons.mpr ⟨⟨mo_if1 _ _ _, Or.inl (ok_if_ne (off := 5) (by decide) (by decide +kernel))⟩,
  List.forall_mem_cons.mpr ⟨⟨mo_ic _ _, Or.inl (ok_iconst (n := 0) (v := 0) (by decide) (by decide +kernel))⟩,
  List.forall_mem_cons.mpr ⟨⟨mo_reti, Or.inr (Or.inr (ok_reti rfl (by decide +kernel)))⟩,
  List.forall_mem_cons.mpr ⟨⟨mo_al _ _, Or.inl (ok_aload_n (k := 0) rfl (by decide +kernel))⟩,
  List.forall_mem_cons.mpr ⟨⟨mo_gi _ _ _ _, Or.inl (ok_gi (C := RX11) (T := TX11) (N := 93) (ci := 11) (k := 6) rfl inX11 (by decide) fl_X11_44 (by decide +kernel) (by decide +kernel))⟩,
  List.forall_mem_cons.mpr ⟨⟨mo_ic _ _, Or.inl (ok_bipush (n := 100) (v := 100) (by decide) (by decide +kernel))⟩,
  List.forall_mem_cons.mpr ⟨⟨mo_if2 _ _ _, Or.inl (ok_icmp_eq (off := 21) (by decide) (by decide +kernel))⟩,
  List.forall_mem_cons.mpr ⟨⟨mo_il _ _, Or.inl (ok_iload (by decide +kernel))⟩,
  List.forall_mem_cons.mpr ⟨⟨mo_invs _ _ _, Or.inr (Or.inl (ok_invs cw_X11_isDay (by decide) (by decide) ml_X11_47 cs_X11_isDay (show Cond.initialized (yX11_isDay).cls ∈ am_ts from ci9_RX11) ⟨by decide +kernel, by decide +kernel, by decide +kernel⟩ rfl (by decide +kernel)))⟩,
  List.forall_mem_cons.mpr ⟨⟨mo_if1 _ _ _, Or.inl (ok_if_eq (off := 13) (by decide) (by decide +kernel))⟩,
  List.forall_mem_cons.mpr ⟨⟨mo_il _ _, Or.inl (ok_iload_n (k := 1) rfl (by decide +kernel))⟩,
  List.forall_mem_cons.mpr ⟨⟨mo_ic _ _, Or.inl (ok_iconst (n := 1) (v := 1) (by decide) (by decide +kernel))⟩,
  List.forall_mem_cons.mpr ⟨⟨mo_if2 _ _ _, Or.inl (ok_icmp_ne (off := 10) (by decide) (by decide +kernel))⟩,
  List.forall_mem_cons.mpr ⟨⟨mo_il _ _, Or.inl (ok_iload_n (k := 2) rfl (by decide +kernel))⟩,
  List.forall_mem_cons.mpr ⟨⟨mo_il _ _, Or.inl (ok_iload_n (k := 3) rfl (by decide +kernel))⟩,
  fun _ h => absurd h List.not_mem_nil⟩⟩⟩⟩⟩⟩⟩⟩⟩⟩⟩⟩⟩⟩⟩⟩⟩⟩⟩⟩
def t_X11_fact_4 : List (Nat × am_F) := [(143, im_if2 ic_ne 148 146), (146, im_ic (-1) 147), (147, im_reti), (148, im_al 0 149), (149, im_gr q_SH 11 11 152), (152, im_al 0 153), (153, im_gi q_SH 11 6 156), (156, im_il 1 157), (157, im_ast q_SH .int (fun x => x) 158), (158, im_al 0 159), (159, im_gr q_SH 11 12 162), (162, im_al 0 163), (163, im_gi q_SH 11 6 166), (166, im_il 2 167), (167, im_ast q_SH .int (fun x => x) 168), (168, im_al 0 169), (169, im_gr q_SH 11 13 172), (172, im_al 0 173), (173, im_gi q_SH 11 6 176), (176, im_il 3 177)]
set_option maxRecDepth 20000 in
theorem o_X11_fact_4 : ∀ q ∈ t_X11_fact_4, am_ok vwCl q_SH ξ (q_E ξ β xs L) q_EN q_KD q_ML (cX11_fact, 6, RX11, "fact", (some .int), []) q.1 q.2 :=
  List.forall_mem_cons.mpr ⟨⟨mo_if2 _ _ _, Or.inl (ok_icmp_ne (off := 5) (by decide) (by decide +kernel))⟩,
  List.forall_mem_cons.mpr ⟨⟨mo_ic _ _, Or.inl (ok_iconst (n := (-1)) (v := (-1)) (by decide) (by decide +kernel))⟩,
  List.forall_mem_cons.mpr ⟨⟨mo_reti, Or.inr (Or.inr (ok_reti rfl (by decide +kernel)))⟩,
  List.forall_mem_cons.mpr ⟨⟨mo_al _ _, Or.inl (ok_aload_n (k := 0) rfl (by decide +kernel))⟩,
  List.forall_mem_cons.mpr ⟨⟨mo_gr _ _ _ _, Or.inl (ok_gr (C := RX11) (T := TX11) (N := 93) (ci := 11) (k := 11) rfl inX11 (by decide) fl_X11_50 (by decide +kernel) (by decide +kernel))⟩,
  List.forall_mem_cons.mpr ⟨⟨mo_al _ _, Or.inl (ok_aload_n (k := 0) rfl (by decide +kernel))⟩,
  List.forall_mem_cons.mpr ⟨⟨mo_gi _ _ _ _, Or.inl (ok_gi (C := RX11) (T := TX11) (N := 93) (ci := 11) (k := 6) rfl inX11 (by decide) fl_X11_44 (by decide +kernel) (by decide +kernel))⟩,
  List.forall_mem_cons.mpr ⟨⟨mo_il _ _, Or.inl (ok_iload_n (k := 1) rfl (by decide +kernel))⟩,
  List.forall_mem_cons.mpr ⟨⟨mo_ast _ _ _ _, Or.inl (ok_iast (by decide +kernel))⟩,
  List.forall_mem_cons.mpr ⟨⟨mo_al _ _, Or.inl (ok_aload_n (k := 0) rfl (by decide +kernel))⟩,
  List.forall_mem_cons.mpr ⟨⟨mo_gr _ _ _ _, Or.inl (ok_gr (C := RX11) (T := TX11) (N := 93) (ci := 11) (k := 12) rfl inX11 (by decide) fl_X11_53 (by decide +kernel) (by decide +kernel))⟩,
  List.forall_mem_cons.mpr ⟨⟨mo_al _ _, Or.inl (ok_aload_n (k := 0) rfl (by decide +kernel))⟩,
  List.forall_mem_cons.mpr ⟨⟨mo_gi _ _ _ _, Or.inl (ok_gi (C := RX11) (T := TX11) (N := 93) (ci := 11) (k := 6) rfl inX11 (by decide) fl_X11_44 (by decide +kernel) (by decide +kernel))⟩,
  List.forall_mem_cons.mpr ⟨⟨mo_il _ _, Or.inl (ok_iload_n (k := 2) rfl (by decide +kernel))⟩,
  List.forall_mem_cons.mpr ⟨⟨mo_ast _ _ _ _, Or.inl (ok_iast (by decide +kernel))⟩,
  List.forall_mem_cons.mpr ⟨⟨mo_al _ _, Or.inl (ok_aload_n (k := 0) rfl (by decide +kernel))⟩,
  List.forall_mem_cons.mpr ⟨⟨mo_gr _ _ _ _, Or.inl (ok_gr (C := RX11) (T := TX11) (N := 93) (ci := 11) (k := 13) rfl inX11 (by decide) fl_X11_56 (by decide +kernel) (by decide +kernel))⟩,
  List.forall_mem_cons.mpr ⟨⟨mo_al _ _, Or.inl (ok_aload_n (k := 0) rfl (by decide +kernel))⟩,
  List.forall_mem_cons.mpr ⟨⟨mo_gi _ _ _ _, Or.inl (ok_gi (C := RX11) (T := TX11) (N := 93) (ci := 11) (k := 6) rfl inX11 (by decide) fl_X11_44 (by decide +kernel) (by decide +kernel))⟩,
  List.forall_mem_cons.mpr ⟨⟨mo_il _ _, Or.inl (ok_iload_n (k := 3) rfl (by decide +kernel))⟩,
  fun _ h => absurd h List.not_mem_nil⟩⟩⟩⟩⟩⟩⟩⟩⟩⟩⟩⟩⟩⟩⟩⟩⟩⟩⟩⟩
def t_X11_fact_5 : List (Nat × am_F) := [(177, im_ast q_SH .int (fun x => x) 178), (178, im_al 0 179), (179, im_gr q_SH 11 14 182), (182, im_al 0 183), (183, im_gi q_SH 11 6 186), (186, im_il 4 188), (188, im_ast q_SH .int (fun x => x) 189), (189, im_al 0 190), (190, im_gr q_SH 11 15 193), (193, im_al 0 194), (194, im_gi q_SH 11 6 197), (197, im_al 0 198), (198, im_gi q_SH 11 1 201), (201, im_ast q_SH .int (fun x => x) 202), (202, im_al 0 203), (203, im_gr q_SH 11 16 206), (206, im_al 0 207), (207, im_gi q_SH 11 6 210), (210, im_ic (-1) 211), (211, im_ast q_SH .int (fun x => x) 212)]
set_option maxRecDepth 20000 in
theorem o_X11_fact_5 : ∀ q ∈ t_X11_fact_5, am_ok vwCl q_SH ξ (q_E ξ β xs L) q_EN q_KD q_ML (cX11_fact, 6, RX11, "fact", (some .int), []) q.1 q.2 :=
  List.forall_mem_cons.mpr ⟨⟨mo_ast _ _ _ _, Or.inl (ok_iast (by decide +kernel))⟩,
  List.forall_mem_cons.mpr ⟨⟨mo_al _ _, Or.inl (ok_aload_n (k := 0) rfl (by decide +kernel))⟩,
  List.forall_mem_cons.mpr ⟨⟨mo_gr _ _ _ _, Or.inl (ok_gr (C := RX11) (T := TX11) (N := 93) (ci := 11) (k := 14) rfl inX11 (by decide) fl_X11_59 (by decide +kernel) (by decide +kernel))⟩,
  List.forall_mem_cons.mpr ⟨⟨mo_al _ _, Or.inl (ok_aload_n (k := 0) rfl (by decide +kernel))⟩,
  List.forall_mem_cons.mpr ⟨⟨mo_gi _ _ _ _, Or.inl (ok_gi (C := RX11) (T := TX11) (N := 93) (ci := 11) (k := 6) rfl inX11 (by decide) fl_X11_44 (by decide +kernel) (by decide +kernel))⟩,
  List.forall_mem_cons.mpr ⟨⟨mo_il _ _, Or.inl (ok_iload (by decide +kernel))⟩,
  List.forall_mem_cons.mpr ⟨⟨mo_ast _ _ _ _, Or.inl (ok_iast (by decide +kernel))⟩,
  List.forall_mem_cons.mpr ⟨⟨mo_al _ _, Or.inl (ok_aload_n (k := 0) rfl (by decide +kernel))⟩,
  List.forall_mem_cons.mpr ⟨⟨mo_gr _ _ _ _, Or.inl (ok_gr (C := RX11) (T := TX11) (N := 93) (ci := 11) (k := 15) rfl inX11 (by decide) fl_X11_62 (by decide +kernel) (by decide +kernel))⟩,
  List.forall_mem_cons.mpr ⟨⟨mo_al _ _, Or.inl (ok_aload_n (k := 0) rfl (by decide +kernel))⟩,
  List.forall_mem_cons.mpr ⟨⟨mo_gi _ _ _ _, Or.inl (ok_gi (C := RX11) (T := TX11) (N := 93) (ci := 11) (k := 6) rfl inX11 (by decide) fl_X11_44 (by decide +kernel) (by decide +kernel))⟩,
  List.forall_mem_cons.mpr ⟨⟨mo_al _ _, Or.inl (ok_aload_n (k := 0) rfl (by decide +kernel))⟩,
  List.forall_mem_cons.mpr ⟨⟨mo_gi _ _ _ _, Or.inl (ok_gi (C := RX11) (T := TX11) (N := 93) (ci := 11) (k := 1) rfl inX11 (by decide) fl_X11_65 (by decide +kernel) (by decide +kernel))⟩,
  List.forall_mem_cons.mpr ⟨⟨mo_ast _ _ _ _, Or.inl (ok_iast (by decide +kernel))⟩,
  List.forall_mem_cons.mpr ⟨⟨mo_al _ _, Or.inl (ok_aload_n (k := 0) rfl (by decide +kernel))⟩,
  List.forall_mem_cons.mpr ⟨⟨mo_gr _ _ _ _, Or.inl (ok_gr (C := RX11) (T := TX11) (N := 93) (ci := 11) (k := 16) rfl inX11 (by decide) fl_X11_68 (by decide +kernel) (by decide +kernel))⟩,
  List.forall_mem_cons.mpr ⟨⟨mo_al _ _, Or.inl (ok_aload_n (k := 0) rfl (by decide +kernel))⟩,
  List.forall_mem_cons.mpr ⟨⟨mo_gi _ _ _ _, Or.inl (ok_gi (C := RX11) (T := TX11) (N := 93) (ci := 11) (k := 6) rfl inX11 (by decide) fl_X11_44 (by decide +kernel) (by decide +kernel))⟩,
  List.forall_mem_cons.mpr ⟨⟨mo_ic _ _, Or.inl (ok_iconst (n := (-1)) (v := (-1)) (by decide) (by decide +kernel))⟩,
  List.forall_mem_cons.mpr ⟨⟨mo_ast _ _ _ _, Or.inl (ok_iast (by decide +kernel))⟩,
  fun _ h => absurd h List.not_mem_nil⟩⟩⟩⟩⟩⟩⟩⟩⟩⟩⟩⟩⟩⟩⟩⟩⟩⟩⟩⟩
def t_X11_fact_6 : List (Nat × am_F) := [(212, im_al 0 213), (213, im_gr q_SH 11 17 216), (216, im_al 0 217), (217, im_gi q_SH 11 6 220), (220, im_ic 1 221), (221, im_ast q_SH .int (fun x => x) 222), (222, im_al 0 223), (223, im_gr q_SH 11 18 226), (226, im_ic 3 227), (227, im_al 0 228), (228, im_gi q_SH 11 6 231), (231, im_bin (fun x y => x * y) 232), (232, im_il 5 234), (234, im_ast q_SH .int (fun x => x) 235), (235, im_al 0 236), (236, im_dup 237), (237, im_gi q_SH 11 6 240), (240, im_ic 1 241), (241, im_bin (fun x y => x + y) 242), (242, im_pi q_SH 11 6 245)]
set_option maxRecDepth 20000 in
theorem o_X11_fact_6 : ∀ q ∈ t_X11_fact_6, am_ok vwCl q_SH ξ (q_E ξ β xs L) q_EN q_KD q_ML (cX11_fact, 6, RX11, "fact", (some .int), []) q.1 q.2 :=
  List.forall_mem_cons.mpr ⟨⟨mo_al _ _, Or.inl (ok_aload_n (k := 0) rfl (by decide +kernel))⟩,
  List.forall_mem_cons.mpr ⟨⟨mo_gr _ _ _ _, Or.inl (ok_gr (C := RX11) (T := TX11) (N := 93) (ci := 11) (k := 17) rfl inX11 (by decide) fl_X11_71 (by decide +kernel) (by decide +kernel))⟩,
  List.forall_mem_cons.mpr ⟨⟨mo_al _ _, Or.inl (ok_aload_n (k := 0) rfl (by decide +kernel))⟩,
  List.forall_mem_cons.mpr ⟨⟨mo_gi _ _ _ _, Or.inl (ok_gi (C := RX11) (T := TX11) (N := 93) (ci := 11) (k := 6) rfl inX11 (by decide) fl_X11_44 (by decide +kernel) (by decide +kernel))⟩,
  List.forall_mem_cons.mpr ⟨⟨mo_ic _ _, Or.inl (ok_iconst (n := 1) (v := 1) (by decide) (by decide +kernel))⟩,
  List.forall_mem_cons.mpr ⟨⟨mo_ast _ _ _ _, Or.inl (ok_iast (by decide +kernel))⟩,
  List.forall_mem_cons.mpr ⟨⟨mo_al _ _, Or.inl (ok_aload_n (k := 0) rfl (by decide +kernel))⟩,
  List.forall_mem_cons.mpr ⟨⟨mo_gr _ _ _ _, Or.inl (ok_gr (C := RX11) (T := TX11) (N := 93) (ci := 11) (k := 18) rfl inX11 (by decide) fl_X11_74 (by decide +kernel) (by decide +kernel))⟩,
  List.forall_mem_cons.mpr ⟨⟨mo_ic _ _, Or.inl (ok_iconst (n := 3) (v := 3) (by decide) (by decide +kernel))⟩,
  List.forall_mem_cons.mpr ⟨⟨mo_al _ _, Or.inl (ok_aload_n (k := 0) rfl (by decide +kernel))⟩,
  List.forall_mem_cons.mpr ⟨⟨mo_gi _ _ _ _, Or.inl (ok_gi (C := RX11) (T := TX11) (N := 93) (ci := 11) (k := 6) rfl inX11 (by decide) fl_X11_44 (by decide +kernel) (by decide +kernel))⟩,
  List.forall_mem_cons.mpr ⟨⟨mo_bin _ _, Or.inl (ok_imul (by decide +kernel))⟩,
  List.forall_mem_cons.mpr ⟨⟨mo_il _ _, Or.inl (ok_iload (by decide +kernel))⟩,
  List.forall_mem_cons.mpr ⟨⟨mo_ast _ _ _ _, Or.inl (ok_iast (by decide +kernel))⟩,
  List.forall_mem_cons.mpr ⟨⟨mo_al _ _, Or.inl (ok_aload_n (k := 0) rfl (by decide +kernel))⟩,
  List.forall_mem_cons.mpr ⟨⟨mo_dup _, Or.inl (ok_dup (by decide +kernel))⟩,
  List.forall_mem_cons.mpr ⟨⟨mo_gi _ _ _ _, Or.inl (ok_gi (C := RX11) (T := TX11) (N := 93) (ci := 11) (k := 6) rfl inX11 (by decide) fl_X11_44 (by decide +kernel) (by decide +kernel))⟩,
  List.forall_mem_cons.mpr ⟨⟨mo_ic _ _, Or.inl (ok_iconst (n := 1) (v := 1) (by decide) (by decide +kernel))⟩,
  List.forall_mem_cons.mpr ⟨⟨mo_bin _ _, Or.inl (ok_iadd (by decide +kernel))⟩,
  List.forall_mem_cons.mpr ⟨⟨mo_pi _ _ _ _, Or.inl (ok_pi (ty := .int) (C := RX11) (T := TX11) (N := 93) (ci := 11) (k := 6) rfl inX11 (by decide) fl_X11_44 (by decide +kernel) tyX11 tyX11_ok nmX11 (by decide +kernel) (by decide +kernel) (by decide +kernel))⟩,
  fun _ h => absurd h List.not_mem_nil⟩⟩⟩⟩⟩⟩⟩⟩⟩⟩⟩⟩⟩⟩⟩⟩⟩⟩⟩⟩
def t_X11_fact_7 : List (Nat × am_F) := [(245, im_al 0 246), (246, im_dup 247), (247, im_gi q_SH 11 2 250), (250, im_ic 1 251), (251, im_bin (fun x y => x + y) 252), (252, im_pi q_SH 11 2 255), (255, im_al 0 256), (256, im_gi q_SH 11 6 259), (259, im_ic 1 260), (260, im_bin (fun x y => x - y) 261), (261, im_reti)]
set_option maxRecDepth 20000 in
theorem o_X11_fact_7 : ∀ q ∈ t_X11_fact_7, am_ok vwCl q_SH ξ (q_E ξ β xs L) q_EN q_KD q_ML (cX11_fact, 6, RX11, "fact", (some .int), []) q.1 q.2 :=
  List.forall_mem_cons.mpr ⟨⟨mo_al _ _, Or.inl (ok_aload_n (k := 0) rfl (by decide +kernel))⟩,
  List.forall_mem_cons.mpr ⟨⟨mo_dup _, Or.inl (ok_dup (by decide +kernel))⟩,
  List.forall_mem_cons.mpr ⟨⟨mo_gi _ _ _ _, Or.inl (ok_gi (C := RX11) (T := TX11) (N := 93) (ci := 11) (k := 2) rfl inX11 (by decide) fl_X11_10 (by decide +kernel) (by decide +kernel))⟩,
  List.forall_mem_cons.mpr ⟨⟨mo_ic _ _, Or.inl (ok_iconst (n := 1) (v := 1) (by decide) (by decide +kernel))⟩,
  List.forall_mem_cons.mpr ⟨⟨mo_bin _ _, Or.inl (ok_iadd (by decide +kernel))⟩,
  List.forall_mem_cons.mpr ⟨⟨mo_pi _ _ _ _, Or.inl (ok_pi (ty := .int) (C := RX11) (T := TX11) (N := 93) (ci := 11) (k := 2) rfl inX11 (by decide) fl_X11_10 (by decide +kernel) tyX11 tyX11_ok nmX11 (by decide +kernel) (by decide +kernel) (by decide +kernel))⟩,
  List.forall_mem_cons.mpr ⟨⟨mo_al _ _, Or.inl (ok_aload_n (k := 0) rfl (by decide +kernel))⟩,
  List.forall_mem_cons.mpr ⟨⟨mo_gi _ _ _ _, Or.inl (ok_gi (C := RX11) (T := TX11) (N := 93) (ci := 11) (k := 6) rfl inX11 (by decide) fl_X11_44 (by decide +kernel) (by decide +kernel))⟩,
  List.forall_mem_cons.mpr ⟨⟨mo_ic _ _, Or.inl (ok_iconst (n := 1) (v := 1) (by decide) (by decide +kernel))⟩,
  List.forall_mem_cons.mpr ⟨⟨mo_bin _ _, Or.inl (ok_isub (by decide +kernel))⟩,
  List.forall_mem_cons.mpr ⟨⟨mo_reti, Or.inr (Or.inr (ok_reti rfl (by decide +kernel)))⟩,
  fun _ h => absurd h List.not_mem_nil⟩⟩⟩⟩⟩⟩⟩⟩⟩⟩⟩
def t_X11_fact : List (Nat × am_F) := t_X11_fact_0 ++ (t_X11_fact_1 ++ (t_X11_fact_2 ++ (t_X11_fact_3 ++ (t_X11_fact_4 ++ (t_X11_fact_5 ++ (t_X11_fact_6 ++ (t_X11_fact_7)))))))
theorem o_X11_fact : ∀ q ∈ t_X11_fact, am_ok vwCl q_SH ξ (q_E ξ β xs L) q_EN q_KD q_ML (cX11_fact, 6, RX11, "fact", (some .int), []) q.1 q.2 := List.forall_mem_append.mpr ⟨o_X11_fact_0, List.forall_mem_append.mpr ⟨o_X11_fact_1, List.forall_mem_append.mpr ⟨o_X11_fact_2, List.forall_mem_append.mpr ⟨o_X11_fact_3, List.forall_mem_append.mpr ⟨o_X11_fact_4, List.forall_mem_append.mpr ⟨o_X11_fact_5, List.forall_mem_append.mpr ⟨o_X11_fact_6, o_X11_fact_7⟩⟩⟩⟩⟩⟩⟩
def t_X11_also_0 : List (Nat × am_F) := [(0, im_al 0 1), (1, im_ic 0 2), (2, im_pi q_SH 11 0 5), (5, im_al 0 6), (6, im_il 1 7), (7, im_if1 ib_lt 22 10), (10, im_il 1 11), (11, im_al 0 12), (12, im_gi q_SH 11 6 15), (15, im_if2 ic_ge 22 18), (18, im_ic 1 19), (19, im_go 23), (22, im_ic 0 23), (23, im_ic 1 24), (24, im_inv q_SH 11 103 2 27), (27, im_if1 ib_ne 32 30), (30, im_ic 0 31), (31, im_reti), (32, im_ic 0 33), (33, im_is 3 34)]
set_option maxRecDepth 20000 in
theorem o_X11_also_0 : ∀ q ∈ t_X11_also_0, am_ok vwCl q_SH ξ (q_E ξ β xs L) q_EN q_KD q_ML (cX11_also, 5, RX11, "also", (some .int), []) q.1 q.2 :=
  List.forall_mem_cons.mpr ⟨⟨mo_al _ _, Or.inl (ok_aload_n (k := 0) rfl (by decide +kernel))⟩,
  List.forall_mem_cons.mpr ⟨⟨mo_ic _ _, Or.inl (ok_iconst (n := 0) (v := 0) (by decide) (by decide +kernel))⟩,
  List.forall_mem_cons.mpr ⟨⟨mo_pi _ _ _ _, Or.inl (ok_pi (ty := .int) (C := RX11) (T := TX11) (N := 93) (ci := 11) (k := 0) rfl inX11 (by decide) fl_X11_1 (by decide +kernel) tyX11 tyX11_ok nmX11 (by decide +kernel) (by decide +kernel) (by decide +kernel))⟩,
  List.forall_mem_cons.mpr ⟨⟨mo_al _ _, Or.inl (ok_aload_n (k := 0) rfl (by decide +kernel))⟩,
  List.forall_mem_cons.mpr ⟨⟨mo_il _ _, Or.inl (ok_iload_n (k := 1) rfl (by decide +kernel))⟩,
  List.forall_mem_cons.mpr ⟨⟨mo_if1 _ _ _, Or.inl (ok_if_lt (off := 15) (by decide) (by decide +kernel))⟩,
  List.forall_mem_cons.mpr ⟨⟨mo_il _ _, Or.inl (ok_iload_n (k := 1) rfl (by decide +kernel))⟩,
  List.forall_mem_cons.mpr ⟨⟨mo_al _ _, Or.inl (ok_aload_n (k := 0) rfl (by decide +kernel))⟩,
  List.forall_mem_cons.mpr ⟨⟨mo_gi _ _ _ _, Or.inl (ok_gi (C := RX11) (T := TX11) (N := 93) (ci := 11) (k := 6) rfl inX11 (by decide) fl_X11_44 (by decide +kernel) (by decide +kernel))⟩,
  List.forall_mem_cons.mpr ⟨⟨mo_if2 _ _ _, Or.inl (ok_icmp_ge (off := 7) (by decide) (by decide +kernel))⟩,
  List.forall_mem_cons.mpr ⟨⟨mo_ic _ _, Or.inl (ok_iconst (n := 1) (v := 1) (by decide) (by decide +kernel))⟩,
  List.forall_mem_cons.mpr ⟨⟨mo_go _, Or.inl (ok_goto (off := 4) (by decide) (by decide +kernel))⟩,
  List.forall_mem_cons.mpr ⟨⟨mo_ic _ _, Or.inl (ok_iconst (n := 0) (v := 0) (by decide) (by decide +kernel))⟩,
  List.forall_mem_cons.mpr ⟨⟨mo_ic _ _, Or.inl (ok_iconst (n := 1) (v := 1) (by decide) (by decide +kernel))⟩,
  List.forall_mem_cons.mpr ⟨⟨mo_inv _ _ _ _ _, Or.inr (Or.inl (ok_inv (T := TX11) (N := 93) rfl cw_X11_right (by decide) (by decide) ml_X11_32 ci_X11_right cv_X11_right (show Cond.initialized (yX11_right).cls ∈ am_ts from ci9_RX11) ⟨by decide +kernel, by decide +kernel, by decide +kernel⟩ rfl (by decide +kernel)))⟩,
  List.forall_mem_cons.mpr ⟨⟨mo_if1 _ _ _, Or.inl (ok_if_ne (off := 5) (by decide) (by decide +kernel))⟩,
  List.forall_mem_cons.mpr ⟨⟨mo_ic _ _, Or.inl (ok_iconst (n := 0) (v := 0) (by decide) (by decide +kernel))⟩,
  List.forall_mem_cons.mpr ⟨⟨mo_reti, Or.inr (Or.inr (ok_reti rfl (by decide +kernel)))⟩,
  List.forall_mem_cons.mpr ⟨⟨mo_ic _ _, Or.inl (ok_iconst (n := 0) (v := 0) (by decide) (by decide +kernel))⟩,
  List.forall_mem_cons.mpr ⟨⟨mo_is _ _, Or.inl (ok_istore_n (k := 3) rfl (by decide) (by decide +kernel))⟩,
  fun _ h => absurd h List.not_mem_nil⟩⟩⟩⟩⟩⟩⟩⟩⟩⟩⟩⟩⟩⟩⟩⟩⟩⟩⟩⟩
def t_X11_also_1 : List (Nat × am_F) := [(34, im_ic 0 35), (35, im_is 4 37), (37, im_il 4 39), (39, im_al 0 40), (40, im_gr q_SH 11 17 43), (43, im_il 1 44), (44, im_ald q_SH .int 45), (45, im_if2 ic_ge 79 48), (48, im_il 3 49), (49, im_if1 ib_ne 67 52), (52, im_al 0 53), (53, im_gr q_SH 11 18 56), (56, im_ic 3 57), (57, im_il 1 58), (58, im_bin (fun x y => x * y) 59), (59, im_il 4 61), (61, im_bin (fun x y => x + y) 62), (62, im_ald q_SH .int 63), (63, im_il 2 64), (64, im_if2 ic_ne 71 67)]
set_option maxRecDepth 20000 in
theorem o_X11_also_1 : ∀ q ∈ t_X11_also_1, am_ok vwCl q_SH ξ (q_E ξ β xs L) q_EN q_KD q_ML (cX11_also, 5, RX11, "also", (some .int), []) q.1 q.2 :=
  List.forall_mem_cons.mpr ⟨⟨mo_ic _ _, Or.inl (ok_iconst (n := 0) (v := 0) (by decide) (by decide +kernel))⟩,
  List.forall_mem_cons.mpr ⟨⟨mo_is _ _, Or.inl (ok_istore (by decide) (by decide +kernel))⟩,
  List.forall_mem_cons.mpr ⟨⟨mo_il _ _, Or.inl (ok_iload (by decide +kernel))⟩,
  List.forall_mem_cons.mpr ⟨⟨mo_al _ _, Or.inl (ok_aload_n (k := 0) rfl (by decide +kernel))⟩,
  List.forall_mem_cons.mpr ⟨⟨mo_gr _ _ _ _, Or.inl (ok_gr (C := RX11) (T := TX11) (N := 93) (ci := 11) (k := 17) rfl inX11 (by decide) fl_X11_71 (by decide +kernel) (by decide +kernel))⟩,
  List.forall_mem_cons.mpr ⟨⟨mo_il _ _, Or.inl (ok_iload_n (k := 1) rfl (by decide +kernel))⟩,
  List.forall_mem_cons.mpr ⟨⟨mo_ald _ _ _, Or.inl (ok_iald (by decide +kernel))⟩,
  List.forall_mem_cons.mpr ⟨⟨mo_if2 _ _ _, Or.inl (ok_icmp_ge (off := 34) (by decide) (by decide +kernel))⟩,
  List.forall_mem_cons.mpr ⟨⟨mo_il _ _, Or.inl (ok_iload_n (k := 3) rfl (by decide +kernel))⟩,
  List.forall_mem_cons.mpr ⟨⟨mo_if1 _ _ _, Or.inl (ok_if_ne (off := 18) (by decide) (by decide +kernel))⟩,
  List.forall_mem_cons.mpr ⟨⟨mo_al _ _, Or.inl (ok_aload_n (k := 0) rfl (by decide +kernel))⟩,
  List.forall_mem_cons.mpr ⟨⟨mo_gr _ _ _ _, Or.inl (ok_gr (C := RX11) (T := TX11) (N := 93) (ci := 11) (k := 18) rfl inX11 (by decide) fl_X11_74 (by decide +kernel) (by decide +kernel))⟩,
  List.forall_mem_cons.mpr ⟨⟨mo_ic _ _, Or.inl (ok_iconst (n := 3) (v := 3) (by decide) (by decide +kernel))⟩,
  List.forall_mem_cons.mpr ⟨⟨mo_il _ _, Or.inl (ok_iload_n (k := 1) rfl (by decide +kernel))⟩,
  List.forall_mem_cons.mpr ⟨⟨mo_bin _ _, Or.inl (ok_imul (by decide +kernel))⟩,
  List.forall_mem_cons.mpr ⟨⟨mo_il _ _, Or.inl (ok_iload (by decide +kernel))⟩,
  List.forall_mem_cons.mpr ⟨⟨mo_bin _ _, Or.inl (ok_iadd (by decide +kernel))⟩,
  List.forall_mem_cons.mpr ⟨⟨mo_ald _ _ _, Or.inl (ok_iald (by decide +kernel))⟩,
  List.forall_mem_cons.mpr ⟨⟨mo_il _ _, Or.inl (ok_iload_n (k := 2) rfl (by decide +kernel))⟩,
  List.forall_mem_cons.mpr ⟨⟨mo_if2 _ _ _, Or.inl (ok_icmp_ne (off := 7) (by decide) (by decide +kernel))⟩,
  fun _ h => absurd h List.not_mem_nil⟩⟩⟩⟩⟩⟩⟩⟩⟩⟩⟩⟩⟩⟩⟩⟩⟩⟩⟩⟩
def t_X11_also_2 : List (Nat × am_F) := [(67, im_ic 1 68), (68, im_go 72), (71, im_ic 0 72), (72, im_is 3 73), (73, im_iinc 4 1 76), (76, im_go 37), (79, im_al 0 80), (80, im_gr q_SH 11 17 83), (83, im_il 1 84), (84, im_ald q_SH .int 85), (85, im_ic 3 86), (86, im_if2 ic_eq 100 89), (89, im_il 3 90), (90, im_if1 ib_ne 100 93), (93, im_il 2 94), (94, im_invs 109 1 97), (97, im_if1 ib_ne 102 100), (100, im_ic (-1) 101), (101, im_reti), (102, im_al 0 103)]
set_option maxRecDepth 20000 in
theorem o_X11_also_2 : ∀ q ∈ t_X11_also_2, am_ok vwCl q_SH ξ (q_E ξ β xs L) q_EN q_KD q_ML (cX11_also, 5, RX11, "also", (some .int), []) q.1 q.2 :=
  List.forall_mem_cons.mpr ⟨⟨mo_ic _ _, Or.inl (ok_iconst (n := 1) (v := 1) (by decide) (by decide +kernel))⟩,
  List.forall_mem_cons.mpr ⟨⟨mo_go _, Or.inl (ok_goto (off := 4) (by decide) (by decide +kernel))⟩,
  List.forall_mem_cons.mpr ⟨⟨mo_ic _ _, Or.inl (ok_iconst (n := 0) (v := 0) (by decide) (by decide +kernel))⟩,
  List.forall_mem_cons.mpr ⟨⟨mo_is _ _, Or.inl (ok_istore_n (k := 3) rfl (by decide) (by decide +kernel))⟩,
  List.forall_mem_cons.mpr ⟨⟨mo_iinc _ _ _, Or.inl (ok_iinc (n := 1) (v := 1) (by decide) (by decide) (by decide +kernel))⟩,
  List.forall_mem_cons.mpr ⟨⟨mo_go _, Or.inl (ok_goto (off := (-39)) (by decide) (by decide +kernel))⟩,
  List.forall_mem_cons.mpr ⟨⟨mo_al _ _, Or.inl (ok_aload_n (k := 0) rfl (by decide +kernel))⟩,
  List.forall_mem_cons.mpr ⟨⟨mo_gr _ _ _ _, Or.inl (ok_gr (C := RX11) (T := TX11) (N := 93) (ci := 11) (k := 17) rfl inX11 (by decide) fl_X11_71 (by decide +kernel) (by decide +kernel))⟩,
  List.forall_mem_cons.mpr ⟨⟨mo_il _ _, Or.inl (ok_iload_n (k := 1) rfl (by decide +kernel))⟩,
  List.forall_mem_cons.mpr ⟨⟨mo_ald _ _ _, Or.inl (ok_iald (by decide +kernel))⟩,
  List.forall_mem_cons.mpr ⟨⟨mo_ic _ _, Or.inl (ok_iconst (n := 3) (v := 3) (by decide) (by decide +kernel))⟩,
  List.forall_mem_cons.mpr ⟨⟨mo_if2 _ _ _, Or.inl (ok_icmp_eq (off := 14) (by decide) (by decide +kernel))⟩,
  List.forall_mem_cons.mpr ⟨⟨mo_il _ _, Or.inl (ok_iload_n (k := 3) rfl (by decide +kernel))⟩,
  List.forall_mem_cons.mpr ⟨⟨mo_if1 _ _ _, Or.inl (ok_if_ne (off := 10) (by decide) (by decide +kernel))⟩,
  List.forall_mem_cons.mpr ⟨⟨mo_il _ _, Or.inl (ok_iload_n (k := 2) rfl (by decide +kernel))⟩,
  List.forall_mem_cons.mpr ⟨⟨mo_invs _ _ _, Or.inr (Or.inl (ok_invs cw_X11_isDay (by decide) (by decide) ml_X11_47 cs_X11_isDay (show Cond.initialized (yX11_isDay).cls ∈ am_ts from ci9_RX11) ⟨by decide +kernel, by decide +kernel, by decide +kernel⟩ rfl (by decide +kernel)))⟩,
  List.forall_mem_cons.mpr ⟨⟨mo_if1 _ _ _, Or.inl (ok_if_ne (off := 5) (by decide) (by decide +kernel))⟩,
  List.forall_mem_cons.mpr ⟨⟨mo_ic _ _, Or.inl (ok_iconst (n := (-1)) (v := (-1)) (by decide) (by decide +kernel))⟩,
  List.forall_mem_cons.mpr ⟨⟨mo_reti, Or.inr (Or.inr (ok_reti rfl (by decide +kernel)))⟩,
  List.forall_mem_cons.mpr ⟨⟨mo_al _ _, Or.inl (ok_aload_n (k := 0) rfl (by decide +kernel))⟩,
  fun _ h => absurd h List.not_mem_nil⟩⟩⟩⟩⟩⟩⟩⟩⟩⟩⟩⟩⟩⟩⟩⟩⟩⟩⟩⟩
def t_X11_also_3 : List (Nat × am_F) := [(103, im_gr q_SH 11 18 106), (106, im_ic 3 107), (107, im_il 1 108), (108, im_bin (fun x y => x * y) 109), (109, im_al 0 110), (110, im_gr q_SH 11 17 113), (113, im_il 1 114), (114, im_ald q_SH .int 115), (115, im_bin (fun x y => x + y) 116), (116, im_il 2 117), (117, im_ast q_SH .int (fun x => x) 118), (118, im_al 0 119), (119, im_gr q_SH 11 17 122), (122, im_il 1 123), (123, im_dup2 124), (124, im_ald q_SH .int 125), (125, im_ic 1 126), (126, im_bin (fun x y => x + y) 127), (127, im_ast q_SH .int (fun x => x) 128), (128, im_al 0 129)]
set_option maxRecDepth 20000 in
theorem o_X11_also_3 : ∀ q ∈ t_X11_also_3, am_ok vwCl q_SH ξ (q_E ξ β xs L) q_EN q_KD q_ML (cX11_also, 5, RX11, "also", (some .int), []) q.1 q.2 :=
  List.forall_mem_cons.mpr ⟨⟨mo_gr _ _ _ _, Or.inl (ok_gr (C := RX11) (T := TX11) (N := 93) (ci := 11) (k := 18) rfl inX11 (by decide) fl_X11_74 (by decide +kernel) (by decide +kernel))⟩,
  List.forall_mem_cons.mpr ⟨⟨mo_ic _ _, Or.inl (ok_iconst (n := 3) (v := 3) (by decide) (by decide +kernel))⟩,
  List.forall_mem_cons.mpr ⟨⟨mo_il _ _, Or.inl (ok_iload_n (k := 1) rfl (by decide +kernel))⟩,
  List.forall_mem_cons.mpr ⟨⟨mo_bin _ _, Or.inl (ok_imul (by decide +kernel))⟩,
  List.forall_mem_cons.mpr ⟨⟨mo_al _ _, Or.inl (ok_aload_n (k := 0) rfl (by decide +kernel))⟩,
  List.forall_mem_cons.mpr ⟨⟨mo_gr _ _ _ _, Or.inl (ok_gr (C := RX11) (T := TX11) (N := 93) (ci := 11) (k := 17) rfl inX11 (by decide) fl_X11_71 (by decide +kernel) (by decide +kernel))⟩,
  List.forall_mem_cons.mpr ⟨⟨mo_il _ _, Or.inl (ok_iload_n (k := 1) rfl (by decide +kernel))⟩,
  List.forall_mem_cons.mpr ⟨⟨mo_ald _ _ _, Or.inl (ok_iald (by decide +kernel))⟩,
  List.forall_mem_cons.mpr ⟨⟨mo_bin _ _, Or.inl (ok_iadd (by decide +kernel))⟩,
  List.forall_mem_cons.mpr ⟨⟨mo_il _ _, Or.inl (ok_iload_n (k := 2) rfl (by decide +kernel))⟩,
  List.forall_mem_cons.mpr ⟨⟨mo_ast _ _ _ _, Or.inl (ok_iast (by decide +kernel))⟩,
  List.forall_mem_cons.mpr ⟨⟨mo_al _ _, Or.inl (ok_aload_n (k := 0) rfl (by decide +kernel))⟩,
  List.forall_mem_cons.mpr ⟨⟨mo_gr _ _ _ _, Or.inl (ok_gr (C := RX11) (T := TX11) (N := 93) (ci := 11) (k := 17) rfl inX11 (by decide) fl_X11_71 (by decide +kernel) (by decide +kernel))⟩,
  List.forall_mem_cons.mpr ⟨⟨mo_il _ _, Or.inl (ok_iload_n (k := 1) rfl (by decide +kernel))⟩,
  List.forall_mem_cons.mpr ⟨⟨mo_dup2 _, Or.inl (ok_dup2 (by decide +kernel))⟩,
  List.forall_mem_cons.mpr ⟨⟨mo_ald _ _ _, Or.inl (ok_iald (by decide +kernel))⟩,
  List.forall_mem_cons.mpr ⟨⟨mo_ic _ _, Or.inl (ok_iconst (n := 1) (v := 1) (by decide) (by decide +kernel))⟩,
  List.forall_mem_cons.mpr ⟨⟨mo_bin _ _, Or.inl (ok_iadd (by decide +kernel))⟩,
  List.forall_mem_cons.mpr ⟨⟨mo_ast _ _ _ _, Or.inl (ok_iast (by decide +kernel))⟩,
  List.forall_mem_cons.mpr ⟨⟨mo_al _ _, Or.inl (ok_aload_n (k := 0) rfl (by decide +kernel))⟩,
  fun _ h => absurd h List.not_mem_nil⟩⟩⟩⟩⟩⟩⟩⟩⟩⟩⟩⟩⟩⟩⟩⟩⟩⟩⟩⟩
def t_X11_also_4 : List (Nat × am_F) := [(129, im_dup 130), (130, im_gi q_SH 11 2 133), (133, im_ic 1 134), (134, im_bin (fun x y => x + y) 135), (135, im_pi q_SH 11 2 138), (138, im_al 0 139), (139, im_gr q_SH 11 17 142), (142, im_il 1 143), (143, im_ald q_SH .int 144), (144, im_reti)]
set_option maxRecDepth 20000 in
theorem o_X11_also_4 : ∀ q ∈ t_X11_also_4, am_ok vwCl q_SH ξ (q_E ξ β xs L) q_EN q_KD q_ML (cX11_also, 5, RX11, "also", (some .int), []) q.1 q.2 :=
  List.forall_mem_cons.mpr ⟨⟨mo_dup _, Or.inl (ok_dup (by decide +kernel))⟩,
  List.forall_mem_cons.mpr ⟨⟨mo_gi _ _ _ _, Or.inl (ok_gi (C := RX11) (T := TX11) (N := 93) (ci := 11) (k := 2) rfl inX11 (by decide) fl_X11_10 (by decide +kernel) (by decide +kernel))⟩,
  List.forall_mem_cons.mpr ⟨⟨mo_ic _ _, Or.inl (ok_iconst (n := 1) (v := 1) (by decide) (by decide +kernel))⟩,
  List.forall_mem_cons.mpr ⟨⟨mo_bin _ _, Or.inl (ok_iadd (by decide +kernel))⟩,
  List.forall_mem_cons.mpr ⟨⟨mo_pi _ _ _ _, Or.inl (ok_pi (ty := .int) (C := RX11) (T := TX11) (N := 93) (ci := 11) (k := 2) rfl inX11 (by decide) fl_X11_10 (by decide +kernel) tyX11 tyX11_ok nmX11 (by decide +kernel) (by decide +kernel) (by decide +kernel))⟩,
  List.forall_mem_cons.mpr ⟨⟨mo_al _ _, Or.inl (ok_aload_n (k := 0) rfl (by decide +kernel))⟩,
  List.forall_mem_cons.mpr ⟨⟨mo_gr _ _ _ _, Or.inl (ok_gr (C := RX11) (T := TX11) (N := 93) (ci := 11) (k := 17) rfl inX11 (by decide) fl_X11_71 (by decide +kernel) (by decide +kernel))⟩,
  List.forall_mem_cons.mpr ⟨⟨mo_il _ _, Or.inl (ok_iload_n (k := 1) rfl (by decide +kernel))⟩,
  List.forall_mem_cons.mpr ⟨⟨mo_ald _ _ _, Or.inl (ok_iald (by decide +kernel))⟩,
  List.forall_mem_cons.mpr ⟨⟨mo_reti, Or.inr (Or.inr (ok_reti rfl (by decide +kernel)))⟩,
  fun _ h => absurd h List.not_mem_nil⟩⟩⟩⟩⟩⟩⟩⟩⟩⟩
def t_X11_also : List (Nat × am_F) := t_X11_also_0 ++ (t_X11_also_1 ++ (t_X11_also_2 ++ (t_X11_also_3 ++ (t_X11_also_4))))
theorem o_X11_also : ∀ q ∈ t_X11_also, am_ok vwCl q_SH ξ (q_E ξ β xs L) q_EN q_KD q_ML (cX11_also, 5, RX11, "also", (some .int), []) q.1 q.2 := List.forall_mem_append.mpr ⟨o_X11_also_0, List.forall_mem_append.mpr ⟨o_X11_also_1, List.forall_mem_append.mpr ⟨o_X11_also_2, List.forall_mem_append.mpr ⟨o_X11_also_3, o_X11_also_4⟩⟩⟩⟩
def t_X11_back_0 : List (Nat × am_F) := [(0, im_al 0 1), (1, im_ic 0 2), (2, im_pi q_SH 11 0 5), (5, im_al 0 6), (6, im_il 2 7), (7, im_if1 ib_lt 33 10), (10, im_il 2 11), (11, im_il 1 12), (12, im_if1 ib_eq 22 15), (15, im_al 0 16), (16, im_gi q_SH 11 32 19), (19, im_go 26), (22, im_al 0 23), (23, im_gi q_SH 11 6 26), (26, im_if2 ic_ge 33 29), (29, im_ic 1 30), (30, im_go 34), (33, im_ic 0 34), (34, im_ic 1 35), (35, im_inv q_SH 11 103 2 38)]
set_option maxRecDepth 20000 in
theorem o_X11_back_0 : ∀ q ∈ t_X11_back_0, am_ok vwCl q_SH ξ (q_E ξ β xs L) q_EN q_KD q_ML (cX11_back, 3, RX11, "back", (some .boolean), []) q.1 q.2 :=
  List.forall_mem_cons.mpr ⟨⟨mo_al _ _, Or.inl (ok_aload_n (k := 0) rfl (by decide +kernel))⟩,
  List.forall_mem_cons.mpr ⟨⟨mo_ic _ _, Or.inl (ok_iconst (n := 0) (v := 0) (by decide) (by decide +kernel))⟩,
  List.forall_mem_cons.mpr ⟨⟨mo_pi _ _ _ _, Or.inl (ok_pi (ty := .int) (C := RX11) (T := TX11) (N := 93) (ci := 11) (k := 0) rfl inX11 (by decide) fl_X11_1 (by decide +kernel) tyX11 tyX11_ok nmX11 (by decide +kernel) (by decide +kernel) (by decide +kernel))⟩,
  List.forall_mem_cons.mpr ⟨⟨mo_al _ _, Or.inl (ok_aload_n (k := 0) rfl (by decide +kernel))⟩,
  List.forall_mem_cons.mpr ⟨⟨mo_il _ _, Or.inl (ok_iload_n (k := 2) rfl (by decide +kernel))⟩,
  List.forall_mem_cons.mpr ⟨⟨mo_if1 _ _ _, Or.inl (ok_if_lt (off := 26) (by decide) (by decide +kernel))⟩,
  List.forall_mem_cons.mpr ⟨⟨mo_il _ _, Or.inl (ok_iload_n (k := 2) rfl (by decide +kernel))⟩,
  List.forall_mem_cons.mpr ⟨⟨mo_il _ _, Or.inl (ok_iload_n (k := 1) rfl (by decide +kernel))⟩,
  List.forall_mem_cons.mpr ⟨⟨mo_if1 _ _ _, Or.inl (ok_if_eq (off := 10) (by decide) (by decide +kernel))⟩,
  List.forall_mem_cons.mpr ⟨⟨mo_al _ _, Or.inl (ok_aload_n (k := 0) rfl (by decide +kernel))⟩,
  List.forall_mem_cons.mpr ⟨⟨mo_gi _ _ _ _, Or.inl (ok_gi (C := RX11) (T := TX11) (N := 93) (ci := 11) (k := 32) rfl inX11 (by decide) fl_X11_77 (by decide +kernel) (by decide +kernel))⟩,
  List.forall_mem_cons.mpr ⟨⟨mo_go _, Or.inl (ok_goto (off := 7) (by decide) (by decide +kernel))⟩,
  List.forall_mem_cons.mpr ⟨⟨mo_al _ _, Or.inl (ok_aload_n (k := 0) rfl (by decide +kernel))⟩,
  List.forall_mem_cons.mpr ⟨⟨mo_gi _ _ _ _, Or.inl (ok_gi (C := RX11) (T := TX11) (N := 93) (ci := 11) (k := 6) rfl inX11 (by decide) fl_X11_44 (by decide +kernel) (by decide +kernel))⟩,
  List.forall_mem_cons.mpr ⟨⟨mo_if2 _ _ _, Or.inl (ok_icmp_ge (off := 7) (by decide) (by decide +kernel))⟩,
  List.forall_mem_cons.mpr ⟨⟨mo_ic _ _, Or.inl (ok_iconst (n := 1) (v := 1) (by decide) (by decide +kernel))⟩,
  List.forall_mem_cons.mpr ⟨⟨mo_go _, Or.inl (ok_goto (off := 4) (by decide) (by decide +kernel))⟩,
  List.forall_mem_cons.mpr ⟨⟨mo_ic _ _, Or.inl (ok_iconst (n := 0) (v := 0) (by decide) (by decide +kernel))⟩,
  List.forall_mem_cons.mpr ⟨⟨mo_ic _ _, Or.inl (ok_iconst (n := 1) (v := 1) (by decide) (by decide +kernel))⟩,
  List.forall_mem_cons.mpr ⟨⟨mo_inv _ _ _ _ _, Or.inr (Or.inl (ok_inv (T := TX11) (N := 93) rfl cw_X11_right (by decide) (by decide) ml_X11_32 ci_X11_right cv_X11_right (show Cond.initialized (yX11_right).cls ∈ am_ts from ci9_RX11) ⟨by decide +kernel, by decide +kernel, by decide +kernel⟩ rfl (by decide +kernel)))⟩,
  fun _ h => absurd h List.not_mem_nil⟩⟩⟩⟩⟩⟩⟩⟩⟩⟩⟩⟩⟩⟩⟩⟩⟩⟩⟩⟩
def t_X11_back_1 : List (Nat × am_F) := [(38, im_if1 ib_ne 43 41), (41, im_ic 0 42), (42, im_retz), (43, im_il 1 44), (44, im_if1 ib_eq 56 47), (47, im_al 0 48), (48, im_gr q_SH 11 40 51), (51, im_il 2 52), (52, im_ald q_SH .int 53), (53, im_go 62), (56, im_al 0 57), (57, im_gr q_SH 11 16 60), (60, im_il 2 61), (61, im_ald q_SH .int 62), (62, im_ic (-1) 63), (63, im_if2 ic_eq 68 66), (66, im_ic 0 67), (67, im_retz), (68, im_il 1 69), (69, im_if1 ib_eq 85 72)]
set_option maxRecDepth 20000 in
theorem o_X11_back_1 : ∀ q ∈ t_X11_back_1, am_ok vwCl q_SH ξ (q_E ξ β xs L) q_EN q_KD q_ML (cX11_back, 3, RX11, "back", (some .boolean), []) q.1 q.2 :=
  List.forall_mem_cons.mpr ⟨⟨mo_if1 _ _ _, Or.inl (ok_if_ne (off := 5) (by decide) (by decide +kernel))⟩,
  List.forall_mem_cons.mpr ⟨⟨mo_ic _ _, Or.inl (ok_iconst (n := 0) (v := 0) (by decide) (by decide +kernel))⟩,
  List.forall_mem_cons.mpr ⟨⟨mo_retz, Or.inr (Or.inr (ok_retz rfl (by decide +kernel)))⟩,
  List.forall_mem_cons.mpr ⟨⟨mo_il _ _, Or.inl (ok_iload_n (k := 1) rfl (by decide +kernel))⟩,
  List.forall_mem_cons.mpr ⟨⟨mo_if1 _ _ _, Or.inl (ok_if_eq (off := 12) (by decide) (by decide +kernel))⟩,
  List.forall_mem_cons.mpr ⟨⟨mo_al _ _, Or.inl (ok_aload_n (k := 0) rfl (by decide +kernel))⟩,
  List.forall_mem_cons.mpr ⟨⟨mo_gr _ _ _ _, Or.inl (ok_gr (C := RX11) (T := TX11) (N := 93) (ci := 11) (k := 40) rfl inX11 (by decide) fl_X11_80 (by decide +kernel) (by decide +kernel))⟩,
  List.forall_mem_cons.mpr ⟨⟨mo_il _ _, Or.inl (ok_iload_n (k := 2) rfl (by decide +kernel))⟩,
  List.forall_mem_cons.mpr ⟨⟨mo_ald _ _ _, Or.inl (ok_iald (by decide +kernel))⟩,
  List.forall_mem_cons.mpr ⟨⟨mo_go _, Or.inl (ok_goto (off := 9) (by decide) (by decide +kernel))⟩,
  List.forall_mem_cons.mpr ⟨⟨mo_al _ _, Or.inl (ok_aload_n (k := 0) rfl (by decide +kernel))⟩,
  List.forall_mem_cons.mpr ⟨⟨mo_gr _ _ _ _, Or.inl (ok_gr (C := RX11) (T := TX11) (N := 93) (ci := 11) (k := 16) rfl inX11 (by decide) fl_X11_68 (by decide +kernel) (by decide +kernel))⟩,
  List.forall_mem_cons.mpr ⟨⟨mo_il _ _, Or.inl (ok_iload_n (k := 2) rfl (by decide +kernel))⟩,
  List.forall_mem_cons.mpr ⟨⟨mo_ald _ _ _, Or.inl (ok_iald (by decide +kernel))⟩,
  List.forall_mem_cons.mpr ⟨⟨mo_ic _ _, Or.inl (ok_iconst (n := (-1)) (v := (-1)) (by decide) (by decide +kernel))⟩,
  List.forall_mem_cons.mpr ⟨⟨mo_if2 _ _ _, Or.inl (ok_icmp_eq (off := 5) (by decide) (by decide +kernel))⟩,
  List.forall_mem_cons.mpr ⟨⟨mo_ic _ _, Or.inl (ok_iconst (n := 0) (v := 0) (by decide) (by decide +kernel))⟩,
  List.forall_mem_cons.mpr ⟨⟨mo_retz, Or.inr (Or.inr (ok_retz rfl (by decide +kernel)))⟩,
  List.forall_mem_cons.mpr ⟨⟨mo_il _ _, Or.inl (ok_iload_n (k := 1) rfl (by decide +kernel))⟩,
  List.forall_mem_cons.mpr ⟨⟨mo_if1 _ _ _, Or.inl (ok_if_eq (off := 16) (by decide) (by decide +kernel))⟩,
  fun _ h => absurd h List.not_mem_nil⟩⟩⟩⟩⟩⟩⟩⟩⟩⟩⟩⟩⟩⟩⟩⟩⟩⟩⟩⟩
def t_X11_back_2 : List (Nat × am_F) := [(72, im_al 0 73), (73, im_gr q_SH 11 40 76), (76, im_il 2 77), (77, im_al 0 78), (78, im_gi q_SH 11 1 81), (81, im_ast q_SH .int (fun x => x) 82), (82, im_go 95), (85, im_al 0 86), (86, im_gr q_SH 11 16 89), (89, im_il 2 90), (90, im_al 0 91), (91, im_gi q_SH 11 1 94), (94, im_ast q_SH .int (fun x => x) 95), (95, im_al 0 96), (96, im_dup 97), (97, im_gi q_SH 11 2 100), (100, im_ic 1 101), (101, im_bin (fun x y => x + y) 102), (102, im_pi q_SH 11 2 105), (105, im_ic 1 106)]
set_option maxRecDepth 20000 in
theorem o_X11_back_2 : ∀ q ∈ t_X11_back_2, am_ok vwCl q_SH ξ (q_E ξ β xs L) q_EN q_KD q_ML (cX11_back, 3, RX11, "back", (some .boolean), []) q.1 q.2 :=
  List.forall_mem_cons.mpr ⟨⟨mo_al _ _, Or.inl (ok_aload_n (k := 0) rfl (by decide +kernel))⟩,
  List.forall_mem_cons.mpr ⟨⟨mo_gr _ _ _ _, Or.inl (ok_gr (C := RX11) (T := TX11) (N := 93) (ci := 11) (k := 40) rfl inX11 (by decide) fl_X11_80 (by decide +kernel) (by decide +kernel))⟩,
  List.forall_mem_cons.mpr ⟨⟨mo_il _ _, Or.inl (ok_iload_n (k := 2) rfl (by decide +kernel))⟩,
  List.forall_mem_cons.mpr ⟨⟨mo_al _ _, Or.inl (ok_aload_n (k := 0) rfl (by decide +kernel))⟩,
  List.forall_mem_cons.mpr ⟨⟨mo_gi _ _ _ _, Or.inl (ok_gi (C := RX11) (T := TX11) (N := 93) (ci := 11) (k := 1) rfl inX11 (by decide) fl_X11_65 (by decide +kernel) (by decide +kernel))⟩,
  List.forall_mem_cons.mpr ⟨⟨mo_ast _ _ _ _, Or.inl (ok_iast (by decide +kernel))⟩,
  List.forall_mem_cons.mpr ⟨⟨mo_go _, Or.inl (ok_goto (off := 13) (by decide) (by decide +kernel))⟩,
  List.forall_mem_cons.mpr ⟨⟨mo_al _ _, Or.inl (ok_aload_n (k := 0) rfl (by decide +kernel))⟩,
  List.forall_mem_cons.mpr ⟨⟨mo_gr _ _ _ _, Or.inl (ok_gr (C := RX11) (T := TX11) (N := 93) (ci := 11) (k := 16) rfl inX11 (by decide) fl_X11_68 (by decide +kernel) (by decide +kernel))⟩,
  List.forall_mem_cons.mpr ⟨⟨mo_il _ _, Or.inl (ok_iload_n (k := 2) rfl (by decide +kernel))⟩,
  List.forall_mem_cons.mpr ⟨⟨mo_al _ _, Or.inl (ok_aload_n (k := 0) rfl (by decide +kernel))⟩,
  List.forall_mem_cons.mpr ⟨⟨mo_gi _ _ _ _, Or.inl (ok_gi (C := RX11) (T := TX11) (N := 93) (ci := 11) (k := 1) rfl inX11 (by decide) fl_X11_65 (by decide +kernel) (by decide +kernel))⟩,
  List.forall_mem_cons.mpr ⟨⟨mo_ast _ _ _ _, Or.inl (ok_iast (by decide +kernel))⟩,
  List.forall_mem_cons.mpr ⟨⟨mo_al _ _, Or.inl (ok_aload_n (k := 0) rfl (by decide +kernel))⟩,
  List.forall_mem_cons.mpr ⟨⟨mo_dup _, Or.inl (ok_dup (by decide +kernel))⟩,
  List.forall_mem_cons.mpr ⟨⟨mo_gi _ _ _ _, Or.inl (ok_gi (C := RX11) (T := TX11) (N := 93) (ci := 11) (k := 2) rfl inX11 (by decide) fl_X11_10 (by decide +kernel) (by decide +kernel))⟩,
  List.forall_mem_cons.mpr ⟨⟨mo_ic _ _, Or.inl (ok_iconst (n := 1) (v := 1) (by decide) (by decide +kernel))⟩,
  List.forall_mem_cons.mpr ⟨⟨mo_bin _ _, Or.inl (ok_iadd (by decide +kernel))⟩,
  List.forall_mem_cons.mpr ⟨⟨mo_pi _ _ _ _, Or.inl (ok_pi (ty := .int) (C := RX11) (T := TX11) (N := 93) (ci := 11) (k := 2) rfl inX11 (by decide) fl_X11_10 (by decide +kernel) tyX11 tyX11_ok nmX11 (by decide +kernel) (by decide +kernel) (by decide +kernel))⟩,
  List.forall_mem_cons.mpr ⟨⟨mo_ic _ _, Or.inl (ok_iconst (n := 1) (v := 1) (by decide) (by decide +kernel))⟩,
  fun _ h => absurd h List.not_mem_nil⟩⟩⟩⟩⟩⟩⟩⟩⟩⟩⟩⟩⟩⟩⟩⟩⟩⟩⟩⟩
def t_X11_back_3 : List (Nat × am_F) := [(106, im_retz)]
set_option maxRecDepth 20000 in
theorem o_X11_back_3 : ∀ q ∈ t_X11_back_3, am_ok vwCl q_SH ξ (q_E ξ β xs L) q_EN q_KD q_ML (cX11_back, 3, RX11, "back", (some .boolean), []) q.1 q.2 :=
  List.forall_mem_cons.mpr ⟨⟨mo_retz, Or.inr (Or.inr (ok_retz rfl (by decide +kernel)))⟩,
  fun _ h => absurd h List.not_mem_nil⟩
def t_X11_back : List (Nat × am_F) := t_X11_back_0 ++ (t_X11_back_1 ++ (t_X11_back_2 ++ (t_X11_back_3)))
theorem o_X11_back : ∀ q ∈ t_X11_back, am_ok vwCl q_SH ξ (q_E ξ β xs L) q_EN q_KD q_ML (cX11_back, 3, RX11, "back", (some .boolean), []) q.1 q.2 := List.forall_mem_append.mpr ⟨o_X11_back_0, List.forall_mem_append.mpr ⟨o_X11_back_1, List.forall_mem_append.mpr ⟨o_X11_back_2, o_X11_back_3⟩⟩⟩
def t_X11_evenings_0 : List (Nat × am_F) := [(0, im_al 0 1), (1, im_ic 0 2), (2, im_pi q_SH 11 0 5), (5, im_al 0 6), (6, im_il 1 7), (7, im_if1 ib_lt 33 10), (10, im_il 1 11), (11, im_ic 999 14), (14, im_if2 ic_gt 33 17), (17, im_il 1 18), (18, im_ic 999 21), (21, im_al 0 22), (22, im_gi q_SH 11 1 25), (25, im_bin (fun x y => x - y) 26), (26, im_if2 ic_gt 33 29), (29, im_ic 1 30), (30, im_go 34), (33, im_ic 0 34), (34, im_ic 1 35), (35, im_inv q_SH 11 103 2 38)]
set_option maxRecDepth 20000 in
theorem o_X11_evenings_0 : ∀ q ∈ t_X11_evenings_0, am_ok vwCl q_SH ξ (q_E ξ β xs L) q_EN q_KD q_ML (cX11_evenings, 2, RX11, "evenings", (some .int), []) q.1 q.2 :=
  List.forall_mem_cons.mpr ⟨⟨mo_al _ _, Or.inl (ok_aload_n (k := 0) rfl (by decide +kernel))⟩,
  List.forall_mem_cons.mpr ⟨⟨mo_ic _ _, Or.inl (ok_iconst (n := 0) (v := 0) (by decide) (by decide +kernel))⟩,
  List.forall_mem_cons.mpr ⟨⟨mo_pi _ _ _ _, Or.inl (ok_pi (ty := .int) (C := RX11) (T := TX11) (N := 93) (ci := 11) (k := 0) rfl inX11 (by decide) fl_X11_1 (by decide +kernel) tyX11 tyX11_ok nmX11 (by decide +kernel) (by decide +kernel) (by decide +kernel))⟩,
  List.forall_mem_cons.mpr ⟨⟨mo_al _ _, Or.inl (ok_aload_n (k := 0) rfl (by decide +kernel))⟩,
  List.forall_mem_cons.mpr ⟨⟨mo_il _ _, Or.inl (ok_iload_n (k := 1) rfl (by decide +kernel))⟩,
  List.forall_mem_cons.mpr ⟨⟨mo_if1 _ _ _, Or.inl (ok_if_lt (off := 26) (by decide) (by decide +kernel))⟩,
  List.forall_mem_cons.mpr ⟨⟨mo_il _ _, Or.inl (ok_iload_n (k := 1) rfl (by decide +kernel))⟩,
  List.forall_mem_cons.mpr ⟨⟨mo_ic _ _, Or.inl (ok_sipush (n := 999) (v := 999) (by decide) (by decide +kernel))⟩,
  List.forall_mem_cons.mpr ⟨⟨mo_if2 _ _ _, Or.inl (ok_icmp_gt (off := 19) (by decide) (by decide +kernel))⟩,
  List.forall_mem_cons.mpr ⟨⟨mo_il _ _, Or.inl (ok_iload_n (k := 1) rfl (by decide +kernel))⟩,
  List.forall_mem_cons.mpr ⟨⟨mo_ic _ _, Or.inl (ok_sipush (n := 999) (v := 999) (by decide) (by decide +kernel))⟩,
  List.forall_mem_cons.mpr ⟨⟨mo_al _ _, Or.inl (ok_aload_n (k := 0) rfl (by decide +kernel))⟩,
  List.forall_mem_cons.mpr ⟨⟨mo_gi _ _ _ _, Or.inl (ok_gi (C := RX11) (T := TX11) (N := 93) (ci := 11) (k := 1) rfl inX11 (by decide) fl_X11_65 (by decide +kernel) (by decide +kernel))⟩,
  List.forall_mem_cons.mpr ⟨⟨mo_bin _ _, Or.inl (ok_isub (by decide +kernel))⟩,
  List.forall_mem_cons.mpr ⟨⟨mo_if2 _ _ _, Or.inl (ok_icmp_gt (off := 7) (by decide) (by decide +kernel))⟩,
  List.forall_mem_cons.mpr ⟨⟨mo_ic _ _, Or.inl (ok_iconst (n := 1) (v := 1) (by decide) (by decide +kernel))⟩,
  List.forall_mem_cons.mpr ⟨⟨mo_go _, Or.inl (ok_goto (off := 4) (by decide) (by decide +kernel))⟩,
  List.forall_mem_cons.mpr ⟨⟨mo_ic _ _, Or.inl (ok_iconst (n := 0) (v := 0) (by decide) (by decide +kernel))⟩,
  List.forall_mem_cons.mpr ⟨⟨mo_ic _ _, Or.inl (ok_iconst (n := 1) (v := 1) (by decide) (by decide +kernel))⟩,
  List.forall_mem_cons.mpr ⟨⟨mo_inv _ _ _ _ _, Or.inr (Or.inl (ok_inv (T := TX11) (N := 93) rfl cw_X11_right (by decide) (by decide) ml_X11_32 ci_X11_right cv_X11_right (show Cond.initialized (yX11_right).cls ∈ am_ts from ci9_RX11) ⟨by decide +kernel, by decide +kernel, by decide +kernel⟩ rfl (by decide +kernel)))⟩,
  fun _ h => absurd h List.not_mem_nil⟩⟩⟩⟩⟩⟩⟩⟩⟩⟩⟩⟩⟩⟩⟩⟩⟩⟩⟩⟩
def t_X11_evenings_1 : List (Nat × am_F) := [(38, im_if1 ib_ne 43 41), (41, im_ic 0 42), (42, im_reti), (43, im_al 0 44), (44, im_dup 45), (45, im_gi q_SH 11 1 48), (48, im_il 1 49), (49, im_bin (fun x y => x + y) 50), (50, im_pi q_SH 11 1 53), (53, im_al 0 54), (54, im_gi q_SH 11 1 57), (57, im_reti)]
set_option maxRecDepth 20000 in
theorem o_X11_evenings_1 : ∀ q ∈ t_X11_evenings_1, am_ok vwCl q_SH ξ (q_E ξ β xs L) q_EN q_KD q_ML (cX11_evenings, 2, RX11, "evenings", (some .int), []) q.1 q.2 :=
  List.forall_mem_cons.mpr ⟨⟨mo_if1 _ _ _, Or.inl (ok_if_ne (off := 5) (by decide) (by decide +kernel))⟩,
  List.forall_mem_cons.mpr ⟨⟨mo_ic _ _, Or.inl (ok_iconst (n := 0) (v := 0) (by decide) (by decide +kernel))⟩,
  List.forall_mem_cons.mpr ⟨⟨mo_reti, Or.inr (Or.inr (ok_reti rfl (by decide +kernel)))⟩,
  List.forall_mem_cons.mpr ⟨⟨mo_al _ _, Or.inl (ok_aload_n (k := 0) rfl (by decide +kernel))⟩,
  List.forall_mem_cons.mpr ⟨⟨mo_dup _, Or.inl (ok_dup (by decide +kernel))⟩,
  List.forall_mem_cons.mpr ⟨⟨mo_gi _ _ _ _, Or.inl (ok_gi (C := RX11) (T := TX11) (N := 93) (ci := 11) (k := 1) rfl inX11 (by decide) fl_X11_65 (by decide +kernel) (by decide +kernel))⟩,
  List.forall_mem_cons.mpr ⟨⟨mo_il _ _, Or.inl (ok_iload_n (k := 1) rfl (by decide +kernel))⟩,
  List.forall_mem_cons.mpr ⟨⟨mo_bin _ _, Or.inl (ok_iadd (by decide +kernel))⟩,
  List.forall_mem_cons.mpr ⟨⟨mo_pi _ _ _ _, Or.inl (ok_pi (ty := .int) (C := RX11) (T := TX11) (N := 93) (ci := 11) (k := 1) rfl inX11 (by decide) fl_X11_65 (by decide +kernel) tyX11 tyX11_ok nmX11 (by decide +kernel) (by decide +kernel) (by decide +kernel))⟩,
  List.forall_mem_cons.mpr ⟨⟨mo_al _ _, Or.inl (ok_aload_n (k := 0) rfl (by decide +kernel))⟩,
  List.forall_mem_cons.mpr ⟨⟨mo_gi _ _ _ _, Or.inl (ok_gi (C := RX11) (T := TX11) (N := 93) (ci := 11) (k := 1) rfl inX11 (by decide) fl_X11_65 (by decide +kernel) (by decide +kernel))⟩,
  List.forall_mem_cons.mpr ⟨⟨mo_reti, Or.inr (Or.inr (ok_reti rfl (by decide +kernel)))⟩,
  fun _ h => absurd h List.not_mem_nil⟩⟩⟩⟩⟩⟩⟩⟩⟩⟩⟩⟩
def t_X11_evenings : List (Nat × am_F) := t_X11_evenings_0 ++ (t_X11_evenings_1)
theorem o_X11_evenings : ∀ q ∈ t_X11_evenings, am_ok vwCl q_SH ξ (q_E ξ β xs L) q_EN q_KD q_ML (cX11_evenings, 2, RX11, "evenings", (some .int), []) q.1 q.2 := List.forall_mem_append.mpr ⟨o_X11_evenings_0, o_X11_evenings_1⟩
def t_X11_feed_0 : List (Nat × am_F) := [(0, im_al 0 1), (1, im_ic 0 2), (2, im_pi q_SH 11 0 5), (5, im_al 0 6), (6, im_gi q_SH 11 20 9), (9, im_ic 20 11), (11, im_bin (fun x y => x + y) 12), (12, im_ic 500 15), (15, im_if2 ic_le 20 18), (18, im_ic (-1) 19), (19, im_reti), (20, im_al 0 21), (21, im_il 1 22), (22, im_inv q_SH 11 115 1 25), (25, im_al 0 26), (26, im_il 2 27), (27, im_inv q_SH 11 115 1 30), (30, im_al 0 31), (31, im_il 3 32), (32, im_inv q_SH 11 115 1 35)]
set_option maxRecDepth 20000 in
theorem o_X11_feed_0 : ∀ q ∈ t_X11_feed_0, am_ok vwCl q_SH ξ (q_E ξ β xs L) q_EN q_KD q_ML (cX11_feed, 6, RX11, "feed", (some .int), []) q.1 q.2 :=
  List.forall_mem_cons.mpr ⟨⟨mo_al _ _, Or.inl (ok_aload_n (k := 0) rfl (by decide +kernel))⟩,
  List.forall_mem_cons.mpr ⟨⟨mo_ic _ _, Or.inl (ok_iconst (n := 0) (v := 0) (by decide) (by decide +kernel))⟩,
  List.forall_mem_cons.mpr ⟨⟨mo_pi _ _ _ _, Or.inl (ok_pi (ty := .int) (C := RX11) (T := TX11) (N := 93) (ci := 11) (k := 0) rfl inX11 (by decide) fl_X11_1 (by decide +kernel) tyX11 tyX11_ok nmX11 (by decide +kernel) (by decide +kernel) (by decide +kernel))⟩,
  List.forall_mem_cons.mpr ⟨⟨mo_al _ _, Or.inl (ok_aload_n (k := 0) rfl (by decide +kernel))⟩,
  List.forall_mem_cons.mpr ⟨⟨mo_gi _ _ _ _, Or.inl (ok_gi (C := RX11) (T := TX11) (N := 93) (ci := 11) (k := 20) rfl inX11 (by decide) fl_X11_83 (by decide +kernel) (by decide +kernel))⟩,
  List.forall_mem_cons.mpr ⟨⟨mo_ic _ _, Or.inl (ok_bipush (n := 20) (v := 20) (by decide) (by decide +kernel))⟩,
  List.forall_mem_cons.mpr ⟨⟨mo_bin _ _, Or.inl (ok_iadd (by decide +kernel))⟩,
  List.forall_mem_cons.mpr ⟨⟨mo_ic _ _, Or.inl (ok_sipush (n := 500) (v := 500) (by decide) (by decide +kernel))⟩,
  List.forall_mem_cons.mpr ⟨⟨mo_if2 _ _ _, Or.inl (ok_icmp_le (off := 5) (by decide) (by decide +kernel))⟩,
  List.forall_mem_cons.mpr ⟨⟨mo_ic _ _, Or.inl (ok_iconst (n := (-1)) (v := (-1)) (by decide) (by decide +kernel))⟩,
  List.forall_mem_cons.mpr ⟨⟨mo_reti, Or.inr (Or.inr (ok_reti rfl (by decide +kernel)))⟩,
  List.forall_mem_cons.mpr ⟨⟨mo_al _ _, Or.inl (ok_aload_n (k := 0) rfl (by decide +kernel))⟩,
  List.forall_mem_cons.mpr ⟨⟨mo_il _ _, Or.inl (ok_iload_n (k := 1) rfl (by decide +kernel))⟩,
  List.forall_mem_cons.mpr ⟨⟨mo_inv _ _ _ _ _, Or.inr (Or.inl (ok_inv (T := TX11) (N := 93) rfl cw_X11_lays (by decide) (by decide) ml_X11_86 ci_X11_lays cv_X11_lays (show Cond.initialized (yX11_lays).cls ∈ am_ts from ci9_RX11) ⟨by decide +kernel, by decide +kernel, by decide +kernel⟩ rfl (by decide +kernel)))⟩,
  List.forall_mem_cons.mpr ⟨⟨mo_al _ _, Or.inl (ok_aload_n (k := 0) rfl (by decide +kernel))⟩,
  List.forall_mem_cons.mpr ⟨⟨mo_il _ _, Or.inl (ok_iload_n (k := 2) rfl (by decide +kernel))⟩,
  List.forall_mem_cons.mpr ⟨⟨mo_inv _ _ _ _ _, Or.inr (Or.inl (ok_inv (T := TX11) (N := 93) rfl cw_X11_lays (by decide) (by decide) ml_X11_86 ci_X11_lays cv_X11_lays (show Cond.initialized (yX11_lays).cls ∈ am_ts from ci9_RX11) ⟨by decide +kernel, by decide +kernel, by decide +kernel⟩ rfl (by decide +kernel)))⟩,
  List.forall_mem_cons.mpr ⟨⟨mo_al _ _, Or.inl (ok_aload_n (k := 0) rfl (by decide +kernel))⟩,
  List.forall_mem_cons.mpr ⟨⟨mo_il _ _, Or.inl (ok_iload_n (k := 3) rfl (by decide +kernel))⟩,
  List.forall_mem_cons.mpr ⟨⟨mo_inv _ _ _ _ _, Or.inr (Or.inl (ok_inv (T := TX11) (N := 93) rfl cw_X11_lays (by decide) (by decide) ml_X11_86 ci_X11_lays cv_X11_lays (show Cond.initialized (yX11_lays).cls ∈ am_ts from ci9_RX11) ⟨by decide +kernel, by decide +kernel, by decide +kernel⟩ rfl (by decide +kernel)))⟩,
  fun _ h => absurd h List.not_mem_nil⟩⟩⟩⟩⟩⟩⟩⟩⟩⟩⟩⟩⟩⟩⟩⟩⟩⟩⟩⟩
def t_X11_feed_1 : List (Nat × am_F) := [(35, im_al 0 36), (36, im_il 4 38), (38, im_inv q_SH 11 115 1 41), (41, im_al 0 42), (42, im_il 5 44), (44, im_inv q_SH 11 115 1 47), (47, im_al 0 48), (48, im_gi q_SH 11 20 51), (51, im_reti)]
set_option maxRecDepth 20000 in
theorem o_X11_feed_1 : ∀ q ∈ t_X11_feed_1, am_ok vwCl q_SH ξ (q_E ξ β xs L) q_EN q_KD q_ML (cX11_feed, 6, RX11, "feed", (some .int), []) q.1 q.2 :=
  List.forall_mem_cons.mpr ⟨⟨mo_al _ _, Or.inl (ok_aload_n (k := 0) rfl (by decide +kernel))⟩,
  List.forall_mem_cons.mpr ⟨⟨mo_il _ _, Or.inl (ok_iload (by decide +kernel))⟩,
  List.forall_mem_cons.mpr ⟨⟨mo_inv _ _ _ _ _, Or.inr (Or.inl (ok_inv (T := TX11) (N := 93) rfl cw_X11_lays (by decide) (by decide) ml_X11_86 ci_X11_lays cv_X11_lays (show Cond.initialized (yX11_lays).cls ∈ am_ts from ci9_RX11) ⟨by decide +kernel, by decide +kernel, by decide +kernel⟩ rfl (by decide +kernel)))⟩,
  List.forall_mem_cons.mpr ⟨⟨mo_al _ _, Or.inl (ok_aload_n (k := 0) rfl (by decide +kernel))⟩,
  List.forall_mem_cons.mpr ⟨⟨mo_il _ _, Or.inl (ok_iload (by decide +kernel))⟩,
  List.forall_mem_cons.mpr ⟨⟨mo_inv _ _ _ _ _, Or.inr (Or.inl (ok_inv (T := TX11) (N := 93) rfl cw_X11_lays (by decide) (by decide) ml_X11_86 ci_X11_lays cv_X11_lays (show Cond.initialized (yX11_lays).cls ∈ am_ts from ci9_RX11) ⟨by decide +kernel, by decide +kernel, by decide +kernel⟩ rfl (by decide +kernel)))⟩,
  List.forall_mem_cons.mpr ⟨⟨mo_al _ _, Or.inl (ok_aload_n (k := 0) rfl (by decide +kernel))⟩,
  List.forall_mem_cons.mpr ⟨⟨mo_gi _ _ _ _, Or.inl (ok_gi (C := RX11) (T := TX11) (N := 93) (ci := 11) (k := 20) rfl inX11 (by decide) fl_X11_83 (by decide +kernel) (by decide +kernel))⟩,
  List.forall_mem_cons.mpr ⟨⟨mo_reti, Or.inr (Or.inr (ok_reti rfl (by decide +kernel)))⟩,
  fun _ h => absurd h List.not_mem_nil⟩⟩⟩⟩⟩⟩⟩⟩⟩
def t_X11_feed : List (Nat × am_F) := t_X11_feed_0 ++ (t_X11_feed_1)
theorem o_X11_feed : ∀ q ∈ t_X11_feed, am_ok vwCl q_SH ξ (q_E ξ β xs L) q_EN q_KD q_ML (cX11_feed, 6, RX11, "feed", (some .int), []) q.1 q.2 := List.forall_mem_append.mpr ⟨o_X11_feed_0, o_X11_feed_1⟩
def t_X11_lays_0 : List (Nat × am_F) := [(0, im_ic 24 2), (2, im_is 2 3), (3, im_il 2 4), (4, im_if1 ib_lt 39 7), (7, im_al 0 8), (8, im_gr q_SH 11 19 11), (11, im_al 0 12), (12, im_gi q_SH 11 20 15), (15, im_il 1 16), (16, im_il 2 17), (17, im_bin (fun x y => x >>> (y &&& 31)) 18), (18, im_ic 255 21), (21, im_bin (fun x y => x &&& y) 22), (22, im_ast q_SH .int (fun x => x) 23), (23, im_al 0 24), (24, im_dup 25), (25, im_gi q_SH 11 20 28), (28, im_ic 1 29), (29, im_bin (fun x y => x + y) 30), (30, im_pi q_SH 11 20 33)]
set_option maxRecDepth 20000 in
theorem o_X11_lays_0 : ∀ q ∈ t_X11_lays_0, am_ok vwCl q_SH ξ (q_E ξ β xs L) q_EN q_KD q_ML (cX11_lays, 3, RX11, "lays", none, []) q.1 q.2 :=
  List.forall_mem_cons.mpr ⟨⟨mo_ic _ _, Or.inl (ok_bipush (n := 24) (v := 24) (by decide) (by decide +kernel))⟩,
  List.forall_mem_cons.mpr ⟨⟨mo_is _ _, Or.inl (ok_istore_n (k := 2) rfl (by decide) (by decide +kernel))⟩,
  List.forall_mem_cons.mpr ⟨⟨mo_il _ _, Or.inl (ok_iload_n (k := 2) rfl (by decide +kernel))⟩,
  List.forall_mem_cons.mpr ⟨⟨mo_if1 _ _ _, Or.inl (ok_if_lt (off := 35) (by decide) (by decide +kernel))⟩,
  List.forall_mem_cons.mpr ⟨⟨mo_al _ _, Or.inl (ok_aload_n (k := 0) rfl (by decide +kernel))⟩,
  List.forall_mem_cons.mpr ⟨⟨mo_gr _ _ _ _, Or.inl (ok_gr (C := RX11) (T := TX11) (N := 93) (ci := 11) (k := 19) rfl inX11 (by decide) fl_X11_90 (by decide +kernel) (by decide +kernel))⟩,
  List.forall_mem_cons.mpr ⟨⟨mo_al _ _, Or.inl (ok_aload_n (k := 0) rfl (by decide +kernel))⟩,
  List.forall_mem_cons.mpr ⟨⟨mo_gi _ _ _ _, Or.inl (ok_gi (C := RX11) (T := TX11) (N := 93) (ci := 11) (k := 20) rfl inX11 (by decide) fl_X11_83 (by decide +kernel) (by decide +kernel))⟩,
  List.forall_mem_cons.mpr ⟨⟨mo_il _ _, Or.inl (ok_iload_n (k := 1) rfl (by decide +kernel))⟩,
  List.forall_mem_cons.mpr ⟨⟨mo_il _ _, Or.inl (ok_iload_n (k := 2) rfl (by decide +kernel))⟩,
  List.forall_mem_cons.mpr ⟨⟨mo_bin _ _, Or.inl (ok_ishr (by decide +kernel))⟩,
  List.forall_mem_cons.mpr ⟨⟨mo_ic _ _, Or.inl (ok_sipush (n := 255) (v := 255) (by decide) (by decide +kernel))⟩,
  List.forall_mem_cons.mpr ⟨⟨mo_bin _ _, Or.inl (ok_iand (by decide +kernel))⟩,
  List.forall_mem_cons.mpr ⟨⟨mo_ast _ _ _ _, Or.inl (ok_iast (by decide +kernel))⟩,
  List.forall_mem_cons.mpr ⟨⟨mo_al _ _, Or.inl (ok_aload_n (k := 0) rfl (by decide +kernel))⟩,
  List.forall_mem_cons.mpr ⟨⟨mo_dup _, Or.inl (ok_dup (by decide +kernel))⟩,
  List.forall_mem_cons.mpr ⟨⟨mo_gi _ _ _ _, Or.inl (ok_gi (C := RX11) (T := TX11) (N := 93) (ci := 11) (k := 20) rfl inX11 (by decide) fl_X11_83 (by decide +kernel) (by decide +kernel))⟩,
  List.forall_mem_cons.mpr ⟨⟨mo_ic _ _, Or.inl (ok_iconst (n := 1) (v := 1) (by decide) (by decide +kernel))⟩,
  List.forall_mem_cons.mpr ⟨⟨mo_bin _ _, Or.inl (ok_iadd (by decide +kernel))⟩,
  List.forall_mem_cons.mpr ⟨⟨mo_pi _ _ _ _, Or.inl (ok_pi (ty := .int) (C := RX11) (T := TX11) (N := 93) (ci := 11) (k := 20) rfl inX11 (by decide) fl_X11_83 (by decide +kernel) tyX11 tyX11_ok nmX11 (by decide +kernel) (by decide +kernel) (by decide +kernel))⟩,
  fun _ h => absurd h List.not_mem_nil⟩⟩⟩⟩⟩⟩⟩⟩⟩⟩⟩⟩⟩⟩⟩⟩⟩⟩⟩⟩
def t_X11_lays_1 : List (Nat × am_F) := [(33, im_iinc 2 (-8) 36), (36, im_go 3), (39, im_ret0e)]
set_option maxRecDepth 20000 in
theorem o_X11_lays_1 : ∀ q ∈ t_X11_lays_1, am_ok vwCl q_SH ξ (q_E ξ β xs L) q_EN q_KD q_ML (cX11_lays, 3, RX11, "lays", none, []) q.1 q.2 :=
  List.forall_mem_cons.mpr ⟨⟨mo_iinc _ _ _, Or.inl (ok_iinc (n := (-8)) (v := (-8)) (by decide) (by decide) (by decide +kernel))⟩,
  List.forall_mem_cons.mpr ⟨⟨mo_go _, Or.inl (ok_goto (off := (-33)) (by decide) (by decide +kernel))⟩,
  List.forall_mem_cons.mpr ⟨⟨mo_ret0e, Or.inr (Or.inr (ok_ret0 rfl (by decide +kernel)))⟩,
  fun _ h => absurd h List.not_mem_nil⟩⟩⟩
def t_X11_lays : List (Nat × am_F) := t_X11_lays_0 ++ (t_X11_lays_1)
theorem o_X11_lays : ∀ q ∈ t_X11_lays, am_ok vwCl q_SH ξ (q_E ξ β xs L) q_EN q_KD q_ML (cX11_lays, 3, RX11, "lays", none, []) q.1 q.2 := List.forall_mem_append.mpr ⟨o_X11_lays_0, o_X11_lays_1⟩
def t_X11_byteAt_0 : List (Nat × am_F) := [(0, im_il 1 1), (1, im_al 0 2), (2, im_gi q_SH 11 23 5), (5, im_if2 ic_ge 17 8), (8, im_al 0 9), (9, im_gr q_SH 11 19 12), (12, im_il 1 13), (13, im_ald q_SH .int 14), (14, im_go 18), (17, im_ic 0 18), (18, im_reti)]
set_option maxRecDepth 20000 in
theorem o_X11_byteAt_0 : ∀ q ∈ t_X11_byteAt_0, am_ok vwCl q_SH ξ (q_E ξ β xs L) q_EN q_KD q_ML (cX11_byteAt, 2, RX11, "byteAt", (some .int), []) q.1 q.2 :=
  List.forall_mem_cons.mpr ⟨⟨mo_il _ _, Or.inl (ok_iload_n (k := 1) rfl (by decide +kernel))⟩,
  List.forall_mem_cons.mpr ⟨⟨mo_al _ _, Or.inl (ok_aload_n (k := 0) rfl (by decide +kernel))⟩,
  List.forall_mem_cons.mpr ⟨⟨mo_gi _ _ _ _, Or.inl (ok_gi (C := RX11) (T := TX11) (N := 93) (ci := 11) (k := 23) rfl inX11 (by decide) fl_X11_93 (by decide +kernel) (by decide +kernel))⟩,
  List.forall_mem_cons.mpr ⟨⟨mo_if2 _ _ _, Or.inl (ok_icmp_ge (off := 12) (by decide) (by decide +kernel))⟩,
  List.forall_mem_cons.mpr ⟨⟨mo_al _ _, Or.inl (ok_aload_n (k := 0) rfl (by decide +kernel))⟩,
  List.forall_mem_cons.mpr ⟨⟨mo_gr _ _ _ _, Or.inl (ok_gr (C := RX11) (T := TX11) (N := 93) (ci := 11) (k := 19) rfl inX11 (by decide) fl_X11_90 (by decide +kernel) (by decide +kernel))⟩,
  List.forall_mem_cons.mpr ⟨⟨mo_il _ _, Or.inl (ok_iload_n (k := 1) rfl (by decide +kernel))⟩,
  List.forall_mem_cons.mpr ⟨⟨mo_ald _ _ _, Or.inl (ok_iald (by decide +kernel))⟩,
  List.forall_mem_cons.mpr ⟨⟨mo_go _, Or.inl (ok_goto (off := 4) (by decide) (by decide +kernel))⟩,
  List.forall_mem_cons.mpr ⟨⟨mo_ic _ _, Or.inl (ok_iconst (n := 0) (v := 0) (by decide) (by decide +kernel))⟩,
  List.forall_mem_cons.mpr ⟨⟨mo_reti, Or.inr (Or.inr (ok_reti rfl (by decide +kernel)))⟩,
  fun _ h => absurd h List.not_mem_nil⟩⟩⟩⟩⟩⟩⟩⟩⟩⟩⟩
def t_X11_byteAt : List (Nat × am_F) := t_X11_byteAt_0
theorem o_X11_byteAt : ∀ q ∈ t_X11_byteAt, am_ok vwCl q_SH ξ (q_E ξ β xs L) q_EN q_KD q_ML (cX11_byteAt, 2, RX11, "byteAt", (some .int), []) q.1 q.2 := o_X11_byteAt_0
def t_X11_isLetter_0 : List (Nat × am_F) := [(0, im_il 0 1), (1, im_ic 97 3), (3, im_if2 ic_lt 16 6), (6, im_il 0 7), (7, im_ic 122 9), (9, im_if2 ic_gt 16 12), (12, im_ic 1 13), (13, im_go 17), (16, im_ic 0 17), (17, im_retz)]
set_option maxRecDepth 20000 in
theorem o_X11_isLetter_0 : ∀ q ∈ t_X11_isLetter_0, am_ok vwCl q_SH ξ (q_E ξ β xs L) q_EN q_KD q_ML (cX11_isLetter, 1, RX11, "isLetter", (some .boolean), []) q.1 q.2 :=
  List.forall_mem_cons.mpr ⟨⟨mo_il _ _, Or.inl (ok_iload_n (k := 0) rfl (by decide +kernel))⟩,
  List.forall_mem_cons.mpr ⟨⟨mo_ic _ _, Or.inl (ok_bipush (n := 97) (v := 97) (by decide) (by decide +kernel))⟩,
  List.forall_mem_cons.mpr ⟨⟨mo_if2 _ _ _, Or.inl (ok_icmp_lt (off := 13) (by decide) (by decide +kernel))⟩,
  List.forall_mem_cons.mpr ⟨⟨mo_il _ _, Or.inl (ok_iload_n (k := 0) rfl (by decide +kernel))⟩,
  List.forall_mem_cons.mpr ⟨⟨mo_ic _ _, Or.inl (ok_bipush (n := 122) (v := 122) (by decide) (by decide +kernel))⟩,
  List.forall_mem_cons.mpr ⟨⟨mo_if2 _ _ _, Or.inl (ok_icmp_gt (off := 7) (by decide) (by decide +kernel))⟩,
  List.forall_mem_cons.mpr ⟨⟨mo_ic _ _, Or.inl (ok_iconst (n := 1) (v := 1) (by decide) (by decide +kernel))⟩,
  List.forall_mem_cons.mpr ⟨⟨mo_go _, Or.inl (ok_goto (off := 4) (by decide) (by decide +kernel))⟩,
  List.forall_mem_cons.mpr ⟨⟨mo_ic _ _, Or.inl (ok_iconst (n := 0) (v := 0) (by decide) (by decide +kernel))⟩,
  List.forall_mem_cons.mpr ⟨⟨mo_retz, Or.inr (Or.inr (ok_retz rfl (by decide +kernel)))⟩,
  fun _ h => absurd h List.not_mem_nil⟩⟩⟩⟩⟩⟩⟩⟩⟩⟩
def t_X11_isLetter : List (Nat × am_F) := t_X11_isLetter_0
theorem o_X11_isLetter : ∀ q ∈ t_X11_isLetter, am_ok vwCl q_SH ξ (q_E ξ β xs L) q_EN q_KD q_ML (cX11_isLetter, 1, RX11, "isLetter", (some .boolean), []) q.1 q.2 := o_X11_isLetter_0
def t_X11_isDigit_0 : List (Nat × am_F) := [(0, im_il 0 1), (1, im_ic 48 3), (3, im_if2 ic_lt 16 6), (6, im_il 0 7), (7, im_ic 57 9), (9, im_if2 ic_gt 16 12), (12, im_ic 1 13), (13, im_go 17), (16, im_ic 0 17), (17, im_retz)]
set_option maxRecDepth 20000 in
theorem o_X11_isDigit_0 : ∀ q ∈ t_X11_isDigit_0, am_ok vwCl q_SH ξ (q_E ξ β xs L) q_EN q_KD q_ML (cX11_isDigit, 1, RX11, "isDigit", (some .boolean), []) q.1 q.2 :=
  List.forall_mem_cons.mpr ⟨⟨mo_il _ _, Or.inl (ok_iload_n (k := 0) rfl (by decide +kernel))⟩,
  List.forall_mem_cons.mpr ⟨⟨mo_ic _ _, Or.inl (ok_bipush (n := 48) (v := 48) (by decide) (by decide +kernel))⟩,
  List.forall_mem_cons.mpr ⟨⟨mo_if2 _ _ _, Or.inl (ok_icmp_lt (off := 13) (by decide) (by decide +kernel))⟩,
  List.forall_mem_cons.mpr ⟨⟨mo_il _ _, Or.inl (ok_iload_n (k := 0) rfl (by decide +kernel))⟩,
  List.forall_mem_cons.mpr ⟨⟨mo_ic _ _, Or.inl (ok_bipush (n := 57) (v := 57) (by decide) (by decide +kernel))⟩,
  List.forall_mem_cons.mpr ⟨⟨mo_if2 _ _ _, Or.inl (ok_icmp_gt (off := 7) (by decide) (by decide +kernel))⟩,
  List.forall_mem_cons.mpr ⟨⟨mo_ic _ _, Or.inl (ok_iconst (n := 1) (v := 1) (by decide) (by decide +kernel))⟩,
  List.forall_mem_cons.mpr ⟨⟨mo_go _, Or.inl (ok_goto (off := 4) (by decide) (by decide +kernel))⟩,
  List.forall_mem_cons.mpr ⟨⟨mo_ic _ _, Or.inl (ok_iconst (n := 0) (v := 0) (by decide) (by decide +kernel))⟩,
  List.forall_mem_cons.mpr ⟨⟨mo_retz, Or.inr (Or.inr (ok_retz rfl (by decide +kernel)))⟩,
  fun _ h => absurd h List.not_mem_nil⟩⟩⟩⟩⟩⟩⟩⟩⟩⟩
def t_X11_isDigit : List (Nat × am_F) := t_X11_isDigit_0
theorem o_X11_isDigit : ∀ q ∈ t_X11_isDigit, am_ok vwCl q_SH ξ (q_E ξ β xs L) q_EN q_KD q_ML (cX11_isDigit, 1, RX11, "isDigit", (some .boolean), []) q.1 q.2 := o_X11_isDigit_0
def t_X11_goes_0 : List (Nat × am_F) := [(0, im_al 0 1), (1, im_gi q_SH 11 24 4), (4, im_al 0 5), (5, im_gi q_SH 11 23 8), (8, im_if2 ic_ge 50 11), (11, im_al 0 12), (12, im_al 0 13), (13, im_gi q_SH 11 24 16), (16, im_inv q_SH 11 116 1 19), (19, im_ic 32 21), (21, im_if2 ic_eq 37 24), (24, im_al 0 25), (25, im_al 0 26), (26, im_gi q_SH 11 24 29), (29, im_inv q_SH 11 116 1 32), (32, im_ic 10 34), (34, im_if2 ic_ne 50 37), (37, im_al 0 38), (38, im_dup 39), (39, im_gi q_SH 11 24 42)]
set_option maxRecDepth 20000 in
theorem o_X11_goes_0 : ∀ q ∈ t_X11_goes_0, am_ok vwCl q_SH ξ (q_E ξ β xs L) q_EN q_KD q_ML (cX11_goes, 2, RX11, "goes", none, []) q.1 q.2 :=
  List.forall_mem_cons.mpr ⟨⟨mo_al _ _, Or.inl (ok_aload_n (k := 0) rfl (by decide +kernel))⟩,
  List.forall_mem_cons.mpr ⟨⟨mo_gi _ _ _ _, Or.inl (ok_gi (C := RX11) (T := TX11) (N := 93) (ci := 11) (k := 24) rfl inX11 (by decide) fl_X11_96 (by decide +kernel) (by decide +kernel))⟩,
  List.forall_mem_cons.mpr ⟨⟨mo_al _ _, Or.inl (ok_aload_n (k := 0) rfl (by decide +kernel))⟩,
  List.forall_mem_cons.mpr ⟨⟨mo_gi _ _ _ _, Or.inl (ok_gi (C := RX11) (T := TX11) (N := 93) (ci := 11) (k := 23) rfl inX11 (by decide) fl_X11_93 (by decide +kernel) (by decide +kernel))⟩,
  List.forall_mem_cons.mpr ⟨⟨mo_if2 _ _ _, Or.inl (ok_icmp_ge (off := 42) (by decide) (by decide +kernel))⟩,
  List.forall_mem_cons.mpr ⟨⟨mo_al _ _, Or.inl (ok_aload_n (k := 0) rfl (by decide +kernel))⟩,
  List.forall_mem_cons.mpr ⟨⟨mo_al _ _, Or.inl (ok_aload_n (k := 0) rfl (by decide +kernel))⟩,
  List.forall_mem_cons.mpr ⟨⟨mo_gi _ _ _ _, Or.inl (ok_gi (C := RX11) (T := TX11) (N := 93) (ci := 11) (k := 24) rfl inX11 (by decide) fl_X11_96 (by decide +kernel) (by decide +kernel))⟩,
  List.forall_mem_cons.mpr ⟨⟨mo_inv _ _ _ _ _, Or.inr (Or.inl (ok_inv (T := TX11) (N := 93) rfl cw_X11_byteAt (by decide) (by decide) ml_X11_99 ci_X11_byteAt cv_X11_byteAt (show Cond.initialized (yX11_byteAt).cls ∈ am_ts from ci9_RX11) ⟨by decide +kernel, by decide +kernel, by decide +kernel⟩ rfl (by decide +kernel)))⟩,
  List.forall_mem_cons.mpr ⟨⟨mo_ic _ _, Or.inl (ok_bipush (n := 32) (v := 32) (by decide) (by decide +kernel))⟩,
  List.forall_mem_cons.mpr ⟨⟨mo_if2 _ _ _, Or.inl (ok_icmp_eq (off := 16) (by decide) (by decide +kernel))⟩,
  List.forall_mem_cons.mpr ⟨⟨mo_al _ _, Or.inl (ok_aload_n (k := 0) rfl (by decide +kernel))⟩,
  List.forall_mem_cons.mpr ⟨⟨mo_al _ _, Or.inl (ok_aload_n (k := 0) rfl (by decide +kernel))⟩,
  List.forall_mem_cons.mpr ⟨⟨mo_gi _ _ _ _, Or.inl (ok_gi (C := RX11) (T := TX11) (N := 93) (ci := 11) (k := 24) rfl inX11 (by decide) fl_X11_96 (by decide +kernel) (by decide +kernel))⟩,
  List.forall_mem_cons.mpr ⟨⟨mo_inv _ _ _ _ _, Or.inr (Or.inl (ok_inv (T := TX11) (N := 93) rfl cw_X11_byteAt (by decide) (by decide) ml_X11_99 ci_X11_byteAt cv_X11_byteAt (show Cond.initialized (yX11_byteAt).cls ∈ am_ts from ci9_RX11) ⟨by decide +kernel, by decide +kernel, by decide +kernel⟩ rfl (by decide +kernel)))⟩,
  List.forall_mem_cons.mpr ⟨⟨mo_ic _ _, Or.inl (ok_bipush (n := 10) (v := 10) (by decide) (by decide +kernel))⟩,
  List.forall_mem_cons.mpr ⟨⟨mo_if2 _ _ _, Or.inl (ok_icmp_ne (off := 16) (by decide) (by decide +kernel))⟩,
  List.forall_mem_cons.mpr ⟨⟨mo_al _ _, Or.inl (ok_aload_n (k := 0) rfl (by decide +kernel))⟩,
  List.forall_mem_cons.mpr ⟨⟨mo_dup _, Or.inl (ok_dup (by decide +kernel))⟩,
  List.forall_mem_cons.mpr ⟨⟨mo_gi _ _ _ _, Or.inl (ok_gi (C := RX11) (T := TX11) (N := 93) (ci := 11) (k := 24) rfl inX11 (by decide) fl_X11_96 (by decide +kernel) (by decide +kernel))⟩,
  fun _ h => absurd h List.not_mem_nil⟩⟩⟩⟩⟩⟩⟩⟩⟩⟩⟩⟩⟩⟩⟩⟩⟩⟩⟩⟩
def t_X11_goes_1 : List (Nat × am_F) := [(42, im_ic 1 43), (43, im_bin (fun x y => x + y) 44), (44, im_pi q_SH 11 24 47), (47, im_go 0), (50, im_al 0 51), (51, im_al 0 52), (52, im_gi q_SH 11 24 55), (55, im_pi q_SH 11 26 58), (58, im_al 0 59), (59, im_lc 0 60), (60, im_pl q_SH 11 30 63), (63, im_al 0 64), (64, im_ic 0 65), (65, im_pi q_SH 11 28 68), (68, im_al 0 69), (69, im_al 0 70), (70, im_gi q_SH 11 24 73), (73, im_inv q_SH 11 116 1 76), (76, im_is 1 77), (77, im_al 0 78)]
set_option maxRecDepth 20000 in
theorem o_X11_goes_1 : ∀ q ∈ t_X11_goes_1, am_ok vwCl q_SH ξ (q_E ξ β xs L) q_EN q_KD q_ML (cX11_goes, 2, RX11, "goes", none, []) q.1 q.2 :=
  List.forall_mem_cons.mpr ⟨⟨mo_ic _ _, Or.inl (ok_iconst (n := 1) (v := 1) (by decide) (by decide +kernel))⟩,
  List.forall_mem_cons.mpr ⟨⟨mo_bin _ _, Or.inl (ok_iadd (by decide +kernel))⟩,
  List.forall_mem_cons.mpr ⟨⟨mo_pi _ _ _ _, Or.inl (ok_pi (ty := .int) (C := RX11) (T := TX11) (N := 93) (ci := 11) (k := 24) rfl inX11 (by decide) fl_X11_96 (by decide +kernel) tyX11 tyX11_ok nmX11 (by decide +kernel) (by decide +kernel) (by decide +kernel))⟩,
  List.forall_mem_cons.mpr ⟨⟨mo_go _, Or.inl (ok_goto (off := (-47)) (by decide) (by decide +kernel))⟩,
  List.forall_mem_cons.mpr ⟨⟨mo_al _ _, Or.inl (ok_aload_n (k := 0) rfl (by decide +kernel))⟩,
  List.forall_mem_cons.mpr ⟨⟨mo_al _ _, Or.inl (ok_aload_n (k := 0) rfl (by decide +kernel))⟩,
  List.forall_mem_cons.mpr ⟨⟨mo_gi _ _ _ _, Or.inl (ok_gi (C := RX11) (T := TX11) (N := 93) (ci := 11) (k := 24) rfl inX11 (by decide) fl_X11_96 (by decide +kernel) (by decide +kernel))⟩,
  List.forall_mem_cons.mpr ⟨⟨mo_pi _ _ _ _, Or.inl (ok_pi (ty := .int) (C := RX11) (T := TX11) (N := 93) (ci := 11) (k := 26) rfl inX11 (by decide) fl_X11_103 (by decide +kernel) tyX11 tyX11_ok nmX11 (by decide +kernel) (by decide +kernel) (by decide +kernel))⟩,
  List.forall_mem_cons.mpr ⟨⟨mo_al _ _, Or.inl (ok_aload_n (k := 0) rfl (by decide +kernel))⟩,
  List.forall_mem_cons.mpr ⟨⟨mo_lc _ _, Or.inl (ok_lconst (n := 0) (v := 0) (by decide) (by decide +kernel))⟩,
  List.forall_mem_cons.mpr ⟨⟨mo_pl _ _ _ _, Or.inl (ok_pl (ty := .int) (C := RX11) (T := TX11) (N := 93) (ci := 11) (k := 30) rfl inX11 (by decide) fl_X11_106 (by decide +kernel) tyX11 tyX11_ok nmX11 (by decide +kernel) (by decide +kernel) (by decide +kernel))⟩,
  List.forall_mem_cons.mpr ⟨⟨mo_al _ _, Or.inl (ok_aload_n (k := 0) rfl (by decide +kernel))⟩,
  List.forall_mem_cons.mpr ⟨⟨mo_ic _ _, Or.inl (ok_iconst (n := 0) (v := 0) (by decide) (by decide +kernel))⟩,
  List.forall_mem_cons.mpr ⟨⟨mo_pi _ _ _ _, Or.inl (ok_pi (ty := .int) (C := RX11) (T := TX11) (N := 93) (ci := 11) (k := 28) rfl inX11 (by decide) fl_X11_110 (by decide +kernel) tyX11 tyX11_ok nmX11 (by decide +kernel) (by decide +kernel) (by decide +kernel))⟩,
  List.forall_mem_cons.mpr ⟨⟨mo_al _ _, Or.inl (ok_aload_n (k := 0) rfl (by decide +kernel))⟩,
  List.forall_mem_cons.mpr ⟨⟨mo_al _ _, Or.inl (ok_aload_n (k := 0) rfl (by decide +kernel))⟩,
  List.forall_mem_cons.mpr ⟨⟨mo_gi _ _ _ _, Or.inl (ok_gi (C := RX11) (T := TX11) (N := 93) (ci := 11) (k := 24) rfl inX11 (by decide) fl_X11_96 (by decide +kernel) (by decide +kernel))⟩,
  List.forall_mem_cons.mpr ⟨⟨mo_inv _ _ _ _ _, Or.inr (Or.inl (ok_inv (T := TX11) (N := 93) rfl cw_X11_byteAt (by decide) (by decide) ml_X11_99 ci_X11_byteAt cv_X11_byteAt (show Cond.initialized (yX11_byteAt).cls ∈ am_ts from ci9_RX11) ⟨by decide +kernel, by decide +kernel, by decide +kernel⟩ rfl (by decide +kernel)))⟩,
  List.forall_mem_cons.mpr ⟨⟨mo_is _ _, Or.inl (ok_istore_n (k := 1) rfl (by decide) (by decide +kernel))⟩,
  List.forall_mem_cons.mpr ⟨⟨mo_al _ _, Or.inl (ok_aload_n (k := 0) rfl (by decide +kernel))⟩,
  fun _ h => absurd h List.not_mem_nil⟩⟩⟩⟩⟩⟩⟩⟩⟩⟩⟩⟩⟩⟩⟩⟩⟩⟩⟩⟩
def t_X11_goes_2 : List (Nat × am_F) := [(78, im_il 1 79), (79, im_pi q_SH 11 29 82), (82, im_al 0 83), (83, im_gi q_SH 11 24 86), (86, im_al 0 87), (87, im_gi q_SH 11 23 90), (90, im_if2 ic_lt 101 93), (93, im_al 0 94), (94, im_ic 0 95), (95, im_pi q_SH 11 25 98), (98, im_go 331), (101, im_il 1 102), (102, im_invs 117 1 105), (105, im_if1 ib_eq 180 108), (108, im_al 0 109), (109, im_al 0 110), (110, im_gi q_SH 11 24 113), (113, im_inv q_SH 11 116 1 116), (116, im_invs 117 1 119), (119, im_if1 ib_eq 172 122)]
set_option maxRecDepth 20000 in
theorem o_X11_goes_2 : ∀ q ∈ t_X11_goes_2, am_ok vwCl q_SH ξ (q_E ξ β xs L) q_EN q_KD q_ML (cX11_goes, 2, RX11, "goes", none, []) q.1 q.2 :=
  List.forall_mem_cons.mpr ⟨⟨mo_il _ _, Or.inl (ok_iload_n (k := 1) rfl (by decide +kernel))⟩,
  List.forall_mem_cons.mpr ⟨⟨mo_pi _ _ _ _, Or.inl (ok_pi (ty := .int) (C := RX11) (T := TX11) (N := 93) (ci := 11) (k := 29) rfl inX11 (by decide) fl_X11_113 (by decide +kernel) tyX11 tyX11_ok nmX11 (by decide +kernel) (by decide +kernel) (by decide +kernel))⟩,
  List.forall_mem_cons.mpr ⟨⟨mo_al _ _, Or.inl (ok_aload_n (k := 0) rfl (by decide +kernel))⟩,
  List.forall_mem_cons.mpr ⟨⟨mo_gi _ _ _ _, Or.inl (ok_gi (C := RX11) (T := TX11) (N := 93) (ci := 11) (k := 24) rfl inX11 (by decide) fl_X11_96 (by decide +kernel) (by decide +kernel))⟩,
  List.forall_mem_cons.mpr ⟨⟨mo_al _ _, Or.inl (ok_aload_n (k := 0) rfl (by decide +kernel))⟩,
  List.forall_mem_cons.mpr ⟨⟨mo_gi _ _ _ _, Or.inl (ok_gi (C := RX11) (T := TX11) (N := 93) (ci := 11) (k := 23) rfl inX11 (by decide) fl_X11_93 (by decide +kernel) (by decide +kernel))⟩,
  List.forall_mem_cons.mpr ⟨⟨mo_if2 _ _ _, Or.inl (ok_icmp_lt (off := 11) (by decide) (by decide +kernel))⟩,
  List.forall_mem_cons.mpr ⟨⟨mo_al _ _, Or.inl (ok_aload_n (k := 0) rfl (by decide +kernel))⟩,
  List.forall_mem_cons.mpr ⟨⟨mo_ic _ _, Or.inl (ok_iconst (n := 0) (v := 0) (by decide) (by decide +kernel))⟩,
  List.forall_mem_cons.mpr ⟨⟨mo_pi _ _ _ _, Or.inl (ok_pi (ty := .int) (C := RX11) (T := TX11) (N := 93) (ci := 11) (k := 25) rfl inX11 (by decide) fl_X11_116 (by decide +kernel) tyX11 tyX11_ok nmX11 (by decide +kernel) (by decide +kernel) (by decide +kernel))⟩,
  List.forall_mem_cons.mpr ⟨⟨mo_go _, Or.inl (ok_goto (off := 233) (by decide) (by decide +kernel))⟩,
  List.forall_mem_cons.mpr ⟨⟨mo_il _ _, Or.inl (ok_iload_n (k := 1) rfl (by decide +kernel))⟩,
  List.forall_mem_cons.mpr ⟨⟨mo_invs _ _ _, Or.inr (Or.inl (ok_invs cw_X11_isLetter (by decide) (by decide) ml_X11_119 cs_X11_isLetter (show Cond.initialized (yX11_isLetter).cls ∈ am_ts from ci9_RX11) ⟨by decide +kernel, by decide +kernel, by decide +kernel⟩ rfl (by decide +kernel)))⟩,
  List.forall_mem_cons.mpr ⟨⟨mo_if1 _ _ _, Or.inl (ok_if_eq (off := 75) (by decide) (by decide +kernel))⟩,
  List.forall_mem_cons.mpr ⟨⟨mo_al _ _, Or.inl (ok_aload_n (k := 0) rfl (by decide +kernel))⟩,
  List.forall_mem_cons.mpr ⟨⟨mo_al _ _, Or.inl (ok_aload_n (k := 0) rfl (by decide +kernel))⟩,
  List.forall_mem_cons.mpr ⟨⟨mo_gi _ _ _ _, Or.inl (ok_gi (C := RX11) (T := TX11) (N := 93) (ci := 11) (k := 24) rfl inX11 (by decide) fl_X11_96 (by decide +kernel) (by decide +kernel))⟩,
  List.forall_mem_cons.mpr ⟨⟨mo_inv _ _ _ _ _, Or.inr (Or.inl (ok_inv (T := TX11) (N := 93) rfl cw_X11_byteAt (by decide) (by decide) ml_X11_99 ci_X11_byteAt cv_X11_byteAt (show Cond.initialized (yX11_byteAt).cls ∈ am_ts from ci9_RX11) ⟨by decide +kernel, by decide +kernel, by decide +kernel⟩ rfl (by decide +kernel)))⟩,
  List.forall_mem_cons.mpr ⟨⟨mo_invs _ _ _, Or.inr (Or.inl (ok_invs cw_X11_isLetter (by decide) (by decide) ml_X11_119 cs_X11_isLetter (show Cond.initialized (yX11_isLetter).cls ∈ am_ts from ci9_RX11) ⟨by decide +kernel, by decide +kernel, by decide +kernel⟩ rfl (by decide +kernel)))⟩,
  List.forall_mem_cons.mpr ⟨⟨mo_if1 _ _ _, Or.inl (ok_if_eq (off := 53) (by decide) (by decide +kernel))⟩,
  fun _ h => absurd h List.not_mem_nil⟩⟩⟩⟩⟩⟩⟩⟩⟩⟩⟩⟩⟩⟩⟩⟩⟩⟩⟩⟩
def t_X11_goes_3 : List (Nat × am_F) := [(122, im_al 0 123), (123, im_gi q_SH 11 24 126), (126, im_al 0 127), (127, im_gi q_SH 11 26 130), (130, im_bin (fun x y => x - y) 131), (131, im_ic 9 133), (133, im_if2 ic_ge 159 136), (136, im_al 0 137), (137, im_al 0 138), (138, im_gl q_SH 11 30 141), (141, im_ic 5 142), (142, im_lsh (fun x y => x <<< (y.toInt64 &&& 63)) 143), (143, im_al 0 144), (144, im_al 0 145), (145, im_gi q_SH 11 24 148), (148, im_inv q_SH 11 116 1 151), (151, im_ic 96 153), (153, im_bin (fun x y => x - y) 154), (154, im_i2l 155), (155, im_lbin (fun x y => x ||| y) 156)]
set_option maxRecDepth 20000 in
theorem o_X11_goes_3 : ∀ q ∈ t_X11_goes_3, am_ok vwCl q_SH ξ (q_E ξ β xs L) q_EN q_KD q_ML (cX11_goes, 2, RX11, "goes", none, []) q.1 q.2 :=
  List.forall_mem_cons.mpr ⟨⟨mo_al _ _, Or.inl (ok_aload_n (k := 0) rfl (by decide +kernel))⟩,
  List.forall_mem_cons.mpr ⟨⟨mo_gi _ _ _ _, Or.inl (ok_gi (C := RX11) (T := TX11) (N := 93) (ci := 11) (k := 24) rfl inX11 (by decide) fl_X11_96 (by decide +kernel) (by decide +kernel))⟩,
  List.forall_mem_cons.mpr ⟨⟨mo_al _ _, Or.inl (ok_aload_n (k := 0) rfl (by decide +kernel))⟩,
  List.forall_mem_cons.mpr ⟨⟨mo_gi _ _ _ _, Or.inl (ok_gi (C := RX11) (T := TX11) (N := 93) (ci := 11) (k := 26) rfl inX11 (by decide) fl_X11_103 (by decide +kernel) (by decide +kernel))⟩,
  List.forall_mem_cons.mpr ⟨⟨mo_bin _ _, Or.inl (ok_isub (by decide +kernel))⟩,
  List.forall_mem_cons.mpr ⟨⟨mo_ic _ _, Or.inl (ok_bipush (n := 9) (v := 9) (by decide) (by decide +kernel))⟩,
  List.forall_mem_cons.mpr ⟨⟨mo_if2 _ _ _, Or.inl (ok_icmp_ge (off := 26) (by decide) (by decide +kernel))⟩,
  List.forall_mem_cons.mpr ⟨⟨mo_al _ _, Or.inl (ok_aload_n (k := 0) rfl (by decide +kernel))⟩,
  List.forall_mem_cons.mpr ⟨⟨mo_al _ _, Or.inl (ok_aload_n (k := 0) rfl (by decide +kernel))⟩,
  List.forall_mem_cons.mpr ⟨⟨mo_gl _ _ _ _, Or.inl (ok_gl (C := RX11) (T := TX11) (N := 93) (ci := 11) (k := 30) rfl inX11 (by decide) fl_X11_106 (by decide +kernel) (by decide +kernel))⟩,
  List.forall_mem_cons.mpr ⟨⟨mo_ic _ _, Or.inl (ok_iconst (n := 5) (v := 5) (by decide) (by decide +kernel))⟩,
  List.forall_mem_cons.mpr ⟨⟨mo_lsh _ _, Or.inl (ok_lshl (by decide +kernel))⟩,
  List.forall_mem_cons.mpr ⟨⟨mo_al _ _, Or.inl (ok_aload_n (k := 0) rfl (by decide +kernel))⟩,
  List.forall_mem_cons.mpr ⟨⟨mo_al _ _, Or.inl (ok_aload_n (k := 0) rfl (by decide +kernel))⟩,
  List.forall_mem_cons.mpr ⟨⟨mo_gi _ _ _ _, Or.inl (ok_gi (C := RX11) (T := TX11) (N := 93) (ci := 11) (k := 24) rfl inX11 (by decide) fl_X11_96 (by decide +kernel) (by decide +kernel))⟩,
  List.forall_mem_cons.mpr ⟨⟨mo_inv _ _ _ _ _, Or.inr (Or.inl (ok_inv (T := TX11) (N := 93) rfl cw_X11_byteAt (by decide) (by decide) ml_X11_99 ci_X11_byteAt cv_X11_byteAt (show Cond.initialized (yX11_byteAt).cls ∈ am_ts from ci9_RX11) ⟨by decide +kernel, by decide +kernel, by decide +kernel⟩ rfl (by decide +kernel)))⟩,
  List.forall_mem_cons.mpr ⟨⟨mo_ic _ _, Or.inl (ok_bipush (n := 96) (v := 96) (by decide) (by decide +kernel))⟩,
  List.forall_mem_cons.mpr ⟨⟨mo_bin _ _, Or.inl (ok_isub (by decide +kernel))⟩,
  List.forall_mem_cons.mpr ⟨⟨mo_i2l _, Or.inl (ok_i2l (by decide +kernel))⟩,
  List.forall_mem_cons.mpr ⟨⟨mo_lbin _ _, Or.inl (ok_lor (by decide +kernel))⟩,
  fun _ h => absurd h List.not_mem_nil⟩⟩⟩⟩⟩⟩⟩⟩⟩⟩⟩⟩⟩⟩⟩⟩⟩⟩⟩⟩
def t_X11_goes_4 : List (Nat × am_F) := [(156, im_pl q_SH 11 30 159), (159, im_al 0 160), (160, im_dup 161), (161, im_gi q_SH 11 24 164), (164, im_ic 1 165), (165, im_bin (fun x y => x + y) 166), (166, im_pi q_SH 11 24 169), (169, im_go 108), (172, im_al 0 173), (173, im_ic 1 174), (174, im_pi q_SH 11 25 177), (177, im_go 331), (180, im_il 1 181), (181, im_invs 118 1 184), (184, im_if1 ib_eq 258 187), (187, im_al 0 188), (188, im_al 0 189), (189, im_gi q_SH 11 24 192), (192, im_inv q_SH 11 116 1 195), (195, im_invs 118 1 198)]
set_option maxRecDepth 20000 in
theorem o_X11_goes_4 : ∀ q ∈ t_X11_goes_4, am_ok vwCl q_SH ξ (q_E ξ β xs L) q_EN q_KD q_ML (cX11_goes, 2, RX11, "goes", none, []) q.1 q.2 :=
  List.forall_mem_cons.mpr ⟨⟨mo_pl _ _ _ _, Or.inl (ok_pl (ty := .int) (C := RX11) (T := TX11) (N := 93) (ci := 11) (k := 30) rfl inX11 (by decide) fl_X11_106 (by decide +kernel) tyX11 tyX11_ok nmX11 (by decide +kernel) (by decide +kernel) (by decide +kernel))⟩,
  List.forall_mem_cons.mpr ⟨⟨mo_al _ _, Or.inl (ok_aload_n (k := 0) rfl (by decide +kernel))⟩,
  List.forall_mem_cons.mpr ⟨⟨mo_dup _, Or.inl (ok_dup (by decide +kernel))⟩,
  List.forall_mem_cons.mpr ⟨⟨mo_gi _ _ _ _, Or.inl (ok_gi (C := RX11) (T := TX11) (N := 93) (ci := 11) (k := 24) rfl inX11 (by decide) fl_X11_96 (by decide +kernel) (by decide +kernel))⟩,
  List.forall_mem_cons.mpr ⟨⟨mo_ic _ _, Or.inl (ok_iconst (n := 1) (v := 1) (by decide) (by decide +kernel))⟩,
  List.forall_mem_cons.mpr ⟨⟨mo_bin _ _, Or.inl (ok_iadd (by decide +kernel))⟩,
  List.forall_mem_cons.mpr ⟨⟨mo_pi _ _ _ _, Or.inl (ok_pi (ty := .int) (C := RX11) (T := TX11) (N := 93) (ci := 11) (k := 24) rfl inX11 (by decide) fl_X11_96 (by decide +kernel) tyX11 tyX11_ok nmX11 (by decide +kernel) (by decide +kernel) (by decide +kernel))⟩,
  List.forall_mem_cons.mpr ⟨⟨mo_go _, Or.inl (ok_goto (off := (-61)) (by decide) (by decide +kernel))⟩,
  List.forall_mem_cons.mpr ⟨⟨mo_al _ _, Or.inl (ok_aload_n (k := 0) rfl (by decide +kernel))⟩,
  List.forall_mem_cons.mpr ⟨⟨mo_ic _ _, Or.inl (ok_iconst (n := 1) (v := 1) (by decide) (by decide +kernel))⟩,
  List.forall_mem_cons.mpr ⟨⟨mo_pi _ _ _ _, Or.inl (ok_pi (ty := .int) (C := RX11) (T := TX11) (N := 93) (ci := 11) (k := 25) rfl inX11 (by decide) fl_X11_116 (by decide +kernel) tyX11 tyX11_ok nmX11 (by decide +kernel) (by decide +kernel) (by decide +kernel))⟩,
  List.forall_mem_cons.mpr ⟨⟨mo_go _, Or.inl (ok_goto (off := 154) (by decide) (by decide +kernel))⟩,
  List.forall_mem_cons.mpr ⟨⟨mo_il _ _, Or.inl (ok_iload_n (k := 1) rfl (by decide +kernel))⟩,
  List.forall_mem_cons.mpr ⟨⟨mo_invs _ _ _, Or.inr (Or.inl (ok_invs cw_X11_isDigit (by decide) (by decide) ml_X11_122 cs_X11_isDigit (show Cond.initialized (yX11_isDigit).cls ∈ am_ts from ci9_RX11) ⟨by decide +kernel, by decide +kernel, by decide +kernel⟩ rfl (by decide +kernel)))⟩,
  List.forall_mem_cons.mpr ⟨⟨mo_if1 _ _ _, Or.inl (ok_if_eq (off := 74) (by decide) (by decide +kernel))⟩,
  List.forall_mem_cons.mpr ⟨⟨mo_al _ _, Or.inl (ok_aload_n (k := 0) rfl (by decide +kernel))⟩,
  List.forall_mem_cons.mpr ⟨⟨mo_al _ _, Or.inl (ok_aload_n (k := 0) rfl (by decide +kernel))⟩,
  List.forall_mem_cons.mpr ⟨⟨mo_gi _ _ _ _, Or.inl (ok_gi (C := RX11) (T := TX11) (N := 93) (ci := 11) (k := 24) rfl inX11 (by decide) fl_X11_96 (by decide +kernel) (by decide +kernel))⟩,
  List.forall_mem_cons.mpr ⟨⟨mo_inv _ _ _ _ _, Or.inr (Or.inl (ok_inv (T := TX11) (N := 93) rfl cw_X11_byteAt (by decide) (by decide) ml_X11_99 ci_X11_byteAt cv_X11_byteAt (show Cond.initialized (yX11_byteAt).cls ∈ am_ts from ci9_RX11) ⟨by decide +kernel, by decide +kernel, by decide +kernel⟩ rfl (by decide +kernel)))⟩,
  List.forall_mem_cons.mpr ⟨⟨mo_invs _ _ _, Or.inr (Or.inl (ok_invs cw_X11_isDigit (by decide) (by decide) ml_X11_122 cs_X11_isDigit (show Cond.initialized (yX11_isDigit).cls ∈ am_ts from ci9_RX11) ⟨by decide +kernel, by decide +kernel, by decide +kernel⟩ rfl (by decide +kernel)))⟩,
  fun _ h => absurd h List.not_mem_nil⟩⟩⟩⟩⟩⟩⟩⟩⟩⟩⟩⟩⟩⟩⟩⟩⟩⟩⟩⟩
def t_X11_goes_5 : List (Nat × am_F) := [(198, im_if1 ib_eq 250 201), (201, im_al 0 202), (202, im_gi q_SH 11 24 205), (205, im_al 0 206), (206, im_gi q_SH 11 26 209), (209, im_bin (fun x y => x - y) 210), (210, im_ic 5 211), (211, im_if2 ic_ge 237 214), (214, im_al 0 215), (215, im_ic 10 217), (217, im_al 0 218), (218, im_gi q_SH 11 28 221), (221, im_bin (fun x y => x * y) 222), (222, im_al 0 223), (223, im_al 0 224), (224, im_gi q_SH 11 24 227), (227, im_inv q_SH 11 116 1 230), (230, im_bin (fun x y => x + y) 231), (231, im_ic 48 233), (233, im_bin (fun x y => x - y) 234)]
set_option maxRecDepth 20000 in
theorem o_X11_goes_5 : ∀ q ∈ t_X11_goes_5, am_ok vwCl q_SH ξ (q_E ξ β xs L) q_EN q_KD q_ML (cX11_goes, 2, RX11, "goes", none, []) q.1 q.2 :=
  List.forall_mem_cons.mpr ⟨⟨mo_if1 _ _ _, Or.inl (ok_if_eq (off := 52) (by decide) (by decide +kernel))⟩,
  List.forall_mem_cons.mpr ⟨⟨mo_al _ _, Or.inl (ok_aload_n (k := 0) rfl (by decide +kernel))⟩,
  List.forall_mem_cons.mpr ⟨⟨mo_gi _ _ _ _, Or.inl (ok_gi (C := RX11) (T := TX11) (N := 93) (ci := 11) (k := 24) rfl inX11 (by decide) fl_X11_96 (by decide +kernel) (by decide +kernel))⟩,
  List.forall_mem_cons.mpr ⟨⟨mo_al _ _, Or.inl (ok_aload_n (k := 0) rfl (by decide +kernel))⟩,
  List.forall_mem_cons.mpr ⟨⟨mo_gi _ _ _ _, Or.inl (ok_gi (C := RX11) (T := TX11) (N := 93) (ci := 11) (k := 26) rfl inX11 (by decide) fl_X11_103 (by decide +kernel) (by decide +kernel))⟩,
  List.forall_mem_cons.mpr ⟨⟨mo_bin _ _, Or.inl (ok_isub (by decide +kernel))⟩,
  List.forall_mem_cons.mpr ⟨⟨mo_ic _ _, Or.inl (ok_iconst (n := 5) (v := 5) (by decide) (by decide +kernel))⟩,
  List.forall_mem_cons.mpr ⟨⟨mo_if2 _ _ _, Or.inl (ok_icmp_ge (off := 26) (by decide) (by decide +kernel))⟩,
  List.forall_mem_cons.mpr ⟨⟨mo_al _ _, Or.inl (ok_aload_n (k := 0) rfl (by decide +kernel))⟩,
  List.forall_mem_cons.mpr ⟨⟨mo_ic _ _, Or.inl (ok_bipush (n := 10) (v := 10) (by decide) (by decide +kernel))⟩,
  List.forall_mem_cons.mpr ⟨⟨mo_al _ _, Or.inl (ok_aload_n (k := 0) rfl (by decide +kernel))⟩,
  List.forall_mem_cons.mpr ⟨⟨mo_gi _ _ _ _, Or.inl (ok_gi (C := RX11) (T := TX11) (N := 93) (ci := 11) (k := 28) rfl inX11 (by decide) fl_X11_110 (by decide +kernel) (by decide +kernel))⟩,
  List.forall_mem_cons.mpr ⟨⟨mo_bin _ _, Or.inl (ok_imul (by decide +kernel))⟩,
  List.forall_mem_cons.mpr ⟨⟨mo_al _ _, Or.inl (ok_aload_n (k := 0) rfl (by decide +kernel))⟩,
  List.forall_mem_cons.mpr ⟨⟨mo_al _ _, Or.inl (ok_aload_n (k := 0) rfl (by decide +kernel))⟩,
  List.forall_mem_cons.mpr ⟨⟨mo_gi _ _ _ _, Or.inl (ok_gi (C := RX11) (T := TX11) (N := 93) (ci := 11) (k := 24) rfl inX11 (by decide) fl_X11_96 (by decide +kernel) (by decide +kernel))⟩,
  List.forall_mem_cons.mpr ⟨⟨mo_inv _ _ _ _ _, Or.inr (Or.inl (ok_inv (T := TX11) (N := 93) rfl cw_X11_byteAt (by decide) (by decide) ml_X11_99 ci_X11_byteAt cv_X11_byteAt (show Cond.initialized (yX11_byteAt).cls ∈ am_ts from ci9_RX11) ⟨by decide +kernel, by decide +kernel, by decide +kernel⟩ rfl (by decide +kernel)))⟩,
  List.forall_mem_cons.mpr ⟨⟨mo_bin _ _, Or.inl (ok_iadd (by decide +kernel))⟩,
  List.forall_mem_cons.mpr ⟨⟨mo_ic _ _, Or.inl (ok_bipush (n := 48) (v := 48) (by decide) (by decide +kernel))⟩,
  List.forall_mem_cons.mpr ⟨⟨mo_bin _ _, Or.inl (ok_isub (by decide +kernel))⟩,
  fun _ h => absurd h List.not_mem_nil⟩⟩⟩⟩⟩⟩⟩⟩⟩⟩⟩⟩⟩⟩⟩⟩⟩⟩⟩⟩
def t_X11_goes_6 : List (Nat × am_F) := [(234, im_pi q_SH 11 28 237), (237, im_al 0 238), (238, im_dup 239), (239, im_gi q_SH 11 24 242), (242, im_ic 1 243), (243, im_bin (fun x y => x + y) 244), (244, im_pi q_SH 11 24 247), (247, im_go 187), (250, im_al 0 251), (251, im_ic 2 252), (252, im_pi q_SH 11 25 255), (255, im_go 331), (258, im_al 0 259), (259, im_dup 260), (260, im_gi q_SH 11 24 263), (263, im_ic 1 264), (264, im_bin (fun x y => x + y) 265), (265, im_pi q_SH 11 24 268), (268, im_al 0 269), (269, im_il 1 270)]
set_option maxRecDepth 20000 in
theorem o_X11_goes_6 : ∀ q ∈ t_X11_goes_6, am_ok vwCl q_SH ξ (q_E ξ β xs L) q_EN q_KD q_ML (cX11_goes, 2, RX11, "goes", none, []) q.1 q.2 :=
  List.forall_mem_cons.mpr ⟨⟨mo_pi _ _ _ _, Or.inl (ok_pi (ty := .int) (C := RX11) (T := TX11) (N := 93) (ci := 11) (k := 28) rfl inX11 (by decide) fl_X11_110 (by decide +kernel) tyX11 tyX11_ok nmX11 (by decide +kernel) (by decide +kernel) (by decide +kernel))⟩,
  List.forall_mem_cons.mpr ⟨⟨mo_al _ _, Or.inl (ok_aload_n (k := 0) rfl (by decide +kernel))⟩,
  List.forall_mem_cons.mpr ⟨⟨mo_dup _, Or.inl (ok_dup (by decide +kernel))⟩,
  List.forall_mem_cons.mpr ⟨⟨mo_gi _ _ _ _, Or.inl (ok_gi (C := RX11) (T := TX11) (N := 93) (ci := 11) (k := 24) rfl inX11 (by decide) fl_X11_96 (by decide +kernel) (by decide +kernel))⟩,
  List.forall_mem_cons.mpr ⟨⟨mo_ic _ _, Or.inl (ok_iconst (n := 1) (v := 1) (by decide) (by decide +kernel))⟩,
  List.forall_mem_cons.mpr ⟨⟨mo_bin _ _, Or.inl (ok_iadd (by decide +kernel))⟩,
  List.forall_mem_cons.mpr ⟨⟨mo_pi _ _ _ _, Or.inl (ok_pi (ty := .int) (C := RX11) (T := TX11) (N := 93) (ci := 11) (k := 24) rfl inX11 (by decide) fl_X11_96 (by decide +kernel) tyX11 tyX11_ok nmX11 (by decide +kernel) (by decide +kernel) (by decide +kernel))⟩,
  List.forall_mem_cons.mpr ⟨⟨mo_go _, Or.inl (ok_goto (off := (-60)) (by decide) (by decide +kernel))⟩,
  List.forall_mem_cons.mpr ⟨⟨mo_al _ _, Or.inl (ok_aload_n (k := 0) rfl (by decide +kernel))⟩,
  List.forall_mem_cons.mpr ⟨⟨mo_ic _ _, Or.inl (ok_iconst (n := 2) (v := 2) (by decide) (by decide +kernel))⟩,
  List.forall_mem_cons.mpr ⟨⟨mo_pi _ _ _ _, Or.inl (ok_pi (ty := .int) (C := RX11) (T := TX11) (N := 93) (ci := 11) (k := 25) rfl inX11 (by decide) fl_X11_116 (by decide +kernel) tyX11 tyX11_ok nmX11 (by decide +kernel) (by decide +kernel) (by decide +kernel))⟩,
  List.forall_mem_cons.mpr ⟨⟨mo_go _, Or.inl (ok_goto (off := 76) (by decide) (by decide +kernel))⟩,
  List.forall_mem_cons.mpr ⟨⟨mo_al _ _, Or.inl (ok_aload_n (k := 0) rfl (by decide +kernel))⟩,
  List.forall_mem_cons.mpr ⟨⟨mo_dup _, Or.inl (ok_dup (by decide +kernel))⟩,
  List.forall_mem_cons.mpr ⟨⟨mo_gi _ _ _ _, Or.inl (ok_gi (C := RX11) (T := TX11) (N := 93) (ci := 11) (k := 24) rfl inX11 (by decide) fl_X11_96 (by decide +kernel) (by decide +kernel))⟩,
  List.forall_mem_cons.mpr ⟨⟨mo_ic _ _, Or.inl (ok_iconst (n := 1) (v := 1) (by decide) (by decide +kernel))⟩,
  List.forall_mem_cons.mpr ⟨⟨mo_bin _ _, Or.inl (ok_iadd (by decide +kernel))⟩,
  List.forall_mem_cons.mpr ⟨⟨mo_pi _ _ _ _, Or.inl (ok_pi (ty := .int) (C := RX11) (T := TX11) (N := 93) (ci := 11) (k := 24) rfl inX11 (by decide) fl_X11_96 (by decide +kernel) tyX11 tyX11_ok nmX11 (by decide +kernel) (by decide +kernel) (by decide +kernel))⟩,
  List.forall_mem_cons.mpr ⟨⟨mo_al _ _, Or.inl (ok_aload_n (k := 0) rfl (by decide +kernel))⟩,
  List.forall_mem_cons.mpr ⟨⟨mo_il _ _, Or.inl (ok_iload_n (k := 1) rfl (by decide +kernel))⟩,
  fun _ h => absurd h List.not_mem_nil⟩⟩⟩⟩⟩⟩⟩⟩⟩⟩⟩⟩⟩⟩⟩⟩⟩⟩⟩⟩
def t_X11_goes_7 : List (Nat × am_F) := [(270, im_ic 59 272), (272, im_if2 ic_eq 323 275), (275, im_il 1 276), (276, im_ic 40 278), (278, im_if2 ic_eq 323 281), (281, im_il 1 282), (282, im_ic 41 284), (284, im_if2 ic_eq 323 287), (287, im_il 1 288), (288, im_ic 43 290), (290, im_if2 ic_eq 323 293), (293, im_il 1 294), (294, im_ic 45 296), (296, im_if2 ic_eq 323 299), (299, im_il 1 300), (300, im_ic 42 302), (302, im_if2 ic_eq 323 305), (305, im_il 1 306), (306, im_ic 47 308), (308, im_if2 ic_eq 323 311)]
set_option maxRecDepth 20000 in
theorem o_X11_goes_7 : ∀ q ∈ t_X11_goes_7, am_ok vwCl q_SH ξ (q_E ξ β xs L) q_EN q_KD q_ML (cX11_goes, 2, RX11, "goes", none, []) q.1 q.2 :=
  List.forall_mem_cons.mpr ⟨⟨mo_ic _ _, Or.inl (ok_bipush (n := 59) (v := 59) (by decide) (by decide +kernel))⟩,
  List.forall_mem_cons.mpr ⟨⟨mo_if2 _ _ _, Or.inl (ok_icmp_eq (off := 51) (by decide) (by decide +kernel))⟩,
  List.forall_mem_cons.mpr ⟨⟨mo_il _ _, Or.inl (ok_iload_n (k := 1) rfl (by decide +kernel))⟩,
  List.forall_mem_cons.mpr ⟨⟨mo_ic _ _, Or.inl (ok_bipush (n := 40) (v := 40) (by decide) (by decide +kernel))⟩,
  List.forall_mem_cons.mpr ⟨⟨mo_if2 _ _ _, Or.inl (ok_icmp_eq (off := 45) (by decide) (by decide +kernel))⟩,
  List.forall_mem_cons.mpr ⟨⟨mo_il _ _, Or.inl (ok_iload_n (k := 1) rfl (by decide +kernel))⟩,
  List.forall_mem_cons.mpr ⟨⟨mo_ic _ _, Or.inl (ok_bipush (n := 41) (v := 41) (by decide) (by decide +kernel))⟩,
  List.forall_mem_cons.mpr ⟨⟨mo_if2 _ _ _, Or.inl (ok_icmp_eq (off := 39) (by decide) (by decide +kernel))⟩,
  List.forall_mem_cons.mpr ⟨⟨mo_il _ _, Or.inl (ok_iload_n (k := 1) rfl (by decide +kernel))⟩,
  List.forall_mem_cons.mpr ⟨⟨mo_ic _ _, Or.inl (ok_bipush (n := 43) (v := 43) (by decide) (by decide +kernel))⟩,
  List.forall_mem_cons.mpr ⟨⟨mo_if2 _ _ _, Or.inl (ok_icmp_eq (off := 33) (by decide) (by decide +kernel))⟩,
  List.forall_mem_cons.mpr ⟨⟨mo_il _ _, Or.inl (ok_iload_n (k := 1) rfl (by decide +kernel))⟩,
  List.forall_mem_cons.mpr ⟨⟨mo_ic _ _, Or.inl (ok_bipush (n := 45) (v := 45) (by decide) (by decide +kernel))⟩,
  List.forall_mem_cons.mpr ⟨⟨mo_if2 _ _ _, Or.inl (ok_icmp_eq (off := 27) (by decide) (by decide +kernel))⟩,
  List.forall_mem_cons.mpr ⟨⟨mo_il _ _, Or.inl (ok_iload_n (k := 1) rfl (by decide +kernel))⟩,
  List.forall_mem_cons.mpr ⟨⟨mo_ic _ _, Or.inl (ok_bipush (n := 42) (v := 42) (by decide) (by decide +kernel))⟩,
  List.forall_mem_cons.mpr ⟨⟨mo_if2 _ _ _, Or.inl (ok_icmp_eq (off := 21) (by decide) (by decide +kernel))⟩,
  List.forall_mem_cons.mpr ⟨⟨mo_il _ _, Or.inl (ok_iload_n (k := 1) rfl (by decide +kernel))⟩,
  List.forall_mem_cons.mpr ⟨⟨mo_ic _ _, Or.inl (ok_bipush (n := 47) (v := 47) (by decide) (by decide +kernel))⟩,
  List.forall_mem_cons.mpr ⟨⟨mo_if2 _ _ _, Or.inl (ok_icmp_eq (off := 15) (by decide) (by decide +kernel))⟩,
  fun _ h => absurd h List.not_mem_nil⟩⟩⟩⟩⟩⟩⟩⟩⟩⟩⟩⟩⟩⟩⟩⟩⟩⟩⟩⟩
def t_X11_goes_8 : List (Nat × am_F) := [(311, im_il 1 312), (312, im_ic 60 314), (314, im_if2 ic_eq 323 317), (317, im_il 1 318), (318, im_ic 61 320), (320, im_if2 ic_ne 327 323), (323, im_ic 3 324), (324, im_go 328), (327, im_ic 4 328), (328, im_pi q_SH 11 25 331), (331, im_al 0 332), (332, im_al 0 333), (333, im_gi q_SH 11 24 336), (336, im_al 0 337), (337, im_gi q_SH 11 26 340), (340, im_bin (fun x y => x - y) 341), (341, im_pi q_SH 11 27 344), (344, im_ret0e)]
set_option maxRecDepth 20000 in
theorem o_X11_goes_8 : ∀ q ∈ t_X11_goes_8, am_ok vwCl q_SH ξ (q_E ξ β xs L) q_EN q_KD q_ML (cX11_goes, 2, RX11, "goes", none, []) q.1 q.2 :=
  List.forall_mem_cons.mpr ⟨⟨mo_il _ _, Or.inl (ok_iload_n (k := 1) rfl (by decide +kernel))⟩,
  List.forall_mem_cons.mpr ⟨⟨mo_ic _ _, Or.inl (ok_bipush (n := 60) (v := 60) (by decide) (by decide +kernel))⟩,
  List.forall_mem_cons.mpr ⟨⟨mo_if2 _ _ _, Or.inl (ok_icmp_eq (off := 9) (by decide) (by decide +kernel))⟩,
  List.forall_mem_cons.mpr ⟨⟨mo_il _ _, Or.inl (ok_iload_n (k := 1) rfl (by decide +kernel))⟩,
  List.forall_mem_cons.mpr ⟨⟨mo_ic _ _, Or.inl (ok_bipush (n := 61) (v := 61) (by decide) (by decide +kernel))⟩,
  List.forall_mem_cons.mpr ⟨⟨mo_if2 _ _ _, Or.inl (ok_icmp_ne (off := 7) (by decide) (by decide +kernel))⟩,
  List.forall_mem_cons.mpr ⟨⟨mo_ic _ _, Or.inl (ok_iconst (n := 3) (v := 3) (by decide) (by decide +kernel))⟩,
  List.forall_mem_cons.mpr ⟨⟨mo_go _, Or.inl (ok_goto (off := 4) (by decide) (by decide +kernel))⟩,
  List.forall_mem_cons.mpr ⟨⟨mo_ic _ _, Or.inl (ok_iconst (n := 4) (v := 4) (by decide) (by decide +kernel))⟩,
  List.forall_mem_cons.mpr ⟨⟨mo_pi _ _ _ _, Or.inl (ok_pi (ty := .int) (C := RX11) (T := TX11) (N := 93) (ci := 11) (k := 25) rfl inX11 (by decide) fl_X11_116 (by decide +kernel) tyX11 tyX11_ok nmX11 (by decide +kernel) (by decide +kernel) (by decide +kernel))⟩,
  List.forall_mem_cons.mpr ⟨⟨mo_al _ _, Or.inl (ok_aload_n (k := 0) rfl (by decide +kernel))⟩,
  List.forall_mem_cons.mpr ⟨⟨mo_al _ _, Or.inl (ok_aload_n (k := 0) rfl (by decide +kernel))⟩,
  List.forall_mem_cons.mpr ⟨⟨mo_gi _ _ _ _, Or.inl (ok_gi (C := RX11) (T := TX11) (N := 93) (ci := 11) (k := 24) rfl inX11 (by decide) fl_X11_96 (by decide +kernel) (by decide +kernel))⟩,
  List.forall_mem_cons.mpr ⟨⟨mo_al _ _, Or.inl (ok_aload_n (k := 0) rfl (by decide +kernel))⟩,
  List.forall_mem_cons.mpr ⟨⟨mo_gi _ _ _ _, Or.inl (ok_gi (C := RX11) (T := TX11) (N := 93) (ci := 11) (k := 26) rfl inX11 (by decide) fl_X11_103 (by decide +kernel) (by decide +kernel))⟩,
  List.forall_mem_cons.mpr ⟨⟨mo_bin _ _, Or.inl (ok_isub (by decide +kernel))⟩,
  List.forall_mem_cons.mpr ⟨⟨mo_pi _ _ _ _, Or.inl (ok_pi (ty := .int) (C := RX11) (T := TX11) (N := 93) (ci := 11) (k := 27) rfl inX11 (by decide) fl_X11_125 (by decide +kernel) tyX11 tyX11_ok nmX11 (by decide +kernel) (by decide +kernel) (by decide +kernel))⟩,
  List.forall_mem_cons.mpr ⟨⟨mo_ret0e, Or.inr (Or.inr (ok_ret0 rfl (by decide +kernel)))⟩,
  fun _ h => absurd h List.not_mem_nil⟩⟩⟩⟩⟩⟩⟩⟩⟩⟩⟩⟩⟩⟩⟩⟩⟩⟩
def t_X11_goes : List (Nat × am_F) := t_X11_goes_0 ++ (t_X11_goes_1 ++ (t_X11_goes_2 ++ (t_X11_goes_3 ++ (t_X11_goes_4 ++ (t_X11_goes_5 ++ (t_X11_goes_6 ++ (t_X11_goes_7 ++ (t_X11_goes_8))))))))
theorem o_X11_goes : ∀ q ∈ t_X11_goes, am_ok vwCl q_SH ξ (q_E ξ β xs L) q_EN q_KD q_ML (cX11_goes, 2, RX11, "goes", none, []) q.1 q.2 := List.forall_mem_append.mpr ⟨o_X11_goes_0, List.forall_mem_append.mpr ⟨o_X11_goes_1, List.forall_mem_append.mpr ⟨o_X11_goes_2, List.forall_mem_append.mpr ⟨o_X11_goes_3, List.forall_mem_append.mpr ⟨o_X11_goes_4, List.forall_mem_append.mpr ⟨o_X11_goes_5, List.forall_mem_append.mpr ⟨o_X11_goes_6, List.forall_mem_append.mpr ⟨o_X11_goes_7, o_X11_goes_8⟩⟩⟩⟩⟩⟩⟩⟩
def t_X11_spelled_0 : List (Nat × am_F) := [(0, im_il 0 1), (1, im_ic 96 3), (3, im_bin (fun x y => x - y) 4), (4, im_i2l 5), (5, im_ls 6 7), (7, im_il 1 8), (8, im_if1 ib_eq 23 11), (11, im_ll 6 13), (13, im_ic 5 14), (14, im_lsh (fun x y => x <<< (y.toInt64 &&& 63)) 15), (15, im_il 1 16), (16, im_ic 96 18), (18, im_bin (fun x y => x - y) 19), (19, im_i2l 20), (20, im_lbin (fun x y => x ||| y) 21), (21, im_ls 6 23), (23, im_il 2 24), (24, im_if1 ib_eq 39 27), (27, im_ll 6 29), (29, im_ic 5 30)]
set_option maxRecDepth 20000 in
theorem o_X11_spelled_0 : ∀ q ∈ t_X11_spelled_0, am_ok vwCl q_SH ξ (q_E ξ β xs L) q_EN q_KD q_ML (cX11_spelled, 8, RX11, "spelled", (some .long), []) q.1 q.2 :=
  List.forall_mem_cons.mpr ⟨⟨mo_il _ _, Or.inl (ok_iload_n (k := 0) rfl (by decide +kernel))⟩,
  List.forall_mem_cons.mpr ⟨⟨mo_ic _ _, Or.inl (ok_bipush (n := 96) (v := 96) (by decide) (by decide +kernel))⟩,
  List.forall_mem_cons.mpr ⟨⟨mo_bin _ _, Or.inl (ok_isub (by decide +kernel))⟩,
  List.forall_mem_cons.mpr ⟨⟨mo_i2l _, Or.inl (ok_i2l (by decide +kernel))⟩,
  List.forall_mem_cons.mpr ⟨⟨mo_ls _ _, Or.inl (ok_lstore (by decide) (by decide +kernel))⟩,
  List.forall_mem_cons.mpr ⟨⟨mo_il _ _, Or.inl (ok_iload_n (k := 1) rfl (by decide +kernel))⟩,
  List.forall_mem_cons.mpr ⟨⟨mo_if1 _ _ _, Or.inl (ok_if_eq (off := 15) (by decide) (by decide +kernel))⟩,
  List.forall_mem_cons.mpr ⟨⟨mo_ll _ _, Or.inl (ok_lload (by decide +kernel))⟩,
  List.forall_mem_cons.mpr ⟨⟨mo_ic _ _, Or.inl (ok_iconst (n := 5) (v := 5) (by decide) (by decide +kernel))⟩,
  List.forall_mem_cons.mpr ⟨⟨mo_lsh _ _, Or.inl (ok_lshl (by decide +kernel))⟩,
  List.forall_mem_cons.mpr ⟨⟨mo_il _ _, Or.inl (ok_iload_n (k := 1) rfl (by decide +kernel))⟩,
  List.forall_mem_cons.mpr ⟨⟨mo_ic _ _, Or.inl (ok_bipush (n := 96) (v := 96) (by decide) (by decide +kernel))⟩,
  List.forall_mem_cons.mpr ⟨⟨mo_bin _ _, Or.inl (ok_isub (by decide +kernel))⟩,
  List.forall_mem_cons.mpr ⟨⟨mo_i2l _, Or.inl (ok_i2l (by decide +kernel))⟩,
  List.forall_mem_cons.mpr ⟨⟨mo_lbin _ _, Or.inl (ok_lor (by decide +kernel))⟩,
  List.forall_mem_cons.mpr ⟨⟨mo_ls _ _, Or.inl (ok_lstore (by decide) (by decide +kernel))⟩,
  List.forall_mem_cons.mpr ⟨⟨mo_il _ _, Or.inl (ok_iload_n (k := 2) rfl (by decide +kernel))⟩,
  List.forall_mem_cons.mpr ⟨⟨mo_if1 _ _ _, Or.inl (ok_if_eq (off := 15) (by decide) (by decide +kernel))⟩,
  List.forall_mem_cons.mpr ⟨⟨mo_ll _ _, Or.inl (ok_lload (by decide +kernel))⟩,
  List.forall_mem_cons.mpr ⟨⟨mo_ic _ _, Or.inl (ok_iconst (n := 5) (v := 5) (by decide) (by decide +kernel))⟩,
  fun _ h => absurd h List.not_mem_nil⟩⟩⟩⟩⟩⟩⟩⟩⟩⟩⟩⟩⟩⟩⟩⟩⟩⟩⟩⟩
def t_X11_spelled_1 : List (Nat × am_F) := [(30, im_lsh (fun x y => x <<< (y.toInt64 &&& 63)) 31), (31, im_il 2 32), (32, im_ic 96 34), (34, im_bin (fun x y => x - y) 35), (35, im_i2l 36), (36, im_lbin (fun x y => x ||| y) 37), (37, im_ls 6 39), (39, im_il 3 40), (40, im_if1 ib_eq 55 43), (43, im_ll 6 45), (45, im_ic 5 46), (46, im_lsh (fun x y => x <<< (y.toInt64 &&& 63)) 47), (47, im_il 3 48), (48, im_ic 96 50), (50, im_bin (fun x y => x - y) 51), (51, im_i2l 52), (52, im_lbin (fun x y => x ||| y) 53), (53, im_ls 6 55), (55, im_il 4 57), (57, im_if1 ib_eq 73 60)]
set_option maxRecDepth 20000 in
theorem o_X11_spelled_1 : ∀ q ∈ t_X11_spelled_1, am_ok vwCl q_SH ξ (q_E ξ β xs L) q_EN q_KD q_ML (cX11_spelled, 8, RX11, "spelled", (some .long), []) q.1 q.2 :=
  List.forall_mem_cons.mpr ⟨⟨mo_lsh _ _, Or.inl (ok_lshl (by decide +kernel))⟩,
  List.forall_mem_cons.mpr ⟨⟨mo_il _ _, Or.inl (ok_iload_n (k := 2) rfl (by decide +kernel))⟩,
  List.forall_mem_cons.mpr ⟨⟨mo_ic _ _, Or.inl (ok_bipush (n := 96) (v := 96) (by decide) (by decide +kernel))⟩,
  List.forall_mem_cons.mpr ⟨⟨mo_bin _ _, Or.inl (ok_isub (by decide +kernel))⟩,
  List.forall_mem_cons.mpr ⟨⟨mo_i2l _, Or.inl (ok_i2l (by decide +kernel))⟩,
  List.forall_mem_cons.mpr ⟨⟨mo_lbin _ _, Or.inl (ok_lor (by decide +kernel))⟩,
  List.forall_mem_cons.mpr ⟨⟨mo_ls _ _, Or.inl (ok_lstore (by decide) (by decide +kernel))⟩,
  List.forall_mem_cons.mpr ⟨⟨mo_il _ _, Or.inl (ok_iload_n (k := 3) rfl (by decide +kernel))⟩,
  List.forall_mem_cons.mpr ⟨⟨mo_if1 _ _ _, Or.inl (ok_if_eq (off := 15) (by decide) (by decide +kernel))⟩,
  List.forall_mem_cons.mpr ⟨⟨mo_ll _ _, Or.inl (ok_lload (by decide +kernel))⟩,
  List.forall_mem_cons.mpr ⟨⟨mo_ic _ _, Or.inl (ok_iconst (n := 5) (v := 5) (by decide) (by decide +kernel))⟩,
  List.forall_mem_cons.mpr ⟨⟨mo_lsh _ _, Or.inl (ok_lshl (by decide +kernel))⟩,
  List.forall_mem_cons.mpr ⟨⟨mo_il _ _, Or.inl (ok_iload_n (k := 3) rfl (by decide +kernel))⟩,
  List.forall_mem_cons.mpr ⟨⟨mo_ic _ _, Or.inl (ok_bipush (n := 96) (v := 96) (by decide) (by decide +kernel))⟩,
  List.forall_mem_cons.mpr ⟨⟨mo_bin _ _, Or.inl (ok_isub (by decide +kernel))⟩,
  List.forall_mem_cons.mpr ⟨⟨mo_i2l _, Or.inl (ok_i2l (by decide +kernel))⟩,
  List.forall_mem_cons.mpr ⟨⟨mo_lbin _ _, Or.inl (ok_lor (by decide +kernel))⟩,
  List.forall_mem_cons.mpr ⟨⟨mo_ls _ _, Or.inl (ok_lstore (by decide) (by decide +kernel))⟩,
  List.forall_mem_cons.mpr ⟨⟨mo_il _ _, Or.inl (ok_iload (by decide +kernel))⟩,
  List.forall_mem_cons.mpr ⟨⟨mo_if1 _ _ _, Or.inl (ok_if_eq (off := 16) (by decide) (by decide +kernel))⟩,
  fun _ h => absurd h List.not_mem_nil⟩⟩⟩⟩⟩⟩⟩⟩⟩⟩⟩⟩⟩⟩⟩⟩⟩⟩⟩⟩
def t_X11_spelled_2 : List (Nat × am_F) := [(60, im_ll 6 62), (62, im_ic 5 63), (63, im_lsh (fun x y => x <<< (y.toInt64 &&& 63)) 64), (64, im_il 4 66), (66, im_ic 96 68), (68, im_bin (fun x y => x - y) 69), (69, im_i2l 70), (70, im_lbin (fun x y => x ||| y) 71), (71, im_ls 6 73), (73, im_il 5 75), (75, im_if1 ib_eq 91 78), (78, im_ll 6 80), (80, im_ic 5 81), (81, im_lsh (fun x y => x <<< (y.toInt64 &&& 63)) 82), (82, im_il 5 84), (84, im_ic 96 86), (86, im_bin (fun x y => x - y) 87), (87, im_i2l 88), (88, im_lbin (fun x y => x ||| y) 89), (89, im_ls 6 91)]
set_option maxRecDepth 20000 in
theorem o_X11_spelled_2 : ∀ q ∈ t_X11_spelled_2, am_ok vwCl q_SH ξ (q_E ξ β xs L) q_EN q_KD q_ML (cX11_spelled, 8, RX11, "spelled", (some .long), []) q.1 q.2 :=
  List.forall_mem_cons.mpr ⟨⟨mo_ll _ _, Or.inl (ok_lload (by decide +kernel))⟩,
  List.forall_mem_cons.mpr ⟨⟨mo_ic _ _, Or.inl (ok_iconst (n := 5) (v := 5) (by decide) (by decide +kernel))⟩,
  List.forall_mem_cons.mpr ⟨⟨mo_lsh _ _, Or.inl (ok_lshl (by decide +kernel))⟩,
  List.forall_mem_cons.mpr ⟨⟨mo_il _ _, Or.inl (ok_iload (by decide +kernel))⟩,
  List.forall_mem_cons.mpr ⟨⟨mo_ic _ _, Or.inl (ok_bipush (n := 96) (v := 96) (by decide) (by decide +kernel))⟩,
  List.forall_mem_cons.mpr ⟨⟨mo_bin _ _, Or.inl (ok_isub (by decide +kernel))⟩,
  List.forall_mem_cons.mpr ⟨⟨mo_i2l _, Or.inl (ok_i2l (by decide +kernel))⟩,
  List.forall_mem_cons.mpr ⟨⟨mo_lbin _ _, Or.inl (ok_lor (by decide +kernel))⟩,
  List.forall_mem_cons.mpr ⟨⟨mo_ls _ _, Or.inl (ok_lstore (by decide) (by decide +kernel))⟩,
  List.forall_mem_cons.mpr ⟨⟨mo_il _ _, Or.inl (ok_iload (by decide +kernel))⟩,
  List.forall_mem_cons.mpr ⟨⟨mo_if1 _ _ _, Or.inl (ok_if_eq (off := 16) (by decide) (by decide +kernel))⟩,
  List.forall_mem_cons.mpr ⟨⟨mo_ll _ _, Or.inl (ok_lload (by decide +kernel))⟩,
  List.forall_mem_cons.mpr ⟨⟨mo_ic _ _, Or.inl (ok_iconst (n := 5) (v := 5) (by decide) (by decide +kernel))⟩,
  List.forall_mem_cons.mpr ⟨⟨mo_lsh _ _, Or.inl (ok_lshl (by decide +kernel))⟩,
  List.forall_mem_cons.mpr ⟨⟨mo_il _ _, Or.inl (ok_iload (by decide +kernel))⟩,
  List.forall_mem_cons.mpr ⟨⟨mo_ic _ _, Or.inl (ok_bipush (n := 96) (v := 96) (by decide) (by decide +kernel))⟩,
  List.forall_mem_cons.mpr ⟨⟨mo_bin _ _, Or.inl (ok_isub (by decide +kernel))⟩,
  List.forall_mem_cons.mpr ⟨⟨mo_i2l _, Or.inl (ok_i2l (by decide +kernel))⟩,
  List.forall_mem_cons.mpr ⟨⟨mo_lbin _ _, Or.inl (ok_lor (by decide +kernel))⟩,
  List.forall_mem_cons.mpr ⟨⟨mo_ls _ _, Or.inl (ok_lstore (by decide) (by decide +kernel))⟩,
  fun _ h => absurd h List.not_mem_nil⟩⟩⟩⟩⟩⟩⟩⟩⟩⟩⟩⟩⟩⟩⟩⟩⟩⟩⟩⟩
def t_X11_spelled_3 : List (Nat × am_F) := [(91, im_ll 6 93), (93, im_retl)]
set_option maxRecDepth 20000 in
theorem o_X11_spelled_3 : ∀ q ∈ t_X11_spelled_3, am_ok vwCl q_SH ξ (q_E ξ β xs L) q_EN q_KD q_ML (cX11_spelled, 8, RX11, "spelled", (some .long), []) q.1 q.2 :=
  List.forall_mem_cons.mpr ⟨⟨mo_ll _ _, Or.inl (ok_lload (by decide +kernel))⟩,
  List.forall_mem_cons.mpr ⟨⟨mo_retl, Or.inr (Or.inr (ok_retl rfl (by decide +kernel)))⟩,
  fun _ h => absurd h List.not_mem_nil⟩⟩
def t_X11_spelled : List (Nat × am_F) := t_X11_spelled_0 ++ (t_X11_spelled_1 ++ (t_X11_spelled_2 ++ (t_X11_spelled_3)))
theorem o_X11_spelled : ∀ q ∈ t_X11_spelled, am_ok vwCl q_SH ξ (q_E ξ β xs L) q_EN q_KD q_ML (cX11_spelled, 8, RX11, "spelled", (some .long), []) q.1 q.2 := List.forall_mem_append.mpr ⟨o_X11_spelled_0, List.forall_mem_append.mpr ⟨o_X11_spelled_1, List.forall_mem_append.mpr ⟨o_X11_spelled_2, o_X11_spelled_3⟩⟩⟩
def t_X11_init_0 : List (Nat × am_F) := [(0, im_al 0 1), (1, im_obj 4), (4, im_al 0 5), (5, im_ic 1 6), (6, im_pi q_SH 11 2 9), (9, im_al 0 10), (10, im_ic 12 12), (12, im_newa q_SH .int 14), (14, im_pr q_SH 11 7 17), (17, im_al 0 18), (18, im_ic 20 20), (20, im_newa q_SH .int 22), (22, im_pr q_SH 11 8 25), (25, im_al 0 26), (26, im_ic 20 28), (28, im_newa q_SH .int 30), (30, im_pr q_SH 11 9 33), (33, im_al 0 34), (34, im_ic 20 36), (36, im_newa q_SH .int 38)]
set_option maxRecDepth 20000 in
theorem o_X11_init_0 : ∀ q ∈ t_X11_init_0, am_ok vwCl q_SH ξ (q_E ξ β xs L) q_EN q_KD q_ML (cX11_init, 1, RX11, "<init>", none, []) q.1 q.2 :=
  List.forall_mem_cons.mpr ⟨⟨mo_al _ _, Or.inl (ok_aload_n (k := 0) rfl (by decide +kernel))⟩,
  List.forall_mem_cons.mpr ⟨⟨mo_obj _, Or.inl (ok_obj (am_in5 220 rfl rfl) (am_in1 33 rfl rfl) (am_in1 34 rfl rfl) (by decide +kernel))⟩,
  List.forall_mem_cons.mpr ⟨⟨mo_al _ _, Or.inl (ok_aload_n (k := 0) rfl (by decide +kernel))⟩,
  List.forall_mem_cons.mpr ⟨⟨mo_ic _ _, Or.inl (ok_iconst (n := 1) (v := 1) (by decide) (by decide +kernel))⟩,
  List.forall_mem_cons.mpr ⟨⟨mo_pi _ _ _ _, Or.inl (ok_pi (ty := .int) (C := RX11) (T := TX11) (N := 93) (ci := 11) (k := 2) rfl inX11 (by decide) fl_X11_10 (by decide +kernel) tyX11 tyX11_ok nmX11 (by decide +kernel) (by decide +kernel) (by decide +kernel))⟩,
  List.forall_mem_cons.mpr ⟨⟨mo_al _ _, Or.inl (ok_aload_n (k := 0) rfl (by decide +kernel))⟩,
  List.forall_mem_cons.mpr ⟨⟨mo_ic _ _, Or.inl (ok_bipush (n := 12) (v := 12) (by decide) (by decide +kernel))⟩,
  List.forall_mem_cons.mpr ⟨⟨mo_newa _ _ _, Or.inl (ok_newi (am_in1 54 rfl rfl) (by decide +kernel))⟩,
  List.forall_mem_cons.mpr ⟨⟨mo_pr _ _ _ _, Or.inl (ok_prF (C := RX11) (T := TX11) (N := 93) (ci := 11) (k := 7) rfl inX11 (by decide) fl_X11_16 (by decide +kernel) tyX11 tyX11_ok nmX11 (by decide +kernel) rfl rfl (ty := .array .int) (by decide +kernel) (fun _ => ⟨rfl, rfl⟩) (by decide +kernel))⟩,
  List.forall_mem_cons.mpr ⟨⟨mo_al _ _, Or.inl (ok_aload_n (k := 0) rfl (by decide +kernel))⟩,
  List.forall_mem_cons.mpr ⟨⟨mo_ic _ _, Or.inl (ok_bipush (n := 20) (v := 20) (by decide) (by decide +kernel))⟩,
  List.forall_mem_cons.mpr ⟨⟨mo_newa _ _ _, Or.inl (ok_newi (am_in1 54 rfl rfl) (by decide +kernel))⟩,
  List.forall_mem_cons.mpr ⟨⟨mo_pr _ _ _ _, Or.inl (ok_prF (C := RX11) (T := TX11) (N := 93) (ci := 11) (k := 8) rfl inX11 (by decide) fl_X11_23 (by decide +kernel) tyX11 tyX11_ok nmX11 (by decide +kernel) rfl rfl (ty := .array .int) (by decide +kernel) (fun _ => ⟨rfl, rfl⟩) (by decide +kernel))⟩,
  List.forall_mem_cons.mpr ⟨⟨mo_al _ _, Or.inl (ok_aload_n (k := 0) rfl (by decide +kernel))⟩,
  List.forall_mem_cons.mpr ⟨⟨mo_ic _ _, Or.inl (ok_bipush (n := 20) (v := 20) (by decide) (by decide +kernel))⟩,
  List.forall_mem_cons.mpr ⟨⟨mo_newa _ _ _, Or.inl (ok_newi (am_in1 54 rfl rfl) (by decide +kernel))⟩,
  List.forall_mem_cons.mpr ⟨⟨mo_pr _ _ _ _, Or.inl (ok_prF (C := RX11) (T := TX11) (N := 93) (ci := 11) (k := 9) rfl inX11 (by decide) fl_X11_26 (by decide +kernel) tyX11 tyX11_ok nmX11 (by decide +kernel) rfl rfl (ty := .array .int) (by decide +kernel) (fun _ => ⟨rfl, rfl⟩) (by decide +kernel))⟩,
  List.forall_mem_cons.mpr ⟨⟨mo_al _ _, Or.inl (ok_aload_n (k := 0) rfl (by decide +kernel))⟩,
  List.forall_mem_cons.mpr ⟨⟨mo_ic _ _, Or.inl (ok_bipush (n := 20) (v := 20) (by decide) (by decide +kernel))⟩,
  List.forall_mem_cons.mpr ⟨⟨mo_newa _ _ _, Or.inl (ok_newi (am_in1 54 rfl rfl) (by decide +kernel))⟩,
  fun _ h => absurd h List.not_mem_nil⟩⟩⟩⟩⟩⟩⟩⟩⟩⟩⟩⟩⟩⟩⟩⟩⟩⟩⟩⟩
def t_X11_init_1 : List (Nat × am_F) := [(38, im_pr q_SH 11 10 41), (41, im_al 0 42), (42, im_ic 100 44), (44, im_newa q_SH .int 46), (46, im_pr q_SH 11 11 49), (49, im_al 0 50), (50, im_ic 100 52), (52, im_newa q_SH .int 54), (54, im_pr q_SH 11 12 57), (57, im_al 0 58), (58, im_ic 100 60), (60, im_newa q_SH .int 62), (62, im_pr q_SH 11 13 65), (65, im_al 0 66), (66, im_ic 100 68), (68, im_newa q_SH .int 70), (70, im_pr q_SH 11 14 73), (73, im_al 0 74), (74, im_ic 100 76), (76, im_newa q_SH .int 78)]
set_option maxRecDepth 20000 in
theorem o_X11_init_1 : ∀ q ∈ t_X11_init_1, am_ok vwCl q_SH ξ (q_E ξ β xs L) q_EN q_KD q_ML (cX11_init, 1, RX11, "<init>", none, []) q.1 q.2 :=
  List.forall_mem_cons.mpr ⟨⟨mo_pr _ _ _ _, Or.inl (ok_prF (C := RX11) (T := TX11) (N := 93) (ci := 11) (k := 10) rfl inX11 (by decide) fl_X11_29 (by decide +kernel) tyX11 tyX11_ok nmX11 (by decide +kernel) rfl rfl (ty := .array .int) (by decide +kernel) (fun _ => ⟨rfl, rfl⟩) (by decide +kernel))⟩,
  List.forall_mem_cons.mpr ⟨⟨mo_al _ _, Or.inl (ok_aload_n (k := 0) rfl (by decide +kernel))⟩,
  List.forall_mem_cons.mpr ⟨⟨mo_ic _ _, Or.inl (ok_bipush (n := 100) (v := 100) (by decide) (by decide +kernel))⟩,
  List.forall_mem_cons.mpr ⟨⟨mo_newa _ _ _, Or.inl (ok_newi (am_in1 54 rfl rfl) (by decide +kernel))⟩,
  List.forall_mem_cons.mpr ⟨⟨mo_pr _ _ _ _, Or.inl (ok_prF (C := RX11) (T := TX11) (N := 93) (ci := 11) (k := 11) rfl inX11 (by decide) fl_X11_50 (by decide +kernel) tyX11 tyX11_ok nmX11 (by decide +kernel) rfl rfl (ty := .array .int) (by decide +kernel) (fun _ => ⟨rfl, rfl⟩) (by decide +kernel))⟩,
  List.forall_mem_cons.mpr ⟨⟨mo_al _ _, Or.inl (ok_aload_n (k := 0) rfl (by decide +kernel))⟩,
  List.forall_mem_cons.mpr ⟨⟨mo_ic _ _, Or.inl (ok_bipush (n := 100) (v := 100) (by decide) (by decide +kernel))⟩,
  List.forall_mem_cons.mpr ⟨⟨mo_newa _ _ _, Or.inl (ok_newi (am_in1 54 rfl rfl) (by decide +kernel))⟩,
  List.forall_mem_cons.mpr ⟨⟨mo_pr _ _ _ _, Or.inl (ok_prF (C := RX11) (T := TX11) (N := 93) (ci := 11) (k := 12) rfl inX11 (by decide) fl_X11_53 (by decide +kernel) tyX11 tyX11_ok nmX11 (by decide +kernel) rfl rfl (ty := .array .int) (by decide +kernel) (fun _ => ⟨rfl, rfl⟩) (by decide +kernel))⟩,
  List.forall_mem_cons.mpr ⟨⟨mo_al _ _, Or.inl (ok_aload_n (k := 0) rfl (by decide +kernel))⟩,
  List.forall_mem_cons.mpr ⟨⟨mo_ic _ _, Or.inl (ok_bipush (n := 100) (v := 100) (by decide) (by decide +kernel))⟩,
  List.forall_mem_cons.mpr ⟨⟨mo_newa _ _ _, Or.inl (ok_newi (am_in1 54 rfl rfl) (by decide +kernel))⟩,
  List.forall_mem_cons.mpr ⟨⟨mo_pr _ _ _ _, Or.inl (ok_prF (C := RX11) (T := TX11) (N := 93) (ci := 11) (k := 13) rfl inX11 (by decide) fl_X11_56 (by decide +kernel) tyX11 tyX11_ok nmX11 (by decide +kernel) rfl rfl (ty := .array .int) (by decide +kernel) (fun _ => ⟨rfl, rfl⟩) (by decide +kernel))⟩,
  List.forall_mem_cons.mpr ⟨⟨mo_al _ _, Or.inl (ok_aload_n (k := 0) rfl (by decide +kernel))⟩,
  List.forall_mem_cons.mpr ⟨⟨mo_ic _ _, Or.inl (ok_bipush (n := 100) (v := 100) (by decide) (by decide +kernel))⟩,
  List.forall_mem_cons.mpr ⟨⟨mo_newa _ _ _, Or.inl (ok_newi (am_in1 54 rfl rfl) (by decide +kernel))⟩,
  List.forall_mem_cons.mpr ⟨⟨mo_pr _ _ _ _, Or.inl (ok_prF (C := RX11) (T := TX11) (N := 93) (ci := 11) (k := 14) rfl inX11 (by decide) fl_X11_59 (by decide +kernel) tyX11 tyX11_ok nmX11 (by decide +kernel) rfl rfl (ty := .array .int) (by decide +kernel) (fun _ => ⟨rfl, rfl⟩) (by decide +kernel))⟩,
  List.forall_mem_cons.mpr ⟨⟨mo_al _ _, Or.inl (ok_aload_n (k := 0) rfl (by decide +kernel))⟩,
  List.forall_mem_cons.mpr ⟨⟨mo_ic _ _, Or.inl (ok_bipush (n := 100) (v := 100) (by decide) (by decide +kernel))⟩,
  List.forall_mem_cons.mpr ⟨⟨mo_newa _ _ _, Or.inl (ok_newi (am_in1 54 rfl rfl) (by decide +kernel))⟩,
  fun _ h => absurd h List.not_mem_nil⟩⟩⟩⟩⟩⟩⟩⟩⟩⟩⟩⟩⟩⟩⟩⟩⟩⟩⟩⟩
def t_X11_init_2 : List (Nat × am_F) := [(78, im_pr q_SH 11 15 81), (81, im_al 0 82), (82, im_ic 100 84), (84, im_newa q_SH .int 86), (86, im_pr q_SH 11 16 89), (89, im_al 0 90), (90, im_ic 100 92), (92, im_newa q_SH .int 94), (94, im_pr q_SH 11 17 97), (97, im_al 0 98), (98, im_ic 300 101), (101, im_newa q_SH .int 103), (103, im_pr q_SH 11 18 106), (106, im_al 0 107), (107, im_ic 500 110), (110, im_newa q_SH .int 112), (112, im_pr q_SH 11 19 115), (115, im_al 0 116), (116, im_ic (-1) 117), (117, im_pi q_SH 11 22 120)]
set_option maxRecDepth 20000 in
theorem o_X11_init_2 : ∀ q ∈ t_X11_init_2, am_ok vwCl q_SH ξ (q_E ξ β xs L) q_EN q_KD q_ML (cX11_init, 1, RX11, "<init>", none, []) q.1 q.2 :=
  List.forall_mem_cons.mpr ⟨⟨mo_pr _ _ _ _, Or.inl (ok_prF (C := RX11) (T := TX11) (N := 93) (ci := 11) (k := 15) rfl inX11 (by decide) fl_X11_62 (by decide +kernel) tyX11 tyX11_ok nmX11 (by decide +kernel) rfl rfl (ty := .array .int) (by decide +kernel) (fun _ => ⟨rfl, rfl⟩) (by decide +kernel))⟩,
  List.forall_mem_cons.mpr ⟨⟨mo_al _ _, Or.inl (ok_aload_n (k := 0) rfl (by decide +kernel))⟩,
  List.forall_mem_cons.mpr ⟨⟨mo_ic _ _, Or.inl (ok_bipush (n := 100) (v := 100) (by decide) (by decide +kernel))⟩,
  List.forall_mem_cons.mpr ⟨⟨mo_newa _ _ _, Or.inl (ok_newi (am_in1 54 rfl rfl) (by decide +kernel))⟩,
  List.forall_mem_cons.mpr ⟨⟨mo_pr _ _ _ _, Or.inl (ok_prF (C := RX11) (T := TX11) (N := 93) (ci := 11) (k := 16) rfl inX11 (by decide) fl_X11_68 (by decide +kernel) tyX11 tyX11_ok nmX11 (by decide +kernel) rfl rfl (ty := .array .int) (by decide +kernel) (fun _ => ⟨rfl, rfl⟩) (by decide +kernel))⟩,
  List.forall_mem_cons.mpr ⟨⟨mo_al _ _, Or.inl (ok_aload_n (k := 0) rfl (by decide +kernel))⟩,
  List.forall_mem_cons.mpr ⟨⟨mo_ic _ _, Or.inl (ok_bipush (n := 100) (v := 100) (by decide) (by decide +kernel))⟩,
  List.forall_mem_cons.mpr ⟨⟨mo_newa _ _ _, Or.inl (ok_newi (am_in1 54 rfl rfl) (by decide +kernel))⟩,
  List.forall_mem_cons.mpr ⟨⟨mo_pr _ _ _ _, Or.inl (ok_prF (C := RX11) (T := TX11) (N := 93) (ci := 11) (k := 17) rfl inX11 (by decide) fl_X11_71 (by decide +kernel) tyX11 tyX11_ok nmX11 (by decide +kernel) rfl rfl (ty := .array .int) (by decide +kernel) (fun _ => ⟨rfl, rfl⟩) (by decide +kernel))⟩,
  List.forall_mem_cons.mpr ⟨⟨mo_al _ _, Or.inl (ok_aload_n (k := 0) rfl (by decide +kernel))⟩,
  List.forall_mem_cons.mpr ⟨⟨mo_ic _ _, Or.inl (ok_sipush (n := 300) (v := 300) (by decide) (by decide +kernel))⟩,
  List.forall_mem_cons.mpr ⟨⟨mo_newa _ _ _, Or.inl (ok_newi (am_in1 54 rfl rfl) (by decide +kernel))⟩,
  List.forall_mem_cons.mpr ⟨⟨mo_pr _ _ _ _, Or.inl (ok_prF (C := RX11) (T := TX11) (N := 93) (ci := 11) (k := 18) rfl inX11 (by decide) fl_X11_74 (by decide +kernel) tyX11 tyX11_ok nmX11 (by decide +kernel) rfl rfl (ty := .array .int) (by decide +kernel) (fun _ => ⟨rfl, rfl⟩) (by decide +kernel))⟩,
  List.forall_mem_cons.mpr ⟨⟨mo_al _ _, Or.inl (ok_aload_n (k := 0) rfl (by decide +kernel))⟩,
  List.forall_mem_cons.mpr ⟨⟨mo_ic _ _, Or.inl (ok_sipush (n := 500) (v := 500) (by decide) (by decide +kernel))⟩,
  List.forall_mem_cons.mpr ⟨⟨mo_newa _ _ _, Or.inl (ok_newi (am_in1 54 rfl rfl) (by decide +kernel))⟩,
  List.forall_mem_cons.mpr ⟨⟨mo_pr _ _ _ _, Or.inl (ok_prF (C := RX11) (T := TX11) (N := 93) (ci := 11) (k := 19) rfl inX11 (by decide) fl_X11_90 (by decide +kernel) tyX11 tyX11_ok nmX11 (by decide +kernel) rfl rfl (ty := .array .int) (by decide +kernel) (fun _ => ⟨rfl, rfl⟩) (by decide +kernel))⟩,
  List.forall_mem_cons.mpr ⟨⟨mo_al _ _, Or.inl (ok_aload_n (k := 0) rfl (by decide +kernel))⟩,
  List.forall_mem_cons.mpr ⟨⟨mo_ic _ _, Or.inl (ok_iconst (n := (-1)) (v := (-1)) (by decide) (by decide +kernel))⟩,
  List.forall_mem_cons.mpr ⟨⟨mo_pi _ _ _ _, Or.inl (ok_pi (ty := .int) (C := RX11) (T := TX11) (N := 93) (ci := 11) (k := 22) rfl inX11 (by decide) fl_X11_134 (by decide +kernel) tyX11 tyX11_ok nmX11 (by decide +kernel) (by decide +kernel) (by decide +kernel))⟩,
  fun _ h => absurd h List.not_mem_nil⟩⟩⟩⟩⟩⟩⟩⟩⟩⟩⟩⟩⟩⟩⟩⟩⟩⟩⟩⟩
def t_X11_init_3 : List (Nat × am_F) := [(120, im_al 0 121), (121, im_ic 28 123), (123, im_newa q_SH .long 125), (125, im_pr q_SH 11 31 128), (128, im_al 0 129), (129, im_ic 12 131), (131, im_newa q_SH .int 133), (133, im_pr q_SH 11 36 136), (136, im_al 0 137), (137, im_ic 12 139), (139, im_newa q_SH .int 141), (141, im_pr q_SH 11 37 144), (144, im_al 0 145), (145, im_ic 12 147), (147, im_newa q_SH .int 149), (149, im_pr q_SH 11 38 152), (152, im_al 0 153), (153, im_ic 12 155), (155, im_newa q_SH .int 157), (157, im_pr q_SH 11 39 160)]
set_option maxRecDepth 20000 in
theorem o_X11_init_3 : ∀ q ∈ t_X11_init_3, am_ok vwCl q_SH ξ (q_E ξ β xs L) q_EN q_KD q_ML (cX11_init, 1, RX11, "<init>", none, []) q.1 q.2 :=
  List.forall_mem_cons.mpr ⟨⟨mo_al _ _, Or.inl (ok_aload_n (k := 0) rfl (by decide +kernel))⟩,
  List.forall_mem_cons.mpr ⟨⟨mo_ic _ _, Or.inl (ok_bipush (n := 28) (v := 28) (by decide) (by decide +kernel))⟩,
  List.forall_mem_cons.mpr ⟨⟨mo_newa _ _ _, Or.inl (ok_newl (am_in7 26 rfl rfl) (by decide +kernel))⟩,
  List.forall_mem_cons.mpr ⟨⟨mo_pr _ _ _ _, Or.inl (ok_prF (C := RX11) (T := TX11) (N := 93) (ci := 11) (k := 31) rfl inX11 (by decide) fl_X11_137 (by decide +kernel) tyX11 tyX11_ok nmX11 (by decide +kernel) rfl rfl (ty := .array .long) (by decide +kernel) (fun _ => ⟨rfl, rfl⟩) (by decide +kernel))⟩,
  List.forall_mem_cons.mpr ⟨⟨mo_al _ _, Or.inl (ok_aload_n (k := 0) rfl (by decide +kernel))⟩,
  List.forall_mem_cons.mpr ⟨⟨mo_ic _ _, Or.inl (ok_bipush (n := 12) (v := 12) (by decide) (by decide +kernel))⟩,
  List.forall_mem_cons.mpr ⟨⟨mo_newa _ _ _, Or.inl (ok_newi (am_in1 54 rfl rfl) (by decide +kernel))⟩,
  List.forall_mem_cons.mpr ⟨⟨mo_pr _ _ _ _, Or.inl (ok_prF (C := RX11) (T := TX11) (N := 93) (ci := 11) (k := 36) rfl inX11 (by decide) fl_X11_141 (by decide +kernel) tyX11 tyX11_ok nmX11 (by decide +kernel) rfl rfl (ty := .array .int) (by decide +kernel) (fun _ => ⟨rfl, rfl⟩) (by decide +kernel))⟩,
  List.forall_mem_cons.mpr ⟨⟨mo_al _ _, Or.inl (ok_aload_n (k := 0) rfl (by decide +kernel))⟩,
  List.forall_mem_cons.mpr ⟨⟨mo_ic _ _, Or.inl (ok_bipush (n := 12) (v := 12) (by decide) (by decide +kernel))⟩,
  List.forall_mem_cons.mpr ⟨⟨mo_newa _ _ _, Or.inl (ok_newi (am_in1 54 rfl rfl) (by decide +kernel))⟩,
  List.forall_mem_cons.mpr ⟨⟨mo_pr _ _ _ _, Or.inl (ok_prF (C := RX11) (T := TX11) (N := 93) (ci := 11) (k := 37) rfl inX11 (by decide) fl_X11_144 (by decide +kernel) tyX11 tyX11_ok nmX11 (by decide +kernel) rfl rfl (ty := .array .int) (by decide +kernel) (fun _ => ⟨rfl, rfl⟩) (by decide +kernel))⟩,
  List.forall_mem_cons.mpr ⟨⟨mo_al _ _, Or.inl (ok_aload_n (k := 0) rfl (by decide +kernel))⟩,
  List.forall_mem_cons.mpr ⟨⟨mo_ic _ _, Or.inl (ok_bipush (n := 12) (v := 12) (by decide) (by decide +kernel))⟩,
  List.forall_mem_cons.mpr ⟨⟨mo_newa _ _ _, Or.inl (ok_newi (am_in1 54 rfl rfl) (by decide +kernel))⟩,
  List.forall_mem_cons.mpr ⟨⟨mo_pr _ _ _ _, Or.inl (ok_prF (C := RX11) (T := TX11) (N := 93) (ci := 11) (k := 38) rfl inX11 (by decide) fl_X11_147 (by decide +kernel) tyX11 tyX11_ok nmX11 (by decide +kernel) rfl rfl (ty := .array .int) (by decide +kernel) (fun _ => ⟨rfl, rfl⟩) (by decide +kernel))⟩,
  List.forall_mem_cons.mpr ⟨⟨mo_al _ _, Or.inl (ok_aload_n (k := 0) rfl (by decide +kernel))⟩,
  List.forall_mem_cons.mpr ⟨⟨mo_ic _ _, Or.inl (ok_bipush (n := 12) (v := 12) (by decide) (by decide +kernel))⟩,
  List.forall_mem_cons.mpr ⟨⟨mo_newa _ _ _, Or.inl (ok_newi (am_in1 54 rfl rfl) (by decide +kernel))⟩,
  List.forall_mem_cons.mpr ⟨⟨mo_pr _ _ _ _, Or.inl (ok_prF (C := RX11) (T := TX11) (N := 93) (ci := 11) (k := 39) rfl inX11 (by decide) fl_X11_150 (by decide +kernel) tyX11 tyX11_ok nmX11 (by decide +kernel) rfl rfl (ty := .array .int) (by decide +kernel) (fun _ => ⟨rfl, rfl⟩) (by decide +kernel))⟩,
  fun _ h => absurd h List.not_mem_nil⟩⟩⟩⟩⟩⟩⟩⟩⟩⟩⟩⟩⟩⟩⟩⟩⟩⟩⟩⟩
def t_X11_init_4 : List (Nat × am_F) := [(160, im_al 0 161), (161, im_ic 12 163), (163, im_newa q_SH .int 165), (165, im_pr q_SH 11 40 168), (168, im_al 0 169), (169, im_ic 12 171), (171, im_newa q_SH .int 173), (173, im_pr q_SH 11 41 176), (176, im_al 0 177), (177, im_ic 12 179), (179, im_newa q_SH .int 181), (181, im_pr q_SH 11 42 184), (184, im_al 0 185), (185, im_ic 144 188), (188, im_newa q_SH .int 190), (190, im_pr q_SH 11 43 193), (193, im_al 0 194), (194, im_ic 144 197), (197, im_newa q_SH .int 199), (199, im_pr q_SH 11 44 202)]
set_option maxRecDepth 20000 in
theorem o_X11_init_4 : ∀ q ∈ t_X11_init_4, am_ok vwCl q_SH ξ (q_E ξ β xs L) q_EN q_KD q_ML (cX11_init, 1, RX11, "<init>", none, []) q.1 q.2 :=
  List.forall_mem_cons.mpr ⟨⟨mo_al _ _, Or.inl (ok_aload_n (k := 0) rfl (by decide +kernel))⟩,
  List.forall_mem_cons.mpr ⟨⟨mo_ic _ _, Or.inl (ok_bipush (n := 12) (v := 12) (by decide) (by decide +kernel))⟩,
  List.forall_mem_cons.mpr ⟨⟨mo_newa _ _ _, Or.inl (ok_newi (am_in1 54 rfl rfl) (by decide +kernel))⟩,
  List.forall_mem_cons.mpr ⟨⟨mo_pr _ _ _ _, Or.inl (ok_prF (C := RX11) (T := TX11) (N := 93) (ci := 11) (k := 40) rfl inX11 (by decide) fl_X11_80 (by decide +kernel) tyX11 tyX11_ok nmX11 (by decide +kernel) rfl rfl (ty := .array .int) (by decide +kernel) (fun _ => ⟨rfl, rfl⟩) (by decide +kernel))⟩,
  List.forall_mem_cons.mpr ⟨⟨mo_al _ _, Or.inl (ok_aload_n (k := 0) rfl (by decide +kernel))⟩,
  List.forall_mem_cons.mpr ⟨⟨mo_ic _ _, Or.inl (ok_bipush (n := 12) (v := 12) (by decide) (by decide +kernel))⟩,
  List.forall_mem_cons.mpr ⟨⟨mo_newa _ _ _, Or.inl (ok_newi (am_in1 54 rfl rfl) (by decide +kernel))⟩,
  List.forall_mem_cons.mpr ⟨⟨mo_pr _ _ _ _, Or.inl (ok_prF (C := RX11) (T := TX11) (N := 93) (ci := 11) (k := 41) rfl inX11 (by decide) fl_X11_153 (by decide +kernel) tyX11 tyX11_ok nmX11 (by decide +kernel) rfl rfl (ty := .array .int) (by decide +kernel) (fun _ => ⟨rfl, rfl⟩) (by decide +kernel))⟩,
  List.forall_mem_cons.mpr ⟨⟨mo_al _ _, Or.inl (ok_aload_n (k := 0) rfl (by decide +kernel))⟩,
  List.forall_mem_cons.mpr ⟨⟨mo_ic _ _, Or.inl (ok_bipush (n := 12) (v := 12) (by decide) (by decide +kernel))⟩,
  List.forall_mem_cons.mpr ⟨⟨mo_newa _ _ _, Or.inl (ok_newi (am_in1 54 rfl rfl) (by decide +kernel))⟩,
  List.forall_mem_cons.mpr ⟨⟨mo_pr _ _ _ _, Or.inl (ok_prF (C := RX11) (T := TX11) (N := 93) (ci := 11) (k := 42) rfl inX11 (by decide) fl_X11_156 (by decide +kernel) tyX11 tyX11_ok nmX11 (by decide +kernel) rfl rfl (ty := .array .int) (by decide +kernel) (fun _ => ⟨rfl, rfl⟩) (by decide +kernel))⟩,
  List.forall_mem_cons.mpr ⟨⟨mo_al _ _, Or.inl (ok_aload_n (k := 0) rfl (by decide +kernel))⟩,
  List.forall_mem_cons.mpr ⟨⟨mo_ic _ _, Or.inl (ok_sipush (n := 144) (v := 144) (by decide) (by decide +kernel))⟩,
  List.forall_mem_cons.mpr ⟨⟨mo_newa _ _ _, Or.inl (ok_newi (am_in1 54 rfl rfl) (by decide +kernel))⟩,
  List.forall_mem_cons.mpr ⟨⟨mo_pr _ _ _ _, Or.inl (ok_prF (C := RX11) (T := TX11) (N := 93) (ci := 11) (k := 43) rfl inX11 (by decide) fl_X11_159 (by decide +kernel) tyX11 tyX11_ok nmX11 (by decide +kernel) rfl rfl (ty := .array .int) (by decide +kernel) (fun _ => ⟨rfl, rfl⟩) (by decide +kernel))⟩,
  List.forall_mem_cons.mpr ⟨⟨mo_al _ _, Or.inl (ok_aload_n (k := 0) rfl (by decide +kernel))⟩,
  List.forall_mem_cons.mpr ⟨⟨mo_ic _ _, Or.inl (ok_sipush (n := 144) (v := 144) (by decide) (by decide +kernel))⟩,
  List.forall_mem_cons.mpr ⟨⟨mo_newa _ _ _, Or.inl (ok_newi (am_in1 54 rfl rfl) (by decide +kernel))⟩,
  List.forall_mem_cons.mpr ⟨⟨mo_pr _ _ _ _, Or.inl (ok_prF (C := RX11) (T := TX11) (N := 93) (ci := 11) (k := 44) rfl inX11 (by decide) fl_X11_162 (by decide +kernel) tyX11 tyX11_ok nmX11 (by decide +kernel) rfl rfl (ty := .array .int) (by decide +kernel) (fun _ => ⟨rfl, rfl⟩) (by decide +kernel))⟩,
  fun _ h => absurd h List.not_mem_nil⟩⟩⟩⟩⟩⟩⟩⟩⟩⟩⟩⟩⟩⟩⟩⟩⟩⟩⟩⟩
def t_X11_init_5 : List (Nat × am_F) := [(202, im_al 0 203), (203, im_ic 144 206), (206, im_newa q_SH .int 208), (208, im_pr q_SH 11 45 211), (211, im_al 0 212), (212, im_ic 144 215), (215, im_newa q_SH .int 217), (217, im_pr q_SH 11 46 220), (220, im_al 0 221), (221, im_ic 144 224), (224, im_newa q_SH .int 226), (226, im_pr q_SH 11 47 229), (229, im_al 0 230), (230, im_ic 14600 233), (233, im_newa q_SH .int 235), (235, im_pr q_SH 11 48 238), (238, im_al 0 239), (239, im_ic 520 242), (242, im_newa q_SH .int 244), (244, im_pr q_SH 11 49 247)]
set_option maxRecDepth 20000 in
theorem o_X11_init_5 : ∀ q ∈ t_X11_init_5, am_ok vwCl q_SH ξ (q_E ξ β xs L) q_EN q_KD q_ML (cX11_init, 1, RX11, "<init>", none, []) q.1 q.2 :=
  List.forall_mem_cons.mpr ⟨⟨mo_al _ _, Or.inl (ok_aload_n (k := 0) rfl (by decide +kernel))⟩,
  List.forall_mem_cons.mpr ⟨⟨mo_ic _ _, Or.inl (ok_sipush (n := 144) (v := 144) (by decide) (by decide +kernel))⟩,
  List.forall_mem_cons.mpr ⟨⟨mo_newa _ _ _, Or.inl (ok_newi (am_in1 54 rfl rfl) (by decide +kernel))⟩,
  List.forall_mem_cons.mpr ⟨⟨mo_pr _ _ _ _, Or.inl (ok_prF (C := RX11) (T := TX11) (N := 93) (ci := 11) (k := 45) rfl inX11 (by decide) fl_X11_165 (by decide +kernel) tyX11 tyX11_ok nmX11 (by decide +kernel) rfl rfl (ty := .array .int) (by decide +kernel) (fun _ => ⟨rfl, rfl⟩) (by decide +kernel))⟩,
  List.forall_mem_cons.mpr ⟨⟨mo_al _ _, Or.inl (ok_aload_n (k := 0) rfl (by decide +kernel))⟩,
  List.forall_mem_cons.mpr ⟨⟨mo_ic _ _, Or.inl (ok_sipush (n := 144) (v := 144) (by decide) (by decide +kernel))⟩,
  List.forall_mem_cons.mpr ⟨⟨mo_newa _ _ _, Or.inl (ok_newi (am_in1 54 rfl rfl) (by decide +kernel))⟩,
  List.forall_mem_cons.mpr ⟨⟨mo_pr _ _ _ _, Or.inl (ok_prF (C := RX11) (T := TX11) (N := 93) (ci := 11) (k := 46) rfl inX11 (by decide) fl_X11_168 (by decide +kernel) tyX11 tyX11_ok nmX11 (by decide +kernel) rfl rfl (ty := .array .int) (by decide +kernel) (fun _ => ⟨rfl, rfl⟩) (by decide +kernel))⟩,
  List.forall_mem_cons.mpr ⟨⟨mo_al _ _, Or.inl (ok_aload_n (k := 0) rfl (by decide +kernel))⟩,
  List.forall_mem_cons.mpr ⟨⟨mo_ic _ _, Or.inl (ok_sipush (n := 144) (v := 144) (by decide) (by decide +kernel))⟩,
  List.forall_mem_cons.mpr ⟨⟨mo_newa _ _ _, Or.inl (ok_newi (am_in1 54 rfl rfl) (by decide +kernel))⟩,
  List.forall_mem_cons.mpr ⟨⟨mo_pr _ _ _ _, Or.inl (ok_prF (C := RX11) (T := TX11) (N := 93) (ci := 11) (k := 47) rfl inX11 (by decide) fl_X11_171 (by decide +kernel) tyX11 tyX11_ok nmX11 (by decide +kernel) rfl rfl (ty := .array .int) (by decide +kernel) (fun _ => ⟨rfl, rfl⟩) (by decide +kernel))⟩,
  List.forall_mem_cons.mpr ⟨⟨mo_al _ _, Or.inl (ok_aload_n (k := 0) rfl (by decide +kernel))⟩,
  List.forall_mem_cons.mpr ⟨⟨mo_ic _ _, Or.inl (ok_sipush (n := 14600) (v := 14600) (by decide) (by decide +kernel))⟩,
  List.forall_mem_cons.mpr ⟨⟨mo_newa _ _ _, Or.inl (ok_newi (am_in1 54 rfl rfl) (by decide +kernel))⟩,
  List.forall_mem_cons.mpr ⟨⟨mo_pr _ _ _ _, Or.inl (ok_prF (C := RX11) (T := TX11) (N := 93) (ci := 11) (k := 48) rfl inX11 (by decide) fl_X11_174 (by decide +kernel) tyX11 tyX11_ok nmX11 (by decide +kernel) rfl rfl (ty := .array .int) (by decide +kernel) (fun _ => ⟨rfl, rfl⟩) (by decide +kernel))⟩,
  List.forall_mem_cons.mpr ⟨⟨mo_al _ _, Or.inl (ok_aload_n (k := 0) rfl (by decide +kernel))⟩,
  List.forall_mem_cons.mpr ⟨⟨mo_ic _ _, Or.inl (ok_sipush (n := 520) (v := 520) (by decide) (by decide +kernel))⟩,
  List.forall_mem_cons.mpr ⟨⟨mo_newa _ _ _, Or.inl (ok_newi (am_in1 54 rfl rfl) (by decide +kernel))⟩,
  List.forall_mem_cons.mpr ⟨⟨mo_pr _ _ _ _, Or.inl (ok_prF (C := RX11) (T := TX11) (N := 93) (ci := 11) (k := 49) rfl inX11 (by decide) fl_X11_177 (by decide +kernel) tyX11 tyX11_ok nmX11 (by decide +kernel) rfl rfl (ty := .array .int) (by decide +kernel) (fun _ => ⟨rfl, rfl⟩) (by decide +kernel))⟩,
  fun _ h => absurd h List.not_mem_nil⟩⟩⟩⟩⟩⟩⟩⟩⟩⟩⟩⟩⟩⟩⟩⟩⟩⟩⟩⟩
def t_X11_init_6 : List (Nat × am_F) := [(247, im_al 0 248), (248, im_ic 9 250), (250, im_newa q_SH .boolean 252), (252, im_pr q_SH 11 50 255), (255, im_al 0 256), (256, im_ic 3 257), (257, im_newa q_SH .int 259), (259, im_pr q_SH 11 53 262), (262, im_al 0 263), (263, im_ic 100 265), (265, im_newa q_SH .int 267), (267, im_pr q_SH 11 54 270), (270, im_al 0 271), (271, im_ic 20 273), (273, im_newa q_SH .int 275), (275, im_pr q_SH 11 55 278), (278, im_al 0 279), (279, im_ic 20 281), (281, im_newa q_SH .int 283), (283, im_pr q_SH 11 56 286)]
set_option maxRecDepth 20000 in
theorem o_X11_init_6 : ∀ q ∈ t_X11_init_6, am_ok vwCl q_SH ξ (q_E ξ β xs L) q_EN q_KD q_ML (cX11_init, 1, RX11, "<init>", none, []) q.1 q.2 :=
  List.forall_mem_cons.mpr ⟨⟨mo_al _ _, Or.inl (ok_aload_n (k := 0) rfl (by decide +kernel))⟩,
  List.forall_mem_cons.mpr ⟨⟨mo_ic _ _, Or.inl (ok_bipush (n := 9) (v := 9) (by decide) (by decide +kernel))⟩,
  List.forall_mem_cons.mpr ⟨⟨mo_newa _ _ _, Or.inl (ok_newz (am_in7 27 rfl rfl) (by decide +kernel))⟩,
  List.forall_mem_cons.mpr ⟨⟨mo_pr _ _ _ _, Or.inl (ok_prF (C := RX11) (T := TX11) (N := 93) (ci := 11) (k := 50) rfl inX11 (by decide) fl_X11_180 (by decide +kernel) tyX11 tyX11_ok nmX11 (by decide +kernel) rfl rfl (ty := .array .boolean) (by decide +kernel) (fun _ => ⟨rfl, rfl⟩) (by decide +kernel))⟩,
  List.forall_mem_cons.mpr ⟨⟨mo_al _ _, Or.inl (ok_aload_n (k := 0) rfl (by decide +kernel))⟩,
  List.forall_mem_cons.mpr ⟨⟨mo_ic _ _, Or.inl (ok_iconst (n := 3) (v := 3) (by decide) (by decide +kernel))⟩,
  List.forall_mem_cons.mpr ⟨⟨mo_newa _ _ _, Or.inl (ok_newi (am_in1 54 rfl rfl) (by decide +kernel))⟩,
  List.forall_mem_cons.mpr ⟨⟨mo_pr _ _ _ _, Or.inl (ok_prF (C := RX11) (T := TX11) (N := 93) (ci := 11) (k := 53) rfl inX11 (by decide) fl_X11_184 (by decide +kernel) tyX11 tyX11_ok nmX11 (by decide +kernel) rfl rfl (ty := .array .int) (by decide +kernel) (fun _ => ⟨rfl, rfl⟩) (by decide +kernel))⟩,
  List.forall_mem_cons.mpr ⟨⟨mo_al _ _, Or.inl (ok_aload_n (k := 0) rfl (by decide +kernel))⟩,
  List.forall_mem_cons.mpr ⟨⟨mo_ic _ _, Or.inl (ok_bipush (n := 100) (v := 100) (by decide) (by decide +kernel))⟩,
  List.forall_mem_cons.mpr ⟨⟨mo_newa _ _ _, Or.inl (ok_newi (am_in1 54 rfl rfl) (by decide +kernel))⟩,
  List.forall_mem_cons.mpr ⟨⟨mo_pr _ _ _ _, Or.inl (ok_prF (C := RX11) (T := TX11) (N := 93) (ci := 11) (k := 54) rfl inX11 (by decide) fl_X11_187 (by decide +kernel) tyX11 tyX11_ok nmX11 (by decide +kernel) rfl rfl (ty := .array .int) (by decide +kernel) (fun _ => ⟨rfl, rfl⟩) (by decide +kernel))⟩,
  List.forall_mem_cons.mpr ⟨⟨mo_al _ _, Or.inl (ok_aload_n (k := 0) rfl (by decide +kernel))⟩,
  List.forall_mem_cons.mpr ⟨⟨mo_ic _ _, Or.inl (ok_bipush (n := 20) (v := 20) (by decide) (by decide +kernel))⟩,
  List.forall_mem_cons.mpr ⟨⟨mo_newa _ _ _, Or.inl (ok_newi (am_in1 54 rfl rfl) (by decide +kernel))⟩,
  List.forall_mem_cons.mpr ⟨⟨mo_pr _ _ _ _, Or.inl (ok_prF (C := RX11) (T := TX11) (N := 93) (ci := 11) (k := 55) rfl inX11 (by decide) fl_X11_190 (by decide +kernel) tyX11 tyX11_ok nmX11 (by decide +kernel) rfl rfl (ty := .array .int) (by decide +kernel) (fun _ => ⟨rfl, rfl⟩) (by decide +kernel))⟩,
  List.forall_mem_cons.mpr ⟨⟨mo_al _ _, Or.inl (ok_aload_n (k := 0) rfl (by decide +kernel))⟩,
  List.forall_mem_cons.mpr ⟨⟨mo_ic _ _, Or.inl (ok_bipush (n := 20) (v := 20) (by decide) (by decide +kernel))⟩,
  List.forall_mem_cons.mpr ⟨⟨mo_newa _ _ _, Or.inl (ok_newi (am_in1 54 rfl rfl) (by decide +kernel))⟩,
  List.forall_mem_cons.mpr ⟨⟨mo_pr _ _ _ _, Or.inl (ok_prF (C := RX11) (T := TX11) (N := 93) (ci := 11) (k := 56) rfl inX11 (by decide) fl_X11_193 (by decide +kernel) tyX11 tyX11_ok nmX11 (by decide +kernel) rfl rfl (ty := .array .int) (by decide +kernel) (fun _ => ⟨rfl, rfl⟩) (by decide +kernel))⟩,
  fun _ h => absurd h List.not_mem_nil⟩⟩⟩⟩⟩⟩⟩⟩⟩⟩⟩⟩⟩⟩⟩⟩⟩⟩⟩⟩
def t_X11_init_7 : List (Nat × am_F) := [(286, im_al 0 287), (287, im_ic 20 289), (289, im_newa q_SH .int 291), (291, im_pr q_SH 11 57 294), (294, im_al 0 295), (295, im_ic 20 297), (297, im_newa q_SH .int 299), (299, im_pr q_SH 11 58 302), (302, im_al 0 303), (303, im_ic 20 305), (305, im_newa q_SH .int 307), (307, im_pr q_SH 11 59 310), (310, im_al 0 311), (311, im_ic 20 313), (313, im_newa q_SH .int 315), (315, im_pr q_SH 11 60 318), (318, im_al 0 319), (319, im_ic 12 321), (321, im_newa q_SH .int 323), (323, im_pr q_SH 11 61 326)]
set_option maxRecDepth 20000 in
theorem o_X11_init_7 : ∀ q ∈ t_X11_init_7, am_ok vwCl q_SH ξ (q_E ξ β xs L) q_EN q_KD q_ML (cX11_init, 1, RX11, "<init>", none, []) q.1 q.2 :=
  List.forall_mem_cons.mpr ⟨⟨mo_al _ _, Or.inl (ok_aload_n (k := 0) rfl (by decide +kernel))⟩,
  List.forall_mem_cons.mpr ⟨⟨mo_ic _ _, Or.inl (ok_bipush (n := 20) (v := 20) (by decide) (by decide +kernel))⟩,
  List.forall_mem_cons.mpr ⟨⟨mo_newa _ _ _, Or.inl (ok_newi (am_in1 54 rfl rfl) (by decide +kernel))⟩,
  List.forall_mem_cons.mpr ⟨⟨mo_pr _ _ _ _, Or.inl (ok_prF (C := RX11) (T := TX11) (N := 93) (ci := 11) (k := 57) rfl inX11 (by decide) fl_X11_196 (by decide +kernel) tyX11 tyX11_ok nmX11 (by decide +kernel) rfl rfl (ty := .array .int) (by decide +kernel) (fun _ => ⟨rfl, rfl⟩) (by decide +kernel))⟩,
  List.forall_mem_cons.mpr ⟨⟨mo_al _ _, Or.inl (ok_aload_n (k := 0) rfl (by decide +kernel))⟩,
  List.forall_mem_cons.mpr ⟨⟨mo_ic _ _, Or.inl (ok_bipush (n := 20) (v := 20) (by decide) (by decide +kernel))⟩,
  List.forall_mem_cons.mpr ⟨⟨mo_newa _ _ _, Or.inl (ok_newi (am_in1 54 rfl rfl) (by decide +kernel))⟩,
  List.forall_mem_cons.mpr ⟨⟨mo_pr _ _ _ _, Or.inl (ok_prF (C := RX11) (T := TX11) (N := 93) (ci := 11) (k := 58) rfl inX11 (by decide) fl_X11_199 (by decide +kernel) tyX11 tyX11_ok nmX11 (by decide +kernel) rfl rfl (ty := .array .int) (by decide +kernel) (fun _ => ⟨rfl, rfl⟩) (by decide +kernel))⟩,
  List.forall_mem_cons.mpr ⟨⟨mo_al _ _, Or.inl (ok_aload_n (k := 0) rfl (by decide +kernel))⟩,
  List.forall_mem_cons.mpr ⟨⟨mo_ic _ _, Or.inl (ok_bipush (n := 20) (v := 20) (by decide) (by decide +kernel))⟩,
  List.forall_mem_cons.mpr ⟨⟨mo_newa _ _ _, Or.inl (ok_newi (am_in1 54 rfl rfl) (by decide +kernel))⟩,
  List.forall_mem_cons.mpr ⟨⟨mo_pr _ _ _ _, Or.inl (ok_prF (C := RX11) (T := TX11) (N := 93) (ci := 11) (k := 59) rfl inX11 (by decide) fl_X11_202 (by decide +kernel) tyX11 tyX11_ok nmX11 (by decide +kernel) rfl rfl (ty := .array .int) (by decide +kernel) (fun _ => ⟨rfl, rfl⟩) (by decide +kernel))⟩,
  List.forall_mem_cons.mpr ⟨⟨mo_al _ _, Or.inl (ok_aload_n (k := 0) rfl (by decide +kernel))⟩,
  List.forall_mem_cons.mpr ⟨⟨mo_ic _ _, Or.inl (ok_bipush (n := 20) (v := 20) (by decide) (by decide +kernel))⟩,
  List.forall_mem_cons.mpr ⟨⟨mo_newa _ _ _, Or.inl (ok_newi (am_in1 54 rfl rfl) (by decide +kernel))⟩,
  List.forall_mem_cons.mpr ⟨⟨mo_pr _ _ _ _, Or.inl (ok_prF (C := RX11) (T := TX11) (N := 93) (ci := 11) (k := 60) rfl inX11 (by decide) fl_X11_205 (by decide +kernel) tyX11 tyX11_ok nmX11 (by decide +kernel) rfl rfl (ty := .array .int) (by decide +kernel) (fun _ => ⟨rfl, rfl⟩) (by decide +kernel))⟩,
  List.forall_mem_cons.mpr ⟨⟨mo_al _ _, Or.inl (ok_aload_n (k := 0) rfl (by decide +kernel))⟩,
  List.forall_mem_cons.mpr ⟨⟨mo_ic _ _, Or.inl (ok_bipush (n := 12) (v := 12) (by decide) (by decide +kernel))⟩,
  List.forall_mem_cons.mpr ⟨⟨mo_newa _ _ _, Or.inl (ok_newi (am_in1 54 rfl rfl) (by decide +kernel))⟩,
  List.forall_mem_cons.mpr ⟨⟨mo_pr _ _ _ _, Or.inl (ok_prF (C := RX11) (T := TX11) (N := 93) (ci := 11) (k := 61) rfl inX11 (by decide) fl_X11_208 (by decide +kernel) tyX11 tyX11_ok nmX11 (by decide +kernel) rfl rfl (ty := .array .int) (by decide +kernel) (fun _ => ⟨rfl, rfl⟩) (by decide +kernel))⟩,
  fun _ h => absurd h List.not_mem_nil⟩⟩⟩⟩⟩⟩⟩⟩⟩⟩⟩⟩⟩⟩⟩⟩⟩⟩⟩⟩
def t_X11_init_8 : List (Nat × am_F) := [(326, im_al 0 327), (327, im_ic 12 329), (329, im_newa q_SH .int 331), (331, im_pr q_SH 11 62 334), (334, im_al 0 335), (335, im_ic 100 337), (337, im_newa q_SH .int 339), (339, im_pr q_SH 11 63 342), (342, im_al 0 343), (343, im_ic 100 345), (345, im_newa q_SH .int 347), (347, im_pr q_SH 11 64 350), (350, im_al 0 351), (351, im_ic 100 353), (353, im_newa q_SH .int 355), (355, im_pr q_SH 11 65 358), (358, im_al 0 359), (359, im_ic 23000 362), (362, im_newa q_SH .int 364), (364, im_pr q_SH 11 67 367)]
set_option maxRecDepth 20000 in
theorem o_X11_init_8 : ∀ q ∈ t_X11_init_8, am_ok vwCl q_SH ξ (q_E ξ β xs L) q_EN q_KD q_ML (cX11_init, 1, RX11, "<init>", none, []) q.1 q.2 :=
  List.forall_mem_cons.mpr ⟨⟨mo_al _ _, Or.inl (ok_aload_n (k := 0) rfl (by decide +kernel))⟩,
  List.forall_mem_cons.mpr ⟨⟨mo_ic _ _, Or.inl (ok_bipush (n := 12) (v := 12) (by decide) (by decide +kernel))⟩,
  List.forall_mem_cons.mpr ⟨⟨mo_newa _ _ _, Or.inl (ok_newi (am_in1 54 rfl rfl) (by decide +kernel))⟩,
  List.forall_mem_cons.mpr ⟨⟨mo_pr _ _ _ _, Or.inl (ok_prF (C := RX11) (T := TX11) (N := 93) (ci := 11) (k := 62) rfl inX11 (by decide) fl_X11_211 (by decide +kernel) tyX11 tyX11_ok nmX11 (by decide +kernel) rfl rfl (ty := .array .int) (by decide +kernel) (fun _ => ⟨rfl, rfl⟩) (by decide +kernel))⟩,
  List.forall_mem_cons.mpr ⟨⟨mo_al _ _, Or.inl (ok_aload_n (k := 0) rfl (by decide +kernel))⟩,
  List.forall_mem_cons.mpr ⟨⟨mo_ic _ _, Or.inl (ok_bipush (n := 100) (v := 100) (by decide) (by decide +kernel))⟩,
  List.forall_mem_cons.mpr ⟨⟨mo_newa _ _ _, Or.inl (ok_newi (am_in1 54 rfl rfl) (by decide +kernel))⟩,
  List.forall_mem_cons.mpr ⟨⟨mo_pr _ _ _ _, Or.inl (ok_prF (C := RX11) (T := TX11) (N := 93) (ci := 11) (k := 63) rfl inX11 (by decide) fl_X11_214 (by decide +kernel) tyX11 tyX11_ok nmX11 (by decide +kernel) rfl rfl (ty := .array .int) (by decide +kernel) (fun _ => ⟨rfl, rfl⟩) (by decide +kernel))⟩,
  List.forall_mem_cons.mpr ⟨⟨mo_al _ _, Or.inl (ok_aload_n (k := 0) rfl (by decide +kernel))⟩,
  List.forall_mem_cons.mpr ⟨⟨mo_ic _ _, Or.inl (ok_bipush (n := 100) (v := 100) (by decide) (by decide +kernel))⟩,
  List.forall_mem_cons.mpr ⟨⟨mo_newa _ _ _, Or.inl (ok_newi (am_in1 54 rfl rfl) (by decide +kernel))⟩,
  List.forall_mem_cons.mpr ⟨⟨mo_pr _ _ _ _, Or.inl (ok_prF (C := RX11) (T := TX11) (N := 93) (ci := 11) (k := 64) rfl inX11 (by decide) fl_X11_217 (by decide +kernel) tyX11 tyX11_ok nmX11 (by decide +kernel) rfl rfl (ty := .array .int) (by decide +kernel) (fun _ => ⟨rfl, rfl⟩) (by decide +kernel))⟩,
  List.forall_mem_cons.mpr ⟨⟨mo_al _ _, Or.inl (ok_aload_n (k := 0) rfl (by decide +kernel))⟩,
  List.forall_mem_cons.mpr ⟨⟨mo_ic _ _, Or.inl (ok_bipush (n := 100) (v := 100) (by decide) (by decide +kernel))⟩,
  List.forall_mem_cons.mpr ⟨⟨mo_newa _ _ _, Or.inl (ok_newi (am_in1 54 rfl rfl) (by decide +kernel))⟩,
  List.forall_mem_cons.mpr ⟨⟨mo_pr _ _ _ _, Or.inl (ok_prF (C := RX11) (T := TX11) (N := 93) (ci := 11) (k := 65) rfl inX11 (by decide) fl_X11_220 (by decide +kernel) tyX11 tyX11_ok nmX11 (by decide +kernel) rfl rfl (ty := .array .int) (by decide +kernel) (fun _ => ⟨rfl, rfl⟩) (by decide +kernel))⟩,
  List.forall_mem_cons.mpr ⟨⟨mo_al _ _, Or.inl (ok_aload_n (k := 0) rfl (by decide +kernel))⟩,
  List.forall_mem_cons.mpr ⟨⟨mo_ic _ _, Or.inl (ok_sipush (n := 23000) (v := 23000) (by decide) (by decide +kernel))⟩,
  List.forall_mem_cons.mpr ⟨⟨mo_newa _ _ _, Or.inl (ok_newi (am_in1 54 rfl rfl) (by decide +kernel))⟩,
  List.forall_mem_cons.mpr ⟨⟨mo_pr _ _ _ _, Or.inl (ok_prF (C := RX11) (T := TX11) (N := 93) (ci := 11) (k := 67) rfl inX11 (by decide) fl_X11_223 (by decide +kernel) tyX11 tyX11_ok nmX11 (by decide +kernel) rfl rfl (ty := .array .int) (by decide +kernel) (fun _ => ⟨rfl, rfl⟩) (by decide +kernel))⟩,
  fun _ h => absurd h List.not_mem_nil⟩⟩⟩⟩⟩⟩⟩⟩⟩⟩⟩⟩⟩⟩⟩⟩⟩⟩⟩⟩
def t_X11_init_9 : List (Nat × am_F) := [(367, im_al 0 368), (368, im_ic 23000 371), (371, im_newa q_SH .int 373), (373, im_pr q_SH 11 68 376), (376, im_al 0 377), (377, im_ic 23000 380), (380, im_newa q_SH .int 382), (382, im_pr q_SH 11 69 385), (385, im_al 0 386), (386, im_ic 23000 389), (389, im_newa q_SH .int 391), (391, im_pr q_SH 11 70 394), (394, im_al 0 395), (395, im_ic 23000 398), (398, im_newa q_SH .int 400), (400, im_pr q_SH 11 71 403), (403, im_al 0 404), (404, im_ic 23000 407), (407, im_newa q_SH .boolean 409), (409, im_pr q_SH 11 72 412)]
set_option maxRecDepth 20000 in
theorem o_X11_init_9 : ∀ q ∈ t_X11_init_9, am_ok vwCl q_SH ξ (q_E ξ β xs L) q_EN q_KD q_ML (cX11_init, 1, RX11, "<init>", none, []) q.1 q.2 :=
  List.forall_mem_cons.mpr ⟨⟨mo_al _ _, Or.inl (ok_aload_n (k := 0) rfl (by decide +kernel))⟩,
  List.forall_mem_cons.mpr ⟨⟨mo_ic _ _, Or.inl (ok_sipush (n := 23000) (v := 23000) (by decide) (by decide +kernel))⟩,
  List.forall_mem_cons.mpr ⟨⟨mo_newa _ _ _, Or.inl (ok_newi (am_in1 54 rfl rfl) (by decide +kernel))⟩,
  List.forall_mem_cons.mpr ⟨⟨mo_pr _ _ _ _, Or.inl (ok_prF (C := RX11) (T := TX11) (N := 93) (ci := 11) (k := 68) rfl inX11 (by decide) fl_X11_226 (by decide +kernel) tyX11 tyX11_ok nmX11 (by decide +kernel) rfl rfl (ty := .array .int) (by decide +kernel) (fun _ => ⟨rfl, rfl⟩) (by decide +kernel))⟩,
  List.forall_mem_cons.mpr ⟨⟨mo_al _ _, Or.inl (ok_aload_n (k := 0) rfl (by decide +kernel))⟩,
  List.forall_mem_cons.mpr ⟨⟨mo_ic _ _, Or.inl (ok_sipush (n := 23000) (v := 23000) (by decide) (by decide +kernel))⟩,
  List.forall_mem_cons.mpr ⟨⟨mo_newa _ _ _, Or.inl (ok_newi (am_in1 54 rfl rfl) (by decide +kernel))⟩,
  List.forall_mem_cons.mpr ⟨⟨mo_pr _ _ _ _, Or.inl (ok_prF (C := RX11) (T := TX11) (N := 93) (ci := 11) (k := 69) rfl inX11 (by decide) fl_X11_229 (by decide +kernel) tyX11 tyX11_ok nmX11 (by decide +kernel) rfl rfl (ty := .array .int) (by decide +kernel) (fun _ => ⟨rfl, rfl⟩) (by decide +kernel))⟩,
  List.forall_mem_cons.mpr ⟨⟨mo_al _ _, Or.inl (ok_aload_n (k := 0) rfl (by decide +kernel))⟩,
  List.forall_mem_cons.mpr ⟨⟨mo_ic _ _, Or.inl (ok_sipush (n := 23000) (v := 23000) (by decide) (by decide +kernel))⟩,
  List.forall_mem_cons.mpr ⟨⟨mo_newa _ _ _, Or.inl (ok_newi (am_in1 54 rfl rfl) (by decide +kernel))⟩,
  List.forall_mem_cons.mpr ⟨⟨mo_pr _ _ _ _, Or.inl (ok_prF (C := RX11) (T := TX11) (N := 93) (ci := 11) (k := 70) rfl inX11 (by decide) fl_X11_232 (by decide +kernel) tyX11 tyX11_ok nmX11 (by decide +kernel) rfl rfl (ty := .array .int) (by decide +kernel) (fun _ => ⟨rfl, rfl⟩) (by decide +kernel))⟩,
  List.forall_mem_cons.mpr ⟨⟨mo_al _ _, Or.inl (ok_aload_n (k := 0) rfl (by decide +kernel))⟩,
  List.forall_mem_cons.mpr ⟨⟨mo_ic _ _, Or.inl (ok_sipush (n := 23000) (v := 23000) (by decide) (by decide +kernel))⟩,
  List.forall_mem_cons.mpr ⟨⟨mo_newa _ _ _, Or.inl (ok_newi (am_in1 54 rfl rfl) (by decide +kernel))⟩,
  List.forall_mem_cons.mpr ⟨⟨mo_pr _ _ _ _, Or.inl (ok_prF (C := RX11) (T := TX11) (N := 93) (ci := 11) (k := 71) rfl inX11 (by decide) fl_X11_235 (by decide +kernel) tyX11 tyX11_ok nmX11 (by decide +kernel) rfl rfl (ty := .array .int) (by decide +kernel) (fun _ => ⟨rfl, rfl⟩) (by decide +kernel))⟩,
  List.forall_mem_cons.mpr ⟨⟨mo_al _ _, Or.inl (ok_aload_n (k := 0) rfl (by decide +kernel))⟩,
  List.forall_mem_cons.mpr ⟨⟨mo_ic _ _, Or.inl (ok_sipush (n := 23000) (v := 23000) (by decide) (by decide +kernel))⟩,
  List.forall_mem_cons.mpr ⟨⟨mo_newa _ _ _, Or.inl (ok_newz (am_in7 27 rfl rfl) (by decide +kernel))⟩,
  List.forall_mem_cons.mpr ⟨⟨mo_pr _ _ _ _, Or.inl (ok_prF (C := RX11) (T := TX11) (N := 93) (ci := 11) (k := 72) rfl inX11 (by decide) fl_X11_238 (by decide +kernel) tyX11 tyX11_ok nmX11 (by decide +kernel) rfl rfl (ty := .array .boolean) (by decide +kernel) (fun _ => ⟨rfl, rfl⟩) (by decide +kernel))⟩,
  fun _ h => absurd h List.not_mem_nil⟩⟩⟩⟩⟩⟩⟩⟩⟩⟩⟩⟩⟩⟩⟩⟩⟩⟩⟩⟩
def t_X11_init_10 : List (Nat × am_F) := [(412, im_al 0 413), (413, im_ic 112 415), (415, im_newa q_SH .int 417), (417, im_pr q_SH 11 74 420), (420, im_al 0 421), (421, im_ic 112 423), (423, im_newa q_SH .int 425), (425, im_pr q_SH 11 75 428), (428, im_al 0 429), (429, im_ic 13 431), (431, im_newa q_SH .int 433), (433, im_pr q_SH 11 83 436), (436, im_al 0 437), (437, im_ic 520 440), (440, im_newa q_SH .int 442), (442, im_pr q_SH 11 84 445), (445, im_al 0 446), (446, im_ic 5 447), (447, im_newa q_SH .int 449), (449, im_pr q_SH 11 85 452)]
set_option maxRecDepth 20000 in
theorem o_X11_init_10 : ∀ q ∈ t_X11_init_10, am_ok vwCl q_SH ξ (q_E ξ β xs L) q_EN q_KD q_ML (cX11_init, 1, RX11, "<init>", none, []) q.1 q.2 :=
  List.forall_mem_cons.mpr ⟨⟨mo_al _ _, Or.inl (ok_aload_n (k := 0) rfl (by decide +kernel))⟩,
  List.forall_mem_cons.mpr ⟨⟨mo_ic _ _, Or.inl (ok_bipush (n := 112) (v := 112) (by decide) (by decide +kernel))⟩,
  List.forall_mem_cons.mpr ⟨⟨mo_newa _ _ _, Or.inl (ok_newi (am_in1 54 rfl rfl) (by decide +kernel))⟩,
  List.forall_mem_cons.mpr ⟨⟨mo_pr _ _ _ _, Or.inl (ok_prF (C := RX11) (T := TX11) (N := 93) (ci := 11) (k := 74) rfl inX11 (by decide) fl_X11_241 (by decide +kernel) tyX11 tyX11_ok nmX11 (by decide +kernel) rfl rfl (ty := .array .int) (by decide +kernel) (fun _ => ⟨rfl, rfl⟩) (by decide +kernel))⟩,
  List.forall_mem_cons.mpr ⟨⟨mo_al _ _, Or.inl (ok_aload_n (k := 0) rfl (by decide +kernel))⟩,
  List.forall_mem_cons.mpr ⟨⟨mo_ic _ _, Or.inl (ok_bipush (n := 112) (v := 112) (by decide) (by decide +kernel))⟩,
  List.forall_mem_cons.mpr ⟨⟨mo_newa _ _ _, Or.inl (ok_newi (am_in1 54 rfl rfl) (by decide +kernel))⟩,
  List.forall_mem_cons.mpr ⟨⟨mo_pr _ _ _ _, Or.inl (ok_prF (C := RX11) (T := TX11) (N := 93) (ci := 11) (k := 75) rfl inX11 (by decide) fl_X11_244 (by decide +kernel) tyX11 tyX11_ok nmX11 (by decide +kernel) rfl rfl (ty := .array .int) (by decide +kernel) (fun _ => ⟨rfl, rfl⟩) (by decide +kernel))⟩,
  List.forall_mem_cons.mpr ⟨⟨mo_al _ _, Or.inl (ok_aload_n (k := 0) rfl (by decide +kernel))⟩,
  List.forall_mem_cons.mpr ⟨⟨mo_ic _ _, Or.inl (ok_bipush (n := 13) (v := 13) (by decide) (by decide +kernel))⟩,
  List.forall_mem_cons.mpr ⟨⟨mo_newa _ _ _, Or.inl (ok_newi (am_in1 54 rfl rfl) (by decide +kernel))⟩,
  List.forall_mem_cons.mpr ⟨⟨mo_pr _ _ _ _, Or.inl (ok_prF (C := RX11) (T := TX11) (N := 93) (ci := 11) (k := 83) rfl inX11 (by decide) fl_X11_247 (by decide +kernel) tyX11 tyX11_ok nmX11 (by decide +kernel) rfl rfl (ty := .array .int) (by decide +kernel) (fun _ => ⟨rfl, rfl⟩) (by decide +kernel))⟩,
  List.forall_mem_cons.mpr ⟨⟨mo_al _ _, Or.inl (ok_aload_n (k := 0) rfl (by decide +kernel))⟩,
  List.forall_mem_cons.mpr ⟨⟨mo_ic _ _, Or.inl (ok_sipush (n := 520) (v := 520) (by decide) (by decide +kernel))⟩,
  List.forall_mem_cons.mpr ⟨⟨mo_newa _ _ _, Or.inl (ok_newi (am_in1 54 rfl rfl) (by decide +kernel))⟩,
  List.forall_mem_cons.mpr ⟨⟨mo_pr _ _ _ _, Or.inl (ok_prF (C := RX11) (T := TX11) (N := 93) (ci := 11) (k := 84) rfl inX11 (by decide) fl_X11_250 (by decide +kernel) tyX11 tyX11_ok nmX11 (by decide +kernel) rfl rfl (ty := .array .int) (by decide +kernel) (fun _ => ⟨rfl, rfl⟩) (by decide +kernel))⟩,
  List.forall_mem_cons.mpr ⟨⟨mo_al _ _, Or.inl (ok_aload_n (k := 0) rfl (by decide +kernel))⟩,
  List.forall_mem_cons.mpr ⟨⟨mo_ic _ _, Or.inl (ok_iconst (n := 5) (v := 5) (by decide) (by decide +kernel))⟩,
  List.forall_mem_cons.mpr ⟨⟨mo_newa _ _ _, Or.inl (ok_newi (am_in1 54 rfl rfl) (by decide +kernel))⟩,
  List.forall_mem_cons.mpr ⟨⟨mo_pr _ _ _ _, Or.inl (ok_prF (C := RX11) (T := TX11) (N := 93) (ci := 11) (k := 85) rfl inX11 (by decide) fl_X11_253 (by decide +kernel) tyX11 tyX11_ok nmX11 (by decide +kernel) rfl rfl (ty := .array .int) (by decide +kernel) (fun _ => ⟨rfl, rfl⟩) (by decide +kernel))⟩,
  fun _ h => absurd h List.not_mem_nil⟩⟩⟩⟩⟩⟩⟩⟩⟩⟩⟩⟩⟩⟩⟩⟩⟩⟩⟩⟩
def t_X11_init_11 : List (Nat × am_F) := [(452, im_al 0 453), (453, im_ic 5 454), (454, im_newa q_SH .int 456), (456, im_pr q_SH 11 86 459), (459, im_al 0 460), (460, im_ic 5 461), (461, im_newa q_SH .int 463), (463, im_pr q_SH 11 87 466), (466, im_al 0 467), (467, im_ic 540 470), (470, im_newa q_SH .int 472), (472, im_pr q_SH 11 91 475), (475, im_al 0 476), (476, im_ic 20 478), (478, im_newa q_SH .int 480), (480, im_pr q_SH 11 92 483), (483, im_al 0 484), (484, im_gr q_SH 11 31 487), (487, im_ic 0 488), (488, im_ic 103 490)]
set_option maxRecDepth 20000 in
theorem o_X11_init_11 : ∀ q ∈ t_X11_init_11, am_ok vwCl q_SH ξ (q_E ξ β xs L) q_EN q_KD q_ML (cX11_init, 1, RX11, "<init>", none, []) q.1 q.2 :=
  List.forall_mem_cons.mpr ⟨⟨mo_al _ _, Or.inl (ok_aload_n (k := 0) rfl (by decide +kernel))⟩,
  List.forall_mem_cons.mpr ⟨⟨mo_ic _ _, Or.inl (ok_iconst (n := 5) (v := 5) (by decide) (by decide +kernel))⟩,
  List.forall_mem_cons.mpr ⟨⟨mo_newa _ _ _, Or.inl (ok_newi (am_in1 54 rfl rfl) (by decide +kernel))⟩,
  List.forall_mem_cons.mpr ⟨⟨mo_pr _ _ _ _, Or.inl (ok_prF (C := RX11) (T := TX11) (N := 93) (ci := 11) (k := 86) rfl inX11 (by decide) fl_X11_256 (by decide +kernel) tyX11 tyX11_ok nmX11 (by decide +kernel) rfl rfl (ty := .array .int) (by decide +kernel) (fun _ => ⟨rfl, rfl⟩) (by decide +kernel))⟩,
  List.forall_mem_cons.mpr ⟨⟨mo_al _ _, Or.inl (ok_aload_n (k := 0) rfl (by decide +kernel))⟩,
  List.forall_mem_cons.mpr ⟨⟨mo_ic _ _, Or.inl (ok_iconst (n := 5) (v := 5) (by decide) (by decide +kernel))⟩,
  List.forall_mem_cons.mpr ⟨⟨mo_newa _ _ _, Or.inl (ok_newi (am_in1 54 rfl rfl) (by decide +kernel))⟩,
  List.forall_mem_cons.mpr ⟨⟨mo_pr _ _ _ _, Or.inl (ok_prF (C := RX11) (T := TX11) (N := 93) (ci := 11) (k := 87) rfl inX11 (by decide) fl_X11_259 (by decide +kernel) tyX11 tyX11_ok nmX11 (by decide +kernel) rfl rfl (ty := .array .int) (by decide +kernel) (fun _ => ⟨rfl, rfl⟩) (by decide +kernel))⟩,
  List.forall_mem_cons.mpr ⟨⟨mo_al _ _, Or.inl (ok_aload_n (k := 0) rfl (by decide +kernel))⟩,
  List.forall_mem_cons.mpr ⟨⟨mo_ic _ _, Or.inl (ok_sipush (n := 540) (v := 540) (by decide) (by decide +kernel))⟩,
  List.forall_mem_cons.mpr ⟨⟨mo_newa _ _ _, Or.inl (ok_newi (am_in1 54 rfl rfl) (by decide +kernel))⟩,
  List.forall_mem_cons.mpr ⟨⟨mo_pr _ _ _ _, Or.inl (ok_prF (C := RX11) (T := TX11) (N := 93) (ci := 11) (k := 91) rfl inX11 (by decide) fl_X11_262 (by decide +kernel) tyX11 tyX11_ok nmX11 (by decide +kernel) rfl rfl (ty := .array .int) (by decide +kernel) (fun _ => ⟨rfl, rfl⟩) (by decide +kernel))⟩,
  List.forall_mem_cons.mpr ⟨⟨mo_al _ _, Or.inl (ok_aload_n (k := 0) rfl (by decide +kernel))⟩,
  List.forall_mem_cons.mpr ⟨⟨mo_ic _ _, Or.inl (ok_bipush (n := 20) (v := 20) (by decide) (by decide +kernel))⟩,
  List.forall_mem_cons.mpr ⟨⟨mo_newa _ _ _, Or.inl (ok_newi (am_in1 54 rfl rfl) (by decide +kernel))⟩,
  List.forall_mem_cons.mpr ⟨⟨mo_pr _ _ _ _, Or.inl (ok_prF (C := RX11) (T := TX11) (N := 93) (ci := 11) (k := 92) rfl inX11 (by decide) fl_X11_265 (by decide +kernel) tyX11 tyX11_ok nmX11 (by decide +kernel) rfl rfl (ty := .array .int) (by decide +kernel) (fun _ => ⟨rfl, rfl⟩) (by decide +kernel))⟩,
  List.forall_mem_cons.mpr ⟨⟨mo_al _ _, Or.inl (ok_aload_n (k := 0) rfl (by decide +kernel))⟩,
  List.forall_mem_cons.mpr ⟨⟨mo_gr _ _ _ _, Or.inl (ok_gr (C := RX11) (T := TX11) (N := 93) (ci := 11) (k := 31) rfl inX11 (by decide) fl_X11_137 (by decide +kernel) (by decide +kernel))⟩,
  List.forall_mem_cons.mpr ⟨⟨mo_ic _ _, Or.inl (ok_iconst (n := 0) (v := 0) (by decide) (by decide +kernel))⟩,
  List.forall_mem_cons.mpr ⟨⟨mo_ic _ _, Or.inl (ok_bipush (n := 103) (v := 103) (by decide) (by decide +kernel))⟩,
  fun _ h => absurd h List.not_mem_nil⟩⟩⟩⟩⟩⟩⟩⟩⟩⟩⟩⟩⟩⟩⟩⟩⟩⟩⟩⟩
def t_X11_init_12 : List (Nat × am_F) := [(490, im_ic 97 492), (492, im_ic 105 494), (494, im_ic 110 496), (496, im_ic 0 497), (497, im_ic 0 498), (498, im_invs 120 6 501), (501, im_last q_SH 502), (502, im_al 0 503), (503, im_gr q_SH 11 31 506), (506, im_ic 1 507), (507, im_ic 108 509), (509, im_ic 111 511), (511, im_ic 115 513), (513, im_ic 101 515), (515, im_ic 0 516), (516, im_ic 0 517), (517, im_invs 120 6 520), (520, im_last q_SH 521), (521, im_al 0 522), (522, im_gr q_SH 11 31 525)]
set_option maxRecDepth 20000 in
theorem o_X11_init_12 : ∀ q ∈ t_X11_init_12, am_ok vwCl q_SH ξ (q_E ξ β xs L) q_EN q_KD q_ML (cX11_init, 1, RX11, "<init>", none, []) q.1 q.2 :=
  List.forall_mem_cons.mpr ⟨⟨mo_ic _ _, Or.inl (ok_bipush (n := 97) (v := 97) (by decide) (by decide +kernel))⟩,
  List.forall_mem_cons.mpr ⟨⟨mo_ic _ _, Or.inl (ok_bipush (n := 105) (v := 105) (by decide) (by decide +kernel))⟩,
  List.forall_mem_cons.mpr ⟨⟨mo_ic _ _, Or.inl (ok_bipush (n := 110) (v := 110) (by decide) (by decide +kernel))⟩,
  List.forall_mem_cons.mpr ⟨⟨mo_ic _ _, Or.inl (ok_iconst (n := 0) (v := 0) (by decide) (by decide +kernel))⟩,
  List.forall_mem_cons.mpr ⟨⟨mo_ic _ _, Or.inl (ok_iconst (n := 0) (v := 0) (by decide) (by decide +kernel))⟩,
  List.forall_mem_cons.mpr ⟨⟨mo_invs _ _ _, Or.inr (Or.inl (ok_invs cw_X11_spelled (by decide) (by decide) ml_X11_268 cs_X11_spelled (show Cond.initialized (yX11_spelled).cls ∈ am_ts from ci9_RX11) ⟨by decide +kernel, by decide +kernel, by decide +kernel⟩ rfl (by decide +kernel)))⟩,
  List.forall_mem_cons.mpr ⟨⟨mo_last _ _, Or.inl (ok_last (by decide +kernel))⟩,
  List.forall_mem_cons.mpr ⟨⟨mo_al _ _, Or.inl (ok_aload_n (k := 0) rfl (by decide +kernel))⟩,
  List.forall_mem_cons.mpr ⟨⟨mo_gr _ _ _ _, Or.inl (ok_gr (C := RX11) (T := TX11) (N := 93) (ci := 11) (k := 31) rfl inX11 (by decide) fl_X11_137 (by decide +kernel) (by decide +kernel))⟩,
  List.forall_mem_cons.mpr ⟨⟨mo_ic _ _, Or.inl (ok_iconst (n := 1) (v := 1) (by decide) (by decide +kernel))⟩,
  List.forall_mem_cons.mpr ⟨⟨mo_ic _ _, Or.inl (ok_bipush (n := 108) (v := 108) (by decide) (by decide +kernel))⟩,
  List.forall_mem_cons.mpr ⟨⟨mo_ic _ _, Or.inl (ok_bipush (n := 111) (v := 111) (by decide) (by decide +kernel))⟩,
  List.forall_mem_cons.mpr ⟨⟨mo_ic _ _, Or.inl (ok_bipush (n := 115) (v := 115) (by decide) (by decide +kernel))⟩,
  List.forall_mem_cons.mpr ⟨⟨mo_ic _ _, Or.inl (ok_bipush (n := 101) (v := 101) (by decide) (by decide +kernel))⟩,
  List.forall_mem_cons.mpr ⟨⟨mo_ic _ _, Or.inl (ok_iconst (n := 0) (v := 0) (by decide) (by decide +kernel))⟩,
  List.forall_mem_cons.mpr ⟨⟨mo_ic _ _, Or.inl (ok_iconst (n := 0) (v := 0) (by decide) (by decide +kernel))⟩,
  List.forall_mem_cons.mpr ⟨⟨mo_invs _ _ _, Or.inr (Or.inl (ok_invs cw_X11_spelled (by decide) (by decide) ml_X11_268 cs_X11_spelled (show Cond.initialized (yX11_spelled).cls ∈ am_ts from ci9_RX11) ⟨by decide +kernel, by decide +kernel, by decide +kernel⟩ rfl (by decide +kernel)))⟩,
  List.forall_mem_cons.mpr ⟨⟨mo_last _ _, Or.inl (ok_last (by decide +kernel))⟩,
  List.forall_mem_cons.mpr ⟨⟨mo_al _ _, Or.inl (ok_aload_n (k := 0) rfl (by decide +kernel))⟩,
  List.forall_mem_cons.mpr ⟨⟨mo_gr _ _ _ _, Or.inl (ok_gr (C := RX11) (T := TX11) (N := 93) (ci := 11) (k := 31) rfl inX11 (by decide) fl_X11_137 (by decide +kernel) (by decide +kernel))⟩,
  fun _ h => absurd h List.not_mem_nil⟩⟩⟩⟩⟩⟩⟩⟩⟩⟩⟩⟩⟩⟩⟩⟩⟩⟩⟩⟩
def t_X11_init_13 : List (Nat × am_F) := [(525, im_ic 2 526), (526, im_ic 117 528), (528, im_ic 110 530), (530, im_ic 108 532), (532, im_ic 101 534), (534, im_ic 115 536), (536, im_ic 115 538), (538, im_invs 120 6 541), (541, im_last q_SH 542), (542, im_al 0 543), (543, im_gr q_SH 11 31 546), (546, im_ic 3 547), (547, im_ic 99 549), (549, im_ic 104 551), (551, im_ic 105 553), (553, im_ic 108 555), (555, im_ic 100 557), (557, im_ic 114 559), (559, im_invs 120 6 562), (562, im_ic 10 564)]
set_option maxRecDepth 20000 in
theorem o_X11_init_13 : ∀ q ∈ t_X11_init_13, am_ok vwCl q_SH ξ (q_E ξ β xs L) q_EN q_KD q_ML (cX11_init, 1, RX11, "<init>", none, []) q.1 q.2 :=
  List.forall_mem_cons.mpr ⟨⟨mo_ic _ _, Or.inl (ok_iconst (n := 2) (v := 2) (by decide) (by decide +kernel))⟩,
  List.forall_mem_cons.mpr ⟨⟨mo_ic _ _, Or.inl (ok_bipush (n := 117) (v := 117) (by decide) (by decide +kernel))⟩,
  List.forall_mem_cons.mpr ⟨⟨mo_ic _ _, Or.inl (ok_bipush (n := 110) (v := 110) (by decide) (by decide +kernel))⟩,
  List.forall_mem_cons.mpr ⟨⟨mo_ic _ _, Or.inl (ok_bipush (n := 108) (v := 108) (by decide) (by decide +kernel))⟩,
  List.forall_mem_cons.mpr ⟨⟨mo_ic _ _, Or.inl (ok_bipush (n := 101) (v := 101) (by decide) (by decide +kernel))⟩,
  List.forall_mem_cons.mpr ⟨⟨mo_ic _ _, Or.inl (ok_bipush (n := 115) (v := 115) (by decide) (by decide +kernel))⟩,
  List.forall_mem_cons.mpr ⟨⟨mo_ic _ _, Or.inl (ok_bipush (n := 115) (v := 115) (by decide) (by decide +kernel))⟩,
  List.forall_mem_cons.mpr ⟨⟨mo_invs _ _ _, Or.inr (Or.inl (ok_invs cw_X11_spelled (by decide) (by decide) ml_X11_268 cs_X11_spelled (show Cond.initialized (yX11_spelled).cls ∈ am_ts from ci9_RX11) ⟨by decide +kernel, by decide +kernel, by decide +kernel⟩ rfl (by decide +kernel)))⟩,
  List.forall_mem_cons.mpr ⟨⟨mo_last _ _, Or.inl (ok_last (by decide +kernel))⟩,
  List.forall_mem_cons.mpr ⟨⟨mo_al _ _, Or.inl (ok_aload_n (k := 0) rfl (by decide +kernel))⟩,
  List.forall_mem_cons.mpr ⟨⟨mo_gr _ _ _ _, Or.inl (ok_gr (C := RX11) (T := TX11) (N := 93) (ci := 11) (k := 31) rfl inX11 (by decide) fl_X11_137 (by decide +kernel) (by decide +kernel))⟩,
  List.forall_mem_cons.mpr ⟨⟨mo_ic _ _, Or.inl (ok_iconst (n := 3) (v := 3) (by decide) (by decide +kernel))⟩,
  List.forall_mem_cons.mpr ⟨⟨mo_ic _ _, Or.inl (ok_bipush (n := 99) (v := 99) (by decide) (by decide +kernel))⟩,
  List.forall_mem_cons.mpr ⟨⟨mo_ic _ _, Or.inl (ok_bipush (n := 104) (v := 104) (by decide) (by decide +kernel))⟩,
  List.forall_mem_cons.mpr ⟨⟨mo_ic _ _, Or.inl (ok_bipush (n := 105) (v := 105) (by decide) (by decide +kernel))⟩,
  List.forall_mem_cons.mpr ⟨⟨mo_ic _ _, Or.inl (ok_bipush (n := 108) (v := 108) (by decide) (by decide +kernel))⟩,
  List.forall_mem_cons.mpr ⟨⟨mo_ic _ _, Or.inl (ok_bipush (n := 100) (v := 100) (by decide) (by decide +kernel))⟩,
  List.forall_mem_cons.mpr ⟨⟨mo_ic _ _, Or.inl (ok_bipush (n := 114) (v := 114) (by decide) (by decide +kernel))⟩,
  List.forall_mem_cons.mpr ⟨⟨mo_invs _ _ _, Or.inr (Or.inl (ok_invs cw_X11_spelled (by decide) (by decide) ml_X11_268 cs_X11_spelled (show Cond.initialized (yX11_spelled).cls ∈ am_ts from ci9_RX11) ⟨by decide +kernel, by decide +kernel, by decide +kernel⟩ rfl (by decide +kernel)))⟩,
  List.forall_mem_cons.mpr ⟨⟨mo_ic _ _, Or.inl (ok_bipush (n := 10) (v := 10) (by decide) (by decide +kernel))⟩,
  fun _ h => absurd h List.not_mem_nil⟩⟩⟩⟩⟩⟩⟩⟩⟩⟩⟩⟩⟩⟩⟩⟩⟩⟩⟩⟩
def t_X11_init_14 : List (Nat × am_F) := [(564, im_lsh (fun x y => x <<< (y.toInt64 &&& 63)) 565), (565, im_lc 160 568), (568, im_lbin (fun x y => x ||| y) 569), (569, im_lc 14 572), (572, im_lbin (fun x y => x ||| y) 573), (573, im_last q_SH 574), (574, im_al 0 575), (575, im_gr q_SH 11 31 578), (578, im_ic 4 579), (579, im_ic 115 581), (581, im_ic 116 583), (583, im_ic 114 585), (585, im_ic 105 587), (587, im_ic 107 589), (589, im_ic 101 591), (591, im_invs 120 6 594), (594, im_last q_SH 595), (595, im_al 0 596), (596, im_gr q_SH 11 31 599), (599, im_ic 5 600)]
set_option maxRecDepth 20000 in
theorem o_X11_init_14 : ∀ q ∈ t_X11_init_14, am_ok vwCl q_SH ξ (q_E ξ β xs L) q_EN q_KD q_ML (cX11_init, 1, RX11, "<init>", none, []) q.1 q.2 :=
  List.forall_mem_cons.mpr ⟨⟨mo_lsh _ _, Or.inl (ok_lshl (by decide +kernel))⟩,
  List.forall_mem_cons.mpr ⟨⟨mo_lc _ _, Or.inl (ok_ldc2 (v := 160) (am_in5 224 rfl rfl) (by decide +kernel))⟩,
  List.forall_mem_cons.mpr ⟨⟨mo_lbin _ _, Or.inl (ok_lor (by decide +kernel))⟩,
  List.forall_mem_cons.mpr ⟨⟨mo_lc _ _, Or.inl (ok_ldc2 (v := 14) (am_in5 225 rfl rfl) (by decide +kernel))⟩,
  List.forall_mem_cons.mpr ⟨⟨mo_lbin _ _, Or.inl (ok_lor (by decide +kernel))⟩,
  List.forall_mem_cons.mpr ⟨⟨mo_last _ _, Or.inl (ok_last (by decide +kernel))⟩,
  List.forall_mem_cons.mpr ⟨⟨mo_al _ _, Or.inl (ok_aload_n (k := 0) rfl (by decide +kernel))⟩,
  List.forall_mem_cons.mpr ⟨⟨mo_gr _ _ _ _, Or.inl (ok_gr (C := RX11) (T := TX11) (N := 93) (ci := 11) (k := 31) rfl inX11 (by decide) fl_X11_137 (by decide +kernel) (by decide +kernel))⟩,
  List.forall_mem_cons.mpr ⟨⟨mo_ic _ _, Or.inl (ok_iconst (n := 4) (v := 4) (by decide) (by decide +kernel))⟩,
  List.forall_mem_cons.mpr ⟨⟨mo_ic _ _, Or.inl (ok_bipush (n := 115) (v := 115) (by decide) (by decide +kernel))⟩,
  List.forall_mem_cons.mpr ⟨⟨mo_ic _ _, Or.inl (ok_bipush (n := 116) (v := 116) (by decide) (by decide +kernel))⟩,
  List.forall_mem_cons.mpr ⟨⟨mo_ic _ _, Or.inl (ok_bipush (n := 114) (v := 114) (by decide) (by decide +kernel))⟩,
  List.forall_mem_cons.mpr ⟨⟨mo_ic _ _, Or.inl (ok_bipush (n := 105) (v := 105) (by decide) (by decide +kernel))⟩,
  List.forall_mem_cons.mpr ⟨⟨mo_ic _ _, Or.inl (ok_bipush (n := 107) (v := 107) (by decide) (by decide +kernel))⟩,
  List.forall_mem_cons.mpr ⟨⟨mo_ic _ _, Or.inl (ok_bipush (n := 101) (v := 101) (by decide) (by decide +kernel))⟩,
  List.forall_mem_cons.mpr ⟨⟨mo_invs _ _ _, Or.inr (Or.inl (ok_invs cw_X11_spelled (by decide) (by decide) ml_X11_268 cs_X11_spelled (show Cond.initialized (yX11_spelled).cls ∈ am_ts from ci9_RX11) ⟨by decide +kernel, by decide +kernel, by decide +kernel⟩ rfl (by decide +kernel)))⟩,
  List.forall_mem_cons.mpr ⟨⟨mo_last _ _, Or.inl (ok_last (by decide +kernel))⟩,
  List.forall_mem_cons.mpr ⟨⟨mo_al _ _, Or.inl (ok_aload_n (k := 0) rfl (by decide +kernel))⟩,
  List.forall_mem_cons.mpr ⟨⟨mo_gr _ _ _ _, Or.inl (ok_gr (C := RX11) (T := TX11) (N := 93) (ci := 11) (k := 31) rfl inX11 (by decide) fl_X11_137 (by decide +kernel) (by decide +kernel))⟩,
  List.forall_mem_cons.mpr ⟨⟨mo_ic _ _, Or.inl (ok_iconst (n := 5) (v := 5) (by decide) (by decide +kernel))⟩,
  fun _ h => absurd h List.not_mem_nil⟩⟩⟩⟩⟩⟩⟩⟩⟩⟩⟩⟩⟩⟩⟩⟩⟩⟩⟩⟩
def t_X11_init_15 : List (Nat × am_F) := [(600, im_ic 97 602), (602, im_ic 110 604), (604, im_ic 100 606), (606, im_ic 0 607), (607, im_ic 0 608), (608, im_ic 0 609), (609, im_invs 120 6 612), (612, im_last q_SH 613), (613, im_al 0 614), (614, im_gr q_SH 11 31 617), (617, im_ic 6 619), (619, im_ic 111 621), (621, im_ic 114 623), (623, im_ic 0 624), (624, im_ic 0 625), (625, im_ic 0 626), (626, im_ic 0 627), (627, im_invs 120 6 630), (630, im_last q_SH 631), (631, im_al 0 632)]
set_option maxRecDepth 20000 in
theorem o_X11_init_15 : ∀ q ∈ t_X11_init_15, am_ok vwCl q_SH ξ (q_E ξ β xs L) q_EN q_KD q_ML (cX11_init, 1, RX11, "<init>", none, []) q.1 q.2 :=
  List.forall_mem_cons.mpr ⟨⟨mo_ic _ _, Or.inl (ok_bipush (n := 97) (v := 97) (by decide) (by decide +kernel))⟩,
  List.forall_mem_cons.mpr ⟨⟨mo_ic _ _, Or.inl (ok_bipush (n := 110) (v := 110) (by decide) (by decide +kernel))⟩,
  List.forall_mem_cons.mpr ⟨⟨mo_ic _ _, Or.inl (ok_bipush (n := 100) (v := 100) (by decide) (by decide +kernel))⟩,
  List.forall_mem_cons.mpr ⟨⟨mo_ic _ _, Or.inl (ok_iconst (n := 0) (v := 0) (by decide) (by decide +kernel))⟩,
  List.forall_mem_cons.mpr ⟨⟨mo_ic _ _, Or.inl (ok_iconst (n := 0) (v := 0) (by decide) (by decide +kernel))⟩,
  List.forall_mem_cons.mpr ⟨⟨mo_ic _ _, Or.inl (ok_iconst (n := 0) (v := 0) (by decide) (by decide +kernel))⟩,
  List.forall_mem_cons.mpr ⟨⟨mo_invs _ _ _, Or.inr (Or.inl (ok_invs cw_X11_spelled (by decide) (by decide) ml_X11_268 cs_X11_spelled (show Cond.initialized (yX11_spelled).cls ∈ am_ts from ci9_RX11) ⟨by decide +kernel, by decide +kernel, by decide +kernel⟩ rfl (by decide +kernel)))⟩,
  List.forall_mem_cons.mpr ⟨⟨mo_last _ _, Or.inl (ok_last (by decide +kernel))⟩,
  List.forall_mem_cons.mpr ⟨⟨mo_al _ _, Or.inl (ok_aload_n (k := 0) rfl (by decide +kernel))⟩,
  List.forall_mem_cons.mpr ⟨⟨mo_gr _ _ _ _, Or.inl (ok_gr (C := RX11) (T := TX11) (N := 93) (ci := 11) (k := 31) rfl inX11 (by decide) fl_X11_137 (by decide +kernel) (by decide +kernel))⟩,
  List.forall_mem_cons.mpr ⟨⟨mo_ic _ _, Or.inl (ok_bipush (n := 6) (v := 6) (by decide) (by decide +kernel))⟩,
  List.forall_mem_cons.mpr ⟨⟨mo_ic _ _, Or.inl (ok_bipush (n := 111) (v := 111) (by decide) (by decide +kernel))⟩,
  List.forall_mem_cons.mpr ⟨⟨mo_ic _ _, Or.inl (ok_bipush (n := 114) (v := 114) (by decide) (by decide +kernel))⟩,
  List.forall_mem_cons.mpr ⟨⟨mo_ic _ _, Or.inl (ok_iconst (n := 0) (v := 0) (by decide) (by decide +kernel))⟩,
  List.forall_mem_cons.mpr ⟨⟨mo_ic _ _, Or.inl (ok_iconst (n := 0) (v := 0) (by decide) (by decide +kernel))⟩,
  List.forall_mem_cons.mpr ⟨⟨mo_ic _ _, Or.inl (ok_iconst (n := 0) (v := 0) (by decide) (by decide +kernel))⟩,
  List.forall_mem_cons.mpr ⟨⟨mo_ic _ _, Or.inl (ok_iconst (n := 0) (v := 0) (by decide) (by decide +kernel))⟩,
  List.forall_mem_cons.mpr ⟨⟨mo_invs _ _ _, Or.inr (Or.inl (ok_invs cw_X11_spelled (by decide) (by decide) ml_X11_268 cs_X11_spelled (show Cond.initialized (yX11_spelled).cls ∈ am_ts from ci9_RX11) ⟨by decide +kernel, by decide +kernel, by decide +kernel⟩ rfl (by decide +kernel)))⟩,
  List.forall_mem_cons.mpr ⟨⟨mo_last _ _, Or.inl (ok_last (by decide +kernel))⟩,
  List.forall_mem_cons.mpr ⟨⟨mo_al _ _, Or.inl (ok_aload_n (k := 0) rfl (by decide +kernel))⟩,
  fun _ h => absurd h List.not_mem_nil⟩⟩⟩⟩⟩⟩⟩⟩⟩⟩⟩⟩⟩⟩⟩⟩⟩⟩⟩⟩
def t_X11_init_16 : List (Nat × am_F) := [(632, im_gr q_SH 11 31 635), (635, im_ic 7 637), (637, im_ic 110 639), (639, im_ic 111 641), (641, im_ic 116 643), (643, im_ic 0 644), (644, im_ic 0 645), (645, im_ic 0 646), (646, im_invs 120 6 649), (649, im_last q_SH 650), (650, im_al 0 651), (651, im_gr q_SH 11 31 654), (654, im_ic 8 656), (656, im_ic 98 658), (658, im_ic 105 660), (660, im_ic 114 662), (662, im_ic 116 664), (664, im_ic 104 666), (666, im_ic 0 667), (667, im_invs 120 6 670)]
set_option maxRecDepth 20000 in
theorem o_X11_init_16 : ∀ q ∈ t_X11_init_16, am_ok vwCl q_SH ξ (q_E ξ β xs L) q_EN q_KD q_ML (cX11_init, 1, RX11, "<init>", none, []) q.1 q.2 :=
  List.forall_mem_cons.mpr ⟨⟨mo_gr _ _ _ _, Or.inl (ok_gr (C := RX11) (T := TX11) (N := 93) (ci := 11) (k := 31) rfl inX11 (by decide) fl_X11_137 (by decide +kernel) (by decide +kernel))⟩,
  List.forall_mem_cons.mpr ⟨⟨mo_ic _ _, Or.inl (ok_bipush (n := 7) (v := 7) (by decide) (by decide +kernel))⟩,
  List.forall_mem_cons.mpr ⟨⟨mo_ic _ _, Or.inl (ok_bipush (n := 110) (v := 110) (by decide) (by decide +kernel))⟩,
  List.forall_mem_cons.mpr ⟨⟨mo_ic _ _, Or.inl (ok_bipush (n := 111) (v := 111) (by decide) (by decide +kernel))⟩,
  List.forall_mem_cons.mpr ⟨⟨mo_ic _ _, Or.inl (ok_bipush (n := 116) (v := 116) (by decide) (by decide +kernel))⟩,
  List.forall_mem_cons.mpr ⟨⟨mo_ic _ _, Or.inl (ok_iconst (n := 0) (v := 0) (by decide) (by decide +kernel))⟩,
  List.forall_mem_cons.mpr ⟨⟨mo_ic _ _, Or.inl (ok_iconst (n := 0) (v := 0) (by decide) (by decide +kernel))⟩,
  List.forall_mem_cons.mpr ⟨⟨mo_ic _ _, Or.inl (ok_iconst (n := 0) (v := 0) (by decide) (by decide +kernel))⟩,
  List.forall_mem_cons.mpr ⟨⟨mo_invs _ _ _, Or.inr (Or.inl (ok_invs cw_X11_spelled (by decide) (by decide) ml_X11_268 cs_X11_spelled (show Cond.initialized (yX11_spelled).cls ∈ am_ts from ci9_RX11) ⟨by decide +kernel, by decide +kernel, by decide +kernel⟩ rfl (by decide +kernel)))⟩,
  List.forall_mem_cons.mpr ⟨⟨mo_last _ _, Or.inl (ok_last (by decide +kernel))⟩,
  List.forall_mem_cons.mpr ⟨⟨mo_al _ _, Or.inl (ok_aload_n (k := 0) rfl (by decide +kernel))⟩,
  List.forall_mem_cons.mpr ⟨⟨mo_gr _ _ _ _, Or.inl (ok_gr (C := RX11) (T := TX11) (N := 93) (ci := 11) (k := 31) rfl inX11 (by decide) fl_X11_137 (by decide +kernel) (by decide +kernel))⟩,
  List.forall_mem_cons.mpr ⟨⟨mo_ic _ _, Or.inl (ok_bipush (n := 8) (v := 8) (by decide) (by decide +kernel))⟩,
  List.forall_mem_cons.mpr ⟨⟨mo_ic _ _, Or.inl (ok_bipush (n := 98) (v := 98) (by decide) (by decide +kernel))⟩,
  List.forall_mem_cons.mpr ⟨⟨mo_ic _ _, Or.inl (ok_bipush (n := 105) (v := 105) (by decide) (by decide +kernel))⟩,
  List.forall_mem_cons.mpr ⟨⟨mo_ic _ _, Or.inl (ok_bipush (n := 114) (v := 114) (by decide) (by decide +kernel))⟩,
  List.forall_mem_cons.mpr ⟨⟨mo_ic _ _, Or.inl (ok_bipush (n := 116) (v := 116) (by decide) (by decide +kernel))⟩,
  List.forall_mem_cons.mpr ⟨⟨mo_ic _ _, Or.inl (ok_bipush (n := 104) (v := 104) (by decide) (by decide +kernel))⟩,
  List.forall_mem_cons.mpr ⟨⟨mo_ic _ _, Or.inl (ok_iconst (n := 0) (v := 0) (by decide) (by decide +kernel))⟩,
  List.forall_mem_cons.mpr ⟨⟨mo_invs _ _ _, Or.inr (Or.inl (ok_invs cw_X11_spelled (by decide) (by decide) ml_X11_268 cs_X11_spelled (show Cond.initialized (yX11_spelled).cls ∈ am_ts from ci9_RX11) ⟨by decide +kernel, by decide +kernel, by decide +kernel⟩ rfl (by decide +kernel)))⟩,
  fun _ h => absurd h List.not_mem_nil⟩⟩⟩⟩⟩⟩⟩⟩⟩⟩⟩⟩⟩⟩⟩⟩⟩⟩⟩⟩
def t_X11_init_17 : List (Nat × am_F) := [(670, im_last q_SH 671), (671, im_al 0 672), (672, im_gr q_SH 11 31 675), (675, im_ic 9 677), (677, im_ic 119 679), (679, im_ic 101 681), (681, im_ic 100 683), (683, im_ic 0 684), (684, im_ic 0 685), (685, im_ic 0 686), (686, im_invs 120 6 689), (689, im_last q_SH 690), (690, im_al 0 691), (691, im_gr q_SH 11 31 694), (694, im_ic 10 696), (696, im_ic 111 698), (698, im_ic 97 700), (700, im_ic 116 702), (702, im_ic 104 704), (704, im_ic 0 705)]
set_option maxRecDepth 20000 in
theorem o_X11_init_17 : ∀ q ∈ t_X11_init_17, am_ok vwCl q_SH ξ (q_E ξ β xs L) q_EN q_KD q_ML (cX11_init, 1, RX11, "<init>", none, []) q.1 q.2 :=
  List.forall_mem_cons.mpr ⟨⟨mo_last _ _, Or.inl (ok_last (by decide +kernel))⟩,
  List.forall_mem_cons.mpr ⟨⟨mo_al _ _, Or.inl (ok_aload_n (k := 0) rfl (by decide +kernel))⟩,
  List.forall_mem_cons.mpr ⟨⟨mo_gr _ _ _ _, Or.inl (ok_gr (C := RX11) (T := TX11) (N := 93) (ci := 11) (k := 31) rfl inX11 (by decide) fl_X11_137 (by decide +kernel) (by decide +kernel))⟩,
  List.forall_mem_cons.mpr ⟨⟨mo_ic _ _, Or.inl (ok_bipush (n := 9) (v := 9) (by decide) (by decide +kernel))⟩,
  List.forall_mem_cons.mpr ⟨⟨mo_ic _ _, Or.inl (ok_bipush (n := 119) (v := 119) (by decide) (by decide +kernel))⟩,
  List.forall_mem_cons.mpr ⟨⟨mo_ic _ _, Or.inl (ok_bipush (n := 101) (v := 101) (by decide) (by decide +kernel))⟩,
  List.forall_mem_cons.mpr ⟨⟨mo_ic _ _, Or.inl (ok_bipush (n := 100) (v := 100) (by decide) (by decide +kernel))⟩,
  List.forall_mem_cons.mpr ⟨⟨mo_ic _ _, Or.inl (ok_iconst (n := 0) (v := 0) (by decide) (by decide +kernel))⟩,
  List.forall_mem_cons.mpr ⟨⟨mo_ic _ _, Or.inl (ok_iconst (n := 0) (v := 0) (by decide) (by decide +kernel))⟩,
  List.forall_mem_cons.mpr ⟨⟨mo_ic _ _, Or.inl (ok_iconst (n := 0) (v := 0) (by decide) (by decide +kernel))⟩,
  List.forall_mem_cons.mpr ⟨⟨mo_invs _ _ _, Or.inr (Or.inl (ok_invs cw_X11_spelled (by decide) (by decide) ml_X11_268 cs_X11_spelled (show Cond.initialized (yX11_spelled).cls ∈ am_ts from ci9_RX11) ⟨by decide +kernel, by decide +kernel, by decide +kernel⟩ rfl (by decide +kernel)))⟩,
  List.forall_mem_cons.mpr ⟨⟨mo_last _ _, Or.inl (ok_last (by decide +kernel))⟩,
  List.forall_mem_cons.mpr ⟨⟨mo_al _ _, Or.inl (ok_aload_n (k := 0) rfl (by decide +kernel))⟩,
  List.forall_mem_cons.mpr ⟨⟨mo_gr _ _ _ _, Or.inl (ok_gr (C := RX11) (T := TX11) (N := 93) (ci := 11) (k := 31) rfl inX11 (by decide) fl_X11_137 (by decide +kernel) (by decide +kernel))⟩,
  List.forall_mem_cons.mpr ⟨⟨mo_ic _ _, Or.inl (ok_bipush (n := 10) (v := 10) (by decide) (by decide +kernel))⟩,
  List.forall_mem_cons.mpr ⟨⟨mo_ic _ _, Or.inl (ok_bipush (n := 111) (v := 111) (by decide) (by decide +kernel))⟩,
  List.forall_mem_cons.mpr ⟨⟨mo_ic _ _, Or.inl (ok_bipush (n := 97) (v := 97) (by decide) (by decide +kernel))⟩,
  List.forall_mem_cons.mpr ⟨⟨mo_ic _ _, Or.inl (ok_bipush (n := 116) (v := 116) (by decide) (by decide +kernel))⟩,
  List.forall_mem_cons.mpr ⟨⟨mo_ic _ _, Or.inl (ok_bipush (n := 104) (v := 104) (by decide) (by decide +kernel))⟩,
  List.forall_mem_cons.mpr ⟨⟨mo_ic _ _, Or.inl (ok_iconst (n := 0) (v := 0) (by decide) (by decide +kernel))⟩,
  fun _ h => absurd h List.not_mem_nil⟩⟩⟩⟩⟩⟩⟩⟩⟩⟩⟩⟩⟩⟩⟩⟩⟩⟩⟩⟩
def t_X11_init_18 : List (Nat × am_F) := [(705, im_ic 0 706), (706, im_invs 120 6 709), (709, im_last q_SH 710), (710, im_al 0 711), (711, im_gr q_SH 11 31 714), (714, im_ic 11 716), (716, im_ic 99 718), (718, im_ic 104 720), (720, im_ic 111 722), (722, im_ic 111 724), (724, im_ic 115 726), (726, im_ic 101 728), (728, im_invs 120 6 731), (731, im_last q_SH 732), (732, im_al 0 733), (733, im_gr q_SH 11 31 736), (736, im_ic 12 738), (738, im_ic 115 740), (740, im_ic 101 742), (742, im_ic 114 744)]
set_option maxRecDepth 20000 in
theorem o_X11_init_18 : ∀ q ∈ t_X11_init_18, am_ok vwCl q_SH ξ (q_E ξ β xs L) q_EN q_KD q_ML (cX11_init, 1, RX11, "<init>", none, []) q.1 q.2 :=
  List.forall_mem_cons.mpr ⟨⟨mo_ic _ _, Or.inl (ok_iconst (n := 0) (v := 0) (by decide) (by decide +kernel))⟩,
  List.forall_mem_cons.mpr ⟨⟨mo_invs _ _ _, Or.inr (Or.inl (ok_invs cw_X11_spelled (by decide) (by decide) ml_X11_268 cs_X11_spelled (show Cond.initialized (yX11_spelled).cls ∈ am_ts from ci9_RX11) ⟨by decide +kernel, by decide +kernel, by decide +kernel⟩ rfl (by decide +kernel)))⟩,
  List.forall_mem_cons.mpr ⟨⟨mo_last _ _, Or.inl (ok_last (by decide +kernel))⟩,
  List.forall_mem_cons.mpr ⟨⟨mo_al _ _, Or.inl (ok_aload_n (k := 0) rfl (by decide +kernel))⟩,
  List.forall_mem_cons.mpr ⟨⟨mo_gr _ _ _ _, Or.inl (ok_gr (C := RX11) (T := TX11) (N := 93) (ci := 11) (k := 31) rfl inX11 (by decide) fl_X11_137 (by decide +kernel) (by decide +kernel))⟩,
  List.forall_mem_cons.mpr ⟨⟨mo_ic _ _, Or.inl (ok_bipush (n := 11) (v := 11) (by decide) (by decide +kernel))⟩,
  List.forall_mem_cons.mpr ⟨⟨mo_ic _ _, Or.inl (ok_bipush (n := 99) (v := 99) (by decide) (by decide +kernel))⟩,
  List.forall_mem_cons.mpr ⟨⟨mo_ic _ _, Or.inl (ok_bipush (n := 104) (v := 104) (by decide) (by decide +kernel))⟩,
  List.forall_mem_cons.mpr ⟨⟨mo_ic _ _, Or.inl (ok_bipush (n := 111) (v := 111) (by decide) (by decide +kernel))⟩,
  List.forall_mem_cons.mpr ⟨⟨mo_ic _ _, Or.inl (ok_bipush (n := 111) (v := 111) (by decide) (by decide +kernel))⟩,
  List.forall_mem_cons.mpr ⟨⟨mo_ic _ _, Or.inl (ok_bipush (n := 115) (v := 115) (by decide) (by decide +kernel))⟩,
  List.forall_mem_cons.mpr ⟨⟨mo_ic _ _, Or.inl (ok_bipush (n := 101) (v := 101) (by decide) (by decide +kernel))⟩,
  List.forall_mem_cons.mpr ⟨⟨mo_invs _ _ _, Or.inr (Or.inl (ok_invs cw_X11_spelled (by decide) (by decide) ml_X11_268 cs_X11_spelled (show Cond.initialized (yX11_spelled).cls ∈ am_ts from ci9_RX11) ⟨by decide +kernel, by decide +kernel, by decide +kernel⟩ rfl (by decide +kernel)))⟩,
  List.forall_mem_cons.mpr ⟨⟨mo_last _ _, Or.inl (ok_last (by decide +kernel))⟩,
  List.forall_mem_cons.mpr ⟨⟨mo_al _ _, Or.inl (ok_aload_n (k := 0) rfl (by decide +kernel))⟩,
  List.forall_mem_cons.mpr ⟨⟨mo_gr _ _ _ _, Or.inl (ok_gr (C := RX11) (T := TX11) (N := 93) (ci := 11) (k := 31) rfl inX11 (by decide) fl_X11_137 (by decide +kernel) (by decide +kernel))⟩,
  List.forall_mem_cons.mpr ⟨⟨mo_ic _ _, Or.inl (ok_bipush (n := 12) (v := 12) (by decide) (by decide +kernel))⟩,
  List.forall_mem_cons.mpr ⟨⟨mo_ic _ _, Or.inl (ok_bipush (n := 115) (v := 115) (by decide) (by decide +kernel))⟩,
  List.forall_mem_cons.mpr ⟨⟨mo_ic _ _, Or.inl (ok_bipush (n := 101) (v := 101) (by decide) (by decide +kernel))⟩,
  List.forall_mem_cons.mpr ⟨⟨mo_ic _ _, Or.inl (ok_bipush (n := 114) (v := 114) (by decide) (by decide +kernel))⟩,
  fun _ h => absurd h List.not_mem_nil⟩⟩⟩⟩⟩⟩⟩⟩⟩⟩⟩⟩⟩⟩⟩⟩⟩⟩⟩⟩
def t_X11_init_19 : List (Nat × am_F) := [(744, im_ic 118 746), (746, im_ic 101 748), (748, im_ic 0 749), (749, im_invs 120 6 752), (752, im_last q_SH 753), (753, im_al 0 754), (754, im_gr q_SH 11 31 757), (757, im_ic 13 759), (759, im_ic 98 761), (761, im_ic 111 763), (763, im_ic 114 765), (765, im_ic 100 767), (767, im_ic 101 769), (769, im_ic 114 771), (771, im_invs 120 6 774), (774, im_last q_SH 775), (775, im_al 0 776), (776, im_gr q_SH 11 31 779), (779, im_ic 14 781), (781, im_ic 97 783)]
set_option maxRecDepth 20000 in
theorem o_X11_init_19 : ∀ q ∈ t_X11_init_19, am_ok vwCl q_SH ξ (q_E ξ β xs L) q_EN q_KD q_ML (cX11_init, 1, RX11, "<init>", none, []) q.1 q.2 :=
  List.forall_mem_cons.mpr ⟨⟨mo_ic _ _, Or.inl (ok_bipush (n := 118) (v := 118) (by decide) (by decide +kernel))⟩,
  List.forall_mem_cons.mpr ⟨⟨mo_ic _ _, Or.inl (ok_bipush (n := 101) (v := 101) (by decide) (by decide +kernel))⟩,
  List.forall_mem_cons.mpr ⟨⟨mo_ic _ _, Or.inl (ok_iconst (n := 0) (v := 0) (by decide) (by decide +kernel))⟩,
  List.forall_mem_cons.mpr ⟨⟨mo_invs _ _ _, Or.inr (Or.inl (ok_invs cw_X11_spelled (by decide) (by decide) ml_X11_268 cs_X11_spelled (show Cond.initialized (yX11_spelled).cls ∈ am_ts from ci9_RX11) ⟨by decide +kernel, by decide +kernel, by decide +kernel⟩ rfl (by decide +kernel)))⟩,
  List.forall_mem_cons.mpr ⟨⟨mo_last _ _, Or.inl (ok_last (by decide +kernel))⟩,
  List.forall_mem_cons.mpr ⟨⟨mo_al _ _, Or.inl (ok_aload_n (k := 0) rfl (by decide +kernel))⟩,
  List.forall_mem_cons.mpr ⟨⟨mo_gr _ _ _ _, Or.inl (ok_gr (C := RX11) (T := TX11) (N := 93) (ci := 11) (k := 31) rfl inX11 (by decide) fl_X11_137 (by decide +kernel) (by decide +kernel))⟩,
  List.forall_mem_cons.mpr ⟨⟨mo_ic _ _, Or.inl (ok_bipush (n := 13) (v := 13) (by decide) (by decide +kernel))⟩,
  List.forall_mem_cons.mpr ⟨⟨mo_ic _ _, Or.inl (ok_bipush (n := 98) (v := 98) (by decide) (by decide +kernel))⟩,
  List.forall_mem_cons.mpr ⟨⟨mo_ic _ _, Or.inl (ok_bipush (n := 111) (v := 111) (by decide) (by decide +kernel))⟩,
  List.forall_mem_cons.mpr ⟨⟨mo_ic _ _, Or.inl (ok_bipush (n := 114) (v := 114) (by decide) (by decide +kernel))⟩,
  List.forall_mem_cons.mpr ⟨⟨mo_ic _ _, Or.inl (ok_bipush (n := 100) (v := 100) (by decide) (by decide +kernel))⟩,
  List.forall_mem_cons.mpr ⟨⟨mo_ic _ _, Or.inl (ok_bipush (n := 101) (v := 101) (by decide) (by decide +kernel))⟩,
  List.forall_mem_cons.mpr ⟨⟨mo_ic _ _, Or.inl (ok_bipush (n := 114) (v := 114) (by decide) (by decide +kernel))⟩,
  List.forall_mem_cons.mpr ⟨⟨mo_invs _ _ _, Or.inr (Or.inl (ok_invs cw_X11_spelled (by decide) (by decide) ml_X11_268 cs_X11_spelled (show Cond.initialized (yX11_spelled).cls ∈ am_ts from ci9_RX11) ⟨by decide +kernel, by decide +kernel, by decide +kernel⟩ rfl (by decide +kernel)))⟩,
  List.forall_mem_cons.mpr ⟨⟨mo_last _ _, Or.inl (ok_last (by decide +kernel))⟩,
  List.forall_mem_cons.mpr ⟨⟨mo_al _ _, Or.inl (ok_aload_n (k := 0) rfl (by decide +kernel))⟩,
  List.forall_mem_cons.mpr ⟨⟨mo_gr _ _ _ _, Or.inl (ok_gr (C := RX11) (T := TX11) (N := 93) (ci := 11) (k := 31) rfl inX11 (by decide) fl_X11_137 (by decide +kernel) (by decide +kernel))⟩,
  List.forall_mem_cons.mpr ⟨⟨mo_ic _ _, Or.inl (ok_bipush (n := 14) (v := 14) (by decide) (by decide +kernel))⟩,
  List.forall_mem_cons.mpr ⟨⟨mo_ic _ _, Or.inl (ok_bipush (n := 97) (v := 97) (by decide) (by decide +kernel))⟩,
  fun _ h => absurd h List.not_mem_nil⟩⟩⟩⟩⟩⟩⟩⟩⟩⟩⟩⟩⟩⟩⟩⟩⟩⟩⟩⟩
def t_X11_init_20 : List (Nat × am_F) := [(783, im_ic 99 785), (785, im_ic 116 787), (787, im_ic 0 788), (788, im_ic 0 789), (789, im_ic 0 790), (790, im_invs 120 6 793), (793, im_last q_SH 794), (794, im_al 0 795), (795, im_gr q_SH 11 31 798), (798, im_ic 15 800), (800, im_ic 104 802), (802, im_ic 101 804), (804, im_ic 114 806), (806, im_ic 101 808), (808, im_ic 0 809), (809, im_ic 0 810), (810, im_invs 120 6 813), (813, im_last q_SH 814), (814, im_al 0 815), (815, im_gr q_SH 11 31 818)]
set_option maxRecDepth 20000 in
theorem o_X11_init_20 : ∀ q ∈ t_X11_init_20, am_ok vwCl q_SH ξ (q_E ξ β xs L) q_EN q_KD q_ML (cX11_init, 1, RX11, "<init>", none, []) q.1 q.2 :=
  List.forall_mem_cons.mpr ⟨⟨mo_ic _ _, Or.inl (ok_bipush (n := 99) (v := 99) (by decide) (by decide +kernel))⟩,
  List.forall_mem_cons.mpr ⟨⟨mo_ic _ _, Or.inl (ok_bipush (n := 116) (v := 116) (by decide) (by decide +kernel))⟩,
  List.forall_mem_cons.mpr ⟨⟨mo_ic _ _, Or.inl (ok_iconst (n := 0) (v := 0) (by decide) (by decide +kernel))⟩,
  List.forall_mem_cons.mpr ⟨⟨mo_ic _ _, Or.inl (ok_iconst (n := 0) (v := 0) (by decide) (by decide +kernel))⟩,
  List.forall_mem_cons.mpr ⟨⟨mo_ic _ _, Or.inl (ok_iconst (n := 0) (v := 0) (by decide) (by decide +kernel))⟩,
  List.forall_mem_cons.mpr ⟨⟨mo_invs _ _ _, Or.inr (Or.inl (ok_invs cw_X11_spelled (by decide) (by decide) ml_X11_268 cs_X11_spelled (show Cond.initialized (yX11_spelled).cls ∈ am_ts from ci9_RX11) ⟨by decide +kernel, by decide +kernel, by decide +kernel⟩ rfl (by decide +kernel)))⟩,
  List.forall_mem_cons.mpr ⟨⟨mo_last _ _, Or.inl (ok_last (by decide +kernel))⟩,
  List.forall_mem_cons.mpr ⟨⟨mo_al _ _, Or.inl (ok_aload_n (k := 0) rfl (by decide +kernel))⟩,
  List.forall_mem_cons.mpr ⟨⟨mo_gr _ _ _ _, Or.inl (ok_gr (C := RX11) (T := TX11) (N := 93) (ci := 11) (k := 31) rfl inX11 (by decide) fl_X11_137 (by decide +kernel) (by decide +kernel))⟩,
  List.forall_mem_cons.mpr ⟨⟨mo_ic _ _, Or.inl (ok_bipush (n := 15) (v := 15) (by decide) (by decide +kernel))⟩,
  List.forall_mem_cons.mpr ⟨⟨mo_ic _ _, Or.inl (ok_bipush (n := 104) (v := 104) (by decide) (by decide +kernel))⟩,
  List.forall_mem_cons.mpr ⟨⟨mo_ic _ _, Or.inl (ok_bipush (n := 101) (v := 101) (by decide) (by decide +kernel))⟩,
  List.forall_mem_cons.mpr ⟨⟨mo_ic _ _, Or.inl (ok_bipush (n := 114) (v := 114) (by decide) (by decide +kernel))⟩,
  List.forall_mem_cons.mpr ⟨⟨mo_ic _ _, Or.inl (ok_bipush (n := 101) (v := 101) (by decide) (by decide +kernel))⟩,
  List.forall_mem_cons.mpr ⟨⟨mo_ic _ _, Or.inl (ok_iconst (n := 0) (v := 0) (by decide) (by decide +kernel))⟩,
  List.forall_mem_cons.mpr ⟨⟨mo_ic _ _, Or.inl (ok_iconst (n := 0) (v := 0) (by decide) (by decide +kernel))⟩,
  List.forall_mem_cons.mpr ⟨⟨mo_invs _ _ _, Or.inr (Or.inl (ok_invs cw_X11_spelled (by decide) (by decide) ml_X11_268 cs_X11_spelled (show Cond.initialized (yX11_spelled).cls ∈ am_ts from ci9_RX11) ⟨by decide +kernel, by decide +kernel, by decide +kernel⟩ rfl (by decide +kernel)))⟩,
  List.forall_mem_cons.mpr ⟨⟨mo_last _ _, Or.inl (ok_last (by decide +kernel))⟩,
  List.forall_mem_cons.mpr ⟨⟨mo_al _ _, Or.inl (ok_aload_n (k := 0) rfl (by decide +kernel))⟩,
  List.forall_mem_cons.mpr ⟨⟨mo_gr _ _ _ _, Or.inl (ok_gr (C := RX11) (T := TX11) (N := 93) (ci := 11) (k := 31) rfl inX11 (by decide) fl_X11_137 (by decide +kernel) (by decide +kernel))⟩,
  fun _ h => absurd h List.not_mem_nil⟩⟩⟩⟩⟩⟩⟩⟩⟩⟩⟩⟩⟩⟩⟩⟩⟩⟩⟩⟩
def t_X11_init_21 : List (Nat × am_F) := [(818, im_ic 16 820), (820, im_ic 102 822), (822, im_ic 97 824), (824, im_ic 116 826), (826, im_ic 104 828), (828, im_ic 101 830), (830, im_ic 114 832), (832, im_invs 120 6 835), (835, im_last q_SH 836), (836, im_al 0 837), (837, im_gr q_SH 11 31 840), (840, im_ic 17 842), (842, im_ic 109 844), (844, im_ic 111 846), (846, im_ic 116 848), (848, im_ic 104 850), (850, im_ic 101 852), (852, im_ic 114 854), (854, im_invs 120 6 857), (857, im_last q_SH 858)]
set_option maxRecDepth 20000 in
theorem o_X11_init_21 : ∀ q ∈ t_X11_init_21, am_ok vwCl q_SH ξ (q_E ξ β xs L) q_EN q_KD q_ML (cX11_init, 1, RX11, "<init>", none, []) q.1 q.2 :=
  List.forall_mem_cons.mpr ⟨⟨mo_ic _ _, Or.inl (ok_bipush (n := 16) (v := 16) (by decide) (by decide +kernel))⟩,
  List.forall_mem_cons.mpr ⟨⟨mo_ic _ _, Or.inl (ok_bipush (n := 102) (v := 102) (by decide) (by decide +kernel))⟩,
  List.forall_mem_cons.mpr ⟨⟨mo_ic _ _, Or.inl (ok_bipush (n := 97) (v := 97) (by decide) (by decide +kernel))⟩,
  List.forall_mem_cons.mpr ⟨⟨mo_ic _ _, Or.inl (ok_bipush (n := 116) (v := 116) (by decide) (by decide +kernel))⟩,
  List.forall_mem_cons.mpr ⟨⟨mo_ic _ _, Or.inl (ok_bipush (n := 104) (v := 104) (by decide) (by decide +kernel))⟩,
  List.forall_mem_cons.mpr ⟨⟨mo_ic _ _, Or.inl (ok_bipush (n := 101) (v := 101) (by decide) (by decide +kernel))⟩,
  List.forall_mem_cons.mpr ⟨⟨mo_ic _ _, Or.inl (ok_bipush (n := 114) (v := 114) (by decide) (by decide +kernel))⟩,
  List.forall_mem_cons.mpr ⟨⟨mo_invs _ _ _, Or.inr (Or.inl (ok_invs cw_X11_spelled (by decide) (by decide) ml_X11_268 cs_X11_spelled (show Cond.initialized (yX11_spelled).cls ∈ am_ts from ci9_RX11) ⟨by decide +kernel, by decide +kernel, by decide +kernel⟩ rfl (by decide +kernel)))⟩,
  List.forall_mem_cons.mpr ⟨⟨mo_last _ _, Or.inl (ok_last (by decide +kernel))⟩,
  List.forall_mem_cons.mpr ⟨⟨mo_al _ _, Or.inl (ok_aload_n (k := 0) rfl (by decide +kernel))⟩,
  List.forall_mem_cons.mpr ⟨⟨mo_gr _ _ _ _, Or.inl (ok_gr (C := RX11) (T := TX11) (N := 93) (ci := 11) (k := 31) rfl inX11 (by decide) fl_X11_137 (by decide +kernel) (by decide +kernel))⟩,
  List.forall_mem_cons.mpr ⟨⟨mo_ic _ _, Or.inl (ok_bipush (n := 17) (v := 17) (by decide) (by decide +kernel))⟩,
  List.forall_mem_cons.mpr ⟨⟨mo_ic _ _, Or.inl (ok_bipush (n := 109) (v := 109) (by decide) (by decide +kernel))⟩,
  List.forall_mem_cons.mpr ⟨⟨mo_ic _ _, Or.inl (ok_bipush (n := 111) (v := 111) (by decide) (by decide +kernel))⟩,
  List.forall_mem_cons.mpr ⟨⟨mo_ic _ _, Or.inl (ok_bipush (n := 116) (v := 116) (by decide) (by decide +kernel))⟩,
  List.forall_mem_cons.mpr ⟨⟨mo_ic _ _, Or.inl (ok_bipush (n := 104) (v := 104) (by decide) (by decide +kernel))⟩,
  List.forall_mem_cons.mpr ⟨⟨mo_ic _ _, Or.inl (ok_bipush (n := 101) (v := 101) (by decide) (by decide +kernel))⟩,
  List.forall_mem_cons.mpr ⟨⟨mo_ic _ _, Or.inl (ok_bipush (n := 114) (v := 114) (by decide) (by decide +kernel))⟩,
  List.forall_mem_cons.mpr ⟨⟨mo_invs _ _ _, Or.inr (Or.inl (ok_invs cw_X11_spelled (by decide) (by decide) ml_X11_268 cs_X11_spelled (show Cond.initialized (yX11_spelled).cls ∈ am_ts from ci9_RX11) ⟨by decide +kernel, by decide +kernel, by decide +kernel⟩ rfl (by decide +kernel)))⟩,
  List.forall_mem_cons.mpr ⟨⟨mo_last _ _, Or.inl (ok_last (by decide +kernel))⟩,
  fun _ h => absurd h List.not_mem_nil⟩⟩⟩⟩⟩⟩⟩⟩⟩⟩⟩⟩⟩⟩⟩⟩⟩⟩⟩⟩
def t_X11_init_22 : List (Nat × am_F) := [(858, im_al 0 859), (859, im_gr q_SH 11 31 862), (862, im_ic 18 864), (864, im_ic 119 866), (866, im_ic 101 868), (868, im_ic 100 870), (870, im_ic 100 872), (872, im_ic 101 874), (874, im_ic 100 876), (876, im_invs 120 6 879), (879, im_last q_SH 880), (880, im_al 0 881), (881, im_gr q_SH 11 31 884), (884, im_ic 19 886), (886, im_ic 115 888), (888, im_ic 112 890), (890, im_ic 111 892), (892, im_ic 117 894), (894, im_ic 115 896), (896, im_ic 101 898)]
set_option maxRecDepth 20000 in
theorem o_X11_init_22 : ∀ q ∈ t_X11_init_22, am_ok vwCl q_SH ξ (q_E ξ β xs L) q_EN q_KD q_ML (cX11_init, 1, RX11, "<init>", none, []) q.1 q.2 :=
  List.forall_mem_cons.mpr ⟨⟨mo_al _ _, Or.inl (ok_aload_n (k := 0) rfl (by decide +kernel))⟩,
  List.forall_mem_cons.mpr ⟨⟨mo_gr _ _ _ _, Or.inl (ok_gr (C := RX11) (T := TX11) (N := 93) (ci := 11) (k := 31) rfl inX11 (by decide) fl_X11_137 (by decide +kernel) (by decide +kernel))⟩,
  List.forall_mem_cons.mpr ⟨⟨mo_ic _ _, Or.inl (ok_bipush (n := 18) (v := 18) (by decide) (by decide +kernel))⟩,
  List.forall_mem_cons.mpr ⟨⟨mo_ic _ _, Or.inl (ok_bipush (n := 119) (v := 119) (by decide) (by decide +kernel))⟩,
  List.forall_mem_cons.mpr ⟨⟨mo_ic _ _, Or.inl (ok_bipush (n := 101) (v := 101) (by decide) (by decide +kernel))⟩,
  List.forall_mem_cons.mpr ⟨⟨mo_ic _ _, Or.inl (ok_bipush (n := 100) (v := 100) (by decide) (by decide +kernel))⟩,
  List.forall_mem_cons.mpr ⟨⟨mo_ic _ _, Or.inl (ok_bipush (n := 100) (v := 100) (by decide) (by decide +kernel))⟩,
  List.forall_mem_cons.mpr ⟨⟨mo_ic _ _, Or.inl (ok_bipush (n := 101) (v := 101) (by decide) (by decide +kernel))⟩,
  List.forall_mem_cons.mpr ⟨⟨mo_ic _ _, Or.inl (ok_bipush (n := 100) (v := 100) (by decide) (by decide +kernel))⟩,
  List.forall_mem_cons.mpr ⟨⟨mo_invs _ _ _, Or.inr (Or.inl (ok_invs cw_X11_spelled (by decide) (by decide) ml_X11_268 cs_X11_spelled (show Cond.initialized (yX11_spelled).cls ∈ am_ts from ci9_RX11) ⟨by decide +kernel, by decide +kernel, by decide +kernel⟩ rfl (by decide +kernel)))⟩,
  List.forall_mem_cons.mpr ⟨⟨mo_last _ _, Or.inl (ok_last (by decide +kernel))⟩,
  List.forall_mem_cons.mpr ⟨⟨mo_al _ _, Or.inl (ok_aload_n (k := 0) rfl (by decide +kernel))⟩,
  List.forall_mem_cons.mpr ⟨⟨mo_gr _ _ _ _, Or.inl (ok_gr (C := RX11) (T := TX11) (N := 93) (ci := 11) (k := 31) rfl inX11 (by decide) fl_X11_137 (by decide +kernel) (by decide +kernel))⟩,
  List.forall_mem_cons.mpr ⟨⟨mo_ic _ _, Or.inl (ok_bipush (n := 19) (v := 19) (by decide) (by decide +kernel))⟩,
  List.forall_mem_cons.mpr ⟨⟨mo_ic _ _, Or.inl (ok_bipush (n := 115) (v := 115) (by decide) (by decide +kernel))⟩,
  List.forall_mem_cons.mpr ⟨⟨mo_ic _ _, Or.inl (ok_bipush (n := 112) (v := 112) (by decide) (by decide +kernel))⟩,
  List.forall_mem_cons.mpr ⟨⟨mo_ic _ _, Or.inl (ok_bipush (n := 111) (v := 111) (by decide) (by decide +kernel))⟩,
  List.forall_mem_cons.mpr ⟨⟨mo_ic _ _, Or.inl (ok_bipush (n := 117) (v := 117) (by decide) (by decide +kernel))⟩,
  List.forall_mem_cons.mpr ⟨⟨mo_ic _ _, Or.inl (ok_bipush (n := 115) (v := 115) (by decide) (by decide +kernel))⟩,
  List.forall_mem_cons.mpr ⟨⟨mo_ic _ _, Or.inl (ok_bipush (n := 101) (v := 101) (by decide) (by decide +kernel))⟩,
  fun _ h => absurd h List.not_mem_nil⟩⟩⟩⟩⟩⟩⟩⟩⟩⟩⟩⟩⟩⟩⟩⟩⟩⟩⟩⟩
def t_X11_init_23 : List (Nat × am_F) := [(898, im_invs 120 6 901), (901, im_last q_SH 902), (902, im_al 0 903), (903, im_gr q_SH 11 31 906), (906, im_ic 20 908), (908, im_ic 115 910), (910, im_ic 101 912), (912, im_ic 120 914), (914, im_ic 0 915), (915, im_ic 0 916), (916, im_ic 0 917), (917, im_invs 120 6 920), (920, im_last q_SH 921), (921, im_al 0 922), (922, im_gr q_SH 11 31 925), (925, im_ic 21 927), (927, im_ic 97 929), (929, im_ic 103 931), (931, im_ic 101 933), (933, im_ic 0 934)]
set_option maxRecDepth 20000 in
theorem o_X11_init_23 : ∀ q ∈ t_X11_init_23, am_ok vwCl q_SH ξ (q_E ξ β xs L) q_EN q_KD q_ML (cX11_init, 1, RX11, "<init>", none, []) q.1 q.2 :=
  List.forall_mem_cons.mpr ⟨⟨mo_invs _ _ _, Or.inr (Or.inl (ok_invs cw_X11_spelled (by decide) (by decide) ml_X11_268 cs_X11_spelled (show Cond.initialized (yX11_spelled).cls ∈ am_ts from ci9_RX11) ⟨by decide +kernel, by decide +kernel, by decide +kernel⟩ rfl (by decide +kernel)))⟩,
  List.forall_mem_cons.mpr ⟨⟨mo_last _ _, Or.inl (ok_last (by decide +kernel))⟩,
  List.forall_mem_cons.mpr ⟨⟨mo_al _ _, Or.inl (ok_aload_n (k := 0) rfl (by decide +kernel))⟩,
  List.forall_mem_cons.mpr ⟨⟨mo_gr _ _ _ _, Or.inl (ok_gr (C := RX11) (T := TX11) (N := 93) (ci := 11) (k := 31) rfl inX11 (by decide) fl_X11_137 (by decide +kernel) (by decide +kernel))⟩,
  List.forall_mem_cons.mpr ⟨⟨mo_ic _ _, Or.inl (ok_bipush (n := 20) (v := 20) (by decide) (by decide +kernel))⟩,
  List.forall_mem_cons.mpr ⟨⟨mo_ic _ _, Or.inl (ok_bipush (n := 115) (v := 115) (by decide) (by decide +kernel))⟩,
  List.forall_mem_cons.mpr ⟨⟨mo_ic _ _, Or.inl (ok_bipush (n := 101) (v := 101) (by decide) (by decide +kernel))⟩,
  List.forall_mem_cons.mpr ⟨⟨mo_ic _ _, Or.inl (ok_bipush (n := 120) (v := 120) (by decide) (by decide +kernel))⟩,
  List.forall_mem_cons.mpr ⟨⟨mo_ic _ _, Or.inl (ok_iconst (n := 0) (v := 0) (by decide) (by decide +kernel))⟩,
  List.forall_mem_cons.mpr ⟨⟨mo_ic _ _, Or.inl (ok_iconst (n := 0) (v := 0) (by decide) (by decide +kernel))⟩,
  List.forall_mem_cons.mpr ⟨⟨mo_ic _ _, Or.inl (ok_iconst (n := 0) (v := 0) (by decide) (by decide +kernel))⟩,
  List.forall_mem_cons.mpr ⟨⟨mo_invs _ _ _, Or.inr (Or.inl (ok_invs cw_X11_spelled (by decide) (by decide) ml_X11_268 cs_X11_spelled (show Cond.initialized (yX11_spelled).cls ∈ am_ts from ci9_RX11) ⟨by decide +kernel, by decide +kernel, by decide +kernel⟩ rfl (by decide +kernel)))⟩,
  List.forall_mem_cons.mpr ⟨⟨mo_last _ _, Or.inl (ok_last (by decide +kernel))⟩,
  List.forall_mem_cons.mpr ⟨⟨mo_al _ _, Or.inl (ok_aload_n (k := 0) rfl (by decide +kernel))⟩,
  List.forall_mem_cons.mpr ⟨⟨mo_gr _ _ _ _, Or.inl (ok_gr (C := RX11) (T := TX11) (N := 93) (ci := 11) (k := 31) rfl inX11 (by decide) fl_X11_137 (by decide +kernel) (by decide +kernel))⟩,
  List.forall_mem_cons.mpr ⟨⟨mo_ic _ _, Or.inl (ok_bipush (n := 21) (v := 21) (by decide) (by decide +kernel))⟩,
  List.forall_mem_cons.mpr ⟨⟨mo_ic _ _, Or.inl (ok_bipush (n := 97) (v := 97) (by decide) (by decide +kernel))⟩,
  List.forall_mem_cons.mpr ⟨⟨mo_ic _ _, Or.inl (ok_bipush (n := 103) (v := 103) (by decide) (by decide +kernel))⟩,
  List.forall_mem_cons.mpr ⟨⟨mo_ic _ _, Or.inl (ok_bipush (n := 101) (v := 101) (by decide) (by decide +kernel))⟩,
  List.forall_mem_cons.mpr ⟨⟨mo_ic _ _, Or.inl (ok_iconst (n := 0) (v := 0) (by decide) (by decide +kernel))⟩,
  fun _ h => absurd h List.not_mem_nil⟩⟩⟩⟩⟩⟩⟩⟩⟩⟩⟩⟩⟩⟩⟩⟩⟩⟩⟩⟩
def t_X11_init_24 : List (Nat × am_F) := [(934, im_ic 0 935), (935, im_ic 0 936), (936, im_invs 120 6 939), (939, im_last q_SH 940), (940, im_al 0 941), (941, im_gr q_SH 11 31 944), (944, im_ic 22 946), (946, im_ic 115 948), (948, im_ic 116 950), (950, im_ic 97 952), (952, im_ic 121 954), (954, im_ic 0 955), (955, im_ic 0 956), (956, im_invs 120 6 959), (959, im_last q_SH 960), (960, im_al 0 961), (961, im_gr q_SH 11 31 964), (964, im_ic 23 966), (966, im_ic 104 968), (968, im_ic 97 970)]
set_option maxRecDepth 20000 in
theorem o_X11_init_24 : ∀ q ∈ t_X11_init_24, am_ok vwCl q_SH ξ (q_E ξ β xs L) q_EN q_KD q_ML (cX11_init, 1, RX11, "<init>", none, []) q.1 q.2 :=
  List.forall_mem_cons.mpr ⟨⟨mo_ic _ _, Or.inl (ok_iconst (n := 0) (v := 0) (by decide) (by decide +kernel))⟩,
  List.forall_mem_cons.mpr ⟨⟨mo_ic _ _, Or.inl (ok_iconst (n := 0) (v := 0) (by decide) (by decide +kernel))⟩,
  List.forall_mem_cons.mpr ⟨⟨mo_invs _ _ _, Or.inr (Or.inl (ok_invs cw_X11_spelled (by decide) (by decide) ml_X11_268 cs_X11_spelled (show Cond.initialized (yX11_spelled).cls ∈ am_ts from ci9_RX11) ⟨by decide +kernel, by decide +kernel, by decide +kernel⟩ rfl (by decide +kernel)))⟩,
  List.forall_mem_cons.mpr ⟨⟨mo_last _ _, Or.inl (ok_last (by decide +kernel))⟩,
  List.forall_mem_cons.mpr ⟨⟨mo_al _ _, Or.inl (ok_aload_n (k := 0) rfl (by decide +kernel))⟩,
  List.forall_mem_cons.mpr ⟨⟨mo_gr _ _ _ _, Or.inl (ok_gr (C := RX11) (T := TX11) (N := 93) (ci := 11) (k := 31) rfl inX11 (by decide) fl_X11_137 (by decide +kernel) (by decide +kernel))⟩,
  List.forall_mem_cons.mpr ⟨⟨mo_ic _ _, Or.inl (ok_bipush (n := 22) (v := 22) (by decide) (by decide +kernel))⟩,
  List.forall_mem_cons.mpr ⟨⟨mo_ic _ _, Or.inl (ok_bipush (n := 115) (v := 115) (by decide) (by decide +kernel))⟩,
  List.forall_mem_cons.mpr ⟨⟨mo_ic _ _, Or.inl (ok_bipush (n := 116) (v := 116) (by decide) (by decide +kernel))⟩,
  List.forall_mem_cons.mpr ⟨⟨mo_ic _ _, Or.inl (ok_bipush (n := 97) (v := 97) (by decide) (by decide +kernel))⟩,
  List.forall_mem_cons.mpr ⟨⟨mo_ic _ _, Or.inl (ok_bipush (n := 121) (v := 121) (by decide) (by decide +kernel))⟩,
  List.forall_mem_cons.mpr ⟨⟨mo_ic _ _, Or.inl (ok_iconst (n := 0) (v := 0) (by decide) (by decide +kernel))⟩,
  List.forall_mem_cons.mpr ⟨⟨mo_ic _ _, Or.inl (ok_iconst (n := 0) (v := 0) (by decide) (by decide +kernel))⟩,
  List.forall_mem_cons.mpr ⟨⟨mo_invs _ _ _, Or.inr (Or.inl (ok_invs cw_X11_spelled (by decide) (by decide) ml_X11_268 cs_X11_spelled (show Cond.initialized (yX11_spelled).cls ∈ am_ts from ci9_RX11) ⟨by decide +kernel, by decide +kernel, by decide +kernel⟩ rfl (by decide +kernel)))⟩,
  List.forall_mem_cons.mpr ⟨⟨mo_last _ _, Or.inl (ok_last (by decide +kernel))⟩,
  List.forall_mem_cons.mpr ⟨⟨mo_al _ _, Or.inl (ok_aload_n (k := 0) rfl (by decide +kernel))⟩,
  List.forall_mem_cons.mpr ⟨⟨mo_gr _ _ _ _, Or.inl (ok_gr (C := RX11) (T := TX11) (N := 93) (ci := 11) (k := 31) rfl inX11 (by decide) fl_X11_137 (by decide +kernel) (by decide +kernel))⟩,
  List.forall_mem_cons.mpr ⟨⟨mo_ic _ _, Or.inl (ok_bipush (n := 23) (v := 23) (by decide) (by decide +kernel))⟩,
  List.forall_mem_cons.mpr ⟨⟨mo_ic _ _, Or.inl (ok_bipush (n := 104) (v := 104) (by decide) (by decide +kernel))⟩,
  List.forall_mem_cons.mpr ⟨⟨mo_ic _ _, Or.inl (ok_bipush (n := 97) (v := 97) (by decide) (by decide +kernel))⟩,
  fun _ h => absurd h List.not_mem_nil⟩⟩⟩⟩⟩⟩⟩⟩⟩⟩⟩⟩⟩⟩⟩⟩⟩⟩⟩⟩
def t_X11_init_25 : List (Nat × am_F) := [(970, im_ic 115 972), (972, im_ic 0 973), (973, im_ic 0 974), (974, im_ic 0 975), (975, im_invs 120 6 978), (978, im_last q_SH 979), (979, im_al 0 980), (980, im_gr q_SH 11 31 983), (983, im_ic 24 985), (985, im_ic 111 987), (987, im_ic 116 989), (989, im_ic 104 991), (991, im_ic 101 993), (993, im_ic 114 995), (995, im_ic 115 997), (997, im_invs 120 6 1000), (1000, im_last q_SH 1001), (1001, im_al 0 1002), (1002, im_gr q_SH 11 31 1005), (1005, im_ic 25 1007)]
set_option maxRecDepth 20000 in
theorem o_X11_init_25 : ∀ q ∈ t_X11_init_25, am_ok vwCl q_SH ξ (q_E ξ β xs L) q_EN q_KD q_ML (cX11_init, 1, RX11, "<init>", none, []) q.1 q.2 :=
  List.forall_mem_cons.mpr ⟨⟨mo_ic _ _, Or.inl (ok_bipush (n := 115) (v := 115) (by decide) (by decide +kernel))⟩,
  List.forall_mem_cons.mpr ⟨⟨mo_ic _ _, Or.inl (ok_iconst (n := 0) (v := 0) (by decide) (by decide +kernel))⟩,
  List.forall_mem_cons.mpr ⟨⟨mo_ic _ _, Or.inl (ok_iconst (n := 0) (v := 0) (by decide) (by decide +kernel))⟩,
  List.forall_mem_cons.mpr ⟨⟨mo_ic _ _, Or.inl (ok_iconst (n := 0) (v := 0) (by decide) (by decide +kernel))⟩,
  List.forall_mem_cons.mpr ⟨⟨mo_invs _ _ _, Or.inr (Or.inl (ok_invs cw_X11_spelled (by decide) (by decide) ml_X11_268 cs_X11_spelled (show Cond.initialized (yX11_spelled).cls ∈ am_ts from ci9_RX11) ⟨by decide +kernel, by decide +kernel, by decide +kernel⟩ rfl (by decide +kernel)))⟩,
  List.forall_mem_cons.mpr ⟨⟨mo_last _ _, Or.inl (ok_last (by decide +kernel))⟩,
  List.forall_mem_cons.mpr ⟨⟨mo_al _ _, Or.inl (ok_aload_n (k := 0) rfl (by decide +kernel))⟩,
  List.forall_mem_cons.mpr ⟨⟨mo_gr _ _ _ _, Or.inl (ok_gr (C := RX11) (T := TX11) (N := 93) (ci := 11) (k := 31) rfl inX11 (by decide) fl_X11_137 (by decide +kernel) (by decide +kernel))⟩,
  List.forall_mem_cons.mpr ⟨⟨mo_ic _ _, Or.inl (ok_bipush (n := 24) (v := 24) (by decide) (by decide +kernel))⟩,
  List.forall_mem_cons.mpr ⟨⟨mo_ic _ _, Or.inl (ok_bipush (n := 111) (v := 111) (by decide) (by decide +kernel))⟩,
  List.forall_mem_cons.mpr ⟨⟨mo_ic _ _, Or.inl (ok_bipush (n := 116) (v := 116) (by decide) (by decide +kernel))⟩,
  List.forall_mem_cons.mpr ⟨⟨mo_ic _ _, Or.inl (ok_bipush (n := 104) (v := 104) (by decide) (by decide +kernel))⟩,
  List.forall_mem_cons.mpr ⟨⟨mo_ic _ _, Or.inl (ok_bipush (n := 101) (v := 101) (by decide) (by decide +kernel))⟩,
  List.forall_mem_cons.mpr ⟨⟨mo_ic _ _, Or.inl (ok_bipush (n := 114) (v := 114) (by decide) (by decide +kernel))⟩,
  List.forall_mem_cons.mpr ⟨⟨mo_ic _ _, Or.inl (ok_bipush (n := 115) (v := 115) (by decide) (by decide +kernel))⟩,
  List.forall_mem_cons.mpr ⟨⟨mo_invs _ _ _, Or.inr (Or.inl (ok_invs cw_X11_spelled (by decide) (by decide) ml_X11_268 cs_X11_spelled (show Cond.initialized (yX11_spelled).cls ∈ am_ts from ci9_RX11) ⟨by decide +kernel, by decide +kernel, by decide +kernel⟩ rfl (by decide +kernel)))⟩,
  List.forall_mem_cons.mpr ⟨⟨mo_last _ _, Or.inl (ok_last (by decide +kernel))⟩,
  List.forall_mem_cons.mpr ⟨⟨mo_al _ _, Or.inl (ok_aload_n (k := 0) rfl (by decide +kernel))⟩,
  List.forall_mem_cons.mpr ⟨⟨mo_gr _ _ _ _, Or.inl (ok_gr (C := RX11) (T := TX11) (N := 93) (ci := 11) (k := 31) rfl inX11 (by decide) fl_X11_137 (by decide +kernel) (by decide +kernel))⟩,
  List.forall_mem_cons.mpr ⟨⟨mo_ic _ _, Or.inl (ok_bipush (n := 25) (v := 25) (by decide) (by decide +kernel))⟩,
  fun _ h => absurd h List.not_mem_nil⟩⟩⟩⟩⟩⟩⟩⟩⟩⟩⟩⟩⟩⟩⟩⟩⟩⟩⟩⟩
def t_X11_init_26 : List (Nat × am_F) := [(1007, im_ic 116 1009), (1009, im_ic 111 1011), (1011, im_ic 0 1012), (1012, im_ic 0 1013), (1013, im_ic 0 1014), (1014, im_ic 0 1015), (1015, im_invs 120 6 1018), (1018, im_last q_SH 1019), (1019, im_al 0 1020), (1020, im_gr q_SH 11 31 1023), (1023, im_ic 26 1025), (1025, im_ic 121 1027), (1027, im_ic 101 1029), (1029, im_ic 97 1031), (1031, im_ic 114 1033), (1033, im_ic 0 1034), (1034, im_ic 0 1035), (1035, im_invs 120 6 1038), (1038, im_last q_SH 1039), (1039, im_al 0 1040)]
set_option maxRecDepth 20000 in
theorem o_X11_init_26 : ∀ q ∈ t_X11_init_26, am_ok vwCl q_SH ξ (q_E ξ β xs L) q_EN q_KD q_ML (cX11_init, 1, RX11, "<init>", none, []) q.1 q.2 :=
  List.forall_mem_cons.mpr ⟨⟨mo_ic _ _, Or.inl (ok_bipush (n := 116) (v := 116) (by decide) (by decide +kernel))⟩,
  List.forall_mem_cons.mpr ⟨⟨mo_ic _ _, Or.inl (ok_bipush (n := 111) (v := 111) (by decide) (by decide +kernel))⟩,
  List.forall_mem_cons.mpr ⟨⟨mo_ic _ _, Or.inl (ok_iconst (n := 0) (v := 0) (by decide) (by decide +kernel))⟩,
  List.forall_mem_cons.mpr ⟨⟨mo_ic _ _, Or.inl (ok_iconst (n := 0) (v := 0) (by decide) (by decide +kernel))⟩,
  List.forall_mem_cons.mpr ⟨⟨mo_ic _ _, Or.inl (ok_iconst (n := 0) (v := 0) (by decide) (by decide +kernel))⟩,
  List.forall_mem_cons.mpr ⟨⟨mo_ic _ _, Or.inl (ok_iconst (n := 0) (v := 0) (by decide) (by decide +kernel))⟩,
  List.forall_mem_cons.mpr ⟨⟨mo_invs _ _ _, Or.inr (Or.inl (ok_invs cw_X11_spelled (by decide) (by decide) ml_X11_268 cs_X11_spelled (show Cond.initialized (yX11_spelled).cls ∈ am_ts from ci9_RX11) ⟨by decide +kernel, by decide +kernel, by decide +kernel⟩ rfl (by decide +kernel)))⟩,
  List.forall_mem_cons.mpr ⟨⟨mo_last _ _, Or.inl (ok_last (by decide +kernel))⟩,
  List.forall_mem_cons.mpr ⟨⟨mo_al _ _, Or.inl (ok_aload_n (k := 0) rfl (by decide +kernel))⟩,
  List.forall_mem_cons.mpr ⟨⟨mo_gr _ _ _ _, Or.inl (ok_gr (C := RX11) (T := TX11) (N := 93) (ci := 11) (k := 31) rfl inX11 (by decide) fl_X11_137 (by decide +kernel) (by decide +kernel))⟩,
  List.forall_mem_cons.mpr ⟨⟨mo_ic _ _, Or.inl (ok_bipush (n := 26) (v := 26) (by decide) (by decide +kernel))⟩,
  List.forall_mem_cons.mpr ⟨⟨mo_ic _ _, Or.inl (ok_bipush (n := 121) (v := 121) (by decide) (by decide +kernel))⟩,
  List.forall_mem_cons.mpr ⟨⟨mo_ic _ _, Or.inl (ok_bipush (n := 101) (v := 101) (by decide) (by decide +kernel))⟩,
  List.forall_mem_cons.mpr ⟨⟨mo_ic _ _, Or.inl (ok_bipush (n := 97) (v := 97) (by decide) (by decide +kernel))⟩,
  List.forall_mem_cons.mpr ⟨⟨mo_ic _ _, Or.inl (ok_bipush (n := 114) (v := 114) (by decide) (by decide +kernel))⟩,
  List.forall_mem_cons.mpr ⟨⟨mo_ic _ _, Or.inl (ok_iconst (n := 0) (v := 0) (by decide) (by decide +kernel))⟩,
  List.forall_mem_cons.mpr ⟨⟨mo_ic _ _, Or.inl (ok_iconst (n := 0) (v := 0) (by decide) (by decide +kernel))⟩,
  List.forall_mem_cons.mpr ⟨⟨mo_invs _ _ _, Or.inr (Or.inl (ok_invs cw_X11_spelled (by decide) (by decide) ml_X11_268 cs_X11_spelled (show Cond.initialized (yX11_spelled).cls ∈ am_ts from ci9_RX11) ⟨by decide +kernel, by decide +kernel, by decide +kernel⟩ rfl (by decide +kernel)))⟩,
  List.forall_mem_cons.mpr ⟨⟨mo_last _ _, Or.inl (ok_last (by decide +kernel))⟩,
  List.forall_mem_cons.mpr ⟨⟨mo_al _ _, Or.inl (ok_aload_n (k := 0) rfl (by decide +kernel))⟩,
  fun _ h => absurd h List.not_mem_nil⟩⟩⟩⟩⟩⟩⟩⟩⟩⟩⟩⟩⟩⟩⟩⟩⟩⟩⟩⟩
def t_X11_init_27 : List (Nat × am_F) := [(1040, im_gr q_SH 11 31 1043), (1043, im_ic 27 1045), (1045, im_ic 109 1047), (1047, im_ic 111 1049), (1049, im_ic 118 1051), (1051, im_ic 101 1053), (1053, im_ic 100 1055), (1055, im_ic 0 1056), (1056, im_invs 120 6 1059), (1059, im_last q_SH 1060), (1060, im_ret0e)]
set_option maxRecDepth 20000 in
theorem o_X11_init_27 : ∀ q ∈ t_X11_init_27, am_ok vwCl q_SH ξ (q_E ξ β xs L) q_EN q_KD q_ML (cX11_init, 1, RX11, "<init>", none, []) q.1 q.2 :=
  List.forall_mem_cons.mpr ⟨⟨mo_gr _ _ _ _, Or.inl (ok_gr (C := RX11) (T := TX11) (N := 93) (ci := 11) (k := 31) rfl inX11 (by decide) fl_X11_137 (by decide +kernel) (by decide +kernel))⟩,
  List.forall_mem_cons.mpr ⟨⟨mo_ic _ _, Or.inl (ok_bipush (n := 27) (v := 27) (by decide) (by decide +kernel))⟩,
  List.forall_mem_cons.mpr ⟨⟨mo_ic _ _, Or.inl (ok_bipush (n := 109) (v := 109) (by decide) (by decide +kernel))⟩,
  List.forall_mem_cons.mpr ⟨⟨mo_ic _ _, Or.inl (ok_bipush (n := 111) (v := 111) (by decide) (by decide +kernel))⟩,
  List.forall_mem_cons.mpr ⟨⟨mo_ic _ _, Or.inl (ok_bipush (n := 118) (v := 118) (by decide) (by decide +kernel))⟩,
  List.forall_mem_cons.mpr ⟨⟨mo_ic _ _, Or.inl (ok_bipush (n := 101) (v := 101) (by decide) (by decide +kernel))⟩,
  List.forall_mem_cons.mpr ⟨⟨mo_ic _ _, Or.inl (ok_bipush (n := 100) (v := 100) (by decide) (by decide +kernel))⟩,
  List.forall_mem_cons.mpr ⟨⟨mo_ic _ _, Or.inl (ok_iconst (n := 0) (v := 0) (by decide) (by decide +kernel))⟩,
  List.forall_mem_cons.mpr ⟨⟨mo_invs _ _ _, Or.inr (Or.inl (ok_invs cw_X11_spelled (by decide) (by decide) ml_X11_268 cs_X11_spelled (show Cond.initialized (yX11_spelled).cls ∈ am_ts from ci9_RX11) ⟨by decide +kernel, by decide +kernel, by decide +kernel⟩ rfl (by decide +kernel)))⟩,
  List.forall_mem_cons.mpr ⟨⟨mo_last _ _, Or.inl (ok_last (by decide +kernel))⟩,
  List.forall_mem_cons.mpr ⟨⟨mo_ret0e, Or.inr (Or.inr (ok_ret0 rfl (by decide +kernel)))⟩,
  fun _ h => absurd h List.not_mem_nil⟩⟩⟩⟩⟩⟩⟩⟩⟩⟩⟩
def t_X11_init : List (Nat × am_F) := t_X11_init_0 ++ (t_X11_init_1 ++ (t_X11_init_2 ++ (t_X11_init_3 ++ (t_X11_init_4 ++ (t_X11_init_5 ++ (t_X11_init_6 ++ (t_X11_init_7 ++ (t_X11_init_8 ++ (t_X11_init_9 ++ (t_X11_init_10 ++ (t_X11_init_11 ++ (t_X11_init_12 ++ (t_X11_init_13 ++ (t_X11_init_14 ++ (t_X11_init_15 ++ (t_X11_init_16 ++ (t_X11_init_17 ++ (t_X11_init_18 ++ (t_X11_init_19 ++ (t_X11_init_20 ++ (t_X11_init_21 ++ (t_X11_init_22 ++ (t_X11_init_23 ++ (t_X11_init_24 ++ (t_X11_init_25 ++ (t_X11_init_26 ++ (t_X11_init_27)))))))))))))))))))))))))))
theorem o_X11_init : ∀ q ∈ t_X11_init, am_ok vwCl q_SH ξ (q_E ξ β xs L) q_EN q_KD q_ML (cX11_init, 1, RX11, "<init>", none, []) q.1 q.2 := List.forall_mem_append.mpr ⟨o_X11_init_0, List.forall_mem_append.mpr ⟨o_X11_init_1, List.forall_mem_append.mpr ⟨o_X11_init_2, List.forall_mem_append.mpr ⟨o_X11_init_3, List.forall_mem_append.mpr ⟨o_X11_init_4, List.forall_mem_append.mpr ⟨o_X11_init_5, List.forall_mem_append.mpr ⟨o_X11_init_6, List.forall_mem_append.mpr ⟨o_X11_init_7, List.forall_mem_append.mpr ⟨o_X11_init_8, List.forall_mem_append.mpr ⟨o_X11_init_9, List.forall_mem_append.mpr ⟨o_X11_init_10, List.forall_mem_append.mpr ⟨o_X11_init_11, List.forall_mem_append.mpr ⟨o_X11_init_12, List.forall_mem_append.mpr ⟨o_X11_init_13, List.forall_mem_append.mpr ⟨o_X11_init_14, List.forall_mem_append.mpr ⟨o_X11_init_15, List.forall_mem_append.mpr ⟨o_X11_init_16, List.forall_mem_append.mpr ⟨o_X11_init_17, List.forall_mem_append.mpr ⟨o_X11_init_18, List.forall_mem_append.mpr ⟨o_X11_init_19, List.forall_mem_append.mpr ⟨o_X11_init_20, List.forall_mem_append.mpr ⟨o_X11_init_21, List.forall_mem_append.mpr ⟨o_X11_init_22, List.forall_mem_append.mpr ⟨o_X11_init_23, List.forall_mem_append.mpr ⟨o_X11_init_24, List.forall_mem_append.mpr ⟨o_X11_init_25, List.forall_mem_append.mpr ⟨o_X11_init_26, o_X11_init_27⟩⟩⟩⟩⟩⟩⟩⟩⟩⟩⟩⟩⟩⟩⟩⟩⟩⟩⟩⟩⟩⟩⟩⟩⟩⟩⟩
def t_X11_knownWord_0 : List (Nat × am_F) := [(0, im_al 0 1), (1, im_gi q_SH 11 25 4), (4, im_ic 1 5), (5, im_if2 ic_ne 17 8), (8, im_al 0 9), (9, im_gi q_SH 11 27 12), (12, im_ic 8 14), (14, im_if2 ic_le 19 17), (17, im_ic (-1) 18), (18, im_reti), (19, im_ic 0 20), (20, im_is 1 21), (21, im_il 1 22), (22, im_ic 28 24), (24, im_if2 ic_ge 49 27), (27, im_al 0 28), (28, im_gr q_SH 11 31 31), (31, im_il 1 32), (32, im_lald q_SH 33), (33, im_al 0 34)]
set_option maxRecDepth 20000 in
theorem o_X11_knownWord_0 : ∀ q ∈ t_X11_knownWord_0, am_ok vwCl q_SH ξ (q_E ξ β xs L) q_EN q_KD q_ML (cX11_knownWord, 2, RX11, "knownWord", (some .int), []) q.1 q.2 :=
  List.forall_mem_cons.mpr ⟨⟨mo_al _ _, Or.inl (ok_aload_n (k := 0) rfl (by decide +kernel))⟩,
  List.forall_mem_cons.mpr ⟨⟨mo_gi _ _ _ _, Or.inl (ok_gi (C := RX11) (T := TX11) (N := 93) (ci := 11) (k := 25) rfl inX11 (by decide) fl_X11_116 (by decide +kernel) (by decide +kernel))⟩,
  List.forall_mem_cons.mpr ⟨⟨mo_ic _ _, Or.inl (ok_iconst (n := 1) (v := 1) (by decide) (by decide +kernel))⟩,
  List.forall_mem_cons.mpr ⟨⟨mo_if2 _ _ _, Or.inl (ok_icmp_ne (off := 12) (by decide) (by decide +kernel))⟩,
  List.forall_mem_cons.mpr ⟨⟨mo_al _ _, Or.inl (ok_aload_n (k := 0) rfl (by decide +kernel))⟩,
  List.forall_mem_cons.mpr ⟨⟨mo_gi _ _ _ _, Or.inl (ok_gi (C := RX11) (T := TX11) (N := 93) (ci := 11) (k := 27) rfl inX11 (by decide) fl_X11_125 (by decide +kernel) (by decide +kernel))⟩,
  List.forall_mem_cons.mpr ⟨⟨mo_ic _ _, Or.inl (ok_bipush (n := 8) (v := 8) (by decide) (by decide +kernel))⟩,
  List.forall_mem_cons.mpr ⟨⟨mo_if2 _ _ _, Or.inl (ok_icmp_le (off := 5) (by decide) (by decide +kernel))⟩,
  List.forall_mem_cons.mpr ⟨⟨mo_ic _ _, Or.inl (ok_iconst (n := (-1)) (v := (-1)) (by decide) (by decide +kernel))⟩,
  List.forall_mem_cons.mpr ⟨⟨mo_reti, Or.inr (Or.inr (ok_reti rfl (by decide +kernel)))⟩,
  List.forall_mem_cons.mpr ⟨⟨mo_ic _ _, Or.inl (ok_iconst (n := 0) (v := 0) (by decide) (by decide +kernel))⟩,
  List.forall_mem_cons.mpr ⟨⟨mo_is _ _, Or.inl (ok_istore_n (k := 1) rfl (by decide) (by decide +kernel))⟩,
  List.forall_mem_cons.mpr ⟨⟨mo_il _ _, Or.inl (ok_iload_n (k := 1) rfl (by decide +kernel))⟩,
  List.forall_mem_cons.mpr ⟨⟨mo_ic _ _, Or.inl (ok_bipush (n := 28) (v := 28) (by decide) (by decide +kernel))⟩,
  List.forall_mem_cons.mpr ⟨⟨mo_if2 _ _ _, Or.inl (ok_icmp_ge (off := 25) (by decide) (by decide +kernel))⟩,
  List.forall_mem_cons.mpr ⟨⟨mo_al _ _, Or.inl (ok_aload_n (k := 0) rfl (by decide +kernel))⟩,
  List.forall_mem_cons.mpr ⟨⟨mo_gr _ _ _ _, Or.inl (ok_gr (C := RX11) (T := TX11) (N := 93) (ci := 11) (k := 31) rfl inX11 (by decide) fl_X11_137 (by decide +kernel) (by decide +kernel))⟩,
  List.forall_mem_cons.mpr ⟨⟨mo_il _ _, Or.inl (ok_iload_n (k := 1) rfl (by decide +kernel))⟩,
  List.forall_mem_cons.mpr ⟨⟨mo_lald _ _, Or.inl (ok_lald (by decide +kernel))⟩,
  List.forall_mem_cons.mpr ⟨⟨mo_al _ _, Or.inl (ok_aload_n (k := 0) rfl (by decide +kernel))⟩,
  fun _ h => absurd h List.not_mem_nil⟩⟩⟩⟩⟩⟩⟩⟩⟩⟩⟩⟩⟩⟩⟩⟩⟩⟩⟩⟩
def t_X11_knownWord_1 : List (Nat × am_F) := [(34, im_gl q_SH 11 30 37), (37, im_lcmp 38), (38, im_if1 ib_ne 43 41), (41, im_il 1 42), (42, im_reti), (43, im_iinc 1 1 46), (46, im_go 21), (49, im_ic (-1) 50), (50, im_reti)]
set_option maxRecDepth 20000 in
theorem o_X11_knownWord_1 : ∀ q ∈ t_X11_knownWord_1, am_ok vwCl q_SH ξ (q_E ξ β xs L) q_EN q_KD q_ML (cX11_knownWord, 2, RX11, "knownWord", (some .int), []) q.1 q.2 :=
  List.forall_mem_cons.mpr ⟨⟨mo_gl _ _ _ _, Or.inl (ok_gl (C := RX11) (T := TX11) (N := 93) (ci := 11) (k := 30) rfl inX11 (by decide) fl_X11_106 (by decide +kernel) (by decide +kernel))⟩,
  List.forall_mem_cons.mpr ⟨⟨mo_lcmp _, Or.inl (ok_lcmp (by decide +kernel))⟩,
  List.forall_mem_cons.mpr ⟨⟨mo_if1 _ _ _, Or.inl (ok_if_ne (off := 5) (by decide) (by decide +kernel))⟩,
  List.forall_mem_cons.mpr ⟨⟨mo_il _ _, Or.inl (ok_iload_n (k := 1) rfl (by decide +kernel))⟩,
  List.forall_mem_cons.mpr ⟨⟨mo_reti, Or.inr (Or.inr (ok_reti rfl (by decide +kernel)))⟩,
  List.forall_mem_cons.mpr ⟨⟨mo_iinc _ _ _, Or.inl (ok_iinc (n := 1) (v := 1) (by decide) (by decide) (by decide +kernel))⟩,
  List.forall_mem_cons.mpr ⟨⟨mo_go _, Or.inl (ok_goto (off := (-25)) (by decide) (by decide +kernel))⟩,
  List.forall_mem_cons.mpr ⟨⟨mo_ic _ _, Or.inl (ok_iconst (n := (-1)) (v := (-1)) (by decide) (by decide +kernel))⟩,
  List.forall_mem_cons.mpr ⟨⟨mo_reti, Or.inr (Or.inr (ok_reti rfl (by decide +kernel)))⟩,
  fun _ h => absurd h List.not_mem_nil⟩⟩⟩⟩⟩⟩⟩⟩⟩
def t_X11_knownWord : List (Nat × am_F) := t_X11_knownWord_0 ++ (t_X11_knownWord_1)
theorem o_X11_knownWord : ∀ q ∈ t_X11_knownWord, am_ok vwCl q_SH ξ (q_E ξ β xs L) q_EN q_KD q_ML (cX11_knownWord, 2, RX11, "knownWord", (some .int), []) q.1 q.2 := List.forall_mem_append.mpr ⟨o_X11_knownWord_0, o_X11_knownWord_1⟩
def t_X11_wrong_0 : List (Nat × am_F) := [(0, im_al 0 1), (1, im_gi q_SH 11 21 4), (4, im_if1 ib_eq 8 7), (7, im_ret0e), (8, im_al 0 9), (9, im_il 1 10), (10, im_pi q_SH 11 21 13), (13, im_al 0 14), (14, im_al 0 15), (15, im_gi q_SH 11 26 18), (18, im_pi q_SH 11 22 21), (21, im_ret0e)]
set_option maxRecDepth 20000 in
theorem o_X11_wrong_0 : ∀ q ∈ t_X11_wrong_0, am_ok vwCl q_SH ξ (q_E ξ β xs L) q_EN q_KD q_ML (cX11_wrong, 2, RX11, "wrong", none, []) q.1 q.2 :=
  List.forall_mem_cons.mpr ⟨⟨mo_al _ _, Or.inl (ok_aload_n (k := 0) rfl (by decide +kernel))⟩,
  List.forall_mem_cons.mpr ⟨⟨mo_gi _ _ _ _, Or.inl (ok_gi (C := RX11) (T := TX11) (N := 93) (ci := 11) (k := 21) rfl inX11 (by decide) fl_X11_276 (by decide +kernel) (by decide +kernel))⟩,
  List.forall_mem_cons.mpr ⟨⟨mo_if1 _ _ _, Or.inl (ok_if_eq (off := 4) (by decide) (by decide +kernel))⟩,
  List.forall_mem_cons.mpr ⟨⟨mo_ret0e, Or.inr (Or.inr (ok_ret0 rfl (by decide +kernel)))⟩,
  List.forall_mem_cons.mpr ⟨⟨mo_al _ _, Or.inl (ok_aload_n (k := 0) rfl (by decide +kernel))⟩,
  List.forall_mem_cons.mpr ⟨⟨mo_il _ _, Or.inl (ok_iload_n (k := 1) rfl (by decide +kernel))⟩,
  List.forall_mem_cons.mpr ⟨⟨mo_pi _ _ _ _, Or.inl (ok_pi (ty := .int) (C := RX11) (T := TX11) (N := 93) (ci := 11) (k := 21) rfl inX11 (by decide) fl_X11_276 (by decide +kernel) tyX11 tyX11_ok nmX11 (by decide +kernel) (by decide +kernel) (by decide +kernel))⟩,
  List.forall_mem_cons.mpr ⟨⟨mo_al _ _, Or.inl (ok_aload_n (k := 0) rfl (by decide +kernel))⟩,
  List.forall_mem_cons.mpr ⟨⟨mo_al _ _, Or.inl (ok_aload_n (k := 0) rfl (by decide +kernel))⟩,
  List.forall_mem_cons.mpr ⟨⟨mo_gi _ _ _ _, Or.inl (ok_gi (C := RX11) (T := TX11) (N := 93) (ci := 11) (k := 26) rfl inX11 (by decide) fl_X11_103 (by decide +kernel) (by decide +kernel))⟩,
  List.forall_mem_cons.mpr ⟨⟨mo_pi _ _ _ _, Or.inl (ok_pi (ty := .int) (C := RX11) (T := TX11) (N := 93) (ci := 11) (k := 22) rfl inX11 (by decide) fl_X11_134 (by decide +kernel) tyX11 tyX11_ok nmX11 (by decide +kernel) (by decide +kernel) (by decide +kernel))⟩,
  List.forall_mem_cons.mpr ⟨⟨mo_ret0e, Or.inr (Or.inr (ok_ret0 rfl (by decide +kernel)))⟩,
  fun _ h => absurd h List.not_mem_nil⟩⟩⟩⟩⟩⟩⟩⟩⟩⟩⟩⟩
def t_X11_wrong : List (Nat × am_F) := t_X11_wrong_0
theorem o_X11_wrong : ∀ q ∈ t_X11_wrong, am_ok vwCl q_SH ξ (q_E ξ β xs L) q_EN q_KD q_ML (cX11_wrong, 2, RX11, "wrong", none, []) q.1 q.2 := o_X11_wrong_0
def t_X11_isGood_0 : List (Nat × am_F) := [(0, im_al 0 1), (1, im_gi q_SH 11 21 4), (4, im_if1 ib_ne 11 7), (7, im_ic 1 8), (8, im_go 12), (11, im_ic 0 12), (12, im_retz)]
set_option maxRecDepth 20000 in
theorem o_X11_isGood_0 : ∀ q ∈ t_X11_isGood_0, am_ok vwCl q_SH ξ (q_E ξ β xs L) q_EN q_KD q_ML (cX11_isGood, 1, RX11, "isGood", (some .boolean), []) q.1 q.2 :=
  List.forall_mem_cons.mpr ⟨⟨mo_al _ _, Or.inl (ok_aload_n (k := 0) rfl (by decide +kernel))⟩,
  List.forall_mem_cons.mpr ⟨⟨mo_gi _ _ _ _, Or.inl (ok_gi (C := RX11) (T := TX11) (N := 93) (ci := 11) (k := 21) rfl inX11 (by decide) fl_X11_276 (by decide +kernel) (by decide +kernel))⟩,
  List.forall_mem_cons.mpr ⟨⟨mo_if1 _ _ _, Or.inl (ok_if_ne (off := 7) (by decide) (by decide +kernel))⟩,
  List.forall_mem_cons.mpr ⟨⟨mo_ic _ _, Or.inl (ok_iconst (n := 1) (v := 1) (by decide) (by decide +kernel))⟩,
  List.forall_mem_cons.mpr ⟨⟨mo_go _, Or.inl (ok_goto (off := 4) (by decide) (by decide +kernel))⟩,
  List.forall_mem_cons.mpr ⟨⟨mo_ic _ _, Or.inl (ok_iconst (n := 0) (v := 0) (by decide) (by decide +kernel))⟩,
  List.forall_mem_cons.mpr ⟨⟨mo_retz, Or.inr (Or.inr (ok_retz rfl (by decide +kernel)))⟩,
  fun _ h => absurd h List.not_mem_nil⟩⟩⟩⟩⟩⟩⟩
def t_X11_isGood : List (Nat × am_F) := t_X11_isGood_0
theorem o_X11_isGood : ∀ q ∈ t_X11_isGood, am_ok vwCl q_SH ξ (q_E ξ β xs L) q_EN q_KD q_ML (cX11_isGood, 1, RX11, "isGood", (some .boolean), []) q.1 q.2 := o_X11_isGood_0
def t_X11_isSign_0 : List (Nat × am_F) := [(0, im_al 0 1), (1, im_gi q_SH 11 25 4), (4, im_ic 3 5), (5, im_if2 ic_ne 20 8), (8, im_al 0 9), (9, im_gi q_SH 11 29 12), (12, im_il 1 13), (13, im_if2 ic_ne 20 16), (16, im_ic 1 17), (17, im_go 21), (20, im_ic 0 21), (21, im_retz)]
set_option maxRecDepth 20000 in
theorem o_X11_isSign_0 : ∀ q ∈ t_X11_isSign_0, am_ok vwCl q_SH ξ (q_E ξ β xs L) q_EN q_KD q_ML (cX11_isSign, 2, RX11, "isSign", (some .boolean), []) q.1 q.2 :=
  List.forall_mem_cons.mpr ⟨⟨mo_al _ _, Or.inl (ok_aload_n (k := 0) rfl (by decide +kernel))⟩,
  List.forall_mem_cons.mpr ⟨⟨mo_gi _ _ _ _, Or.inl (ok_gi (C := RX11) (T := TX11) (N := 93) (ci := 11) (k := 25) rfl inX11 (by decide) fl_X11_116 (by decide +kernel) (by decide +kernel))⟩,
  List.forall_mem_cons.mpr ⟨⟨mo_ic _ _, Or.inl (ok_iconst (n := 3) (v := 3) (by decide) (by decide +kernel))⟩,
  List.forall_mem_cons.mpr ⟨⟨mo_if2 _ _ _, Or.inl (ok_icmp_ne (off := 15) (by decide) (by decide +kernel))⟩,
  List.forall_mem_cons.mpr ⟨⟨mo_al _ _, Or.inl (ok_aload_n (k := 0) rfl (by decide +kernel))⟩,
  List.forall_mem_cons.mpr ⟨⟨mo_gi _ _ _ _, Or.inl (ok_gi (C := RX11) (T := TX11) (N := 93) (ci := 11) (k := 29) rfl inX11 (by decide) fl_X11_113 (by decide +kernel) (by decide +kernel))⟩,
  List.forall_mem_cons.mpr ⟨⟨mo_il _ _, Or.inl (ok_iload_n (k := 1) rfl (by decide +kernel))⟩,
  List.forall_mem_cons.mpr ⟨⟨mo_if2 _ _ _, Or.inl (ok_icmp_ne (off := 7) (by decide) (by decide +kernel))⟩,
  List.forall_mem_cons.mpr ⟨⟨mo_ic _ _, Or.inl (ok_iconst (n := 1) (v := 1) (by decide) (by decide +kernel))⟩,
  List.forall_mem_cons.mpr ⟨⟨mo_go _, Or.inl (ok_goto (off := 4) (by decide) (by decide +kernel))⟩,
  List.forall_mem_cons.mpr ⟨⟨mo_ic _ _, Or.inl (ok_iconst (n := 0) (v := 0) (by decide) (by decide +kernel))⟩,
  List.forall_mem_cons.mpr ⟨⟨mo_retz, Or.inr (Or.inr (ok_retz rfl (by decide +kernel)))⟩,
  fun _ h => absurd h List.not_mem_nil⟩⟩⟩⟩⟩⟩⟩⟩⟩⟩⟩⟩
def t_X11_isSign : List (Nat × am_F) := t_X11_isSign_0
theorem o_X11_isSign : ∀ q ∈ t_X11_isSign, am_ok vwCl q_SH ξ (q_E ξ β xs L) q_EN q_KD q_ML (cX11_isSign, 2, RX11, "isSign", (some .boolean), []) q.1 q.2 := o_X11_isSign_0
def t_X11_puts_0 : List (Nat × am_F) := [(0, im_al 0 1), (1, im_gr q_SH 11 48 4), (4, im_al 0 5), (5, im_gi q_SH 11 33 8), (8, im_il 1 9), (9, im_ast q_SH .int (fun x => x) 10), (10, im_al 0 11), (11, im_dup 12), (12, im_gi q_SH 11 33 15), (15, im_ic 1 16), (16, im_bin (fun x y => x + y) 17), (17, im_pi q_SH 11 33 20), (20, im_ret0e)]
set_option maxRecDepth 20000 in
theorem o_X11_puts_0 : ∀ q ∈ t_X11_puts_0, am_ok vwCl q_SH ξ (q_E ξ β xs L) q_EN q_KD q_ML (cX11_puts, 2, RX11, "puts", none, []) q.1 q.2 :=
  List.forall_mem_cons.mpr ⟨⟨mo_al _ _, Or.inl (ok_aload_n (k := 0) rfl (by decide +kernel))⟩,
  List.forall_mem_cons.mpr ⟨⟨mo_gr _ _ _ _, Or.inl (ok_gr (C := RX11) (T := TX11) (N := 93) (ci := 11) (k := 48) rfl inX11 (by decide) fl_X11_174 (by decide +kernel) (by decide +kernel))⟩,
  List.forall_mem_cons.mpr ⟨⟨mo_al _ _, Or.inl (ok_aload_n (k := 0) rfl (by decide +kernel))⟩,
  List.forall_mem_cons.mpr ⟨⟨mo_gi _ _ _ _, Or.inl (ok_gi (C := RX11) (T := TX11) (N := 93) (ci := 11) (k := 33) rfl inX11 (by decide) fl_X11_279 (by decide +kernel) (by decide +kernel))⟩,
  List.forall_mem_cons.mpr ⟨⟨mo_il _ _, Or.inl (ok_iload_n (k := 1) rfl (by decide +kernel))⟩,
  List.forall_mem_cons.mpr ⟨⟨mo_ast _ _ _ _, Or.inl (ok_iast (by decide +kernel))⟩,
  List.forall_mem_cons.mpr ⟨⟨mo_al _ _, Or.inl (ok_aload_n (k := 0) rfl (by decide +kernel))⟩,
  List.forall_mem_cons.mpr ⟨⟨mo_dup _, Or.inl (ok_dup (by decide +kernel))⟩,
  List.forall_mem_cons.mpr ⟨⟨mo_gi _ _ _ _, Or.inl (ok_gi (C := RX11) (T := TX11) (N := 93) (ci := 11) (k := 33) rfl inX11 (by decide) fl_X11_279 (by decide +kernel) (by decide +kernel))⟩,
  List.forall_mem_cons.mpr ⟨⟨mo_ic _ _, Or.inl (ok_iconst (n := 1) (v := 1) (by decide) (by decide +kernel))⟩,
  List.forall_mem_cons.mpr ⟨⟨mo_bin _ _, Or.inl (ok_iadd (by decide +kernel))⟩,
  List.forall_mem_cons.mpr ⟨⟨mo_pi _ _ _ _, Or.inl (ok_pi (ty := .int) (C := RX11) (T := TX11) (N := 93) (ci := 11) (k := 33) rfl inX11 (by decide) fl_X11_279 (by decide +kernel) tyX11 tyX11_ok nmX11 (by decide +kernel) (by decide +kernel) (by decide +kernel))⟩,
  List.forall_mem_cons.mpr ⟨⟨mo_ret0e, Or.inr (Or.inr (ok_ret0 rfl (by decide +kernel)))⟩,
  fun _ h => absurd h List.not_mem_nil⟩⟩⟩⟩⟩⟩⟩⟩⟩⟩⟩⟩⟩
def t_X11_puts : List (Nat × am_F) := t_X11_puts_0
theorem o_X11_puts : ∀ q ∈ t_X11_puts, am_ok vwCl q_SH ξ (q_E ξ β xs L) q_EN q_KD q_ML (cX11_puts, 2, RX11, "puts", none, []) q.1 q.2 := o_X11_puts_0
def t_X11_strength_0 : List (Nat × am_F) := [(0, im_il 0 1), (1, im_ic 12 3), (3, im_if2 ic_ne 10 6), (6, im_ic 0 7), (7, im_go 71), (10, im_il 0 11), (11, im_ic 5 12), (12, im_if2 ic_ne 19 15), (15, im_ic 1 16), (16, im_go 71), (19, im_il 0 20), (20, im_ic 4 21), (21, im_if2 ic_ne 28 24), (24, im_ic 2 25), (25, im_go 71), (28, im_il 0 29), (29, im_ic 3 30), (30, im_if2 ic_ne 37 33), (33, im_ic 3 34), (34, im_go 71)]
set_option maxRecDepth 20000 in
theorem o_X11_strength_0 : ∀ q ∈ t_X11_strength_0, am_ok vwCl q_SH ξ (q_E ξ β xs L) q_EN q_KD q_ML (cX11_strength, 1, RX11, "strength", (some .int), []) q.1 q.2 :=
  List.forall_mem_cons.mpr ⟨⟨mo_il _ _, Or.inl (ok_iload_n (k := 0) rfl (by decide +kernel))⟩,
  List.forall_mem_cons.mpr ⟨⟨mo_ic _ _, Or.inl (ok_bipush (n := 12) (v := 12) (by decide) (by decide +kernel))⟩,
  List.forall_mem_cons.mpr ⟨⟨mo_if2 _ _ _, Or.inl (ok_icmp_ne (off := 7) (by decide) (by decide +kernel))⟩,
  List.forall_mem_cons.mpr ⟨⟨mo_ic _ _, Or.inl (ok_iconst (n := 0) (v := 0) (by decide) (by decide +kernel))⟩,
  List.forall_mem_cons.mpr ⟨⟨mo_go _, Or.inl (ok_goto (off := 64) (by decide) (by decide +kernel))⟩,
  List.forall_mem_cons.mpr ⟨⟨mo_il _ _, Or.inl (ok_iload_n (k := 0) rfl (by decide +kernel))⟩,
  List.forall_mem_cons.mpr ⟨⟨mo_ic _ _, Or.inl (ok_iconst (n := 5) (v := 5) (by decide) (by decide +kernel))⟩,
  List.forall_mem_cons.mpr ⟨⟨mo_if2 _ _ _, Or.inl (ok_icmp_ne (off := 7) (by decide) (by decide +kernel))⟩,
  List.forall_mem_cons.mpr ⟨⟨mo_ic _ _, Or.inl (ok_iconst (n := 1) (v := 1) (by decide) (by decide +kernel))⟩,
  List.forall_mem_cons.mpr ⟨⟨mo_go _, Or.inl (ok_goto (off := 55) (by decide) (by decide +kernel))⟩,
  List.forall_mem_cons.mpr ⟨⟨mo_il _ _, Or.inl (ok_iload_n (k := 0) rfl (by decide +kernel))⟩,
  List.forall_mem_cons.mpr ⟨⟨mo_ic _ _, Or.inl (ok_iconst (n := 4) (v := 4) (by decide) (by decide +kernel))⟩,
  List.forall_mem_cons.mpr ⟨⟨mo_if2 _ _ _, Or.inl (ok_icmp_ne (off := 7) (by decide) (by decide +kernel))⟩,
  List.forall_mem_cons.mpr ⟨⟨mo_ic _ _, Or.inl (ok_iconst (n := 2) (v := 2) (by decide) (by decide +kernel))⟩,
  List.forall_mem_cons.mpr ⟨⟨mo_go _, Or.inl (ok_goto (off := 46) (by decide) (by decide +kernel))⟩,
  List.forall_mem_cons.mpr ⟨⟨mo_il _ _, Or.inl (ok_iload_n (k := 0) rfl (by decide +kernel))⟩,
  List.forall_mem_cons.mpr ⟨⟨mo_ic _ _, Or.inl (ok_iconst (n := 3) (v := 3) (by decide) (by decide +kernel))⟩,
  List.forall_mem_cons.mpr ⟨⟨mo_if2 _ _ _, Or.inl (ok_icmp_ne (off := 7) (by decide) (by decide +kernel))⟩,
  List.forall_mem_cons.mpr ⟨⟨mo_ic _ _, Or.inl (ok_iconst (n := 3) (v := 3) (by decide) (by decide +kernel))⟩,
  List.forall_mem_cons.mpr ⟨⟨mo_go _, Or.inl (ok_goto (off := 37) (by decide) (by decide +kernel))⟩,
  fun _ h => absurd h List.not_mem_nil⟩⟩⟩⟩⟩⟩⟩⟩⟩⟩⟩⟩⟩⟩⟩⟩⟩⟩⟩⟩
def t_X11_strength_1 : List (Nat × am_F) := [(37, im_il 0 38), (38, im_ic 6 40), (40, im_if2 ic_eq 49 43), (43, im_il 0 44), (44, im_ic 7 46), (46, im_if2 ic_ne 53 49), (49, im_ic 4 50), (50, im_go 71), (53, im_il 0 54), (54, im_ic 8 56), (56, im_if2 ic_eq 65 59), (59, im_il 0 60), (60, im_ic 9 62), (62, im_if2 ic_ne 69 65), (65, im_ic 5 66), (66, im_go 71), (69, im_ic 6 71), (71, im_reti)]
set_option maxRecDepth 20000 in
theorem o_X11_strength_1 : ∀ q ∈ t_X11_strength_1, am_ok vwCl q_SH ξ (q_E ξ β xs L) q_EN q_KD q_ML (cX11_strength, 1, RX11, "strength", (some .int), []) q.1 q.2 :=
  List.forall_mem_cons.mpr ⟨⟨mo_il _ _, Or.inl (ok_iload_n (k := 0) rfl (by decide +kernel))⟩,
  List.forall_mem_cons.mpr ⟨⟨mo_ic _ _, Or.inl (ok_bipush (n := 6) (v := 6) (by decide) (by decide +kernel))⟩,
  List.forall_mem_cons.mpr ⟨⟨mo_if2 _ _ _, Or.inl (ok_icmp_eq (off := 9) (by decide) (by decide +kernel))⟩,
  List.forall_mem_cons.mpr ⟨⟨mo_il _ _, Or.inl (ok_iload_n (k := 0) rfl (by decide +kernel))⟩,
  List.forall_mem_cons.mpr ⟨⟨mo_ic _ _, Or.inl (ok_bipush (n := 7) (v := 7) (by decide) (by decide +kernel))⟩,
  List.forall_mem_cons.mpr ⟨⟨mo_if2 _ _ _, Or.inl (ok_icmp_ne (off := 7) (by decide) (by decide +kernel))⟩,
  List.forall_mem_cons.mpr ⟨⟨mo_ic _ _, Or.inl (ok_iconst (n := 4) (v := 4) (by decide) (by decide +kernel))⟩,
  List.forall_mem_cons.mpr ⟨⟨mo_go _, Or.inl (ok_goto (off := 21) (by decide) (by decide +kernel))⟩,
  List.forall_mem_cons.mpr ⟨⟨mo_il _ _, Or.inl (ok_iload_n (k := 0) rfl (by decide +kernel))⟩,
  List.forall_mem_cons.mpr ⟨⟨mo_ic _ _, Or.inl (ok_bipush (n := 8) (v := 8) (by decide) (by decide +kernel))⟩,
  List.forall_mem_cons.mpr ⟨⟨mo_if2 _ _ _, Or.inl (ok_icmp_eq (off := 9) (by decide) (by decide +kernel))⟩,
  List.forall_mem_cons.mpr ⟨⟨mo_il _ _, Or.inl (ok_iload_n (k := 0) rfl (by decide +kernel))⟩,
  List.forall_mem_cons.mpr ⟨⟨mo_ic _ _, Or.inl (ok_bipush (n := 9) (v := 9) (by decide) (by decide +kernel))⟩,
  List.forall_mem_cons.mpr ⟨⟨mo_if2 _ _ _, Or.inl (ok_icmp_ne (off := 7) (by decide) (by decide +kernel))⟩,
  List.forall_mem_cons.mpr ⟨⟨mo_ic _ _, Or.inl (ok_iconst (n := 5) (v := 5) (by decide) (by decide +kernel))⟩,
  List.forall_mem_cons.mpr ⟨⟨mo_go _, Or.inl (ok_goto (off := 5) (by decide) (by decide +kernel))⟩,
  List.forall_mem_cons.mpr ⟨⟨mo_ic _ _, Or.inl (ok_bipush (n := 6) (v := 6) (by decide) (by decide +kernel))⟩,
  List.forall_mem_cons.mpr ⟨⟨mo_reti, Or.inr (Or.inr (ok_reti rfl (by decide +kernel)))⟩,
  fun _ h => absurd h List.not_mem_nil⟩⟩⟩⟩⟩⟩⟩⟩⟩⟩⟩⟩⟩⟩⟩⟩⟩⟩
def t_X11_strength : List (Nat × am_F) := t_X11_strength_0 ++ (t_X11_strength_1)
theorem o_X11_strength : ∀ q ∈ t_X11_strength, am_ok vwCl q_SH ξ (q_E ξ β xs L) q_EN q_KD q_ML (cX11_strength, 1, RX11, "strength", (some .int), []) q.1 q.2 := List.forall_mem_append.mpr ⟨o_X11_strength_0, o_X11_strength_1⟩
def t_X11_drops_0 : List (Nat × am_F) := [(0, im_al 0 1), (1, im_gi q_SH 11 34 4), (4, im_if1 ib_le 67 7), (7, im_al 0 8), (8, im_gr q_SH 11 49 11), (11, im_al 0 12), (12, im_gi q_SH 11 34 15), (15, im_ic 1 16), (16, im_bin (fun x y => x - y) 17), (17, im_ald q_SH .int 18), (18, im_ic 12 20), (20, im_if2 ic_eq 67 23), (23, im_al 0 24), (24, im_gr q_SH 11 49 27), (27, im_al 0 28), (28, im_gi q_SH 11 34 31), (31, im_ic 1 32), (32, im_bin (fun x y => x - y) 33), (33, im_ald q_SH .int 34), (34, im_invs 127 1 37)]
set_option maxRecDepth 20000 in
theorem o_X11_drops_0 : ∀ q ∈ t_X11_drops_0, am_ok vwCl q_SH ξ (q_E ξ β xs L) q_EN q_KD q_ML (cX11_drops, 2, RX11, "drops", none, []) q.1 q.2 :=
  List.forall_mem_cons.mpr ⟨⟨mo_al _ _, Or.inl (ok_aload_n (k := 0) rfl (by decide +kernel))⟩,
  List.forall_mem_cons.mpr ⟨⟨mo_gi _ _ _ _, Or.inl (ok_gi (C := RX11) (T := TX11) (N := 93) (ci := 11) (k := 34) rfl inX11 (by decide) fl_X11_282 (by decide +kernel) (by decide +kernel))⟩,
  List.forall_mem_cons.mpr ⟨⟨mo_if1 _ _ _, Or.inl (ok_if_le (off := 63) (by decide) (by decide +kernel))⟩,
  List.forall_mem_cons.mpr ⟨⟨mo_al _ _, Or.inl (ok_aload_n (k := 0) rfl (by decide +kernel))⟩,
  List.forall_mem_cons.mpr ⟨⟨mo_gr _ _ _ _, Or.inl (ok_gr (C := RX11) (T := TX11) (N := 93) (ci := 11) (k := 49) rfl inX11 (by decide) fl_X11_177 (by decide +kernel) (by decide +kernel))⟩,
  List.forall_mem_cons.mpr ⟨⟨mo_al _ _, Or.inl (ok_aload_n (k := 0) rfl (by decide +kernel))⟩,
  List.forall_mem_cons.mpr ⟨⟨mo_gi _ _ _ _, Or.inl (ok_gi (C := RX11) (T := TX11) (N := 93) (ci := 11) (k := 34) rfl inX11 (by decide) fl_X11_282 (by decide +kernel) (by decide +kernel))⟩,
  List.forall_mem_cons.mpr ⟨⟨mo_ic _ _, Or.inl (ok_iconst (n := 1) (v := 1) (by decide) (by decide +kernel))⟩,
  List.forall_mem_cons.mpr ⟨⟨mo_bin _ _, Or.inl (ok_isub (by decide +kernel))⟩,
  List.forall_mem_cons.mpr ⟨⟨mo_ald _ _ _, Or.inl (ok_iald (by decide +kernel))⟩,
  List.forall_mem_cons.mpr ⟨⟨mo_ic _ _, Or.inl (ok_bipush (n := 12) (v := 12) (by decide) (by decide +kernel))⟩,
  List.forall_mem_cons.mpr ⟨⟨mo_if2 _ _ _, Or.inl (ok_icmp_eq (off := 47) (by decide) (by decide +kernel))⟩,
  List.forall_mem_cons.mpr ⟨⟨mo_al _ _, Or.inl (ok_aload_n (k := 0) rfl (by decide +kernel))⟩,
  List.forall_mem_cons.mpr ⟨⟨mo_gr _ _ _ _, Or.inl (ok_gr (C := RX11) (T := TX11) (N := 93) (ci := 11) (k := 49) rfl inX11 (by decide) fl_X11_177 (by decide +kernel) (by decide +kernel))⟩,
  List.forall_mem_cons.mpr ⟨⟨mo_al _ _, Or.inl (ok_aload_n (k := 0) rfl (by decide +kernel))⟩,
  List.forall_mem_cons.mpr ⟨⟨mo_gi _ _ _ _, Or.inl (ok_gi (C := RX11) (T := TX11) (N := 93) (ci := 11) (k := 34) rfl inX11 (by decide) fl_X11_282 (by decide +kernel) (by decide +kernel))⟩,
  List.forall_mem_cons.mpr ⟨⟨mo_ic _ _, Or.inl (ok_iconst (n := 1) (v := 1) (by decide) (by decide +kernel))⟩,
  List.forall_mem_cons.mpr ⟨⟨mo_bin _ _, Or.inl (ok_isub (by decide +kernel))⟩,
  List.forall_mem_cons.mpr ⟨⟨mo_ald _ _ _, Or.inl (ok_iald (by decide +kernel))⟩,
  List.forall_mem_cons.mpr ⟨⟨mo_invs _ _ _, Or.inr (Or.inl (ok_invs cw_X11_strength (by decide) (by decide) ml_X11_285 cs_X11_strength (show Cond.initialized (yX11_strength).cls ∈ am_ts from ci9_RX11) ⟨by decide +kernel, by decide +kernel, by decide +kernel⟩ rfl (by decide +kernel)))⟩,
  fun _ h => absurd h List.not_mem_nil⟩⟩⟩⟩⟩⟩⟩⟩⟩⟩⟩⟩⟩⟩⟩⟩⟩⟩⟩⟩
def t_X11_drops_1 : List (Nat × am_F) := [(37, im_il 1 38), (38, im_if2 ic_lt 67 41), (41, im_al 0 42), (42, im_dup 43), (43, im_gi q_SH 11 34 46), (46, im_ic 1 47), (47, im_bin (fun x y => x - y) 48), (48, im_pi q_SH 11 34 51), (51, im_al 0 52), (52, im_al 0 53), (53, im_gr q_SH 11 49 56), (56, im_al 0 57), (57, im_gi q_SH 11 34 60), (60, im_ald q_SH .int 61), (61, im_inv q_SH 11 126 1 64), (64, im_go 0), (67, im_ret0e)]
set_option maxRecDepth 20000 in
theorem o_X11_drops_1 : ∀ q ∈ t_X11_drops_1, am_ok vwCl q_SH ξ (q_E ξ β xs L) q_EN q_KD q_ML (cX11_drops, 2, RX11, "drops", none, []) q.1 q.2 :=
  List.forall_mem_cons.mpr ⟨⟨mo_il _ _, Or.inl (ok_iload_n (k := 1) rfl (by decide +kernel))⟩,
  List.forall_mem_cons.mpr ⟨⟨mo_if2 _ _ _, Or.inl (ok_icmp_lt (off := 29) (by decide) (by decide +kernel))⟩,
  List.forall_mem_cons.mpr ⟨⟨mo_al _ _, Or.inl (ok_aload_n (k := 0) rfl (by decide +kernel))⟩,
  List.forall_mem_cons.mpr ⟨⟨mo_dup _, Or.inl (ok_dup (by decide +kernel))⟩,
  List.forall_mem_cons.mpr ⟨⟨mo_gi _ _ _ _, Or.inl (ok_gi (C := RX11) (T := TX11) (N := 93) (ci := 11) (k := 34) rfl inX11 (by decide) fl_X11_282 (by decide +kernel) (by decide +kernel))⟩,
  List.forall_mem_cons.mpr ⟨⟨mo_ic _ _, Or.inl (ok_iconst (n := 1) (v := 1) (by decide) (by decide +kernel))⟩,
  List.forall_mem_cons.mpr ⟨⟨mo_bin _ _, Or.inl (ok_isub (by decide +kernel))⟩,
  List.forall_mem_cons.mpr ⟨⟨mo_pi _ _ _ _, Or.inl (ok_pi (ty := .int) (C := RX11) (T := TX11) (N := 93) (ci := 11) (k := 34) rfl inX11 (by decide) fl_X11_282 (by decide +kernel) tyX11 tyX11_ok nmX11 (by decide +kernel) (by decide +kernel) (by decide +kernel))⟩,
  List.forall_mem_cons.mpr ⟨⟨mo_al _ _, Or.inl (ok_aload_n (k := 0) rfl (by decide +kernel))⟩,
  List.forall_mem_cons.mpr ⟨⟨mo_al _ _, Or.inl (ok_aload_n (k := 0) rfl (by decide +kernel))⟩,
  List.forall_mem_cons.mpr ⟨⟨mo_gr _ _ _ _, Or.inl (ok_gr (C := RX11) (T := TX11) (N := 93) (ci := 11) (k := 49) rfl inX11 (by decide) fl_X11_177 (by decide +kernel) (by decide +kernel))⟩,
  List.forall_mem_cons.mpr ⟨⟨mo_al _ _, Or.inl (ok_aload_n (k := 0) rfl (by decide +kernel))⟩,
  List.forall_mem_cons.mpr ⟨⟨mo_gi _ _ _ _, Or.inl (ok_gi (C := RX11) (T := TX11) (N := 93) (ci := 11) (k := 34) rfl inX11 (by decide) fl_X11_282 (by decide +kernel) (by decide +kernel))⟩,
  List.forall_mem_cons.mpr ⟨⟨mo_ald _ _ _, Or.inl (ok_iald (by decide +kernel))⟩,
  List.forall_mem_cons.mpr ⟨⟨mo_inv _ _ _ _ _, Or.inr (Or.inl (ok_inv (T := TX11) (N := 93) rfl cw_X11_puts (by decide) (by decide) ml_X11_288 ci_X11_puts cv_X11_puts (show Cond.initialized (yX11_puts).cls ∈ am_ts from ci9_RX11) ⟨by decide +kernel, by decide +kernel, by decide +kernel⟩ rfl (by decide +kernel)))⟩,
  List.forall_mem_cons.mpr ⟨⟨mo_go _, Or.inl (ok_goto (off := (-64)) (by decide) (by decide +kernel))⟩,
  List.forall_mem_cons.mpr ⟨⟨mo_ret0e, Or.inr (Or.inr (ok_ret0 rfl (by decide +kernel)))⟩,
  fun _ h => absurd h List.not_mem_nil⟩⟩⟩⟩⟩⟩⟩⟩⟩⟩⟩⟩⟩⟩⟩⟩⟩
def t_X11_drops : List (Nat × am_F) := t_X11_drops_0 ++ (t_X11_drops_1)
theorem o_X11_drops : ∀ q ∈ t_X11_drops, am_ok vwCl q_SH ξ (q_E ξ β xs L) q_EN q_KD q_ML (cX11_drops, 2, RX11, "drops", none, []) q.1 q.2 := List.forall_mem_append.mpr ⟨o_X11_drops_0, o_X11_drops_1⟩
def t_X11_waitsFor_0 : List (Nat × am_F) := [(0, im_al 0 1), (1, im_gr q_SH 11 49 4), (4, im_al 0 5), (5, im_gi q_SH 11 34 8), (8, im_il 1 9), (9, im_ast q_SH .int (fun x => x) 10), (10, im_al 0 11), (11, im_dup 12), (12, im_gi q_SH 11 34 15), (15, im_ic 1 16), (16, im_bin (fun x y => x + y) 17), (17, im_pi q_SH 11 34 20), (20, im_ret0e)]
set_option maxRecDepth 20000 in
theorem o_X11_waitsFor_0 : ∀ q ∈ t_X11_waitsFor_0, am_ok vwCl q_SH ξ (q_E ξ β xs L) q_EN q_KD q_ML (cX11_waitsFor, 2, RX11, "waitsFor", none, []) q.1 q.2 :=
  List.forall_mem_cons.mpr ⟨⟨mo_al _ _, Or.inl (ok_aload_n (k := 0) rfl (by decide +kernel))⟩,
  List.forall_mem_cons.mpr ⟨⟨mo_gr _ _ _ _, Or.inl (ok_gr (C := RX11) (T := TX11) (N := 93) (ci := 11) (k := 49) rfl inX11 (by decide) fl_X11_177 (by decide +kernel) (by decide +kernel))⟩,
  List.forall_mem_cons.mpr ⟨⟨mo_al _ _, Or.inl (ok_aload_n (k := 0) rfl (by decide +kernel))⟩,
  List.forall_mem_cons.mpr ⟨⟨mo_gi _ _ _ _, Or.inl (ok_gi (C := RX11) (T := TX11) (N := 93) (ci := 11) (k := 34) rfl inX11 (by decide) fl_X11_282 (by decide +kernel) (by decide +kernel))⟩,
  List.forall_mem_cons.mpr ⟨⟨mo_il _ _, Or.inl (ok_iload_n (k := 1) rfl (by decide +kernel))⟩,
  List.forall_mem_cons.mpr ⟨⟨mo_ast _ _ _ _, Or.inl (ok_iast (by decide +kernel))⟩,
  List.forall_mem_cons.mpr ⟨⟨mo_al _ _, Or.inl (ok_aload_n (k := 0) rfl (by decide +kernel))⟩,
  List.forall_mem_cons.mpr ⟨⟨mo_dup _, Or.inl (ok_dup (by decide +kernel))⟩,
  List.forall_mem_cons.mpr ⟨⟨mo_gi _ _ _ _, Or.inl (ok_gi (C := RX11) (T := TX11) (N := 93) (ci := 11) (k := 34) rfl inX11 (by decide) fl_X11_282 (by decide +kernel) (by decide +kernel))⟩,
  List.forall_mem_cons.mpr ⟨⟨mo_ic _ _, Or.inl (ok_iconst (n := 1) (v := 1) (by decide) (by decide +kernel))⟩,
  List.forall_mem_cons.mpr ⟨⟨mo_bin _ _, Or.inl (ok_iadd (by decide +kernel))⟩,
  List.forall_mem_cons.mpr ⟨⟨mo_pi _ _ _ _, Or.inl (ok_pi (ty := .int) (C := RX11) (T := TX11) (N := 93) (ci := 11) (k := 34) rfl inX11 (by decide) fl_X11_282 (by decide +kernel) tyX11 tyX11_ok nmX11 (by decide +kernel) (by decide +kernel) (by decide +kernel))⟩,
  List.forall_mem_cons.mpr ⟨⟨mo_ret0e, Or.inr (Or.inr (ok_ret0 rfl (by decide +kernel)))⟩,
  fun _ h => absurd h List.not_mem_nil⟩⟩⟩⟩⟩⟩⟩⟩⟩⟩⟩⟩⟩
def t_X11_waitsFor : List (Nat × am_F) := t_X11_waitsFor_0
theorem o_X11_waitsFor : ∀ q ∈ t_X11_waitsFor, am_ok vwCl q_SH ξ (q_E ξ β xs L) q_EN q_KD q_ML (cX11_waitsFor, 2, RX11, "waitsFor", none, []) q.1 q.2 := o_X11_waitsFor_0
def t_X11_part_0 : List (Nat × am_F) := [(0, im_al 0 1), (1, im_inv q_SH 11 124 0 4), (4, im_if1 ib_ne 8 7), (7, im_ret0e), (8, im_al 0 9), (9, im_gi q_SH 11 25 12), (12, im_ic 2 13), (13, im_if2 ic_ne 45 16), (16, im_al 0 17), (17, im_gi q_SH 11 27 20), (20, im_ic 5 21), (21, im_if2 ic_le 29 24), (24, im_al 0 25), (25, im_ic 2 26), (26, im_inv q_SH 11 123 1 29), (29, im_al 0 30), (30, im_ic 1 31), (31, im_inv q_SH 11 126 1 34), (34, im_al 0 35), (35, im_al 0 36)]
set_option maxRecDepth 20000 in
theorem o_X11_part_0 : ∀ q ∈ t_X11_part_0, am_ok vwCl q_SH ξ (q_E ξ β xs L) q_EN q_KD q_ML (cX11_part, 2, RX11, "part", none, []) q.1 q.2 :=
  List.forall_mem_cons.mpr ⟨⟨mo_al _ _, Or.inl (ok_aload_n (k := 0) rfl (by decide +kernel))⟩,
  List.forall_mem_cons.mpr ⟨⟨mo_inv _ _ _ _ _, Or.inr (Or.inl (ok_inv (T := TX11) (N := 93) rfl cw_X11_isGood (by decide) (by decide) ml_X11_291 ci_X11_isGood cv_X11_isGood (show Cond.initialized (yX11_isGood).cls ∈ am_ts from ci9_RX11) ⟨by decide +kernel, by decide +kernel, by decide +kernel⟩ rfl (by decide +kernel)))⟩,
  List.forall_mem_cons.mpr ⟨⟨mo_if1 _ _ _, Or.inl (ok_if_ne (off := 4) (by decide) (by decide +kernel))⟩,
  List.forall_mem_cons.mpr ⟨⟨mo_ret0e, Or.inr (Or.inr (ok_ret0 rfl (by decide +kernel)))⟩,
  List.forall_mem_cons.mpr ⟨⟨mo_al _ _, Or.inl (ok_aload_n (k := 0) rfl (by decide +kernel))⟩,
  List.forall_mem_cons.mpr ⟨⟨mo_gi _ _ _ _, Or.inl (ok_gi (C := RX11) (T := TX11) (N := 93) (ci := 11) (k := 25) rfl inX11 (by decide) fl_X11_116 (by decide +kernel) (by decide +kernel))⟩,
  List.forall_mem_cons.mpr ⟨⟨mo_ic _ _, Or.inl (ok_iconst (n := 2) (v := 2) (by decide) (by decide +kernel))⟩,
  List.forall_mem_cons.mpr ⟨⟨mo_if2 _ _ _, Or.inl (ok_icmp_ne (off := 32) (by decide) (by decide +kernel))⟩,
  List.forall_mem_cons.mpr ⟨⟨mo_al _ _, Or.inl (ok_aload_n (k := 0) rfl (by decide +kernel))⟩,
  List.forall_mem_cons.mpr ⟨⟨mo_gi _ _ _ _, Or.inl (ok_gi (C := RX11) (T := TX11) (N := 93) (ci := 11) (k := 27) rfl inX11 (by decide) fl_X11_125 (by decide +kernel) (by decide +kernel))⟩,
  List.forall_mem_cons.mpr ⟨⟨mo_ic _ _, Or.inl (ok_iconst (n := 5) (v := 5) (by decide) (by decide +kernel))⟩,
  List.forall_mem_cons.mpr ⟨⟨mo_if2 _ _ _, Or.inl (ok_icmp_le (off := 8) (by decide) (by decide +kernel))⟩,
  List.forall_mem_cons.mpr ⟨⟨mo_al _ _, Or.inl (ok_aload_n (k := 0) rfl (by decide +kernel))⟩,
  List.forall_mem_cons.mpr ⟨⟨mo_ic _ _, Or.inl (ok_iconst (n := 2) (v := 2) (by decide) (by decide +kernel))⟩,
  List.forall_mem_cons.mpr ⟨⟨mo_inv _ _ _ _ _, Or.inr (Or.inl (ok_inv (T := TX11) (N := 93) rfl cw_X11_wrong (by decide) (by decide) ml_X11_295 ci_X11_wrong cv_X11_wrong (show Cond.initialized (yX11_wrong).cls ∈ am_ts from ci9_RX11) ⟨by decide +kernel, by decide +kernel, by decide +kernel⟩ rfl (by decide +kernel)))⟩,
  List.forall_mem_cons.mpr ⟨⟨mo_al _ _, Or.inl (ok_aload_n (k := 0) rfl (by decide +kernel))⟩,
  List.forall_mem_cons.mpr ⟨⟨mo_ic _ _, Or.inl (ok_iconst (n := 1) (v := 1) (by decide) (by decide +kernel))⟩,
  List.forall_mem_cons.mpr ⟨⟨mo_inv _ _ _ _ _, Or.inr (Or.inl (ok_inv (T := TX11) (N := 93) rfl cw_X11_puts (by decide) (by decide) ml_X11_288 ci_X11_puts cv_X11_puts (show Cond.initialized (yX11_puts).cls ∈ am_ts from ci9_RX11) ⟨by decide +kernel, by decide +kernel, by decide +kernel⟩ rfl (by decide +kernel)))⟩,
  List.forall_mem_cons.mpr ⟨⟨mo_al _ _, Or.inl (ok_aload_n (k := 0) rfl (by decide +kernel))⟩,
  List.forall_mem_cons.mpr ⟨⟨mo_al _ _, Or.inl (ok_aload_n (k := 0) rfl (by decide +kernel))⟩,
  fun _ h => absurd h List.not_mem_nil⟩⟩⟩⟩⟩⟩⟩⟩⟩⟩⟩⟩⟩⟩⟩⟩⟩⟩⟩⟩
def t_X11_part_1 : List (Nat × am_F) := [(36, im_gi q_SH 11 28 39), (39, im_inv q_SH 11 126 1 42), (42, im_go 90), (45, im_al 0 46), (46, im_gi q_SH 11 25 49), (49, im_ic 1 50), (50, im_if2 ic_ne 85 53), (53, im_al 0 54), (54, im_inv q_SH 11 122 0 57), (57, im_is 1 58), (58, im_il 1 59), (59, im_ic 15 61), (61, im_if2 ic_ge 69 64), (64, im_al 0 65), (65, im_ic 3 66), (66, im_inv q_SH 11 123 1 69), (69, im_al 0 70), (70, im_ic 2 71), (71, im_inv q_SH 11 126 1 74), (74, im_al 0 75)]
set_option maxRecDepth 20000 in
theorem o_X11_part_1 : ∀ q ∈ t_X11_part_1, am_ok vwCl q_SH ξ (q_E ξ β xs L) q_EN q_KD q_ML (cX11_part, 2, RX11, "part", none, []) q.1 q.2 :=
  List.forall_mem_cons.mpr ⟨⟨mo_gi _ _ _ _, Or.inl (ok_gi (C := RX11) (T := TX11) (N := 93) (ci := 11) (k := 28) rfl inX11 (by decide) fl_X11_110 (by decide +kernel) (by decide +kernel))⟩,
  List.forall_mem_cons.mpr ⟨⟨mo_inv _ _ _ _ _, Or.inr (Or.inl (ok_inv (T := TX11) (N := 93) rfl cw_X11_puts (by decide) (by decide) ml_X11_288 ci_X11_puts cv_X11_puts (show Cond.initialized (yX11_puts).cls ∈ am_ts from ci9_RX11) ⟨by decide +kernel, by decide +kernel, by decide +kernel⟩ rfl (by decide +kernel)))⟩,
  List.forall_mem_cons.mpr ⟨⟨mo_go _, Or.inl (ok_goto (off := 48) (by decide) (by decide +kernel))⟩,
  List.forall_mem_cons.mpr ⟨⟨mo_al _ _, Or.inl (ok_aload_n (k := 0) rfl (by decide +kernel))⟩,
  List.forall_mem_cons.mpr ⟨⟨mo_gi _ _ _ _, Or.inl (ok_gi (C := RX11) (T := TX11) (N := 93) (ci := 11) (k := 25) rfl inX11 (by decide) fl_X11_116 (by decide +kernel) (by decide +kernel))⟩,
  List.forall_mem_cons.mpr ⟨⟨mo_ic _ _, Or.inl (ok_iconst (n := 1) (v := 1) (by decide) (by decide +kernel))⟩,
  List.forall_mem_cons.mpr ⟨⟨mo_if2 _ _ _, Or.inl (ok_icmp_ne (off := 35) (by decide) (by decide +kernel))⟩,
  List.forall_mem_cons.mpr ⟨⟨mo_al _ _, Or.inl (ok_aload_n (k := 0) rfl (by decide +kernel))⟩,
  List.forall_mem_cons.mpr ⟨⟨mo_inv _ _ _ _ _, Or.inr (Or.inl (ok_inv (T := TX11) (N := 93) rfl cw_X11_knownWord (by decide) (by decide) ml_X11_298 ci_X11_knownWord cv_X11_knownWord (show Cond.initialized (yX11_knownWord).cls ∈ am_ts from ci9_RX11) ⟨by decide +kernel, by decide +kernel, by decide +kernel⟩ rfl (by decide +kernel)))⟩,
  List.forall_mem_cons.mpr ⟨⟨mo_is _ _, Or.inl (ok_istore_n (k := 1) rfl (by decide) (by decide +kernel))⟩,
  List.forall_mem_cons.mpr ⟨⟨mo_il _ _, Or.inl (ok_iload_n (k := 1) rfl (by decide +kernel))⟩,
  List.forall_mem_cons.mpr ⟨⟨mo_ic _ _, Or.inl (ok_bipush (n := 15) (v := 15) (by decide) (by decide +kernel))⟩,
  List.forall_mem_cons.mpr ⟨⟨mo_if2 _ _ _, Or.inl (ok_icmp_ge (off := 8) (by decide) (by decide +kernel))⟩,
  List.forall_mem_cons.mpr ⟨⟨mo_al _ _, Or.inl (ok_aload_n (k := 0) rfl (by decide +kernel))⟩,
  List.forall_mem_cons.mpr ⟨⟨mo_ic _ _, Or.inl (ok_iconst (n := 3) (v := 3) (by decide) (by decide +kernel))⟩,
  List.forall_mem_cons.mpr ⟨⟨mo_inv _ _ _ _ _, Or.inr (Or.inl (ok_inv (T := TX11) (N := 93) rfl cw_X11_wrong (by decide) (by decide) ml_X11_295 ci_X11_wrong cv_X11_wrong (show Cond.initialized (yX11_wrong).cls ∈ am_ts from ci9_RX11) ⟨by decide +kernel, by decide +kernel, by decide +kernel⟩ rfl (by decide +kernel)))⟩,
  List.forall_mem_cons.mpr ⟨⟨mo_al _ _, Or.inl (ok_aload_n (k := 0) rfl (by decide +kernel))⟩,
  List.forall_mem_cons.mpr ⟨⟨mo_ic _ _, Or.inl (ok_iconst (n := 2) (v := 2) (by decide) (by decide +kernel))⟩,
  List.forall_mem_cons.mpr ⟨⟨mo_inv _ _ _ _ _, Or.inr (Or.inl (ok_inv (T := TX11) (N := 93) rfl cw_X11_puts (by decide) (by decide) ml_X11_288 ci_X11_puts cv_X11_puts (show Cond.initialized (yX11_puts).cls ∈ am_ts from ci9_RX11) ⟨by decide +kernel, by decide +kernel, by decide +kernel⟩ rfl (by decide +kernel)))⟩,
  List.forall_mem_cons.mpr ⟨⟨mo_al _ _, Or.inl (ok_aload_n (k := 0) rfl (by decide +kernel))⟩,
  fun _ h => absurd h List.not_mem_nil⟩⟩⟩⟩⟩⟩⟩⟩⟩⟩⟩⟩⟩⟩⟩⟩⟩⟩⟩⟩
def t_X11_part_2 : List (Nat × am_F) := [(75, im_il 1 76), (76, im_ic 15 78), (78, im_bin (fun x y => x - y) 79), (79, im_inv q_SH 11 126 1 82), (82, im_go 90), (85, im_al 0 86), (86, im_ic 1 87), (87, im_inv q_SH 11 123 1 90), (90, im_al 0 91), (91, im_inv q_SH 11 124 0 94), (94, im_if1 ib_eq 101 97), (97, im_al 0 98), (98, im_inv q_SH 11 119 0 101), (101, im_ret0e)]
set_option maxRecDepth 20000 in
theorem o_X11_part_2 : ∀ q ∈ t_X11_part_2, am_ok vwCl q_SH ξ (q_E ξ β xs L) q_EN q_KD q_ML (cX11_part, 2, RX11, "part", none, []) q.1 q.2 :=
  List.forall_mem_cons.mpr ⟨⟨mo_il _ _, Or.inl (ok_iload_n (k := 1) rfl (by decide +kernel))⟩,
  List.forall_mem_cons.mpr ⟨⟨mo_ic _ _, Or.inl (ok_bipush (n := 15) (v := 15) (by decide) (by decide +kernel))⟩,
  List.forall_mem_cons.mpr ⟨⟨mo_bin _ _, Or.inl (ok_isub (by decide +kernel))⟩,
  List.forall_mem_cons.mpr ⟨⟨mo_inv _ _ _ _ _, Or.inr (Or.inl (ok_inv (T := TX11) (N := 93) rfl cw_X11_puts (by decide) (by decide) ml_X11_288 ci_X11_puts cv_X11_puts (show Cond.initialized (yX11_puts).cls ∈ am_ts from ci9_RX11) ⟨by decide +kernel, by decide +kernel, by decide +kernel⟩ rfl (by decide +kernel)))⟩,
  List.forall_mem_cons.mpr ⟨⟨mo_go _, Or.inl (ok_goto (off := 8) (by decide) (by decide +kernel))⟩,
  List.forall_mem_cons.mpr ⟨⟨mo_al _ _, Or.inl (ok_aload_n (k := 0) rfl (by decide +kernel))⟩,
  List.forall_mem_cons.mpr ⟨⟨mo_ic _ _, Or.inl (ok_iconst (n := 1) (v := 1) (by decide) (by decide +kernel))⟩,
  List.forall_mem_cons.mpr ⟨⟨mo_inv _ _ _ _ _, Or.inr (Or.inl (ok_inv (T := TX11) (N := 93) rfl cw_X11_wrong (by decide) (by decide) ml_X11_295 ci_X11_wrong cv_X11_wrong (show Cond.initialized (yX11_wrong).cls ∈ am_ts from ci9_RX11) ⟨by decide +kernel, by decide +kernel, by decide +kernel⟩ rfl (by decide +kernel)))⟩,
  List.forall_mem_cons.mpr ⟨⟨mo_al _ _, Or.inl (ok_aload_n (k := 0) rfl (by decide +kernel))⟩,
  List.forall_mem_cons.mpr ⟨⟨mo_inv _ _ _ _ _, Or.inr (Or.inl (ok_inv (T := TX11) (N := 93) rfl cw_X11_isGood (by decide) (by decide) ml_X11_291 ci_X11_isGood cv_X11_isGood (show Cond.initialized (yX11_isGood).cls ∈ am_ts from ci9_RX11) ⟨by decide +kernel, by decide +kernel, by decide +kernel⟩ rfl (by decide +kernel)))⟩,
  List.forall_mem_cons.mpr ⟨⟨mo_if1 _ _ _, Or.inl (ok_if_eq (off := 7) (by decide) (by decide +kernel))⟩,
  List.forall_mem_cons.mpr ⟨⟨mo_al _ _, Or.inl (ok_aload_n (k := 0) rfl (by decide +kernel))⟩,
  List.forall_mem_cons.mpr ⟨⟨mo_inv _ _ _ _ _, Or.inr (Or.inl (ok_inv (T := TX11) (N := 93) rfl cw_X11_goes (by decide) (by decide) ml_X11_302 ci_X11_goes cv_X11_goes (show Cond.initialized (yX11_goes).cls ∈ am_ts from ci9_RX11) ⟨by decide +kernel, by decide +kernel, by decide +kernel⟩ rfl (by decide +kernel)))⟩,
  List.forall_mem_cons.mpr ⟨⟨mo_ret0e, Or.inr (Or.inr (ok_ret0 rfl (by decide +kernel)))⟩,
  fun _ h => absurd h List.not_mem_nil⟩⟩⟩⟩⟩⟩⟩⟩⟩⟩⟩⟩⟩⟩
def t_X11_part : List (Nat × am_F) := t_X11_part_0 ++ (t_X11_part_1 ++ (t_X11_part_2))
theorem o_X11_part : ∀ q ∈ t_X11_part, am_ok vwCl q_SH ξ (q_E ξ β xs L) q_EN q_KD q_ML (cX11_part, 2, RX11, "part", none, []) q.1 q.2 := List.forall_mem_append.mpr ⟨o_X11_part_0, List.forall_mem_append.mpr ⟨o_X11_part_1, o_X11_part_2⟩⟩
def t_X11_begins_0 : List (Nat × am_F) := [(0, im_al 0 1), (1, im_gi q_SH 11 35 4), (4, im_ic 6 6), (6, im_if2 ic_ge 30 9), (9, im_al 0 10), (10, im_dup 11), (11, im_gi q_SH 11 35 14), (14, im_ic 1 15), (15, im_bin (fun x y => x + y) 16), (16, im_pi q_SH 11 35 19), (19, im_al 0 20), (20, im_gr q_SH 11 50 23), (23, im_al 0 24), (24, im_gi q_SH 11 35 27), (27, im_ic 0 28), (28, im_ast q_SH .boolean (vp_nar .boolean) 29), (29, im_ret0e), (30, im_al 0 31), (31, im_al 0 32), (32, im_gi q_SH 11 25 35)]
set_option maxRecDepth 20000 in
theorem o_X11_begins_0 : ∀ q ∈ t_X11_begins_0, am_ok vwCl q_SH ξ (q_E ξ β xs L) q_EN q_KD q_ML (cX11_begins, 1, RX11, "begins", none, []) q.1 q.2 :=
  List.forall_mem_cons.mpr ⟨⟨mo_al _ _, Or.inl (ok_aload_n (k := 0) rfl (by decide +kernel))⟩,
  List.forall_mem_cons.mpr ⟨⟨mo_gi _ _ _ _, Or.inl (ok_gi (C := RX11) (T := TX11) (N := 93) (ci := 11) (k := 35) rfl inX11 (by decide) fl_X11_305 (by decide +kernel) (by decide +kernel))⟩,
  List.forall_mem_cons.mpr ⟨⟨mo_ic _ _, Or.inl (ok_bipush (n := 6) (v := 6) (by decide) (by decide +kernel))⟩,
  List.forall_mem_cons.mpr ⟨⟨mo_if2 _ _ _, Or.inl (ok_icmp_ge (off := 24) (by decide) (by decide +kernel))⟩,
  List.forall_mem_cons.mpr ⟨⟨mo_al _ _, Or.inl (ok_aload_n (k := 0) rfl (by decide +kernel))⟩,
  List.forall_mem_cons.mpr ⟨⟨mo_dup _, Or.inl (ok_dup (by decide +kernel))⟩,
  List.forall_mem_cons.mpr ⟨⟨mo_gi _ _ _ _, Or.inl (ok_gi (C := RX11) (T := TX11) (N := 93) (ci := 11) (k := 35) rfl inX11 (by decide) fl_X11_305 (by decide +kernel) (by decide +kernel))⟩,
  List.forall_mem_cons.mpr ⟨⟨mo_ic _ _, Or.inl (ok_iconst (n := 1) (v := 1) (by decide) (by decide +kernel))⟩,
  List.forall_mem_cons.mpr ⟨⟨mo_bin _ _, Or.inl (ok_iadd (by decide +kernel))⟩,
  List.forall_mem_cons.mpr ⟨⟨mo_pi _ _ _ _, Or.inl (ok_pi (ty := .int) (C := RX11) (T := TX11) (N := 93) (ci := 11) (k := 35) rfl inX11 (by decide) fl_X11_305 (by decide +kernel) tyX11 tyX11_ok nmX11 (by decide +kernel) (by decide +kernel) (by decide +kernel))⟩,
  List.forall_mem_cons.mpr ⟨⟨mo_al _ _, Or.inl (ok_aload_n (k := 0) rfl (by decide +kernel))⟩,
  List.forall_mem_cons.mpr ⟨⟨mo_gr _ _ _ _, Or.inl (ok_gr (C := RX11) (T := TX11) (N := 93) (ci := 11) (k := 50) rfl inX11 (by decide) fl_X11_180 (by decide +kernel) (by decide +kernel))⟩,
  List.forall_mem_cons.mpr ⟨⟨mo_al _ _, Or.inl (ok_aload_n (k := 0) rfl (by decide +kernel))⟩,
  List.forall_mem_cons.mpr ⟨⟨mo_gi _ _ _ _, Or.inl (ok_gi (C := RX11) (T := TX11) (N := 93) (ci := 11) (k := 35) rfl inX11 (by decide) fl_X11_305 (by decide +kernel) (by decide +kernel))⟩,
  List.forall_mem_cons.mpr ⟨⟨mo_ic _ _, Or.inl (ok_iconst (n := 0) (v := 0) (by decide) (by decide +kernel))⟩,
  List.forall_mem_cons.mpr ⟨⟨mo_ast _ _ _ _, Or.inl (ok_zast (by decide +kernel))⟩,
  List.forall_mem_cons.mpr ⟨⟨mo_ret0e, Or.inr (Or.inr (ok_ret0 rfl (by decide +kernel)))⟩,
  List.forall_mem_cons.mpr ⟨⟨mo_al _ _, Or.inl (ok_aload_n (k := 0) rfl (by decide +kernel))⟩,
  List.forall_mem_cons.mpr ⟨⟨mo_al _ _, Or.inl (ok_aload_n (k := 0) rfl (by decide +kernel))⟩,
  List.forall_mem_cons.mpr ⟨⟨mo_gi _ _ _ _, Or.inl (ok_gi (C := RX11) (T := TX11) (N := 93) (ci := 11) (k := 25) rfl inX11 (by decide) fl_X11_116 (by decide +kernel) (by decide +kernel))⟩,
  fun _ h => absurd h List.not_mem_nil⟩⟩⟩⟩⟩⟩⟩⟩⟩⟩⟩⟩⟩⟩⟩⟩⟩⟩⟩⟩
def t_X11_begins_1 : List (Nat × am_F) := [(35, im_ic 2 36), (36, im_if2 ic_eq 56 39), (39, im_al 0 40), (40, im_gi q_SH 11 25 43), (43, im_ic 1 44), (44, im_if2 ic_eq 56 47), (47, im_al 0 48), (48, im_ic 40 50), (50, im_inv q_SH 11 125 1 53), (53, im_if1 ib_eq 60 56), (56, im_ic 2 57), (57, im_go 61), (60, im_ic 1 61), (61, im_inv q_SH 11 123 1 64), (64, im_ret0e)]
set_option maxRecDepth 20000 in
theorem o_X11_begins_1 : ∀ q ∈ t_X11_begins_1, am_ok vwCl q_SH ξ (q_E ξ β xs L) q_EN q_KD q_ML (cX11_begins, 1, RX11, "begins", none, []) q.1 q.2 :=
  List.forall_mem_cons.mpr ⟨⟨mo_ic _ _, Or.inl (ok_iconst (n := 2) (v := 2) (by decide) (by decide +kernel))⟩,
  List.forall_mem_cons.mpr ⟨⟨mo_if2 _ _ _, Or.inl (ok_icmp_eq (off := 20) (by decide) (by decide +kernel))⟩,
  List.forall_mem_cons.mpr ⟨⟨mo_al _ _, Or.inl (ok_aload_n (k := 0) rfl (by decide +kernel))⟩,
  List.forall_mem_cons.mpr ⟨⟨mo_gi _ _ _ _, Or.inl (ok_gi (C := RX11) (T := TX11) (N := 93) (ci := 11) (k := 25) rfl inX11 (by decide) fl_X11_116 (by decide +kernel) (by decide +kernel))⟩,
  List.forall_mem_cons.mpr ⟨⟨mo_ic _ _, Or.inl (ok_iconst (n := 1) (v := 1) (by decide) (by decide +kernel))⟩,
  List.forall_mem_cons.mpr ⟨⟨mo_if2 _ _ _, Or.inl (ok_icmp_eq (off := 12) (by decide) (by decide +kernel))⟩,
  List.forall_mem_cons.mpr ⟨⟨mo_al _ _, Or.inl (ok_aload_n (k := 0) rfl (by decide +kernel))⟩,
  List.forall_mem_cons.mpr ⟨⟨mo_ic _ _, Or.inl (ok_bipush (n := 40) (v := 40) (by decide) (by decide +kernel))⟩,
  List.forall_mem_cons.mpr ⟨⟨mo_inv _ _ _ _ _, Or.inr (Or.inl (ok_inv (T := TX11) (N := 93) rfl cw_X11_isSign (by decide) (by decide) ml_X11_308 ci_X11_isSign cv_X11_isSign (show Cond.initialized (yX11_isSign).cls ∈ am_ts from ci9_RX11) ⟨by decide +kernel, by decide +kernel, by decide +kernel⟩ rfl (by decide +kernel)))⟩,
  List.forall_mem_cons.mpr ⟨⟨mo_if1 _ _ _, Or.inl (ok_if_eq (off := 7) (by decide) (by decide +kernel))⟩,
  List.forall_mem_cons.mpr ⟨⟨mo_ic _ _, Or.inl (ok_iconst (n := 2) (v := 2) (by decide) (by decide +kernel))⟩,
  List.forall_mem_cons.mpr ⟨⟨mo_go _, Or.inl (ok_goto (off := 4) (by decide) (by decide +kernel))⟩,
  List.forall_mem_cons.mpr ⟨⟨mo_ic _ _, Or.inl (ok_iconst (n := 1) (v := 1) (by decide) (by decide +kernel))⟩,
  List.forall_mem_cons.mpr ⟨⟨mo_inv _ _ _ _ _, Or.inr (Or.inl (ok_inv (T := TX11) (N := 93) rfl cw_X11_wrong (by decide) (by decide) ml_X11_295 ci_X11_wrong cv_X11_wrong (show Cond.initialized (yX11_wrong).cls ∈ am_ts from ci9_RX11) ⟨by decide +kernel, by decide +kernel, by decide +kernel⟩ rfl (by decide +kernel)))⟩,
  List.forall_mem_cons.mpr ⟨⟨mo_ret0e, Or.inr (Or.inr (ok_ret0 rfl (by decide +kernel)))⟩,
  fun _ h => absurd h List.not_mem_nil⟩⟩⟩⟩⟩⟩⟩⟩⟩⟩⟩⟩⟩⟩⟩
def t_X11_begins : List (Nat × am_F) := t_X11_begins_0 ++ (t_X11_begins_1)
theorem o_X11_begins : ∀ q ∈ t_X11_begins, am_ok vwCl q_SH ξ (q_E ξ β xs L) q_EN q_KD q_ML (cX11_begins, 1, RX11, "begins", none, []) q.1 q.2 := List.forall_mem_append.mpr ⟨o_X11_begins_0, o_X11_begins_1⟩
def t_X11_operand_0 : List (Nat × am_F) := [(0, im_il 1 1), (1, im_is 2 2), (2, im_ic 1 3), (3, im_is 3 4), (4, im_il 3 5), (5, im_if1 ib_eq 120 8), (8, im_al 0 9), (9, im_inv q_SH 11 124 0 12), (12, im_if1 ib_eq 120 15), (15, im_ic 0 16), (16, im_is 4 18), (18, im_al 0 19), (19, im_inv q_SH 11 124 0 22), (22, im_if1 ib_eq 75 25), (25, im_il 2 26), (26, im_if1 ib_eq 75 29), (29, im_al 0 30), (30, im_inv q_SH 11 122 0 33), (33, im_ic 7 35), (35, im_if2 ic_ne 75 38)]
set_option maxRecDepth 20000 in
theorem o_X11_operand_0 : ∀ q ∈ t_X11_operand_0, am_ok vwCl q_SH ξ (q_E ξ β xs L) q_EN q_KD q_ML (cX11_operand, 5, RX11, "operand", none, []) q.1 q.2 :=
  List.forall_mem_cons.mpr ⟨⟨mo_il _ _, Or.inl (ok_iload_n (k := 1) rfl (by decide +kernel))⟩,
  List.forall_mem_cons.mpr ⟨⟨mo_is _ _, Or.inl (ok_istore_n (k := 2) rfl (by decide) (by decide +kernel))⟩,
  List.forall_mem_cons.mpr ⟨⟨mo_ic _ _, Or.inl (ok_iconst (n := 1) (v := 1) (by decide) (by decide +kernel))⟩,
  List.forall_mem_cons.mpr ⟨⟨mo_is _ _, Or.inl (ok_istore_n (k := 3) rfl (by decide) (by decide +kernel))⟩,
  List.forall_mem_cons.mpr ⟨⟨mo_il _ _, Or.inl (ok_iload_n (k := 3) rfl (by decide +kernel))⟩,
  List.forall_mem_cons.mpr ⟨⟨mo_if1 _ _ _, Or.inl (ok_if_eq (off := 115) (by decide) (by decide +kernel))⟩,
  List.forall_mem_cons.mpr ⟨⟨mo_al _ _, Or.inl (ok_aload_n (k := 0) rfl (by decide +kernel))⟩,
  List.forall_mem_cons.mpr ⟨⟨mo_inv _ _ _ _ _, Or.inr (Or.inl (ok_inv (T := TX11) (N := 93) rfl cw_X11_isGood (by decide) (by decide) ml_X11_291 ci_X11_isGood cv_X11_isGood (show Cond.initialized (yX11_isGood).cls ∈ am_ts from ci9_RX11) ⟨by decide +kernel, by decide +kernel, by decide +kernel⟩ rfl (by decide +kernel)))⟩,
  List.forall_mem_cons.mpr ⟨⟨mo_if1 _ _ _, Or.inl (ok_if_eq (off := 108) (by decide) (by decide +kernel))⟩,
  List.forall_mem_cons.mpr ⟨⟨mo_ic _ _, Or.inl (ok_iconst (n := 0) (v := 0) (by decide) (by decide +kernel))⟩,
  List.forall_mem_cons.mpr ⟨⟨mo_is _ _, Or.inl (ok_istore (by decide) (by decide +kernel))⟩,
  List.forall_mem_cons.mpr ⟨⟨mo_al _ _, Or.inl (ok_aload_n (k := 0) rfl (by decide +kernel))⟩,
  List.forall_mem_cons.mpr ⟨⟨mo_inv _ _ _ _ _, Or.inr (Or.inl (ok_inv (T := TX11) (N := 93) rfl cw_X11_isGood (by decide) (by decide) ml_X11_291 ci_X11_isGood cv_X11_isGood (show Cond.initialized (yX11_isGood).cls ∈ am_ts from ci9_RX11) ⟨by decide +kernel, by decide +kernel, by decide +kernel⟩ rfl (by decide +kernel)))⟩,
  List.forall_mem_cons.mpr ⟨⟨mo_if1 _ _ _, Or.inl (ok_if_eq (off := 53) (by decide) (by decide +kernel))⟩,
  List.forall_mem_cons.mpr ⟨⟨mo_il _ _, Or.inl (ok_iload_n (k := 2) rfl (by decide +kernel))⟩,
  List.forall_mem_cons.mpr ⟨⟨mo_if1 _ _ _, Or.inl (ok_if_eq (off := 49) (by decide) (by decide +kernel))⟩,
  List.forall_mem_cons.mpr ⟨⟨mo_al _ _, Or.inl (ok_aload_n (k := 0) rfl (by decide +kernel))⟩,
  List.forall_mem_cons.mpr ⟨⟨mo_inv _ _ _ _ _, Or.inr (Or.inl (ok_inv (T := TX11) (N := 93) rfl cw_X11_knownWord (by decide) (by decide) ml_X11_298 ci_X11_knownWord cv_X11_knownWord (show Cond.initialized (yX11_knownWord).cls ∈ am_ts from ci9_RX11) ⟨by decide +kernel, by decide +kernel, by decide +kernel⟩ rfl (by decide +kernel)))⟩,
  List.forall_mem_cons.mpr ⟨⟨mo_ic _ _, Or.inl (ok_bipush (n := 7) (v := 7) (by decide) (by decide +kernel))⟩,
  List.forall_mem_cons.mpr ⟨⟨mo_if2 _ _ _, Or.inl (ok_icmp_ne (off := 40) (by decide) (by decide +kernel))⟩,
  fun _ h => absurd h List.not_mem_nil⟩⟩⟩⟩⟩⟩⟩⟩⟩⟩⟩⟩⟩⟩⟩⟩⟩⟩⟩⟩
def t_X11_operand_1 : List (Nat × am_F) := [(38, im_il 4 40), (40, im_ic 6 42), (42, im_if2 ic_ne 50 45), (45, im_al 0 46), (46, im_ic 2 47), (47, im_inv q_SH 11 123 1 50), (50, im_iinc 4 1 53), (53, im_al 0 54), (54, im_inv q_SH 11 124 0 57), (57, im_if1 ib_ne 63 60), (60, im_go 18), (63, im_al 0 64), (64, im_ic 3 65), (65, im_inv q_SH 11 129 1 68), (68, im_al 0 69), (69, im_inv q_SH 11 119 0 72), (72, im_go 18), (75, im_al 0 76), (76, im_inv q_SH 11 124 0 79), (79, im_if1 ib_eq 95 82)]
set_option maxRecDepth 20000 in
theorem o_X11_operand_1 : ∀ q ∈ t_X11_operand_1, am_ok vwCl q_SH ξ (q_E ξ β xs L) q_EN q_KD q_ML (cX11_operand, 5, RX11, "operand", none, []) q.1 q.2 :=
  List.forall_mem_cons.mpr ⟨⟨mo_il _ _, Or.inl (ok_iload (by decide +kernel))⟩,
  List.forall_mem_cons.mpr ⟨⟨mo_ic _ _, Or.inl (ok_bipush (n := 6) (v := 6) (by decide) (by decide +kernel))⟩,
  List.forall_mem_cons.mpr ⟨⟨mo_if2 _ _ _, Or.inl (ok_icmp_ne (off := 8) (by decide) (by decide +kernel))⟩,
  List.forall_mem_cons.mpr ⟨⟨mo_al _ _, Or.inl (ok_aload_n (k := 0) rfl (by decide +kernel))⟩,
  List.forall_mem_cons.mpr ⟨⟨mo_ic _ _, Or.inl (ok_iconst (n := 2) (v := 2) (by decide) (by decide +kernel))⟩,
  List.forall_mem_cons.mpr ⟨⟨mo_inv _ _ _ _ _, Or.inr (Or.inl (ok_inv (T := TX11) (N := 93) rfl cw_X11_wrong (by decide) (by decide) ml_X11_295 ci_X11_wrong cv_X11_wrong (show Cond.initialized (yX11_wrong).cls ∈ am_ts from ci9_RX11) ⟨by decide +kernel, by decide +kernel, by decide +kernel⟩ rfl (by decide +kernel)))⟩,
  List.forall_mem_cons.mpr ⟨⟨mo_iinc _ _ _, Or.inl (ok_iinc (n := 1) (v := 1) (by decide) (by decide) (by decide +kernel))⟩,
  List.forall_mem_cons.mpr ⟨⟨mo_al _ _, Or.inl (ok_aload_n (k := 0) rfl (by decide +kernel))⟩,
  List.forall_mem_cons.mpr ⟨⟨mo_inv _ _ _ _ _, Or.inr (Or.inl (ok_inv (T := TX11) (N := 93) rfl cw_X11_isGood (by decide) (by decide) ml_X11_291 ci_X11_isGood cv_X11_isGood (show Cond.initialized (yX11_isGood).cls ∈ am_ts from ci9_RX11) ⟨by decide +kernel, by decide +kernel, by decide +kernel⟩ rfl (by decide +kernel)))⟩,
  List.forall_mem_cons.mpr ⟨⟨mo_if1 _ _ _, Or.inl (ok_if_ne (off := 6) (by decide) (by decide +kernel))⟩,
  List.forall_mem_cons.mpr ⟨⟨mo_go _, Or.inl (ok_goto (off := (-42)) (by decide) (by decide +kernel))⟩,
  List.forall_mem_cons.mpr ⟨⟨mo_al _ _, Or.inl (ok_aload_n (k := 0) rfl (by decide +kernel))⟩,
  List.forall_mem_cons.mpr ⟨⟨mo_ic _ _, Or.inl (ok_iconst (n := 3) (v := 3) (by decide) (by decide +kernel))⟩,
  List.forall_mem_cons.mpr ⟨⟨mo_inv _ _ _ _ _, Or.inr (Or.inl (ok_inv (T := TX11) (N := 93) rfl cw_X11_waitsFor (by decide) (by decide) ml_X11_311 ci_X11_waitsFor cv_X11_waitsFor (show Cond.initialized (yX11_waitsFor).cls ∈ am_ts from ci9_RX11) ⟨by decide +kernel, by decide +kernel, by decide +kernel⟩ rfl (by decide +kernel)))⟩,
  List.forall_mem_cons.mpr ⟨⟨mo_al _ _, Or.inl (ok_aload_n (k := 0) rfl (by decide +kernel))⟩,
  List.forall_mem_cons.mpr ⟨⟨mo_inv _ _ _ _ _, Or.inr (Or.inl (ok_inv (T := TX11) (N := 93) rfl cw_X11_goes (by decide) (by decide) ml_X11_302 ci_X11_goes cv_X11_goes (show Cond.initialized (yX11_goes).cls ∈ am_ts from ci9_RX11) ⟨by decide +kernel, by decide +kernel, by decide +kernel⟩ rfl (by decide +kernel)))⟩,
  List.forall_mem_cons.mpr ⟨⟨mo_go _, Or.inl (ok_goto (off := (-54)) (by decide) (by decide +kernel))⟩,
  List.forall_mem_cons.mpr ⟨⟨mo_al _ _, Or.inl (ok_aload_n (k := 0) rfl (by decide +kernel))⟩,
  List.forall_mem_cons.mpr ⟨⟨mo_inv _ _ _ _ _, Or.inr (Or.inl (ok_inv (T := TX11) (N := 93) rfl cw_X11_isGood (by decide) (by decide) ml_X11_291 ci_X11_isGood cv_X11_isGood (show Cond.initialized (yX11_isGood).cls ∈ am_ts from ci9_RX11) ⟨by decide +kernel, by decide +kernel, by decide +kernel⟩ rfl (by decide +kernel)))⟩,
  List.forall_mem_cons.mpr ⟨⟨mo_if1 _ _ _, Or.inl (ok_if_eq (off := 16) (by decide) (by decide +kernel))⟩,
  fun _ h => absurd h List.not_mem_nil⟩⟩⟩⟩⟩⟩⟩⟩⟩⟩⟩⟩⟩⟩⟩⟩⟩⟩⟩⟩
def t_X11_operand_2 : List (Nat × am_F) := [(82, im_al 0 83), (83, im_ic 40 85), (85, im_inv q_SH 11 125 1 88), (88, im_if1 ib_eq 95 91), (91, im_ic 1 92), (92, im_go 96), (95, im_ic 0 96), (96, im_is 3 97), (97, im_il 3 98), (98, im_if1 ib_eq 117 101), (101, im_al 0 102), (102, im_ic 12 104), (104, im_inv q_SH 11 129 1 107), (107, im_al 0 108), (108, im_inv q_SH 11 119 0 111), (111, im_al 0 112), (112, im_inv q_SH 11 131 0 115), (115, im_ic 1 116), (116, im_is 2 117), (117, im_go 4)]
set_option maxRecDepth 20000 in
theorem o_X11_operand_2 : ∀ q ∈ t_X11_operand_2, am_ok vwCl q_SH ξ (q_E ξ β xs L) q_EN q_KD q_ML (cX11_operand, 5, RX11, "operand", none, []) q.1 q.2 :=
  List.forall_mem_cons.mpr ⟨⟨mo_al _ _, Or.inl (ok_aload_n (k := 0) rfl (by decide +kernel))⟩,
  List.forall_mem_cons.mpr ⟨⟨mo_ic _ _, Or.inl (ok_bipush (n := 40) (v := 40) (by decide) (by decide +kernel))⟩,
  List.forall_mem_cons.mpr ⟨⟨mo_inv _ _ _ _ _, Or.inr (Or.inl (ok_inv (T := TX11) (N := 93) rfl cw_X11_isSign (by decide) (by decide) ml_X11_308 ci_X11_isSign cv_X11_isSign (show Cond.initialized (yX11_isSign).cls ∈ am_ts from ci9_RX11) ⟨by decide +kernel, by decide +kernel, by decide +kernel⟩ rfl (by decide +kernel)))⟩,
  List.forall_mem_cons.mpr ⟨⟨mo_if1 _ _ _, Or.inl (ok_if_eq (off := 7) (by decide) (by decide +kernel))⟩,
  List.forall_mem_cons.mpr ⟨⟨mo_ic _ _, Or.inl (ok_iconst (n := 1) (v := 1) (by decide) (by decide +kernel))⟩,
  List.forall_mem_cons.mpr ⟨⟨mo_go _, Or.inl (ok_goto (off := 4) (by decide) (by decide +kernel))⟩,
  List.forall_mem_cons.mpr ⟨⟨mo_ic _ _, Or.inl (ok_iconst (n := 0) (v := 0) (by decide) (by decide +kernel))⟩,
  List.forall_mem_cons.mpr ⟨⟨mo_is _ _, Or.inl (ok_istore_n (k := 3) rfl (by decide) (by decide +kernel))⟩,
  List.forall_mem_cons.mpr ⟨⟨mo_il _ _, Or.inl (ok_iload_n (k := 3) rfl (by decide +kernel))⟩,
  List.forall_mem_cons.mpr ⟨⟨mo_if1 _ _ _, Or.inl (ok_if_eq (off := 19) (by decide) (by decide +kernel))⟩,
  List.forall_mem_cons.mpr ⟨⟨mo_al _ _, Or.inl (ok_aload_n (k := 0) rfl (by decide +kernel))⟩,
  List.forall_mem_cons.mpr ⟨⟨mo_ic _ _, Or.inl (ok_bipush (n := 12) (v := 12) (by decide) (by decide +kernel))⟩,
  List.forall_mem_cons.mpr ⟨⟨mo_inv _ _ _ _ _, Or.inr (Or.inl (ok_inv (T := TX11) (N := 93) rfl cw_X11_waitsFor (by decide) (by decide) ml_X11_311 ci_X11_waitsFor cv_X11_waitsFor (show Cond.initialized (yX11_waitsFor).cls ∈ am_ts from ci9_RX11) ⟨by decide +kernel, by decide +kernel, by decide +kernel⟩ rfl (by decide +kernel)))⟩,
  List.forall_mem_cons.mpr ⟨⟨mo_al _ _, Or.inl (ok_aload_n (k := 0) rfl (by decide +kernel))⟩,
  List.forall_mem_cons.mpr ⟨⟨mo_inv _ _ _ _ _, Or.inr (Or.inl (ok_inv (T := TX11) (N := 93) rfl cw_X11_goes (by decide) (by decide) ml_X11_302 ci_X11_goes cv_X11_goes (show Cond.initialized (yX11_goes).cls ∈ am_ts from ci9_RX11) ⟨by decide +kernel, by decide +kernel, by decide +kernel⟩ rfl (by decide +kernel)))⟩,
  List.forall_mem_cons.mpr ⟨⟨mo_al _ _, Or.inl (ok_aload_n (k := 0) rfl (by decide +kernel))⟩,
  List.forall_mem_cons.mpr ⟨⟨mo_inv _ _ _ _ _, Or.inr (Or.inl (ok_inv (T := TX11) (N := 93) rfl cw_X11_begins (by decide) (by decide) ml_X11_314 ci_X11_begins cv_X11_begins (show Cond.initialized (yX11_begins).cls ∈ am_ts from ci9_RX11) ⟨by decide +kernel, by decide +kernel, by decide +kernel⟩ rfl (by decide +kernel)))⟩,
  List.forall_mem_cons.mpr ⟨⟨mo_ic _ _, Or.inl (ok_iconst (n := 1) (v := 1) (by decide) (by decide +kernel))⟩,
  List.forall_mem_cons.mpr ⟨⟨mo_is _ _, Or.inl (ok_istore_n (k := 2) rfl (by decide) (by decide +kernel))⟩,
  List.forall_mem_cons.mpr ⟨⟨mo_go _, Or.inl (ok_goto (off := (-113)) (by decide) (by decide +kernel))⟩,
  fun _ h => absurd h List.not_mem_nil⟩⟩⟩⟩⟩⟩⟩⟩⟩⟩⟩⟩⟩⟩⟩⟩⟩⟩⟩⟩
def t_X11_operand_3 : List (Nat × am_F) := [(120, im_al 0 121), (121, im_inv q_SH 11 130 0 124), (124, im_ret0e)]
set_option maxRecDepth 20000 in
theorem o_X11_operand_3 : ∀ q ∈ t_X11_operand_3, am_ok vwCl q_SH ξ (q_E ξ β xs L) q_EN q_KD q_ML (cX11_operand, 5, RX11, "operand", none, []) q.1 q.2 :=
  List.forall_mem_cons.mpr ⟨⟨mo_al _ _, Or.inl (ok_aload_n (k := 0) rfl (by decide +kernel))⟩,
  List.forall_mem_cons.mpr ⟨⟨mo_inv _ _ _ _ _, Or.inr (Or.inl (ok_inv (T := TX11) (N := 93) rfl cw_X11_part (by decide) (by decide) ml_X11_317 ci_X11_part cv_X11_part (show Cond.initialized (yX11_part).cls ∈ am_ts from ci9_RX11) ⟨by decide +kernel, by decide +kernel, by decide +kernel⟩ rfl (by decide +kernel)))⟩,
  List.forall_mem_cons.mpr ⟨⟨mo_ret0e, Or.inr (Or.inr (ok_ret0 rfl (by decide +kernel)))⟩,
  fun _ h => absurd h List.not_mem_nil⟩⟩⟩
def t_X11_operand : List (Nat × am_F) := t_X11_operand_0 ++ (t_X11_operand_1 ++ (t_X11_operand_2 ++ (t_X11_operand_3)))
theorem o_X11_operand : ∀ q ∈ t_X11_operand, am_ok vwCl q_SH ξ (q_E ξ β xs L) q_EN q_KD q_ML (cX11_operand, 5, RX11, "operand", none, []) q.1 q.2 := List.forall_mem_append.mpr ⟨o_X11_operand_0, List.forall_mem_append.mpr ⟨o_X11_operand_1, List.forall_mem_append.mpr ⟨o_X11_operand_2, o_X11_operand_3⟩⟩⟩
def t_X11_expression_0 : List (Nat × am_F) := [(0, im_al 0 1), (1, im_gi q_SH 11 33 4), (4, im_is 1 5), (5, im_al 0 6), (6, im_inv q_SH 11 124 0 9), (9, im_if1 ib_ne 14 12), (12, im_il 1 13), (13, im_reti), (14, im_al 0 15), (15, im_ic 0 16), (16, im_pi q_SH 11 34 19), (19, im_al 0 20), (20, im_ic 0 21), (21, im_pi q_SH 11 35 24), (24, im_al 0 25), (25, im_inv q_SH 11 131 0 28), (28, im_al 0 29), (29, im_ic 1 30), (30, im_inv q_SH 11 132 1 33), (33, im_ic 1 34)]
set_option maxRecDepth 20000 in
theorem o_X11_expression_0 : ∀ q ∈ t_X11_expression_0, am_ok vwCl q_SH ξ (q_E ξ β xs L) q_EN q_KD q_ML (cX11_expression, 4, RX11, "expression", (some .int), []) q.1 q.2 :=
  List.forall_mem_cons.mpr ⟨⟨mo_al _ _, Or.inl (ok_aload_n (k := 0) rfl (by decide +kernel))⟩,
  List.forall_mem_cons.mpr ⟨⟨mo_gi _ _ _ _, Or.inl (ok_gi (C := RX11) (T := TX11) (N := 93) (ci := 11) (k := 33) rfl inX11 (by decide) fl_X11_279 (by decide +kernel) (by decide +kernel))⟩,
  List.forall_mem_cons.mpr ⟨⟨mo_is _ _, Or.inl (ok_istore_n (k := 1) rfl (by decide) (by decide +kernel))⟩,
  List.forall_mem_cons.mpr ⟨⟨mo_al _ _, Or.inl (ok_aload_n (k := 0) rfl (by decide +kernel))⟩,
  List.forall_mem_cons.mpr ⟨⟨mo_inv _ _ _ _ _, Or.inr (Or.inl (ok_inv (T := TX11) (N := 93) rfl cw_X11_isGood (by decide) (by decide) ml_X11_291 ci_X11_isGood cv_X11_isGood (show Cond.initialized (yX11_isGood).cls ∈ am_ts from ci9_RX11) ⟨by decide +kernel, by decide +kernel, by decide +kernel⟩ rfl (by decide +kernel)))⟩,
  List.forall_mem_cons.mpr ⟨⟨mo_if1 _ _ _, Or.inl (ok_if_ne (off := 5) (by decide) (by decide +kernel))⟩,
  List.forall_mem_cons.mpr ⟨⟨mo_il _ _, Or.inl (ok_iload_n (k := 1) rfl (by decide +kernel))⟩,
  List.forall_mem_cons.mpr ⟨⟨mo_reti, Or.inr (Or.inr (ok_reti rfl (by decide +kernel)))⟩,
  List.forall_mem_cons.mpr ⟨⟨mo_al _ _, Or.inl (ok_aload_n (k := 0) rfl (by decide +kernel))⟩,
  List.forall_mem_cons.mpr ⟨⟨mo_ic _ _, Or.inl (ok_iconst (n := 0) (v := 0) (by decide) (by decide +kernel))⟩,
  List.forall_mem_cons.mpr ⟨⟨mo_pi _ _ _ _, Or.inl (ok_pi (ty := .int) (C := RX11) (T := TX11) (N := 93) (ci := 11) (k := 34) rfl inX11 (by decide) fl_X11_282 (by decide +kernel) tyX11 tyX11_ok nmX11 (by decide +kernel) (by decide +kernel) (by decide +kernel))⟩,
  List.forall_mem_cons.mpr ⟨⟨mo_al _ _, Or.inl (ok_aload_n (k := 0) rfl (by decide +kernel))⟩,
  List.forall_mem_cons.mpr ⟨⟨mo_ic _ _, Or.inl (ok_iconst (n := 0) (v := 0) (by decide) (by decide +kernel))⟩,
  List.forall_mem_cons.mpr ⟨⟨mo_pi _ _ _ _, Or.inl (ok_pi (ty := .int) (C := RX11) (T := TX11) (N := 93) (ci := 11) (k := 35) rfl inX11 (by decide) fl_X11_305 (by decide +kernel) tyX11 tyX11_ok nmX11 (by decide +kernel) (by decide +kernel) (by decide +kernel))⟩,
  List.forall_mem_cons.mpr ⟨⟨mo_al _ _, Or.inl (ok_aload_n (k := 0) rfl (by decide +kernel))⟩,
  List.forall_mem_cons.mpr ⟨⟨mo_inv _ _ _ _ _, Or.inr (Or.inl (ok_inv (T := TX11) (N := 93) rfl cw_X11_begins (by decide) (by decide) ml_X11_314 ci_X11_begins cv_X11_begins (show Cond.initialized (yX11_begins).cls ∈ am_ts from ci9_RX11) ⟨by decide +kernel, by decide +kernel, by decide +kernel⟩ rfl (by decide +kernel)))⟩,
  List.forall_mem_cons.mpr ⟨⟨mo_al _ _, Or.inl (ok_aload_n (k := 0) rfl (by decide +kernel))⟩,
  List.forall_mem_cons.mpr ⟨⟨mo_ic _ _, Or.inl (ok_iconst (n := 1) (v := 1) (by decide) (by decide +kernel))⟩,
  List.forall_mem_cons.mpr ⟨⟨mo_inv _ _ _ _ _, Or.inr (Or.inl (ok_inv (T := TX11) (N := 93) rfl cw_X11_operand (by decide) (by decide) ml_X11_320 ci_X11_operand cv_X11_operand (show Cond.initialized (yX11_operand).cls ∈ am_ts from ci9_RX11) ⟨by decide +kernel, by decide +kernel, by decide +kernel⟩ rfl (by decide +kernel)))⟩,
  List.forall_mem_cons.mpr ⟨⟨mo_ic _ _, Or.inl (ok_iconst (n := 1) (v := 1) (by decide) (by decide +kernel))⟩,
  fun _ h => absurd h List.not_mem_nil⟩⟩⟩⟩⟩⟩⟩⟩⟩⟩⟩⟩⟩⟩⟩⟩⟩⟩⟩⟩
def t_X11_expression_1 : List (Nat × am_F) := [(34, im_is 2 35), (35, im_il 2 36), (36, im_if1 ib_eq 354 39), (39, im_al 0 40), (40, im_inv q_SH 11 124 0 43), (43, im_if1 ib_eq 354 46), (46, im_al 0 47), (47, im_inv q_SH 11 122 0 50), (50, im_is 3 51), (51, im_il 3 52), (52, im_ic 5 53), (53, im_if2 ic_eq 62 56), (56, im_il 3 57), (57, im_ic 6 59), (59, im_if2 ic_ne 112 62), (62, im_al 0 63), (63, im_il 3 64), (64, im_ic 5 65), (65, im_if2 ic_ne 72 68), (68, im_ic 2 69)]
set_option maxRecDepth 20000 in
theorem o_X11_expression_1 : ∀ q ∈ t_X11_expression_1, am_ok vwCl q_SH ξ (q_E ξ β xs L) q_EN q_KD q_ML (cX11_expression, 4, RX11, "expression", (some .int), []) q.1 q.2 :=
  List.forall_mem_cons.mpr ⟨⟨mo_is _ _, Or.inl (ok_istore_n (k := 2) rfl (by decide) (by decide +kernel))⟩,
  List.forall_mem_cons.mpr ⟨⟨mo_il _ _, Or.inl (ok_iload_n (k := 2) rfl (by decide +kernel))⟩,
  List.forall_mem_cons.mpr ⟨⟨mo_if1 _ _ _, Or.inl (ok_if_eq (off := 318) (by decide) (by decide +kernel))⟩,
  List.forall_mem_cons.mpr ⟨⟨mo_al _ _, Or.inl (ok_aload_n (k := 0) rfl (by decide +kernel))⟩,
  List.forall_mem_cons.mpr ⟨⟨mo_inv _ _ _ _ _, Or.inr (Or.inl (ok_inv (T := TX11) (N := 93) rfl cw_X11_isGood (by decide) (by decide) ml_X11_291 ci_X11_isGood cv_X11_isGood (show Cond.initialized (yX11_isGood).cls ∈ am_ts from ci9_RX11) ⟨by decide +kernel, by decide +kernel, by decide +kernel⟩ rfl (by decide +kernel)))⟩,
  List.forall_mem_cons.mpr ⟨⟨mo_if1 _ _ _, Or.inl (ok_if_eq (off := 311) (by decide) (by decide +kernel))⟩,
  List.forall_mem_cons.mpr ⟨⟨mo_al _ _, Or.inl (ok_aload_n (k := 0) rfl (by decide +kernel))⟩,
  List.forall_mem_cons.mpr ⟨⟨mo_inv _ _ _ _ _, Or.inr (Or.inl (ok_inv (T := TX11) (N := 93) rfl cw_X11_knownWord (by decide) (by decide) ml_X11_298 ci_X11_knownWord cv_X11_knownWord (show Cond.initialized (yX11_knownWord).cls ∈ am_ts from ci9_RX11) ⟨by decide +kernel, by decide +kernel, by decide +kernel⟩ rfl (by decide +kernel)))⟩,
  List.forall_mem_cons.mpr ⟨⟨mo_is _ _, Or.inl (ok_istore_n (k := 3) rfl (by decide) (by decide +kernel))⟩,
  List.forall_mem_cons.mpr ⟨⟨mo_il _ _, Or.inl (ok_iload_n (k := 3) rfl (by decide +kernel))⟩,
  List.forall_mem_cons.mpr ⟨⟨mo_ic _ _, Or.inl (ok_iconst (n := 5) (v := 5) (by decide) (by decide +kernel))⟩,
  List.forall_mem_cons.mpr ⟨⟨mo_if2 _ _ _, Or.inl (ok_icmp_eq (off := 9) (by decide) (by decide +kernel))⟩,
  List.forall_mem_cons.mpr ⟨⟨mo_il _ _, Or.inl (ok_iload_n (k := 3) rfl (by decide +kernel))⟩,
  List.forall_mem_cons.mpr ⟨⟨mo_ic _ _, Or.inl (ok_bipush (n := 6) (v := 6) (by decide) (by decide +kernel))⟩,
  List.forall_mem_cons.mpr ⟨⟨mo_if2 _ _ _, Or.inl (ok_icmp_ne (off := 53) (by decide) (by decide +kernel))⟩,
  List.forall_mem_cons.mpr ⟨⟨mo_al _ _, Or.inl (ok_aload_n (k := 0) rfl (by decide +kernel))⟩,
  List.forall_mem_cons.mpr ⟨⟨mo_il _ _, Or.inl (ok_iload_n (k := 3) rfl (by decide +kernel))⟩,
  List.forall_mem_cons.mpr ⟨⟨mo_ic _ _, Or.inl (ok_iconst (n := 5) (v := 5) (by decide) (by decide +kernel))⟩,
  List.forall_mem_cons.mpr ⟨⟨mo_if2 _ _ _, Or.inl (ok_icmp_ne (off := 7) (by decide) (by decide +kernel))⟩,
  List.forall_mem_cons.mpr ⟨⟨mo_ic _ _, Or.inl (ok_iconst (n := 2) (v := 2) (by decide) (by decide +kernel))⟩,
  fun _ h => absurd h List.not_mem_nil⟩⟩⟩⟩⟩⟩⟩⟩⟩⟩⟩⟩⟩⟩⟩⟩⟩⟩⟩⟩
def t_X11_expression_2 : List (Nat × am_F) := [(69, im_go 73), (72, im_ic 1 73), (73, im_inv q_SH 11 128 1 76), (76, im_al 0 77), (77, im_il 3 78), (78, im_ic 5 79), (79, im_if2 ic_ne 86 82), (82, im_ic 4 83), (83, im_go 87), (86, im_ic 5 87), (87, im_inv q_SH 11 129 1 90), (90, im_al 0 91), (91, im_gr q_SH 11 50 94), (94, im_al 0 95), (95, im_gi q_SH 11 35 98), (98, im_ic 0 99), (99, im_ast q_SH .boolean (vp_nar .boolean) 100), (100, im_al 0 101), (101, im_inv q_SH 11 119 0 104), (104, im_al 0 105)]
set_option maxRecDepth 20000 in
theorem o_X11_expression_2 : ∀ q ∈ t_X11_expression_2, am_ok vwCl q_SH ξ (q_E ξ β xs L) q_EN q_KD q_ML (cX11_expression, 4, RX11, "expression", (some .int), []) q.1 q.2 :=
  List.forall_mem_cons.mpr ⟨⟨mo_go _, Or.inl (ok_goto (off := 4) (by decide) (by decide +kernel))⟩,
  List.forall_mem_cons.mpr ⟨⟨mo_ic _ _, Or.inl (ok_iconst (n := 1) (v := 1) (by decide) (by decide +kernel))⟩,
  List.forall_mem_cons.mpr ⟨⟨mo_inv _ _ _ _ _, Or.inr (Or.inl (ok_inv (T := TX11) (N := 93) rfl cw_X11_drops (by decide) (by decide) ml_X11_324 ci_X11_drops cv_X11_drops (show Cond.initialized (yX11_drops).cls ∈ am_ts from ci9_RX11) ⟨by decide +kernel, by decide +kernel, by decide +kernel⟩ rfl (by decide +kernel)))⟩,
  List.forall_mem_cons.mpr ⟨⟨mo_al _ _, Or.inl (ok_aload_n (k := 0) rfl (by decide +kernel))⟩,
  List.forall_mem_cons.mpr ⟨⟨mo_il _ _, Or.inl (ok_iload_n (k := 3) rfl (by decide +kernel))⟩,
  List.forall_mem_cons.mpr ⟨⟨mo_ic _ _, Or.inl (ok_iconst (n := 5) (v := 5) (by decide) (by decide +kernel))⟩,
  List.forall_mem_cons.mpr ⟨⟨mo_if2 _ _ _, Or.inl (ok_icmp_ne (off := 7) (by decide) (by decide +kernel))⟩,
  List.forall_mem_cons.mpr ⟨⟨mo_ic _ _, Or.inl (ok_iconst (n := 4) (v := 4) (by decide) (by decide +kernel))⟩,
  List.forall_mem_cons.mpr ⟨⟨mo_go _, Or.inl (ok_goto (off := 4) (by decide) (by decide +kernel))⟩,
  List.forall_mem_cons.mpr ⟨⟨mo_ic _ _, Or.inl (ok_iconst (n := 5) (v := 5) (by decide) (by decide +kernel))⟩,
  List.forall_mem_cons.mpr ⟨⟨mo_inv _ _ _ _ _, Or.inr (Or.inl (ok_inv (T := TX11) (N := 93) rfl cw_X11_waitsFor (by decide) (by decide) ml_X11_311 ci_X11_waitsFor cv_X11_waitsFor (show Cond.initialized (yX11_waitsFor).cls ∈ am_ts from ci9_RX11) ⟨by decide +kernel, by decide +kernel, by decide +kernel⟩ rfl (by decide +kernel)))⟩,
  List.forall_mem_cons.mpr ⟨⟨mo_al _ _, Or.inl (ok_aload_n (k := 0) rfl (by decide +kernel))⟩,
  List.forall_mem_cons.mpr ⟨⟨mo_gr _ _ _ _, Or.inl (ok_gr (C := RX11) (T := TX11) (N := 93) (ci := 11) (k := 50) rfl inX11 (by decide) fl_X11_180 (by decide +kernel) (by decide +kernel))⟩,
  List.forall_mem_cons.mpr ⟨⟨mo_al _ _, Or.inl (ok_aload_n (k := 0) rfl (by decide +kernel))⟩,
  List.forall_mem_cons.mpr ⟨⟨mo_gi _ _ _ _, Or.inl (ok_gi (C := RX11) (T := TX11) (N := 93) (ci := 11) (k := 35) rfl inX11 (by decide) fl_X11_305 (by decide +kernel) (by decide +kernel))⟩,
  List.forall_mem_cons.mpr ⟨⟨mo_ic _ _, Or.inl (ok_iconst (n := 0) (v := 0) (by decide) (by decide +kernel))⟩,
  List.forall_mem_cons.mpr ⟨⟨mo_ast _ _ _ _, Or.inl (ok_zast (by decide +kernel))⟩,
  List.forall_mem_cons.mpr ⟨⟨mo_al _ _, Or.inl (ok_aload_n (k := 0) rfl (by decide +kernel))⟩,
  List.forall_mem_cons.mpr ⟨⟨mo_inv _ _ _ _ _, Or.inr (Or.inl (ok_inv (T := TX11) (N := 93) rfl cw_X11_goes (by decide) (by decide) ml_X11_302 ci_X11_goes cv_X11_goes (show Cond.initialized (yX11_goes).cls ∈ am_ts from ci9_RX11) ⟨by decide +kernel, by decide +kernel, by decide +kernel⟩ rfl (by decide +kernel)))⟩,
  List.forall_mem_cons.mpr ⟨⟨mo_al _ _, Or.inl (ok_aload_n (k := 0) rfl (by decide +kernel))⟩,
  fun _ h => absurd h List.not_mem_nil⟩⟩⟩⟩⟩⟩⟩⟩⟩⟩⟩⟩⟩⟩⟩⟩⟩⟩⟩⟩
def t_X11_expression_3 : List (Nat × am_F) := [(105, im_ic 1 106), (106, im_inv q_SH 11 132 1 109), (109, im_go 351), (112, im_al 0 113), (113, im_ic 60 115), (115, im_inv q_SH 11 125 1 118), (118, im_if1 ib_ne 130 121), (121, im_al 0 122), (122, im_ic 61 124), (124, im_inv q_SH 11 125 1 127), (127, im_if1 ib_eq 189 130), (130, im_al 0 131), (131, im_gr q_SH 11 50 134), (134, im_al 0 135), (135, im_gi q_SH 11 35 138), (138, im_ald q_SH .boolean 139), (139, im_if1 ib_ne 189 142), (142, im_al 0 143), (143, im_ic 4 144), (144, im_inv q_SH 11 128 1 147)]
set_option maxRecDepth 20000 in
theorem o_X11_expression_3 : ∀ q ∈ t_X11_expression_3, am_ok vwCl q_SH ξ (q_E ξ β xs L) q_EN q_KD q_ML (cX11_expression, 4, RX11, "expression", (some .int), []) q.1 q.2 :=
  List.forall_mem_cons.mpr ⟨⟨mo_ic _ _, Or.inl (ok_iconst (n := 1) (v := 1) (by decide) (by decide +kernel))⟩,
  List.forall_mem_cons.mpr ⟨⟨mo_inv _ _ _ _ _, Or.inr (Or.inl (ok_inv (T := TX11) (N := 93) rfl cw_X11_operand (by decide) (by decide) ml_X11_320 ci_X11_operand cv_X11_operand (show Cond.initialized (yX11_operand).cls ∈ am_ts from ci9_RX11) ⟨by decide +kernel, by decide +kernel, by decide +kernel⟩ rfl (by decide +kernel)))⟩,
  List.forall_mem_cons.mpr ⟨⟨mo_go _, Or.inl (ok_goto (off := 242) (by decide) (by decide +kernel))⟩,
  List.forall_mem_cons.mpr ⟨⟨mo_al _ _, Or.inl (ok_aload_n (k := 0) rfl (by decide +kernel))⟩,
  List.forall_mem_cons.mpr ⟨⟨mo_ic _ _, Or.inl (ok_bipush (n := 60) (v := 60) (by decide) (by decide +kernel))⟩,
  List.forall_mem_cons.mpr ⟨⟨mo_inv _ _ _ _ _, Or.inr (Or.inl (ok_inv (T := TX11) (N := 93) rfl cw_X11_isSign (by decide) (by decide) ml_X11_308 ci_X11_isSign cv_X11_isSign (show Cond.initialized (yX11_isSign).cls ∈ am_ts from ci9_RX11) ⟨by decide +kernel, by decide +kernel, by decide +kernel⟩ rfl (by decide +kernel)))⟩,
  List.forall_mem_cons.mpr ⟨⟨mo_if1 _ _ _, Or.inl (ok_if_ne (off := 12) (by decide) (by decide +kernel))⟩,
  List.forall_mem_cons.mpr ⟨⟨mo_al _ _, Or.inl (ok_aload_n (k := 0) rfl (by decide +kernel))⟩,
  List.forall_mem_cons.mpr ⟨⟨mo_ic _ _, Or.inl (ok_bipush (n := 61) (v := 61) (by decide) (by decide +kernel))⟩,
  List.forall_mem_cons.mpr ⟨⟨mo_inv _ _ _ _ _, Or.inr (Or.inl (ok_inv (T := TX11) (N := 93) rfl cw_X11_isSign (by decide) (by decide) ml_X11_308 ci_X11_isSign cv_X11_isSign (show Cond.initialized (yX11_isSign).cls ∈ am_ts from ci9_RX11) ⟨by decide +kernel, by decide +kernel, by decide +kernel⟩ rfl (by decide +kernel)))⟩,
  List.forall_mem_cons.mpr ⟨⟨mo_if1 _ _ _, Or.inl (ok_if_eq (off := 62) (by decide) (by decide +kernel))⟩,
  List.forall_mem_cons.mpr ⟨⟨mo_al _ _, Or.inl (ok_aload_n (k := 0) rfl (by decide +kernel))⟩,
  List.forall_mem_cons.mpr ⟨⟨mo_gr _ _ _ _, Or.inl (ok_gr (C := RX11) (T := TX11) (N := 93) (ci := 11) (k := 50) rfl inX11 (by decide) fl_X11_180 (by decide +kernel) (by decide +kernel))⟩,
  List.forall_mem_cons.mpr ⟨⟨mo_al _ _, Or.inl (ok_aload_n (k := 0) rfl (by decide +kernel))⟩,
  List.forall_mem_cons.mpr ⟨⟨mo_gi _ _ _ _, Or.inl (ok_gi (C := RX11) (T := TX11) (N := 93) (ci := 11) (k := 35) rfl inX11 (by decide) fl_X11_305 (by decide +kernel) (by decide +kernel))⟩,
  List.forall_mem_cons.mpr ⟨⟨mo_ald _ _ _, Or.inl (ok_zald (by decide +kernel))⟩,
  List.forall_mem_cons.mpr ⟨⟨mo_if1 _ _ _, Or.inl (ok_if_ne (off := 50) (by decide) (by decide +kernel))⟩,
  List.forall_mem_cons.mpr ⟨⟨mo_al _ _, Or.inl (ok_aload_n (k := 0) rfl (by decide +kernel))⟩,
  List.forall_mem_cons.mpr ⟨⟨mo_ic _ _, Or.inl (ok_iconst (n := 4) (v := 4) (by decide) (by decide +kernel))⟩,
  List.forall_mem_cons.mpr ⟨⟨mo_inv _ _ _ _ _, Or.inr (Or.inl (ok_inv (T := TX11) (N := 93) rfl cw_X11_drops (by decide) (by decide) ml_X11_324 ci_X11_drops cv_X11_drops (show Cond.initialized (yX11_drops).cls ∈ am_ts from ci9_RX11) ⟨by decide +kernel, by decide +kernel, by decide +kernel⟩ rfl (by decide +kernel)))⟩,
  fun _ h => absurd h List.not_mem_nil⟩⟩⟩⟩⟩⟩⟩⟩⟩⟩⟩⟩⟩⟩⟩⟩⟩⟩⟩⟩
def t_X11_expression_4 : List (Nat × am_F) := [(147, im_al 0 148), (148, im_al 0 149), (149, im_ic 60 151), (151, im_inv q_SH 11 125 1 154), (154, im_if1 ib_eq 162 157), (157, im_ic 6 159), (159, im_go 164), (162, im_ic 7 164), (164, im_inv q_SH 11 129 1 167), (167, im_al 0 168), (168, im_gr q_SH 11 50 171), (171, im_al 0 172), (172, im_gi q_SH 11 35 175), (175, im_ic 1 176), (176, im_ast q_SH .boolean (vp_nar .boolean) 177), (177, im_al 0 178), (178, im_inv q_SH 11 119 0 181), (181, im_al 0 182), (182, im_ic 0 183), (183, im_inv q_SH 11 132 1 186)]
set_option maxRecDepth 20000 in
theorem o_X11_expression_4 : ∀ q ∈ t_X11_expression_4, am_ok vwCl q_SH ξ (q_E ξ β xs L) q_EN q_KD q_ML (cX11_expression, 4, RX11, "expression", (some .int), []) q.1 q.2 :=
  List.forall_mem_cons.mpr ⟨⟨mo_al _ _, Or.inl (ok_aload_n (k := 0) rfl (by decide +kernel))⟩,
  List.forall_mem_cons.mpr ⟨⟨mo_al _ _, Or.inl (ok_aload_n (k := 0) rfl (by decide +kernel))⟩,
  List.forall_mem_cons.mpr ⟨⟨mo_ic _ _, Or.inl (ok_bipush (n := 60) (v := 60) (by decide) (by decide +kernel))⟩,
  List.forall_mem_cons.mpr ⟨⟨mo_inv _ _ _ _ _, Or.inr (Or.inl (ok_inv (T := TX11) (N := 93) rfl cw_X11_isSign (by decide) (by decide) ml_X11_308 ci_X11_isSign cv_X11_isSign (show Cond.initialized (yX11_isSign).cls ∈ am_ts from ci9_RX11) ⟨by decide +kernel, by decide +kernel, by decide +kernel⟩ rfl (by decide +kernel)))⟩,
  List.forall_mem_cons.mpr ⟨⟨mo_if1 _ _ _, Or.inl (ok_if_eq (off := 8) (by decide) (by decide +kernel))⟩,
  List.forall_mem_cons.mpr ⟨⟨mo_ic _ _, Or.inl (ok_bipush (n := 6) (v := 6) (by decide) (by decide +kernel))⟩,
  List.forall_mem_cons.mpr ⟨⟨mo_go _, Or.inl (ok_goto (off := 5) (by decide) (by decide +kernel))⟩,
  List.forall_mem_cons.mpr ⟨⟨mo_ic _ _, Or.inl (ok_bipush (n := 7) (v := 7) (by decide) (by decide +kernel))⟩,
  List.forall_mem_cons.mpr ⟨⟨mo_inv _ _ _ _ _, Or.inr (Or.inl (ok_inv (T := TX11) (N := 93) rfl cw_X11_waitsFor (by decide) (by decide) ml_X11_311 ci_X11_waitsFor cv_X11_waitsFor (show Cond.initialized (yX11_waitsFor).cls ∈ am_ts from ci9_RX11) ⟨by decide +kernel, by decide +kernel, by decide +kernel⟩ rfl (by decide +kernel)))⟩,
  List.forall_mem_cons.mpr ⟨⟨mo_al _ _, Or.inl (ok_aload_n (k := 0) rfl (by decide +kernel))⟩,
  List.forall_mem_cons.mpr ⟨⟨mo_gr _ _ _ _, Or.inl (ok_gr (C := RX11) (T := TX11) (N := 93) (ci := 11) (k := 50) rfl inX11 (by decide) fl_X11_180 (by decide +kernel) (by decide +kernel))⟩,
  List.forall_mem_cons.mpr ⟨⟨mo_al _ _, Or.inl (ok_aload_n (k := 0) rfl (by decide +kernel))⟩,
  List.forall_mem_cons.mpr ⟨⟨mo_gi _ _ _ _, Or.inl (ok_gi (C := RX11) (T := TX11) (N := 93) (ci := 11) (k := 35) rfl inX11 (by decide) fl_X11_305 (by decide +kernel) (by decide +kernel))⟩,
  List.forall_mem_cons.mpr ⟨⟨mo_ic _ _, Or.inl (ok_iconst (n := 1) (v := 1) (by decide) (by decide +kernel))⟩,
  List.forall_mem_cons.mpr ⟨⟨mo_ast _ _ _ _, Or.inl (ok_zast (by decide +kernel))⟩,
  List.forall_mem_cons.mpr ⟨⟨mo_al _ _, Or.inl (ok_aload_n (k := 0) rfl (by decide +kernel))⟩,
  List.forall_mem_cons.mpr ⟨⟨mo_inv _ _ _ _ _, Or.inr (Or.inl (ok_inv (T := TX11) (N := 93) rfl cw_X11_goes (by decide) (by decide) ml_X11_302 ci_X11_goes cv_X11_goes (show Cond.initialized (yX11_goes).cls ∈ am_ts from ci9_RX11) ⟨by decide +kernel, by decide +kernel, by decide +kernel⟩ rfl (by decide +kernel)))⟩,
  List.forall_mem_cons.mpr ⟨⟨mo_al _ _, Or.inl (ok_aload_n (k := 0) rfl (by decide +kernel))⟩,
  List.forall_mem_cons.mpr ⟨⟨mo_ic _ _, Or.inl (ok_iconst (n := 0) (v := 0) (by decide) (by decide +kernel))⟩,
  List.forall_mem_cons.mpr ⟨⟨mo_inv _ _ _ _ _, Or.inr (Or.inl (ok_inv (T := TX11) (N := 93) rfl cw_X11_operand (by decide) (by decide) ml_X11_320 ci_X11_operand cv_X11_operand (show Cond.initialized (yX11_operand).cls ∈ am_ts from ci9_RX11) ⟨by decide +kernel, by decide +kernel, by decide +kernel⟩ rfl (by decide +kernel)))⟩,
  fun _ h => absurd h List.not_mem_nil⟩⟩⟩⟩⟩⟩⟩⟩⟩⟩⟩⟩⟩⟩⟩⟩⟩⟩⟩⟩
def t_X11_expression_5 : List (Nat × am_F) := [(186, im_go 351), (189, im_al 0 190), (190, im_ic 43 192), (192, im_inv q_SH 11 125 1 195), (195, im_if1 ib_ne 207 198), (198, im_al 0 199), (199, im_ic 45 201), (201, im_inv q_SH 11 125 1 204), (204, im_if1 ib_eq 244 207), (207, im_al 0 208), (208, im_ic 5 209), (209, im_inv q_SH 11 128 1 212), (212, im_al 0 213), (213, im_al 0 214), (214, im_ic 43 216), (216, im_inv q_SH 11 125 1 219), (219, im_if1 ib_eq 227 222), (222, im_ic 8 224), (224, im_go 229), (227, im_ic 9 229)]
set_option maxRecDepth 20000 in
theorem o_X11_expression_5 : ∀ q ∈ t_X11_expression_5, am_ok vwCl q_SH ξ (q_E ξ β xs L) q_EN q_KD q_ML (cX11_expression, 4, RX11, "expression", (some .int), []) q.1 q.2 :=
  List.forall_mem_cons.mpr ⟨⟨mo_go _, Or.inl (ok_goto (off := 165) (by decide) (by decide +kernel))⟩,
  List.forall_mem_cons.mpr ⟨⟨mo_al _ _, Or.inl (ok_aload_n (k := 0) rfl (by decide +kernel))⟩,
  List.forall_mem_cons.mpr ⟨⟨mo_ic _ _, Or.inl (ok_bipush (n := 43) (v := 43) (by decide) (by decide +kernel))⟩,
  List.forall_mem_cons.mpr ⟨⟨mo_inv _ _ _ _ _, Or.inr (Or.inl (ok_inv (T := TX11) (N := 93) rfl cw_X11_isSign (by decide) (by decide) ml_X11_308 ci_X11_isSign cv_X11_isSign (show Cond.initialized (yX11_isSign).cls ∈ am_ts from ci9_RX11) ⟨by decide +kernel, by decide +kernel, by decide +kernel⟩ rfl (by decide +kernel)))⟩,
  List.forall_mem_cons.mpr ⟨⟨mo_if1 _ _ _, Or.inl (ok_if_ne (off := 12) (by decide) (by decide +kernel))⟩,
  List.forall_mem_cons.mpr ⟨⟨mo_al _ _, Or.inl (ok_aload_n (k := 0) rfl (by decide +kernel))⟩,
  List.forall_mem_cons.mpr ⟨⟨mo_ic _ _, Or.inl (ok_bipush (n := 45) (v := 45) (by decide) (by decide +kernel))⟩,
  List.forall_mem_cons.mpr ⟨⟨mo_inv _ _ _ _ _, Or.inr (Or.inl (ok_inv (T := TX11) (N := 93) rfl cw_X11_isSign (by decide) (by decide) ml_X11_308 ci_X11_isSign cv_X11_isSign (show Cond.initialized (yX11_isSign).cls ∈ am_ts from ci9_RX11) ⟨by decide +kernel, by decide +kernel, by decide +kernel⟩ rfl (by decide +kernel)))⟩,
  List.forall_mem_cons.mpr ⟨⟨mo_if1 _ _ _, Or.inl (ok_if_eq (off := 40) (by decide) (by decide +kernel))⟩,
  List.forall_mem_cons.mpr ⟨⟨mo_al _ _, Or.inl (ok_aload_n (k := 0) rfl (by decide +kernel))⟩,
  List.forall_mem_cons.mpr ⟨⟨mo_ic _ _, Or.inl (ok_iconst (n := 5) (v := 5) (by decide) (by decide +kernel))⟩,
  List.forall_mem_cons.mpr ⟨⟨mo_inv _ _ _ _ _, Or.inr (Or.inl (ok_inv (T := TX11) (N := 93) rfl cw_X11_drops (by decide) (by decide) ml_X11_324 ci_X11_drops cv_X11_drops (show Cond.initialized (yX11_drops).cls ∈ am_ts from ci9_RX11) ⟨by decide +kernel, by decide +kernel, by decide +kernel⟩ rfl (by decide +kernel)))⟩,
  List.forall_mem_cons.mpr ⟨⟨mo_al _ _, Or.inl (ok_aload_n (k := 0) rfl (by decide +kernel))⟩,
  List.forall_mem_cons.mpr ⟨⟨mo_al _ _, Or.inl (ok_aload_n (k := 0) rfl (by decide +kernel))⟩,
  List.forall_mem_cons.mpr ⟨⟨mo_ic _ _, Or.inl (ok_bipush (n := 43) (v := 43) (by decide) (by decide +kernel))⟩,
  List.forall_mem_cons.mpr ⟨⟨mo_inv _ _ _ _ _, Or.inr (Or.inl (ok_inv (T := TX11) (N := 93) rfl cw_X11_isSign (by decide) (by decide) ml_X11_308 ci_X11_isSign cv_X11_isSign (show Cond.initialized (yX11_isSign).cls ∈ am_ts from ci9_RX11) ⟨by decide +kernel, by decide +kernel, by decide +kernel⟩ rfl (by decide +kernel)))⟩,
  List.forall_mem_cons.mpr ⟨⟨mo_if1 _ _ _, Or.inl (ok_if_eq (off := 8) (by decide) (by decide +kernel))⟩,
  List.forall_mem_cons.mpr ⟨⟨mo_ic _ _, Or.inl (ok_bipush (n := 8) (v := 8) (by decide) (by decide +kernel))⟩,
  List.forall_mem_cons.mpr ⟨⟨mo_go _, Or.inl (ok_goto (off := 5) (by decide) (by decide +kernel))⟩,
  List.forall_mem_cons.mpr ⟨⟨mo_ic _ _, Or.inl (ok_bipush (n := 9) (v := 9) (by decide) (by decide +kernel))⟩,
  fun _ h => absurd h List.not_mem_nil⟩⟩⟩⟩⟩⟩⟩⟩⟩⟩⟩⟩⟩⟩⟩⟩⟩⟩⟩⟩
def t_X11_expression_6 : List (Nat × am_F) := [(229, im_inv q_SH 11 129 1 232), (232, im_al 0 233), (233, im_inv q_SH 11 119 0 236), (236, im_al 0 237), (237, im_ic 0 238), (238, im_inv q_SH 11 132 1 241), (241, im_go 351), (244, im_al 0 245), (245, im_ic 42 247), (247, im_inv q_SH 11 125 1 250), (250, im_if1 ib_ne 262 253), (253, im_al 0 254), (254, im_ic 47 256), (256, im_inv q_SH 11 125 1 259), (259, im_if1 ib_eq 300 262), (262, im_al 0 263), (263, im_ic 6 265), (265, im_inv q_SH 11 128 1 268), (268, im_al 0 269), (269, im_al 0 270)]
set_option maxRecDepth 20000 in
theorem o_X11_expression_6 : ∀ q ∈ t_X11_expression_6, am_ok vwCl q_SH ξ (q_E ξ β xs L) q_EN q_KD q_ML (cX11_expression, 4, RX11, "expression", (some .int), []) q.1 q.2 :=
  List.forall_mem_cons.mpr ⟨⟨mo_inv _ _ _ _ _, Or.inr (Or.inl (ok_inv (T := TX11) (N := 93) rfl cw_X11_waitsFor (by decide) (by decide) ml_X11_311 ci_X11_waitsFor cv_X11_waitsFor (show Cond.initialized (yX11_waitsFor).cls ∈ am_ts from ci9_RX11) ⟨by decide +kernel, by decide +kernel, by decide +kernel⟩ rfl (by decide +kernel)))⟩,
  List.forall_mem_cons.mpr ⟨⟨mo_al _ _, Or.inl (ok_aload_n (k := 0) rfl (by decide +kernel))⟩,
  List.forall_mem_cons.mpr ⟨⟨mo_inv _ _ _ _ _, Or.inr (Or.inl (ok_inv (T := TX11) (N := 93) rfl cw_X11_goes (by decide) (by decide) ml_X11_302 ci_X11_goes cv_X11_goes (show Cond.initialized (yX11_goes).cls ∈ am_ts from ci9_RX11) ⟨by decide +kernel, by decide +kernel, by decide +kernel⟩ rfl (by decide +kernel)))⟩,
  List.forall_mem_cons.mpr ⟨⟨mo_al _ _, Or.inl (ok_aload_n (k := 0) rfl (by decide +kernel))⟩,
  List.forall_mem_cons.mpr ⟨⟨mo_ic _ _, Or.inl (ok_iconst (n := 0) (v := 0) (by decide) (by decide +kernel))⟩,
  List.forall_mem_cons.mpr ⟨⟨mo_inv _ _ _ _ _, Or.inr (Or.inl (ok_inv (T := TX11) (N := 93) rfl cw_X11_operand (by decide) (by decide) ml_X11_320 ci_X11_operand cv_X11_operand (show Cond.initialized (yX11_operand).cls ∈ am_ts from ci9_RX11) ⟨by decide +kernel, by decide +kernel, by decide +kernel⟩ rfl (by decide +kernel)))⟩,
  List.forall_mem_cons.mpr ⟨⟨mo_go _, Or.inl (ok_goto (off := 110) (by decide) (by decide +kernel))⟩,
  List.forall_mem_cons.mpr ⟨⟨mo_al _ _, Or.inl (ok_aload_n (k := 0) rfl (by decide +kernel))⟩,
  List.forall_mem_cons.mpr ⟨⟨mo_ic _ _, Or.inl (ok_bipush (n := 42) (v := 42) (by decide) (by decide +kernel))⟩,
  List.forall_mem_cons.mpr ⟨⟨mo_inv _ _ _ _ _, Or.inr (Or.inl (ok_inv (T := TX11) (N := 93) rfl cw_X11_isSign (by decide) (by decide) ml_X11_308 ci_X11_isSign cv_X11_isSign (show Cond.initialized (yX11_isSign).cls ∈ am_ts from ci9_RX11) ⟨by decide +kernel, by decide +kernel, by decide +kernel⟩ rfl (by decide +kernel)))⟩,
  List.forall_mem_cons.mpr ⟨⟨mo_if1 _ _ _, Or.inl (ok_if_ne (off := 12) (by decide) (by decide +kernel))⟩,
  List.forall_mem_cons.mpr ⟨⟨mo_al _ _, Or.inl (ok_aload_n (k := 0) rfl (by decide +kernel))⟩,
  List.forall_mem_cons.mpr ⟨⟨mo_ic _ _, Or.inl (ok_bipush (n := 47) (v := 47) (by decide) (by decide +kernel))⟩,
  List.forall_mem_cons.mpr ⟨⟨mo_inv _ _ _ _ _, Or.inr (Or.inl (ok_inv (T := TX11) (N := 93) rfl cw_X11_isSign (by decide) (by decide) ml_X11_308 ci_X11_isSign cv_X11_isSign (show Cond.initialized (yX11_isSign).cls ∈ am_ts from ci9_RX11) ⟨by decide +kernel, by decide +kernel, by decide +kernel⟩ rfl (by decide +kernel)))⟩,
  List.forall_mem_cons.mpr ⟨⟨mo_if1 _ _ _, Or.inl (ok_if_eq (off := 41) (by decide) (by decide +kernel))⟩,
  List.forall_mem_cons.mpr ⟨⟨mo_al _ _, Or.inl (ok_aload_n (k := 0) rfl (by decide +kernel))⟩,
  List.forall_mem_cons.mpr ⟨⟨mo_ic _ _, Or.inl (ok_bipush (n := 6) (v := 6) (by decide) (by decide +kernel))⟩,
  List.forall_mem_cons.mpr ⟨⟨mo_inv _ _ _ _ _, Or.inr (Or.inl (ok_inv (T := TX11) (N := 93) rfl cw_X11_drops (by decide) (by decide) ml_X11_324 ci_X11_drops cv_X11_drops (show Cond.initialized (yX11_drops).cls ∈ am_ts from ci9_RX11) ⟨by decide +kernel, by decide +kernel, by decide +kernel⟩ rfl (by decide +kernel)))⟩,
  List.forall_mem_cons.mpr ⟨⟨mo_al _ _, Or.inl (ok_aload_n (k := 0) rfl (by decide +kernel))⟩,
  List.forall_mem_cons.mpr ⟨⟨mo_al _ _, Or.inl (ok_aload_n (k := 0) rfl (by decide +kernel))⟩,
  fun _ h => absurd h List.not_mem_nil⟩⟩⟩⟩⟩⟩⟩⟩⟩⟩⟩⟩⟩⟩⟩⟩⟩⟩⟩⟩
def t_X11_expression_7 : List (Nat × am_F) := [(270, im_ic 42 272), (272, im_inv q_SH 11 125 1 275), (275, im_if1 ib_eq 283 278), (278, im_ic 10 280), (280, im_go 285), (283, im_ic 11 285), (285, im_inv q_SH 11 129 1 288), (288, im_al 0 289), (289, im_inv q_SH 11 119 0 292), (292, im_al 0 293), (293, im_ic 0 294), (294, im_inv q_SH 11 132 1 297), (297, im_go 351), (300, im_al 0 301), (301, im_ic 41 303), (303, im_inv q_SH 11 125 1 306), (306, im_if1 ib_eq 349 309), (309, im_al 0 310), (310, im_gi q_SH 11 35 313), (313, im_ic 1 314)]
set_option maxRecDepth 20000 in
theorem o_X11_expression_7 : ∀ q ∈ t_X11_expression_7, am_ok vwCl q_SH ξ (q_E ξ β xs L) q_EN q_KD q_ML (cX11_expression, 4, RX11, "expression", (some .int), []) q.1 q.2 :=
  List.forall_mem_cons.mpr ⟨⟨mo_ic _ _, Or.inl (ok_bipush (n := 42) (v := 42) (by decide) (by decide +kernel))⟩,
  List.forall_mem_cons.mpr ⟨⟨mo_inv _ _ _ _ _, Or.inr (Or.inl (ok_inv (T := TX11) (N := 93) rfl cw_X11_isSign (by decide) (by decide) ml_X11_308 ci_X11_isSign cv_X11_isSign (show Cond.initialized (yX11_isSign).cls ∈ am_ts from ci9_RX11) ⟨by decide +kernel, by decide +kernel, by decide +kernel⟩ rfl (by decide +kernel)))⟩,
  List.forall_mem_cons.mpr ⟨⟨mo_if1 _ _ _, Or.inl (ok_if_eq (off := 8) (by decide) (by decide +kernel))⟩,
  List.forall_mem_cons.mpr ⟨⟨mo_ic _ _, Or.inl (ok_bipush (n := 10) (v := 10) (by decide) (by decide +kernel))⟩,
  List.forall_mem_cons.mpr ⟨⟨mo_go _, Or.inl (ok_goto (off := 5) (by decide) (by decide +kernel))⟩,
  List.forall_mem_cons.mpr ⟨⟨mo_ic _ _, Or.inl (ok_bipush (n := 11) (v := 11) (by decide) (by decide +kernel))⟩,
  List.forall_mem_cons.mpr ⟨⟨mo_inv _ _ _ _ _, Or.inr (Or.inl (ok_inv (T := TX11) (N := 93) rfl cw_X11_waitsFor (by decide) (by decide) ml_X11_311 ci_X11_waitsFor cv_X11_waitsFor (show Cond.initialized (yX11_waitsFor).cls ∈ am_ts from ci9_RX11) ⟨by decide +kernel, by decide +kernel, by decide +kernel⟩ rfl (by decide +kernel)))⟩,
  List.forall_mem_cons.mpr ⟨⟨mo_al _ _, Or.inl (ok_aload_n (k := 0) rfl (by decide +kernel))⟩,
  List.forall_mem_cons.mpr ⟨⟨mo_inv _ _ _ _ _, Or.inr (Or.inl (ok_inv (T := TX11) (N := 93) rfl cw_X11_goes (by decide) (by decide) ml_X11_302 ci_X11_goes cv_X11_goes (show Cond.initialized (yX11_goes).cls ∈ am_ts from ci9_RX11) ⟨by decide +kernel, by decide +kernel, by decide +kernel⟩ rfl (by decide +kernel)))⟩,
  List.forall_mem_cons.mpr ⟨⟨mo_al _ _, Or.inl (ok_aload_n (k := 0) rfl (by decide +kernel))⟩,
  List.forall_mem_cons.mpr ⟨⟨mo_ic _ _, Or.inl (ok_iconst (n := 0) (v := 0) (by decide) (by decide +kernel))⟩,
  List.forall_mem_cons.mpr ⟨⟨mo_inv _ _ _ _ _, Or.inr (Or.inl (ok_inv (T := TX11) (N := 93) rfl cw_X11_operand (by decide) (by decide) ml_X11_320 ci_X11_operand cv_X11_operand (show Cond.initialized (yX11_operand).cls ∈ am_ts from ci9_RX11) ⟨by decide +kernel, by decide +kernel, by decide +kernel⟩ rfl (by decide +kernel)))⟩,
  List.forall_mem_cons.mpr ⟨⟨mo_go _, Or.inl (ok_goto (off := 54) (by decide) (by decide +kernel))⟩,
  List.forall_mem_cons.mpr ⟨⟨mo_al _ _, Or.inl (ok_aload_n (k := 0) rfl (by decide +kernel))⟩,
  List.forall_mem_cons.mpr ⟨⟨mo_ic _ _, Or.inl (ok_bipush (n := 41) (v := 41) (by decide) (by decide +kernel))⟩,
  List.forall_mem_cons.mpr ⟨⟨mo_inv _ _ _ _ _, Or.inr (Or.inl (ok_inv (T := TX11) (N := 93) rfl cw_X11_isSign (by decide) (by decide) ml_X11_308 ci_X11_isSign cv_X11_isSign (show Cond.initialized (yX11_isSign).cls ∈ am_ts from ci9_RX11) ⟨by decide +kernel, by decide +kernel, by decide +kernel⟩ rfl (by decide +kernel)))⟩,
  List.forall_mem_cons.mpr ⟨⟨mo_if1 _ _ _, Or.inl (ok_if_eq (off := 43) (by decide) (by decide +kernel))⟩,
  List.forall_mem_cons.mpr ⟨⟨mo_al _ _, Or.inl (ok_aload_n (k := 0) rfl (by decide +kernel))⟩,
  List.forall_mem_cons.mpr ⟨⟨mo_gi _ _ _ _, Or.inl (ok_gi (C := RX11) (T := TX11) (N := 93) (ci := 11) (k := 35) rfl inX11 (by decide) fl_X11_305 (by decide +kernel) (by decide +kernel))⟩,
  List.forall_mem_cons.mpr ⟨⟨mo_ic _ _, Or.inl (ok_iconst (n := 1) (v := 1) (by decide) (by decide +kernel))⟩,
  fun _ h => absurd h List.not_mem_nil⟩⟩⟩⟩⟩⟩⟩⟩⟩⟩⟩⟩⟩⟩⟩⟩⟩⟩⟩⟩
def t_X11_expression_8 : List (Nat × am_F) := [(314, im_if2 ic_le 349 317), (317, im_al 0 318), (318, im_ic 0 319), (319, im_inv q_SH 11 128 1 322), (322, im_al 0 323), (323, im_dup 324), (324, im_gi q_SH 11 34 327), (327, im_ic 1 328), (328, im_bin (fun x y => x - y) 329), (329, im_pi q_SH 11 34 332), (332, im_al 0 333), (333, im_dup 334), (334, im_gi q_SH 11 35 337), (337, im_ic 1 338), (338, im_bin (fun x y => x - y) 339), (339, im_pi q_SH 11 35 342), (342, im_al 0 343), (343, im_inv q_SH 11 119 0 346), (346, im_go 351), (349, im_ic 0 350)]
set_option maxRecDepth 20000 in
theorem o_X11_expression_8 : ∀ q ∈ t_X11_expression_8, am_ok vwCl q_SH ξ (q_E ξ β xs L) q_EN q_KD q_ML (cX11_expression, 4, RX11, "expression", (some .int), []) q.1 q.2 :=
  List.forall_mem_cons.mpr ⟨⟨mo_if2 _ _ _, Or.inl (ok_icmp_le (off := 35) (by decide) (by decide +kernel))⟩,
  List.forall_mem_cons.mpr ⟨⟨mo_al _ _, Or.inl (ok_aload_n (k := 0) rfl (by decide +kernel))⟩,
  List.forall_mem_cons.mpr ⟨⟨mo_ic _ _, Or.inl (ok_iconst (n := 0) (v := 0) (by decide) (by decide +kernel))⟩,
  List.forall_mem_cons.mpr ⟨⟨mo_inv _ _ _ _ _, Or.inr (Or.inl (ok_inv (T := TX11) (N := 93) rfl cw_X11_drops (by decide) (by decide) ml_X11_324 ci_X11_drops cv_X11_drops (show Cond.initialized (yX11_drops).cls ∈ am_ts from ci9_RX11) ⟨by decide +kernel, by decide +kernel, by decide +kernel⟩ rfl (by decide +kernel)))⟩,
  List.forall_mem_cons.mpr ⟨⟨mo_al _ _, Or.inl (ok_aload_n (k := 0) rfl (by decide +kernel))⟩,
  List.forall_mem_cons.mpr ⟨⟨mo_dup _, Or.inl (ok_dup (by decide +kernel))⟩,
  List.forall_mem_cons.mpr ⟨⟨mo_gi _ _ _ _, Or.inl (ok_gi (C := RX11) (T := TX11) (N := 93) (ci := 11) (k := 34) rfl inX11 (by decide) fl_X11_282 (by decide +kernel) (by decide +kernel))⟩,
  List.forall_mem_cons.mpr ⟨⟨mo_ic _ _, Or.inl (ok_iconst (n := 1) (v := 1) (by decide) (by decide +kernel))⟩,
  List.forall_mem_cons.mpr ⟨⟨mo_bin _ _, Or.inl (ok_isub (by decide +kernel))⟩,
  List.forall_mem_cons.mpr ⟨⟨mo_pi _ _ _ _, Or.inl (ok_pi (ty := .int) (C := RX11) (T := TX11) (N := 93) (ci := 11) (k := 34) rfl inX11 (by decide) fl_X11_282 (by decide +kernel) tyX11 tyX11_ok nmX11 (by decide +kernel) (by decide +kernel) (by decide +kernel))⟩,
  List.forall_mem_cons.mpr ⟨⟨mo_al _ _, Or.inl (ok_aload_n (k := 0) rfl (by decide +kernel))⟩,
  List.forall_mem_cons.mpr ⟨⟨mo_dup _, Or.inl (ok_dup (by decide +kernel))⟩,
  List.forall_mem_cons.mpr ⟨⟨mo_gi _ _ _ _, Or.inl (ok_gi (C := RX11) (T := TX11) (N := 93) (ci := 11) (k := 35) rfl inX11 (by decide) fl_X11_305 (by decide +kernel) (by decide +kernel))⟩,
  List.forall_mem_cons.mpr ⟨⟨mo_ic _ _, Or.inl (ok_iconst (n := 1) (v := 1) (by decide) (by decide +kernel))⟩,
  List.forall_mem_cons.mpr ⟨⟨mo_bin _ _, Or.inl (ok_isub (by decide +kernel))⟩,
  List.forall_mem_cons.mpr ⟨⟨mo_pi _ _ _ _, Or.inl (ok_pi (ty := .int) (C := RX11) (T := TX11) (N := 93) (ci := 11) (k := 35) rfl inX11 (by decide) fl_X11_305 (by decide +kernel) tyX11 tyX11_ok nmX11 (by decide +kernel) (by decide +kernel) (by decide +kernel))⟩,
  List.forall_mem_cons.mpr ⟨⟨mo_al _ _, Or.inl (ok_aload_n (k := 0) rfl (by decide +kernel))⟩,
  List.forall_mem_cons.mpr ⟨⟨mo_inv _ _ _ _ _, Or.inr (Or.inl (ok_inv (T := TX11) (N := 93) rfl cw_X11_goes (by decide) (by decide) ml_X11_302 ci_X11_goes cv_X11_goes (show Cond.initialized (yX11_goes).cls ∈ am_ts from ci9_RX11) ⟨by decide +kernel, by decide +kernel, by decide +kernel⟩ rfl (by decide +kernel)))⟩,
  List.forall_mem_cons.mpr ⟨⟨mo_go _, Or.inl (ok_goto (off := 5) (by decide) (by decide +kernel))⟩,
  List.forall_mem_cons.mpr ⟨⟨mo_ic _ _, Or.inl (ok_iconst (n := 0) (v := 0) (by decide) (by decide +kernel))⟩,
  fun _ h => absurd h List.not_mem_nil⟩⟩⟩⟩⟩⟩⟩⟩⟩⟩⟩⟩⟩⟩⟩⟩⟩⟩⟩⟩
def t_X11_expression_9 : List (Nat × am_F) := [(350, im_is 2 351), (351, im_go 35), (354, im_al 0 355), (355, im_inv q_SH 11 124 0 358), (358, im_if1 ib_eq 374 361), (361, im_al 0 362), (362, im_gi q_SH 11 35 365), (365, im_ic 1 366), (366, im_if2 ic_le 374 369), (369, im_al 0 370), (370, im_ic 1 371), (371, im_inv q_SH 11 123 1 374), (374, im_al 0 375), (375, im_ic 0 376), (376, im_inv q_SH 11 128 1 379), (379, im_al 0 380), (380, im_ic 0 381), (381, im_inv q_SH 11 126 1 384), (384, im_il 1 385), (385, im_reti)]
set_option maxRecDepth 20000 in
theorem o_X11_expression_9 : ∀ q ∈ t_X11_expression_9, am_ok vwCl q_SH ξ (q_E ξ β xs L) q_EN q_KD q_ML (cX11_expression, 4, RX11, "expression", (some .int), []) q.1 q.2 :=
  List.forall_mem_cons.mpr ⟨⟨mo_is _ _, Or.inl (ok_istore_n (k := 2) rfl (by decide) (by decide +kernel))⟩,
  List.forall_mem_cons.mpr ⟨⟨mo_go _, Or.inl (ok_goto (off := (-316)) (by decide) (by decide +kernel))⟩,
  List.forall_mem_cons.mpr ⟨⟨mo_al _ _, Or.inl (ok_aload_n (k := 0) rfl (by decide +kernel))⟩,
  List.forall_mem_cons.mpr ⟨⟨mo_inv _ _ _ _ _, Or.inr (Or.inl (ok_inv (T := TX11) (N := 93) rfl cw_X11_isGood (by decide) (by decide) ml_X11_291 ci_X11_isGood cv_X11_isGood (show Cond.initialized (yX11_isGood).cls ∈ am_ts from ci9_RX11) ⟨by decide +kernel, by decide +kernel, by decide +kernel⟩ rfl (by decide +kernel)))⟩,
  List.forall_mem_cons.mpr ⟨⟨mo_if1 _ _ _, Or.inl (ok_if_eq (off := 16) (by decide) (by decide +kernel))⟩,
  List.forall_mem_cons.mpr ⟨⟨mo_al _ _, Or.inl (ok_aload_n (k := 0) rfl (by decide +kernel))⟩,
  List.forall_mem_cons.mpr ⟨⟨mo_gi _ _ _ _, Or.inl (ok_gi (C := RX11) (T := TX11) (N := 93) (ci := 11) (k := 35) rfl inX11 (by decide) fl_X11_305 (by decide +kernel) (by decide +kernel))⟩,
  List.forall_mem_cons.mpr ⟨⟨mo_ic _ _, Or.inl (ok_iconst (n := 1) (v := 1) (by decide) (by decide +kernel))⟩,
  List.forall_mem_cons.mpr ⟨⟨mo_if2 _ _ _, Or.inl (ok_icmp_le (off := 8) (by decide) (by decide +kernel))⟩,
  List.forall_mem_cons.mpr ⟨⟨mo_al _ _, Or.inl (ok_aload_n (k := 0) rfl (by decide +kernel))⟩,
  List.forall_mem_cons.mpr ⟨⟨mo_ic _ _, Or.inl (ok_iconst (n := 1) (v := 1) (by decide) (by decide +kernel))⟩,
  List.forall_mem_cons.mpr ⟨⟨mo_inv _ _ _ _ _, Or.inr (Or.inl (ok_inv (T := TX11) (N := 93) rfl cw_X11_wrong (by decide) (by decide) ml_X11_295 ci_X11_wrong cv_X11_wrong (show Cond.initialized (yX11_wrong).cls ∈ am_ts from ci9_RX11) ⟨by decide +kernel, by decide +kernel, by decide +kernel⟩ rfl (by decide +kernel)))⟩,
  List.forall_mem_cons.mpr ⟨⟨mo_al _ _, Or.inl (ok_aload_n (k := 0) rfl (by decide +kernel))⟩,
  List.forall_mem_cons.mpr ⟨⟨mo_ic _ _, Or.inl (ok_iconst (n := 0) (v := 0) (by decide) (by decide +kernel))⟩,
  List.forall_mem_cons.mpr ⟨⟨mo_inv _ _ _ _ _, Or.inr (Or.inl (ok_inv (T := TX11) (N := 93) rfl cw_X11_drops (by decide) (by decide) ml_X11_324 ci_X11_drops cv_X11_drops (show Cond.initialized (yX11_drops).cls ∈ am_ts from ci9_RX11) ⟨by decide +kernel, by decide +kernel, by decide +kernel⟩ rfl (by decide +kernel)))⟩,
  List.forall_mem_cons.mpr ⟨⟨mo_al _ _, Or.inl (ok_aload_n (k := 0) rfl (by decide +kernel))⟩,
  List.forall_mem_cons.mpr ⟨⟨mo_ic _ _, Or.inl (ok_iconst (n := 0) (v := 0) (by decide) (by decide +kernel))⟩,
  List.forall_mem_cons.mpr ⟨⟨mo_inv _ _ _ _ _, Or.inr (Or.inl (ok_inv (T := TX11) (N := 93) rfl cw_X11_puts (by decide) (by decide) ml_X11_288 ci_X11_puts cv_X11_puts (show Cond.initialized (yX11_puts).cls ∈ am_ts from ci9_RX11) ⟨by decide +kernel, by decide +kernel, by decide +kernel⟩ rfl (by decide +kernel)))⟩,
  List.forall_mem_cons.mpr ⟨⟨mo_il _ _, Or.inl (ok_iload_n (k := 1) rfl (by decide +kernel))⟩,
  List.forall_mem_cons.mpr ⟨⟨mo_reti, Or.inr (Or.inr (ok_reti rfl (by decide +kernel)))⟩,
  fun _ h => absurd h List.not_mem_nil⟩⟩⟩⟩⟩⟩⟩⟩⟩⟩⟩⟩⟩⟩⟩⟩⟩⟩⟩⟩
def t_X11_expression : List (Nat × am_F) := t_X11_expression_0 ++ (t_X11_expression_1 ++ (t_X11_expression_2 ++ (t_X11_expression_3 ++ (t_X11_expression_4 ++ (t_X11_expression_5 ++ (t_X11_expression_6 ++ (t_X11_expression_7 ++ (t_X11_expression_8 ++ (t_X11_expression_9)))))))))
theorem o_X11_expression : ∀ q ∈ t_X11_expression, am_ok vwCl q_SH ξ (q_E ξ β xs L) q_EN q_KD q_ML (cX11_expression, 4, RX11, "expression", (some .int), []) q.1 q.2 := List.forall_mem_append.mpr ⟨o_X11_expression_0, List.forall_mem_append.mpr ⟨o_X11_expression_1, List.forall_mem_append.mpr ⟨o_X11_expression_2, List.forall_mem_append.mpr ⟨o_X11_expression_3, List.forall_mem_append.mpr ⟨o_X11_expression_4, List.forall_mem_append.mpr ⟨o_X11_expression_5, List.forall_mem_append.mpr ⟨o_X11_expression_6, List.forall_mem_append.mpr ⟨o_X11_expression_7, List.forall_mem_append.mpr ⟨o_X11_expression_8, o_X11_expression_9⟩⟩⟩⟩⟩⟩⟩⟩⟩
def t_X11_number_0 : List (Nat × am_F) := [(0, im_al 0 1), (1, im_inv q_SH 11 124 0 4), (4, im_if1 ib_ne 9 7), (7, im_ic 0 8), (8, im_reti), (9, im_al 0 10), (10, im_gi q_SH 11 25 13), (13, im_ic 2 14), (14, im_if2 ic_eq 25 17), (17, im_al 0 18), (18, im_ic 1 19), (19, im_inv q_SH 11 123 1 22), (22, im_go 38), (25, im_al 0 26), (26, im_gi q_SH 11 27 29), (29, im_ic 5 30), (30, im_if2 ic_le 38 33), (33, im_al 0 34), (34, im_ic 2 35), (35, im_inv q_SH 11 123 1 38)]
set_option maxRecDepth 20000 in
theorem o_X11_number_0 : ∀ q ∈ t_X11_number_0, am_ok vwCl q_SH ξ (q_E ξ β xs L) q_EN q_KD q_ML (cX11_number, 2, RX11, "number", (some .int), []) q.1 q.2 :=
  List.forall_mem_cons.mpr ⟨⟨mo_al _ _, Or.inl (ok_aload_n (k := 0) rfl (by decide +kernel))⟩,
  List.forall_mem_cons.mpr ⟨⟨mo_inv _ _ _ _ _, Or.inr (Or.inl (ok_inv (T := TX11) (N := 93) rfl cw_X11_isGood (by decide) (by decide) ml_X11_291 ci_X11_isGood cv_X11_isGood (show Cond.initialized (yX11_isGood).cls ∈ am_ts from ci9_RX11) ⟨by decide +kernel, by decide +kernel, by decide +kernel⟩ rfl (by decide +kernel)))⟩,
  List.forall_mem_cons.mpr ⟨⟨mo_if1 _ _ _, Or.inl (ok_if_ne (off := 5) (by decide) (by decide +kernel))⟩,
  List.forall_mem_cons.mpr ⟨⟨mo_ic _ _, Or.inl (ok_iconst (n := 0) (v := 0) (by decide) (by decide +kernel))⟩,
  List.forall_mem_cons.mpr ⟨⟨mo_reti, Or.inr (Or.inr (ok_reti rfl (by decide +kernel)))⟩,
  List.forall_mem_cons.mpr ⟨⟨mo_al _ _, Or.inl (ok_aload_n (k := 0) rfl (by decide +kernel))⟩,
  List.forall_mem_cons.mpr ⟨⟨mo_gi _ _ _ _, Or.inl (ok_gi (C := RX11) (T := TX11) (N := 93) (ci := 11) (k := 25) rfl inX11 (by decide) fl_X11_116 (by decide +kernel) (by decide +kernel))⟩,
  List.forall_mem_cons.mpr ⟨⟨mo_ic _ _, Or.inl (ok_iconst (n := 2) (v := 2) (by decide) (by decide +kernel))⟩,
  List.forall_mem_cons.mpr ⟨⟨mo_if2 _ _ _, Or.inl (ok_icmp_eq (off := 11) (by decide) (by decide +kernel))⟩,
  List.forall_mem_cons.mpr ⟨⟨mo_al _ _, Or.inl (ok_aload_n (k := 0) rfl (by decide +kernel))⟩,
  List.forall_mem_cons.mpr ⟨⟨mo_ic _ _, Or.inl (ok_iconst (n := 1) (v := 1) (by decide) (by decide +kernel))⟩,
  List.forall_mem_cons.mpr ⟨⟨mo_inv _ _ _ _ _, Or.inr (Or.inl (ok_inv (T := TX11) (N := 93) rfl cw_X11_wrong (by decide) (by decide) ml_X11_295 ci_X11_wrong cv_X11_wrong (show Cond.initialized (yX11_wrong).cls ∈ am_ts from ci9_RX11) ⟨by decide +kernel, by decide +kernel, by decide +kernel⟩ rfl (by decide +kernel)))⟩,
  List.forall_mem_cons.mpr ⟨⟨mo_go _, Or.inl (ok_goto (off := 16) (by decide) (by decide +kernel))⟩,
  List.forall_mem_cons.mpr ⟨⟨mo_al _ _, Or.inl (ok_aload_n (k := 0) rfl (by decide +kernel))⟩,
  List.forall_mem_cons.mpr ⟨⟨mo_gi _ _ _ _, Or.inl (ok_gi (C := RX11) (T := TX11) (N := 93) (ci := 11) (k := 27) rfl inX11 (by decide) fl_X11_125 (by decide +kernel) (by decide +kernel))⟩,
  List.forall_mem_cons.mpr ⟨⟨mo_ic _ _, Or.inl (ok_iconst (n := 5) (v := 5) (by decide) (by decide +kernel))⟩,
  List.forall_mem_cons.mpr ⟨⟨mo_if2 _ _ _, Or.inl (ok_icmp_le (off := 8) (by decide) (by decide +kernel))⟩,
  List.forall_mem_cons.mpr ⟨⟨mo_al _ _, Or.inl (ok_aload_n (k := 0) rfl (by decide +kernel))⟩,
  List.forall_mem_cons.mpr ⟨⟨mo_ic _ _, Or.inl (ok_iconst (n := 2) (v := 2) (by decide) (by decide +kernel))⟩,
  List.forall_mem_cons.mpr ⟨⟨mo_inv _ _ _ _ _, Or.inr (Or.inl (ok_inv (T := TX11) (N := 93) rfl cw_X11_wrong (by decide) (by decide) ml_X11_295 ci_X11_wrong cv_X11_wrong (show Cond.initialized (yX11_wrong).cls ∈ am_ts from ci9_RX11) ⟨by decide +kernel, by decide +kernel, by decide +kernel⟩ rfl (by decide +kernel)))⟩,
  fun _ h => absurd h List.not_mem_nil⟩⟩⟩⟩⟩⟩⟩⟩⟩⟩⟩⟩⟩⟩⟩⟩⟩⟩⟩⟩
def t_X11_number_1 : List (Nat × am_F) := [(38, im_al 0 39), (39, im_gi q_SH 11 28 42), (42, im_is 1 43), (43, im_al 0 44), (44, im_inv q_SH 11 124 0 47), (47, im_if1 ib_eq 54 50), (50, im_al 0 51), (51, im_inv q_SH 11 119 0 54), (54, im_il 1 55), (55, im_reti)]
set_option maxRecDepth 20000 in
theorem o_X11_number_1 : ∀ q ∈ t_X11_number_1, am_ok vwCl q_SH ξ (q_E ξ β xs L) q_EN q_KD q_ML (cX11_number, 2, RX11, "number", (some .int), []) q.1 q.2 :=
  List.forall_mem_cons.mpr ⟨⟨mo_al _ _, Or.inl (ok_aload_n (k := 0) rfl (by decide +kernel))⟩,
  List.forall_mem_cons.mpr ⟨⟨mo_gi _ _ _ _, Or.inl (ok_gi (C := RX11) (T := TX11) (N := 93) (ci := 11) (k := 28) rfl inX11 (by decide) fl_X11_110 (by decide +kernel) (by decide +kernel))⟩,
  List.forall_mem_cons.mpr ⟨⟨mo_is _ _, Or.inl (ok_istore_n (k := 1) rfl (by decide) (by decide +kernel))⟩,
  List.forall_mem_cons.mpr ⟨⟨mo_al _ _, Or.inl (ok_aload_n (k := 0) rfl (by decide +kernel))⟩,
  List.forall_mem_cons.mpr ⟨⟨mo_inv _ _ _ _ _, Or.inr (Or.inl (ok_inv (T := TX11) (N := 93) rfl cw_X11_isGood (by decide) (by decide) ml_X11_291 ci_X11_isGood cv_X11_isGood (show Cond.initialized (yX11_isGood).cls ∈ am_ts from ci9_RX11) ⟨by decide +kernel, by decide +kernel, by decide +kernel⟩ rfl (by decide +kernel)))⟩,
  List.forall_mem_cons.mpr ⟨⟨mo_if1 _ _ _, Or.inl (ok_if_eq (off := 7) (by decide) (by decide +kernel))⟩,
  List.forall_mem_cons.mpr ⟨⟨mo_al _ _, Or.inl (ok_aload_n (k := 0) rfl (by decide +kernel))⟩,
  List.forall_mem_cons.mpr ⟨⟨mo_inv _ _ _ _ _, Or.inr (Or.inl (ok_inv (T := TX11) (N := 93) rfl cw_X11_goes (by decide) (by decide) ml_X11_302 ci_X11_goes cv_X11_goes (show Cond.initialized (yX11_goes).cls ∈ am_ts from ci9_RX11) ⟨by decide +kernel, by decide +kernel, by decide +kernel⟩ rfl (by decide +kernel)))⟩,
  List.forall_mem_cons.mpr ⟨⟨mo_il _ _, Or.inl (ok_iload_n (k := 1) rfl (by decide +kernel))⟩,
  List.forall_mem_cons.mpr ⟨⟨mo_reti, Or.inr (Or.inr (ok_reti rfl (by decide +kernel)))⟩,
  fun _ h => absurd h List.not_mem_nil⟩⟩⟩⟩⟩⟩⟩⟩⟩⟩
def t_X11_number : List (Nat × am_F) := t_X11_number_0 ++ (t_X11_number_1)
theorem o_X11_number : ∀ q ∈ t_X11_number, am_ok vwCl q_SH ξ (q_E ξ β xs L) q_EN q_KD q_ML (cX11_number, 2, RX11, "number", (some .int), []) q.1 q.2 := List.forall_mem_append.mpr ⟨o_X11_number_0, o_X11_number_1⟩
def t_X11_clause_0 : List (Nat × am_F) := [(0, im_al 0 1), (1, im_inv q_SH 11 122 0 4), (4, im_is 2 5), (5, im_il 2 6), (6, im_if1 ib_eq 24 9), (9, im_il 2 10), (10, im_ic 1 11), (11, im_if2 ic_eq 24 14), (14, im_il 2 15), (15, im_ic 4 16), (16, im_if2 ic_eq 24 19), (19, im_al 0 20), (20, im_ic 1 21), (21, im_inv q_SH 11 123 1 24), (24, im_al 0 25), (25, im_gr q_SH 11 41 28), (28, im_il 1 29), (29, im_ald q_SH .int 30), (30, im_ic 12 32), (32, im_if2 ic_ne 40 35)]
set_option maxRecDepth 20000 in
theorem o_X11_clause_0 : ∀ q ∈ t_X11_clause_0, am_ok vwCl q_SH ξ (q_E ξ β xs L) q_EN q_KD q_ML (cX11_clause, 4, RX11, "clause", none, []) q.1 q.2 :=
  List.forall_mem_cons.mpr ⟨⟨mo_al _ _, Or.inl (ok_aload_n (k := 0) rfl (by decide +kernel))⟩,
  List.forall_mem_cons.mpr ⟨⟨mo_inv _ _ _ _ _, Or.inr (Or.inl (ok_inv (T := TX11) (N := 93) rfl cw_X11_knownWord (by decide) (by decide) ml_X11_298 ci_X11_knownWord cv_X11_knownWord (show Cond.initialized (yX11_knownWord).cls ∈ am_ts from ci9_RX11) ⟨by decide +kernel, by decide +kernel, by decide +kernel⟩ rfl (by decide +kernel)))⟩,
  List.forall_mem_cons.mpr ⟨⟨mo_is _ _, Or.inl (ok_istore_n (k := 2) rfl (by decide) (by decide +kernel))⟩,
  List.forall_mem_cons.mpr ⟨⟨mo_il _ _, Or.inl (ok_iload_n (k := 2) rfl (by decide +kernel))⟩,
  List.forall_mem_cons.mpr ⟨⟨mo_if1 _ _ _, Or.inl (ok_if_eq (off := 18) (by decide) (by decide +kernel))⟩,
  List.forall_mem_cons.mpr ⟨⟨mo_il _ _, Or.inl (ok_iload_n (k := 2) rfl (by decide +kernel))⟩,
  List.forall_mem_cons.mpr ⟨⟨mo_ic _ _, Or.inl (ok_iconst (n := 1) (v := 1) (by decide) (by decide +kernel))⟩,
  List.forall_mem_cons.mpr ⟨⟨mo_if2 _ _ _, Or.inl (ok_icmp_eq (off := 13) (by decide) (by decide +kernel))⟩,
  List.forall_mem_cons.mpr ⟨⟨mo_il _ _, Or.inl (ok_iload_n (k := 2) rfl (by decide +kernel))⟩,
  List.forall_mem_cons.mpr ⟨⟨mo_ic _ _, Or.inl (ok_iconst (n := 4) (v := 4) (by decide) (by decide +kernel))⟩,
  List.forall_mem_cons.mpr ⟨⟨mo_if2 _ _ _, Or.inl (ok_icmp_eq (off := 8) (by decide) (by decide +kernel))⟩,
  List.forall_mem_cons.mpr ⟨⟨mo_al _ _, Or.inl (ok_aload_n (k := 0) rfl (by decide +kernel))⟩,
  List.forall_mem_cons.mpr ⟨⟨mo_ic _ _, Or.inl (ok_iconst (n := 1) (v := 1) (by decide) (by decide +kernel))⟩,
  List.forall_mem_cons.mpr ⟨⟨mo_inv _ _ _ _ _, Or.inr (Or.inl (ok_inv (T := TX11) (N := 93) rfl cw_X11_wrong (by decide) (by decide) ml_X11_295 ci_X11_wrong cv_X11_wrong (show Cond.initialized (yX11_wrong).cls ∈ am_ts from ci9_RX11) ⟨by decide +kernel, by decide +kernel, by decide +kernel⟩ rfl (by decide +kernel)))⟩,
  List.forall_mem_cons.mpr ⟨⟨mo_al _ _, Or.inl (ok_aload_n (k := 0) rfl (by decide +kernel))⟩,
  List.forall_mem_cons.mpr ⟨⟨mo_gr _ _ _ _, Or.inl (ok_gr (C := RX11) (T := TX11) (N := 93) (ci := 11) (k := 41) rfl inX11 (by decide) fl_X11_153 (by decide +kernel) (by decide +kernel))⟩,
  List.forall_mem_cons.mpr ⟨⟨mo_il _ _, Or.inl (ok_iload_n (k := 1) rfl (by decide +kernel))⟩,
  List.forall_mem_cons.mpr ⟨⟨mo_ald _ _ _, Or.inl (ok_iald (by decide +kernel))⟩,
  List.forall_mem_cons.mpr ⟨⟨mo_ic _ _, Or.inl (ok_bipush (n := 12) (v := 12) (by decide) (by decide +kernel))⟩,
  List.forall_mem_cons.mpr ⟨⟨mo_if2 _ _ _, Or.inl (ok_icmp_ne (off := 8) (by decide) (by decide +kernel))⟩,
  fun _ h => absurd h List.not_mem_nil⟩⟩⟩⟩⟩⟩⟩⟩⟩⟩⟩⟩⟩⟩⟩⟩⟩⟩⟩⟩
def t_X11_clause_1 : List (Nat × am_F) := [(35, im_al 0 36), (36, im_ic 2 37), (37, im_inv q_SH 11 123 1 40), (40, im_al 0 41), (41, im_inv q_SH 11 124 0 44), (44, im_if1 ib_ne 48 47), (47, im_ret0e), (48, im_ic 12 50), (50, im_il 1 51), (51, im_bin (fun x y => x * y) 52), (52, im_al 0 53), (53, im_gr q_SH 11 41 56), (56, im_il 1 57), (57, im_ald q_SH .int 58), (58, im_bin (fun x y => x + y) 59), (59, im_is 3 60), (60, im_al 0 61), (61, im_gr q_SH 11 41 64), (64, im_il 1 65), (65, im_dup2 66)]
set_option maxRecDepth 20000 in
theorem o_X11_clause_1 : ∀ q ∈ t_X11_clause_1, am_ok vwCl q_SH ξ (q_E ξ β xs L) q_EN q_KD q_ML (cX11_clause, 4, RX11, "clause", none, []) q.1 q.2 :=
  List.forall_mem_cons.mpr ⟨⟨mo_al _ _, Or.inl (ok_aload_n (k := 0) rfl (by decide +kernel))⟩,
  List.forall_mem_cons.mpr ⟨⟨mo_ic _ _, Or.inl (ok_iconst (n := 2) (v := 2) (by decide) (by decide +kernel))⟩,
  List.forall_mem_cons.mpr ⟨⟨mo_inv _ _ _ _ _, Or.inr (Or.inl (ok_inv (T := TX11) (N := 93) rfl cw_X11_wrong (by decide) (by decide) ml_X11_295 ci_X11_wrong cv_X11_wrong (show Cond.initialized (yX11_wrong).cls ∈ am_ts from ci9_RX11) ⟨by decide +kernel, by decide +kernel, by decide +kernel⟩ rfl (by decide +kernel)))⟩,
  List.forall_mem_cons.mpr ⟨⟨mo_al _ _, Or.inl (ok_aload_n (k := 0) rfl (by decide +kernel))⟩,
  List.forall_mem_cons.mpr ⟨⟨mo_inv _ _ _ _ _, Or.inr (Or.inl (ok_inv (T := TX11) (N := 93) rfl cw_X11_isGood (by decide) (by decide) ml_X11_291 ci_X11_isGood cv_X11_isGood (show Cond.initialized (yX11_isGood).cls ∈ am_ts from ci9_RX11) ⟨by decide +kernel, by decide +kernel, by decide +kernel⟩ rfl (by decide +kernel)))⟩,
  List.forall_mem_cons.mpr ⟨⟨mo_if1 _ _ _, Or.inl (ok_if_ne (off := 4) (by decide) (by decide +kernel))⟩,
  List.forall_mem_cons.mpr ⟨⟨mo_ret0e, Or.inr (Or.inr (ok_ret0 rfl (by decide +kernel)))⟩,
  List.forall_mem_cons.mpr ⟨⟨mo_ic _ _, Or.inl (ok_bipush (n := 12) (v := 12) (by decide) (by decide +kernel))⟩,
  List.forall_mem_cons.mpr ⟨⟨mo_il _ _, Or.inl (ok_iload_n (k := 1) rfl (by decide +kernel))⟩,
  List.forall_mem_cons.mpr ⟨⟨mo_bin _ _, Or.inl (ok_imul (by decide +kernel))⟩,
  List.forall_mem_cons.mpr ⟨⟨mo_al _ _, Or.inl (ok_aload_n (k := 0) rfl (by decide +kernel))⟩,
  List.forall_mem_cons.mpr ⟨⟨mo_gr _ _ _ _, Or.inl (ok_gr (C := RX11) (T := TX11) (N := 93) (ci := 11) (k := 41) rfl inX11 (by decide) fl_X11_153 (by decide +kernel) (by decide +kernel))⟩,
  List.forall_mem_cons.mpr ⟨⟨mo_il _ _, Or.inl (ok_iload_n (k := 1) rfl (by decide +kernel))⟩,
  List.forall_mem_cons.mpr ⟨⟨mo_ald _ _ _, Or.inl (ok_iald (by decide +kernel))⟩,
  List.forall_mem_cons.mpr ⟨⟨mo_bin _ _, Or.inl (ok_iadd (by decide +kernel))⟩,
  List.forall_mem_cons.mpr ⟨⟨mo_is _ _, Or.inl (ok_istore_n (k := 3) rfl (by decide) (by decide +kernel))⟩,
  List.forall_mem_cons.mpr ⟨⟨mo_al _ _, Or.inl (ok_aload_n (k := 0) rfl (by decide +kernel))⟩,
  List.forall_mem_cons.mpr ⟨⟨mo_gr _ _ _ _, Or.inl (ok_gr (C := RX11) (T := TX11) (N := 93) (ci := 11) (k := 41) rfl inX11 (by decide) fl_X11_153 (by decide +kernel) (by decide +kernel))⟩,
  List.forall_mem_cons.mpr ⟨⟨mo_il _ _, Or.inl (ok_iload_n (k := 1) rfl (by decide +kernel))⟩,
  List.forall_mem_cons.mpr ⟨⟨mo_dup2 _, Or.inl (ok_dup2 (by decide +kernel))⟩,
  fun _ h => absurd h List.not_mem_nil⟩⟩⟩⟩⟩⟩⟩⟩⟩⟩⟩⟩⟩⟩⟩⟩⟩⟩⟩⟩
def t_X11_clause_2 : List (Nat × am_F) := [(66, im_ald q_SH .int 67), (67, im_ic 1 68), (68, im_bin (fun x y => x + y) 69), (69, im_ast q_SH .int (fun x => x) 70), (70, im_al 0 71), (71, im_gr q_SH 11 43 74), (74, im_il 3 75), (75, im_il 2 76), (76, im_ast q_SH .int (fun x => x) 77), (77, im_al 0 78), (78, im_inv q_SH 11 119 0 81), (81, im_il 2 82), (82, im_ic 4 83), (83, im_if2 ic_ne 94 86), (86, im_al 0 87), (87, im_il 1 88), (88, im_inv q_SH 11 136 1 91), (91, im_go 99), (94, im_al 0 95), (95, im_il 3 96)]
set_option maxRecDepth 20000 in
theorem o_X11_clause_2 : ∀ q ∈ t_X11_clause_2, am_ok vwCl q_SH ξ (q_E ξ β xs L) q_EN q_KD q_ML (cX11_clause, 4, RX11, "clause", none, []) q.1 q.2 :=
  List.forall_mem_cons.mpr ⟨⟨mo_ald _ _ _, Or.inl (ok_iald (by decide +kernel))⟩,
  List.forall_mem_cons.mpr ⟨⟨mo_ic _ _, Or.inl (ok_iconst (n := 1) (v := 1) (by decide) (by decide +kernel))⟩,
  List.forall_mem_cons.mpr ⟨⟨mo_bin _ _, Or.inl (ok_iadd (by decide +kernel))⟩,
  List.forall_mem_cons.mpr ⟨⟨mo_ast _ _ _ _, Or.inl (ok_iast (by decide +kernel))⟩,
  List.forall_mem_cons.mpr ⟨⟨mo_al _ _, Or.inl (ok_aload_n (k := 0) rfl (by decide +kernel))⟩,
  List.forall_mem_cons.mpr ⟨⟨mo_gr _ _ _ _, Or.inl (ok_gr (C := RX11) (T := TX11) (N := 93) (ci := 11) (k := 43) rfl inX11 (by decide) fl_X11_159 (by decide +kernel) (by decide +kernel))⟩,
  List.forall_mem_cons.mpr ⟨⟨mo_il _ _, Or.inl (ok_iload_n (k := 3) rfl (by decide +kernel))⟩,
  List.forall_mem_cons.mpr ⟨⟨mo_il _ _, Or.inl (ok_iload_n (k := 2) rfl (by decide +kernel))⟩,
  List.forall_mem_cons.mpr ⟨⟨mo_ast _ _ _ _, Or.inl (ok_iast (by decide +kernel))⟩,
  List.forall_mem_cons.mpr ⟨⟨mo_al _ _, Or.inl (ok_aload_n (k := 0) rfl (by decide +kernel))⟩,
  List.forall_mem_cons.mpr ⟨⟨mo_inv _ _ _ _ _, Or.inr (Or.inl (ok_inv (T := TX11) (N := 93) rfl cw_X11_goes (by decide) (by decide) ml_X11_302 ci_X11_goes cv_X11_goes (show Cond.initialized (yX11_goes).cls ∈ am_ts from ci9_RX11) ⟨by decide +kernel, by decide +kernel, by decide +kernel⟩ rfl (by decide +kernel)))⟩,
  List.forall_mem_cons.mpr ⟨⟨mo_il _ _, Or.inl (ok_iload_n (k := 2) rfl (by decide +kernel))⟩,
  List.forall_mem_cons.mpr ⟨⟨mo_ic _ _, Or.inl (ok_iconst (n := 4) (v := 4) (by decide) (by decide +kernel))⟩,
  List.forall_mem_cons.mpr ⟨⟨mo_if2 _ _ _, Or.inl (ok_icmp_ne (off := 11) (by decide) (by decide +kernel))⟩,
  List.forall_mem_cons.mpr ⟨⟨mo_al _ _, Or.inl (ok_aload_n (k := 0) rfl (by decide +kernel))⟩,
  List.forall_mem_cons.mpr ⟨⟨mo_il _ _, Or.inl (ok_iload_n (k := 1) rfl (by decide +kernel))⟩,
  List.forall_mem_cons.mpr ⟨⟨mo_inv _ _ _ _ _, Or.inr (Or.inl (ok_inv (T := TX11) (N := 93) rfl cw_X11_struck (by decide) (by decide) ml_X11_327 ci_X11_struck cv_X11_struck (show Cond.initialized (yX11_struck).cls ∈ am_ts from ci9_RX11) ⟨by decide +kernel, by decide +kernel, by decide +kernel⟩ rfl (by decide +kernel)))⟩,
  List.forall_mem_cons.mpr ⟨⟨mo_go _, Or.inl (ok_goto (off := 8) (by decide) (by decide +kernel))⟩,
  List.forall_mem_cons.mpr ⟨⟨mo_al _ _, Or.inl (ok_aload_n (k := 0) rfl (by decide +kernel))⟩,
  List.forall_mem_cons.mpr ⟨⟨mo_il _ _, Or.inl (ok_iload_n (k := 3) rfl (by decide +kernel))⟩,
  fun _ h => absurd h List.not_mem_nil⟩⟩⟩⟩⟩⟩⟩⟩⟩⟩⟩⟩⟩⟩⟩⟩⟩⟩⟩⟩
def t_X11_clause_3 : List (Nat × am_F) := [(96, im_inv q_SH 11 137 1 99), (99, im_al 0 100), (100, im_inv q_SH 11 124 0 103), (103, im_if1 ib_ne 107 106), (106, im_ret0e), (107, im_al 0 108), (108, im_ic 59 110), (110, im_inv q_SH 11 125 1 113), (113, im_if1 ib_eq 123 116), (116, im_al 0 117), (117, im_inv q_SH 11 119 0 120), (120, im_go 128), (123, im_al 0 124), (124, im_ic 1 125), (125, im_inv q_SH 11 123 1 128), (128, im_ret0e)]
set_option maxRecDepth 20000 in
theorem o_X11_clause_3 : ∀ q ∈ t_X11_clause_3, am_ok vwCl q_SH ξ (q_E ξ β xs L) q_EN q_KD q_ML (cX11_clause, 4, RX11, "clause", none, []) q.1 q.2 :=
  List.forall_mem_cons.mpr ⟨⟨mo_inv _ _ _ _ _, Or.inr (Or.inl (ok_inv (T := TX11) (N := 93) rfl cw_X11_change (by decide) (by decide) ml_X11_330 ci_X11_change cv_X11_change (show Cond.initialized (yX11_change).cls ∈ am_ts from ci9_RX11) ⟨by decide +kernel, by decide +kernel, by decide +kernel⟩ rfl (by decide +kernel)))⟩,
  List.forall_mem_cons.mpr ⟨⟨mo_al _ _, Or.inl (ok_aload_n (k := 0) rfl (by decide +kernel))⟩,
  List.forall_mem_cons.mpr ⟨⟨mo_inv _ _ _ _ _, Or.inr (Or.inl (ok_inv (T := TX11) (N := 93) rfl cw_X11_isGood (by decide) (by decide) ml_X11_291 ci_X11_isGood cv_X11_isGood (show Cond.initialized (yX11_isGood).cls ∈ am_ts from ci9_RX11) ⟨by decide +kernel, by decide +kernel, by decide +kernel⟩ rfl (by decide +kernel)))⟩,
  List.forall_mem_cons.mpr ⟨⟨mo_if1 _ _ _, Or.inl (ok_if_ne (off := 4) (by decide) (by decide +kernel))⟩,
  List.forall_mem_cons.mpr ⟨⟨mo_ret0e, Or.inr (Or.inr (ok_ret0 rfl (by decide +kernel)))⟩,
  List.forall_mem_cons.mpr ⟨⟨mo_al _ _, Or.inl (ok_aload_n (k := 0) rfl (by decide +kernel))⟩,
  List.forall_mem_cons.mpr ⟨⟨mo_ic _ _, Or.inl (ok_bipush (n := 59) (v := 59) (by decide) (by decide +kernel))⟩,
  List.forall_mem_cons.mpr ⟨⟨mo_inv _ _ _ _ _, Or.inr (Or.inl (ok_inv (T := TX11) (N := 93) rfl cw_X11_isSign (by decide) (by decide) ml_X11_308 ci_X11_isSign cv_X11_isSign (show Cond.initialized (yX11_isSign).cls ∈ am_ts from ci9_RX11) ⟨by decide +kernel, by decide +kernel, by decide +kernel⟩ rfl (by decide +kernel)))⟩,
  List.forall_mem_cons.mpr ⟨⟨mo_if1 _ _ _, Or.inl (ok_if_eq (off := 10) (by decide) (by decide +kernel))⟩,
  List.forall_mem_cons.mpr ⟨⟨mo_al _ _, Or.inl (ok_aload_n (k := 0) rfl (by decide +kernel))⟩,
  List.forall_mem_cons.mpr ⟨⟨mo_inv _ _ _ _ _, Or.inr (Or.inl (ok_inv (T := TX11) (N := 93) rfl cw_X11_goes (by decide) (by decide) ml_X11_302 ci_X11_goes cv_X11_goes (show Cond.initialized (yX11_goes).cls ∈ am_ts from ci9_RX11) ⟨by decide +kernel, by decide +kernel, by decide +kernel⟩ rfl (by decide +kernel)))⟩,
  List.forall_mem_cons.mpr ⟨⟨mo_go _, Or.inl (ok_goto (off := 8) (by decide) (by decide +kernel))⟩,
  List.forall_mem_cons.mpr ⟨⟨mo_al _ _, Or.inl (ok_aload_n (k := 0) rfl (by decide +kernel))⟩,
  List.forall_mem_cons.mpr ⟨⟨mo_ic _ _, Or.inl (ok_iconst (n := 1) (v := 1) (by decide) (by decide +kernel))⟩,
  List.forall_mem_cons.mpr ⟨⟨mo_inv _ _ _ _ _, Or.inr (Or.inl (ok_inv (T := TX11) (N := 93) rfl cw_X11_wrong (by decide) (by decide) ml_X11_295 ci_X11_wrong cv_X11_wrong (show Cond.initialized (yX11_wrong).cls ∈ am_ts from ci9_RX11) ⟨by decide +kernel, by decide +kernel, by decide +kernel⟩ rfl (by decide +kernel)))⟩,
  List.forall_mem_cons.mpr ⟨⟨mo_ret0e, Or.inr (Or.inr (ok_ret0 rfl (by decide +kernel)))⟩,
  fun _ h => absurd h List.not_mem_nil⟩⟩⟩⟩⟩⟩⟩⟩⟩⟩⟩⟩⟩⟩⟩⟩
def t_X11_clause : List (Nat × am_F) := t_X11_clause_0 ++ (t_X11_clause_1 ++ (t_X11_clause_2 ++ (t_X11_clause_3)))
theorem o_X11_clause : ∀ q ∈ t_X11_clause, am_ok vwCl q_SH ξ (q_E ξ β xs L) q_EN q_KD q_ML (cX11_clause, 4, RX11, "clause", none, []) q.1 q.2 := List.forall_mem_append.mpr ⟨o_X11_clause_0, List.forall_mem_append.mpr ⟨o_X11_clause_1, List.forall_mem_append.mpr ⟨o_X11_clause_2, o_X11_clause_3⟩⟩⟩
def t_X11_struck_0 : List (Nat × am_F) := [(0, im_al 0 1), (1, im_gi q_SH 11 25 4), (4, im_ic 2 5), (5, im_if2 ic_ne 50 8), (8, im_al 0 9), (9, im_gi q_SH 11 27 12), (12, im_ic 5 13), (13, im_if2 ic_gt 50 16), (16, im_al 0 17), (17, im_gi q_SH 11 28 20), (20, im_al 0 21), (21, im_gi q_SH 11 32 24), (24, im_if2 ic_ge 45 27), (27, im_al 0 28), (28, im_gr q_SH 11 36 31), (31, im_al 0 32), (32, im_gi q_SH 11 28 35), (35, im_ald q_SH .int 36), (36, im_al 0 37), (37, im_gr q_SH 11 36 40)]
set_option maxRecDepth 20000 in
theorem o_X11_struck_0 : ∀ q ∈ t_X11_struck_0, am_ok vwCl q_SH ξ (q_E ξ β xs L) q_EN q_KD q_ML (cX11_struck, 3, RX11, "struck", none, []) q.1 q.2 :=
  List.forall_mem_cons.mpr ⟨⟨mo_al _ _, Or.inl (ok_aload_n (k := 0) rfl (by decide +kernel))⟩,
  List.forall_mem_cons.mpr ⟨⟨mo_gi _ _ _ _, Or.inl (ok_gi (C := RX11) (T := TX11) (N := 93) (ci := 11) (k := 25) rfl inX11 (by decide) fl_X11_116 (by decide +kernel) (by decide +kernel))⟩,
  List.forall_mem_cons.mpr ⟨⟨mo_ic _ _, Or.inl (ok_iconst (n := 2) (v := 2) (by decide) (by decide +kernel))⟩,
  List.forall_mem_cons.mpr ⟨⟨mo_if2 _ _ _, Or.inl (ok_icmp_ne (off := 45) (by decide) (by decide +kernel))⟩,
  List.forall_mem_cons.mpr ⟨⟨mo_al _ _, Or.inl (ok_aload_n (k := 0) rfl (by decide +kernel))⟩,
  List.forall_mem_cons.mpr ⟨⟨mo_gi _ _ _ _, Or.inl (ok_gi (C := RX11) (T := TX11) (N := 93) (ci := 11) (k := 27) rfl inX11 (by decide) fl_X11_125 (by decide +kernel) (by decide +kernel))⟩,
  List.forall_mem_cons.mpr ⟨⟨mo_ic _ _, Or.inl (ok_iconst (n := 5) (v := 5) (by decide) (by decide +kernel))⟩,
  List.forall_mem_cons.mpr ⟨⟨mo_if2 _ _ _, Or.inl (ok_icmp_gt (off := 37) (by decide) (by decide +kernel))⟩,
  List.forall_mem_cons.mpr ⟨⟨mo_al _ _, Or.inl (ok_aload_n (k := 0) rfl (by decide +kernel))⟩,
  List.forall_mem_cons.mpr ⟨⟨mo_gi _ _ _ _, Or.inl (ok_gi (C := RX11) (T := TX11) (N := 93) (ci := 11) (k := 28) rfl inX11 (by decide) fl_X11_110 (by decide +kernel) (by decide +kernel))⟩,
  List.forall_mem_cons.mpr ⟨⟨mo_al _ _, Or.inl (ok_aload_n (k := 0) rfl (by decide +kernel))⟩,
  List.forall_mem_cons.mpr ⟨⟨mo_gi _ _ _ _, Or.inl (ok_gi (C := RX11) (T := TX11) (N := 93) (ci := 11) (k := 32) rfl inX11 (by decide) fl_X11_77 (by decide +kernel) (by decide +kernel))⟩,
  List.forall_mem_cons.mpr ⟨⟨mo_if2 _ _ _, Or.inl (ok_icmp_ge (off := 21) (by decide) (by decide +kernel))⟩,
  List.forall_mem_cons.mpr ⟨⟨mo_al _ _, Or.inl (ok_aload_n (k := 0) rfl (by decide +kernel))⟩,
  List.forall_mem_cons.mpr ⟨⟨mo_gr _ _ _ _, Or.inl (ok_gr (C := RX11) (T := TX11) (N := 93) (ci := 11) (k := 36) rfl inX11 (by decide) fl_X11_141 (by decide +kernel) (by decide +kernel))⟩,
  List.forall_mem_cons.mpr ⟨⟨mo_al _ _, Or.inl (ok_aload_n (k := 0) rfl (by decide +kernel))⟩,
  List.forall_mem_cons.mpr ⟨⟨mo_gi _ _ _ _, Or.inl (ok_gi (C := RX11) (T := TX11) (N := 93) (ci := 11) (k := 28) rfl inX11 (by decide) fl_X11_110 (by decide +kernel) (by decide +kernel))⟩,
  List.forall_mem_cons.mpr ⟨⟨mo_ald _ _ _, Or.inl (ok_iald (by decide +kernel))⟩,
  List.forall_mem_cons.mpr ⟨⟨mo_al _ _, Or.inl (ok_aload_n (k := 0) rfl (by decide +kernel))⟩,
  List.forall_mem_cons.mpr ⟨⟨mo_gr _ _ _ _, Or.inl (ok_gr (C := RX11) (T := TX11) (N := 93) (ci := 11) (k := 36) rfl inX11 (by decide) fl_X11_141 (by decide +kernel) (by decide +kernel))⟩,
  fun _ h => absurd h List.not_mem_nil⟩⟩⟩⟩⟩⟩⟩⟩⟩⟩⟩⟩⟩⟩⟩⟩⟩⟩⟩⟩
def t_X11_struck_1 : List (Nat × am_F) := [(40, im_il 1 41), (41, im_ald q_SH .int 42), (42, im_if2 ic_eq 50 45), (45, im_al 0 46), (46, im_ic 4 47), (47, im_inv q_SH 11 123 1 50), (50, im_al 0 51), (51, im_inv q_SH 11 134 0 54), (54, im_is 2 55), (55, im_al 0 56), (56, im_inv q_SH 11 124 0 59), (59, im_if1 ib_eq 74 62), (62, im_al 0 63), (63, im_gr q_SH 11 42 66), (66, im_il 1 67), (67, im_dup2 68), (68, im_ald q_SH .int 69), (69, im_ic 1 70), (70, im_il 2 71), (71, im_bin (fun x y => x <<< (y &&& 31)) 72)]
set_option maxRecDepth 20000 in
theorem o_X11_struck_1 : ∀ q ∈ t_X11_struck_1, am_ok vwCl q_SH ξ (q_E ξ β xs L) q_EN q_KD q_ML (cX11_struck, 3, RX11, "struck", none, []) q.1 q.2 :=
  List.forall_mem_cons.mpr ⟨⟨mo_il _ _, Or.inl (ok_iload_n (k := 1) rfl (by decide +kernel))⟩,
  List.forall_mem_cons.mpr ⟨⟨mo_ald _ _ _, Or.inl (ok_iald (by decide +kernel))⟩,
  List.forall_mem_cons.mpr ⟨⟨mo_if2 _ _ _, Or.inl (ok_icmp_eq (off := 8) (by decide) (by decide +kernel))⟩,
  List.forall_mem_cons.mpr ⟨⟨mo_al _ _, Or.inl (ok_aload_n (k := 0) rfl (by decide +kernel))⟩,
  List.forall_mem_cons.mpr ⟨⟨mo_ic _ _, Or.inl (ok_iconst (n := 4) (v := 4) (by decide) (by decide +kernel))⟩,
  List.forall_mem_cons.mpr ⟨⟨mo_inv _ _ _ _ _, Or.inr (Or.inl (ok_inv (T := TX11) (N := 93) rfl cw_X11_wrong (by decide) (by decide) ml_X11_295 ci_X11_wrong cv_X11_wrong (show Cond.initialized (yX11_wrong).cls ∈ am_ts from ci9_RX11) ⟨by decide +kernel, by decide +kernel, by decide +kernel⟩ rfl (by decide +kernel)))⟩,
  List.forall_mem_cons.mpr ⟨⟨mo_al _ _, Or.inl (ok_aload_n (k := 0) rfl (by decide +kernel))⟩,
  List.forall_mem_cons.mpr ⟨⟨mo_inv _ _ _ _ _, Or.inr (Or.inl (ok_inv (T := TX11) (N := 93) rfl cw_X11_number (by decide) (by decide) ml_X11_333 ci_X11_number cv_X11_number (show Cond.initialized (yX11_number).cls ∈ am_ts from ci9_RX11) ⟨by decide +kernel, by decide +kernel, by decide +kernel⟩ rfl (by decide +kernel)))⟩,
  List.forall_mem_cons.mpr ⟨⟨mo_is _ _, Or.inl (ok_istore_n (k := 2) rfl (by decide) (by decide +kernel))⟩,
  List.forall_mem_cons.mpr ⟨⟨mo_al _ _, Or.inl (ok_aload_n (k := 0) rfl (by decide +kernel))⟩,
  List.forall_mem_cons.mpr ⟨⟨mo_inv _ _ _ _ _, Or.inr (Or.inl (ok_inv (T := TX11) (N := 93) rfl cw_X11_isGood (by decide) (by decide) ml_X11_291 ci_X11_isGood cv_X11_isGood (show Cond.initialized (yX11_isGood).cls ∈ am_ts from ci9_RX11) ⟨by decide +kernel, by decide +kernel, by decide +kernel⟩ rfl (by decide +kernel)))⟩,
  List.forall_mem_cons.mpr ⟨⟨mo_if1 _ _ _, Or.inl (ok_if_eq (off := 15) (by decide) (by decide +kernel))⟩,
  List.forall_mem_cons.mpr ⟨⟨mo_al _ _, Or.inl (ok_aload_n (k := 0) rfl (by decide +kernel))⟩,
  List.forall_mem_cons.mpr ⟨⟨mo_gr _ _ _ _, Or.inl (ok_gr (C := RX11) (T := TX11) (N := 93) (ci := 11) (k := 42) rfl inX11 (by decide) fl_X11_156 (by decide +kernel) (by decide +kernel))⟩,
  List.forall_mem_cons.mpr ⟨⟨mo_il _ _, Or.inl (ok_iload_n (k := 1) rfl (by decide +kernel))⟩,
  List.forall_mem_cons.mpr ⟨⟨mo_dup2 _, Or.inl (ok_dup2 (by decide +kernel))⟩,
  List.forall_mem_cons.mpr ⟨⟨mo_ald _ _ _, Or.inl (ok_iald (by decide +kernel))⟩,
  List.forall_mem_cons.mpr ⟨⟨mo_ic _ _, Or.inl (ok_iconst (n := 1) (v := 1) (by decide) (by decide +kernel))⟩,
  List.forall_mem_cons.mpr ⟨⟨mo_il _ _, Or.inl (ok_iload_n (k := 2) rfl (by decide +kernel))⟩,
  List.forall_mem_cons.mpr ⟨⟨mo_bin _ _, Or.inl (ok_ishl (by decide +kernel))⟩,
  fun _ h => absurd h List.not_mem_nil⟩⟩⟩⟩⟩⟩⟩⟩⟩⟩⟩⟩⟩⟩⟩⟩⟩⟩⟩⟩
def t_X11_struck_2 : List (Nat × am_F) := [(72, im_bin (fun x y => x ||| y) 73), (73, im_ast q_SH .int (fun x => x) 74), (74, im_ret0e)]
set_option maxRecDepth 20000 in
theorem o_X11_struck_2 : ∀ q ∈ t_X11_struck_2, am_ok vwCl q_SH ξ (q_E ξ β xs L) q_EN q_KD q_ML (cX11_struck, 3, RX11, "struck", none, []) q.1 q.2 :=
  List.forall_mem_cons.mpr ⟨⟨mo_bin _ _, Or.inl (ok_ior (by decide +kernel))⟩,
  List.forall_mem_cons.mpr ⟨⟨mo_ast _ _ _ _, Or.inl (ok_iast (by decide +kernel))⟩,
  List.forall_mem_cons.mpr ⟨⟨mo_ret0e, Or.inr (Or.inr (ok_ret0 rfl (by decide +kernel)))⟩,
  fun _ h => absurd h List.not_mem_nil⟩⟩⟩
def t_X11_struck : List (Nat × am_F) := t_X11_struck_0 ++ (t_X11_struck_1 ++ (t_X11_struck_2))
theorem o_X11_struck : ∀ q ∈ t_X11_struck, am_ok vwCl q_SH ξ (q_E ξ β xs L) q_EN q_KD q_ML (cX11_struck, 3, RX11, "struck", none, []) q.1 q.2 := List.forall_mem_append.mpr ⟨o_X11_struck_0, List.forall_mem_append.mpr ⟨o_X11_struck_1, o_X11_struck_2⟩⟩
def t_X11_change_0 : List (Nat × am_F) := [(0, im_al 0 1), (1, im_inv q_SH 11 122 0 4), (4, im_is 2 5), (5, im_il 2 6), (6, im_ic 8 8), (8, im_if2 ic_lt 17 11), (11, im_il 2 12), (12, im_ic 14 14), (14, im_if2 ic_le 22 17), (17, im_al 0 18), (18, im_ic 1 19), (19, im_inv q_SH 11 123 1 22), (22, im_al 0 23), (23, im_inv q_SH 11 124 0 26), (26, im_if1 ib_ne 30 29), (29, im_ret0e), (30, im_al 0 31), (31, im_gr q_SH 11 44 34), (34, im_il 1 35), (35, im_il 2 36)]
set_option maxRecDepth 20000 in
theorem o_X11_change_0 : ∀ q ∈ t_X11_change_0, am_ok vwCl q_SH ξ (q_E ξ β xs L) q_EN q_KD q_ML (cX11_change, 3, RX11, "change", none, []) q.1 q.2 :=
  List.forall_mem_cons.mpr ⟨⟨mo_al _ _, Or.inl (ok_aload_n (k := 0) rfl (by decide +kernel))⟩,
  List.forall_mem_cons.mpr ⟨⟨mo_inv _ _ _ _ _, Or.inr (Or.inl (ok_inv (T := TX11) (N := 93) rfl cw_X11_knownWord (by decide) (by decide) ml_X11_298 ci_X11_knownWord cv_X11_knownWord (show Cond.initialized (yX11_knownWord).cls ∈ am_ts from ci9_RX11) ⟨by decide +kernel, by decide +kernel, by decide +kernel⟩ rfl (by decide +kernel)))⟩,
  List.forall_mem_cons.mpr ⟨⟨mo_is _ _, Or.inl (ok_istore_n (k := 2) rfl (by decide) (by decide +kernel))⟩,
  List.forall_mem_cons.mpr ⟨⟨mo_il _ _, Or.inl (ok_iload_n (k := 2) rfl (by decide +kernel))⟩,
  List.forall_mem_cons.mpr ⟨⟨mo_ic _ _, Or.inl (ok_bipush (n := 8) (v := 8) (by decide) (by decide +kernel))⟩,
  List.forall_mem_cons.mpr ⟨⟨mo_if2 _ _ _, Or.inl (ok_icmp_lt (off := 9) (by decide) (by decide +kernel))⟩,
  List.forall_mem_cons.mpr ⟨⟨mo_il _ _, Or.inl (ok_iload_n (k := 2) rfl (by decide +kernel))⟩,
  List.forall_mem_cons.mpr ⟨⟨mo_ic _ _, Or.inl (ok_bipush (n := 14) (v := 14) (by decide) (by decide +kernel))⟩,
  List.forall_mem_cons.mpr ⟨⟨mo_if2 _ _ _, Or.inl (ok_icmp_le (off := 8) (by decide) (by decide +kernel))⟩,
  List.forall_mem_cons.mpr ⟨⟨mo_al _ _, Or.inl (ok_aload_n (k := 0) rfl (by decide +kernel))⟩,
  List.forall_mem_cons.mpr ⟨⟨mo_ic _ _, Or.inl (ok_iconst (n := 1) (v := 1) (by decide) (by decide +kernel))⟩,
  List.forall_mem_cons.mpr ⟨⟨mo_inv _ _ _ _ _, Or.inr (Or.inl (ok_inv (T := TX11) (N := 93) rfl cw_X11_wrong (by decide) (by decide) ml_X11_295 ci_X11_wrong cv_X11_wrong (show Cond.initialized (yX11_wrong).cls ∈ am_ts from ci9_RX11) ⟨by decide +kernel, by decide +kernel, by decide +kernel⟩ rfl (by decide +kernel)))⟩,
  List.forall_mem_cons.mpr ⟨⟨mo_al _ _, Or.inl (ok_aload_n (k := 0) rfl (by decide +kernel))⟩,
  List.forall_mem_cons.mpr ⟨⟨mo_inv _ _ _ _ _, Or.inr (Or.inl (ok_inv (T := TX11) (N := 93) rfl cw_X11_isGood (by decide) (by decide) ml_X11_291 ci_X11_isGood cv_X11_isGood (show Cond.initialized (yX11_isGood).cls ∈ am_ts from ci9_RX11) ⟨by decide +kernel, by decide +kernel, by decide +kernel⟩ rfl (by decide +kernel)))⟩,
  List.forall_mem_cons.mpr ⟨⟨mo_if1 _ _ _, Or.inl (ok_if_ne (off := 4) (by decide) (by decide +kernel))⟩,
  List.forall_mem_cons.mpr ⟨⟨mo_ret0e, Or.inr (Or.inr (ok_ret0 rfl (by decide +kernel)))⟩,
  List.forall_mem_cons.mpr ⟨⟨mo_al _ _, Or.inl (ok_aload_n (k := 0) rfl (by decide +kernel))⟩,
  List.forall_mem_cons.mpr ⟨⟨mo_gr _ _ _ _, Or.inl (ok_gr (C := RX11) (T := TX11) (N := 93) (ci := 11) (k := 44) rfl inX11 (by decide) fl_X11_162 (by decide +kernel) (by decide +kernel))⟩,
  List.forall_mem_cons.mpr ⟨⟨mo_il _ _, Or.inl (ok_iload_n (k := 1) rfl (by decide +kernel))⟩,
  List.forall_mem_cons.mpr ⟨⟨mo_il _ _, Or.inl (ok_iload_n (k := 2) rfl (by decide +kernel))⟩,
  fun _ h => absurd h List.not_mem_nil⟩⟩⟩⟩⟩⟩⟩⟩⟩⟩⟩⟩⟩⟩⟩⟩⟩⟩⟩⟩
def t_X11_change_1 : List (Nat × am_F) := [(36, im_ast q_SH .int (fun x => x) 37), (37, im_al 0 38), (38, im_inv q_SH 11 119 0 41), (41, im_al 0 42), (42, im_gr q_SH 11 45 45), (45, im_il 1 46), (46, im_al 0 47), (47, im_inv q_SH 11 133 0 50), (50, im_ast q_SH .int (fun x => x) 51), (51, im_al 0 52), (52, im_gr q_SH 11 46 55), (55, im_il 1 56), (56, im_ic (-1) 57), (57, im_ast q_SH .int (fun x => x) 58), (58, im_al 0 59), (59, im_gr q_SH 11 47 62), (62, im_il 1 63), (63, im_ic (-1) 64), (64, im_ast q_SH .int (fun x => x) 65), (65, im_al 0 66)]
set_option maxRecDepth 20000 in
theorem o_X11_change_1 : ∀ q ∈ t_X11_change_1, am_ok vwCl q_SH ξ (q_E ξ β xs L) q_EN q_KD q_ML (cX11_change, 3, RX11, "change", none, []) q.1 q.2 :=
  List.forall_mem_cons.mpr ⟨⟨mo_ast _ _ _ _, Or.inl (ok_iast (by decide +kernel))⟩,
  List.forall_mem_cons.mpr ⟨⟨mo_al _ _, Or.inl (ok_aload_n (k := 0) rfl (by decide +kernel))⟩,
  List.forall_mem_cons.mpr ⟨⟨mo_inv _ _ _ _ _, Or.inr (Or.inl (ok_inv (T := TX11) (N := 93) rfl cw_X11_goes (by decide) (by decide) ml_X11_302 ci_X11_goes cv_X11_goes (show Cond.initialized (yX11_goes).cls ∈ am_ts from ci9_RX11) ⟨by decide +kernel, by decide +kernel, by decide +kernel⟩ rfl (by decide +kernel)))⟩,
  List.forall_mem_cons.mpr ⟨⟨mo_al _ _, Or.inl (ok_aload_n (k := 0) rfl (by decide +kernel))⟩,
  List.forall_mem_cons.mpr ⟨⟨mo_gr _ _ _ _, Or.inl (ok_gr (C := RX11) (T := TX11) (N := 93) (ci := 11) (k := 45) rfl inX11 (by decide) fl_X11_165 (by decide +kernel) (by decide +kernel))⟩,
  List.forall_mem_cons.mpr ⟨⟨mo_il _ _, Or.inl (ok_iload_n (k := 1) rfl (by decide +kernel))⟩,
  List.forall_mem_cons.mpr ⟨⟨mo_al _ _, Or.inl (ok_aload_n (k := 0) rfl (by decide +kernel))⟩,
  List.forall_mem_cons.mpr ⟨⟨mo_inv _ _ _ _ _, Or.inr (Or.inl (ok_inv (T := TX11) (N := 93) rfl cw_X11_expression (by decide) (by decide) ml_X11_336 ci_X11_expression cv_X11_expression (show Cond.initialized (yX11_expression).cls ∈ am_ts from ci9_RX11) ⟨by decide +kernel, by decide +kernel, by decide +kernel⟩ rfl (by decide +kernel)))⟩,
  List.forall_mem_cons.mpr ⟨⟨mo_ast _ _ _ _, Or.inl (ok_iast (by decide +kernel))⟩,
  List.forall_mem_cons.mpr ⟨⟨mo_al _ _, Or.inl (ok_aload_n (k := 0) rfl (by decide +kernel))⟩,
  List.forall_mem_cons.mpr ⟨⟨mo_gr _ _ _ _, Or.inl (ok_gr (C := RX11) (T := TX11) (N := 93) (ci := 11) (k := 46) rfl inX11 (by decide) fl_X11_168 (by decide +kernel) (by decide +kernel))⟩,
  List.forall_mem_cons.mpr ⟨⟨mo_il _ _, Or.inl (ok_iload_n (k := 1) rfl (by decide +kernel))⟩,
  List.forall_mem_cons.mpr ⟨⟨mo_ic _ _, Or.inl (ok_iconst (n := (-1)) (v := (-1)) (by decide) (by decide +kernel))⟩,
  List.forall_mem_cons.mpr ⟨⟨mo_ast _ _ _ _, Or.inl (ok_iast (by decide +kernel))⟩,
  List.forall_mem_cons.mpr ⟨⟨mo_al _ _, Or.inl (ok_aload_n (k := 0) rfl (by decide +kernel))⟩,
  List.forall_mem_cons.mpr ⟨⟨mo_gr _ _ _ _, Or.inl (ok_gr (C := RX11) (T := TX11) (N := 93) (ci := 11) (k := 47) rfl inX11 (by decide) fl_X11_171 (by decide +kernel) (by decide +kernel))⟩,
  List.forall_mem_cons.mpr ⟨⟨mo_il _ _, Or.inl (ok_iload_n (k := 1) rfl (by decide +kernel))⟩,
  List.forall_mem_cons.mpr ⟨⟨mo_ic _ _, Or.inl (ok_iconst (n := (-1)) (v := (-1)) (by decide) (by decide +kernel))⟩,
  List.forall_mem_cons.mpr ⟨⟨mo_ast _ _ _ _, Or.inl (ok_iast (by decide +kernel))⟩,
  List.forall_mem_cons.mpr ⟨⟨mo_al _ _, Or.inl (ok_aload_n (k := 0) rfl (by decide +kernel))⟩,
  fun _ h => absurd h List.not_mem_nil⟩⟩⟩⟩⟩⟩⟩⟩⟩⟩⟩⟩⟩⟩⟩⟩⟩⟩⟩⟩
def t_X11_change_2 : List (Nat × am_F) := [(66, im_inv q_SH 11 124 0 69), (69, im_if1 ib_eq 94 72), (72, im_al 0 73), (73, im_inv q_SH 11 122 0 76), (76, im_ic 2 77), (77, im_if2 ic_ne 94 80), (80, im_al 0 81), (81, im_inv q_SH 11 119 0 84), (84, im_al 0 85), (85, im_gr q_SH 11 46 88), (88, im_il 1 89), (89, im_al 0 90), (90, im_inv q_SH 11 133 0 93), (93, im_ast q_SH .int (fun x => x) 94), (94, im_al 0 95), (95, im_inv q_SH 11 124 0 98), (98, im_if1 ib_eq 123 101), (101, im_al 0 102), (102, im_inv q_SH 11 122 0 105), (105, im_ic 3 106)]
set_option maxRecDepth 20000 in
theorem o_X11_change_2 : ∀ q ∈ t_X11_change_2, am_ok vwCl q_SH ξ (q_E ξ β xs L) q_EN q_KD q_ML (cX11_change, 3, RX11, "change", none, []) q.1 q.2 :=
  List.forall_mem_cons.mpr ⟨⟨mo_inv _ _ _ _ _, Or.inr (Or.inl (ok_inv (T := TX11) (N := 93) rfl cw_X11_isGood (by decide) (by decide) ml_X11_291 ci_X11_isGood cv_X11_isGood (show Cond.initialized (yX11_isGood).cls ∈ am_ts from ci9_RX11) ⟨by decide +kernel, by decide +kernel, by decide +kernel⟩ rfl (by decide +kernel)))⟩,
  List.forall_mem_cons.mpr ⟨⟨mo_if1 _ _ _, Or.inl (ok_if_eq (off := 25) (by decide) (by decide +kernel))⟩,
  List.forall_mem_cons.mpr ⟨⟨mo_al _ _, Or.inl (ok_aload_n (k := 0) rfl (by decide +kernel))⟩,
  List.forall_mem_cons.mpr ⟨⟨mo_inv _ _ _ _ _, Or.inr (Or.inl (ok_inv (T := TX11) (N := 93) rfl cw_X11_knownWord (by decide) (by decide) ml_X11_298 ci_X11_knownWord cv_X11_knownWord (show Cond.initialized (yX11_knownWord).cls ∈ am_ts from ci9_RX11) ⟨by decide +kernel, by decide +kernel, by decide +kernel⟩ rfl (by decide +kernel)))⟩,
  List.forall_mem_cons.mpr ⟨⟨mo_ic _ _, Or.inl (ok_iconst (n := 2) (v := 2) (by decide) (by decide +kernel))⟩,
  List.forall_mem_cons.mpr ⟨⟨mo_if2 _ _ _, Or.inl (ok_icmp_ne (off := 17) (by decide) (by decide +kernel))⟩,
  List.forall_mem_cons.mpr ⟨⟨mo_al _ _, Or.inl (ok_aload_n (k := 0) rfl (by decide +kernel))⟩,
  List.forall_mem_cons.mpr ⟨⟨mo_inv _ _ _ _ _, Or.inr (Or.inl (ok_inv (T := TX11) (N := 93) rfl cw_X11_goes (by decide) (by decide) ml_X11_302 ci_X11_goes cv_X11_goes (show Cond.initialized (yX11_goes).cls ∈ am_ts from ci9_RX11) ⟨by decide +kernel, by decide +kernel, by decide +kernel⟩ rfl (by decide +kernel)))⟩,
  List.forall_mem_cons.mpr ⟨⟨mo_al _ _, Or.inl (ok_aload_n (k := 0) rfl (by decide +kernel))⟩,
  List.forall_mem_cons.mpr ⟨⟨mo_gr _ _ _ _, Or.inl (ok_gr (C := RX11) (T := TX11) (N := 93) (ci := 11) (k := 46) rfl inX11 (by decide) fl_X11_168 (by decide +kernel) (by decide +kernel))⟩,
  List.forall_mem_cons.mpr ⟨⟨mo_il _ _, Or.inl (ok_iload_n (k := 1) rfl (by decide +kernel))⟩,
  List.forall_mem_cons.mpr ⟨⟨mo_al _ _, Or.inl (ok_aload_n (k := 0) rfl (by decide +kernel))⟩,
  List.forall_mem_cons.mpr ⟨⟨mo_inv _ _ _ _ _, Or.inr (Or.inl (ok_inv (T := TX11) (N := 93) rfl cw_X11_expression (by decide) (by decide) ml_X11_336 ci_X11_expression cv_X11_expression (show Cond.initialized (yX11_expression).cls ∈ am_ts from ci9_RX11) ⟨by decide +kernel, by decide +kernel, by decide +kernel⟩ rfl (by decide +kernel)))⟩,
  List.forall_mem_cons.mpr ⟨⟨mo_ast _ _ _ _, Or.inl (ok_iast (by decide +kernel))⟩,
  List.forall_mem_cons.mpr ⟨⟨mo_al _ _, Or.inl (ok_aload_n (k := 0) rfl (by decide +kernel))⟩,
  List.forall_mem_cons.mpr ⟨⟨mo_inv _ _ _ _ _, Or.inr (Or.inl (ok_inv (T := TX11) (N := 93) rfl cw_X11_isGood (by decide) (by decide) ml_X11_291 ci_X11_isGood cv_X11_isGood (show Cond.initialized (yX11_isGood).cls ∈ am_ts from ci9_RX11) ⟨by decide +kernel, by decide +kernel, by decide +kernel⟩ rfl (by decide +kernel)))⟩,
  List.forall_mem_cons.mpr ⟨⟨mo_if1 _ _ _, Or.inl (ok_if_eq (off := 25) (by decide) (by decide +kernel))⟩,
  List.forall_mem_cons.mpr ⟨⟨mo_al _ _, Or.inl (ok_aload_n (k := 0) rfl (by decide +kernel))⟩,
  List.forall_mem_cons.mpr ⟨⟨mo_inv _ _ _ _ _, Or.inr (Or.inl (ok_inv (T := TX11) (N := 93) rfl cw_X11_knownWord (by decide) (by decide) ml_X11_298 ci_X11_knownWord cv_X11_knownWord (show Cond.initialized (yX11_knownWord).cls ∈ am_ts from ci9_RX11) ⟨by decide +kernel, by decide +kernel, by decide +kernel⟩ rfl (by decide +kernel)))⟩,
  List.forall_mem_cons.mpr ⟨⟨mo_ic _ _, Or.inl (ok_iconst (n := 3) (v := 3) (by decide) (by decide +kernel))⟩,
  fun _ h => absurd h List.not_mem_nil⟩⟩⟩⟩⟩⟩⟩⟩⟩⟩⟩⟩⟩⟩⟩⟩⟩⟩⟩⟩
def t_X11_change_3 : List (Nat × am_F) := [(106, im_if2 ic_ne 123 109), (109, im_al 0 110), (110, im_inv q_SH 11 119 0 113), (113, im_al 0 114), (114, im_gr q_SH 11 47 117), (117, im_il 1 118), (118, im_al 0 119), (119, im_inv q_SH 11 134 0 122), (122, im_ast q_SH .int (fun x => x) 123), (123, im_ret0e)]
set_option maxRecDepth 20000 in
theorem o_X11_change_3 : ∀ q ∈ t_X11_change_3, am_ok vwCl q_SH ξ (q_E ξ β xs L) q_EN q_KD q_ML (cX11_change, 3, RX11, "change", none, []) q.1 q.2 :=
  List.forall_mem_cons.mpr ⟨⟨mo_if2 _ _ _, Or.inl (ok_icmp_ne (off := 17) (by decide) (by decide +kernel))⟩,
  List.forall_mem_cons.mpr ⟨⟨mo_al _ _, Or.inl (ok_aload_n (k := 0) rfl (by decide +kernel))⟩,
  List.forall_mem_cons.mpr ⟨⟨mo_inv _ _ _ _ _, Or.inr (Or.inl (ok_inv (T := TX11) (N := 93) rfl cw_X11_goes (by decide) (by decide) ml_X11_302 ci_X11_goes cv_X11_goes (show Cond.initialized (yX11_goes).cls ∈ am_ts from ci9_RX11) ⟨by decide +kernel, by decide +kernel, by decide +kernel⟩ rfl (by decide +kernel)))⟩,
  List.forall_mem_cons.mpr ⟨⟨mo_al _ _, Or.inl (ok_aload_n (k := 0) rfl (by decide +kernel))⟩,
  List.forall_mem_cons.mpr ⟨⟨mo_gr _ _ _ _, Or.inl (ok_gr (C := RX11) (T := TX11) (N := 93) (ci := 11) (k := 47) rfl inX11 (by decide) fl_X11_171 (by decide +kernel) (by decide +kernel))⟩,
  List.forall_mem_cons.mpr ⟨⟨mo_il _ _, Or.inl (ok_iload_n (k := 1) rfl (by decide +kernel))⟩,
  List.forall_mem_cons.mpr ⟨⟨mo_al _ _, Or.inl (ok_aload_n (k := 0) rfl (by decide +kernel))⟩,
  List.forall_mem_cons.mpr ⟨⟨mo_inv _ _ _ _ _, Or.inr (Or.inl (ok_inv (T := TX11) (N := 93) rfl cw_X11_number (by decide) (by decide) ml_X11_333 ci_X11_number cv_X11_number (show Cond.initialized (yX11_number).cls ∈ am_ts from ci9_RX11) ⟨by decide +kernel, by decide +kernel, by decide +kernel⟩ rfl (by decide +kernel)))⟩,
  List.forall_mem_cons.mpr ⟨⟨mo_ast _ _ _ _, Or.inl (ok_iast (by decide +kernel))⟩,
  List.forall_mem_cons.mpr ⟨⟨mo_ret0e, Or.inr (Or.inr (ok_ret0 rfl (by decide +kernel)))⟩,
  fun _ h => absurd h List.not_mem_nil⟩⟩⟩⟩⟩⟩⟩⟩⟩⟩
def t_X11_change : List (Nat × am_F) := t_X11_change_0 ++ (t_X11_change_1 ++ (t_X11_change_2 ++ (t_X11_change_3)))
theorem o_X11_change : ∀ q ∈ t_X11_change, am_ok vwCl q_SH ξ (q_E ξ β xs L) q_EN q_KD q_ML (cX11_change, 3, RX11, "change", none, []) q.1 q.2 := List.forall_mem_append.mpr ⟨o_X11_change_0, List.forall_mem_append.mpr ⟨o_X11_change_1, List.forall_mem_append.mpr ⟨o_X11_change_2, o_X11_change_3⟩⟩⟩
def t_X11_act_0 : List (Nat × am_F) := [(0, im_al 0 1), (1, im_ic 0 2), (2, im_pi q_SH 11 0 5), (5, im_al 0 6), (6, im_il 1 7), (7, im_inv q_SH 11 108 1 10), (10, im_if1 ib_eq 38 13), (13, im_al 0 14), (14, im_il 2 15), (15, im_if1 ib_lt 30 18), (18, im_il 2 19), (19, im_al 0 20), (20, im_gi q_SH 11 20 23), (23, im_if2 ic_gt 30 26), (26, im_ic 1 27), (27, im_go 31), (30, im_ic 0 31), (31, im_ic 2 32), (32, im_inv q_SH 11 103 2 35), (35, im_if1 ib_ne 40 38)]
set_option maxRecDepth 20000 in
theorem o_X11_act_0 : ∀ q ∈ t_X11_act_0, am_ok vwCl q_SH ξ (q_E ξ β xs L) q_EN q_KD q_ML (cX11_act, 6, RX11, "act", (some .int), []) q.1 q.2 :=
  List.forall_mem_cons.mpr ⟨⟨mo_al _ _, Or.inl (ok_aload_n (k := 0) rfl (by decide +kernel))⟩,
  List.forall_mem_cons.mpr ⟨⟨mo_ic _ _, Or.inl (ok_iconst (n := 0) (v := 0) (by decide) (by decide +kernel))⟩,
  List.forall_mem_cons.mpr ⟨⟨mo_pi _ _ _ _, Or.inl (ok_pi (ty := .int) (C := RX11) (T := TX11) (N := 93) (ci := 11) (k := 0) rfl inX11 (by decide) fl_X11_1 (by decide +kernel) tyX11 tyX11_ok nmX11 (by decide +kernel) (by decide +kernel) (by decide +kernel))⟩,
  List.forall_mem_cons.mpr ⟨⟨mo_al _ _, Or.inl (ok_aload_n (k := 0) rfl (by decide +kernel))⟩,
  List.forall_mem_cons.mpr ⟨⟨mo_il _ _, Or.inl (ok_iload_n (k := 1) rfl (by decide +kernel))⟩,
  List.forall_mem_cons.mpr ⟨⟨mo_inv _ _ _ _ _, Or.inr (Or.inl (ok_inv (T := TX11) (N := 93) rfl cw_X11_isLand (by decide) (by decide) ml_X11_41 ci_X11_isLand cv_X11_isLand (show Cond.initialized (yX11_isLand).cls ∈ am_ts from ci9_RX11) ⟨by decide +kernel, by decide +kernel, by decide +kernel⟩ rfl (by decide +kernel)))⟩,
  List.forall_mem_cons.mpr ⟨⟨mo_if1 _ _ _, Or.inl (ok_if_eq (off := 28) (by decide) (by decide +kernel))⟩,
  List.forall_mem_cons.mpr ⟨⟨mo_al _ _, Or.inl (ok_aload_n (k := 0) rfl (by decide +kernel))⟩,
  List.forall_mem_cons.mpr ⟨⟨mo_il _ _, Or.inl (ok_iload_n (k := 2) rfl (by decide +kernel))⟩,
  List.forall_mem_cons.mpr ⟨⟨mo_if1 _ _ _, Or.inl (ok_if_lt (off := 15) (by decide) (by decide +kernel))⟩,
  List.forall_mem_cons.mpr ⟨⟨mo_il _ _, Or.inl (ok_iload_n (k := 2) rfl (by decide +kernel))⟩,
  List.forall_mem_cons.mpr ⟨⟨mo_al _ _, Or.inl (ok_aload_n (k := 0) rfl (by decide +kernel))⟩,
  List.forall_mem_cons.mpr ⟨⟨mo_gi _ _ _ _, Or.inl (ok_gi (C := RX11) (T := TX11) (N := 93) (ci := 11) (k := 20) rfl inX11 (by decide) fl_X11_83 (by decide +kernel) (by decide +kernel))⟩,
  List.forall_mem_cons.mpr ⟨⟨mo_if2 _ _ _, Or.inl (ok_icmp_gt (off := 7) (by decide) (by decide +kernel))⟩,
  List.forall_mem_cons.mpr ⟨⟨mo_ic _ _, Or.inl (ok_iconst (n := 1) (v := 1) (by decide) (by decide +kernel))⟩,
  List.forall_mem_cons.mpr ⟨⟨mo_go _, Or.inl (ok_goto (off := 4) (by decide) (by decide +kernel))⟩,
  List.forall_mem_cons.mpr ⟨⟨mo_ic _ _, Or.inl (ok_iconst (n := 0) (v := 0) (by decide) (by decide +kernel))⟩,
  List.forall_mem_cons.mpr ⟨⟨mo_ic _ _, Or.inl (ok_iconst (n := 2) (v := 2) (by decide) (by decide +kernel))⟩,
  List.forall_mem_cons.mpr ⟨⟨mo_inv _ _ _ _ _, Or.inr (Or.inl (ok_inv (T := TX11) (N := 93) rfl cw_X11_right (by decide) (by decide) ml_X11_32 ci_X11_right cv_X11_right (show Cond.initialized (yX11_right).cls ∈ am_ts from ci9_RX11) ⟨by decide +kernel, by decide +kernel, by decide +kernel⟩ rfl (by decide +kernel)))⟩,
  List.forall_mem_cons.mpr ⟨⟨mo_if1 _ _ _, Or.inl (ok_if_ne (off := 5) (by decide) (by decide +kernel))⟩,
  fun _ h => absurd h List.not_mem_nil⟩⟩⟩⟩⟩⟩⟩⟩⟩⟩⟩⟩⟩⟩⟩⟩⟩⟩⟩⟩
def t_X11_act_1 : List (Nat × am_F) := [(38, im_ic 0 39), (39, im_reti), (40, im_al 0 41), (41, im_ic 0 42), (42, im_pi q_SH 11 20 45), (45, im_al 0 46), (46, im_ic (-1) 47), (47, im_pi q_SH 11 22 50), (50, im_al 0 51), (51, im_ic 0 52), (52, im_pi q_SH 11 21 55), (55, im_al 0 56), (56, im_gi q_SH 11 32 59), (59, im_ic 12 61), (61, im_if2 ic_eq 79 64), (64, im_il 3 65), (65, im_invs 109 1 68), (68, im_if1 ib_eq 79 71), (71, im_il 4 73), (73, im_invs 109 1 76)]
set_option maxRecDepth 20000 in
theorem o_X11_act_1 : ∀ q ∈ t_X11_act_1, am_ok vwCl q_SH ξ (q_E ξ β xs L) q_EN q_KD q_ML (cX11_act, 6, RX11, "act", (some .int), []) q.1 q.2 :=
  List.forall_mem_cons.mpr ⟨⟨mo_ic _ _, Or.inl (ok_iconst (n := 0) (v := 0) (by decide) (by decide +kernel))⟩,
  List.forall_mem_cons.mpr ⟨⟨mo_reti, Or.inr (Or.inr (ok_reti rfl (by decide +kernel)))⟩,
  List.forall_mem_cons.mpr ⟨⟨mo_al _ _, Or.inl (ok_aload_n (k := 0) rfl (by decide +kernel))⟩,
  List.forall_mem_cons.mpr ⟨⟨mo_ic _ _, Or.inl (ok_iconst (n := 0) (v := 0) (by decide) (by decide +kernel))⟩,
  List.forall_mem_cons.mpr ⟨⟨mo_pi _ _ _ _, Or.inl (ok_pi (ty := .int) (C := RX11) (T := TX11) (N := 93) (ci := 11) (k := 20) rfl inX11 (by decide) fl_X11_83 (by decide +kernel) tyX11 tyX11_ok nmX11 (by decide +kernel) (by decide +kernel) (by decide +kernel))⟩,
  List.forall_mem_cons.mpr ⟨⟨mo_al _ _, Or.inl (ok_aload_n (k := 0) rfl (by decide +kernel))⟩,
  List.forall_mem_cons.mpr ⟨⟨mo_ic _ _, Or.inl (ok_iconst (n := (-1)) (v := (-1)) (by decide) (by decide +kernel))⟩,
  List.forall_mem_cons.mpr ⟨⟨mo_pi _ _ _ _, Or.inl (ok_pi (ty := .int) (C := RX11) (T := TX11) (N := 93) (ci := 11) (k := 22) rfl inX11 (by decide) fl_X11_134 (by decide +kernel) tyX11 tyX11_ok nmX11 (by decide +kernel) (by decide +kernel) (by decide +kernel))⟩,
  List.forall_mem_cons.mpr ⟨⟨mo_al _ _, Or.inl (ok_aload_n (k := 0) rfl (by decide +kernel))⟩,
  List.forall_mem_cons.mpr ⟨⟨mo_ic _ _, Or.inl (ok_iconst (n := 0) (v := 0) (by decide) (by decide +kernel))⟩,
  List.forall_mem_cons.mpr ⟨⟨mo_pi _ _ _ _, Or.inl (ok_pi (ty := .int) (C := RX11) (T := TX11) (N := 93) (ci := 11) (k := 21) rfl inX11 (by decide) fl_X11_276 (by decide +kernel) tyX11 tyX11_ok nmX11 (by decide +kernel) (by decide +kernel) (by decide +kernel))⟩,
  List.forall_mem_cons.mpr ⟨⟨mo_al _ _, Or.inl (ok_aload_n (k := 0) rfl (by decide +kernel))⟩,
  List.forall_mem_cons.mpr ⟨⟨mo_gi _ _ _ _, Or.inl (ok_gi (C := RX11) (T := TX11) (N := 93) (ci := 11) (k := 32) rfl inX11 (by decide) fl_X11_77 (by decide +kernel) (by decide +kernel))⟩,
  List.forall_mem_cons.mpr ⟨⟨mo_ic _ _, Or.inl (ok_bipush (n := 12) (v := 12) (by decide) (by decide +kernel))⟩,
  List.forall_mem_cons.mpr ⟨⟨mo_if2 _ _ _, Or.inl (ok_icmp_eq (off := 18) (by decide) (by decide +kernel))⟩,
  List.forall_mem_cons.mpr ⟨⟨mo_il _ _, Or.inl (ok_iload_n (k := 3) rfl (by decide +kernel))⟩,
  List.forall_mem_cons.mpr ⟨⟨mo_invs _ _ _, Or.inr (Or.inl (ok_invs cw_X11_isDay (by decide) (by decide) ml_X11_47 cs_X11_isDay (show Cond.initialized (yX11_isDay).cls ∈ am_ts from ci9_RX11) ⟨by decide +kernel, by decide +kernel, by decide +kernel⟩ rfl (by decide +kernel)))⟩,
  List.forall_mem_cons.mpr ⟨⟨mo_if1 _ _ _, Or.inl (ok_if_eq (off := 11) (by decide) (by decide +kernel))⟩,
  List.forall_mem_cons.mpr ⟨⟨mo_il _ _, Or.inl (ok_iload (by decide +kernel))⟩,
  List.forall_mem_cons.mpr ⟨⟨mo_invs _ _ _, Or.inr (Or.inl (ok_invs cw_X11_isDay (by decide) (by decide) ml_X11_47 cs_X11_isDay (show Cond.initialized (yX11_isDay).cls ∈ am_ts from ci9_RX11) ⟨by decide +kernel, by decide +kernel, by decide +kernel⟩ rfl (by decide +kernel)))⟩,
  fun _ h => absurd h List.not_mem_nil⟩⟩⟩⟩⟩⟩⟩⟩⟩⟩⟩⟩⟩⟩⟩⟩⟩⟩⟩⟩
def t_X11_act_2 : List (Nat × am_F) := [(76, im_if1 ib_ne 82 79), (79, im_ic (-9) 81), (81, im_reti), (82, im_al 0 83), (83, im_gi q_SH 11 32 86), (86, im_is 5 88), (88, im_al 0 89), (89, im_il 2 90), (90, im_pi q_SH 11 23 93), (93, im_al 0 94), (94, im_ic 0 95), (95, im_pi q_SH 11 24 98), (98, im_al 0 99), (99, im_ic 1210 102), (102, im_il 5 104), (104, im_bin (fun x y => x * y) 105), (105, im_pi q_SH 11 33 108), (108, im_al 0 109), (109, im_gr q_SH 11 36 112), (112, im_il 5 114)]
set_option maxRecDepth 20000 in
theorem o_X11_act_2 : ∀ q ∈ t_X11_act_2, am_ok vwCl q_SH ξ (q_E ξ β xs L) q_EN q_KD q_ML (cX11_act, 6, RX11, "act", (some .int), []) q.1 q.2 :=
  List.forall_mem_cons.mpr ⟨⟨mo_if1 _ _ _, Or.inl (ok_if_ne (off := 6) (by decide) (by decide +kernel))⟩,
  List.forall_mem_cons.mpr ⟨⟨mo_ic _ _, Or.inl (ok_bipush (n := (-9)) (v := (-9)) (by decide) (by decide +kernel))⟩,
  List.forall_mem_cons.mpr ⟨⟨mo_reti, Or.inr (Or.inr (ok_reti rfl (by decide +kernel)))⟩,
  List.forall_mem_cons.mpr ⟨⟨mo_al _ _, Or.inl (ok_aload_n (k := 0) rfl (by decide +kernel))⟩,
  List.forall_mem_cons.mpr ⟨⟨mo_gi _ _ _ _, Or.inl (ok_gi (C := RX11) (T := TX11) (N := 93) (ci := 11) (k := 32) rfl inX11 (by decide) fl_X11_77 (by decide +kernel) (by decide +kernel))⟩,
  List.forall_mem_cons.mpr ⟨⟨mo_is _ _, Or.inl (ok_istore (by decide) (by decide +kernel))⟩,
  List.forall_mem_cons.mpr ⟨⟨mo_al _ _, Or.inl (ok_aload_n (k := 0) rfl (by decide +kernel))⟩,
  List.forall_mem_cons.mpr ⟨⟨mo_il _ _, Or.inl (ok_iload_n (k := 2) rfl (by decide +kernel))⟩,
  List.forall_mem_cons.mpr ⟨⟨mo_pi _ _ _ _, Or.inl (ok_pi (ty := .int) (C := RX11) (T := TX11) (N := 93) (ci := 11) (k := 23) rfl inX11 (by decide) fl_X11_93 (by decide +kernel) tyX11 tyX11_ok nmX11 (by decide +kernel) (by decide +kernel) (by decide +kernel))⟩,
  List.forall_mem_cons.mpr ⟨⟨mo_al _ _, Or.inl (ok_aload_n (k := 0) rfl (by decide +kernel))⟩,
  List.forall_mem_cons.mpr ⟨⟨mo_ic _ _, Or.inl (ok_iconst (n := 0) (v := 0) (by decide) (by decide +kernel))⟩,
  List.forall_mem_cons.mpr ⟨⟨mo_pi _ _ _ _, Or.inl (ok_pi (ty := .int) (C := RX11) (T := TX11) (N := 93) (ci := 11) (k := 24) rfl inX11 (by decide) fl_X11_96 (by decide +kernel) tyX11 tyX11_ok nmX11 (by decide +kernel) (by decide +kernel) (by decide +kernel))⟩,
  List.forall_mem_cons.mpr ⟨⟨mo_al _ _, Or.inl (ok_aload_n (k := 0) rfl (by decide +kernel))⟩,
  List.forall_mem_cons.mpr ⟨⟨mo_ic _ _, Or.inl (ok_sipush (n := 1210) (v := 1210) (by decide) (by decide +kernel))⟩,
  List.forall_mem_cons.mpr ⟨⟨mo_il _ _, Or.inl (ok_iload (by decide +kernel))⟩,
  List.forall_mem_cons.mpr ⟨⟨mo_bin _ _, Or.inl (ok_imul (by decide +kernel))⟩,
  List.forall_mem_cons.mpr ⟨⟨mo_pi _ _ _ _, Or.inl (ok_pi (ty := .int) (C := RX11) (T := TX11) (N := 93) (ci := 11) (k := 33) rfl inX11 (by decide) fl_X11_279 (by decide +kernel) tyX11 tyX11_ok nmX11 (by decide +kernel) (by decide +kernel) (by decide +kernel))⟩,
  List.forall_mem_cons.mpr ⟨⟨mo_al _ _, Or.inl (ok_aload_n (k := 0) rfl (by decide +kernel))⟩,
  List.forall_mem_cons.mpr ⟨⟨mo_gr _ _ _ _, Or.inl (ok_gr (C := RX11) (T := TX11) (N := 93) (ci := 11) (k := 36) rfl inX11 (by decide) fl_X11_141 (by decide +kernel) (by decide +kernel))⟩,
  List.forall_mem_cons.mpr ⟨⟨mo_il _ _, Or.inl (ok_iload (by decide +kernel))⟩,
  fun _ h => absurd h List.not_mem_nil⟩⟩⟩⟩⟩⟩⟩⟩⟩⟩⟩⟩⟩⟩⟩⟩⟩⟩⟩⟩
def t_X11_act_3 : List (Nat × am_F) := [(114, im_il 1 115), (115, im_ast q_SH .int (fun x => x) 116), (116, im_al 0 117), (117, im_gr q_SH 11 41 120), (120, im_il 5 122), (122, im_ic 0 123), (123, im_ast q_SH .int (fun x => x) 124), (124, im_al 0 125), (125, im_gr q_SH 11 42 128), (128, im_il 5 130), (130, im_ic 0 131), (131, im_ast q_SH .int (fun x => x) 132), (132, im_al 0 133), (133, im_inv q_SH 11 119 0 136), (136, im_al 0 137), (137, im_inv q_SH 11 124 0 140), (140, im_if1 ib_eq 159 143), (143, im_al 0 144), (144, im_gi q_SH 11 25 147), (147, im_if1 ib_eq 159 150)]
set_option maxRecDepth 20000 in
theorem o_X11_act_3 : ∀ q ∈ t_X11_act_3, am_ok vwCl q_SH ξ (q_E ξ β xs L) q_EN q_KD q_ML (cX11_act, 6, RX11, "act", (some .int), []) q.1 q.2 :=
  List.forall_mem_cons.mpr ⟨⟨mo_il _ _, Or.inl (ok_iload_n (k := 1) rfl (by decide +kernel))⟩,
  List.forall_mem_cons.mpr ⟨⟨mo_ast _ _ _ _, Or.inl (ok_iast (by decide +kernel))⟩,
  List.forall_mem_cons.mpr ⟨⟨mo_al _ _, Or.inl (ok_aload_n (k := 0) rfl (by decide +kernel))⟩,
  List.forall_mem_cons.mpr ⟨⟨mo_gr _ _ _ _, Or.inl (ok_gr (C := RX11) (T := TX11) (N := 93) (ci := 11) (k := 41) rfl inX11 (by decide) fl_X11_153 (by decide +kernel) (by decide +kernel))⟩,
  List.forall_mem_cons.mpr ⟨⟨mo_il _ _, Or.inl (ok_iload (by decide +kernel))⟩,
  List.forall_mem_cons.mpr ⟨⟨mo_ic _ _, Or.inl (ok_iconst (n := 0) (v := 0) (by decide) (by decide +kernel))⟩,
  List.forall_mem_cons.mpr ⟨⟨mo_ast _ _ _ _, Or.inl (ok_iast (by decide +kernel))⟩,
  List.forall_mem_cons.mpr ⟨⟨mo_al _ _, Or.inl (ok_aload_n (k := 0) rfl (by decide +kernel))⟩,
  List.forall_mem_cons.mpr ⟨⟨mo_gr _ _ _ _, Or.inl (ok_gr (C := RX11) (T := TX11) (N := 93) (ci := 11) (k := 42) rfl inX11 (by decide) fl_X11_156 (by decide +kernel) (by decide +kernel))⟩,
  List.forall_mem_cons.mpr ⟨⟨mo_il _ _, Or.inl (ok_iload (by decide +kernel))⟩,
  List.forall_mem_cons.mpr ⟨⟨mo_ic _ _, Or.inl (ok_iconst (n := 0) (v := 0) (by decide) (by decide +kernel))⟩,
  List.forall_mem_cons.mpr ⟨⟨mo_ast _ _ _ _, Or.inl (ok_iast (by decide +kernel))⟩,
  List.forall_mem_cons.mpr ⟨⟨mo_al _ _, Or.inl (ok_aload_n (k := 0) rfl (by decide +kernel))⟩,
  List.forall_mem_cons.mpr ⟨⟨mo_inv _ _ _ _ _, Or.inr (Or.inl (ok_inv (T := TX11) (N := 93) rfl cw_X11_goes (by decide) (by decide) ml_X11_302 ci_X11_goes cv_X11_goes (show Cond.initialized (yX11_goes).cls ∈ am_ts from ci9_RX11) ⟨by decide +kernel, by decide +kernel, by decide +kernel⟩ rfl (by decide +kernel)))⟩,
  List.forall_mem_cons.mpr ⟨⟨mo_al _ _, Or.inl (ok_aload_n (k := 0) rfl (by decide +kernel))⟩,
  List.forall_mem_cons.mpr ⟨⟨mo_inv _ _ _ _ _, Or.inr (Or.inl (ok_inv (T := TX11) (N := 93) rfl cw_X11_isGood (by decide) (by decide) ml_X11_291 ci_X11_isGood cv_X11_isGood (show Cond.initialized (yX11_isGood).cls ∈ am_ts from ci9_RX11) ⟨by decide +kernel, by decide +kernel, by decide +kernel⟩ rfl (by decide +kernel)))⟩,
  List.forall_mem_cons.mpr ⟨⟨mo_if1 _ _ _, Or.inl (ok_if_eq (off := 19) (by decide) (by decide +kernel))⟩,
  List.forall_mem_cons.mpr ⟨⟨mo_al _ _, Or.inl (ok_aload_n (k := 0) rfl (by decide +kernel))⟩,
  List.forall_mem_cons.mpr ⟨⟨mo_gi _ _ _ _, Or.inl (ok_gi (C := RX11) (T := TX11) (N := 93) (ci := 11) (k := 25) rfl inX11 (by decide) fl_X11_116 (by decide +kernel) (by decide +kernel))⟩,
  List.forall_mem_cons.mpr ⟨⟨mo_if1 _ _ _, Or.inl (ok_if_eq (off := 12) (by decide) (by decide +kernel))⟩,
  fun _ h => absurd h List.not_mem_nil⟩⟩⟩⟩⟩⟩⟩⟩⟩⟩⟩⟩⟩⟩⟩⟩⟩⟩⟩⟩
def t_X11_act_4 : List (Nat × am_F) := [(150, im_al 0 151), (151, im_il 5 153), (153, im_inv q_SH 11 135 1 156), (156, im_go 136), (159, im_al 0 160), (160, im_inv q_SH 11 124 0 163), (163, im_if1 ib_ne 173 166), (166, im_ic (-1) 167), (167, im_al 0 168), (168, im_gi q_SH 11 21 171), (171, im_bin (fun x y => x - y) 172), (172, im_reti), (173, im_al 0 174), (174, im_gr q_SH 11 37 177), (177, im_il 5 179), (179, im_il 3 180), (180, im_ast q_SH .int (fun x => x) 181), (181, im_al 0 182), (182, im_gr q_SH 11 38 185), (185, im_il 5 187)]
set_option maxRecDepth 20000 in
theorem o_X11_act_4 : ∀ q ∈ t_X11_act_4, am_ok vwCl q_SH ξ (q_E ξ β xs L) q_EN q_KD q_ML (cX11_act, 6, RX11, "act", (some .int), []) q.1 q.2 :=
  List.forall_mem_cons.mpr ⟨⟨mo_al _ _, Or.inl (ok_aload_n (k := 0) rfl (by decide +kernel))⟩,
  List.forall_mem_cons.mpr ⟨⟨mo_il _ _, Or.inl (ok_iload (by decide +kernel))⟩,
  List.forall_mem_cons.mpr ⟨⟨mo_inv _ _ _ _ _, Or.inr (Or.inl (ok_inv (T := TX11) (N := 93) rfl cw_X11_clause (by decide) (by decide) ml_X11_339 ci_X11_clause cv_X11_clause (show Cond.initialized (yX11_clause).cls ∈ am_ts from ci9_RX11) ⟨by decide +kernel, by decide +kernel, by decide +kernel⟩ rfl (by decide +kernel)))⟩,
  List.forall_mem_cons.mpr ⟨⟨mo_go _, Or.inl (ok_goto (off := (-20)) (by decide) (by decide +kernel))⟩,
  List.forall_mem_cons.mpr ⟨⟨mo_al _ _, Or.inl (ok_aload_n (k := 0) rfl (by decide +kernel))⟩,
  List.forall_mem_cons.mpr ⟨⟨mo_inv _ _ _ _ _, Or.inr (Or.inl (ok_inv (T := TX11) (N := 93) rfl cw_X11_isGood (by decide) (by decide) ml_X11_291 ci_X11_isGood cv_X11_isGood (show Cond.initialized (yX11_isGood).cls ∈ am_ts from ci9_RX11) ⟨by decide +kernel, by decide +kernel, by decide +kernel⟩ rfl (by decide +kernel)))⟩,
  List.forall_mem_cons.mpr ⟨⟨mo_if1 _ _ _, Or.inl (ok_if_ne (off := 10) (by decide) (by decide +kernel))⟩,
  List.forall_mem_cons.mpr ⟨⟨mo_ic _ _, Or.inl (ok_iconst (n := (-1)) (v := (-1)) (by decide) (by decide +kernel))⟩,
  List.forall_mem_cons.mpr ⟨⟨mo_al _ _, Or.inl (ok_aload_n (k := 0) rfl (by decide +kernel))⟩,
  List.forall_mem_cons.mpr ⟨⟨mo_gi _ _ _ _, Or.inl (ok_gi (C := RX11) (T := TX11) (N := 93) (ci := 11) (k := 21) rfl inX11 (by decide) fl_X11_276 (by decide +kernel) (by decide +kernel))⟩,
  List.forall_mem_cons.mpr ⟨⟨mo_bin _ _, Or.inl (ok_isub (by decide +kernel))⟩,
  List.forall_mem_cons.mpr ⟨⟨mo_reti, Or.inr (Or.inr (ok_reti rfl (by decide +kernel)))⟩,
  List.forall_mem_cons.mpr ⟨⟨mo_al _ _, Or.inl (ok_aload_n (k := 0) rfl (by decide +kernel))⟩,
  List.forall_mem_cons.mpr ⟨⟨mo_gr _ _ _ _, Or.inl (ok_gr (C := RX11) (T := TX11) (N := 93) (ci := 11) (k := 37) rfl inX11 (by decide) fl_X11_144 (by decide +kernel) (by decide +kernel))⟩,
  List.forall_mem_cons.mpr ⟨⟨mo_il _ _, Or.inl (ok_iload (by decide +kernel))⟩,
  List.forall_mem_cons.mpr ⟨⟨mo_il _ _, Or.inl (ok_iload_n (k := 3) rfl (by decide +kernel))⟩,
  List.forall_mem_cons.mpr ⟨⟨mo_ast _ _ _ _, Or.inl (ok_iast (by decide +kernel))⟩,
  List.forall_mem_cons.mpr ⟨⟨mo_al _ _, Or.inl (ok_aload_n (k := 0) rfl (by decide +kernel))⟩,
  List.forall_mem_cons.mpr ⟨⟨mo_gr _ _ _ _, Or.inl (ok_gr (C := RX11) (T := TX11) (N := 93) (ci := 11) (k := 38) rfl inX11 (by decide) fl_X11_147 (by decide +kernel) (by decide +kernel))⟩,
  List.forall_mem_cons.mpr ⟨⟨mo_il _ _, Or.inl (ok_iload (by decide +kernel))⟩,
  fun _ h => absurd h List.not_mem_nil⟩⟩⟩⟩⟩⟩⟩⟩⟩⟩⟩⟩⟩⟩⟩⟩⟩⟩⟩⟩
def t_X11_act_5 : List (Nat × am_F) := [(187, im_il 4 189), (189, im_ast q_SH .int (fun x => x) 190), (190, im_al 0 191), (191, im_gr q_SH 11 39 194), (194, im_il 5 196), (196, im_al 0 197), (197, im_gi q_SH 11 1 200), (200, im_ast q_SH .int (fun x => x) 201), (201, im_al 0 202), (202, im_gr q_SH 11 40 205), (205, im_il 5 207), (207, im_ic (-1) 208), (208, im_ast q_SH .int (fun x => x) 209), (209, im_al 0 210), (210, im_dup 211), (211, im_gi q_SH 11 32 214), (214, im_ic 1 215), (215, im_bin (fun x y => x + y) 216), (216, im_pi q_SH 11 32 219), (219, im_al 0 220)]
set_option maxRecDepth 20000 in
theorem o_X11_act_5 : ∀ q ∈ t_X11_act_5, am_ok vwCl q_SH ξ (q_E ξ β xs L) q_EN q_KD q_ML (cX11_act, 6, RX11, "act", (some .int), []) q.1 q.2 :=
  List.forall_mem_cons.mpr ⟨⟨mo_il _ _, Or.inl (ok_iload (by decide +kernel))⟩,
  List.forall_mem_cons.mpr ⟨⟨mo_ast _ _ _ _, Or.inl (ok_iast (by decide +kernel))⟩,
  List.forall_mem_cons.mpr ⟨⟨mo_al _ _, Or.inl (ok_aload_n (k := 0) rfl (by decide +kernel))⟩,
  List.forall_mem_cons.mpr ⟨⟨mo_gr _ _ _ _, Or.inl (ok_gr (C := RX11) (T := TX11) (N := 93) (ci := 11) (k := 39) rfl inX11 (by decide) fl_X11_150 (by decide +kernel) (by decide +kernel))⟩,
  List.forall_mem_cons.mpr ⟨⟨mo_il _ _, Or.inl (ok_iload (by decide +kernel))⟩,
  List.forall_mem_cons.mpr ⟨⟨mo_al _ _, Or.inl (ok_aload_n (k := 0) rfl (by decide +kernel))⟩,
  List.forall_mem_cons.mpr ⟨⟨mo_gi _ _ _ _, Or.inl (ok_gi (C := RX11) (T := TX11) (N := 93) (ci := 11) (k := 1) rfl inX11 (by decide) fl_X11_65 (by decide +kernel) (by decide +kernel))⟩,
  List.forall_mem_cons.mpr ⟨⟨mo_ast _ _ _ _, Or.inl (ok_iast (by decide +kernel))⟩,
  List.forall_mem_cons.mpr ⟨⟨mo_al _ _, Or.inl (ok_aload_n (k := 0) rfl (by decide +kernel))⟩,
  List.forall_mem_cons.mpr ⟨⟨mo_gr _ _ _ _, Or.inl (ok_gr (C := RX11) (T := TX11) (N := 93) (ci := 11) (k := 40) rfl inX11 (by decide) fl_X11_80 (by decide +kernel) (by decide +kernel))⟩,
  List.forall_mem_cons.mpr ⟨⟨mo_il _ _, Or.inl (ok_iload (by decide +kernel))⟩,
  List.forall_mem_cons.mpr ⟨⟨mo_ic _ _, Or.inl (ok_iconst (n := (-1)) (v := (-1)) (by decide) (by decide +kernel))⟩,
  List.forall_mem_cons.mpr ⟨⟨mo_ast _ _ _ _, Or.inl (ok_iast (by decide +kernel))⟩,
  List.forall_mem_cons.mpr ⟨⟨mo_al _ _, Or.inl (ok_aload_n (k := 0) rfl (by decide +kernel))⟩,
  List.forall_mem_cons.mpr ⟨⟨mo_dup _, Or.inl (ok_dup (by decide +kernel))⟩,
  List.forall_mem_cons.mpr ⟨⟨mo_gi _ _ _ _, Or.inl (ok_gi (C := RX11) (T := TX11) (N := 93) (ci := 11) (k := 32) rfl inX11 (by decide) fl_X11_77 (by decide +kernel) (by decide +kernel))⟩,
  List.forall_mem_cons.mpr ⟨⟨mo_ic _ _, Or.inl (ok_iconst (n := 1) (v := 1) (by decide) (by decide +kernel))⟩,
  List.forall_mem_cons.mpr ⟨⟨mo_bin _ _, Or.inl (ok_iadd (by decide +kernel))⟩,
  List.forall_mem_cons.mpr ⟨⟨mo_pi _ _ _ _, Or.inl (ok_pi (ty := .int) (C := RX11) (T := TX11) (N := 93) (ci := 11) (k := 32) rfl inX11 (by decide) fl_X11_77 (by decide +kernel) tyX11 tyX11_ok nmX11 (by decide +kernel) (by decide +kernel) (by decide +kernel))⟩,
  List.forall_mem_cons.mpr ⟨⟨mo_al _ _, Or.inl (ok_aload_n (k := 0) rfl (by decide +kernel))⟩,
  fun _ h => absurd h List.not_mem_nil⟩⟩⟩⟩⟩⟩⟩⟩⟩⟩⟩⟩⟩⟩⟩⟩⟩⟩⟩⟩
def t_X11_act_6 : List (Nat × am_F) := [(220, im_dup 221), (221, im_gi q_SH 11 2 224), (224, im_ic 1 225), (225, im_bin (fun x y => x + y) 226), (226, im_pi q_SH 11 2 229), (229, im_il 5 231), (231, im_reti)]
set_option maxRecDepth 20000 in
theorem o_X11_act_6 : ∀ q ∈ t_X11_act_6, am_ok vwCl q_SH ξ (q_E ξ β xs L) q_EN q_KD q_ML (cX11_act, 6, RX11, "act", (some .int), []) q.1 q.2 :=
  List.forall_mem_cons.mpr ⟨⟨mo_dup _, Or.inl (ok_dup (by decide +kernel))⟩,
  List.forall_mem_cons.mpr ⟨⟨mo_gi _ _ _ _, Or.inl (ok_gi (C := RX11) (T := TX11) (N := 93) (ci := 11) (k := 2) rfl inX11 (by decide) fl_X11_10 (by decide +kernel) (by decide +kernel))⟩,
  List.forall_mem_cons.mpr ⟨⟨mo_ic _ _, Or.inl (ok_iconst (n := 1) (v := 1) (by decide) (by decide +kernel))⟩,
  List.forall_mem_cons.mpr ⟨⟨mo_bin _ _, Or.inl (ok_iadd (by decide +kernel))⟩,
  List.forall_mem_cons.mpr ⟨⟨mo_pi _ _ _ _, Or.inl (ok_pi (ty := .int) (C := RX11) (T := TX11) (N := 93) (ci := 11) (k := 2) rfl inX11 (by decide) fl_X11_10 (by decide +kernel) tyX11 tyX11_ok nmX11 (by decide +kernel) (by decide +kernel) (by decide +kernel))⟩,
  List.forall_mem_cons.mpr ⟨⟨mo_il _ _, Or.inl (ok_iload (by decide +kernel))⟩,
  List.forall_mem_cons.mpr ⟨⟨mo_reti, Or.inr (Or.inr (ok_reti rfl (by decide +kernel)))⟩,
  fun _ h => absurd h List.not_mem_nil⟩⟩⟩⟩⟩⟩⟩
def t_X11_act : List (Nat × am_F) := t_X11_act_0 ++ (t_X11_act_1 ++ (t_X11_act_2 ++ (t_X11_act_3 ++ (t_X11_act_4 ++ (t_X11_act_5 ++ (t_X11_act_6))))))
theorem o_X11_act : ∀ q ∈ t_X11_act, am_ok vwCl q_SH ξ (q_E ξ β xs L) q_EN q_KD q_ML (cX11_act, 6, RX11, "act", (some .int), []) q.1 q.2 := List.forall_mem_append.mpr ⟨o_X11_act_0, List.forall_mem_append.mpr ⟨o_X11_act_1, List.forall_mem_append.mpr ⟨o_X11_act_2, List.forall_mem_append.mpr ⟨o_X11_act_3, List.forall_mem_append.mpr ⟨o_X11_act_4, List.forall_mem_append.mpr ⟨o_X11_act_5, o_X11_act_6⟩⟩⟩⟩⟩⟩
def t_X11_fault_0 : List (Nat × am_F) := [(0, im_al 0 1), (1, im_ic 0 2), (2, im_pi q_SH 11 0 5), (5, im_al 0 6), (6, im_gi q_SH 11 22 9), (9, im_reti)]
set_option maxRecDepth 20000 in
theorem o_X11_fault_0 : ∀ q ∈ t_X11_fault_0, am_ok vwCl q_SH ξ (q_E ξ β xs L) q_EN q_KD q_ML (cX11_fault, 1, RX11, "fault", (some .int), []) q.1 q.2 :=
  List.forall_mem_cons.mpr ⟨⟨mo_al _ _, Or.inl (ok_aload_n (k := 0) rfl (by decide +kernel))⟩,
  List.forall_mem_cons.mpr ⟨⟨mo_ic _ _, Or.inl (ok_iconst (n := 0) (v := 0) (by decide) (by decide +kernel))⟩,
  List.forall_mem_cons.mpr ⟨⟨mo_pi _ _ _ _, Or.inl (ok_pi (ty := .int) (C := RX11) (T := TX11) (N := 93) (ci := 11) (k := 0) rfl inX11 (by decide) fl_X11_1 (by decide +kernel) tyX11 tyX11_ok nmX11 (by decide +kernel) (by decide +kernel) (by decide +kernel))⟩,
  List.forall_mem_cons.mpr ⟨⟨mo_al _ _, Or.inl (ok_aload_n (k := 0) rfl (by decide +kernel))⟩,
  List.forall_mem_cons.mpr ⟨⟨mo_gi _ _ _ _, Or.inl (ok_gi (C := RX11) (T := TX11) (N := 93) (ci := 11) (k := 22) rfl inX11 (by decide) fl_X11_134 (by decide +kernel) (by decide +kernel))⟩,
  List.forall_mem_cons.mpr ⟨⟨mo_reti, Or.inr (Or.inr (ok_reti rfl (by decide +kernel)))⟩,
  fun _ h => absurd h List.not_mem_nil⟩⟩⟩⟩⟩⟩
def t_X11_fault : List (Nat × am_F) := t_X11_fault_0
theorem o_X11_fault : ∀ q ∈ t_X11_fault, am_ok vwCl q_SH ξ (q_E ξ β xs L) q_EN q_KD q_ML (cX11_fault, 1, RX11, "fault", (some .int), []) q.1 q.2 := o_X11_fault_0
def t_X11_isKnownAct_0 : List (Nat × am_F) := [(0, im_al 0 1), (1, im_gr q_SH 11 39 4), (4, im_il 1 5), (5, im_ald q_SH .int 6), (6, im_il 2 7), (7, im_if2 ic_gt 34 10), (10, im_al 0 11), (11, im_gr q_SH 11 40 14), (14, im_il 1 15), (15, im_ald q_SH .int 16), (16, im_ic (-1) 17), (17, im_if2 ic_eq 30 20), (20, im_al 0 21), (21, im_gr q_SH 11 40 24), (24, im_il 1 25), (25, im_ald q_SH .int 26), (26, im_il 2 27), (27, im_if2 ic_le 34 30), (30, im_ic 1 31), (31, im_go 35)]
set_option maxRecDepth 20000 in
theorem o_X11_isKnownAct_0 : ∀ q ∈ t_X11_isKnownAct_0, am_ok vwCl q_SH ξ (q_E ξ β xs L) q_EN q_KD q_ML (cX11_isKnownAct, 3, RX11, "isKnownAct", (some .boolean), []) q.1 q.2 :=
  List.forall_mem_cons.mpr ⟨⟨mo_al _ _, Or.inl (ok_aload_n (k := 0) rfl (by decide +kernel))⟩,
  List.forall_mem_cons.mpr ⟨⟨mo_gr _ _ _ _, Or.inl (ok_gr (C := RX11) (T := TX11) (N := 93) (ci := 11) (k := 39) rfl inX11 (by decide) fl_X11_150 (by decide +kernel) (by decide +kernel))⟩,
  List.forall_mem_cons.mpr ⟨⟨mo_il _ _, Or.inl (ok_iload_n (k := 1) rfl (by decide +kernel))⟩,
  List.forall_mem_cons.mpr ⟨⟨mo_ald _ _ _, Or.inl (ok_iald (by decide +kernel))⟩,
  List.forall_mem_cons.mpr ⟨⟨mo_il _ _, Or.inl (ok_iload_n (k := 2) rfl (by decide +kernel))⟩,
  List.forall_mem_cons.mpr ⟨⟨mo_if2 _ _ _, Or.inl (ok_icmp_gt (off := 27) (by decide) (by decide +kernel))⟩,
  List.forall_mem_cons.mpr ⟨⟨mo_al _ _, Or.inl (ok_aload_n (k := 0) rfl (by decide +kernel))⟩,
  List.forall_mem_cons.mpr ⟨⟨mo_gr _ _ _ _, Or.inl (ok_gr (C := RX11) (T := TX11) (N := 93) (ci := 11) (k := 40) rfl inX11 (by decide) fl_X11_80 (by decide +kernel) (by decide +kernel))⟩,
  List.forall_mem_cons.mpr ⟨⟨mo_il _ _, Or.inl (ok_iload_n (k := 1) rfl (by decide +kernel))⟩,
  List.forall_mem_cons.mpr ⟨⟨mo_ald _ _ _, Or.inl (ok_iald (by decide +kernel))⟩,
  List.forall_mem_cons.mpr ⟨⟨mo_ic _ _, Or.inl (ok_iconst (n := (-1)) (v := (-1)) (by decide) (by decide +kernel))⟩,
  List.forall_mem_cons.mpr ⟨⟨mo_if2 _ _ _, Or.inl (ok_icmp_eq (off := 13) (by decide) (by decide +kernel))⟩,
  List.forall_mem_cons.mpr ⟨⟨mo_al _ _, Or.inl (ok_aload_n (k := 0) rfl (by decide +kernel))⟩,
  List.forall_mem_cons.mpr ⟨⟨mo_gr _ _ _ _, Or.inl (ok_gr (C := RX11) (T := TX11) (N := 93) (ci := 11) (k := 40) rfl inX11 (by decide) fl_X11_80 (by decide +kernel) (by decide +kernel))⟩,
  List.forall_mem_cons.mpr ⟨⟨mo_il _ _, Or.inl (ok_iload_n (k := 1) rfl (by decide +kernel))⟩,
  List.forall_mem_cons.mpr ⟨⟨mo_ald _ _ _, Or.inl (ok_iald (by decide +kernel))⟩,
  List.forall_mem_cons.mpr ⟨⟨mo_il _ _, Or.inl (ok_iload_n (k := 2) rfl (by decide +kernel))⟩,
  List.forall_mem_cons.mpr ⟨⟨mo_if2 _ _ _, Or.inl (ok_icmp_le (off := 7) (by decide) (by decide +kernel))⟩,
  List.forall_mem_cons.mpr ⟨⟨mo_ic _ _, Or.inl (ok_iconst (n := 1) (v := 1) (by decide) (by decide +kernel))⟩,
  List.forall_mem_cons.mpr ⟨⟨mo_go _, Or.inl (ok_goto (off := 4) (by decide) (by decide +kernel))⟩,
  fun _ h => absurd h List.not_mem_nil⟩⟩⟩⟩⟩⟩⟩⟩⟩⟩⟩⟩⟩⟩⟩⟩⟩⟩⟩⟩
def t_X11_isKnownAct_1 : List (Nat × am_F) := [(34, im_ic 0 35), (35, im_retz)]
set_option maxRecDepth 20000 in
theorem o_X11_isKnownAct_1 : ∀ q ∈ t_X11_isKnownAct_1, am_ok vwCl q_SH ξ (q_E ξ β xs L) q_EN q_KD q_ML (cX11_isKnownAct, 3, RX11, "isKnownAct", (some .boolean), []) q.1 q.2 :=
  List.forall_mem_cons.mpr ⟨⟨mo_ic _ _, Or.inl (ok_iconst (n := 0) (v := 0) (by decide) (by decide +kernel))⟩,
  List.forall_mem_cons.mpr ⟨⟨mo_retz, Or.inr (Or.inr (ok_retz rfl (by decide +kernel)))⟩,
  fun _ h => absurd h List.not_mem_nil⟩⟩
def t_X11_isKnownAct : List (Nat × am_F) := t_X11_isKnownAct_0 ++ (t_X11_isKnownAct_1)
theorem o_X11_isKnownAct : ∀ q ∈ t_X11_isKnownAct, am_ok vwCl q_SH ξ (q_E ξ β xs L) q_EN q_KD q_ML (cX11_isKnownAct, 3, RX11, "isKnownAct", (some .boolean), []) q.1 q.2 := List.forall_mem_append.mpr ⟨o_X11_isKnownAct_0, o_X11_isKnownAct_1⟩
def t_X11_isKnownFact_0 : List (Nat × am_F) := [(0, im_al 0 1), (1, im_gr q_SH 11 15 4), (4, im_il 1 5), (5, im_ald q_SH .int 6), (6, im_il 2 7), (7, im_if2 ic_gt 34 10), (10, im_al 0 11), (11, im_gr q_SH 11 16 14), (14, im_il 1 15), (15, im_ald q_SH .int 16), (16, im_ic (-1) 17), (17, im_if2 ic_eq 30 20), (20, im_al 0 21), (21, im_gr q_SH 11 16 24), (24, im_il 1 25), (25, im_ald q_SH .int 26), (26, im_il 2 27), (27, im_if2 ic_le 34 30), (30, im_ic 1 31), (31, im_go 35)]
set_option maxRecDepth 20000 in
theorem o_X11_isKnownFact_0 : ∀ q ∈ t_X11_isKnownFact_0, am_ok vwCl q_SH ξ (q_E ξ β xs L) q_EN q_KD q_ML (cX11_isKnownFact, 3, RX11, "isKnownFact", (some .boolean), []) q.1 q.2 :=
  List.forall_mem_cons.mpr ⟨⟨mo_al _ _, Or.inl (ok_aload_n (k := 0) rfl (by decide +kernel))⟩,
  List.forall_mem_cons.mpr ⟨⟨mo_gr _ _ _ _, Or.inl (ok_gr (C := RX11) (T := TX11) (N := 93) (ci := 11) (k := 15) rfl inX11 (by decide) fl_X11_62 (by decide +kernel) (by decide +kernel))⟩,
  List.forall_mem_cons.mpr ⟨⟨mo_il _ _, Or.inl (ok_iload_n (k := 1) rfl (by decide +kernel))⟩,
  List.forall_mem_cons.mpr ⟨⟨mo_ald _ _ _, Or.inl (ok_iald (by decide +kernel))⟩,
  List.forall_mem_cons.mpr ⟨⟨mo_il _ _, Or.inl (ok_iload_n (k := 2) rfl (by decide +kernel))⟩,
  List.forall_mem_cons.mpr ⟨⟨mo_if2 _ _ _, Or.inl (ok_icmp_gt (off := 27) (by decide) (by decide +kernel))⟩,
  List.forall_mem_cons.mpr ⟨⟨mo_al _ _, Or.inl (ok_aload_n (k := 0) rfl (by decide +kernel))⟩,
  List.forall_mem_cons.mpr ⟨⟨mo_gr _ _ _ _, Or.inl (ok_gr (C := RX11) (T := TX11) (N := 93) (ci := 11) (k := 16) rfl inX11 (by decide) fl_X11_68 (by decide +kernel) (by decide +kernel))⟩,
  List.forall_mem_cons.mpr ⟨⟨mo_il _ _, Or.inl (ok_iload_n (k := 1) rfl (by decide +kernel))⟩,
  List.forall_mem_cons.mpr ⟨⟨mo_ald _ _ _, Or.inl (ok_iald (by decide +kernel))⟩,
  List.forall_mem_cons.mpr ⟨⟨mo_ic _ _, Or.inl (ok_iconst (n := (-1)) (v := (-1)) (by decide) (by decide +kernel))⟩,
  List.forall_mem_cons.mpr ⟨⟨mo_if2 _ _ _, Or.inl (ok_icmp_eq (off := 13) (by decide) (by decide +kernel))⟩,
  List.forall_mem_cons.mpr ⟨⟨mo_al _ _, Or.inl (ok_aload_n (k := 0) rfl (by decide +kernel))⟩,
  List.forall_mem_cons.mpr ⟨⟨mo_gr _ _ _ _, Or.inl (ok_gr (C := RX11) (T := TX11) (N := 93) (ci := 11) (k := 16) rfl inX11 (by decide) fl_X11_68 (by decide +kernel) (by decide +kernel))⟩,
  List.forall_mem_cons.mpr ⟨⟨mo_il _ _, Or.inl (ok_iload_n (k := 1) rfl (by decide +kernel))⟩,
  List.forall_mem_cons.mpr ⟨⟨mo_ald _ _ _, Or.inl (ok_iald (by decide +kernel))⟩,
  List.forall_mem_cons.mpr ⟨⟨mo_il _ _, Or.inl (ok_iload_n (k := 2) rfl (by decide +kernel))⟩,
  List.forall_mem_cons.mpr ⟨⟨mo_if2 _ _ _, Or.inl (ok_icmp_le (off := 7) (by decide) (by decide +kernel))⟩,
  List.forall_mem_cons.mpr ⟨⟨mo_ic _ _, Or.inl (ok_iconst (n := 1) (v := 1) (by decide) (by decide +kernel))⟩,
  List.forall_mem_cons.mpr ⟨⟨mo_go _, Or.inl (ok_goto (off := 4) (by decide) (by decide +kernel))⟩,
  fun _ h => absurd h List.not_mem_nil⟩⟩⟩⟩⟩⟩⟩⟩⟩⟩⟩⟩⟩⟩⟩⟩⟩⟩⟩⟩
def t_X11_isKnownFact_1 : List (Nat × am_F) := [(34, im_ic 0 35), (35, im_retz)]
set_option maxRecDepth 20000 in
theorem o_X11_isKnownFact_1 : ∀ q ∈ t_X11_isKnownFact_1, am_ok vwCl q_SH ξ (q_E ξ β xs L) q_EN q_KD q_ML (cX11_isKnownFact, 3, RX11, "isKnownFact", (some .boolean), []) q.1 q.2 :=
  List.forall_mem_cons.mpr ⟨⟨mo_ic _ _, Or.inl (ok_iconst (n := 0) (v := 0) (by decide) (by decide +kernel))⟩,
  List.forall_mem_cons.mpr ⟨⟨mo_retz, Or.inr (Or.inr (ok_retz rfl (by decide +kernel)))⟩,
  fun _ h => absurd h List.not_mem_nil⟩⟩
def t_X11_isKnownFact : List (Nat × am_F) := t_X11_isKnownFact_0 ++ (t_X11_isKnownFact_1)
theorem o_X11_isKnownFact : ∀ q ∈ t_X11_isKnownFact, am_ok vwCl q_SH ξ (q_E ξ β xs L) q_EN q_KD q_ML (cX11_isKnownFact, 3, RX11, "isKnownFact", (some .boolean), []) q.1 q.2 := List.forall_mem_append.mpr ⟨o_X11_isKnownFact_0, o_X11_isKnownFact_1⟩
def t_X11_inForce_0 : List (Nat × am_F) := [(0, im_ic 0 1), (1, im_is 4 3), (3, im_ic 0 4), (4, im_is 5 6), (6, im_al 0 7), (7, im_gi q_SH 11 32 10), (10, im_ic 1 11), (11, im_bin (fun x y => x - y) 12), (12, im_is 6 14), (14, im_il 6 16), (16, im_if1 ib_lt 98 19), (19, im_il 6 21), (21, im_il 3 22), (22, im_if2 ic_eq 92 25), (25, im_al 0 26), (26, im_il 6 28), (28, im_il 2 29), (29, im_inv q_SH 11 140 2 32), (32, im_if1 ib_eq 92 35), (35, im_il 1 36)]
set_option maxRecDepth 20000 in
theorem o_X11_inForce_0 : ∀ q ∈ t_X11_inForce_0, am_ok vwCl q_SH ξ (q_E ξ β xs L) q_EN q_KD q_ML (cX11_inForce, 7, RX11, "inForce", (some .int), []) q.1 q.2 :=
  List.forall_mem_cons.mpr ⟨⟨mo_ic _ _, Or.inl (ok_iconst (n := 0) (v := 0) (by decide) (by decide +kernel))⟩,
  List.forall_mem_cons.mpr ⟨⟨mo_is _ _, Or.inl (ok_istore (by decide) (by decide +kernel))⟩,
  List.forall_mem_cons.mpr ⟨⟨mo_ic _ _, Or.inl (ok_iconst (n := 0) (v := 0) (by decide) (by decide +kernel))⟩,
  List.forall_mem_cons.mpr ⟨⟨mo_is _ _, Or.inl (ok_istore (by decide) (by decide +kernel))⟩,
  List.forall_mem_cons.mpr ⟨⟨mo_al _ _, Or.inl (ok_aload_n (k := 0) rfl (by decide +kernel))⟩,
  List.forall_mem_cons.mpr ⟨⟨mo_gi _ _ _ _, Or.inl (ok_gi (C := RX11) (T := TX11) (N := 93) (ci := 11) (k := 32) rfl inX11 (by decide) fl_X11_77 (by decide +kernel) (by decide +kernel))⟩,
  List.forall_mem_cons.mpr ⟨⟨mo_ic _ _, Or.inl (ok_iconst (n := 1) (v := 1) (by decide) (by decide +kernel))⟩,
  List.forall_mem_cons.mpr ⟨⟨mo_bin _ _, Or.inl (ok_isub (by decide +kernel))⟩,
  List.forall_mem_cons.mpr ⟨⟨mo_is _ _, Or.inl (ok_istore (by decide) (by decide +kernel))⟩,
  List.forall_mem_cons.mpr ⟨⟨mo_il _ _, Or.inl (ok_iload (by decide +kernel))⟩,
  List.forall_mem_cons.mpr ⟨⟨mo_if1 _ _ _, Or.inl (ok_if_lt (off := 82) (by decide) (by decide +kernel))⟩,
  List.forall_mem_cons.mpr ⟨⟨mo_il _ _, Or.inl (ok_iload (by decide +kernel))⟩,
  List.forall_mem_cons.mpr ⟨⟨mo_il _ _, Or.inl (ok_iload_n (k := 3) rfl (by decide +kernel))⟩,
  List.forall_mem_cons.mpr ⟨⟨mo_if2 _ _ _, Or.inl (ok_icmp_eq (off := 70) (by decide) (by decide +kernel))⟩,
  List.forall_mem_cons.mpr ⟨⟨mo_al _ _, Or.inl (ok_aload_n (k := 0) rfl (by decide +kernel))⟩,
  List.forall_mem_cons.mpr ⟨⟨mo_il _ _, Or.inl (ok_iload (by decide +kernel))⟩,
  List.forall_mem_cons.mpr ⟨⟨mo_il _ _, Or.inl (ok_iload_n (k := 2) rfl (by decide +kernel))⟩,
  List.forall_mem_cons.mpr ⟨⟨mo_inv _ _ _ _ _, Or.inr (Or.inl (ok_inv (T := TX11) (N := 93) rfl cw_X11_isKnownAct (by decide) (by decide) ml_X11_342 ci_X11_isKnownAct cv_X11_isKnownAct (show Cond.initialized (yX11_isKnownAct).cls ∈ am_ts from ci9_RX11) ⟨by decide +kernel, by decide +kernel, by decide +kernel⟩ rfl (by decide +kernel)))⟩,
  List.forall_mem_cons.mpr ⟨⟨mo_if1 _ _ _, Or.inl (ok_if_eq (off := 60) (by decide) (by decide +kernel))⟩,
  List.forall_mem_cons.mpr ⟨⟨mo_il _ _, Or.inl (ok_iload_n (k := 1) rfl (by decide +kernel))⟩,
  fun _ h => absurd h List.not_mem_nil⟩⟩⟩⟩⟩⟩⟩⟩⟩⟩⟩⟩⟩⟩⟩⟩⟩⟩⟩⟩
def t_X11_inForce_1 : List (Nat × am_F) := [(36, im_al 0 37), (37, im_gr q_SH 11 37 40), (40, im_il 6 42), (42, im_ald q_SH .int 43), (43, im_if2 ic_lt 92 46), (46, im_il 1 47), (47, im_al 0 48), (48, im_gr q_SH 11 38 51), (51, im_il 6 53), (53, im_ald q_SH .int 54), (54, im_if2 ic_ge 92 57), (57, im_il 4 59), (59, im_il 6 61), (61, im_bin (fun x y => x >>> (y &&& 31)) 62), (62, im_ic 1 63), (63, im_bin (fun x y => x &&& y) 64), (64, im_ic 1 65), (65, im_if2 ic_ne 71 68), (68, im_go 92), (71, im_il 5 73)]
set_option maxRecDepth 20000 in
theorem o_X11_inForce_1 : ∀ q ∈ t_X11_inForce_1, am_ok vwCl q_SH ξ (q_E ξ β xs L) q_EN q_KD q_ML (cX11_inForce, 7, RX11, "inForce", (some .int), []) q.1 q.2 :=
  List.forall_mem_cons.mpr ⟨⟨mo_al _ _, Or.inl (ok_aload_n (k := 0) rfl (by decide +kernel))⟩,
  List.forall_mem_cons.mpr ⟨⟨mo_gr _ _ _ _, Or.inl (ok_gr (C := RX11) (T := TX11) (N := 93) (ci := 11) (k := 37) rfl inX11 (by decide) fl_X11_144 (by decide +kernel) (by decide +kernel))⟩,
  List.forall_mem_cons.mpr ⟨⟨mo_il _ _, Or.inl (ok_iload (by decide +kernel))⟩,
  List.forall_mem_cons.mpr ⟨⟨mo_ald _ _ _, Or.inl (ok_iald (by decide +kernel))⟩,
  List.forall_mem_cons.mpr ⟨⟨mo_if2 _ _ _, Or.inl (ok_icmp_lt (off := 49) (by decide) (by decide +kernel))⟩,
  List.forall_mem_cons.mpr ⟨⟨mo_il _ _, Or.inl (ok_iload_n (k := 1) rfl (by decide +kernel))⟩,
  List.forall_mem_cons.mpr ⟨⟨mo_al _ _, Or.inl (ok_aload_n (k := 0) rfl (by decide +kernel))⟩,
  List.forall_mem_cons.mpr ⟨⟨mo_gr _ _ _ _, Or.inl (ok_gr (C := RX11) (T := TX11) (N := 93) (ci := 11) (k := 38) rfl inX11 (by decide) fl_X11_147 (by decide +kernel) (by decide +kernel))⟩,
  List.forall_mem_cons.mpr ⟨⟨mo_il _ _, Or.inl (ok_iload (by decide +kernel))⟩,
  List.forall_mem_cons.mpr ⟨⟨mo_ald _ _ _, Or.inl (ok_iald (by decide +kernel))⟩,
  List.forall_mem_cons.mpr ⟨⟨mo_if2 _ _ _, Or.inl (ok_icmp_ge (off := 38) (by decide) (by decide +kernel))⟩,
  List.forall_mem_cons.mpr ⟨⟨mo_il _ _, Or.inl (ok_iload (by decide +kernel))⟩,
  List.forall_mem_cons.mpr ⟨⟨mo_il _ _, Or.inl (ok_iload (by decide +kernel))⟩,
  List.forall_mem_cons.mpr ⟨⟨mo_bin _ _, Or.inl (ok_ishr (by decide +kernel))⟩,
  List.forall_mem_cons.mpr ⟨⟨mo_ic _ _, Or.inl (ok_iconst (n := 1) (v := 1) (by decide) (by decide +kernel))⟩,
  List.forall_mem_cons.mpr ⟨⟨mo_bin _ _, Or.inl (ok_iand (by decide +kernel))⟩,
  List.forall_mem_cons.mpr ⟨⟨mo_ic _ _, Or.inl (ok_iconst (n := 1) (v := 1) (by decide) (by decide +kernel))⟩,
  List.forall_mem_cons.mpr ⟨⟨mo_if2 _ _ _, Or.inl (ok_icmp_ne (off := 6) (by decide) (by decide +kernel))⟩,
  List.forall_mem_cons.mpr ⟨⟨mo_go _, Or.inl (ok_goto (off := 24) (by decide) (by decide +kernel))⟩,
  List.forall_mem_cons.mpr ⟨⟨mo_il _ _, Or.inl (ok_iload (by decide +kernel))⟩,
  fun _ h => absurd h List.not_mem_nil⟩⟩⟩⟩⟩⟩⟩⟩⟩⟩⟩⟩⟩⟩⟩⟩⟩⟩⟩⟩
def t_X11_inForce_2 : List (Nat × am_F) := [(73, im_ic 1 74), (74, im_il 6 76), (76, im_bin (fun x y => x <<< (y &&& 31)) 77), (77, im_bin (fun x y => x ||| y) 78), (78, im_is 5 80), (80, im_il 4 82), (82, im_al 0 83), (83, im_gr q_SH 11 42 86), (86, im_il 6 88), (88, im_ald q_SH .int 89), (89, im_bin (fun x y => x ||| y) 90), (90, im_is 4 92), (92, im_iinc 6 (-1) 95), (95, im_go 14), (98, im_il 5 100), (100, im_reti)]
set_option maxRecDepth 20000 in
theorem o_X11_inForce_2 : ∀ q ∈ t_X11_inForce_2, am_ok vwCl q_SH ξ (q_E ξ β xs L) q_EN q_KD q_ML (cX11_inForce, 7, RX11, "inForce", (some .int), []) q.1 q.2 :=
  List.forall_mem_cons.mpr ⟨⟨mo_ic _ _, Or.inl (ok_iconst (n := 1) (v := 1) (by decide) (by decide +kernel))⟩,
  List.forall_mem_cons.mpr ⟨⟨mo_il _ _, Or.inl (ok_iload (by decide +kernel))⟩,
  List.forall_mem_cons.mpr ⟨⟨mo_bin _ _, Or.inl (ok_ishl (by decide +kernel))⟩,
  List.forall_mem_cons.mpr ⟨⟨mo_bin _ _, Or.inl (ok_ior (by decide +kernel))⟩,
  List.forall_mem_cons.mpr ⟨⟨mo_is _ _, Or.inl (ok_istore (by decide) (by decide +kernel))⟩,
  List.forall_mem_cons.mpr ⟨⟨mo_il _ _, Or.inl (ok_iload (by decide +kernel))⟩,
  List.forall_mem_cons.mpr ⟨⟨mo_al _ _, Or.inl (ok_aload_n (k := 0) rfl (by decide +kernel))⟩,
  List.forall_mem_cons.mpr ⟨⟨mo_gr _ _ _ _, Or.inl (ok_gr (C := RX11) (T := TX11) (N := 93) (ci := 11) (k := 42) rfl inX11 (by decide) fl_X11_156 (by decide +kernel) (by decide +kernel))⟩,
  List.forall_mem_cons.mpr ⟨⟨mo_il _ _, Or.inl (ok_iload (by decide +kernel))⟩,
  List.forall_mem_cons.mpr ⟨⟨mo_ald _ _ _, Or.inl (ok_iald (by decide +kernel))⟩,
  List.forall_mem_cons.mpr ⟨⟨mo_bin _ _, Or.inl (ok_ior (by decide +kernel))⟩,
  List.forall_mem_cons.mpr ⟨⟨mo_is _ _, Or.inl (ok_istore (by decide) (by decide +kernel))⟩,
  List.forall_mem_cons.mpr ⟨⟨mo_iinc _ _ _, Or.inl (ok_iinc (n := (-1)) (v := (-1)) (by decide) (by decide) (by decide +kernel))⟩,
  List.forall_mem_cons.mpr ⟨⟨mo_go _, Or.inl (ok_goto (off := (-81)) (by decide) (by decide +kernel))⟩,
  List.forall_mem_cons.mpr ⟨⟨mo_il _ _, Or.inl (ok_iload (by decide +kernel))⟩,
  List.forall_mem_cons.mpr ⟨⟨mo_reti, Or.inr (Or.inr (ok_reti rfl (by decide +kernel)))⟩,
  fun _ h => absurd h List.not_mem_nil⟩⟩⟩⟩⟩⟩⟩⟩⟩⟩⟩⟩⟩⟩⟩⟩
def t_X11_inForce : List (Nat × am_F) := t_X11_inForce_0 ++ (t_X11_inForce_1 ++ (t_X11_inForce_2))
theorem o_X11_inForce : ∀ q ∈ t_X11_inForce, am_ok vwCl q_SH ξ (q_E ξ β xs L) q_EN q_KD q_ML (cX11_inForce, 7, RX11, "inForce", (some .int), []) q.1 q.2 := List.forall_mem_append.mpr ⟨o_X11_inForce_0, List.forall_mem_append.mpr ⟨o_X11_inForce_1, o_X11_inForce_2⟩⟩
def t_X11_findsDoubts_0 : List (Nat × am_F) := [(0, im_al 0 1), (1, im_ic 0 2), (2, im_pi q_SH 11 51 5), (5, im_al 0 6), (6, im_ic 1 7), (7, im_pi q_SH 11 52 10), (10, im_ic 0 11), (11, im_is 2 12), (12, im_il 2 13), (13, im_al 0 14), (14, im_gi q_SH 11 6 17), (17, im_if2 ic_ge 91 20), (20, im_al 0 21), (21, im_gi q_SH 11 51 24), (24, im_ic 3 25), (25, im_if2 ic_ge 91 28), (28, im_al 0 29), (29, im_il 2 30), (30, im_il 1 31), (31, im_inv q_SH 11 141 2 34)]
set_option maxRecDepth 20000 in
theorem o_X11_findsDoubts_0 : ∀ q ∈ t_X11_findsDoubts_0, am_ok vwCl q_SH ξ (q_E ξ β xs L) q_EN q_KD q_ML (cX11_findsDoubts, 3, RX11, "findsDoubts", none, []) q.1 q.2 :=
  List.forall_mem_cons.mpr ⟨⟨mo_al _ _, Or.inl (ok_aload_n (k := 0) rfl (by decide +kernel))⟩,
  List.forall_mem_cons.mpr ⟨⟨mo_ic _ _, Or.inl (ok_iconst (n := 0) (v := 0) (by decide) (by decide +kernel))⟩,
  List.forall_mem_cons.mpr ⟨⟨mo_pi _ _ _ _, Or.inl (ok_pi (ty := .int) (C := RX11) (T := TX11) (N := 93) (ci := 11) (k := 51) rfl inX11 (by decide) fl_X11_346 (by decide +kernel) tyX11 tyX11_ok nmX11 (by decide +kernel) (by decide +kernel) (by decide +kernel))⟩,
  List.forall_mem_cons.mpr ⟨⟨mo_al _ _, Or.inl (ok_aload_n (k := 0) rfl (by decide +kernel))⟩,
  List.forall_mem_cons.mpr ⟨⟨mo_ic _ _, Or.inl (ok_iconst (n := 1) (v := 1) (by decide) (by decide +kernel))⟩,
  List.forall_mem_cons.mpr ⟨⟨mo_pi _ _ _ _, Or.inl (ok_pi (ty := .int) (C := RX11) (T := TX11) (N := 93) (ci := 11) (k := 52) rfl inX11 (by decide) fl_X11_349 (by decide +kernel) tyX11 tyX11_ok nmX11 (by decide +kernel) (by decide +kernel) (by decide +kernel))⟩,
  List.forall_mem_cons.mpr ⟨⟨mo_ic _ _, Or.inl (ok_iconst (n := 0) (v := 0) (by decide) (by decide +kernel))⟩,
  List.forall_mem_cons.mpr ⟨⟨mo_is _ _, Or.inl (ok_istore_n (k := 2) rfl (by decide) (by decide +kernel))⟩,
  List.forall_mem_cons.mpr ⟨⟨mo_il _ _, Or.inl (ok_iload_n (k := 2) rfl (by decide +kernel))⟩,
  List.forall_mem_cons.mpr ⟨⟨mo_al _ _, Or.inl (ok_aload_n (k := 0) rfl (by decide +kernel))⟩,
  List.forall_mem_cons.mpr ⟨⟨mo_gi _ _ _ _, Or.inl (ok_gi (C := RX11) (T := TX11) (N := 93) (ci := 11) (k := 6) rfl inX11 (by decide) fl_X11_44 (by decide +kernel) (by decide +kernel))⟩,
  List.forall_mem_cons.mpr ⟨⟨mo_if2 _ _ _, Or.inl (ok_icmp_ge (off := 74) (by decide) (by decide +kernel))⟩,
  List.forall_mem_cons.mpr ⟨⟨mo_al _ _, Or.inl (ok_aload_n (k := 0) rfl (by decide +kernel))⟩,
  List.forall_mem_cons.mpr ⟨⟨mo_gi _ _ _ _, Or.inl (ok_gi (C := RX11) (T := TX11) (N := 93) (ci := 11) (k := 51) rfl inX11 (by decide) fl_X11_346 (by decide +kernel) (by decide +kernel))⟩,
  List.forall_mem_cons.mpr ⟨⟨mo_ic _ _, Or.inl (ok_iconst (n := 3) (v := 3) (by decide) (by decide +kernel))⟩,
  List.forall_mem_cons.mpr ⟨⟨mo_if2 _ _ _, Or.inl (ok_icmp_ge (off := 66) (by decide) (by decide +kernel))⟩,
  List.forall_mem_cons.mpr ⟨⟨mo_al _ _, Or.inl (ok_aload_n (k := 0) rfl (by decide +kernel))⟩,
  List.forall_mem_cons.mpr ⟨⟨mo_il _ _, Or.inl (ok_iload_n (k := 2) rfl (by decide +kernel))⟩,
  List.forall_mem_cons.mpr ⟨⟨mo_il _ _, Or.inl (ok_iload_n (k := 1) rfl (by decide +kernel))⟩,
  List.forall_mem_cons.mpr ⟨⟨mo_inv _ _ _ _ _, Or.inr (Or.inl (ok_inv (T := TX11) (N := 93) rfl cw_X11_isKnownFact (by decide) (by decide) ml_X11_352 ci_X11_isKnownFact cv_X11_isKnownFact (show Cond.initialized (yX11_isKnownFact).cls ∈ am_ts from ci9_RX11) ⟨by decide +kernel, by decide +kernel, by decide +kernel⟩ rfl (by decide +kernel)))⟩,
  fun _ h => absurd h List.not_mem_nil⟩⟩⟩⟩⟩⟩⟩⟩⟩⟩⟩⟩⟩⟩⟩⟩⟩⟩⟩⟩
def t_X11_findsDoubts_1 : List (Nat × am_F) := [(34, im_if1 ib_eq 85 37), (37, im_al 0 38), (38, im_gr q_SH 11 17 41), (41, im_il 2 42), (42, im_ald q_SH .int 43), (43, im_ic 2 44), (44, im_if2 ic_ge 50 47), (47, im_go 85), (50, im_al 0 51), (51, im_gr q_SH 11 53 54), (54, im_al 0 55), (55, im_gi q_SH 11 51 58), (58, im_il 2 59), (59, im_ast q_SH .int (fun x => x) 60), (60, im_al 0 61), (61, im_dup 62), (62, im_gi q_SH 11 51 65), (65, im_ic 1 66), (66, im_bin (fun x y => x + y) 67), (67, im_pi q_SH 11 51 70)]
set_option maxRecDepth 20000 in
theorem o_X11_findsDoubts_1 : ∀ q ∈ t_X11_findsDoubts_1, am_ok vwCl q_SH ξ (q_E ξ β xs L) q_EN q_KD q_ML (cX11_findsDoubts, 3, RX11, "findsDoubts", none, []) q.1 q.2 :=
  List.forall_mem_cons.mpr ⟨⟨mo_if1 _ _ _, Or.inl (ok_if_eq (off := 51) (by decide) (by decide +kernel))⟩,
  List.forall_mem_cons.mpr ⟨⟨mo_al _ _, Or.inl (ok_aload_n (k := 0) rfl (by decide +kernel))⟩,
  List.forall_mem_cons.mpr ⟨⟨mo_gr _ _ _ _, Or.inl (ok_gr (C := RX11) (T := TX11) (N := 93) (ci := 11) (k := 17) rfl inX11 (by decide) fl_X11_71 (by decide +kernel) (by decide +kernel))⟩,
  List.forall_mem_cons.mpr ⟨⟨mo_il _ _, Or.inl (ok_iload_n (k := 2) rfl (by decide +kernel))⟩,
  List.forall_mem_cons.mpr ⟨⟨mo_ald _ _ _, Or.inl (ok_iald (by decide +kernel))⟩,
  List.forall_mem_cons.mpr ⟨⟨mo_ic _ _, Or.inl (ok_iconst (n := 2) (v := 2) (by decide) (by decide +kernel))⟩,
  List.forall_mem_cons.mpr ⟨⟨mo_if2 _ _ _, Or.inl (ok_icmp_ge (off := 6) (by decide) (by decide +kernel))⟩,
  List.forall_mem_cons.mpr ⟨⟨mo_go _, Or.inl (ok_goto (off := 38) (by decide) (by decide +kernel))⟩,
  List.forall_mem_cons.mpr ⟨⟨mo_al _ _, Or.inl (ok_aload_n (k := 0) rfl (by decide +kernel))⟩,
  List.forall_mem_cons.mpr ⟨⟨mo_gr _ _ _ _, Or.inl (ok_gr (C := RX11) (T := TX11) (N := 93) (ci := 11) (k := 53) rfl inX11 (by decide) fl_X11_184 (by decide +kernel) (by decide +kernel))⟩,
  List.forall_mem_cons.mpr ⟨⟨mo_al _ _, Or.inl (ok_aload_n (k := 0) rfl (by decide +kernel))⟩,
  List.forall_mem_cons.mpr ⟨⟨mo_gi _ _ _ _, Or.inl (ok_gi (C := RX11) (T := TX11) (N := 93) (ci := 11) (k := 51) rfl inX11 (by decide) fl_X11_346 (by decide +kernel) (by decide +kernel))⟩,
  List.forall_mem_cons.mpr ⟨⟨mo_il _ _, Or.inl (ok_iload_n (k := 2) rfl (by decide +kernel))⟩,
  List.forall_mem_cons.mpr ⟨⟨mo_ast _ _ _ _, Or.inl (ok_iast (by decide +kernel))⟩,
  List.forall_mem_cons.mpr ⟨⟨mo_al _ _, Or.inl (ok_aload_n (k := 0) rfl (by decide +kernel))⟩,
  List.forall_mem_cons.mpr ⟨⟨mo_dup _, Or.inl (ok_dup (by decide +kernel))⟩,
  List.forall_mem_cons.mpr ⟨⟨mo_gi _ _ _ _, Or.inl (ok_gi (C := RX11) (T := TX11) (N := 93) (ci := 11) (k := 51) rfl inX11 (by decide) fl_X11_346 (by decide +kernel) (by decide +kernel))⟩,
  List.forall_mem_cons.mpr ⟨⟨mo_ic _ _, Or.inl (ok_iconst (n := 1) (v := 1) (by decide) (by decide +kernel))⟩,
  List.forall_mem_cons.mpr ⟨⟨mo_bin _ _, Or.inl (ok_iadd (by decide +kernel))⟩,
  List.forall_mem_cons.mpr ⟨⟨mo_pi _ _ _ _, Or.inl (ok_pi (ty := .int) (C := RX11) (T := TX11) (N := 93) (ci := 11) (k := 51) rfl inX11 (by decide) fl_X11_346 (by decide +kernel) tyX11 tyX11_ok nmX11 (by decide +kernel) (by decide +kernel) (by decide +kernel))⟩,
  fun _ h => absurd h List.not_mem_nil⟩⟩⟩⟩⟩⟩⟩⟩⟩⟩⟩⟩⟩⟩⟩⟩⟩⟩⟩⟩
def t_X11_findsDoubts_2 : List (Nat × am_F) := [(70, im_al 0 71), (71, im_dup 72), (72, im_gi q_SH 11 52 75), (75, im_al 0 76), (76, im_gr q_SH 11 17 79), (79, im_il 2 80), (80, im_ald q_SH .int 81), (81, im_bin (fun x y => x * y) 82), (82, im_pi q_SH 11 52 85), (85, im_iinc 2 1 88), (88, im_go 12), (91, im_ret0e)]
set_option maxRecDepth 20000 in
theorem o_X11_findsDoubts_2 : ∀ q ∈ t_X11_findsDoubts_2, am_ok vwCl q_SH ξ (q_E ξ β xs L) q_EN q_KD q_ML (cX11_findsDoubts, 3, RX11, "findsDoubts", none, []) q.1 q.2 :=
  List.forall_mem_cons.mpr ⟨⟨mo_al _ _, Or.inl (ok_aload_n (k := 0) rfl (by decide +kernel))⟩,
  List.forall_mem_cons.mpr ⟨⟨mo_dup _, Or.inl (ok_dup (by decide +kernel))⟩,
  List.forall_mem_cons.mpr ⟨⟨mo_gi _ _ _ _, Or.inl (ok_gi (C := RX11) (T := TX11) (N := 93) (ci := 11) (k := 52) rfl inX11 (by decide) fl_X11_349 (by decide +kernel) (by decide +kernel))⟩,
  List.forall_mem_cons.mpr ⟨⟨mo_al _ _, Or.inl (ok_aload_n (k := 0) rfl (by decide +kernel))⟩,
  List.forall_mem_cons.mpr ⟨⟨mo_gr _ _ _ _, Or.inl (ok_gr (C := RX11) (T := TX11) (N := 93) (ci := 11) (k := 17) rfl inX11 (by decide) fl_X11_71 (by decide +kernel) (by decide +kernel))⟩,
  List.forall_mem_cons.mpr ⟨⟨mo_il _ _, Or.inl (ok_iload_n (k := 2) rfl (by decide +kernel))⟩,
  List.forall_mem_cons.mpr ⟨⟨mo_ald _ _ _, Or.inl (ok_iald (by decide +kernel))⟩,
  List.forall_mem_cons.mpr ⟨⟨mo_bin _ _, Or.inl (ok_imul (by decide +kernel))⟩,
  List.forall_mem_cons.mpr ⟨⟨mo_pi _ _ _ _, Or.inl (ok_pi (ty := .int) (C := RX11) (T := TX11) (N := 93) (ci := 11) (k := 52) rfl inX11 (by decide) fl_X11_349 (by decide +kernel) tyX11 tyX11_ok nmX11 (by decide +kernel) (by decide +kernel) (by decide +kernel))⟩,
  List.forall_mem_cons.mpr ⟨⟨mo_iinc _ _ _, Or.inl (ok_iinc (n := 1) (v := 1) (by decide) (by decide) (by decide +kernel))⟩,
  List.forall_mem_cons.mpr ⟨⟨mo_go _, Or.inl (ok_goto (off := (-76)) (by decide) (by decide +kernel))⟩,
  List.forall_mem_cons.mpr ⟨⟨mo_ret0e, Or.inr (Or.inr (ok_ret0 rfl (by decide +kernel)))⟩,
  fun _ h => absurd h List.not_mem_nil⟩⟩⟩⟩⟩⟩⟩⟩⟩⟩⟩⟩
def t_X11_findsDoubts : List (Nat × am_F) := t_X11_findsDoubts_0 ++ (t_X11_findsDoubts_1 ++ (t_X11_findsDoubts_2))
theorem o_X11_findsDoubts : ∀ q ∈ t_X11_findsDoubts, am_ok vwCl q_SH ξ (q_E ξ β xs L) q_EN q_KD q_ML (cX11_findsDoubts, 3, RX11, "findsDoubts", none, []) q.1 q.2 := List.forall_mem_append.mpr ⟨o_X11_findsDoubts_0, List.forall_mem_append.mpr ⟨o_X11_findsDoubts_1, o_X11_findsDoubts_2⟩⟩
def t_X11_dayIn_0 : List (Nat × am_F) := [(0, im_il 1 1), (1, im_is 3 2), (2, im_al 0 3), (3, im_gi q_SH 11 51 6), (6, im_ic 1 7), (7, im_bin (fun x y => x - y) 8), (8, im_is 4 10), (10, im_il 4 12), (12, im_il 2 13), (13, im_if2 ic_le 37 16), (16, im_il 3 17), (17, im_al 0 18), (18, im_gr q_SH 11 17 21), (21, im_al 0 22), (22, im_gr q_SH 11 53 25), (25, im_il 4 27), (27, im_ald q_SH .int 28), (28, im_ald q_SH .int 29), (29, im_div (fun x y => x / y) 30), (30, im_is 3 31)]
set_option maxRecDepth 20000 in
theorem o_X11_dayIn_0 : ∀ q ∈ t_X11_dayIn_0, am_ok vwCl q_SH ξ (q_E ξ β xs L) q_EN q_KD q_ML (cX11_dayIn, 5, RX11, "dayIn", (some .int), []) q.1 q.2 :=
  List.forall_mem_cons.mpr ⟨⟨mo_il _ _, Or.inl (ok_iload_n (k := 1) rfl (by decide +kernel))⟩,
  List.forall_mem_cons.mpr ⟨⟨mo_is _ _, Or.inl (ok_istore_n (k := 3) rfl (by decide) (by decide +kernel))⟩,
  List.forall_mem_cons.mpr ⟨⟨mo_al _ _, Or.inl (ok_aload_n (k := 0) rfl (by decide +kernel))⟩,
  List.forall_mem_cons.mpr ⟨⟨mo_gi _ _ _ _, Or.inl (ok_gi (C := RX11) (T := TX11) (N := 93) (ci := 11) (k := 51) rfl inX11 (by decide) fl_X11_346 (by decide +kernel) (by decide +kernel))⟩,
  List.forall_mem_cons.mpr ⟨⟨mo_ic _ _, Or.inl (ok_iconst (n := 1) (v := 1) (by decide) (by decide +kernel))⟩,
  List.forall_mem_cons.mpr ⟨⟨mo_bin _ _, Or.inl (ok_isub (by decide +kernel))⟩,
  List.forall_mem_cons.mpr ⟨⟨mo_is _ _, Or.inl (ok_istore (by decide) (by decide +kernel))⟩,
  List.forall_mem_cons.mpr ⟨⟨mo_il _ _, Or.inl (ok_iload (by decide +kernel))⟩,
  List.forall_mem_cons.mpr ⟨⟨mo_il _ _, Or.inl (ok_iload_n (k := 2) rfl (by decide +kernel))⟩,
  List.forall_mem_cons.mpr ⟨⟨mo_if2 _ _ _, Or.inl (ok_icmp_le (off := 24) (by decide) (by decide +kernel))⟩,
  List.forall_mem_cons.mpr ⟨⟨mo_il _ _, Or.inl (ok_iload_n (k := 3) rfl (by decide +kernel))⟩,
  List.forall_mem_cons.mpr ⟨⟨mo_al _ _, Or.inl (ok_aload_n (k := 0) rfl (by decide +kernel))⟩,
  List.forall_mem_cons.mpr ⟨⟨mo_gr _ _ _ _, Or.inl (ok_gr (C := RX11) (T := TX11) (N := 93) (ci := 11) (k := 17) rfl inX11 (by decide) fl_X11_71 (by decide +kernel) (by decide +kernel))⟩,
  List.forall_mem_cons.mpr ⟨⟨mo_al _ _, Or.inl (ok_aload_n (k := 0) rfl (by decide +kernel))⟩,
  List.forall_mem_cons.mpr ⟨⟨mo_gr _ _ _ _, Or.inl (ok_gr (C := RX11) (T := TX11) (N := 93) (ci := 11) (k := 53) rfl inX11 (by decide) fl_X11_184 (by decide +kernel) (by decide +kernel))⟩,
  List.forall_mem_cons.mpr ⟨⟨mo_il _ _, Or.inl (ok_iload (by decide +kernel))⟩,
  List.forall_mem_cons.mpr ⟨⟨mo_ald _ _ _, Or.inl (ok_iald (by decide +kernel))⟩,
  List.forall_mem_cons.mpr ⟨⟨mo_ald _ _ _, Or.inl (ok_iald (by decide +kernel))⟩,
  List.forall_mem_cons.mpr ⟨⟨mo_div _ _, Or.inl (ok_idiv (by decide +kernel))⟩,
  List.forall_mem_cons.mpr ⟨⟨mo_is _ _, Or.inl (ok_istore_n (k := 3) rfl (by decide) (by decide +kernel))⟩,
  fun _ h => absurd h List.not_mem_nil⟩⟩⟩⟩⟩⟩⟩⟩⟩⟩⟩⟩⟩⟩⟩⟩⟩⟩⟩⟩
def t_X11_dayIn_1 : List (Nat × am_F) := [(31, im_iinc 4 (-1) 34), (34, im_go 10), (37, im_il 3 38), (38, im_al 0 39), (39, im_gr q_SH 11 17 42), (42, im_al 0 43), (43, im_gr q_SH 11 53 46), (46, im_il 2 47), (47, im_ald q_SH .int 48), (48, im_ald q_SH .int 49), (49, im_div (fun x y => x - x / y * y) 50), (50, im_reti)]
set_option maxRecDepth 20000 in
theorem o_X11_dayIn_1 : ∀ q ∈ t_X11_dayIn_1, am_ok vwCl q_SH ξ (q_E ξ β xs L) q_EN q_KD q_ML (cX11_dayIn, 5, RX11, "dayIn", (some .int), []) q.1 q.2 :=
  List.forall_mem_cons.mpr ⟨⟨mo_iinc _ _ _, Or.inl (ok_iinc (n := (-1)) (v := (-1)) (by decide) (by decide) (by decide +kernel))⟩,
  List.forall_mem_cons.mpr ⟨⟨mo_go _, Or.inl (ok_goto (off := (-24)) (by decide) (by decide +kernel))⟩,
  List.forall_mem_cons.mpr ⟨⟨mo_il _ _, Or.inl (ok_iload_n (k := 3) rfl (by decide +kernel))⟩,
  List.forall_mem_cons.mpr ⟨⟨mo_al _ _, Or.inl (ok_aload_n (k := 0) rfl (by decide +kernel))⟩,
  List.forall_mem_cons.mpr ⟨⟨mo_gr _ _ _ _, Or.inl (ok_gr (C := RX11) (T := TX11) (N := 93) (ci := 11) (k := 17) rfl inX11 (by decide) fl_X11_71 (by decide +kernel) (by decide +kernel))⟩,
  List.forall_mem_cons.mpr ⟨⟨mo_al _ _, Or.inl (ok_aload_n (k := 0) rfl (by decide +kernel))⟩,
  List.forall_mem_cons.mpr ⟨⟨mo_gr _ _ _ _, Or.inl (ok_gr (C := RX11) (T := TX11) (N := 93) (ci := 11) (k := 53) rfl inX11 (by decide) fl_X11_184 (by decide +kernel) (by decide +kernel))⟩,
  List.forall_mem_cons.mpr ⟨⟨mo_il _ _, Or.inl (ok_iload_n (k := 2) rfl (by decide +kernel))⟩,
  List.forall_mem_cons.mpr ⟨⟨mo_ald _ _ _, Or.inl (ok_iald (by decide +kernel))⟩,
  List.forall_mem_cons.mpr ⟨⟨mo_ald _ _ _, Or.inl (ok_iald (by decide +kernel))⟩,
  List.forall_mem_cons.mpr ⟨⟨mo_div _ _, Or.inl (ok_irem (by decide +kernel))⟩,
  List.forall_mem_cons.mpr ⟨⟨mo_reti, Or.inr (Or.inr (ok_reti rfl (by decide +kernel)))⟩,
  fun _ h => absurd h List.not_mem_nil⟩⟩⟩⟩⟩⟩⟩⟩⟩⟩⟩⟩
def t_X11_dayIn : List (Nat × am_F) := t_X11_dayIn_0 ++ (t_X11_dayIn_1)
theorem o_X11_dayIn : ∀ q ∈ t_X11_dayIn, am_ok vwCl q_SH ξ (q_E ξ β xs L) q_EN q_KD q_ML (cX11_dayIn, 5, RX11, "dayIn", (some .int), []) q.1 q.2 := List.forall_mem_append.mpr ⟨o_X11_dayIn_0, o_X11_dayIn_1⟩
def t_X11_starts_0 : List (Nat × am_F) := [(0, im_ic 0 1), (1, im_is 5 3), (3, im_il 5 5), (5, im_ic 20 7), (7, im_if2 ic_ge 48 10), (10, im_al 0 11), (11, im_gr q_SH 11 55 14), (14, im_il 5 16), (16, im_ic 0 17), (17, im_ast q_SH .int (fun x => x) 18), (18, im_al 0 19), (19, im_gr q_SH 11 56 22), (22, im_il 5 24), (24, im_ic (-1) 25), (25, im_ast q_SH .int (fun x => x) 26), (26, im_al 0 27), (27, im_gr q_SH 11 58 30), (30, im_il 5 32), (32, im_ic (-1) 33), (33, im_ast q_SH .int (fun x => x) 34)]
set_option maxRecDepth 20000 in
theorem o_X11_starts_0 : ∀ q ∈ t_X11_starts_0, am_ok vwCl q_SH ξ (q_E ξ β xs L) q_EN q_KD q_ML (cX11_starts, 6, RX11, "starts", none, []) q.1 q.2 :=
  List.forall_mem_cons.mpr ⟨⟨mo_ic _ _, Or.inl (ok_iconst (n := 0) (v := 0) (by decide) (by decide +kernel))⟩,
  List.forall_mem_cons.mpr ⟨⟨mo_is _ _, Or.inl (ok_istore (by decide) (by decide +kernel))⟩,
  List.forall_mem_cons.mpr ⟨⟨mo_il _ _, Or.inl (ok_iload (by decide +kernel))⟩,
  List.forall_mem_cons.mpr ⟨⟨mo_ic _ _, Or.inl (ok_bipush (n := 20) (v := 20) (by decide) (by decide +kernel))⟩,
  List.forall_mem_cons.mpr ⟨⟨mo_if2 _ _ _, Or.inl (ok_icmp_ge (off := 41) (by decide) (by decide +kernel))⟩,
  List.forall_mem_cons.mpr ⟨⟨mo_al _ _, Or.inl (ok_aload_n (k := 0) rfl (by decide +kernel))⟩,
  List.forall_mem_cons.mpr ⟨⟨mo_gr _ _ _ _, Or.inl (ok_gr (C := RX11) (T := TX11) (N := 93) (ci := 11) (k := 55) rfl inX11 (by decide) fl_X11_190 (by decide +kernel) (by decide +kernel))⟩,
  List.forall_mem_cons.mpr ⟨⟨mo_il _ _, Or.inl (ok_iload (by decide +kernel))⟩,
  List.forall_mem_cons.mpr ⟨⟨mo_ic _ _, Or.inl (ok_iconst (n := 0) (v := 0) (by decide) (by decide +kernel))⟩,
  List.forall_mem_cons.mpr ⟨⟨mo_ast _ _ _ _, Or.inl (ok_iast (by decide +kernel))⟩,
  List.forall_mem_cons.mpr ⟨⟨mo_al _ _, Or.inl (ok_aload_n (k := 0) rfl (by decide +kernel))⟩,
  List.forall_mem_cons.mpr ⟨⟨mo_gr _ _ _ _, Or.inl (ok_gr (C := RX11) (T := TX11) (N := 93) (ci := 11) (k := 56) rfl inX11 (by decide) fl_X11_193 (by decide +kernel) (by decide +kernel))⟩,
  List.forall_mem_cons.mpr ⟨⟨mo_il _ _, Or.inl (ok_iload (by decide +kernel))⟩,
  List.forall_mem_cons.mpr ⟨⟨mo_ic _ _, Or.inl (ok_iconst (n := (-1)) (v := (-1)) (by decide) (by decide +kernel))⟩,
  List.forall_mem_cons.mpr ⟨⟨mo_ast _ _ _ _, Or.inl (ok_iast (by decide +kernel))⟩,
  List.forall_mem_cons.mpr ⟨⟨mo_al _ _, Or.inl (ok_aload_n (k := 0) rfl (by decide +kernel))⟩,
  List.forall_mem_cons.mpr ⟨⟨mo_gr _ _ _ _, Or.inl (ok_gr (C := RX11) (T := TX11) (N := 93) (ci := 11) (k := 58) rfl inX11 (by decide) fl_X11_199 (by decide +kernel) (by decide +kernel))⟩,
  List.forall_mem_cons.mpr ⟨⟨mo_il _ _, Or.inl (ok_iload (by decide +kernel))⟩,
  List.forall_mem_cons.mpr ⟨⟨mo_ic _ _, Or.inl (ok_iconst (n := (-1)) (v := (-1)) (by decide) (by decide +kernel))⟩,
  List.forall_mem_cons.mpr ⟨⟨mo_ast _ _ _ _, Or.inl (ok_iast (by decide +kernel))⟩,
  fun _ h => absurd h List.not_mem_nil⟩⟩⟩⟩⟩⟩⟩⟩⟩⟩⟩⟩⟩⟩⟩⟩⟩⟩⟩⟩
def t_X11_starts_1 : List (Nat × am_F) := [(34, im_al 0 35), (35, im_gr q_SH 11 59 38), (38, im_il 5 40), (40, im_ic (-1) 41), (41, im_ast q_SH .int (fun x => x) 42), (42, im_iinc 5 1 45), (45, im_go 3), (48, im_ic 0 49), (49, im_is 5 51), (51, im_il 5 53), (53, im_ic 100 55), (55, im_if2 ic_ge 88 58), (58, im_al 0 59), (59, im_gr q_SH 11 63 62), (62, im_il 5 64), (64, im_ic (-1) 65), (65, im_ast q_SH .int (fun x => x) 66), (66, im_al 0 67), (67, im_gr q_SH 11 64 70), (70, im_il 5 72)]
set_option maxRecDepth 20000 in
theorem o_X11_starts_1 : ∀ q ∈ t_X11_starts_1, am_ok vwCl q_SH ξ (q_E ξ β xs L) q_EN q_KD q_ML (cX11_starts, 6, RX11, "starts", none, []) q.1 q.2 :=
  List.forall_mem_cons.mpr ⟨⟨mo_al _ _, Or.inl (ok_aload_n (k := 0) rfl (by decide +kernel))⟩,
  List.forall_mem_cons.mpr ⟨⟨mo_gr _ _ _ _, Or.inl (ok_gr (C := RX11) (T := TX11) (N := 93) (ci := 11) (k := 59) rfl inX11 (by decide) fl_X11_202 (by decide +kernel) (by decide +kernel))⟩,
  List.forall_mem_cons.mpr ⟨⟨mo_il _ _, Or.inl (ok_iload (by decide +kernel))⟩,
  List.forall_mem_cons.mpr ⟨⟨mo_ic _ _, Or.inl (ok_iconst (n := (-1)) (v := (-1)) (by decide) (by decide +kernel))⟩,
  List.forall_mem_cons.mpr ⟨⟨mo_ast _ _ _ _, Or.inl (ok_iast (by decide +kernel))⟩,
  List.forall_mem_cons.mpr ⟨⟨mo_iinc _ _ _, Or.inl (ok_iinc (n := 1) (v := 1) (by decide) (by decide) (by decide +kernel))⟩,
  List.forall_mem_cons.mpr ⟨⟨mo_go _, Or.inl (ok_goto (off := (-42)) (by decide) (by decide +kernel))⟩,
  List.forall_mem_cons.mpr ⟨⟨mo_ic _ _, Or.inl (ok_iconst (n := 0) (v := 0) (by decide) (by decide +kernel))⟩,
  List.forall_mem_cons.mpr ⟨⟨mo_is _ _, Or.inl (ok_istore (by decide) (by decide +kernel))⟩,
  List.forall_mem_cons.mpr ⟨⟨mo_il _ _, Or.inl (ok_iload (by decide +kernel))⟩,
  List.forall_mem_cons.mpr ⟨⟨mo_ic _ _, Or.inl (ok_bipush (n := 100) (v := 100) (by decide) (by decide +kernel))⟩,
  List.forall_mem_cons.mpr ⟨⟨mo_if2 _ _ _, Or.inl (ok_icmp_ge (off := 33) (by decide) (by decide +kernel))⟩,
  List.forall_mem_cons.mpr ⟨⟨mo_al _ _, Or.inl (ok_aload_n (k := 0) rfl (by decide +kernel))⟩,
  List.forall_mem_cons.mpr ⟨⟨mo_gr _ _ _ _, Or.inl (ok_gr (C := RX11) (T := TX11) (N := 93) (ci := 11) (k := 63) rfl inX11 (by decide) fl_X11_214 (by decide +kernel) (by decide +kernel))⟩,
  List.forall_mem_cons.mpr ⟨⟨mo_il _ _, Or.inl (ok_iload (by decide +kernel))⟩,
  List.forall_mem_cons.mpr ⟨⟨mo_ic _ _, Or.inl (ok_iconst (n := (-1)) (v := (-1)) (by decide) (by decide +kernel))⟩,
  List.forall_mem_cons.mpr ⟨⟨mo_ast _ _ _ _, Or.inl (ok_iast (by decide +kernel))⟩,
  List.forall_mem_cons.mpr ⟨⟨mo_al _ _, Or.inl (ok_aload_n (k := 0) rfl (by decide +kernel))⟩,
  List.forall_mem_cons.mpr ⟨⟨mo_gr _ _ _ _, Or.inl (ok_gr (C := RX11) (T := TX11) (N := 93) (ci := 11) (k := 64) rfl inX11 (by decide) fl_X11_217 (by decide +kernel) (by decide +kernel))⟩,
  List.forall_mem_cons.mpr ⟨⟨mo_il _ _, Or.inl (ok_iload (by decide +kernel))⟩,
  fun _ h => absurd h List.not_mem_nil⟩⟩⟩⟩⟩⟩⟩⟩⟩⟩⟩⟩⟩⟩⟩⟩⟩⟩⟩⟩
def t_X11_starts_2 : List (Nat × am_F) := [(72, im_ic 0 73), (73, im_ast q_SH .int (fun x => x) 74), (74, im_al 0 75), (75, im_gr q_SH 11 65 78), (78, im_il 5 80), (80, im_ic 0 81), (81, im_ast q_SH .int (fun x => x) 82), (82, im_iinc 5 1 85), (85, im_go 51), (88, im_ic 0 89), (89, im_is 5 91), (91, im_il 5 93), (93, im_al 0 94), (94, im_gi q_SH 11 4 97), (97, im_if2 ic_ge 128 100), (100, im_al 0 101), (101, im_gr q_SH 11 61 104), (104, im_il 5 106), (106, im_al 0 107), (107, im_gr q_SH 11 7 110)]
set_option maxRecDepth 20000 in
theorem o_X11_starts_2 : ∀ q ∈ t_X11_starts_2, am_ok vwCl q_SH ξ (q_E ξ β xs L) q_EN q_KD q_ML (cX11_starts, 6, RX11, "starts", none, []) q.1 q.2 :=
  List.forall_mem_cons.mpr ⟨⟨mo_ic _ _, Or.inl (ok_iconst (n := 0) (v := 0) (by decide) (by decide +kernel))⟩,
  List.forall_mem_cons.mpr ⟨⟨mo_ast _ _ _ _, Or.inl (ok_iast (by decide +kernel))⟩,
  List.forall_mem_cons.mpr ⟨⟨mo_al _ _, Or.inl (ok_aload_n (k := 0) rfl (by decide +kernel))⟩,
  List.forall_mem_cons.mpr ⟨⟨mo_gr _ _ _ _, Or.inl (ok_gr (C := RX11) (T := TX11) (N := 93) (ci := 11) (k := 65) rfl inX11 (by decide) fl_X11_220 (by decide +kernel) (by decide +kernel))⟩,
  List.forall_mem_cons.mpr ⟨⟨mo_il _ _, Or.inl (ok_iload (by decide +kernel))⟩,
  List.forall_mem_cons.mpr ⟨⟨mo_ic _ _, Or.inl (ok_iconst (n := 0) (v := 0) (by decide) (by decide +kernel))⟩,
  List.forall_mem_cons.mpr ⟨⟨mo_ast _ _ _ _, Or.inl (ok_iast (by decide +kernel))⟩,
  List.forall_mem_cons.mpr ⟨⟨mo_iinc _ _ _, Or.inl (ok_iinc (n := 1) (v := 1) (by decide) (by decide) (by decide +kernel))⟩,
  List.forall_mem_cons.mpr ⟨⟨mo_go _, Or.inl (ok_goto (off := (-34)) (by decide) (by decide +kernel))⟩,
  List.forall_mem_cons.mpr ⟨⟨mo_ic _ _, Or.inl (ok_iconst (n := 0) (v := 0) (by decide) (by decide +kernel))⟩,
  List.forall_mem_cons.mpr ⟨⟨mo_is _ _, Or.inl (ok_istore (by decide) (by decide +kernel))⟩,
  List.forall_mem_cons.mpr ⟨⟨mo_il _ _, Or.inl (ok_iload (by decide +kernel))⟩,
  List.forall_mem_cons.mpr ⟨⟨mo_al _ _, Or.inl (ok_aload_n (k := 0) rfl (by decide +kernel))⟩,
  List.forall_mem_cons.mpr ⟨⟨mo_gi _ _ _ _, Or.inl (ok_gi (C := RX11) (T := TX11) (N := 93) (ci := 11) (k := 4) rfl inX11 (by decide) fl_X11_13 (by decide +kernel) (by decide +kernel))⟩,
  List.forall_mem_cons.mpr ⟨⟨mo_if2 _ _ _, Or.inl (ok_icmp_ge (off := 31) (by decide) (by decide +kernel))⟩,
  List.forall_mem_cons.mpr ⟨⟨mo_al _ _, Or.inl (ok_aload_n (k := 0) rfl (by decide +kernel))⟩,
  List.forall_mem_cons.mpr ⟨⟨mo_gr _ _ _ _, Or.inl (ok_gr (C := RX11) (T := TX11) (N := 93) (ci := 11) (k := 61) rfl inX11 (by decide) fl_X11_208 (by decide +kernel) (by decide +kernel))⟩,
  List.forall_mem_cons.mpr ⟨⟨mo_il _ _, Or.inl (ok_iload (by decide +kernel))⟩,
  List.forall_mem_cons.mpr ⟨⟨mo_al _ _, Or.inl (ok_aload_n (k := 0) rfl (by decide +kernel))⟩,
  List.forall_mem_cons.mpr ⟨⟨mo_gr _ _ _ _, Or.inl (ok_gr (C := RX11) (T := TX11) (N := 93) (ci := 11) (k := 7) rfl inX11 (by decide) fl_X11_16 (by decide +kernel) (by decide +kernel))⟩,
  fun _ h => absurd h List.not_mem_nil⟩⟩⟩⟩⟩⟩⟩⟩⟩⟩⟩⟩⟩⟩⟩⟩⟩⟩⟩⟩
def t_X11_starts_3 : List (Nat × am_F) := [(110, im_il 5 112), (112, im_ald q_SH .int 113), (113, im_ast q_SH .int (fun x => x) 114), (114, im_al 0 115), (115, im_gr q_SH 11 62 118), (118, im_il 5 120), (120, im_ic (-1) 121), (121, im_ast q_SH .int (fun x => x) 122), (122, im_iinc 5 1 125), (125, im_go 91), (128, im_al 0 129), (129, im_ic 0 130), (130, im_pi q_SH 11 66 133), (133, im_al 0 134), (134, im_ic 0 135), (135, im_pi q_SH 11 73 138), (138, im_ic 0 139), (139, im_is 5 141), (141, im_il 5 143), (143, im_al 0 144)]
set_option maxRecDepth 20000 in
theorem o_X11_starts_3 : ∀ q ∈ t_X11_starts_3, am_ok vwCl q_SH ξ (q_E ξ β xs L) q_EN q_KD q_ML (cX11_starts, 6, RX11, "starts", none, []) q.1 q.2 :=
  List.forall_mem_cons.mpr ⟨⟨mo_il _ _, Or.inl (ok_iload (by decide +kernel))⟩,
  List.forall_mem_cons.mpr ⟨⟨mo_ald _ _ _, Or.inl (ok_iald (by decide +kernel))⟩,
  List.forall_mem_cons.mpr ⟨⟨mo_ast _ _ _ _, Or.inl (ok_iast (by decide +kernel))⟩,
  List.forall_mem_cons.mpr ⟨⟨mo_al _ _, Or.inl (ok_aload_n (k := 0) rfl (by decide +kernel))⟩,
  List.forall_mem_cons.mpr ⟨⟨mo_gr _ _ _ _, Or.inl (ok_gr (C := RX11) (T := TX11) (N := 93) (ci := 11) (k := 62) rfl inX11 (by decide) fl_X11_211 (by decide +kernel) (by decide +kernel))⟩,
  List.forall_mem_cons.mpr ⟨⟨mo_il _ _, Or.inl (ok_iload (by decide +kernel))⟩,
  List.forall_mem_cons.mpr ⟨⟨mo_ic _ _, Or.inl (ok_iconst (n := (-1)) (v := (-1)) (by decide) (by decide +kernel))⟩,
  List.forall_mem_cons.mpr ⟨⟨mo_ast _ _ _ _, Or.inl (ok_iast (by decide +kernel))⟩,
  List.forall_mem_cons.mpr ⟨⟨mo_iinc _ _ _, Or.inl (ok_iinc (n := 1) (v := 1) (by decide) (by decide) (by decide +kernel))⟩,
  List.forall_mem_cons.mpr ⟨⟨mo_go _, Or.inl (ok_goto (off := (-34)) (by decide) (by decide +kernel))⟩,
  List.forall_mem_cons.mpr ⟨⟨mo_al _ _, Or.inl (ok_aload_n (k := 0) rfl (by decide +kernel))⟩,
  List.forall_mem_cons.mpr ⟨⟨mo_ic _ _, Or.inl (ok_iconst (n := 0) (v := 0) (by decide) (by decide +kernel))⟩,
  List.forall_mem_cons.mpr ⟨⟨mo_pi _ _ _ _, Or.inl (ok_pi (ty := .int) (C := RX11) (T := TX11) (N := 93) (ci := 11) (k := 66) rfl inX11 (by decide) fl_X11_355 (by decide +kernel) tyX11 tyX11_ok nmX11 (by decide +kernel) (by decide +kernel) (by decide +kernel))⟩,
  List.forall_mem_cons.mpr ⟨⟨mo_al _ _, Or.inl (ok_aload_n (k := 0) rfl (by decide +kernel))⟩,
  List.forall_mem_cons.mpr ⟨⟨mo_ic _ _, Or.inl (ok_iconst (n := 0) (v := 0) (by decide) (by decide +kernel))⟩,
  List.forall_mem_cons.mpr ⟨⟨mo_pi _ _ _ _, Or.inl (ok_pi (ty := .int) (C := RX11) (T := TX11) (N := 93) (ci := 11) (k := 73) rfl inX11 (by decide) fl_X11_358 (by decide +kernel) tyX11 tyX11_ok nmX11 (by decide +kernel) (by decide +kernel) (by decide +kernel))⟩,
  List.forall_mem_cons.mpr ⟨⟨mo_ic _ _, Or.inl (ok_iconst (n := 0) (v := 0) (by decide) (by decide +kernel))⟩,
  List.forall_mem_cons.mpr ⟨⟨mo_is _ _, Or.inl (ok_istore (by decide) (by decide +kernel))⟩,
  List.forall_mem_cons.mpr ⟨⟨mo_il _ _, Or.inl (ok_iload (by decide +kernel))⟩,
  List.forall_mem_cons.mpr ⟨⟨mo_al _ _, Or.inl (ok_aload_n (k := 0) rfl (by decide +kernel))⟩,
  fun _ h => absurd h List.not_mem_nil⟩⟩⟩⟩⟩⟩⟩⟩⟩⟩⟩⟩⟩⟩⟩⟩⟩⟩⟩⟩
def t_X11_starts_4 : List (Nat × am_F) := [(144, im_gi q_SH 11 32 147), (147, im_if2 ic_ge 204 150), (150, im_il 5 152), (152, im_il 4 154), (154, im_if2 ic_eq 198 157), (157, im_al 0 158), (158, im_il 5 160), (160, im_il 3 161), (161, im_inv q_SH 11 140 2 164), (164, im_if1 ib_eq 198 167), (167, im_al 0 168), (168, im_gr q_SH 11 37 171), (171, im_il 5 173), (173, im_ald q_SH .int 174), (174, im_al 0 175), (175, im_gr q_SH 11 38 178), (178, im_il 5 180), (180, im_ald q_SH .int 181), (181, im_if2 ic_ge 198 184), (184, im_al 0 185)]
set_option maxRecDepth 20000 in
theorem o_X11_starts_4 : ∀ q ∈ t_X11_starts_4, am_ok vwCl q_SH ξ (q_E ξ β xs L) q_EN q_KD q_ML (cX11_starts, 6, RX11, "starts", none, []) q.1 q.2 :=
  List.forall_mem_cons.mpr ⟨⟨mo_gi _ _ _ _, Or.inl (ok_gi (C := RX11) (T := TX11) (N := 93) (ci := 11) (k := 32) rfl inX11 (by decide) fl_X11_77 (by decide +kernel) (by decide +kernel))⟩,
  List.forall_mem_cons.mpr ⟨⟨mo_if2 _ _ _, Or.inl (ok_icmp_ge (off := 57) (by decide) (by decide +kernel))⟩,
  List.forall_mem_cons.mpr ⟨⟨mo_il _ _, Or.inl (ok_iload (by decide +kernel))⟩,
  List.forall_mem_cons.mpr ⟨⟨mo_il _ _, Or.inl (ok_iload (by decide +kernel))⟩,
  List.forall_mem_cons.mpr ⟨⟨mo_if2 _ _ _, Or.inl (ok_icmp_eq (off := 44) (by decide) (by decide +kernel))⟩,
  List.forall_mem_cons.mpr ⟨⟨mo_al _ _, Or.inl (ok_aload_n (k := 0) rfl (by decide +kernel))⟩,
  List.forall_mem_cons.mpr ⟨⟨mo_il _ _, Or.inl (ok_iload (by decide +kernel))⟩,
  List.forall_mem_cons.mpr ⟨⟨mo_il _ _, Or.inl (ok_iload_n (k := 3) rfl (by decide +kernel))⟩,
  List.forall_mem_cons.mpr ⟨⟨mo_inv _ _ _ _ _, Or.inr (Or.inl (ok_inv (T := TX11) (N := 93) rfl cw_X11_isKnownAct (by decide) (by decide) ml_X11_342 ci_X11_isKnownAct cv_X11_isKnownAct (show Cond.initialized (yX11_isKnownAct).cls ∈ am_ts from ci9_RX11) ⟨by decide +kernel, by decide +kernel, by decide +kernel⟩ rfl (by decide +kernel)))⟩,
  List.forall_mem_cons.mpr ⟨⟨mo_if1 _ _ _, Or.inl (ok_if_eq (off := 34) (by decide) (by decide +kernel))⟩,
  List.forall_mem_cons.mpr ⟨⟨mo_al _ _, Or.inl (ok_aload_n (k := 0) rfl (by decide +kernel))⟩,
  List.forall_mem_cons.mpr ⟨⟨mo_gr _ _ _ _, Or.inl (ok_gr (C := RX11) (T := TX11) (N := 93) (ci := 11) (k := 37) rfl inX11 (by decide) fl_X11_144 (by decide +kernel) (by decide +kernel))⟩,
  List.forall_mem_cons.mpr ⟨⟨mo_il _ _, Or.inl (ok_iload (by decide +kernel))⟩,
  List.forall_mem_cons.mpr ⟨⟨mo_ald _ _ _, Or.inl (ok_iald (by decide +kernel))⟩,
  List.forall_mem_cons.mpr ⟨⟨mo_al _ _, Or.inl (ok_aload_n (k := 0) rfl (by decide +kernel))⟩,
  List.forall_mem_cons.mpr ⟨⟨mo_gr _ _ _ _, Or.inl (ok_gr (C := RX11) (T := TX11) (N := 93) (ci := 11) (k := 38) rfl inX11 (by decide) fl_X11_147 (by decide +kernel) (by decide +kernel))⟩,
  List.forall_mem_cons.mpr ⟨⟨mo_il _ _, Or.inl (ok_iload (by decide +kernel))⟩,
  List.forall_mem_cons.mpr ⟨⟨mo_ald _ _ _, Or.inl (ok_iald (by decide +kernel))⟩,
  List.forall_mem_cons.mpr ⟨⟨mo_if2 _ _ _, Or.inl (ok_icmp_ge (off := 17) (by decide) (by decide +kernel))⟩,
  List.forall_mem_cons.mpr ⟨⟨mo_al _ _, Or.inl (ok_aload_n (k := 0) rfl (by decide +kernel))⟩,
  fun _ h => absurd h List.not_mem_nil⟩⟩⟩⟩⟩⟩⟩⟩⟩⟩⟩⟩⟩⟩⟩⟩⟩⟩⟩⟩
def t_X11_starts_5 : List (Nat × am_F) := [(185, im_il 5 187), (187, im_al 0 188), (188, im_gr q_SH 11 37 191), (191, im_il 5 193), (193, im_ald q_SH .int 194), (194, im_il 2 195), (195, im_inv q_SH 11 146 3 198), (198, im_iinc 5 1 201), (201, im_go 141), (204, im_ic 0 205), (205, im_is 5 207), (207, im_il 5 209), (209, im_al 0 210), (210, im_gi q_SH 11 6 213), (213, im_if2 ic_ge 238 216), (216, im_al 0 217), (217, im_gr q_SH 11 54 220), (220, im_il 5 222), (222, im_al 0 223), (223, im_gr q_SH 11 18 226)]
set_option maxRecDepth 20000 in
theorem o_X11_starts_5 : ∀ q ∈ t_X11_starts_5, am_ok vwCl q_SH ξ (q_E ξ β xs L) q_EN q_KD q_ML (cX11_starts, 6, RX11, "starts", none, []) q.1 q.2 :=
  List.forall_mem_cons.mpr ⟨⟨mo_il _ _, Or.inl (ok_iload (by decide +kernel))⟩,
  List.forall_mem_cons.mpr ⟨⟨mo_al _ _, Or.inl (ok_aload_n (k := 0) rfl (by decide +kernel))⟩,
  List.forall_mem_cons.mpr ⟨⟨mo_gr _ _ _ _, Or.inl (ok_gr (C := RX11) (T := TX11) (N := 93) (ci := 11) (k := 37) rfl inX11 (by decide) fl_X11_144 (by decide +kernel) (by decide +kernel))⟩,
  List.forall_mem_cons.mpr ⟨⟨mo_il _ _, Or.inl (ok_iload (by decide +kernel))⟩,
  List.forall_mem_cons.mpr ⟨⟨mo_ald _ _ _, Or.inl (ok_iald (by decide +kernel))⟩,
  List.forall_mem_cons.mpr ⟨⟨mo_il _ _, Or.inl (ok_iload_n (k := 2) rfl (by decide +kernel))⟩,
  List.forall_mem_cons.mpr ⟨⟨mo_inv _ _ _ _ _, Or.inr (Or.inl (ok_inv (T := TX11) (N := 93) rfl cw_X11_sorts (by decide) (by decide) ml_X11_361 ci_X11_sorts cv_X11_sorts (show Cond.initialized (yX11_sorts).cls ∈ am_ts from ci9_RX11) ⟨by decide +kernel, by decide +kernel, by decide +kernel⟩ rfl (by decide +kernel)))⟩,
  List.forall_mem_cons.mpr ⟨⟨mo_iinc _ _ _, Or.inl (ok_iinc (n := 1) (v := 1) (by decide) (by decide) (by decide +kernel))⟩,
  List.forall_mem_cons.mpr ⟨⟨mo_go _, Or.inl (ok_goto (off := (-60)) (by decide) (by decide +kernel))⟩,
  List.forall_mem_cons.mpr ⟨⟨mo_ic _ _, Or.inl (ok_iconst (n := 0) (v := 0) (by decide) (by decide +kernel))⟩,
  List.forall_mem_cons.mpr ⟨⟨mo_is _ _, Or.inl (ok_istore (by decide) (by decide +kernel))⟩,
  List.forall_mem_cons.mpr ⟨⟨mo_il _ _, Or.inl (ok_iload (by decide +kernel))⟩,
  List.forall_mem_cons.mpr ⟨⟨mo_al _ _, Or.inl (ok_aload_n (k := 0) rfl (by decide +kernel))⟩,
  List.forall_mem_cons.mpr ⟨⟨mo_gi _ _ _ _, Or.inl (ok_gi (C := RX11) (T := TX11) (N := 93) (ci := 11) (k := 6) rfl inX11 (by decide) fl_X11_44 (by decide +kernel) (by decide +kernel))⟩,
  List.forall_mem_cons.mpr ⟨⟨mo_if2 _ _ _, Or.inl (ok_icmp_ge (off := 25) (by decide) (by decide +kernel))⟩,
  List.forall_mem_cons.mpr ⟨⟨mo_al _ _, Or.inl (ok_aload_n (k := 0) rfl (by decide +kernel))⟩,
  List.forall_mem_cons.mpr ⟨⟨mo_gr _ _ _ _, Or.inl (ok_gr (C := RX11) (T := TX11) (N := 93) (ci := 11) (k := 54) rfl inX11 (by decide) fl_X11_187 (by decide +kernel) (by decide +kernel))⟩,
  List.forall_mem_cons.mpr ⟨⟨mo_il _ _, Or.inl (ok_iload (by decide +kernel))⟩,
  List.forall_mem_cons.mpr ⟨⟨mo_al _ _, Or.inl (ok_aload_n (k := 0) rfl (by decide +kernel))⟩,
  List.forall_mem_cons.mpr ⟨⟨mo_gr _ _ _ _, Or.inl (ok_gr (C := RX11) (T := TX11) (N := 93) (ci := 11) (k := 18) rfl inX11 (by decide) fl_X11_74 (by decide +kernel) (by decide +kernel))⟩,
  fun _ h => absurd h List.not_mem_nil⟩⟩⟩⟩⟩⟩⟩⟩⟩⟩⟩⟩⟩⟩⟩⟩⟩⟩⟩⟩
def t_X11_starts_6 : List (Nat × am_F) := [(226, im_ic 3 227), (227, im_il 5 229), (229, im_bin (fun x y => x * y) 230), (230, im_ald q_SH .int 231), (231, im_ast q_SH .int (fun x => x) 232), (232, im_iinc 5 1 235), (235, im_go 207), (238, im_ic 0 239), (239, im_is 5 241), (241, im_il 5 243), (243, im_al 0 244), (244, im_gi q_SH 11 51 247), (247, im_if2 ic_ge 290 250), (250, im_al 0 251), (251, im_gr q_SH 11 54 254), (254, im_al 0 255), (255, im_gr q_SH 11 53 258), (258, im_il 5 260), (260, im_ald q_SH .int 261), (261, im_al 0 262)]
set_option maxRecDepth 20000 in
theorem o_X11_starts_6 : ∀ q ∈ t_X11_starts_6, am_ok vwCl q_SH ξ (q_E ξ β xs L) q_EN q_KD q_ML (cX11_starts, 6, RX11, "starts", none, []) q.1 q.2 :=
  List.forall_mem_cons.mpr ⟨⟨mo_ic _ _, Or.inl (ok_iconst (n := 3) (v := 3) (by decide) (by decide +kernel))⟩,
  List.forall_mem_cons.mpr ⟨⟨mo_il _ _, Or.inl (ok_iload (by decide +kernel))⟩,
  List.forall_mem_cons.mpr ⟨⟨mo_bin _ _, Or.inl (ok_imul (by decide +kernel))⟩,
  List.forall_mem_cons.mpr ⟨⟨mo_ald _ _ _, Or.inl (ok_iald (by decide +kernel))⟩,
  List.forall_mem_cons.mpr ⟨⟨mo_ast _ _ _ _, Or.inl (ok_iast (by decide +kernel))⟩,
  List.forall_mem_cons.mpr ⟨⟨mo_iinc _ _ _, Or.inl (ok_iinc (n := 1) (v := 1) (by decide) (by decide) (by decide +kernel))⟩,
  List.forall_mem_cons.mpr ⟨⟨mo_go _, Or.inl (ok_goto (off := (-28)) (by decide) (by decide +kernel))⟩,
  List.forall_mem_cons.mpr ⟨⟨mo_ic _ _, Or.inl (ok_iconst (n := 0) (v := 0) (by decide) (by decide +kernel))⟩,
  List.forall_mem_cons.mpr ⟨⟨mo_is _ _, Or.inl (ok_istore (by decide) (by decide +kernel))⟩,
  List.forall_mem_cons.mpr ⟨⟨mo_il _ _, Or.inl (ok_iload (by decide +kernel))⟩,
  List.forall_mem_cons.mpr ⟨⟨mo_al _ _, Or.inl (ok_aload_n (k := 0) rfl (by decide +kernel))⟩,
  List.forall_mem_cons.mpr ⟨⟨mo_gi _ _ _ _, Or.inl (ok_gi (C := RX11) (T := TX11) (N := 93) (ci := 11) (k := 51) rfl inX11 (by decide) fl_X11_346 (by decide +kernel) (by decide +kernel))⟩,
  List.forall_mem_cons.mpr ⟨⟨mo_if2 _ _ _, Or.inl (ok_icmp_ge (off := 43) (by decide) (by decide +kernel))⟩,
  List.forall_mem_cons.mpr ⟨⟨mo_al _ _, Or.inl (ok_aload_n (k := 0) rfl (by decide +kernel))⟩,
  List.forall_mem_cons.mpr ⟨⟨mo_gr _ _ _ _, Or.inl (ok_gr (C := RX11) (T := TX11) (N := 93) (ci := 11) (k := 54) rfl inX11 (by decide) fl_X11_187 (by decide +kernel) (by decide +kernel))⟩,
  List.forall_mem_cons.mpr ⟨⟨mo_al _ _, Or.inl (ok_aload_n (k := 0) rfl (by decide +kernel))⟩,
  List.forall_mem_cons.mpr ⟨⟨mo_gr _ _ _ _, Or.inl (ok_gr (C := RX11) (T := TX11) (N := 93) (ci := 11) (k := 53) rfl inX11 (by decide) fl_X11_184 (by decide +kernel) (by decide +kernel))⟩,
  List.forall_mem_cons.mpr ⟨⟨mo_il _ _, Or.inl (ok_iload (by decide +kernel))⟩,
  List.forall_mem_cons.mpr ⟨⟨mo_ald _ _ _, Or.inl (ok_iald (by decide +kernel))⟩,
  List.forall_mem_cons.mpr ⟨⟨mo_al _ _, Or.inl (ok_aload_n (k := 0) rfl (by decide +kernel))⟩,
  fun _ h => absurd h List.not_mem_nil⟩⟩⟩⟩⟩⟩⟩⟩⟩⟩⟩⟩⟩⟩⟩⟩⟩⟩⟩⟩
def t_X11_starts_7 : List (Nat × am_F) := [(262, im_gr q_SH 11 18 265), (265, im_ic 3 266), (266, im_al 0 267), (267, im_gr q_SH 11 53 270), (270, im_il 5 272), (272, im_ald q_SH .int 273), (273, im_bin (fun x y => x * y) 274), (274, im_al 0 275), (275, im_il 1 276), (276, im_il 5 278), (278, im_inv q_SH 11 144 2 281), (281, im_bin (fun x y => x + y) 282), (282, im_ald q_SH .int 283), (283, im_ast q_SH .int (fun x => x) 284), (284, im_iinc 5 1 287), (287, im_go 241), (290, im_ic 0 291), (291, im_is 5 293), (293, im_il 5 295), (295, im_al 0 296)]
set_option maxRecDepth 20000 in
theorem o_X11_starts_7 : ∀ q ∈ t_X11_starts_7, am_ok vwCl q_SH ξ (q_E ξ β xs L) q_EN q_KD q_ML (cX11_starts, 6, RX11, "starts", none, []) q.1 q.2 :=
  List.forall_mem_cons.mpr ⟨⟨mo_gr _ _ _ _, Or.inl (ok_gr (C := RX11) (T := TX11) (N := 93) (ci := 11) (k := 18) rfl inX11 (by decide) fl_X11_74 (by decide +kernel) (by decide +kernel))⟩,
  List.forall_mem_cons.mpr ⟨⟨mo_ic _ _, Or.inl (ok_iconst (n := 3) (v := 3) (by decide) (by decide +kernel))⟩,
  List.forall_mem_cons.mpr ⟨⟨mo_al _ _, Or.inl (ok_aload_n (k := 0) rfl (by decide +kernel))⟩,
  List.forall_mem_cons.mpr ⟨⟨mo_gr _ _ _ _, Or.inl (ok_gr (C := RX11) (T := TX11) (N := 93) (ci := 11) (k := 53) rfl inX11 (by decide) fl_X11_184 (by decide +kernel) (by decide +kernel))⟩,
  List.forall_mem_cons.mpr ⟨⟨mo_il _ _, Or.inl (ok_iload (by decide +kernel))⟩,
  List.forall_mem_cons.mpr ⟨⟨mo_ald _ _ _, Or.inl (ok_iald (by decide +kernel))⟩,
  List.forall_mem_cons.mpr ⟨⟨mo_bin _ _, Or.inl (ok_imul (by decide +kernel))⟩,
  List.forall_mem_cons.mpr ⟨⟨mo_al _ _, Or.inl (ok_aload_n (k := 0) rfl (by decide +kernel))⟩,
  List.forall_mem_cons.mpr ⟨⟨mo_il _ _, Or.inl (ok_iload_n (k := 1) rfl (by decide +kernel))⟩,
  List.forall_mem_cons.mpr ⟨⟨mo_il _ _, Or.inl (ok_iload (by decide +kernel))⟩,
  List.forall_mem_cons.mpr ⟨⟨mo_inv _ _ _ _ _, Or.inr (Or.inl (ok_inv (T := TX11) (N := 93) rfl cw_X11_dayIn (by decide) (by decide) ml_X11_365 ci_X11_dayIn cv_X11_dayIn (show Cond.initialized (yX11_dayIn).cls ∈ am_ts from ci9_RX11) ⟨by decide +kernel, by decide +kernel, by decide +kernel⟩ rfl (by decide +kernel)))⟩,
  List.forall_mem_cons.mpr ⟨⟨mo_bin _ _, Or.inl (ok_iadd (by decide +kernel))⟩,
  List.forall_mem_cons.mpr ⟨⟨mo_ald _ _ _, Or.inl (ok_iald (by decide +kernel))⟩,
  List.forall_mem_cons.mpr ⟨⟨mo_ast _ _ _ _, Or.inl (ok_iast (by decide +kernel))⟩,
  List.forall_mem_cons.mpr ⟨⟨mo_iinc _ _ _, Or.inl (ok_iinc (n := 1) (v := 1) (by decide) (by decide) (by decide +kernel))⟩,
  List.forall_mem_cons.mpr ⟨⟨mo_go _, Or.inl (ok_goto (off := (-46)) (by decide) (by decide +kernel))⟩,
  List.forall_mem_cons.mpr ⟨⟨mo_ic _ _, Or.inl (ok_iconst (n := 0) (v := 0) (by decide) (by decide +kernel))⟩,
  List.forall_mem_cons.mpr ⟨⟨mo_is _ _, Or.inl (ok_istore (by decide) (by decide +kernel))⟩,
  List.forall_mem_cons.mpr ⟨⟨mo_il _ _, Or.inl (ok_iload (by decide +kernel))⟩,
  List.forall_mem_cons.mpr ⟨⟨mo_al _ _, Or.inl (ok_aload_n (k := 0) rfl (by decide +kernel))⟩,
  fun _ h => absurd h List.not_mem_nil⟩⟩⟩⟩⟩⟩⟩⟩⟩⟩⟩⟩⟩⟩⟩⟩⟩⟩⟩⟩
def t_X11_starts_8 : List (Nat × am_F) := [(296, im_gi q_SH 11 6 299), (299, im_if2 ic_ge 335 302), (302, im_al 0 303), (303, im_il 5 305), (305, im_il 3 306), (306, im_inv q_SH 11 141 2 309), (309, im_if1 ib_eq 329 312), (312, im_al 0 313), (313, im_ic 12 315), (315, im_il 5 317), (317, im_bin (fun x y => x + y) 318), (318, im_al 0 319), (319, im_gr q_SH 11 54 322), (322, im_il 5 324), (324, im_ald q_SH .int 325), (325, im_il 2 326), (326, im_inv q_SH 11 146 3 329), (329, im_iinc 5 1 332), (332, im_go 293), (335, im_ret0e)]
set_option maxRecDepth 20000 in
theorem o_X11_starts_8 : ∀ q ∈ t_X11_starts_8, am_ok vwCl q_SH ξ (q_E ξ β xs L) q_EN q_KD q_ML (cX11_starts, 6, RX11, "starts", none, []) q.1 q.2 :=
  List.forall_mem_cons.mpr ⟨⟨mo_gi _ _ _ _, Or.inl (ok_gi (C := RX11) (T := TX11) (N := 93) (ci := 11) (k := 6) rfl inX11 (by decide) fl_X11_44 (by decide +kernel) (by decide +kernel))⟩,
  List.forall_mem_cons.mpr ⟨⟨mo_if2 _ _ _, Or.inl (ok_icmp_ge (off := 36) (by decide) (by decide +kernel))⟩,
  List.forall_mem_cons.mpr ⟨⟨mo_al _ _, Or.inl (ok_aload_n (k := 0) rfl (by decide +kernel))⟩,
  List.forall_mem_cons.mpr ⟨⟨mo_il _ _, Or.inl (ok_iload (by decide +kernel))⟩,
  List.forall_mem_cons.mpr ⟨⟨mo_il _ _, Or.inl (ok_iload_n (k := 3) rfl (by decide +kernel))⟩,
  List.forall_mem_cons.mpr ⟨⟨mo_inv _ _ _ _ _, Or.inr (Or.inl (ok_inv (T := TX11) (N := 93) rfl cw_X11_isKnownFact (by decide) (by decide) ml_X11_352 ci_X11_isKnownFact cv_X11_isKnownFact (show Cond.initialized (yX11_isKnownFact).cls ∈ am_ts from ci9_RX11) ⟨by decide +kernel, by decide +kernel, by decide +kernel⟩ rfl (by decide +kernel)))⟩,
  List.forall_mem_cons.mpr ⟨⟨mo_if1 _ _ _, Or.inl (ok_if_eq (off := 20) (by decide) (by decide +kernel))⟩,
  List.forall_mem_cons.mpr ⟨⟨mo_al _ _, Or.inl (ok_aload_n (k := 0) rfl (by decide +kernel))⟩,
  List.forall_mem_cons.mpr ⟨⟨mo_ic _ _, Or.inl (ok_bipush (n := 12) (v := 12) (by decide) (by decide +kernel))⟩,
  List.forall_mem_cons.mpr ⟨⟨mo_il _ _, Or.inl (ok_iload (by decide +kernel))⟩,
  List.forall_mem_cons.mpr ⟨⟨mo_bin _ _, Or.inl (ok_iadd (by decide +kernel))⟩,
  List.forall_mem_cons.mpr ⟨⟨mo_al _ _, Or.inl (ok_aload_n (k := 0) rfl (by decide +kernel))⟩,
  List.forall_mem_cons.mpr ⟨⟨mo_gr _ _ _ _, Or.inl (ok_gr (C := RX11) (T := TX11) (N := 93) (ci := 11) (k := 54) rfl inX11 (by decide) fl_X11_187 (by decide +kernel) (by decide +kernel))⟩,
  List.forall_mem_cons.mpr ⟨⟨mo_il _ _, Or.inl (ok_iload (by decide +kernel))⟩,
  List.forall_mem_cons.mpr ⟨⟨mo_ald _ _ _, Or.inl (ok_iald (by decide +kernel))⟩,
  List.forall_mem_cons.mpr ⟨⟨mo_il _ _, Or.inl (ok_iload_n (k := 2) rfl (by decide +kernel))⟩,
  List.forall_mem_cons.mpr ⟨⟨mo_inv _ _ _ _ _, Or.inr (Or.inl (ok_inv (T := TX11) (N := 93) rfl cw_X11_sorts (by decide) (by decide) ml_X11_361 ci_X11_sorts cv_X11_sorts (show Cond.initialized (yX11_sorts).cls ∈ am_ts from ci9_RX11) ⟨by decide +kernel, by decide +kernel, by decide +kernel⟩ rfl (by decide +kernel)))⟩,
  List.forall_mem_cons.mpr ⟨⟨mo_iinc _ _ _, Or.inl (ok_iinc (n := 1) (v := 1) (by decide) (by decide) (by decide +kernel))⟩,
  List.forall_mem_cons.mpr ⟨⟨mo_go _, Or.inl (ok_goto (off := (-39)) (by decide) (by decide +kernel))⟩,
  List.forall_mem_cons.mpr ⟨⟨mo_ret0e, Or.inr (Or.inr (ok_ret0 rfl (by decide +kernel)))⟩,
  fun _ h => absurd h List.not_mem_nil⟩⟩⟩⟩⟩⟩⟩⟩⟩⟩⟩⟩⟩⟩⟩⟩⟩⟩⟩⟩
def t_X11_starts : List (Nat × am_F) := t_X11_starts_0 ++ (t_X11_starts_1 ++ (t_X11_starts_2 ++ (t_X11_starts_3 ++ (t_X11_starts_4 ++ (t_X11_starts_5 ++ (t_X11_starts_6 ++ (t_X11_starts_7 ++ (t_X11_starts_8))))))))
theorem o_X11_starts : ∀ q ∈ t_X11_starts, am_ok vwCl q_SH ξ (q_E ξ β xs L) q_EN q_KD q_ML (cX11_starts, 6, RX11, "starts", none, []) q.1 q.2 := List.forall_mem_append.mpr ⟨o_X11_starts_0, List.forall_mem_append.mpr ⟨o_X11_starts_1, List.forall_mem_append.mpr ⟨o_X11_starts_2, List.forall_mem_append.mpr ⟨o_X11_starts_3, List.forall_mem_append.mpr ⟨o_X11_starts_4, List.forall_mem_append.mpr ⟨o_X11_starts_5, List.forall_mem_append.mpr ⟨o_X11_starts_6, List.forall_mem_append.mpr ⟨o_X11_starts_7, o_X11_starts_8⟩⟩⟩⟩⟩⟩⟩⟩
def t_X11_sorts_0 : List (Nat × am_F) := [(0, im_il 2 1), (1, im_il 3 2), (2, im_if2 ic_le 6 5), (5, im_ret0e), (6, im_al 0 7), (7, im_gi q_SH 11 73 10), (10, im_is 4 12), (12, im_il 4 14), (14, im_if1 ib_le 94 17), (17, im_al 0 18), (18, im_gr q_SH 11 75 21), (21, im_il 4 23), (23, im_ic 1 24), (24, im_bin (fun x y => x - y) 25), (25, im_ald q_SH .int 26), (26, im_il 2 27), (27, im_if2 ic_gt 56 30), (30, im_al 0 31), (31, im_gr q_SH 11 75 34), (34, im_il 4 36)]
set_option maxRecDepth 20000 in
theorem o_X11_sorts_0 : ∀ q ∈ t_X11_sorts_0, am_ok vwCl q_SH ξ (q_E ξ β xs L) q_EN q_KD q_ML (cX11_sorts, 5, RX11, "sorts", none, []) q.1 q.2 :=
  List.forall_mem_cons.mpr ⟨⟨mo_il _ _, Or.inl (ok_iload_n (k := 2) rfl (by decide +kernel))⟩,
  List.forall_mem_cons.mpr ⟨⟨mo_il _ _, Or.inl (ok_iload_n (k := 3) rfl (by decide +kernel))⟩,
  List.forall_mem_cons.mpr ⟨⟨mo_if2 _ _ _, Or.inl (ok_icmp_le (off := 4) (by decide) (by decide +kernel))⟩,
  List.forall_mem_cons.mpr ⟨⟨mo_ret0e, Or.inr (Or.inr (ok_ret0 rfl (by decide +kernel)))⟩,
  List.forall_mem_cons.mpr ⟨⟨mo_al _ _, Or.inl (ok_aload_n (k := 0) rfl (by decide +kernel))⟩,
  List.forall_mem_cons.mpr ⟨⟨mo_gi _ _ _ _, Or.inl (ok_gi (C := RX11) (T := TX11) (N := 93) (ci := 11) (k := 73) rfl inX11 (by decide) fl_X11_358 (by decide +kernel) (by decide +kernel))⟩,
  List.forall_mem_cons.mpr ⟨⟨mo_is _ _, Or.inl (ok_istore (by decide) (by decide +kernel))⟩,
  List.forall_mem_cons.mpr ⟨⟨mo_il _ _, Or.inl (ok_iload (by decide +kernel))⟩,
  List.forall_mem_cons.mpr ⟨⟨mo_if1 _ _ _, Or.inl (ok_if_le (off := 80) (by decide) (by decide +kernel))⟩,
  List.forall_mem_cons.mpr ⟨⟨mo_al _ _, Or.inl (ok_aload_n (k := 0) rfl (by decide +kernel))⟩,
  List.forall_mem_cons.mpr ⟨⟨mo_gr _ _ _ _, Or.inl (ok_gr (C := RX11) (T := TX11) (N := 93) (ci := 11) (k := 75) rfl inX11 (by decide) fl_X11_244 (by decide +kernel) (by decide +kernel))⟩,
  List.forall_mem_cons.mpr ⟨⟨mo_il _ _, Or.inl (ok_iload (by decide +kernel))⟩,
  List.forall_mem_cons.mpr ⟨⟨mo_ic _ _, Or.inl (ok_iconst (n := 1) (v := 1) (by decide) (by decide +kernel))⟩,
  List.forall_mem_cons.mpr ⟨⟨mo_bin _ _, Or.inl (ok_isub (by decide +kernel))⟩,
  List.forall_mem_cons.mpr ⟨⟨mo_ald _ _ _, Or.inl (ok_iald (by decide +kernel))⟩,
  List.forall_mem_cons.mpr ⟨⟨mo_il _ _, Or.inl (ok_iload_n (k := 2) rfl (by decide +kernel))⟩,
  List.forall_mem_cons.mpr ⟨⟨mo_if2 _ _ _, Or.inl (ok_icmp_gt (off := 29) (by decide) (by decide +kernel))⟩,
  List.forall_mem_cons.mpr ⟨⟨mo_al _ _, Or.inl (ok_aload_n (k := 0) rfl (by decide +kernel))⟩,
  List.forall_mem_cons.mpr ⟨⟨mo_gr _ _ _ _, Or.inl (ok_gr (C := RX11) (T := TX11) (N := 93) (ci := 11) (k := 75) rfl inX11 (by decide) fl_X11_244 (by decide +kernel) (by decide +kernel))⟩,
  List.forall_mem_cons.mpr ⟨⟨mo_il _ _, Or.inl (ok_iload (by decide +kernel))⟩,
  fun _ h => absurd h List.not_mem_nil⟩⟩⟩⟩⟩⟩⟩⟩⟩⟩⟩⟩⟩⟩⟩⟩⟩⟩⟩⟩
def t_X11_sorts_1 : List (Nat × am_F) := [(36, im_ic 1 37), (37, im_bin (fun x y => x - y) 38), (38, im_ald q_SH .int 39), (39, im_il 2 40), (40, im_if2 ic_ne 94 43), (43, im_al 0 44), (44, im_gr q_SH 11 74 47), (47, im_il 4 49), (49, im_ic 1 50), (50, im_bin (fun x y => x - y) 51), (51, im_ald q_SH .int 52), (52, im_il 1 53), (53, im_if2 ic_le 94 56), (56, im_al 0 57), (57, im_gr q_SH 11 74 60), (60, im_il 4 62), (62, im_al 0 63), (63, im_gr q_SH 11 74 66), (66, im_il 4 68), (68, im_ic 1 69)]
set_option maxRecDepth 20000 in
theorem o_X11_sorts_1 : ∀ q ∈ t_X11_sorts_1, am_ok vwCl q_SH ξ (q_E ξ β xs L) q_EN q_KD q_ML (cX11_sorts, 5, RX11, "sorts", none, []) q.1 q.2 :=
  List.forall_mem_cons.mpr ⟨⟨mo_ic _ _, Or.inl (ok_iconst (n := 1) (v := 1) (by decide) (by decide +kernel))⟩,
  List.forall_mem_cons.mpr ⟨⟨mo_bin _ _, Or.inl (ok_isub (by decide +kernel))⟩,
  List.forall_mem_cons.mpr ⟨⟨mo_ald _ _ _, Or.inl (ok_iald (by decide +kernel))⟩,
  List.forall_mem_cons.mpr ⟨⟨mo_il _ _, Or.inl (ok_iload_n (k := 2) rfl (by decide +kernel))⟩,
  List.forall_mem_cons.mpr ⟨⟨mo_if2 _ _ _, Or.inl (ok_icmp_ne (off := 54) (by decide) (by decide +kernel))⟩,
  List.forall_mem_cons.mpr ⟨⟨mo_al _ _, Or.inl (ok_aload_n (k := 0) rfl (by decide +kernel))⟩,
  List.forall_mem_cons.mpr ⟨⟨mo_gr _ _ _ _, Or.inl (ok_gr (C := RX11) (T := TX11) (N := 93) (ci := 11) (k := 74) rfl inX11 (by decide) fl_X11_241 (by decide +kernel) (by decide +kernel))⟩,
  List.forall_mem_cons.mpr ⟨⟨mo_il _ _, Or.inl (ok_iload (by decide +kernel))⟩,
  List.forall_mem_cons.mpr ⟨⟨mo_ic _ _, Or.inl (ok_iconst (n := 1) (v := 1) (by decide) (by decide +kernel))⟩,
  List.forall_mem_cons.mpr ⟨⟨mo_bin _ _, Or.inl (ok_isub (by decide +kernel))⟩,
  List.forall_mem_cons.mpr ⟨⟨mo_ald _ _ _, Or.inl (ok_iald (by decide +kernel))⟩,
  List.forall_mem_cons.mpr ⟨⟨mo_il _ _, Or.inl (ok_iload_n (k := 1) rfl (by decide +kernel))⟩,
  List.forall_mem_cons.mpr ⟨⟨mo_if2 _ _ _, Or.inl (ok_icmp_le (off := 41) (by decide) (by decide +kernel))⟩,
  List.forall_mem_cons.mpr ⟨⟨mo_al _ _, Or.inl (ok_aload_n (k := 0) rfl (by decide +kernel))⟩,
  List.forall_mem_cons.mpr ⟨⟨mo_gr _ _ _ _, Or.inl (ok_gr (C := RX11) (T := TX11) (N := 93) (ci := 11) (k := 74) rfl inX11 (by decide) fl_X11_241 (by decide +kernel) (by decide +kernel))⟩,
  List.forall_mem_cons.mpr ⟨⟨mo_il _ _, Or.inl (ok_iload (by decide +kernel))⟩,
  List.forall_mem_cons.mpr ⟨⟨mo_al _ _, Or.inl (ok_aload_n (k := 0) rfl (by decide +kernel))⟩,
  List.forall_mem_cons.mpr ⟨⟨mo_gr _ _ _ _, Or.inl (ok_gr (C := RX11) (T := TX11) (N := 93) (ci := 11) (k := 74) rfl inX11 (by decide) fl_X11_241 (by decide +kernel) (by decide +kernel))⟩,
  List.forall_mem_cons.mpr ⟨⟨mo_il _ _, Or.inl (ok_iload (by decide +kernel))⟩,
  List.forall_mem_cons.mpr ⟨⟨mo_ic _ _, Or.inl (ok_iconst (n := 1) (v := 1) (by decide) (by decide +kernel))⟩,
  fun _ h => absurd h List.not_mem_nil⟩⟩⟩⟩⟩⟩⟩⟩⟩⟩⟩⟩⟩⟩⟩⟩⟩⟩⟩⟩
def t_X11_sorts_2 : List (Nat × am_F) := [(69, im_bin (fun x y => x - y) 70), (70, im_ald q_SH .int 71), (71, im_ast q_SH .int (fun x => x) 72), (72, im_al 0 73), (73, im_gr q_SH 11 75 76), (76, im_il 4 78), (78, im_al 0 79), (79, im_gr q_SH 11 75 82), (82, im_il 4 84), (84, im_ic 1 85), (85, im_bin (fun x y => x - y) 86), (86, im_ald q_SH .int 87), (87, im_ast q_SH .int (fun x => x) 88), (88, im_iinc 4 (-1) 91), (91, im_go 12), (94, im_al 0 95), (95, im_gr q_SH 11 74 98), (98, im_il 4 100), (100, im_il 1 101), (101, im_ast q_SH .int (fun x => x) 102)]
set_option maxRecDepth 20000 in
theorem o_X11_sorts_2 : ∀ q ∈ t_X11_sorts_2, am_ok vwCl q_SH ξ (q_E ξ β xs L) q_EN q_KD q_ML (cX11_sorts, 5, RX11, "sorts", none, []) q.1 q.2 :=
  List.forall_mem_cons.mpr ⟨⟨mo_bin _ _, Or.inl (ok_isub (by decide +kernel))⟩,
  List.forall_mem_cons.mpr ⟨⟨mo_ald _ _ _, Or.inl (ok_iald (by decide +kernel))⟩,
  List.forall_mem_cons.mpr ⟨⟨mo_ast _ _ _ _, Or.inl (ok_iast (by decide +kernel))⟩,
  List.forall_mem_cons.mpr ⟨⟨mo_al _ _, Or.inl (ok_aload_n (k := 0) rfl (by decide +kernel))⟩,
  List.forall_mem_cons.mpr ⟨⟨mo_gr _ _ _ _, Or.inl (ok_gr (C := RX11) (T := TX11) (N := 93) (ci := 11) (k := 75) rfl inX11 (by decide) fl_X11_244 (by decide +kernel) (by decide +kernel))⟩,
  List.forall_mem_cons.mpr ⟨⟨mo_il _ _, Or.inl (ok_iload (by decide +kernel))⟩,
  List.forall_mem_cons.mpr ⟨⟨mo_al _ _, Or.inl (ok_aload_n (k := 0) rfl (by decide +kernel))⟩,
  List.forall_mem_cons.mpr ⟨⟨mo_gr _ _ _ _, Or.inl (ok_gr (C := RX11) (T := TX11) (N := 93) (ci := 11) (k := 75) rfl inX11 (by decide) fl_X11_244 (by decide +kernel) (by decide +kernel))⟩,
  List.forall_mem_cons.mpr ⟨⟨mo_il _ _, Or.inl (ok_iload (by decide +kernel))⟩,
  List.forall_mem_cons.mpr ⟨⟨mo_ic _ _, Or.inl (ok_iconst (n := 1) (v := 1) (by decide) (by decide +kernel))⟩,
  List.forall_mem_cons.mpr ⟨⟨mo_bin _ _, Or.inl (ok_isub (by decide +kernel))⟩,
  List.forall_mem_cons.mpr ⟨⟨mo_ald _ _ _, Or.inl (ok_iald (by decide +kernel))⟩,
  List.forall_mem_cons.mpr ⟨⟨mo_ast _ _ _ _, Or.inl (ok_iast (by decide +kernel))⟩,
  List.forall_mem_cons.mpr ⟨⟨mo_iinc _ _ _, Or.inl (ok_iinc (n := (-1)) (v := (-1)) (by decide) (by decide) (by decide +kernel))⟩,
  List.forall_mem_cons.mpr ⟨⟨mo_go _, Or.inl (ok_goto (off := (-79)) (by decide) (by decide +kernel))⟩,
  List.forall_mem_cons.mpr ⟨⟨mo_al _ _, Or.inl (ok_aload_n (k := 0) rfl (by decide +kernel))⟩,
  List.forall_mem_cons.mpr ⟨⟨mo_gr _ _ _ _, Or.inl (ok_gr (C := RX11) (T := TX11) (N := 93) (ci := 11) (k := 74) rfl inX11 (by decide) fl_X11_241 (by decide +kernel) (by decide +kernel))⟩,
  List.forall_mem_cons.mpr ⟨⟨mo_il _ _, Or.inl (ok_iload (by decide +kernel))⟩,
  List.forall_mem_cons.mpr ⟨⟨mo_il _ _, Or.inl (ok_iload_n (k := 1) rfl (by decide +kernel))⟩,
  List.forall_mem_cons.mpr ⟨⟨mo_ast _ _ _ _, Or.inl (ok_iast (by decide +kernel))⟩,
  fun _ h => absurd h List.not_mem_nil⟩⟩⟩⟩⟩⟩⟩⟩⟩⟩⟩⟩⟩⟩⟩⟩⟩⟩⟩⟩
def t_X11_sorts_3 : List (Nat × am_F) := [(102, im_al 0 103), (103, im_gr q_SH 11 75 106), (106, im_il 4 108), (108, im_il 2 109), (109, im_ast q_SH .int (fun x => x) 110), (110, im_al 0 111), (111, im_dup 112), (112, im_gi q_SH 11 73 115), (115, im_ic 1 116), (116, im_bin (fun x y => x + y) 117), (117, im_pi q_SH 11 73 120), (120, im_ret0e)]
set_option maxRecDepth 20000 in
theorem o_X11_sorts_3 : ∀ q ∈ t_X11_sorts_3, am_ok vwCl q_SH ξ (q_E ξ β xs L) q_EN q_KD q_ML (cX11_sorts, 5, RX11, "sorts", none, []) q.1 q.2 :=
  List.forall_mem_cons.mpr ⟨⟨mo_al _ _, Or.inl (ok_aload_n (k := 0) rfl (by decide +kernel))⟩,
  List.forall_mem_cons.mpr ⟨⟨mo_gr _ _ _ _, Or.inl (ok_gr (C := RX11) (T := TX11) (N := 93) (ci := 11) (k := 75) rfl inX11 (by decide) fl_X11_244 (by decide +kernel) (by decide +kernel))⟩,
  List.forall_mem_cons.mpr ⟨⟨mo_il _ _, Or.inl (ok_iload (by decide +kernel))⟩,
  List.forall_mem_cons.mpr ⟨⟨mo_il _ _, Or.inl (ok_iload_n (k := 2) rfl (by decide +kernel))⟩,
  List.forall_mem_cons.mpr ⟨⟨mo_ast _ _ _ _, Or.inl (ok_iast (by decide +kernel))⟩,
  List.forall_mem_cons.mpr ⟨⟨mo_al _ _, Or.inl (ok_aload_n (k := 0) rfl (by decide +kernel))⟩,
  List.forall_mem_cons.mpr ⟨⟨mo_dup _, Or.inl (ok_dup (by decide +kernel))⟩,
  List.forall_mem_cons.mpr ⟨⟨mo_gi _ _ _ _, Or.inl (ok_gi (C := RX11) (T := TX11) (N := 93) (ci := 11) (k := 73) rfl inX11 (by decide) fl_X11_358 (by decide +kernel) (by decide +kernel))⟩,
  List.forall_mem_cons.mpr ⟨⟨mo_ic _ _, Or.inl (ok_iconst (n := 1) (v := 1) (by decide) (by decide +kernel))⟩,
  List.forall_mem_cons.mpr ⟨⟨mo_bin _ _, Or.inl (ok_iadd (by decide +kernel))⟩,
  List.forall_mem_cons.mpr ⟨⟨mo_pi _ _ _ _, Or.inl (ok_pi (ty := .int) (C := RX11) (T := TX11) (N := 93) (ci := 11) (k := 73) rfl inX11 (by decide) fl_X11_358 (by decide +kernel) tyX11 tyX11_ok nmX11 (by decide +kernel) (by decide +kernel) (by decide +kernel))⟩,
  List.forall_mem_cons.mpr ⟨⟨mo_ret0e, Or.inr (Or.inr (ok_ret0 rfl (by decide +kernel)))⟩,
  fun _ h => absurd h List.not_mem_nil⟩⟩⟩⟩⟩⟩⟩⟩⟩⟩⟩⟩
def t_X11_sorts : List (Nat × am_F) := t_X11_sorts_0 ++ (t_X11_sorts_1 ++ (t_X11_sorts_2 ++ (t_X11_sorts_3)))
theorem o_X11_sorts : ∀ q ∈ t_X11_sorts, am_ok vwCl q_SH ξ (q_E ξ β xs L) q_EN q_KD q_ML (cX11_sorts, 5, RX11, "sorts", none, []) q.1 q.2 := List.forall_mem_append.mpr ⟨o_X11_sorts_0, List.forall_mem_append.mpr ⟨o_X11_sorts_1, List.forall_mem_append.mpr ⟨o_X11_sorts_2, o_X11_sorts_3⟩⟩⟩
end Tab

/-! ===== an expression, read downwards: a fault (its kind, its place), or its codes and the tokens behind it ===== -/
abbrev yx_C : Type := List (Int32 × Int32)
abbrev yx_R : Type := Sum (Nat × Nat) (yx_C × yt_L)
def yx_part (n : Nat) (E : yt_L → yx_R) (ts : yt_L) : yx_R :=
  if yt_hd ts = (4, 40) then (match E ts.tail with
    | .inl e => .inl e
    | .inr (c, r) => if yt_hd r = (4, 41) then .inr (c, r.tail) else .inl (1, yt_pl n r))
  else if (yt_hd ts).1 = 3 then (if 15 ≤ (yt_hd ts).2 ∧ (yt_hd ts).2 < 28 then .inr ([(nI 2, nI ((yt_hd ts).2 - 15))], ts.tail) else .inl (3, yt_pl n ts))
  else if (yt_hd ts).1 = 2 then .inr ([(nI 1, nI (yt_hd ts).2)], ts.tail)
  else .inl (if (yt_hd ts).1 = 5 then 2 else 1, yt_pl n ts)
/-- operands with signs between them, from the left -/
def yx_binL (op : yt_T → Nat) (S : yt_L → yx_R) : Nat → yx_C → yt_L → yx_R
  | 0, acc, ts => .inr (acc, ts)
  | f + 1, acc, ts => if op (yt_hd ts) = 0 then .inr (acc, ts) else (match S ts.tail with
    | .inl e => .inl e
    | .inr (c, r) => yx_binL op S f (acc ++ c ++ [(nI (op (yt_hd ts)), 0)]) r)
def yx_bin (op : yt_T → Nat) (S : yt_L → yx_R) (ts : yt_L) : yx_R := match S ts with
  | .inl e => .inl e
  | .inr (c, r) => yx_binL op S 500 c r
def yx_oP (t : yt_T) : Nat := if t = (4, 42) then 10 else if t = (4, 47) then 11 else 0
def yx_oS (t : yt_T) : Nat := if t = (4, 43) then 8 else if t = (4, 45) then 9 else 0
def yx_oC (t : yt_T) : Nat := if t = (4, 60) then 6 else if t = (4, 61) then 7 else 0
def yx_oB (t : yt_T) : Nat := if t = (3, 6) then 4 else 0
def yx_oE (t : yt_T) : Nat := if t = (3, 5) then 5 else 0
def yx_cmp (S : yt_L → yx_R) (ts : yt_L) : yx_R := match S ts with
  | .inl e => .inl e
  | .inr (c, r) => if yx_oC (yt_hd r) = 0 then .inr (c, r) else (match S r.tail with
    | .inl e => .inl e
    | .inr (c2, r2) => .inr (c ++ c2 ++ [(nI (yx_oC (yt_hd r)), 0)], r2))
def yx_not (n : Nat) (S : yt_L → yx_R) : Nat → yt_L → yx_R
  | 0, ts => if yt_hd ts = (3, 7) then .inl (2, yt_pl n ts) else yx_cmp S ts
  | m + 1, ts => if yt_hd ts = (3, 7) then (match yx_not n S m ts.tail with
    | .inl e => .inl e
    | .inr (c, r) => .inr (c ++ [(nI 3, 0)], r)) else yx_cmp S ts
def yx_prod (n : Nat) (E : yt_L → yx_R) : yt_L → yx_R := yx_bin yx_oP (yx_part n E)
def yx_sum (n : Nat) (E : yt_L → yx_R) : yt_L → yx_R := yx_bin yx_oS (yx_prod n E)
def yx_test (n : Nat) (E : yt_L → yx_R) : yt_L → yx_R := yx_not n (yx_sum n E) 6
def yx_both (n : Nat) (E : yt_L → yx_R) : yt_L → yx_R := yx_bin yx_oB (yx_test n E)
def yx_expr (n : Nat) (E : yt_L → yx_R) : yt_L → yx_R := yx_bin yx_oE (yx_both n E)
def yx_E (n : Nat) : Nat → yt_L → yx_R
  | 0, ts => .inl (if (yt_hd ts).1 = 2 ∨ (yt_hd ts).1 = 5 ∨ (yt_hd ts).1 = 3 ∨ yt_hd ts = (4, 40) then 2 else 1, yt_pl n ts)
  | m + 1, ts => yx_expr n (yx_E n m) ts
/-- what is read is behind: fewer tokens, no more codes than tokens; from any height the codes raise the pile by one, H at most -/
def yx_g (H : Nat) (x : yt_L → yx_R) : Prop := ∀ ts c r, x ts = .inr (c, r) → c.length + r.length ≤ ts.length ∧ r.length < ts.length ∧ (∀ y ∈ r, y ∈ ts) ∧ (∀ rest h, h + H ≤ 64 → a_gd rest (h + 1) = true → a_gd (c ++ rest) h = true)
theorem yx_g.up {H H' : Nat} {x : yt_L → yx_R} (h : yx_g H x) (hH : H ≤ H') : yx_g H' x := fun ts c r e => by
  obtain ⟨h1, h2, h3, h4⟩ := h ts c r e
  exact ⟨h1, h2, h3, fun rest k hk => h4 rest k (by omega)⟩
theorem yx_gd_push {v : Int32} {rest : yx_C} {h : Nat} (hh : h < 64) (hr : a_gd rest (h + 1) = true) : a_gd ((nI 1, v) :: rest) h = true := by
  unfold a_gd
  rw [if_pos (show (nI 1, v).1 = 1 from rfl), hr, Bool.and_true]
  exact Nat.ble_eq.mpr hh
theorem yx_gd_val {k : Nat} {rest : yx_C} {h : Nat} (hk : k < 13) (hh : h < 64) (hr : a_gd rest (h + 1) = true) : a_gd ((nI 2, nI k) :: rest) h = true := by
  unfold a_gd
  rw [if_neg (show ¬ (nI 2, nI k).1 = 1 from (by decide : ¬ nI 2 = 1)), if_pos (show (nI 2, nI k).1 = 2 from rfl), hr, Bool.and_true, Bool.and_eq_true]
  exact ⟨am_is_nI hk (by omega), Nat.ble_eq.mpr hh⟩
theorem yx_gd_not {rest : yx_C} {h : Nat} (hr : a_gd rest (h + 1) = true) : a_gd ((nI 3, 0) :: rest) (h + 1) = true := by
  unfold a_gd
  rw [if_neg (show ¬ (nI 3, (0 : Int32)).1 = 1 by decide), if_neg (show ¬ (nI 3, (0 : Int32)).1 = 2 by decide), if_pos (show (nI 3, (0 : Int32)).1 = 3 from rfl), hr, Bool.and_true]
  exact Nat.ble_eq.mpr (by omega)
theorem yx_gd_op {o : Nat} (ho : 4 ≤ o ∧ o ≤ 11) {rest : yx_C} {h : Nat} (hr : a_gd rest (h + 1) = true) : a_gd ((nI o, 0) :: rest) (h + 2) = true := by
  have e : ∀ k : Nat, k < 4 → ¬ nI o = nI k := fun k hk q => by
    have := nI_inj2 (by omega) (by omega) q
    omega
  unfold a_gd
  rw [if_neg (show ¬ (nI o, (0 : Int32)).1 = 1 from e 1 (by decide)), if_neg (show ¬ (nI o, (0 : Int32)).1 = 2 from e 2 (by decide)), if_neg (show ¬ (nI o, (0 : Int32)).1 = 3 from e 3 (by decide)), show h + 2 - 1 = h + 1 from rfl, hr, Bool.and_true]
  exact Nat.ble_eq.mpr (by omega)
theorem yx_part_g {n H : Nat} {E : yt_L → yx_R} (hE : yx_g H E) (hH : 1 ≤ H) : yx_g H (yx_part n E) := fun ts c r e => by
  unfold yx_part at e
  by_cases h1 : yt_hd ts = (4, 40)
  · rw [if_pos h1] at e
    have l1 := yt_tl_len h1 (by decide)
    cases hx : E ts.tail with
    | inl z => rw [hx] at e; cases e
    | inr z =>
      obtain ⟨c1, r1⟩ := z
      rw [hx] at e
      dsimp only at e
      by_cases h2 : yt_hd r1 = (4, 41)
      · rw [if_pos h2] at e
        obtain ⟨rfl, rfl⟩ := Prod.mk.inj (Sum.inr.inj e)
        obtain ⟨g1, g2, g3, g4⟩ := hE _ _ _ hx
        have l2 := yt_tl_len h2 (by decide)
        exact ⟨by omega, by omega, fun y hy => List.mem_of_mem_tail (g3 y (List.mem_of_mem_tail hy)), g4⟩
      · rw [if_neg h2] at e
        cases e
  · rw [if_neg h1] at e
    by_cases h2 : (yt_hd ts).1 = 3
    · rw [if_pos h2] at e
      have l1 := yt_tl_len (ts := ts) rfl (by rw [h2]; decide)
      by_cases h3 : 15 ≤ (yt_hd ts).2 ∧ (yt_hd ts).2 < 28
      · rw [if_pos h3] at e
        obtain ⟨rfl, rfl⟩ := Prod.mk.inj (Sum.inr.inj e)
        exact ⟨by simp only [List.length_singleton]; omega, by omega, fun y hy => List.mem_of_mem_tail hy, fun rest h hh hr => yx_gd_val (by omega) (by omega) hr⟩
      · rw [if_neg h3] at e
        cases e
    · rw [if_neg h2] at e
      by_cases h3 : (yt_hd ts).1 = 2
      · rw [if_pos h3] at e
        have l1 := yt_tl_len (ts := ts) rfl (by rw [h3]; decide)
        obtain ⟨rfl, rfl⟩ := Prod.mk.inj (Sum.inr.inj e)
        exact ⟨by simp only [List.length_singleton]; omega, by omega, fun y hy => List.mem_of_mem_tail hy, fun rest h hh hr => yx_gd_push (by omega) hr⟩
      · rw [if_neg h3] at e
        cases e
theorem yx_binL_g {op : yt_T → Nat} (hop : ∀ t, op t ≠ 0 → 4 ≤ op t ∧ op t ≤ 11 ∧ t.1 ≠ 0) {H : Nat} {S : yt_L → yx_R} (hS : yx_g H S) : ∀ f acc ts c r, yx_binL op S f acc ts = .inr (c, r) → c.length + r.length ≤ acc.length + ts.length ∧ r.length ≤ ts.length ∧ (∀ y ∈ r, y ∈ ts) ∧
    ((∀ rest h, h + (H + 1) ≤ 64 → a_gd rest (h + 1) = true → a_gd (acc ++ rest) h = true) → ∀ rest h, h + (H + 1) ≤ 64 → a_gd rest (h + 1) = true → a_gd (c ++ rest) h = true)
  | 0, acc, ts, c, r, e => by
    unfold yx_binL at e
    obtain ⟨rfl, rfl⟩ := Prod.mk.inj (Sum.inr.inj e)
    exact ⟨Nat.le_refl _, Nat.le_refl _, fun y hy => hy, fun h => h⟩
  | f + 1, acc, ts, c, r, e => by
    unfold yx_binL at e
    by_cases h1 : op (yt_hd ts) = 0
    · rw [if_pos h1] at e
      obtain ⟨rfl, rfl⟩ := Prod.mk.inj (Sum.inr.inj e)
      exact ⟨Nat.le_refl _, Nat.le_refl _, fun y hy => hy, fun h => h⟩
    · rw [if_neg h1] at e
      obtain ⟨o1, o2, o3⟩ := hop _ h1
      have l1 := yt_tl_len (ts := ts) rfl o3
      cases hx : S ts.tail with
      | inl z => rw [hx] at e; cases e
      | inr z =>
        obtain ⟨c1, r1⟩ := z
        rw [hx] at e
        dsimp only at e
        obtain ⟨g1, g2, g3, g4⟩ := hS _ _ _ hx
        obtain ⟨k1, k2, k3, k4⟩ := yx_binL_g hop hS f _ _ _ _ e
        simp only [List.length_append, List.length_singleton] at k1
        refine ⟨by omega, by omega, fun y hy => List.mem_of_mem_tail (g3 y (k3 y hy)), fun hacc => k4 (fun rest h hh hr => ?_)⟩
        rw [List.append_assoc, List.append_assoc]
        refine hacc _ h hh (g4 _ (h + 1) (by omega) ?_)
        exact yx_gd_op ⟨o1, o2⟩ hr
theorem yx_bin_g {op : yt_T → Nat} (hop : ∀ t, op t ≠ 0 → 4 ≤ op t ∧ op t ≤ 11 ∧ t.1 ≠ 0) {H : Nat} {S : yt_L → yx_R} (hS : yx_g H S) : yx_g (H + 1) (yx_bin op S) := fun ts c r e => by
  unfold yx_bin at e
  cases hx : S ts with
  | inl z => rw [hx] at e; cases e
  | inr z =>
    obtain ⟨c1, r1⟩ := z
    rw [hx] at e
    dsimp only at e
    obtain ⟨g1, g2, g3, g4⟩ := hS _ _ _ hx
    obtain ⟨k1, k2, k3, k4⟩ := yx_binL_g hop hS 500 _ _ _ _ e
    exact ⟨by omega, by omega, fun y hy => g3 y (k3 y hy), fun rest h hh hr => k4 (fun rest h hh hr => g4 rest h (by omega) hr) rest h hh hr⟩
theorem yx_oC_op (t : yt_T) (h : yx_oC t ≠ 0) : 4 ≤ yx_oC t ∧ yx_oC t ≤ 11 ∧ t.1 ≠ 0 := by
  unfold yx_oC at h ⊢
  by_cases h1 : t = (4, 60)
  · rw [if_pos h1, h1]; decide
  · rw [if_neg h1] at h ⊢
    by_cases h2 : t = (4, 61)
    · rw [if_pos h2, h2]; decide
    · rw [if_neg h2] at h
      exact absurd rfl h
theorem yx_oP_op (t : yt_T) (h : yx_oP t ≠ 0) : 4 ≤ yx_oP t ∧ yx_oP t ≤ 11 ∧ t.1 ≠ 0 := by
  unfold yx_oP at h ⊢
  by_cases h1 : t = (4, 42)
  · rw [if_pos h1, h1]; decide
  · rw [if_neg h1] at h ⊢
    by_cases h2 : t = (4, 47)
    · rw [if_pos h2, h2]; decide
    · rw [if_neg h2] at h
      exact absurd rfl h
theorem yx_oS_op (t : yt_T) (h : yx_oS t ≠ 0) : 4 ≤ yx_oS t ∧ yx_oS t ≤ 11 ∧ t.1 ≠ 0 := by
  unfold yx_oS at h ⊢
  by_cases h1 : t = (4, 43)
  · rw [if_pos h1, h1]; decide
  · rw [if_neg h1] at h ⊢
    by_cases h2 : t = (4, 45)
    · rw [if_pos h2, h2]; decide
    · rw [if_neg h2] at h
      exact absurd rfl h
theorem yx_oB_op (t : yt_T) (h : yx_oB t ≠ 0) : 4 ≤ yx_oB t ∧ yx_oB t ≤ 11 ∧ t.1 ≠ 0 := by
  unfold yx_oB at h ⊢
  by_cases h1 : t = (3, 6)
  · rw [if_pos h1, h1]; decide
  · rw [if_neg h1] at h
    exact absurd rfl h
theorem yx_oE_op (t : yt_T) (h : yx_oE t ≠ 0) : 4 ≤ yx_oE t ∧ yx_oE t ≤ 11 ∧ t.1 ≠ 0 := by
  unfold yx_oE at h ⊢
  by_cases h1 : t = (3, 5)
  · rw [if_pos h1, h1]; decide
  · rw [if_neg h1] at h
    exact absurd rfl h
theorem yx_cmp_g {H : Nat} {S : yt_L → yx_R} (hS : yx_g H S) : yx_g (H + 1) (yx_cmp S) := fun ts c r e => by
  unfold yx_cmp at e
  cases hx : S ts with
  | inl z => rw [hx] at e; cases e
  | inr z =>
    obtain ⟨c1, r1⟩ := z
    rw [hx] at e
    dsimp only at e
    obtain ⟨g1, g2, g3, g4⟩ := hS _ _ _ hx
    by_cases h1 : yx_oC (yt_hd r1) = 0
    · rw [if_pos h1] at e
      obtain ⟨rfl, rfl⟩ := Prod.mk.inj (Sum.inr.inj e)
      exact ⟨g1, g2, g3, fun rest h hh hr => g4 rest h (by omega) hr⟩
    · rw [if_neg h1] at e
      obtain ⟨o1, o2, o3⟩ := yx_oC_op _ h1
      have l1 := yt_tl_len (ts := r1) rfl o3
      cases hy : S r1.tail with
      | inl z => rw [hy] at e; cases e
      | inr z =>
        obtain ⟨c2, r2⟩ := z
        rw [hy] at e
        dsimp only at e
        obtain ⟨rfl, rfl⟩ := Prod.mk.inj (Sum.inr.inj e)
        obtain ⟨k1, k2, k3, k4⟩ := hS _ _ _ hy
        refine ⟨?_, by omega, fun y hy => g3 y (List.mem_of_mem_tail (k3 y hy)), fun rest h hh hr => ?_⟩
        · simp only [List.length_append, List.length_singleton]
          omega
        · rw [List.append_assoc, List.append_assoc]
          exact g4 _ h (by omega) (k4 _ (h + 1) (by omega) (yx_gd_op ⟨o1, o2⟩ hr))
theorem yx_not_g {n H : Nat} {S : yt_L → yx_R} (hS : yx_g H S) : ∀ m, yx_g (H + 1) (yx_not n S m)
  | 0, ts, c, r, e => by
    unfold yx_not at e
    by_cases h1 : yt_hd ts = (3, 7)
    · rw [if_pos h1] at e; cases e
    · rw [if_neg h1] at e
      exact yx_cmp_g hS ts c r e
  | m + 1, ts, c, r, e => by
    unfold yx_not at e
    by_cases h1 : yt_hd ts = (3, 7)
    · rw [if_pos h1] at e
      have l1 := yt_tl_len h1 (by decide)
      cases hx : yx_not n S m ts.tail with
      | inl z => rw [hx] at e; cases e
      | inr z =>
        obtain ⟨c1, r1⟩ := z
        rw [hx] at e
        dsimp only at e
        obtain ⟨rfl, rfl⟩ := Prod.mk.inj (Sum.inr.inj e)
        obtain ⟨g1, g2, g3, g4⟩ := yx_not_g hS m _ _ _ hx
        refine ⟨?_, by omega, fun y hy => List.mem_of_mem_tail (g3 y hy), fun rest h hh hr => ?_⟩
        · simp only [List.length_append, List.length_singleton]
          omega
        · rw [List.append_assoc]
          exact g4 _ h hh (yx_gd_not hr)
    · rw [if_neg h1] at e
      exact yx_cmp_g hS ts c r e
theorem yx_expr_g {n H : Nat} {E : yt_L → yx_R} (hE : yx_g H E) (hH : 1 ≤ H) : yx_g (H + 5) (yx_expr n E) :=
  yx_bin_g yx_oE_op (yx_bin_g yx_oB_op (yx_not_g (yx_bin_g yx_oS_op (yx_bin_g yx_oP_op (yx_part_g hE hH))) 6))
theorem yx_E_g {n : Nat} : ∀ m, yx_g (1 + 5 * m) (yx_E n m)
  | 0, ts, c, r, e => by cases e
  | m + 1, ts, c, r, e => by
    have h := yx_expr_g (n := n) (yx_E_g (n := n) m) (by omega) ts c r e
    rw [show 1 + 5 * (m + 1) = 1 + 5 * m + 5 by omega]
    exact h
/-- the codes of an expression run -/
theorem yx_E_gd {n : Nat} {ts r : yt_L} {c : yx_C} (h : yx_E n 6 ts = .inr (c, r)) : a_gd c 0 = true := by
  have := (yx_E_g 6 ts c r h).2.2.2 [] 0 (by decide) rfl
  rw [List.append_nil] at this
  exact this

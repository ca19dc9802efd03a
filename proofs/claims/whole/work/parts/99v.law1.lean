/-! ===== the law: what a guarded call leaves ===== -/
def yl_U (t : Nat) (Wp : w_T → Prop) (e : Nat) (I : a_F) (J : Nat → Nat → Int64) (x : Int64) : am_O → am_H → Prop := fun o h => ∃ G' I' J', o = .inl (some (.int (nI t))) ∧ h = (G', I', J') ∧ q_RT G' ∧ f_c I I' ∧ f_c J J' ∧ (∀ w', Wp w' → ∃ e', e' ≤ e + 1 ∧ c_I e' w' G' I' J') ∧ (t = 0 → J' 117 0 = x)
theorem c_I.RT {e : Nat} {w : w_T} {G : am_G} {I : a_F} {J : Nat → Nat → Int64} (h : c_I e w G I J) : q_RT G := by
  obtain ⟨j, hL, -⟩ := h
  exact hL.2.1
theorem c_I.out {e : Nat} {w : w_T} {G : am_G} {I : a_F} {J : Nat → Nat → Int64} (h : c_I e w G I J) (x : Int64) : c_I e w G I (am_u J 117 0 x) := by
  obtain ⟨j, h1, h2, h3, h6, h7, h8⟩ := h
  exact ⟨j, h1, h2, h3, h6, h7.keep (fun _ _ _ => rfl) (am_u_ne (Or.inl (by decide))), h8⟩
def yl_b (x : Int32) : Int64 := if x = 0 then 0 else 1
section Law1
variable {β : Bool} {xs : Nat → Int32} {L : Nat} {G : am_G} {I : a_F} {J : Nat → Nat → Int64}
theorem yl_x {d k pc x : Nat} {ls : List Value} {Q : am_O → am_H → Prop} {h' : am_H} {y : Nat × Nat} (h : q_HD k pc x = some y) (H : q_W β xs L d k y.1 (am_set ls y.2 (.retAddr 0)) [] h' Q) : q_X β xs L d k pc ls Q x h' := by
  unfold q_X
  rw [h]
  exact H
theorem yl_w {d d' K : Nat} {ls : List Value} {t t' : Nat} {val : Int32} {w' : w_T} {e : Nat} {E : Nat → am_G → (Nat → Nat → Int32) → (Nat → Nat → Int64) → Prop} (hw : q_W β xs L d K 0 ls [] (G, I, J) (k_T t w' e I J val)) (hd : d ≤ d') (ht : t = 0 → t' = 0) (ht2 : t ≠ 0 → t' ≠ 0)
    (hE : t ≠ 0 → ∀ G1 I1 J1, q_RT G1 → yl_U t' (fun z => z = w') e I J val.toInt64 (.inl (some (.int (nI t')))) (G1, I1, J1) → E t G1 I1 J1) :
    q_W β xs L d' K 0 ls [] (G, I, J) (q_Ri (fun y1 G1 I1 J1 => am_is 0 1 = true ∧ yl_U t' (fun z => z = w') e I J val.toInt64 (.inl (some (.int 0))) (G1, I1, am_u J1 117 (0 : Int32).toNatClampNeg y1.toInt64)) E) := by
  refine q_useR hw hd (fun o h' hq => ?_)
  obtain ⟨ho, e', G1, I1, J1, he, rfl, hf, hj, hC⟩ := hq
  by_cases h0 : t = 0
  · rw [if_pos h0] at ho
    subst ho
    refine ⟨rfl, G1, I1, _, by rw [ht h0]; rfl, rfl, hC.RT, hf, hj.up _ _ (Or.inr (Nat.le_refl _)), fun w hw => ⟨e', he, by rw [hw]; exact hC.out _⟩, fun _ => am_u_same⟩
  · rw [if_neg h0] at ho
    subst ho
    exact hE h0 G1 I1 J1 hC.RT ⟨G1, I1, J1, rfl, rfl, hC.RT, hf, hj, fun w hw => ⟨e', he, by rw [hw]; exact hC⟩, fun z => absurd z (ht2 h0)⟩
theorem yl_wb {d d' K : Nat} {ls : List Value} {t : Nat} {val : Int32} {w' : w_T} {e : Nat} {E : Nat → am_G → (Nat → Nat → Int32) → (Nat → Nat → Int64) → Prop} {A : Int32 → am_G → (Nat → Nat → Int32) → (Nat → Nat → Int64) → Prop} (hw : q_W β xs L d K 0 ls [] (G, I, J) (k_T t w' e I J val)) (hd : d ≤ d')
    (hA : t = 0 → ∀ G1 I1 J1, q_RT G1 → yl_U 0 (fun z => z = w') e I J (yl_b val) (.inl (some (.int 0))) (G1, I1, am_u J1 117 0 (yl_b val)) → A val G1 I1 J1)
    (hE : t ≠ 0 → ∀ G1 I1 J1, q_RT G1 → yl_U t (fun z => z = w') e I J (yl_b val) (.inl (some (.int (nI t)))) (G1, I1, J1) → E t G1 I1 J1) :
    q_W β xs L d' K 0 ls [] (G, I, J) (q_Ri A E) := by
  refine q_useR hw hd (fun o h' hq => ?_)
  obtain ⟨ho, e', G1, I1, J1, he, rfl, hf, hj, hC⟩ := hq
  by_cases h0 : t = 0
  · rw [if_pos h0] at ho
    subst ho
    exact hA h0 G1 I1 J1 hC.RT ⟨G1, I1, _, rfl, rfl, hC.RT, hf, hj.up _ _ (Or.inr (Nat.le_refl _)), fun w hw => ⟨e', he, by rw [hw]; exact hC.out _⟩, fun _ => am_u_same⟩
  · rw [if_neg h0] at ho
    subst ho
    exact hE h0 G1 I1 J1 hC.RT ⟨G1, I1, J1, rfl, rfl, hC.RT, hf, hj, fun w hw => ⟨e', he, by rw [hw]; exact hC⟩, fun z => absurd z h0⟩
theorem a_bt_c (b c : Bool) : a_bt b c = 0 ∨ a_bt b c = 1 ∨ a_bt b c = 2 := by
  cases b <;> cases c <;> simp [a_bt]
theorem o_fact_c (x1 x2 x3 x4 x5 : Int32) (w : w_T) : (o_fact x1 x2 x3 x4 x5 w).1 = 0 ∨ (o_fact x1 x2 x3 x4 x5 w).1 = 1 := by
  obtain ⟨⟨nl, nq, np, nf, na, tn, tp⟩, tb, fp, D⟩ := w
  unfold o_fact
  dsimp only
  repeat' split
  all_goals simp
theorem u_fact {d e : Nat} {w : w_T} (hC : c_I e w G I J) (hw : w_O w) (x1 x2 x3 x4 x5 : Int32) : q_W β xs L (d + 1 + 1) 183 0 [.ref 0, .int x1, .int x2, .int x3, .int x4, .int x5, .ref 117, .retAddr 0] [] (G, I, J) (yl_U (o_fact x1 x2 x3 x4 x5 w).1 (fun z => z = (o_fact x1 x2 x3 x4 x5 w).2.2) e I J (o_fact x1 x2 x3 x4 x5 w).2.1.toInt64) := by
  refine g_183_0 hC.RT _ _ _ _ _ (yl_w (k_fact (d := d) hC hw x1 x2 x3 x4 x5) (by omega) id id (fun ht G1 I1 J1 hR1 hU => ?_))
  have h1 := (o_fact_c x1 x2 x3 x4 x5 w).resolve_left ht
  rw [h1] at hU ⊢
  exact yl_x rfl (g_183_21 hR1 _ _ _ _ _ hU)
theorem o_also_c (x1 x2 : Int32) (w : w_T) : (o_also x1 x2 w).1 = 0 ∨ (o_also x1 x2 w).1 = 1 := by
  obtain ⟨⟨nl, nq, np, nf, na, tn, tp⟩, tb, fp, D⟩ := w
  unfold o_also
  dsimp only
  repeat' split
  all_goals simp
theorem u_also {d e : Nat} {w : w_T} (hC : c_I e w G I J) (hw : w_O w) (x1 x2 : Int32) : q_W β xs L (d + 1 + 1) 184 0 [.ref 0, .int x1, .int x2, .ref 117, .retAddr 0] [] (G, I, J) (yl_U (o_also x1 x2 w).1 (fun z => z = (o_also x1 x2 w).2.2) e I J (o_also x1 x2 w).2.1.toInt64) := by
  refine g_184_0 hC.RT _ _ (yl_w (k_also (d := d) hC hw x1 x2) (by omega) id id (fun ht G1 I1 J1 hR1 hU => ?_))
  have h1 := (o_also_c x1 x2 w).resolve_left ht
  rw [h1] at hU ⊢
  exact yl_x rfl (g_184_15 hR1 _ _ hU)
theorem o_landOf_c (x1 x2 x3 : Int32) (w : w_T) : (o_landOf x1 x2 x3 w).1 = 0 ∨ (o_landOf x1 x2 x3 w).1 = 1 ∨ (o_landOf x1 x2 x3 w).1 = 2 := by
  obtain ⟨⟨nl, nq, np, nf, na, tn, tp⟩, tb, fp, D⟩ := w
  unfold o_landOf
  dsimp only
  repeat' split
  all_goals first
    | exact a_bt_c _ _
    | simp
theorem u_landOf {d e : Nat} {w : w_T} (hC : c_I e w G I J) (hw : w_O w) (x1 x2 x3 : Int32) : q_W β xs L (d + 2 + 1) 189 0 [.ref 0, .int x1, .int x2, .int x3, .ref 117, .retAddr 0] [] (G, I, J) (yl_U (o_landOf x1 x2 x3 w).1 (fun z => z = w) e I J (o_landOf x1 x2 x3 w).2.toInt64) := by
  refine g_189_0 hC.RT _ _ _ (yl_w (k_landOf (d := d) hC hw x1 x2 x3) (by omega) id id (fun ht G1 I1 J1 hR1 hU => ?_))
  rcases (o_landOf_c x1 x2 x3 w).resolve_left ht with h1 | h1
  · rw [h1] at hU ⊢
    exact yl_x rfl (g_189_17 hR1 _ _ _ hU)
  · rw [h1] at hU ⊢
    exact yl_x rfl (g_189_21 hR1 _ _ _ hU)
theorem o_ways_c (x1 x2 : Int32) (w : w_T) : (o_ways x1 x2 w).1 = 0 ∨ (o_ways x1 x2 w).1 = 1 ∨ (o_ways x1 x2 w).1 = 2 := by
  obtain ⟨⟨nl, nq, np, nf, na, tn, tp⟩, tb, fp, D⟩ := w
  unfold o_ways
  dsimp only
  repeat' split
  all_goals first
    | exact a_bt_c _ _
    | simp
theorem u_ways {d e : Nat} {w : w_T} (hC : c_I e w G I J) (hw : w_O w) (x1 x2 : Int32) : q_W β xs L (d + 2 + 1) 190 0 [.ref 0, .int x1, .int x2, .ref 117, .retAddr 0] [] (G, I, J) (yl_U (o_ways x1 x2 w).1 (fun z => z = w) e I J (o_ways x1 x2 w).2.toInt64) := by
  refine g_190_0 hC.RT _ _ (yl_w (k_waysQ (d := d) hC hw x1 x2) (by omega) id id (fun ht G1 I1 J1 hR1 hU => ?_))
  rcases (o_ways_c x1 x2 w).resolve_left ht with h1 | h1
  · rw [h1] at hU ⊢
    exact yl_x rfl (g_190_15 hR1 _ _ hU)
  · rw [h1] at hU ⊢
    exact yl_x rfl (g_190_19 hR1 _ _ hU)
theorem o_bel_c (x1 x2 x3 x4 : Int32) (w : w_T) : (o_bel x1 x2 x3 x4 w).1 = 0 ∨ (o_bel x1 x2 x3 x4 w).1 = 1 ∨ (o_bel x1 x2 x3 x4 w).1 = 2 := by
  obtain ⟨⟨nl, nq, np, nf, na, tn, tp⟩, tb, fp, D⟩ := w
  unfold o_bel
  dsimp only
  repeat' split
  all_goals first
    | exact a_bt_c _ _
    | simp
theorem u_bel {d e : Nat} {w : w_T} (hC : c_I e w G I J) (hw : w_O w) (x1 x2 x3 x4 : Int32) : q_W β xs L (d + 8 + 1) 191 0 [.ref 0, .int x1, .int x2, .int x3, .int x4, .ref 117, .retAddr 0] [] (G, I, J) (yl_U (o_bel x1 x2 x3 x4 w).1 (fun z => z = w) e I J (o_bel x1 x2 x3 x4 w).2.toInt64) := by
  refine g_191_0 hC.RT _ _ _ _ (yl_w (k_bel (d := d) hC hw x1 x2 x3 x4) (by omega) id id (fun ht G1 I1 J1 hR1 hU => ?_))
  rcases (o_bel_c x1 x2 x3 x4 w).resolve_left ht with h1 | h1
  · rw [h1] at hU ⊢
    exact yl_x rfl (g_191_19 hR1 _ _ _ _ hU)
  · rw [h1] at hU ⊢
    exact yl_x rfl (g_191_23 hR1 _ _ _ _ hU)
theorem o_says_c (x1 x2 x3 x4 : Int32) (w : w_T) : (o_says x1 x2 x3 x4 w).1 = 0 ∨ (o_says x1 x2 x3 x4 w).1 = 1 ∨ (o_says x1 x2 x3 x4 w).1 = 2 := by
  obtain ⟨⟨nl, nq, np, nf, na, tn, tp⟩, tb, fp, D⟩ := w
  unfold o_says
  dsimp only
  repeat' split
  all_goals first
    | exact a_bt_c _ _
    | simp
theorem u_says {d e : Nat} {w : w_T} (hC : c_I e w G I J) (hw : w_O w) (x1 x2 x3 x4 : Int32) : q_W β xs L (d + 8 + 1) 192 0 [.ref 0, .int x1, .int x2, .int x3, .int x4, .ref 117, .retAddr 0] [] (G, I, J) (yl_U (o_says x1 x2 x3 x4 w).1 (fun z => z = w) e I J (o_says x1 x2 x3 x4 w).2.toInt64) := by
  refine g_192_0 hC.RT _ _ _ _ (yl_w (k_says (d := d) hC hw x1 x2 x3 x4) (by omega) id id (fun ht G1 I1 J1 hR1 hU => ?_))
  rcases (o_says_c x1 x2 x3 x4 w).resolve_left ht with h1 | h1
  · rw [h1] at hU ⊢
    exact yl_x rfl (g_192_19 hR1 _ _ _ _ hU)
  · rw [h1] at hU ⊢
    exact yl_x rfl (g_192_23 hR1 _ _ _ _ hU)
theorem o_set_c (x1 x2 x3 x4 : Int32) (w : w_T) : (o_set x1 x2 x3 x4 w).1 = 0 ∨ (o_set x1 x2 x3 x4 w).1 = 1 ∨ (o_set x1 x2 x3 x4 w).1 = 2 := by
  obtain ⟨⟨nl, nq, np, nf, na, tn, tp⟩, tb, fp, D⟩ := w
  unfold o_set
  dsimp only
  repeat' split
  all_goals first
    | exact a_bt_c _ _
    | simp
theorem u_set {d e : Nat} {w : w_T} (hC : c_I e w G I J) (hw : w_O w) (x1 x2 x3 x4 : Int32) : q_W β xs L (d + 8 + 1) 193 0 [.ref 0, .int x1, .int x2, .int x3, .int x4, .ref 117, .retAddr 0] [] (G, I, J) (yl_U (o_set x1 x2 x3 x4 w).1 (fun z => z = w) e I J (o_set x1 x2 x3 x4 w).2.toInt64) := by
  refine g_193_0 hC.RT _ _ _ _ (yl_w (k_settles (d := d) hC hw x1 x2 x3 x4) (by omega) id id (fun ht G1 I1 J1 hR1 hU => ?_))
  rcases (o_set_c x1 x2 x3 x4 w).resolve_left ht with h1 | h1
  · rw [h1] at hU ⊢
    exact yl_x rfl (g_193_19 hR1 _ _ _ _ hU)
  · rw [h1] at hU ⊢
    exact yl_x rfl (g_193_23 hR1 _ _ _ _ hU)
theorem o_lands_c (x1 x2 x3 x4 : Int32) (w : w_T) : (o_lands x1 x2 x3 x4 w).1 = 0 ∨ (o_lands x1 x2 x3 x4 w).1 = 1 ∨ (o_lands x1 x2 x3 x4 w).1 = 2 := by
  obtain ⟨⟨nl, nq, np, nf, na, tn, tp⟩, tb, fp, D⟩ := w
  unfold o_lands
  dsimp only
  repeat' split
  all_goals first
    | exact a_bt_c _ _
    | simp
theorem u_lands {d e : Nat} {w : w_T} (hC : c_I e w G I J) (hw : w_O w) (x1 x2 x3 x4 : Int32) : q_W β xs L (d + 6 + 1) 194 0 [.ref 0, .int x1, .int x2, .int x3, .int x4, .ref 117, .retAddr 0] [] (G, I, J) (yl_U (o_lands x1 x2 x3 x4 w).1 (fun z => z = w) e I J (o_lands x1 x2 x3 x4 w).2.toInt64) := by
  refine g_194_0 hC.RT _ _ _ _ (yl_w (k_lands (d := d) hC hw x1 x2 x3 x4) (by omega) id id (fun ht G1 I1 J1 hR1 hU => ?_))
  rcases (o_lands_c x1 x2 x3 x4 w).resolve_left ht with h1 | h1
  · rw [h1] at hU ⊢
    exact yl_x rfl (g_194_19 hR1 _ _ _ _ hU)
  · rw [h1] at hU ⊢
    exact yl_x rfl (g_194_23 hR1 _ _ _ _ hU)
theorem o_chain_c (x1 x2 x3 x4 x5 x6 : Int32) (w : w_T) : (o_chain x1 x2 x3 x4 x5 x6 w).1 = 0 ∨ (o_chain x1 x2 x3 x4 x5 x6 w).1 = 1 ∨ (o_chain x1 x2 x3 x4 x5 x6 w).1 = 2 := by
  obtain ⟨⟨nl, nq, np, nf, na, tn, tp⟩, tb, fp, D⟩ := w
  unfold o_chain
  dsimp only
  repeat' split
  all_goals first
    | exact a_bt_c _ _
    | simp
theorem u_chain {d e : Nat} {w : w_T} (hC : c_I e w G I J) (hw : w_O w) (x1 x2 x3 x4 x5 x6 : Int32) : q_W β xs L (d + 6 + 1) 195 0 [.ref 0, .int x1, .int x2, .int x3, .int x4, .int x5, .int x6, .ref 117, .retAddr 0] [] (G, I, J) (yl_U (o_chain x1 x2 x3 x4 x5 x6 w).1 (fun z => z = w) e I J (o_chain x1 x2 x3 x4 x5 x6 w).2.toInt64) := by
  refine g_195_0 hC.RT _ _ _ _ _ _ (yl_w (k_chain (d := d) hC hw x1 x2 x3 x4 x5 x6) (by omega) id id (fun ht G1 I1 J1 hR1 hU => ?_))
  rcases (o_chain_c x1 x2 x3 x4 x5 x6 w).resolve_left ht with h1 | h1
  · rw [h1] at hU ⊢
    exact yl_x rfl (g_195_23 hR1 _ _ _ _ _ _ hU)
  · rw [h1] at hU ⊢
    exact yl_x rfl (g_195_27 hR1 _ _ _ _ _ _ hU)
theorem o_times_c (x1 x2 x3 x4 x5 : Int32) (w : w_T) : (o_times x1 x2 x3 x4 x5 w).1 = 0 ∨ (o_times x1 x2 x3 x4 x5 w).1 = 1 ∨ (o_times x1 x2 x3 x4 x5 w).1 = 2 := by
  obtain ⟨⟨nl, nq, np, nf, na, tn, tp⟩, tb, fp, D⟩ := w
  unfold o_times
  dsimp only
  repeat' split
  all_goals first
    | exact a_bt_c _ _
    | simp
theorem u_times {d e : Nat} {w : w_T} (hC : c_I e w G I J) (hw : w_O w) (x1 x2 x3 x4 x5 : Int32) : q_W β xs L (d + 6 + 1) 196 0 [.ref 0, .int x1, .int x2, .int x3, .int x4, .int x5, .ref 117, .retAddr 0] [] (G, I, J) (yl_U (o_times x1 x2 x3 x4 x5 w).1 (fun z => z = w) e I J (o_times x1 x2 x3 x4 x5 w).2.toInt64) := by
  refine g_196_0 hC.RT _ _ _ _ _ (yl_w (k_times (d := d) hC hw x1 x2 x3 x4 x5) (by omega) id id (fun ht G1 I1 J1 hR1 hU => ?_))
  rcases (o_times_c x1 x2 x3 x4 x5 w).resolve_left ht with h1 | h1
  · rw [h1] at hU ⊢
    exact yl_x rfl (g_196_21 hR1 _ _ _ _ _ hU)
  · rw [h1] at hU ⊢
    exact yl_x rfl (g_196_25 hR1 _ _ _ _ _ hU)
theorem o_ifs_c (x1 x2 x3 x4 : Int32) (w : w_T) : (o_ifs x1 x2 x3 x4 w).1 = 0 ∨ (o_ifs x1 x2 x3 x4 w).1 = 1 ∨ (o_ifs x1 x2 x3 x4 w).1 = 2 := by
  obtain ⟨⟨nl, nq, np, nf, na, tn, tp⟩, tb, fp, D⟩ := w
  unfold o_ifs
  dsimp only
  repeat' split
  all_goals first
    | exact a_bt_c _ _
    | simp
theorem u_ifs {d e : Nat} {w : w_T} (hC : c_I e w G I J) (hw : w_O w) (x1 x2 x3 x4 : Int32) : q_W β xs L (d + 6 + 1) 197 0 [.ref 0, .int x1, .int x2, .int x3, .int x4, .ref 117, .retAddr 0] [] (G, I, J) (yl_U (o_ifs x1 x2 x3 x4 w).1 (fun z => z = w) e I J (o_ifs x1 x2 x3 x4 w).2.toInt64) := by
  refine g_197_0 hC.RT _ _ _ _ (yl_w (k_ifs (d := d) hC hw x1 x2 x3 x4) (by omega) id id (fun ht G1 I1 J1 hR1 hU => ?_))
  rcases (o_ifs_c x1 x2 x3 x4 w).resolve_left ht with h1 | h1
  · rw [h1] at hU ⊢
    exact yl_x rfl (g_197_19 hR1 _ _ _ _ hU)
  · rw [h1] at hU ⊢
    exact yl_x rfl (g_197_23 hR1 _ _ _ _ hU)
theorem o_count_c (x1 : Int32) (w : w_T) : (o_count x1 w).1 = 0 ∨ (o_count x1 w).1 = 1 := by
  obtain ⟨⟨nl, nq, np, nf, na, tn, tp⟩, tb, fp, D⟩ := w
  unfold o_count
  dsimp only
  repeat' split
  all_goals simp
theorem u_count {d e : Nat} {w : w_T} (hC : c_I e w G I J) (x1 : Int32) : q_W β xs L (d + 1 + 1) 198 0 [.ref 0, .int x1, .ref 117, .retAddr 0] [] (G, I, J) (yl_U (o_count x1 w).1 (fun z => z = (o_count x1 w).2.2) e I J (o_count x1 w).2.1.toInt64) := by
  refine g_198_0 hC.RT _ (yl_w (k_count (d := d) hC x1) (by omega) id id (fun ht G1 I1 J1 hR1 hU => ?_))
  have h1 := (o_count_c x1 w).resolve_left ht
  rw [h1] at hU ⊢
  exact yl_x rfl (g_198_13 hR1 _ hU)
theorem o_ev_c (x : Int32) (w : w_T) : (o_ev x w).1 = 0 ∨ (o_ev x w).1 = 2 := by
  obtain ⟨⟨nl, nq, np, nf, na, tn, tp⟩, tb, fp, D⟩ := w
  unfold o_ev
  dsimp only
  repeat' split
  all_goals simp
theorem u_ev {d e : Nat} {w : w_T} (hC : c_I e w G I J) (hw : w_O w) (x : Int32) : q_W β xs L (d + 1) 186 0 [.ref 0, .int x, .ref 117, .retAddr 0] [] (G, I, J) (yl_U (if (o_ev x w).1 = 0 then 0 else 1) (fun z => z = (o_ev x w).2.2) e I J (o_ev x w).2.1.toInt64) := by
  refine g_186_0 hC.RT _ (yl_w (k_ev (d := d) hC hw x) (Nat.le_refl _) (fun z => if_pos z) (fun z => by rw [if_neg z]; decide) (fun ht G1 I1 J1 hR1 hU => ?_))
  have h1 := (o_ev_c x w).resolve_left ht
  rw [h1] at hU ⊢
  exact yl_x rfl (g_186_13 hR1 _ hU)
theorem o_back_c (b : Bool) (x : Int32) (w : w_T) : (o_back b x w).1 = 0 ∨ (o_back b x w).1 = 1 := by
  obtain ⟨⟨nl, nq, np, nf, na, tn, tp⟩, tb, fp, D⟩ := w
  unfold o_back
  dsimp only
  repeat' split
  all_goals simp
theorem u_back {d e : Nat} {w : w_T} (hC : c_I e w G I J) (hw : w_O w) (b : Bool) (x : Int32) : q_W β xs L (d + 1 + 1) 185 0 [.ref 0, .int (a_is b), .int x, .ref 117, .retAddr 0] [] (G, I, J) (yl_U (o_back b x w).1 (fun z => z = (o_back b x w).2.2) e I J (yl_b (o_back b x w).2.1)) := by
  refine g_185_0 hC.RT _ _ (yl_wb (k_back (d := d) hC hw b x) (Nat.le_refl _) (fun ht G1 I1 J1 hR1 hU => ?_) (fun ht G1 I1 J1 hR1 hU => ?_))
  · rw [ht]
    unfold yl_b at hU ⊢
    refine ⟨fun z => ?_, fun z => ?_⟩
    · rw [if_pos z] at hU ⊢
      exact g_185_16 hR1 _ _ _ _ ⟨rfl, hU⟩
    · rw [if_neg z] at hU ⊢
      exact g_185_16 hR1 _ _ _ _ ⟨rfl, hU⟩
  · have h1 := (o_back_c b x w).resolve_left ht
    rw [h1] at hU ⊢
    exact yl_x rfl (g_185_22 hR1 _ _ hU)
theorem o_force_c (x1 x2 x3 : Int32) (w : w_T) : (o_force x1 x2 x3 w).1 = 0 ∨ (o_force x1 x2 x3 w).1 = 1 ∨ (o_force x1 x2 x3 w).1 = 2 := by
  obtain ⟨⟨nl, nq, np, nf, na, tn, tp⟩, tb, fp, D⟩ := w
  exact a_bt_c _ _
theorem u_force {d e : Nat} {w : w_T} (hC : c_I e w G I J) (hw : w_O w) (x1 x2 x3 : Int32) : q_W β xs L (d + 2 + 1) 188 0 [.ref 0, .int x1, .int x2, .int x3, .ref 117, .retAddr 0] [] (G, I, J) (yl_U (o_force x1 x2 x3 w).1 (fun z => z = w) e I J (yl_b (o_force x1 x2 x3 w).2)) := by
  refine g_188_0 hC.RT _ _ _ (yl_wb (k_force (d := d) hC hw x1 x2 x3) (Nat.le_refl _) (fun ht G1 I1 J1 hR1 hU => ?_) (fun ht G1 I1 J1 hR1 hU => ?_))
  · rw [ht]
    unfold yl_b at hU ⊢
    refine ⟨fun z => ?_, fun z => ?_⟩
    · rw [if_pos z] at hU ⊢
      exact g_188_18 hR1 _ _ _ _ _ ⟨rfl, hU⟩
    · rw [if_neg z] at hU ⊢
      exact g_188_18 hR1 _ _ _ _ _ ⟨rfl, hU⟩
  · rcases (o_force_c x1 x2 x3 w).resolve_left ht with h1 | h1
    · rw [h1] at hU ⊢
      exact yl_x rfl (g_188_24 hR1 _ _ _ hU)
    · rw [h1] at hU ⊢
      exact yl_x rfl (g_188_28 hR1 _ _ _ hU)
end Law1

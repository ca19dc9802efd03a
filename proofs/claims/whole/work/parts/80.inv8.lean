/-! ===== the tape is fed ===== -/
/-- one byte more -/
def t_w (w : w_T) (x : Int32) (s : Nat) : w_T := match w with
  | ((nl, nq, np, nf, na, tn, tp), tb, fp, D) => ((nl, nq, np, nf, na, tn, tp + 1), t_put tb tp (a_byt x s), fp, D)
def t_w4 (w : w_T) (x : Int32) : w_T := t_w (t_w (t_w (t_w w x 24) x 16) x 8) x 0
section Inv8
variable {β : Bool} {xs : Nat → Int32} {L : Nat} {G : am_G} {I : a_F} {J : Nat → Nat → Int64}
theorem t_cput1 {d e : Nat} {w : w_T} (hC : c_I e w G I J) (htp : w.1.2.2.2.2.2.2 < 500) (x : Int32) (s : Nat) (hs : s ≤ 24) {P : am_O → am_H → Prop} (h : ∀ I', f_c I I' → c_I e (t_w w x s) G I' J → q_W β xs L d 97 3 [.ref 0, .int x, .int (nI s + (-8))] [] (G, I', J) P) : q_W β xs L d 97 3 [.ref 0, .int x, .int (nI s)] [] (G, I, J) P := by
  obtain ⟨⟨nl, nq, np, nf, na, tn, tp⟩, tb, fp, D⟩ := w
  obtain ⟨j, hL, hD, h3, h4, h5, h6⟩ := hC
  have ht : tp < 500 := htp
  have e9 : I 0 9 = nI tp := h3.2.1
  refine g_97_3 hL.2.1 _ _ ⟨fun z => absurd z (nI_pos (by omega)), fun _ => ⟨fun z => absurd ?_ z, fun _ => ⟨?_, g_97_42 hL.2.1 _ _ ?_⟩⟩⟩
  · rw [e9]
    exact (nI_ltI (b := 500) (by omega) (by omega)).mpr ht
  · rw [e9]
    exact am_is_nI ht (by decide)
  · rw [e9, c_byte_of, nI_1, show (nI tp).toNatClampNeg = tp from nI_clamp (by omega)]
    refine h _ (((f_c.rf I).up _ _ (by decide)).up _ _ (by decide)) ⟨j, hL, hD, ⟨h3.1, am_u_same, h3.2.2⟩, fun i hi => ?_, h5.keep (fun c a b => (am_u_row _ _ _ _ (by omega)).trans (am_u_row _ _ _ _ (by omega))) rfl, h6⟩
    have hi' : i < tp + 1 := hi
    show am_u (am_u I 57 tp (c_byte (a_byt x s))) 0 9 _ 57 i = c_byte (t_put tb tp (a_byt x s) i)
    rw [am_u_ne (Or.inl (by decide))]
    unfold t_put am_u
    by_cases hit : i = tp
    · subst hit; simp
    · rw [if_neg (by omega), if_neg hit]
      exact h4 i (show i < tp by omega)
theorem t_cput {d e : Nat} {w : w_T} (hC : c_I e w G I J) (htp : w.1.2.2.2.2.2.2 + 4 ≤ 500) (x : Int32) {P : am_O → am_H → Prop} (h : ∀ I', f_c I I' → c_I e (t_w4 w x) G I' J → P (.inl none) (G, I', J)) : q_W β xs L d 97 0 [.ref 0, .int x, .retAddr 0] [] (G, I, J) P := by
  obtain ⟨⟨nl, nq, np, nf, na, tn, tp⟩, tb, fp, D⟩ := w
  have ht : tp + 4 ≤ 500 := htp
  have hR : q_RT G := by obtain ⟨j, hL, -⟩ := hC; exact hL.2.1
  refine g_97_0 hR _ ?_
  refine t_cput1 (s := 24) hC (show tp < 500 by omega) x (by decide) (fun I1 f1 H1 => ?_)
  refine t_cput1 (s := 16) H1 (show tp + 1 < 500 by omega) x (by decide) (fun I2 f2 H2 => ?_)
  refine t_cput1 (s := 8) H2 (show tp + 2 < 500 by omega) x (by decide) (fun I3 f3 H3 => ?_)
  refine t_cput1 (s := 0) H3 (show tp + 3 < 500 by omega) x (by decide) (fun I4 f4 H4 => ?_)
  exact g_97_3 hR _ _ ⟨fun _ => h I4 (((f1.tr f2).tr f3).tr f4) H4, fun z => absurd (by decide) z⟩
theorem o_feed_t (x1 x2 x3 x4 x5 : Int32) (nl nq np nf na tn tp : Nat) (tb : Nat → Nat) (fp : Int32) (D : a_F) (ht : ¬ 500 < tp + 20) : o_feed x1 x2 x3 x4 x5 ((nl, nq, np, nf, na, tn, tp), tb, fp, D) = (nI (tp + 20), t_w4 (t_w4 (t_w4 (t_w4 (t_w4 ((nl, nq, np, nf, na, tn, tp), tb, fp, D) x1) x2) x3) x4) x5) := by
  unfold o_feed
  dsimp only
  rw [if_neg ht]
  rfl
theorem k_feed {d e : Nat} {w : w_T} (hC : c_I e w G I J) (hw : w_O w) (x1 x2 x3 x4 x5 : Int32) : q_W β xs L (d + 1) 77 0 [.ref 0, .int x1, .int x2, .int x3, .int x4, .int x5] [] (G, I, J) (k_P (o_feed x1 x2 x3 x4 x5 w).2 e 0 I J (o_feed x1 x2 x3 x4 x5 w).1) := by
  obtain ⟨⟨nl, nq, np, nf, na, tn, tp⟩, tb, fp, D⟩ := w
  have hC0 := hC
  obtain ⟨j, hL, hD, h3, h4, h5, h6⟩ := hC
  have htp : tp ≤ 500 := hw.2.2.2
  have hR := hL.2.1
  have e9 : I 0 9 + 20 = nI (tp + 20) := by rw [show I 0 9 = nI tp from h3.2.1, show (20 : Int32) = nI 20 from rfl, nI_add]
  have gt : (500 : Int32) < nI (tp + 20) ↔ 500 < tp + 20 := nI_ltI (a := 500) (by omega) (by omega)
  refine g_77_0 hR _ _ _ _ _ ?_
  rw [e9, gt]
  refine ⟨fun z => ?_, fun z => ?_⟩
  · rw [o_feed_t x1 x2 x3 x4 x5 _ _ _ _ _ _ _ _ _ _ z]
    refine t_cput (d := d) hC0 (show tp + 4 ≤ 500 by omega) x1 (fun I1 f1 H1 => ?_)
    refine t_cput (d := d) H1 (show tp + 8 ≤ 500 by omega) x2 (fun I2 f2 H2 => ?_)
    refine t_cput (d := d) H2 (show tp + 12 ≤ 500 by omega) x3 (fun I3 f3 H3 => ?_)
    refine t_cput (d := d) H3 (show tp + 16 ≤ 500 by omega) x4 (fun I4 f4 H4 => ?_)
    refine t_cput (d := d) H4 (show tp + 20 ≤ 500 by omega) x5 (fun I5 f5 H5 => ?_)
    refine ⟨?_, G, I5, J, rfl, (((f1.tr f2).tr f3).tr f4).tr f5, f_c.rf J, H5⟩
    obtain ⟨j', -, -, h3', -⟩ := H5
    exact congrArg (fun z : Int32 => (Sum.inl (some (Value.int z)) : am_O)) h3'.2.1
  · have eo : o_feed x1 x2 x3 x4 x5 ((nl, nq, np, nf, na, tn, tp), tb, fp, D) = (-1, ((nl, nq, np, nf, na, tn, tp), tb, fp, D)) := if_pos z
    rw [eo]
    exact ⟨rfl, G, I, J, rfl, f_c.rf I, f_c.rf J, hC0⟩
theorem r_put1 {d v : Nat} {w : w_T} (hR : q_RT G) (hC : r_I v w I J) (htp : w.1.2.2.2.2.2.2 < 500) (h0 : I 59 0 = 0) (x : Int32) (s : Nat) (hs : s ≤ 24) {P : am_O → am_H → Prop} (h : ∀ I', f_r I I' → I' 59 0 = 0 → r_I v (t_w w x s) I' J → q_W β xs L d 115 3 [.ref 59, .int x, .int (nI s + (-8))] [] (G, I', J) P) : q_W β xs L d 115 3 [.ref 59, .int x, .int (nI s)] [] (G, I, J) P := by
  obtain ⟨⟨nl, nq, np, nf, na, tn, tp⟩, tb, fp, D⟩ := w
  obtain ⟨hD, h2, h3, h4, h5⟩ := hC
  have ht : tp < 500 := htp
  have e9 : I 59 20 = nI tp := h2.2.1
  refine g_115_3 hR _ _ ⟨fun z => absurd z (nI_pos (by omega)), fun _ => ⟨?_, ?_⟩⟩
  · rw [e9]
    exact am_is_nI ht (by decide)
  · obtain ⟨hb1, hb2⟩ := a_byt_lt x s
    rw [e9, hb2, nI_1, show (nI tp).toNatClampNeg = tp from nI_clamp (by omega)]
    refine h _ (((f_r.rf I).up _ _ (by decide)).up _ _ (by decide)) h0 ⟨hD.keep (fun c i hc => ?_), ⟨h2.1, am_u_same, h2.2.2⟩, fun i hi => ?_, h4, h5⟩
    · rw [am_u_ne, am_u_ne]
      · refine Or.inl (fun q => ?_)
        subst q; cases hc
      · by_cases h59 : c = 59
        · subst h59; exact Or.inr (fun q => by subst q; cases hc)
        · exact Or.inl h59
    · have hi' : i < tp + 1 := hi
      show t_put tb tp (a_byt x s) i < 256 ∧ am_u (am_u I 72 tp (nI (a_byt x s))) 59 20 _ 72 i = nI (t_put tb tp (a_byt x s) i)
      rw [am_u_ne (Or.inl (by decide))]
      unfold t_put am_u
      by_cases hit : i = tp
      · subst hit; simp only [and_self, if_true]; exact ⟨hb1, trivial⟩
      · simp only [hit, and_false, if_false]
        exact h3 i (show i < tp by omega)
theorem r_put {d v : Nat} {w : w_T} (hR : q_RT G) (hC : r_I v w I J) (htp : w.1.2.2.2.2.2.2 + 4 ≤ 500) (h0 : I 59 0 = 0) (x : Int32) {P : am_O → am_H → Prop} (h : ∀ I', f_r I I' → I' 59 0 = 0 → r_I v (t_w4 w x) I' J → P (.inl none) (G, I', J)) : q_W β xs L d 115 0 [.ref 59, .int x, .retAddr 0] [] (G, I, J) P := by
  obtain ⟨⟨nl, nq, np, nf, na, tn, tp⟩, tb, fp, D⟩ := w
  have ht : tp + 4 ≤ 500 := htp
  refine g_115_0 hR _ ?_
  refine r_put1 (s := 24) hR hC (show tp < 500 by omega) h0 x (by decide) (fun I1 f1 z1 H1 => ?_)
  refine r_put1 (s := 16) hR H1 (show tp + 1 < 500 by omega) z1 x (by decide) (fun I2 f2 z2 H2 => ?_)
  refine r_put1 (s := 8) hR H2 (show tp + 2 < 500 by omega) z2 x (by decide) (fun I3 f3 z3 H3 => ?_)
  refine r_put1 (s := 0) hR H3 (show tp + 3 < 500 by omega) z3 x (by decide) (fun I4 f4 z4 H4 => ?_)
  exact g_115_3 hR _ _ ⟨fun _ => h I4 (((f1.tr f2).tr f3).tr f4) z4 H4, fun z => absurd (by decide) z⟩
theorem p_feed {d v : Nat} {w : w_T} (hr : r_I v w I J) (hw : w_O w) (hR : q_RT G) (x1 x2 x3 x4 x5 : Int32) : q_W β xs L (d + 1) 114 0 [.ref 59, .int x1, .int x2, .int x3, .int x4, .int x5] [] (G, I, J) (p_P (o_feed x1 x2 x3 x4 x5 w).2 v G I J 0 (o_feed x1 x2 x3 x4 x5 w).1) := by
  obtain ⟨⟨nl, nq, np, nf, na, tn, tp⟩, tb, fp, D⟩ := w
  have hr0 : r_I v ((nl, nq, np, nf, na, tn, tp), tb, fp, D) (am_u I 59 0 0) J := hr.c0 0
  obtain ⟨hD, h2, h3, h4, h5⟩ := hr
  have htp : tp ≤ 500 := hw.2.2.2
  have e9 : I 59 20 + 20 = nI (tp + 20) := by rw [show I 59 20 = nI tp from h2.2.1, show (20 : Int32) = nI 20 from rfl, nI_add]
  have gt : (500 : Int32) < nI (tp + 20) ↔ 500 < tp + 20 := nI_ltI (a := 500) (by omega) (by omega)
  have f0 : f_r I (am_u I 59 0 0) := (f_r.rf I).up _ _ (by decide)
  refine g_114_0 hR _ _ _ _ _ ?_
  rw [e9, gt]
  refine ⟨fun z => ?_, fun z => ?_⟩
  · rw [o_feed_t x1 x2 x3 x4 x5 _ _ _ _ _ _ _ _ _ _ z]
    refine r_put (d := d) hR hr0 (show tp + 4 ≤ 500 by omega) am_u_same x1 (fun I1 f1 z1 H1 => ?_)
    refine r_put (d := d) hR H1 (show tp + 8 ≤ 500 by omega) z1 x2 (fun I2 f2 z2 H2 => ?_)
    refine r_put (d := d) hR H2 (show tp + 12 ≤ 500 by omega) z2 x3 (fun I3 f3 z3 H3 => ?_)
    refine r_put (d := d) hR H3 (show tp + 16 ≤ 500 by omega) z3 x4 (fun I4 f4 z4 H4 => ?_)
    refine r_put (d := d) hR H4 (show tp + 20 ≤ 500 by omega) z4 x5 (fun I5 f5 z5 H5 => ?_)
    refine ⟨_, I5, J, rfl, fun _ => H5.2.1.2.1, rfl, ((((f0.tr f1).tr f2).tr f3).tr f4).tr f5, f_r.rf J, z5, ?_⟩
    exact r_inv.mono H5 (Nat.le_succ _)
  · have eo : o_feed x1 x2 x3 x4 x5 ((nl, nq, np, nf, na, tn, tp), tb, fp, D) = (-1, ((nl, nq, np, nf, na, tn, tp), tb, fp, D)) := if_pos z
    rw [eo]
    exact ⟨_, _, J, rfl, fun _ => rfl, rfl, f0, f_r.rf J, am_u_same, r_inv.mono hr0 (Nat.le_succ _)⟩
end Inv8

/-! ===== worlds of what is told; lands, places ===== -/
/-- counts of lands, places, persons, facts, acts; tonight; the tape's length; the tape; the fault's place; the data -/
abbrev w_T : Type := (Nat × Nat × Nat × Nat × Nat × Nat × Nat) × (Nat → Nat) × Int32 × a_F
def c_I (e : Nat) (w : w_T) (G : am_G) (I : a_F) (J : Nat → Nat → Int64) : Prop := c_inv e w.1.1 w.1.2.1 w.1.2.2.1 w.1.2.2.2.1 w.1.2.2.2.2.1 w.1.2.2.2.2.2.1 w.1.2.2.2.2.2.2 w.2.1 w.2.2.1 w.2.2.2 G I J
def r_I (v : Nat) (w : w_T) (I : a_F) (J : Nat → Nat → Int64) : Prop := r_inv v w.1.1 w.1.2.1 w.1.2.2.1 w.1.2.2.2.1 w.1.2.2.2.2.1 w.1.2.2.2.2.2.1 w.1.2.2.2.2.2.2 w.2.1 w.2.2.1 w.2.2.2 I J
def w_O (w : w_T) : Prop := w_ok w.1.1 w.1.2.1 w.1.2.2.1 w.1.2.2.2.1 w.1.2.2.2.2.1 w.1.2.2.2.2.2.1 w.1.2.2.2.2.2.2 w.2.2.2
/-- what a class's call leaves -/
def k_P (w' : w_T) (e v0 : Nat) (I : a_F) (J : Nat → Nat → Int64) (val : Int32) : am_O → am_H → Prop := fun o h => o = .inl (some (.int val)) ∧ ∃ G' I' J', h = (G', I', J') ∧ f_c I I' ∧ f_c J J' ∧ c_I e w' G' I' J'
/-- what a class's call that may throw leaves -/
def k_X (t : Nat) (w' : w_T) (e : Nat) (I : a_F) (J : Nat → Nat → Int64) (val : Int32) : am_O → am_H → Prop := fun o h => (if t = 0 then o = .inl (some (.int val)) else o = .inr t) ∧ ∃ G' I' J', h = (G', I', J') ∧ f_c I I' ∧ f_c J J' ∧ c_I (e + 1) w' G' I' J'
/-- what a reference's call leaves -/
def p_P (w' : w_T) (v : Nat) (G : am_G) (I : a_F) (J : Nat → Nat → Int64) (t : Nat) (val : Int32) : am_O → am_H → Prop := fun o h => ∃ y I' J', o = .inl (some (.int y)) ∧ (t = 0 → y = val) ∧ h = (G, I', J') ∧ f_r I I' ∧ f_r J J' ∧ I' 59 0 = nI t ∧ r_I (v + 1) w' I' J'
theorem c_inv.e1 {e e' nl nq np nf na tn tp : Nat} {tb : Nat → Nat} {fp : Int32} {D : a_F} {G : am_G} {I : a_F} {J : Nat → Nat → Int64} (h : c_inv e nl nq np nf na tn tp tb fp D G I J) (he : ∃ x, e = x) : ∃ j, c_L e j G := by
  obtain ⟨j, h1, -⟩ := h
  exact ⟨j, h1⟩
theorem r_inv.mono {v v' nl nq np nf na tn tp : Nat} {tb : Nat → Nat} {fp : Int32} {D I : a_F} {J : Nat → Nat → Int64} (h : r_inv v nl nq np nf na tn tp tb fp D I J) (hv : v ≤ v') : r_inv v' nl nq np nf na tn tp tb fp D I J := by
  obtain ⟨h1, h2, h3, ⟨ve, fv, h4, h5⟩, h6⟩ := h
  exact ⟨h1, h2, h3, ⟨ve, fv, by omega, h5⟩, h6⟩
def o_land : w_T → Int32 × w_T := fun w => match w with
  | ((nl, nq, np, nf, na, tn, tp), tb, fp, D) => if nl < 5 then (nI nl, ((nl + 1, nq, np, nf, na, tn, tp), tb, fp, am_u D 59 3 (nI (nl + 1)))) else (-1, w)
def o_place (x : Int32) : w_T → Int32 × w_T := fun w => match w with
  | ((nl, nq, np, nf, na, tn, tp), tb, fp, D) => if nq < 12 ∧ ¬ x < -1 ∧ x < nI nl then (nI nq, ((nl, nq + 1, np, nf, na, tn, tp), tb, fp, am_u (am_u D 60 nq x) 59 4 (nI (nq + 1)))) else (-1, w)
theorem w_land {w : w_T} (h : w_O w) : w_O (o_land w).2 := by
  obtain ⟨⟨nl, nq, np, nf, na, tn, tp⟩, tb, fp, D⟩ := w
  obtain ⟨⟨⟨⟨p1, p2, p3⟩, ⟨b1, b2, b3, b4⟩, p4⟩, hA, hF, hT, h6, hf2⟩, hDR, ht, hp⟩ := h
  unfold o_land
  dsimp only
  split
  · rename_i hlt
    show w_ok (nl + 1) nq np nf na tn tp (am_u D 59 3 (nI (nl + 1)))
    refine ⟨⟨⟨⟨am_u_same, p2, p3⟩, ⟨by show nl + 1 ≤ 5; omega, b2, b3, b4⟩, p4⟩, fun a ha => ?_, fun f hf => ?_, hT, h6, hf2⟩, hDR, ht, hp⟩
    · obtain ⟨⟨l, h1, h2⟩, h3⟩ := hA a ha
      exact ⟨⟨l, by show l < nl + 1; have : l < nl := h1; omega, h2⟩, h3⟩
    · obtain ⟨⟨kd, h1, h2, h3, h4, h5⟩, h6⟩ := hF f hf
      exact ⟨⟨kd, h1, h2, h3, fun x y => by obtain ⟨l, z1, z2⟩ := h4 x y; exact ⟨l, by show l < nl + 1; have : l < nl := z1; omega, z2⟩, h5⟩, h6⟩
  · exact ⟨⟨⟨⟨p1, p2, p3⟩, ⟨b1, b2, b3, b4⟩, p4⟩, hA, hF, hT, h6, hf2⟩, hDR, ht, hp⟩
section Inv2
variable {β : Bool} {xs : Nat → Int32} {L : Nat} {G : am_G} {I : a_F} {J : Nat → Nat → Int64}
theorem c_forget {d : Nat} (hR : q_RT G) : q_W β xs L d 98 0 [.ref 0] [] (G, I, J) (fun o h => o = .inl none ∧ h = (G, am_u I 0 11 (-1), am_u J 38 19 (-1))) := g_98_0 hR ⟨rfl, rfl⟩
theorem q_useF {d d' k pc : Nat} {ls st : List Value} {h : am_H} {G1 : am_G} {I1 : a_F} {J1 : Nat → Nat → Int64} {A : am_G → (Nat → Nat → Int32) → (Nat → Nat → Int64) → Prop} {E : Nat → am_G → (Nat → Nat → Int32) → (Nat → Nat → Int64) → Prop} (hw : q_W β xs L d k pc ls st h (fun o h1 => o = .inl none ∧ h1 = (G1, I1, J1))) (hd : d ≤ d') (hA : A G1 I1 J1) : q_W β xs L d' k pc ls st h (q_Rv A E) :=
  q_mono hw hd (fun o h1 q => by obtain ⟨e1, e2⟩ := q; subst e1; subst e2; exact hA)
theorem k_land {d e : Nat} {w : w_T} (hC : c_I e w G I J) (hw : w_O w) : q_W β xs L (d + 1) 70 0 [.ref 0] [] (G, I, J) (k_P (o_land w).2 e 0 I J (o_land w).1) := by
  obtain ⟨⟨nl, nq, np, nf, na, tn, tp⟩, tb, fp, D⟩ := w
  obtain ⟨j, hL, hD, h3, h4, h5, h6⟩ := hC
  have hn5 : nl ≤ 5 := hw.1.1.2.1.1
  have hR := hL.2.1
  have e12 : I 1 2 = nI nl := hD.1.1
  have lt : nI nl < 5 ↔ nl < 5 := nI_ltI (b := 5) (by omega) (by omega)
  refine g_70_0 hR ?_
  rw [e12, lt]
  refine ⟨fun z => q_useF (c_forget (β := β) (xs := xs) (L := L) (d := d) hR) (Nat.le_refl _) ⟨hR, ?_⟩, fun z => ?_⟩
  · have e : o_land ((nl, nq, np, nf, na, tn, tp), tb, fp, D) = (nI nl, ((nl + 1, nq, np, nf, na, tn, tp), tb, fp, am_u D 59 3 (nI (nl + 1)))) := if_pos z
    have e1 : am_u I 0 11 (-1) 1 2 = nI nl := e12
    rw [e, e1, nI_1, nI_pred]
    refine ⟨rfl, G, _, _, rfl, ((f_c.rf I).up _ _ (by decide)).up _ _ (by decide), (f_c.rf J).up _ _ (by decide), j, hL, ?_, h3, h4, Or.inl am_u_same, Or.inl ?_⟩
    · obtain ⟨⟨c1, c2, c3, c4, c5⟩, d2, d3, d4, d5⟩ := hD
      exact ⟨⟨am_u_same, c2, c3, c4, c5⟩, d2, d3, d4, d5⟩
    · rw [am_u_ne (Or.inl (by decide)), am_u_same]
  · have e : o_land ((nl, nq, np, nf, na, tn, tp), tb, fp, D) = (-1, ((nl, nq, np, nf, na, tn, tp), tb, fp, D)) := if_neg z
    rw [e]
    exact ⟨rfl, G, I, J, rfl, f_c.rf I, f_c.rf J, j, hL, hD, h3, h4, h5, h6⟩
theorem p_land {d v : Nat} {w : w_T} (hr : r_I v w I J) (hw : w_O w) (hR : q_RT G) : q_W β xs L d 104 0 [.ref 59] [] (G, I, J) (p_P (o_land w).2 v G I J 0 (o_land w).1) := by
  obtain ⟨⟨nl, nq, np, nf, na, tn, tp⟩, tb, fp, D⟩ := w
  have hr0 := hr.c0 0
  obtain ⟨hD, h2, h3, ⟨ve, fv, h4, h5, h6, h7, h8⟩, h9⟩ := hr
  have hn5 : nl ≤ 5 := hw.1.1.2.1.1
  have e3 : I 59 3 = nI nl := hD.1.1
  have eq5 : nI nl = 5 ↔ nl = 5 := nI_eq (b := 5) (by omega) (by omega)
  refine g_104_0 hR ?_
  rw [e3, eq5]
  refine ⟨fun z => ?_, fun z => ?_⟩
  · have e : o_land ((nl, nq, np, nf, na, tn, tp), tb, fp, D) = (nI nl, ((nl + 1, nq, np, nf, na, tn, tp), tb, fp, am_u D 59 3 (nI (nl + 1)))) := if_pos (show nl < 5 by omega)
    rw [e, h5, nI_1, nI_pred, nI_1]
    refine ⟨_, _, J, rfl, fun _ => rfl, rfl, (((f_r.rf I).up _ _ (by decide)).up _ _ (by decide)).up _ _ (by decide), f_r.rf J, rfl, ?_, h2, h3, ⟨ve + 1, fv, by omega, am_u_same, h6, by omega, fun q => by omega⟩, h9⟩
    obtain ⟨⟨c1, c2, c3, c4, c5⟩, d2, d3, d4, d5⟩ := hD
    refine ⟨⟨?_, c2, c3, c4, c5⟩, d2, d3, d4, d5⟩
    show am_u (am_u (am_u I 59 0 0) 59 3 (nI (nl + 1))) 59 2 (nI (ve + 1)) 59 3 = _
    rw [am_u_ne (Or.inr (by decide)), am_u_same]
  · have e : o_land ((nl, nq, np, nf, na, tn, tp), tb, fp, D) = (-1, ((nl, nq, np, nf, na, tn, tp), tb, fp, D)) := if_neg (show ¬ nl < 5 by omega)
    rw [e]
    exact ⟨_, _, J, rfl, fun _ => rfl, rfl, (f_r.rf I).up _ _ (by decide), f_r.rf J, am_u_same, hr0.mono (Nat.le_succ _)⟩
end Inv2

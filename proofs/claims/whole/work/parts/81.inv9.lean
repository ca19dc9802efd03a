/-! ===== queries: arguments, frames; in force ===== -/
def a_bt (b1 b2 : Bool) : Nat := if b1 = false then 1 else if b2 = false then 2 else 0
theorem c_dqs_rng {c i : Nat} (h : c_dqs c i = true) : 34 ≤ c ∧ c ≤ 37 := by
  simp only [c_dqs, Bool.or_eq_true, Bool.and_eq_true, Nat.beq_eq, Nat.ble_eq] at h
  omega
theorem c_dqs_no {c i : Nat} (h : c < 34 ∨ 37 < c) : c_dqs c i = false := by
  cases hh : c_dqs c i with
  | false => rfl
  | true => have := c_dqs_rng hh; omega
theorem c_sc_no {c i : Nat} (h : c < 38 ∨ (56 < c ∧ c < 118)) : c_sc c i = false := by
  cases hh : c_sc c i with
  | false => rfl
  | true =>
    simp only [c_sc, Bool.or_eq_true, Bool.and_eq_true, Nat.beq_eq, Nat.ble_eq] at hh
    omega
theorem r_dqs_no {c i : Nat} (h : c ≠ 89 ∧ c ≠ 59) : r_dqs c i = false := by
  cases hh : r_dqs c i with
  | false => rfl
  | true =>
    simp only [r_dqs, Bool.or_eq_true, Bool.and_eq_true, Nat.beq_eq, Nat.ble_eq] at hh
    omega
theorem r_sc_no {c i : Nat} (h : (c < 90 ∨ 114 < c) ∧ c ≠ 59) : r_sc c i = false := by
  cases hh : r_sc c i with
  | false => rfl
  | true =>
    simp only [r_sc, Bool.or_eq_true, Bool.and_eq_true, Nat.beq_eq, Nat.ble_eq] at hh
    omega
theorem r_sc_D : ∀ c i, r_dc c i = true → r_sc c i = false := fun c i h => by
  cases hh : r_sc c i with
  | false => rfl
  | true =>
    simp only [r_dc, Bool.or_eq_true, Bool.and_eq_true, Nat.beq_eq, Nat.ble_eq] at h
    simp only [r_sc, Bool.or_eq_true, Bool.and_eq_true, Nat.beq_eq, Nat.ble_eq] at hh
    omega
theorem c_inv.dq {e nl nq np nf na tn tp : Nat} {tb : Nat → Nat} {fp : Int32} {D : a_F} {G : am_G} {I I' : a_F} {J : Nat → Nat → Int64} (h : c_inv e nl nq np nf na tn tp tb fp D G I J) (hf : q_F c_dqs I I') : c_inv e nl nq np nf na tn tp tb fp D G I' J ∧ f_c I I' := by
  obtain ⟨j, h1, h2, ⟨h3, h4, h5⟩, h6, h7, h8⟩ := h
  have row : ∀ c, c < 34 ∨ 37 < c → I' c = I c := fun c hc => funext fun i => hf c i (c_dqs_no hc)
  refine ⟨⟨j, h1, h2.keep (fun c i hc => hf c i (c_dqs_D c i hc)), ⟨(hf 0 10 rfl).trans h3, (hf 0 9 rfl).trans h4, (hf 32 11 rfl).trans h5⟩, fun i hi => (hf 57 i rfl).trans (h6 i hi), h7.keep (fun c a b => row c (by omega)) rfl, h8.keep (row 0 (by decide)) (row 58 (by decide))⟩, fun c a b => row c (by omega)⟩
theorem c_inv.lv {e j' nl nq np nf na tn tp : Nat} {tb : Nat → Nat} {fp : Int32} {D : a_F} {G G' : am_G} {I I' : a_F} {J J' : Nat → Nat → Int64} (h : c_inv e nl nq np nf na tn tp tb fp D G I J) (hL : c_L e j' G') (hJ : c_J2 J J') (hf : q_F c_sc I I') (hK : c_K nq j' D I' J') : c_inv e nl nq np nf na tn tp tb fp D G' I' J' ∧ f_c I I' ∧ f_c J J' := by
  obtain ⟨j, h1, h2, ⟨h3, h4, h5⟩, h6, h7, h8⟩ := h
  have row : ∀ c, c < 38 ∨ (56 < c ∧ c < 118) → I' c = I c := fun c hc => funext fun i => hf c i (c_sc_no hc)
  refine ⟨⟨j', hL, h2.F hf, ⟨(hf 0 10 rfl).trans h3, (hf 0 9 rfl).trans h4, (hf 32 11 rfl).trans h5⟩, fun i hi => (hf 57 i rfl).trans (h6 i hi), hK, h8.keep (row 0 (by decide)) (row 58 (by decide))⟩, fun c a b => row c (by omega), fun c a b => hJ c (by omega) (by omega)⟩
theorem r_inv.dq {v nl nq np nf na tn tp : Nat} {tb : Nat → Nat} {fp : Int32} {D I I' : a_F} {J : Nat → Nat → Int64} (h : r_inv v nl nq np nf na tn tp tb fp D I J) (hf : q_F r_dqs I I') : r_inv v nl nq np nf na tn tp tb fp D I' J ∧ f_r I I' ∧ I' 59 0 = I 59 0 := by
  obtain ⟨h1, ⟨h2, h3, h4⟩, h5, ⟨ve, fv, h6, h7, h8, h9, h10⟩, h11⟩ := h
  have row : ∀ c, c ≠ 89 ∧ c ≠ 59 → I' c = I c := fun c hc => funext fun i => hf c i (r_dqs_no hc)
  refine ⟨⟨h1.F hf r_dqs_D, ⟨(hf 59 1 rfl).trans h2, (hf 59 20 rfl).trans h3, (hf 59 22 rfl).trans h4⟩, fun i hi => by rw [row 72 (by decide)]; exact h5 i hi, ⟨ve, fv, h6, (hf 59 2 rfl).trans h7, (hf 59 88 rfl).trans h8, h9, fun q => (h10 q).keep (hf 59 89 rfl) (hf 59 90 rfl) (row 115 (by decide))⟩, h11.1, fun j hj => by rw [row 71 (by decide)]; exact h11.2 j hj⟩, fun c a => row c (by omega), hf 59 0 rfl⟩
theorem r_inv.rn {v nl nq np nf na tn tp : Nat} {tb : Nat → Nat} {fp : Int32} {D I I' : a_F} {J : Nat → Nat → Int64} (h : r_inv v nl nq np nf na tn tp tb fp D I J) (hf : r_fr I I') : r_inv v nl nq np nf na tn tp tb fp D I' J ∧ f_r I I' ∧ I' 59 0 = I 59 0 := by
  obtain ⟨h1, ⟨h2, h3, h4⟩, h5, ⟨ve, fv, h6, h7, h8, h9, h10⟩, h11⟩ := h
  have row : ∀ c, (c < 90 ∨ 114 < c) ∧ c ≠ 59 → I' c = I c := fun c hc => funext fun i => hf c i (r_sc_no hc)
  refine ⟨⟨h1.F hf r_sc_D, ⟨(hf 59 1 rfl).trans h2, (hf 59 20 rfl).trans h3, (hf 59 22 rfl).trans h4⟩, fun i hi => by rw [row 72 (by decide)]; exact h5 i hi, ⟨ve, fv, h6, (hf 59 2 rfl).trans h7, (hf 59 88 rfl).trans h8, h9, fun q => (h10 q).keep (hf 59 89 rfl) (hf 59 90 rfl) (row 115 (by decide))⟩, h11.1, fun j hj => by rw [row 71 (by decide)]; exact h11.2 j hj⟩, fun c a => row c (by omega), hf 59 0 rfl⟩
section Inv9
variable {β : Bool} {xs : Nat → Int32} {L : Nat} {G : am_G} {I : a_F} {J : Nat → Nat → Int64}
theorem q_needD {d d' : Nat} (hR : q_RT G) (x : Int32) (hd : d + 1 ≤ d') {A : am_G → (Nat → Nat → Int32) → (Nat → Nat → Int64) → Prop} {E : Nat → am_G → (Nat → Nat → Int32) → (Nat → Nat → Int64) → Prop} (hA : a_dy x = true → A G I J) (hE : a_dy x = false → E 1 (am_thr (G, I, J)).1 I J) : q_W β xs L d' 92 0 [.int x] [] (G, I, J) (q_Rv A E) :=
  q_useRv (c_needD (β := β) (xs := xs) (L := L) (d := d) hR x) hd (fun o h' P => by
    rcases P with ⟨h1, rfl, rfl⟩ | ⟨h1, rfl, rfl⟩
    · exact hA h1
    · exact hE h1)
theorem q_needE {d d' tn : Nat} (hR : q_RT G) (h10 : I 0 10 = nI tn) (x : Int32) (hd : d ≤ d') {A : am_G → (Nat → Nat → Int32) → (Nat → Nat → Int64) → Prop} {E : Nat → am_G → (Nat → Nat → Int32) → (Nat → Nat → Int64) → Prop} (hA : a_ev x tn = true → A G I J) (hE : a_ev x tn = false → E 2 (am_thr (G, I, J)).1 I J) : q_W β xs L d' 93 0 [.ref 0, .int x] [] (G, I, J) (q_Rv A E) :=
  q_useRv (c_needE (β := β) (xs := xs) (L := L) (d := d) hR h10 x) hd (fun o h' P => by
    rcases P with ⟨h1, rfl, rfl⟩ | ⟨h1, rfl, rfl⟩
    · exact hA h1
    · exact hE h1)
/-- the reference's evening -/
theorem r_isEv {d tn : Nat} (hR : q_RT G) (h1 : I 59 1 = nI tn) (x : Int32) (h0 : I 59 0 = 0) {A : Int32 → am_G → (Nat → Nat → Int32) → (Nat → Nat → Int64) → Prop} {E : Nat → am_G → (Nat → Nat → Int32) → (Nat → Nat → Int64) → Prop} (hT : a_ev x tn = true → A 1 G I J) (hF : a_ev x tn = false → A 0 G (am_u I 59 0 2) J) : q_W β xs L (d + 1) 167 0 [.ref 59, .int x] [] (G, I, J) (q_Ri A E) := by
  have at18 : ∀ b : Bool, b = a_ev x tn → q_W β xs L (d + 1) 167 18 [.ref 59, .int x] [.int (a_is b), .ref 59] (G, I, J) (q_Ri A E) := fun b hb => g_167_18 hR _ _ (q_right (d := d) hR b h0 (by decide) (Nat.le_refl _) (fun z => ⟨Or.inr rfl, hT (hb.symm.trans z)⟩) (fun z => ⟨Or.inl rfl, hF (hb.symm.trans z)⟩))
  refine g_167_0 hR _ ?_
  rw [h1]
  exact ⟨fun z => g_167_17 hR _ (at18 false (by simp [a_ev, z])), fun z => ⟨fun y => g_167_17 hR _ (at18 false (by simp [a_ev, y])), fun y => at18 true (by simp [a_ev, z, y])⟩⟩
theorem q_isDay {d d' : Nat} (hR : q_RT G) (x : Int32) (hd : d ≤ d') {A : Int32 → am_G → (Nat → Nat → Int32) → (Nat → Nat → Int64) → Prop} {E : Nat → am_G → (Nat → Nat → Int32) → (Nat → Nat → Int64) → Prop} (h : A (a_is (a_dy x)) G I J) : q_W β xs L d' 109 0 [.int x] [] (G, I, J) (q_Ri A E) :=
  q_useR (r_isDay (β := β) (xs := xs) (L := L) (d := d) hR x) hd (fun o h' P => by obtain ⟨rfl, rfl⟩ := P; exact h)
def o_force (x1 x2 x3 : Int32) : w_T → Nat × Int32 := fun w => match w with
  | ((nl, nq, np, nf, na, tn, tp), tb, fp, D) => (a_bt (a_lt x1 na && a_dy x2) (a_ev x3 tn), a_is (bt (a_force D x2 x3 (-1)) (a_ix x1)))
theorem k_force {d e : Nat} {w : w_T} (hC : c_I e w G I J) (hw : w_O w) (x1 x2 x3 : Int32) : q_W β xs L (d + 2) 80 0 [.ref 0, .int x1, .int x2, .int x3] [] (G, I, J) (k_T (o_force x1 x2 x3 w).1 w e I J (o_force x1 x2 x3 w).2) := by
  obtain ⟨⟨nl, nq, np, nf, na, tn, tp⟩, tb, fp, D⟩ := w
  have hC0 := hC
  obtain ⟨j, hL, hD, h3, h4, h5, h6⟩ := hC
  have hna : na ≤ 12 := hw.1.1.2.1.2.2.2
  have hDn : D 59 32 = nI na := hw.1.1.1.2.2
  have ht : tn ≤ 999 := hw.2.2.1
  have hR := hL.2.1
  have e1 : I 16 15 = nI na := hD.1.2.2.2.2
  have bad : ∀ t : Nat, t ≠ 0 → (o_force x1 x2 x3 ((nl, nq, np, nf, na, tn, tp), tb, fp, D)).1 = t → k_T (o_force x1 x2 x3 ((nl, nq, np, nf, na, tn, tp), tb, fp, D)).1 ((nl, nq, np, nf, na, tn, tp), tb, fp, D) e I J (o_force x1 x2 x3 ((nl, nq, np, nf, na, tn, tp), tb, fp, D)).2 (.inr t) (am_thr (G, I, J)) := fun t ht0 hto => by
    rw [hto]
    refine ⟨?_, e + 1, _, I, J, Nat.le_refl _, rfl, f_c.rf I, f_c.rf J, c_inv.tw hC0⟩
    rw [if_neg ht0]
  refine g_80_0 hR _ _ _ ?_
  rw [e1]
  refine q_needN (d := d) hR x1 na (by omega) (fun b1 => ?_) (fun b1 => bad 1 (by decide) (by show a_bt _ _ = 1; rw [b1]; rfl))
  refine q_needD (d := d) hR x2 (by omega) (fun b2 => ?_) (fun b2 => bad 1 (by decide) (by show a_bt _ _ = 1; rw [b2, Bool.and_false]; rfl))
  refine q_needE (d := d) (tn := tn) hR h3.1 x3 (by omega) (fun b3 => ?_) (fun b3 => bad 2 (by decide) (by show a_bt _ _ = 2; rw [b1, b2, b3]; rfl))
  obtain ⟨a, ha, hx⟩ := a_lt_of (by omega) b1
  subst hx
  refine ⟨hR, q_useI (s_known (β := β) (xs := xs) (L := L) (d := d) hR (n := na) e1 (by omega) x3) (by omega) ?_⟩
  refine q_useI (c_force (β := β) (xs := xs) (L := L) (d := d) hR hD hDn hna x2 x3 (-1) (fun b hb => ?_)) (by omega) ?_
  · have hb : b < na := hb
    show _ = a_knA D x3 (-1) b
    rw [s_bits_bt _ na b (by omega) (by omega)]
    obtain ⟨-, -, -, d4, d5, -⟩ := hD.2.2.2.2 b hb
    unfold a_knA s_kn
    rw [d4, d5]
    simp [hb, nI_m1 (a := b) (by omega)]
  · have ev : o_force (nI a) x2 x3 ((nl, nq, np, nf, na, tn, tp), tb, fp, D) = (0, a_is (bt (a_force D x2 x3 (-1)) a)) := by
      show (a_bt _ _, a_is (bt _ (a_ix (nI a)))) = _
      rw [b1, b2, b3, show a_ix (nI a) = a from nI_clamp (by omega)]
      rfl
    rw [ev, s_bit1 _ (by omega)]
    have fin : ∀ b : Bool, bt (a_force D x2 x3 (-1)) a = b → q_W β xs L (d + 2) 80 49 [.ref 0, .int (nI a), .int x2, .int x3] [.int (a_is b)] (G, I, J) (k_T 0 ((nl, nq, np, nf, na, tn, tp), tb, fp, D) e I J (a_is (bt (a_force D x2 x3 (-1)) a))) := fun b hb => g_80_49 hR _ _ _ _ ⟨by cases b; exact Or.inl rfl; exact Or.inr rfl, by rw [hb]; rfl, e, G, I, J, Nat.le_succ _, rfl, f_c.rf I, f_c.rf J, hC0⟩
    refine ⟨fun z => fin false ?_, fun z => fin true z⟩
    cases hh : bt (a_force D x2 x3 (-1)) a with
    | false => rfl
    | true => exact absurd hh z
theorem p_force {d v : Nat} {w : w_T} (hr : r_I v w I J) (hw : w_O w) (hR : q_RT G) (x1 x2 x3 : Int32) : q_W β xs L (d + 2) 168 0 [.ref 59, .int x1, .int x2, .int x3] [] (G, I, J) (p_P w v G I J (o_force x1 x2 x3 w).1 (o_force x1 x2 x3 w).2) := by
  obtain ⟨⟨nl, nq, np, nf, na, tn, tp⟩, tb, fp, D⟩ := w
  have hr0 : r_I v ((nl, nq, np, nf, na, tn, tp), tb, fp, D) (am_u I 59 0 0) J := hr.c0 0
  obtain ⟨hD, h2, -⟩ := hr0
  have hna : na ≤ 12 := hw.1.1.2.1.2.2.2
  have hDn : D 59 32 = nI na := hw.1.1.1.2.2
  have e32 : I 59 32 = nI na := hD.1.2.2.2.2
  have f0 : f_r I (am_u I 59 0 0) := (f_r.rf I).up _ _ (by decide)
  have bad : ∀ t : Nat, t ≠ 0 → (o_force x1 x2 x3 ((nl, nq, np, nf, na, tn, tp), tb, fp, D)).1 = t → q_W β xs L (d + 2) 168 64 [.ref 59, .int x1, .int x2, .int x3] [] (G, am_u (am_u I 59 0 0) 59 0 (nI t), J) (p_P ((nl, nq, np, nf, na, tn, tp), tb, fp, D) v G I J (o_force x1 x2 x3 ((nl, nq, np, nf, na, tn, tp), tb, fp, D)).1 (o_force x1 x2 x3 ((nl, nq, np, nf, na, tn, tp), tb, fp, D)).2) := fun t ht0 hto => by
    rw [hto]
    exact g_168_64 hR _ _ _ (g_168_65 hR _ _ _ _ ⟨Or.inl rfl, _, _, J, rfl, fun q => absurd q ht0, rfl, f0.up _ _ (by decide), f_r.rf J, am_u_same, ((hr.c0 0).c0 _).mono (Nat.le_succ _)⟩)
  have at30 : ∀ b : Bool, b = (a_lt x1 na && a_dy x2) → q_W β xs L (d + 2) 168 30 [.ref 59, .int x1, .int x2, .int x3] [.int (a_is b), .ref 59] (G, am_u I 59 0 0, J) (p_P ((nl, nq, np, nf, na, tn, tp), tb, fp, D) v G I J (o_force x1 x2 x3 ((nl, nq, np, nf, na, tn, tp), tb, fp, D)).1 (o_force x1 x2 x3 ((nl, nq, np, nf, na, tn, tp), tb, fp, D)).2) := fun b hb => by
    refine g_168_30 hR _ _ _ _ (q_right (d := d) hR b am_u_same (by decide) (by omega) (fun z => ?_) (fun z => ?_))
    · refine ⟨fun q => absurd q (by decide), fun _ => ?_⟩
      rw [z] at hb
      have hb' := hb.symm
      rw [Bool.and_eq_true] at hb'
      obtain ⟨b1, b2⟩ := hb'
      refine r_isEv (d := d) (tn := tn) hR h2.1 x3 am_u_same (fun b3 => ?_) (fun b3 => ⟨fun _ => bad 2 (by decide) (by show a_bt _ _ = 2; rw [b1, b2, b3]; rfl), fun q => absurd rfl q⟩)
      refine ⟨fun q => absurd q (by decide), fun _ => ?_⟩
      obtain ⟨a, ha, hx⟩ := a_lt_of (by omega) b1
      subst hx
      have ev : o_force (nI a) x2 x3 ((nl, nq, np, nf, na, tn, tp), tb, fp, D) = (0, a_is (bt (a_force D x2 x3 (-1)) a)) := by
        show (a_bt _ _, a_is (bt _ (a_ix (nI a)))) = _
        rw [b1, b2, b3, show a_ix (nI a) = a from nI_clamp (by omega)]
        rfl
      refine q_useI (r_force (β := β) (xs := xs) (L := L) (d := d) hR hD hDn hna x2 x3 (-1)) (by omega) ?_
      rw [ev, s_bit1 _ (by omega)]
      have fin : ∀ b : Bool, bt (a_force D x2 x3 (-1)) a = b → q_W β xs L (d + 2) 168 65 [.ref 59, .int (nI a), .int x2, .int x3] [.int (a_is b)] (G, am_u I 59 0 0, J) (p_P ((nl, nq, np, nf, na, tn, tp), tb, fp, D) v G I J 0 (a_is (bt (a_force D x2 x3 (-1)) a))) := fun b hb => g_168_65 hR _ _ _ _ ⟨by cases b; exact Or.inl rfl; exact Or.inr rfl, _, _, J, rfl, fun _ => by rw [hb], rfl, f0, f_r.rf J, am_u_same, (hr.c0 0).mono (Nat.le_succ _)⟩
      refine ⟨fun z => g_168_64 hR _ _ _ (fin false ?_), fun z => fin true z⟩
      cases hh : bt (a_force D x2 x3 (-1)) a with
      | false => rfl
      | true => exact absurd hh z
    · refine ⟨fun _ => bad 1 (by decide) ?_, fun q => absurd rfl q⟩
      show a_bt _ _ = 1
      rw [← hb, z]
      rfl
  refine g_168_0 hR _ _ _ ?_
  rw [e32]
  refine ⟨fun z => g_168_29 hR _ _ _ (at30 false (by simp [a_lt, z])), fun z => ⟨fun y => g_168_29 hR _ _ _ (at30 false (by simp [a_lt, y])), fun y => ?_⟩⟩
  refine q_isDay (d := d) hR x2 (by omega) ⟨fun u => g_168_29 hR _ _ _ (at30 false (by rw [a_is_0.mp u, Bool.and_false])), fun u => at30 true ?_⟩
  have : a_dy x2 = true := by
    cases hh : a_dy x2 with
    | true => rfl
    | false => exact absurd (a_is_0.mpr hh) u
  rw [this]
  simp [a_lt, z, y]
end Inv9

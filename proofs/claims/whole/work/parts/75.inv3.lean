/-! ===== places, persons ===== -/
def a_par (x : Int32) (n : Nat) : Bool := !decide (x < -1) && decide (x < nI n)
theorem a_par_nn {x : Int32} {n : Nat} (hn : n < 2 ^ 31) (h : a_par x n = true) : a_nn n x := by
  unfold a_par at h
  rw [Bool.and_eq_true] at h
  have h1 : ¬ x < -1 := by simpa using h.1
  have h2 : x < nI n := of_decide_eq_true h.2
  by_cases h0 : x < 0
  · left
    rw [Int32.lt_iff_toInt_lt] at h0 h1
    apply Int32.toInt_inj.mp
    have e0 : (0 : Int32).toInt = 0 := by decide
    have e1 : (-1 : Int32).toInt = -1 := by decide
    omega
  · obtain ⟨i, hi, hx⟩ := nI_of h0
    rw [hx, nI_ltI hi hn] at h2
    exact Or.inr ⟨i, h2, hx⟩
def o_person (x1 x2 x3 : Int32) : w_T → Int32 × w_T := fun w => match w with
  | ((nl, nq, np, nf, na, tn, tp), tb, fp, D) => if np < 20 ∧ (x1 = 0 ∨ x1 = 1) ∧ a_par x2 np = true ∧ a_par x3 np = true then (nI np, ((nl, nq, np + 1, nf, na, tn, tp), tb, fp, am_u (am_u (am_u (am_u D 61 np x1) 62 np x2) 63 np x3) 59 5 (nI (np + 1)))) else (-1, w)
theorem w_place {w : w_T} (h : w_O w) (x : Int32) : w_O (o_place x w).2 := by
  obtain ⟨⟨nl, nq, np, nf, na, tn, tp⟩, tb, fp, D⟩ := w
  obtain ⟨⟨⟨⟨p1, p2, p3⟩, ⟨b1, b2, b3, b4⟩, p4⟩, hA, hF, hT, h6, hf2⟩, hDR, ht, hp⟩ := h
  unfold o_place
  dsimp only
  split
  · rename_i hlt
    show w_ok nl (nq + 1) np nf na tn tp (am_u (am_u D 60 nq x) 59 4 (nI (nq + 1)))
    refine ⟨⟨⟨⟨p1, p2, p3⟩, ⟨b1, by omega, b3, b4⟩, p4⟩, hA, fun f hf => ?_, hT, h6, hf2⟩, hDR, ht, hp⟩
    obtain ⟨⟨kd, h1, h2, h3, h4, h5⟩, h6⟩ := hF f hf
    exact ⟨⟨kd, h1, h2, h3, h4, fun x => by obtain ⟨l, z1, z2⟩ := h5 x; exact ⟨l, by have : l < nq := z1; omega, z2⟩⟩, h6⟩
  · exact ⟨⟨⟨⟨p1, p2, p3⟩, ⟨b1, b2, b3, b4⟩, p4⟩, hA, hF, hT, h6, hf2⟩, hDR, ht, hp⟩
theorem w_person {w : w_T} (h : w_O w) (x1 x2 x3 : Int32) : w_O (o_person x1 x2 x3 w).2 := by
  obtain ⟨⟨nl, nq, np, nf, na, tn, tp⟩, tb, fp, D⟩ := w
  obtain ⟨⟨⟨⟨p1, p2, p3⟩, ⟨b1, b2, b3, b4⟩, p4⟩, hA, hF, hT, h6, hf2⟩, hDR, ht, hp⟩ := h
  have hnp : np ≤ 20 := b3
  unfold o_person
  dsimp only
  split
  · rename_i hlt
    obtain ⟨q1, q2, q3, q4⟩ := hlt
    have n2 := a_par_nn (by omega) q3
    have n3 := a_par_nn (by omega) q4
    show w_ok nl nq (np + 1) nf na tn tp (am_u (am_u (am_u (am_u D 61 np x1) 62 np x2) 63 np x3) 59 5 (nI (np + 1)))
    have r62 : ∀ p, am_u (am_u (am_u (am_u D 61 np x1) 62 np x2) 63 np x3) 59 5 (nI (np + 1)) 62 p = if p = np then x2 else D 62 p := fun p => by simp [am_u]
    have r63 : ∀ p, am_u (am_u (am_u (am_u D 61 np x1) 62 np x2) 63 np x3) 59 5 (nI (np + 1)) 63 p = if p = np then x3 else D 63 p := fun p => by simp [am_u]
    refine ⟨⟨⟨⟨p1, am_u_same, p3⟩, ⟨b1, b2, by omega, b4⟩, fun p hp => ?_⟩, hA, fun f hf => ?_, hT, h6, hf2⟩, fun p hp => ?_, ht, hp⟩
    · rw [r62, r63]
      by_cases e : p = np
      · rw [if_pos e, if_pos e]
        exact ⟨n2.mono (by omega), n3.mono (by omega)⟩
      · rw [if_neg e, if_neg e]
        have := p4 p (by show p < np; omega)
        exact ⟨this.1.mono (by show np ≤ _; omega), this.2.mono (by show np ≤ _; omega)⟩
    · obtain ⟨⟨kd, h1, h2, h3, h4, h5⟩, h6⟩ := hF f hf
      refine ⟨⟨kd, h1, h2, fun x => ?_, h4, h5⟩, h6⟩
      obtain ⟨p, z1, z2, z3⟩ := h3 x
      refine ⟨p, by have : p < np := z1; omega, z2, fun y => ?_⟩
      obtain ⟨q, y1, y2, y3⟩ := z3 y
      exact ⟨q, by have : q < np := y1; omega, y2, y3⟩
    · rw [r62, r63]
      by_cases e : p = np
      · rw [if_pos e, if_pos e, e]
        exact ⟨n2, n3⟩
      · rw [if_neg e, if_neg e]
        exact hDR p (by show p < np; omega)
  · exact ⟨⟨⟨⟨p1, p2, p3⟩, ⟨b1, b2, b3, b4⟩, p4⟩, hA, hF, hT, h6, hf2⟩, hDR, ht, hp⟩
section Inv3
variable {β : Bool} {xs : Nat → Int32} {L : Nat} {G : am_G} {I : a_F} {J : Nat → Nat → Int64}
theorem k_place {d e : Nat} {w : w_T} (hC : c_I e w G I J) (hw : w_O w) (x : Int32) : q_W β xs L (d + 1) 71 0 [.ref 0, .int x] [] (G, I, J) (k_P (o_place x w).2 e 0 I J (o_place x w).1) := by
  obtain ⟨⟨nl, nq, np, nf, na, tn, tp⟩, tb, fp, D⟩ := w
  obtain ⟨j, hL, hD, h3, h4, h5, h6⟩ := hC
  have hq : nq ≤ 12 := hw.1.1.2.1.2.1
  have hR := hL.2.1
  have e11 : I 1 1 = nI nq := hD.1.2.1
  have e12 : I 1 2 = nI nl := hD.1.1
  have lt : nI nq < 12 ↔ nq < 12 := nI_ltI (b := 12) (by omega) (by omega)
  have no : ¬ (nq < 12 ∧ ¬ x < -1 ∧ x < nI nl) → q_W β xs L (d + 1) 71 28 [.ref 0, .int x] [] (G, I, J) (k_P (o_place x ((nl, nq, np, nf, na, tn, tp), tb, fp, D)).2 e 0 I J (o_place x ((nl, nq, np, nf, na, tn, tp), tb, fp, D)).1) := fun z => by
    have e : o_place x ((nl, nq, np, nf, na, tn, tp), tb, fp, D) = (-1, ((nl, nq, np, nf, na, tn, tp), tb, fp, D)) := if_neg z
    rw [e]
    exact g_71_28 hR _ ⟨rfl, G, I, J, rfl, f_c.rf I, f_c.rf J, j, hL, hD, h3, h4, h5, h6⟩
  refine g_71_0 hR _ ?_
  rw [e11, e12, lt]
  refine ⟨fun z => no (fun q => z q.1), fun z => ⟨fun y => no (fun q => q.2.1 y), fun y => ⟨fun v => ?_, fun v => no (fun q => v q.2.2)⟩⟩⟩
  refine q_useF (c_forget (β := β) (xs := xs) (L := L) (d := d) hR) (Nat.le_refl _) ⟨hR, ?_⟩
  have e : o_place x ((nl, nq, np, nf, na, tn, tp), tb, fp, D) = (nI nq, ((nl, nq + 1, np, nf, na, tn, tp), tb, fp, am_u (am_u D 60 nq x) 59 4 (nI (nq + 1)))) := if_pos ⟨z, y, v⟩
  have e1 : am_u I 0 11 (-1) 1 1 = nI nq := e11
  rw [e, e1, nI_1, nI_pred, show (nI nq).toNatClampNeg = nq from nI_clamp (by omega)]
  refine ⟨am_is_nI (by omega) (by omega), rfl, G, _, _, rfl, (((f_c.rf I).up _ _ (by decide)).up _ _ (by decide)).up _ _ (by decide), (f_c.rf J).up _ _ (by decide), j, hL, ?_, h3, h4, Or.inl am_u_same, Or.inl ?_⟩
  · obtain ⟨⟨c1, c2, c3, c4, c5⟩, d2, d3, d4, d5⟩ := hD
    refine ⟨⟨c1, am_u_same, c3, c4, c5⟩, fun q hq2 => ?_, d3, d4, d5⟩
    show am_u (am_u (am_u I 0 11 (-1)) 2 nq x) 1 1 (nI (nq + 1)) 2 q = am_u (am_u D 60 nq x) 59 4 (nI (nq + 1)) 60 q
    have := d2 q
    by_cases hqn : q = nq
    · subst hqn; simp [am_u]
    · simp [am_u, hqn]
      exact this (by show q < nq; have : q < nq + 1 := hq2; omega)
  · rw [am_u_ne (Or.inl (by decide)), am_u_ne (Or.inl (by decide)), am_u_same]
theorem p_place {d v : Nat} {w : w_T} (hr : r_I v w I J) (hw : w_O w) (hR : q_RT G) (x : Int32) : q_W β xs L d 105 0 [.ref 59, .int x] [] (G, I, J) (p_P (o_place x w).2 v G I J 0 (o_place x w).1) := by
  obtain ⟨⟨nl, nq, np, nf, na, tn, tp⟩, tb, fp, D⟩ := w
  have hr0 := hr.c0 0
  obtain ⟨hD, h2, h3, ⟨ve, fv, h4, h5, h6, h7, h8⟩, h9⟩ := hr
  have hq : nq ≤ 12 := hw.1.1.2.1.2.1
  have e3 : I 59 3 = nI nl := hD.1.1
  have e4 : I 59 4 = nI nq := hD.1.2.1
  have eq12 : nI nq = 12 ↔ nq = 12 := nI_eq (b := 12) (by omega) (by omega)
  have no : ¬ (nq < 12 ∧ ¬ x < -1 ∧ x < nI nl) → q_W β xs L d 105 27 [.ref 59, .int x] [] (G, am_u I 59 0 0, J) (p_P (o_place x ((nl, nq, np, nf, na, tn, tp), tb, fp, D)).2 v G I J 0 (o_place x ((nl, nq, np, nf, na, tn, tp), tb, fp, D)).1) := fun z => by
    have e : o_place x ((nl, nq, np, nf, na, tn, tp), tb, fp, D) = (-1, ((nl, nq, np, nf, na, tn, tp), tb, fp, D)) := if_neg z
    rw [e]
    exact g_105_27 hR _ ⟨_, _, J, rfl, fun _ => rfl, rfl, (f_r.rf I).up _ _ (by decide), f_r.rf J, am_u_same, hr0.mono (Nat.le_succ _)⟩
  refine g_105_0 hR _ ?_
  rw [e3, e4, eq12]
  refine ⟨fun z => no (fun q => by omega), fun z => ⟨fun y => no (fun q => q.2.1 y), fun y => ⟨fun u => ?_, fun u => no (fun q => u q.2.2)⟩⟩⟩
  have e : o_place x ((nl, nq, np, nf, na, tn, tp), tb, fp, D) = (nI nq, ((nl, nq + 1, np, nf, na, tn, tp), tb, fp, am_u (am_u D 60 nq x) 59 4 (nI (nq + 1)))) := if_pos ⟨by omega, y, u⟩
  rw [e, nI_1, nI_pred, show (nI nq).toNatClampNeg = nq from nI_clamp (by omega)]
  refine ⟨am_is_nI (by omega) (by omega), _, _, J, rfl, fun _ => rfl, rfl, (((f_r.rf I).up _ _ (by decide)).up _ _ (by decide)).up _ _ (by decide), f_r.rf J, rfl, ?_, h2, h3, ⟨ve, fv, by omega, h5, h6, h7, fun q => ?_⟩, h9⟩
  · obtain ⟨⟨c1, c2, c3, c4, c5⟩, d2, d3, d4, d5⟩ := hD
    refine ⟨⟨c1, am_u_same, c3, c4, c5⟩, fun q hq2 => ?_, d3, d4, d5⟩
    show am_u (am_u (am_u I 59 0 0) 60 nq x) 59 4 (nI (nq + 1)) 60 q = am_u (am_u D 60 nq x) 59 4 (nI (nq + 1)) 60 q
    have := d2 q
    by_cases hqn : q = nq
    · subst hqn; simp [am_u]
    · simp [am_u, hqn]
      exact this (by show q < nq; have : q < nq + 1 := hq2; omega)
  · obtain ⟨day, k, k1, k2, k3, k4, k5⟩ := h8 q
    have hDD : a_DD D (am_u (am_u D 60 nq x) 59 4 (nI (nq + 1))) := ⟨fun c h1 h2 => by rw [am_u_row _ _ _ _ h1, am_u_row _ _ _ _ h2], fun i hi => by rw [am_u_ne (Or.inr hi), am_u_ne (Or.inl (by decide))]⟩
    have hW : a_D nl nq np nf na D := hw.1
    refine ⟨day, k, k1, k2, k3, k4, fun wy hwy p hp => ?_⟩
    rw [m_ways hDD, m_doubts hDD] at hwy
    have := (m_run hDD (fun q hq => by rw [am_u_ne (Or.inl (by decide)), am_u_ne (Or.inr (by omega))]) hW wy (nI day) (nI k) (-1)).1 0 (by decide)
    rw [this]
    exact k5 wy hwy p hp
theorem c_isParent {d np : Nat} (hR : q_RT G) (h3 : I 3 3 = nI np) (x : Int32) : q_W β xs L d 96 0 [.ref 0, .int x] [] (G, I, J) (fun o h => o = .inl (some (.int (a_is (a_par x np)))) ∧ h = (G, I, J)) := by
  refine g_96_0 hR _ ?_
  rw [h3]
  exact ⟨fun z => g_96_20 hR _ (g_96_21 hR _ _ ⟨Or.inl rfl, by simp [a_par, z, a_is], rfl⟩), fun z => ⟨fun y => g_96_20 hR _ (g_96_21 hR _ _ ⟨Or.inl rfl, by simp [a_par, y, a_is], rfl⟩), fun y => g_96_21 hR _ _ ⟨Or.inr rfl, by simp [a_par, z, y, a_is], rfl⟩⟩⟩
theorem k_person {d e : Nat} {w : w_T} (hC : c_I e w G I J) (hw : w_O w) (x1 x2 x3 : Int32) : q_W β xs L (d + 1) 72 0 [.ref 0, .int x1, .int x2, .int x3, .retAddr 0] [] (G, I, J) (k_P (o_person x1 x2 x3 w).2 e 0 I J (o_person x1 x2 x3 w).1) := by
  obtain ⟨⟨nl, nq, np, nf, na, tn, tp⟩, tb, fp, D⟩ := w
  obtain ⟨j, hL, hD, h3, h4, h5, h6⟩ := hC
  have hq : np ≤ 20 := hw.1.1.2.1.2.2.1
  have hR := hL.2.1
  have e33 : I 3 3 = nI np := hD.1.2.2.1
  have lt : nI np < 20 ↔ np < 20 := nI_ltI (b := 20) (by omega) (by omega)
  have no49 : ¬ (np < 20 ∧ (x1 = 0 ∨ x1 = 1) ∧ a_par x2 np = true ∧ a_par x3 np = true) → ∀ i4, q_W β xs L (d + 1) 72 49 [.ref 0, .int x1, .int x2, .int x3, .int i4] [] (G, I, J) (k_P (o_person x1 x2 x3 ((nl, nq, np, nf, na, tn, tp), tb, fp, D)).2 e 0 I J (o_person x1 x2 x3 ((nl, nq, np, nf, na, tn, tp), tb, fp, D)).1) := fun z i4 => by
    have e : o_person x1 x2 x3 ((nl, nq, np, nf, na, tn, tp), tb, fp, D) = (-1, ((nl, nq, np, nf, na, tn, tp), tb, fp, D)) := if_neg z
    rw [e]
    exact g_72_49 hR _ _ _ _ ⟨rfl, G, I, J, rfl, f_c.rf I, f_c.rf J, j, hL, hD, h3, h4, h5, h6⟩
  have no : ¬ (np < 20 ∧ (x1 = 0 ∨ x1 = 1) ∧ a_par x2 np = true ∧ a_par x3 np = true) → q_W β xs L (d + 1) 72 29 [.ref 0, .int x1, .int x2, .int x3, .retAddr 0] [] (G, I, J) (k_P (o_person x1 x2 x3 ((nl, nq, np, nf, na, tn, tp), tb, fp, D)).2 e 0 I J (o_person x1 x2 x3 ((nl, nq, np, nf, na, tn, tp), tb, fp, D)).1) := fun z =>
    g_72_29 hR _ _ _ (g_72_30 hR _ _ _ _ ⟨fun _ => no49 z _, fun q => absurd rfl q⟩)
  have at9 : (x1 = 0 ∨ x1 = 1) → q_W β xs L (d + 1) 72 9 [.ref 0, .int x1, .int x2, .int x3, .retAddr 0] [] (G, I, J) (k_P (o_person x1 x2 x3 ((nl, nq, np, nf, na, tn, tp), tb, fp, D)).2 e 0 I J (o_person x1 x2 x3 ((nl, nq, np, nf, na, tn, tp), tb, fp, D)).1) := fun hs => by
    refine g_72_9 hR _ _ _ (q_useI (c_isParent (β := β) (xs := xs) (L := L) (d := d) hR e33 x2) (Nat.le_refl _) ⟨fun z => no (fun q => ?_), fun z => q_useI (c_isParent (β := β) (xs := xs) (L := L) (d := d) hR e33 x3) (Nat.le_refl _) ⟨fun y => no (fun q => ?_), fun y => ?_⟩⟩)
    · have := a_is_0.mp z
      rw [q.2.2.1] at this
      cases this
    · have := a_is_0.mp y
      rw [q.2.2.2] at this
      cases this
    · have p2 : a_par x2 np = true := by
        cases hz : a_par x2 np with
        | true => rfl
        | false => exact absurd (a_is_0.mpr hz) z
      have p3 : a_par x3 np = true := by
        cases hz : a_par x3 np with
        | true => rfl
        | false => exact absurd (a_is_0.mpr hz) y
      refine g_72_30 hR _ _ _ _ ⟨fun q => absurd q (by decide), fun _ => ?_⟩
      rw [e33, lt]
      refine ⟨fun u => ?_, fun u => no49 (fun q => u q.1) _⟩
      refine q_useF (c_forget (β := β) (xs := xs) (L := L) (d := d) hR) (Nat.le_refl _) ⟨hR, ?_⟩
      have e : o_person x1 x2 x3 ((nl, nq, np, nf, na, tn, tp), tb, fp, D) = (nI np, ((nl, nq, np + 1, nf, na, tn, tp), tb, fp, am_u (am_u (am_u (am_u D 61 np x1) 62 np x2) 63 np x3) 59 5 (nI (np + 1)))) := if_pos ⟨u, hs, p2, p3⟩
      have e1 : am_u I 0 11 (-1) 3 3 = nI np := e33
      have ip : am_is (nI np) 20 = true := am_is_nI (by omega) (by omega)
      rw [e, e1, nI_1, nI_pred, show (nI np).toNatClampNeg = np from nI_clamp (by omega)]
      refine ⟨ip, ip, ip, rfl, G, _, _, rfl, (((((f_c.rf I).up _ _ (by decide)).up _ _ (by decide)).up _ _ (by decide)).up _ _ (by decide)).up _ _ (by decide), (f_c.rf J).up _ _ (by decide), j, hL, ?_, h3, h4, Or.inl am_u_same, Or.inl rfl⟩
      obtain ⟨⟨c1, c2, c3, c4, c5⟩, d2, d3, d4, d5⟩ := hD
      refine ⟨⟨c1, c2, am_u_same, c4, c5⟩, d2, fun p hp => ?_, d4, d5⟩
      show am_u (am_u (am_u (am_u (am_u I 0 11 (-1)) 4 np x1) 5 np x2) 6 np x3) 3 3 (nI (np + 1)) 4 p = am_u (am_u (am_u (am_u D 61 np x1) 62 np x2) 63 np x3) 59 5 (nI (np + 1)) 61 p ∧ am_u (am_u (am_u (am_u (am_u I 0 11 (-1)) 4 np x1) 5 np x2) 6 np x3) 3 3 (nI (np + 1)) 5 p = am_u (am_u (am_u (am_u D 61 np x1) 62 np x2) 63 np x3) 59 5 (nI (np + 1)) 62 p ∧ am_u (am_u (am_u (am_u (am_u I 0 11 (-1)) 4 np x1) 5 np x2) 6 np x3) 3 3 (nI (np + 1)) 6 p = am_u (am_u (am_u (am_u D 61 np x1) 62 np x2) 63 np x3) 59 5 (nI (np + 1)) 63 p
      have := d3 p
      by_cases hpn : p = np
      · subst hpn; simp [am_u]
      · simp [am_u, hpn]
        exact this (by show p < np; have : p < np + 1 := hp; omega)
  refine g_72_0 hR _ _ _ ⟨fun z => at9 (Or.inl z), fun z => ⟨fun y => no (fun q => q.2.1.elim z y), fun y => at9 (Or.inr y)⟩⟩
theorem p_person {d v : Nat} {w : w_T} (hr : r_I v w I J) (hw : w_O w) (hR : q_RT G) (x1 x2 x3 : Int32) : q_W β xs L d 106 0 [.ref 59, .int x1, .int x2, .int x3] [] (G, I, J) (p_P (o_person x1 x2 x3 w).2 v G I J 0 (o_person x1 x2 x3 w).1) := by
  obtain ⟨⟨nl, nq, np, nf, na, tn, tp⟩, tb, fp, D⟩ := w
  have hr0 := hr.c0 0
  obtain ⟨hD, h2, h3, ⟨ve, fv, h4, h5, h6, h7, h8⟩, h9⟩ := hr
  have hq : np ≤ 20 := hw.1.1.2.1.2.2.1
  have e5 : I 59 5 = nI np := hD.1.2.2.1
  have eq20 : nI np = 20 ↔ np = 20 := nI_eq (b := 20) (by omega) (by omega)
  have no : ¬ (np < 20 ∧ (x1 = 0 ∨ x1 = 1) ∧ a_par x2 np = true ∧ a_par x3 np = true) → q_W β xs L d 106 49 [.ref 59, .int x1, .int x2, .int x3] [] (G, am_u I 59 0 0, J) (p_P (o_person x1 x2 x3 ((nl, nq, np, nf, na, tn, tp), tb, fp, D)).2 v G I J 0 (o_person x1 x2 x3 ((nl, nq, np, nf, na, tn, tp), tb, fp, D)).1) := fun z => by
    have e : o_person x1 x2 x3 ((nl, nq, np, nf, na, tn, tp), tb, fp, D) = (-1, ((nl, nq, np, nf, na, tn, tp), tb, fp, D)) := if_neg z
    rw [e]
    exact g_106_49 hR _ _ _ ⟨_, _, J, rfl, fun _ => rfl, rfl, (f_r.rf I).up _ _ (by decide), f_r.rf J, am_u_same, hr0.mono (Nat.le_succ _)⟩
  refine g_106_0 hR _ _ _ ?_
  rw [e5, eq20]
  have par : ∀ x, ¬ x < -1 → x < nI np → a_par x np = true := fun x h1 h2 => by simp [a_par, h1, h2]
  refine ⟨fun z => no (fun q => by omega), fun z => ⟨fun y => no (fun q => ?_), fun y => ⟨fun u => no (fun q => ?_), fun u => ⟨fun t => no (fun q => ?_), fun t => ⟨fun s => no (fun q => ?_), fun s => ⟨fun r => no (fun q => ?_), fun r => ⟨fun a => ?_, fun a => no (fun q => ?_)⟩⟩⟩⟩⟩⟩⟩
  · rcases q.2.1 with h | h <;> (rw [h] at y; exact absurd y (by decide))
  · rcases q.2.1 with h | h <;> (rw [h] at u; exact absurd u (by decide))
  · have := q.2.2.1
    simp [a_par, t] at this
  · have := q.2.2.1
    simp [a_par, s] at this
  · have := q.2.2.2
    simp [a_par, r] at this
  · have hs : x1 = 0 ∨ x1 = 1 := by
      obtain ⟨i, hi, hx⟩ := nI_of y
      have h1 : ¬ nI 1 < nI i := by rw [← hx]; exact u
      rw [nI_ltI (by omega) hi] at h1
      have : i = 0 ∨ i = 1 := by omega
      rcases this with h | h
      · left; rw [hx, h]; rfl
      · right; rw [hx, h]; rfl
    have e : o_person x1 x2 x3 ((nl, nq, np, nf, na, tn, tp), tb, fp, D) = (nI np, ((nl, nq, np + 1, nf, na, tn, tp), tb, fp, am_u (am_u (am_u (am_u D 61 np x1) 62 np x2) 63 np x3) 59 5 (nI (np + 1)))) := if_pos ⟨by omega, hs, par x2 t s, par x3 r a⟩
    have ip : am_is (nI np) 20 = true := am_is_nI (by omega) (by omega)
    rw [e, h5, nI_1, nI_pred, nI_1, show (nI np).toNatClampNeg = np from nI_clamp (by omega)]
    refine ⟨ip, ip, ip, _, _, J, rfl, fun _ => rfl, rfl, ((((((f_r.rf I).up _ _ (by decide)).up _ _ (by decide)).up _ _ (by decide)).up _ _ (by decide)).up _ _ (by decide)).up _ _ (by decide), f_r.rf J, rfl, ?_, h2, h3, ⟨ve + 1, fv, by omega, am_u_same, h6, by omega, fun q => by omega⟩, h9⟩
    obtain ⟨⟨c1, c2, c3, c4, c5⟩, d2, d3, d4, d5⟩ := hD
    refine ⟨⟨c1, c2, ?_, c4, c5⟩, d2, fun p hp => ?_, d4, d5⟩
    · show am_u _ 59 2 _ 59 5 = _
      rw [am_u_ne (Or.inr (by decide)), am_u_same]
    · show am_u (am_u (am_u (am_u (am_u (am_u I 59 0 0) 61 np x1) 62 np x2) 63 np x3) 59 5 (nI (np + 1))) 59 2 (nI (ve + 1)) 61 p = am_u (am_u (am_u (am_u D 61 np x1) 62 np x2) 63 np x3) 59 5 (nI (np + 1)) 61 p ∧ am_u (am_u (am_u (am_u (am_u (am_u I 59 0 0) 61 np x1) 62 np x2) 63 np x3) 59 5 (nI (np + 1))) 59 2 (nI (ve + 1)) 62 p = am_u (am_u (am_u (am_u D 61 np x1) 62 np x2) 63 np x3) 59 5 (nI (np + 1)) 62 p ∧ am_u (am_u (am_u (am_u (am_u (am_u I 59 0 0) 61 np x1) 62 np x2) 63 np x3) 59 5 (nI (np + 1))) 59 2 (nI (ve + 1)) 63 p = am_u (am_u (am_u (am_u D 61 np x1) 62 np x2) 63 np x3) 59 5 (nI (np + 1)) 63 p
      have := d3 p
      by_cases hpn : p = np
      · subst hpn; simp [am_u]
      · simp [am_u, hpn]
        exact this (by show p < np; have : p < np + 1 := hp; omega)
  · have := q.2.2.2
    simp [a_par, a] at this
end Inv3

/-! ===== facts in the reference; days more; taken back ===== -/
def a_hasd (D : a_F) (f : Nat) (x : Int32) : Nat → Bool
  | 0 => false
  | n + 1 => a_hasd D f x n || decide (D 71 (3 * f + n) = x)
theorem a_hasd_mono {D : a_F} {f : Nat} {x : Int32} {n : Nat} : ∀ m, a_hasd D f x n = true → a_hasd D f x (n + m) = true
  | 0, h => h
  | m + 1, h => by
    show (a_hasd D f x (n + m) || _) = true
    rw [a_hasd_mono m h]
    rfl
def o_also (x1 x2 : Int32) : w_T → Nat × Int32 × w_T := fun w => match w with
  | ((nl, nq, np, nf, na, tn, tp), tb, fp, D) => if a_lt x1 nf = false then (1, 0, w) else if a_ix (D 70 (a_ix x1)) = 3 ∨ a_dy x2 = false ∨ a_hasd D (a_ix x1) x2 (a_ix (D 70 (a_ix x1))) = true then (0, -1, w) else
    (0, nI (a_ix (D 70 (a_ix x1)) + 1), ((nl, nq, np, nf, na, tn, tp), tb, fp, am_u (am_u D 71 (3 * a_ix x1 + a_ix (D 70 (a_ix x1))) x2) 70 (a_ix x1) (nI (a_ix (D 70 (a_ix x1)) + 1))))
def o_back (b : Bool) (x : Int32) : w_T → Nat × Int32 × w_T := fun w => match w with
  | ((nl, nq, np, nf, na, tn, tp), tb, fp, D) => if a_lt x (if b = true then na else nf) = false then (1, 0, w) else if ¬ D (if b = true then 78 else 69) (a_ix x) = -1 then (0, 0, w) else
    (0, 1, ((nl, nq, np, nf, na, tn, tp), tb, fp, am_u D (if b = true then 78 else 69) (a_ix x) (nI tn)))
theorem w_also {w : w_T} (h : w_O w) (x1 x2 : Int32) : w_O (o_also x1 x2 w).2.2 := by
  obtain ⟨⟨nl, nq, np, nf, na, tn, tp⟩, tb, fp, D⟩ := w
  have hw := h
  obtain ⟨⟨hP, hA, hF, hT, h6, hf2⟩, hDR, ht, hp⟩ := h
  have hnf : nf ≤ 100 := hf2
  unfold o_also
  dsimp only
  split
  · exact hw
  · rename_i hlt
    split
    · exact hw
    · rename_i hno
      have hlt : a_lt x1 nf = true := by
        cases hz : a_lt x1 nf with
        | true => rfl
        | false => exact absurd hz hlt
      obtain ⟨f, hf, hx⟩ := a_lt_of (by omega) hlt
      subst hx
      have ef : a_ix (nI f) = f := nI_clamp (by omega)
      rw [ef] at hno ⊢
      obtain ⟨kdp, cn, z2, z3, z4, z5⟩ := hF f hf
      have z4' : D 70 f = nI cn := z4
      have ecn : a_ix (D 70 f) = cn := by rw [z4']; exact nI_clamp (by omega)
      rw [ecn] at hno ⊢
      have hdy : a_dy x2 = true := by
        cases hz : a_dy x2 with
        | true => rfl
        | false => exact absurd (Or.inr (Or.inl hz)) hno
      obtain ⟨dd, hdd, hdd2⟩ := a_dy_of hdy
      have hc3 : cn ≠ 3 := fun q => hno (Or.inl q)
      show w_ok nl nq np nf na tn tp (am_u (am_u D 71 (3 * f + cn) x2) 70 f (nI (cn + 1)))
      refine ⟨⟨hP, hA, fun g hg => ?_, hT, h6, hf2⟩, hDR, ht, hp⟩
      obtain ⟨kdp', cn', y2, y3, y4, y5⟩ := hF g hg
      have hgn : g < nf := hg
      by_cases e : g = f
      · subst e
        have ecc : cn' = cn := nI_inj2 (by omega) (by omega) (y4.symm.trans z4')
        subst ecc
        refine ⟨kdp', cn' + 1, by omega, by omega, am_u_same, fun i hi => ?_⟩
        rw [am_u_ne (Or.inl (by decide))]
        by_cases ei : i = cn'
        · subst ei
          rw [am_u_same]
          exact ⟨dd, hdd, hdd2⟩
        · have hne : 3 * g + i ≠ 3 * g + cn' := by
            clear kdp kdp'
            omega
          rw [am_u_ne (Or.inr hne)]
          exact y5 i (by clear kdp kdp'; omega)
      · refine ⟨kdp', cn', y2, y3, ?_, fun i hi => ?_⟩
        · rw [am_u_ne (Or.inr e)]; exact y4
        · have hne : 3 * g + i ≠ 3 * f + cn := by
            clear kdp kdp'
            omega
          rw [am_u_ne (Or.inl (by decide)), am_u_ne (Or.inr hne)]
          exact y5 i hi
theorem w_back {w : w_T} (h : w_O w) (b : Bool) (x : Int32) : w_O (o_back b x w).2.2 := by
  obtain ⟨⟨nl, nq, np, nf, na, tn, tp⟩, tb, fp, D⟩ := w
  unfold o_back
  dsimp only
  by_cases h1 : a_lt x (if b = true then na else nf) = false
  · rw [if_pos h1]
    exact h
  · rw [if_neg h1]
    by_cases h2 : ¬ D (if b = true then 78 else 69) (a_ix x) = -1
    · rw [if_pos h2]
      exact h
    · rw [if_neg h2]
      cases b
      · exact h
      · exact h
section Inv5
variable {β : Bool} {xs : Nat → Int32} {L : Nat} {G : am_G} {I : a_F} {J : Nat → Nat → Int64}
theorem p_fact {d v : Nat} {w : w_T} (hr : r_I v w I J) (hw : w_O w) (hR : q_RT G) (x1 x2 x3 x4 x5 : Int32) : q_W β xs L (d + 2) 110 0 [.ref 59, .int x1, .int x2, .int x3, .int x4, .int x5] [] (G, I, J) (p_P (o_fact x1 x2 x3 x4 x5 w).2.2 v G I J (o_fact x1 x2 x3 x4 x5 w).1 (o_fact x1 x2 x3 x4 x5 w).2.1) := by
  obtain ⟨⟨nl, nq, np, nf, na, tn, tp⟩, tb, fp, D⟩ := w
  have hr0 := hr.c0 0
  have hr1 := (hr.c0 0).c0 1
  obtain ⟨hD, ⟨h2, h2', h2''⟩, h3, ⟨ve, fv, h4, h5, h6, h7, h8⟩, h9⟩ := hr
  have hn5 := hw.1.1.2.1
  have hl5 : nl ≤ 5 := hn5.1
  have hq12 : nq ≤ 12 := hn5.2.1
  have hp20 : np ≤ 20 := hn5.2.2.1
  have hnf : nf ≤ 100 := hw.1.2.2.2.2.2
  have e3 : am_u I 59 0 0 59 3 = nI nl := hD.1.1
  have e4 : am_u I 59 0 0 59 4 = nI nq := hD.1.2.1
  have e5 : am_u I 59 0 0 59 5 = nI np := hD.1.2.2.1
  have e6 : am_u I 59 0 0 59 6 = nI nf := hD.1.2.2.2.1
  have e1 : am_u I 59 0 0 59 1 = nI tn := h2
  have e2 : am_u I 59 0 0 59 2 = nI ve := h5
  have e0 : am_u I 59 0 0 59 0 = 0 := am_u_same
  generalize hQ : p_P (o_fact x1 x2 x3 x4 x5 ((nl, nq, np, nf, na, tn, tp), tb, fp, D)).2.2 v G I J (o_fact x1 x2 x3 x4 x5 ((nl, nq, np, nf, na, tn, tp), tb, fp, D)).1 (o_fact x1 x2 x3 x4 x5 ((nl, nq, np, nf, na, tn, tp), tb, fp, D)).2.1 = Q
  have fail : f_ck x1 x2 x3 x4 nl nq np = false → Q (.inl (some (.int 0))) (G, am_u (am_u I 59 0 0) 59 0 1, J) := fun z => by
    have eo : o_fact x1 x2 x3 x4 x5 ((nl, nq, np, nf, na, tn, tp), tb, fp, D) = (1, 0, ((nl, nq, np, nf, na, tn, tp), tb, fp, D)) := if_pos z
    rw [← hQ, eo]
    exact ⟨_, _, J, rfl, fun _ => rfl, rfl, ((f_r.rf I).up _ _ (by decide)).up _ _ (by decide), f_r.rf J, am_u_same, hr1.mono (Nat.le_succ _)⟩
  have at148 : f_ck x1 x2 x3 x4 nl nq np = true → ¬ (nf = 100 ∨ a_dy x5 = false ∨ (x1 = 1 ∧ x2 = x3)) → q_W β xs L (d + 2) 110 148 [.ref 59, .int x1, .int x2, .int x3, .int x4, .int x5] [] (G, am_u I 59 0 0, J) Q := by
    intro hck hno
    have nf9 : nf < 100 := by
      have : nf ≠ 100 := fun q => hno (Or.inl q)
      omega
    have eo : o_fact x1 x2 x3 x4 x5 ((nl, nq, np, nf, na, tn, tp), tb, fp, D) = (0, nI nf, ((nl, nq, np, nf + 1, na, tn, tp), tb, fp, am_u (am_u (am_u (am_u (am_u (am_u (am_u (am_u (am_u D 64 nf x1) 65 nf x2) 66 nf x3) 67 nf x4) 68 nf (nI tn)) 69 nf (-1)) 70 nf 1) 71 (3 * nf) x5) 59 6 (nI (nf + 1)))) := by
      show (if _ then _ else _) = _
      rw [if_neg (by rw [hck]; decide), if_neg hno]
    have jn : am_is (nI nf) 100 = true := am_is_nI (by omega) (by omega)
    have c3 : (3 * nI nf : Int32) = nI (3 * nf) := by rw [s_lit, pk_mul]
    refine g_110_148 hR _ _ _ _ _ ?_
    rw [e6, c3, e1, e2, show (nI nf).toNatClampNeg = nf from nI_clamp (by omega), show (nI (3 * nf)).toNatClampNeg = 3 * nf from nI_clamp (by omega), nI_1, nI_pred, nI_1, ← hQ, eo]
    refine ⟨jn, jn, jn, jn, jn, jn, jn, am_is_nI (by omega) (by omega), _, _, J, rfl, fun _ => rfl, rfl, (((((((((((f_r.rf I).up _ _ (by decide)).up _ _ (by decide)).up _ _ (by decide)).up _ _ (by decide)).up _ _ (by decide)).up _ _ (by decide)).up _ _ (by decide)).up _ _ (by decide)).up _ _ (by decide)).up _ _ (by decide)).up _ _ (by decide), f_r.rf J, rfl, ?_, ⟨h2, h2', h2''⟩, h3, ⟨ve + 1, fv, by omega, am_u_same, h6, by omega, fun q => by omega⟩, h9.1, fun j hj => ?_⟩
    rotate_left
    · have hne : ¬ j = 3 * nf := by have : 3 * (nf + 1) ≤ j := hj; omega
      have := h9.2 j (by show 3 * nf ≤ j; have : 3 * (nf + 1) ≤ j := hj; omega)
      simp [am_u, hne]
      exact this
    obtain ⟨⟨c1, c2, c3', c4, c5⟩, d2, d3, d4, d5⟩ := hD
    refine ⟨⟨c1, c2, c3', ?_, c5⟩, d2, d3, fun f hf => ?_, d5⟩
    · show am_u _ 59 2 _ 59 6 = _
      rw [am_u_ne (Or.inr (by decide)), am_u_same]
    · dsimp only
      by_cases hfn : f = nf
      · subst hfn
        refine ⟨by simp [am_u], by simp [am_u], by simp [am_u], by simp [am_u], by simp [am_u], by simp [am_u], by simp [am_u], fun i hi => ?_⟩
        by_cases hi0 : i = 0
        · subst hi0
          simp [am_u]
        · simp [am_u, hi0]
          exact h9.2 _ (Nat.le_add_right _ _)
      · have hfl : f < nf := by have : f < nf + 1 := hf; omega
        obtain ⟨g1, g2, g3, g4, g5, g6, g7, g8⟩ := d4 f hfl
        refine ⟨by simp [am_u, hfn, g1], by simp [am_u, hfn, g2], by simp [am_u, hfn, g3], by simp [am_u, hfn, g4], by simp [am_u, hfn, g5], by simp [am_u, hfn, g6], by simp [am_u, hfn, g7], fun i hi => ?_⟩
        have hne : ¬ 3 * f + i = 3 * nf := by omega
        simp [am_u, hne, g8 i hi]
  have none : f_ck x1 x2 x3 x4 nl nq np = true → (nf = 100 ∨ a_dy x5 = false ∨ (x1 = 1 ∧ x2 = x3)) → q_W β xs L (d + 2) 110 146 [.ref 59, .int x1, .int x2, .int x3, .int x4, .int x5] [] (G, am_u I 59 0 0, J) Q := fun z y => by
    have eo : o_fact x1 x2 x3 x4 x5 ((nl, nq, np, nf, na, tn, tp), tb, fp, D) = (0, -1, ((nl, nq, np, nf, na, tn, tp), tb, fp, D)) := by
      show (if _ then _ else _) = _
      rw [if_neg (by rw [z]; decide), if_pos y]
    rw [← hQ, eo]
    exact g_110_146 hR _ _ _ _ _ ⟨_, _, J, rfl, fun _ => rfl, rfl, (f_r.rf I).up _ _ (by decide), f_r.rf J, am_u_same, hr0.mono (Nat.le_succ _)⟩
  have at110 : ∀ b : Bool, (b = true → f_ck x1 x2 x3 x4 nl nq np = true) → (b = false → f_ck x1 x2 x3 x4 nl nq np = false) → q_W β xs L (d + 2) 110 110 [.ref 59, .int x1, .int x2, .int x3, .int x4, .int x5] [.int (a_is b), .ref 59] (G, am_u I 59 0 0, J) Q := by
    intro b hb1 hb2
    refine g_110_110 hR _ _ _ _ _ _ (q_right (d := d + 1) hR b e0 (by decide) (Nat.le_refl _) (fun z => ⟨fun _ => ?_, fun q => absurd q (by decide)⟩) (fun z => ⟨fun q => absurd rfl q, fun _ => fail (hb2 z)⟩))
    have hck := hb1 z
    have e100 : nI nf = 100 ↔ nf = 100 := nI_eq (b := 100) (by omega) (by omega)
    rw [e6, e100]
    refine ⟨fun y => none hck (Or.inl y), fun y => q_useI (r_isDay (β := β) (xs := xs) (L := L) (d := d + 1) hR x5) (Nat.le_refl _) ⟨fun u => none hck (Or.inr (Or.inl (a_is_0.mp u))), fun u => ?_⟩⟩
    have hdy : a_dy x5 = true := by
      cases hz : a_dy x5 with
      | true => rfl
      | false => exact absurd (a_is_0.mpr hz) u
    refine ⟨fun t => at148 hck ?_, fun t => ⟨fun s => at148 hck ?_, fun s => none hck (Or.inr (Or.inr ⟨t, s⟩))⟩⟩
    · rintro (q | q | q)
      · omega
      · rw [hdy] at q; cases q
      · exact t q.1
    · rintro (q | q | q)
      · omega
      · rw [hdy] at q; cases q
      · exact s q.2
  -- with a kind
  have at21 : ∀ kd : Nat, kd ≤ 6 → x1 = nI kd → q_W β xs L (d + 2) 110 21 [.ref 59, .int x1, .int x2, .int x3, .int x4, .int x5] [.int 1, .ref 59] (G, am_u I 59 0 0, J) Q := by
    intro kd hk hx
    subst hx
    have c1 : a_lt (nI kd) 7 = true := by
      unfold a_lt
      rw [decide_eq_false (nI_pos (by omega)), decide_eq_true ((nI_ltI (b := 7) (by omega) (by omega)).mpr (by omega))]
      rfl
    have l1 : (1 : Int32) < nI kd ↔ 1 < kd := nI_ltI (a := 1) (by omega) (by omega)
    have l6 : nI kd < (6 : Int32) ↔ kd < 6 := nI_ltI (b := 6) (by omega) (by omega)
    have l2 : nI kd < (2 : Int32) ↔ kd < 2 := nI_ltI (b := 2) (by omega) (by omega)
    have l5 : nI kd < (5 : Int32) ↔ kd < 5 := nI_ltI (b := 5) (by omega) (by omega)
    have g5 : (5 : Int32) < nI kd ↔ 5 < kd := nI_ltI (a := 5) (by omega) (by omega)
    have g4 : (4 : Int32) < nI kd ↔ 4 < kd := nI_ltI (a := 4) (by omega) (by omega)
    have k5 : nI kd = 5 ↔ kd = 5 := nI_eq (b := 5) (by omega) (by omega)
    have k1 : nI kd = 1 ↔ kd = 1 := nI_eq (b := 1) (by omega) (by omega)
    have fk : f_ck (nI kd) x2 x3 x4 nl nq np = ((decide (kd = 5) || a_lt x2 np) && ((!decide (kd = 1) || a_lt x3 np) && ((!(decide (1 < kd) && decide (kd < 6)) || a_lt x3 nl) && ((!decide (kd < 2) && decide (kd < 5)) || a_lt x4 nq)))) := by
      unfold f_ck
      rw [c1, decide_eq_decide.mpr k5, decide_eq_decide.mpr k1, decide_eq_decide.mpr l1, decide_eq_decide.mpr l6, decide_eq_decide.mpr l2, decide_eq_decide.mpr l5]
      rfl
    have at91 : (decide (kd = 5) || a_lt x2 np) = true → (!decide (kd = 1) || a_lt x3 np) = true → (!(decide (1 < kd) && decide (kd < 6)) || a_lt x3 nl) = true → ¬ (¬ kd < 2 ∧ kd < 5) → q_W β xs L (d + 2) 110 91 [.ref 59, .int (nI kd), .int x2, .int x3, .int x4, .int x5] [.ref 59] (G, am_u I 59 0 0, J) Q := by
      intro h1 h2 h3 h4
      have h4' : (!decide (kd < 2) && decide (kd < 5)) = false := by
        cases h5 : decide (kd < 2) <;> cases h6 : decide (kd < 5) <;> first | rfl | (exact absurd ⟨of_decide_eq_false h5, of_decide_eq_true h6⟩ h4)
      have e : f_ck (nI kd) x2 x3 x4 nl nq np = a_lt x4 nq := by
        rw [fk, h1, h2, h3, h4']
        simp
      refine g_110_91 hR _ _ _ _ _ ?_
      rw [e4]
      refine ⟨fun z => g_110_109 hR _ _ _ _ _ (at110 false (fun q => by cases q) (fun _ => ?_)), fun z => ⟨fun y => g_110_109 hR _ _ _ _ _ (at110 false (fun q => by cases q) (fun _ => ?_)), fun y => g_110_105 hR _ _ _ _ _ (at110 true (fun _ => ?_) (fun q => by cases q))⟩⟩
      · rw [e]; simp [a_lt, z]
      · rw [e]; simp [a_lt, y]
      · rw [e]; simp [a_lt, z, y]
    have at80 : (decide (kd = 5) || a_lt x2 np) = true → (!decide (kd = 1) || a_lt x3 np) = true → (!(decide (1 < kd) && decide (kd < 6)) || a_lt x3 nl) = true → q_W β xs L (d + 2) 110 80 [.ref 59, .int (nI kd), .int x2, .int x3, .int x4, .int x5] [] (G, am_u I 59 0 0, J) Q := by
      intro h1 h2 h3
      refine g_110_80 hR _ _ _ _ _ ?_
      rw [l2, g4]
      refine ⟨fun z => at91 h1 h2 h3 (by omega), fun z => ⟨fun y => g_110_105 hR _ _ _ _ _ (at110 true (fun _ => ?_) (fun q => by cases q)), fun y => at91 h1 h2 h3 (by omega)⟩⟩
      rw [fk, h1, h2, h3, decide_eq_false z, decide_eq_true (show kd < 5 by omega)]
      rfl
    have at60 : (decide (kd = 5) || a_lt x2 np) = true → (!decide (kd = 1) || a_lt x3 np) = true → q_W β xs L (d + 2) 110 60 [.ref 59, .int (nI kd), .int x2, .int x3, .int x4, .int x5] [] (G, am_u I 59 0 0, J) Q := by
      intro h1 h2
      refine g_110_60 hR _ _ _ _ _ ?_
      rw [l2, g5]
      refine ⟨fun z => at80 h1 h2 ?_, fun z => ⟨fun y => at80 h1 h2 ?_, fun y => r_isLand (d := d) hR e3 x3 e0 (fun u => ⟨fun _ => at80 h1 h2 (by rw [u]; simp), fun q => absurd q (by decide)⟩) (fun u => ⟨fun q => absurd rfl q, fun _ => fail ?_⟩)⟩⟩
      · rw [decide_eq_false (show ¬ 1 < kd by omega)]; rfl
      · rw [decide_eq_false (show ¬ kd < 6 by omega), Bool.and_false]; rfl
      · rw [fk, h1, h2, decide_eq_true (show 1 < kd by omega), decide_eq_true (show kd < 6 by omega), u]
        rfl
    have at45 : (decide (kd = 5) || a_lt x2 np) = true → q_W β xs L (d + 2) 110 45 [.ref 59, .int (nI kd), .int x2, .int x3, .int x4, .int x5] [] (G, am_u I 59 0 0, J) Q := by
      intro h1
      refine g_110_45 hR _ _ _ _ _ ?_
      rw [k1]
      refine ⟨fun z => at60 h1 (by rw [decide_eq_false z]; rfl), fun z => r_isPerson (d := d) hR e5 x3 e0 (fun u => ⟨fun _ => at60 h1 (by rw [u]; simp), fun q => absurd q (by decide)⟩) (fun u => ⟨fun q => absurd rfl q, fun _ => fail ?_⟩)⟩
      rw [fk, h1, decide_eq_true z, u]
      rfl
    refine g_110_21 hR _ _ _ _ _ _ (q_right (d := d + 1) hR true e0 (by decide) (Nat.le_refl _) (fun _ => ⟨fun _ => ?_, fun q => absurd q (by decide)⟩) (fun q => by cases q))
    rw [k5]
    refine ⟨fun z => at45 (by rw [decide_eq_true z]; rfl), fun z => r_isPerson (d := d) hR e5 x2 e0 (fun u => ⟨fun _ => at45 (by rw [u]; simp), fun q => absurd q (by decide)⟩) (fun u => ⟨fun q => absurd rfl q, fun _ => fail ?_⟩)⟩
    rw [fk, decide_eq_false z, u]
    rfl
  have at20 : a_lt x1 7 = false → q_W β xs L (d + 2) 110 20 [.ref 59, .int x1, .int x2, .int x3, .int x4, .int x5] [.ref 59] (G, am_u I 59 0 0, J) Q := fun h => by
    refine g_110_20 hR _ _ _ _ _ (g_110_21 hR _ _ _ _ _ _ (q_right (d := d + 1) hR false e0 (by decide) (Nat.le_refl _) (fun q => by cases q) (fun _ => ⟨fun q => absurd rfl q, fun _ => fail ?_⟩)))
    unfold f_ck
    rw [h]
    rfl
  refine g_110_0 hR _ _ _ _ _ ⟨fun z => at20 (by simp [a_lt, z]), fun z => ?_⟩
  obtain ⟨kd, hkd, hx⟩ := nI_of z
  have g6 : (6 : Int32) < x1 ↔ 6 < kd := by
    rw [hx]
    exact nI_ltI (a := 6) (by omega) hkd
  rw [g6]
  refine ⟨fun y => at20 ?_, fun y => at21 kd (by omega) hx⟩
  unfold a_lt
  rw [hx, decide_eq_false (fun q => by have := (nI_ltI hkd (b := 7) (by omega)).mp q; omega : ¬ nI kd < nI 7), Bool.and_false]
end Inv5

/-! ===== days more, taken back ===== -/
section Inv6
variable {β : Bool} {xs : Nat → Int32} {L : Nat} {G : am_G} {I : a_F} {J : Nat → Nat → Int64}
theorem c_couldL {d : Nat} (hR : q_RT G) {D : a_F} {f cn : Nat} (hf : f < 100) (hc : cn ≤ 3) (h15 : I 15 f = nI cn) (h14 : ∀ i, i < cn → I 14 (3 * f + i) = D 71 (3 * f + i)) (x : Int32) : ∀ m i, i + m = cn → a_hasd D f x i = false →
    q_W β xs L d 19 2 [.ref 7, .int (nI f), .int x, .int (nI i)] [] (G, I, J) (fun o h => o = .inl (some (.int (a_is (a_hasd D f x cn)))) ∧ h = (G, I, J))
  | 0, i, hi, hno => by
    have e : i = cn := by omega
    subst e
    refine g_19_2 hR _ _ _ ⟨am_is_nI (by omega) (by omega), fun _ => ⟨Or.inl rfl, by rw [hno]; rfl, rfl⟩, fun z => ?_⟩
    rw [show (nI f).toNatClampNeg = f from nI_clamp (by omega), h15, nI_ltI (by omega) (by omega)] at z
    omega
  | m + 1, i, hi, hno => by
    have ef : (nI f).toNatClampNeg = f := nI_clamp (by omega)
    have e3 : (nI f * 3 + nI i : Int32) = nI (3 * f + i) := by rw [s_lit, pk_mul, nI_add, Nat.mul_comm]
    refine g_19_2 hR _ _ _ ⟨am_is_nI (by omega) (by omega), fun z => absurd (by rw [ef, h15]; exact (nI_ltI (by omega) (by omega)).mpr (by omega)) z, fun _ => ?_⟩
    rw [e3, show (nI (3 * f + i)).toNatClampNeg = 3 * f + i from nI_clamp (by omega), h14 i (by omega), nI_1]
    refine ⟨am_is_nI (by omega) (by omega), fun z => c_couldL hR hf hc h15 h14 x m (i + 1) (by omega) ?_, fun z => ⟨Or.inr rfl, ?_, rfl⟩⟩
    · show (a_hasd D f x i || decide (D 71 (3 * f + i) = x)) = false
      rw [hno, decide_eq_false z]
      rfl
    · have h1 : a_hasd D f x (i + 1) = true := by
        show (a_hasd D f x i || decide (D 71 (3 * f + i) = x)) = true
        rw [decide_eq_true z, Bool.or_true]
      have := a_hasd_mono m h1
      rw [show i + 1 + m = cn by omega] at this
      rw [this]
      rfl
theorem k_also {d e : Nat} {w : w_T} (hC : c_I e w G I J) (hw : w_O w) (x1 x2 : Int32) : q_W β xs L (d + 1) 74 0 [.ref 0, .int x1, .int x2, .retAddr 0] [] (G, I, J) (k_T (o_also x1 x2 w).1 (o_also x1 x2 w).2.2 e I J (o_also x1 x2 w).2.1) := by
  obtain ⟨⟨nl, nq, np, nf, na, tn, tp⟩, tb, fp, D⟩ := w
  have hC0 := hC
  obtain ⟨j, hL, hD, h3, h4, h5, h6⟩ := hC
  have hnf : nf ≤ 100 := hw.1.2.2.2.2.2
  have hR := hL.2.1
  have e78 : I 7 8 = nI nf := hD.1.2.2.2.1
  refine g_74_0 hR _ _ ?_
  rw [e78]
  refine q_needN (d := d) hR x1 nf (Nat.le_refl _) (fun hlt => ?_) (fun hlt => ?_)
  · obtain ⟨f, hf, hx⟩ := a_lt_of (by omega) hlt
    subst hx
    have ef : a_ix (nI f) = f := nI_clamp (by omega)
    have ef' : (nI f).toNatClampNeg = f := ef
    obtain ⟨-, cn, z2, z3, z4, z5⟩ := hw.1.2.2.1 f hf
    have z4' : D 70 f = nI cn := z4
    have ecn : a_ix (D 70 f) = cn := by rw [z4']; exact nI_clamp (by omega)
    obtain ⟨g1, g2, g3, g4, g5, g6, g7, g8⟩ := hD.2.2.2.1 f hf
    have e15 : I 15 f = nI cn := g7.trans z4'
    have h14 : ∀ i, i < cn → I 14 (3 * f + i) = D 71 (3 * f + i) := fun i hi => g8 i (by show i < a_ix (D 70 f); rw [ecn]; exact hi)
    have jf : am_is (nI f) 100 = true := am_is_nI (by omega) (by omega)
    have lt3 : nI cn < 3 ↔ cn < 3 := nI_ltI (b := 3) (by omega) (by omega)
    rw [ef', e15, lt3]
    have none : (cn = 3 ∨ a_dy x2 = false ∨ a_hasd D f x2 cn = true) → q_W β xs L (d + 1) 74 45 [.ref 0, .int (nI f), .int x2, .int (nI cn)] [] (G, I, J) (k_T (o_also (nI f) x2 ((nl, nq, np, nf, na, tn, tp), tb, fp, D)).1 (o_also (nI f) x2 ((nl, nq, np, nf, na, tn, tp), tb, fp, D)).2.2 e I J (o_also (nI f) x2 ((nl, nq, np, nf, na, tn, tp), tb, fp, D)).2.1) := fun z => by
      have eo : o_also (nI f) x2 ((nl, nq, np, nf, na, tn, tp), tb, fp, D) = (0, -1, ((nl, nq, np, nf, na, tn, tp), tb, fp, D)) := by
        show (if _ then _ else _) = _
        rw [if_neg (by rw [hlt]; decide), ef, ecn, if_pos z]
      rw [eo]
      exact g_74_45 hR _ _ _ ⟨rfl, e, G, I, J, Nat.le_succ _, rfl, f_c.rf I, f_c.rf J, hC0⟩
    refine ⟨hR, jf, fun z => none (Or.inl (by omega)), fun z => q_useI (c_isDay (β := β) (xs := xs) (L := L) (d := d) hR x2) (Nat.le_refl _) ⟨hR, fun y => none (Or.inr (Or.inl (a_is_0.mp y))), fun y => ?_⟩⟩
    refine q_useI (g_19_0 hR _ _ (c_couldL (β := β) (xs := xs) (L := L) (d := d) hR (by omega) z3 e15 h14 x2 cn 0 (by omega) rfl)) (Nat.le_refl _) ⟨fun u => ?_, fun u => none (Or.inr (Or.inr ?_))⟩
    · have hdy : a_dy x2 = true := by
        cases hz : a_dy x2 with
        | true => rfl
        | false => exact absurd (a_is_0.mpr hz) y
      have hno : ¬ (cn = 3 ∨ a_dy x2 = false ∨ a_hasd D f x2 cn = true) := by
        rintro (q | q | q)
        · omega
        · rw [hdy] at q; cases q
        · rw [a_is_0.mp u] at q; cases q
      have eo : o_also (nI f) x2 ((nl, nq, np, nf, na, tn, tp), tb, fp, D) = (0, nI (cn + 1), ((nl, nq, np, nf, na, tn, tp), tb, fp, am_u (am_u D 71 (3 * f + cn) x2) 70 f (nI (cn + 1)))) := by
        show (if _ then _ else _) = _
        rw [if_neg (by rw [hlt]; decide), ef, ecn, if_neg hno]
      have e3 : (nI f * 3 + nI cn : Int32) = nI (3 * f + cn) := by rw [s_lit, pk_mul, nI_add, Nat.mul_comm]
      refine q_useF (c_forget (β := β) (xs := xs) (L := L) (d := d) hR) (Nat.le_refl _) ⟨hR, ?_⟩
      rw [e3, show (nI (3 * f + cn)).toNatClampNeg = 3 * f + cn from nI_clamp (by omega), nI_1, eo]
      refine ⟨am_is_nI (by omega) (by omega), jf, rfl, e, G, _, _, Nat.le_succ _, rfl, (((f_c.rf I).up _ _ (by decide)).up _ _ (by decide)).up _ _ (by decide), (f_c.rf J).up _ _ (by decide), j, hL, ?_, h3, h4, Or.inl am_u_same, Or.inl ?_⟩
      · obtain ⟨d1, d2, d3, d4, d5⟩ := hD
        refine ⟨d1, d2, d3, fun g hg => ?_, d5⟩
        dsimp only
        obtain ⟨y1, y2, y3, y4, y5, y6, y7, y8⟩ := d4 g hg
        have w15 : am_u (am_u (am_u I 0 11 (-1)) 14 (3 * f + cn) x2) 15 f (nI (cn + 1)) 15 g = if g = f then nI (cn + 1) else I 15 g := by simp [am_u]
        have w70 : am_u (am_u D 71 (3 * f + cn) x2) 70 f (nI (cn + 1)) 70 g = if g = f then nI (cn + 1) else D 70 g := by simp [am_u]
        refine ⟨y1, y2, y3, y4, y5, y6, ?_, fun i hi => ?_⟩
        · rw [w15, w70, y7]
        · rw [w70] at hi
          have v14 : am_u (am_u (am_u I 0 11 (-1)) 14 (3 * f + cn) x2) 15 f (nI (cn + 1)) 14 (3 * g + i) = if 3 * g + i = 3 * f + cn then x2 else I 14 (3 * g + i) := by simp [am_u]
          have v71 : am_u (am_u D 71 (3 * f + cn) x2) 70 f (nI (cn + 1)) 71 (3 * g + i) = if 3 * g + i = 3 * f + cn then x2 else D 71 (3 * g + i) := by simp [am_u]
          rw [v14, v71]
          by_cases he : 3 * g + i = 3 * f + cn
          · rw [if_pos he, if_pos he]
          · rw [if_neg he, if_neg he]
            refine y8 i ?_
            by_cases hgf : g = f
            · subst hgf
              rw [if_pos rfl, show a_ix (nI (cn + 1)) = cn + 1 from nI_clamp (by omega)] at hi
              show i < a_ix (D 70 g)
              rw [ecn]
              omega
            · rw [if_neg hgf] at hi
              exact hi
      · rw [am_u_ne (Or.inl (by decide)), am_u_ne (Or.inl (by decide)), am_u_same]
    · cases hz : a_hasd D f x2 cn with
      | true => rfl
      | false => exact absurd (a_is_0.mpr hz) u
  · have eo : o_also x1 x2 ((nl, nq, np, nf, na, tn, tp), tb, fp, D) = (1, 0, ((nl, nq, np, nf, na, tn, tp), tb, fp, D)) := if_pos hlt
    rw [eo]
    exact ⟨rfl, e + 1, _, I, J, Nat.le_refl _, rfl, f_c.rf I, f_c.rf J, c_inv.tw hC0⟩
theorem p_also {d v : Nat} {w : w_T} (hr : r_I v w I J) (hw : w_O w) (hR : q_RT G) (x1 x2 : Int32) : q_W β xs L (d + 1) 111 0 [.ref 59, .int x1, .int x2, .retAddr 0, .retAddr 0] [] (G, I, J) (p_P (o_also x1 x2 w).2.2 v G I J (o_also x1 x2 w).1 (o_also x1 x2 w).2.1) := by
  obtain ⟨⟨nl, nq, np, nf, na, tn, tp⟩, tb, fp, D⟩ := w
  have hr0 := hr.c0 0
  have hr1 := (hr.c0 0).c0 1
  obtain ⟨hD, h2, h3, ⟨ve, fv, h4, h5, h6, h7, h8⟩, h9⟩ := hr
  have hnf : nf ≤ 100 := hw.1.2.2.2.2.2
  have e6 : I 59 6 = nI nf := hD.1.2.2.2.1
  have e2 : am_u I 59 0 0 59 2 = nI ve := h5
  have e0 : am_u I 59 0 0 59 0 = 0 := am_u_same
  generalize hQ : p_P (o_also x1 x2 ((nl, nq, np, nf, na, tn, tp), tb, fp, D)).2.2 v G I J (o_also x1 x2 ((nl, nq, np, nf, na, tn, tp), tb, fp, D)).1 (o_also x1 x2 ((nl, nq, np, nf, na, tn, tp), tb, fp, D)).2.1 = Q
  have fail : a_lt x1 nf = false → q_W β xs L (d + 1) 111 22 [.ref 59, .int x1, .int x2, .retAddr 0, .retAddr 0] [.ref 59] (G, am_u I 59 0 0, J) Q := fun z => by
    have eo : o_also x1 x2 ((nl, nq, np, nf, na, tn, tp), tb, fp, D) = (1, 0, ((nl, nq, np, nf, na, tn, tp), tb, fp, D)) := if_pos z
    rw [← hQ, eo]
    exact g_111_22 hR _ _ (g_111_23 hR _ _ _ (q_right (d := d) hR false e0 (by decide) (Nat.le_refl _) (fun q => by cases q) (fun _ => ⟨fun q => absurd rfl q, fun _ => ⟨_, _, J, rfl, fun q => absurd q (show ¬ (1 : Nat) = 0 by decide), rfl, ((f_r.rf I).up _ _ (by decide)).up _ _ (by decide), f_r.rf J, am_u_same, hr1.mono (Nat.le_succ _)⟩⟩)))
  refine g_111_0 hR _ _ ?_
  rw [e6]
  refine ⟨fun z => fail (by simp [a_lt, z]), fun z => ⟨fun y => fail (by simp [a_lt, y]), fun y => ?_⟩⟩
  have hlt : a_lt x1 nf = true := by simp [a_lt, z, y]
  obtain ⟨f, hf, hx⟩ := a_lt_of (by omega) hlt
  subst hx
  have ef : a_ix (nI f) = f := nI_clamp (by omega)
  have ef' : (nI f).toNatClampNeg = f := ef
  obtain ⟨-, cn, z2, z3, z4, z5⟩ := hw.1.2.2.1 f hf
  have z4' : D 70 f = nI cn := z4
  have ecn : a_ix (D 70 f) = cn := by rw [z4']; exact nI_clamp (by omega)
  obtain ⟨g1, g2, g3, g4, g5, g6, g7, g8⟩ := hD.2.2.2.1 f hf
  have e70 : am_u I 59 0 0 70 f = nI cn := g7.trans z4'
  have e71 : ∀ i, i < 3 → am_u I 59 0 0 71 (3 * f + i) = D 71 (3 * f + i) := fun i hi => g8 i hi
  have jf : am_is (nI f) 100 = true := am_is_nI (by omega) (by omega)
  have eq3 : nI cn = 3 ↔ cn = 3 := nI_eq (b := 3) (by omega) (by omega)
  have none : (cn = 3 ∨ a_dy x2 = false ∨ a_hasd D f x2 cn = true) → ∀ i3 i4, q_W β xs L (d + 1) 111 100 [.ref 59, .int (nI f), .int x2, .int i3, .int i4] [] (G, am_u I 59 0 0, J) Q := fun z i3 i4 => by
    have eo : o_also (nI f) x2 ((nl, nq, np, nf, na, tn, tp), tb, fp, D) = (0, -1, ((nl, nq, np, nf, na, tn, tp), tb, fp, D)) := by
      show (if _ then _ else _) = _
      rw [if_neg (by rw [hlt]; decide), ef, ecn, if_pos z]
    rw [← hQ, eo]
    exact g_111_100 hR _ _ _ _ ⟨_, _, J, rfl, fun _ => rfl, rfl, (f_r.rf I).up _ _ (by decide), f_r.rf J, am_u_same, hr0.mono (Nat.le_succ _)⟩
  have loop : ∀ m i, i + m = cn → q_W β xs L (d + 1) 111 37 [.ref 59, .int (nI f), .int x2, .int (a_is (a_hasd D f x2 i)), .int (nI i)] [] (G, am_u I 59 0 0, J) Q := by
    intro m
    induction m with
    | zero =>
      intro i hi
      have e : i = cn := by omega
      subst e
      refine g_111_37 hR _ _ _ _ ⟨jf, fun _ => ⟨jf, ?_⟩, fun q => ?_⟩
      · rw [ef', e70, eq3]
        refine ⟨fun t => none (Or.inl t) _ _, fun t => ⟨fun s => none (Or.inr (Or.inr ?_)) _ _, fun s => ?_⟩⟩
        · cases hz : a_hasd D f x2 i with
          | true => rfl
          | false => exact absurd (a_is_0.mpr hz) s
        · have hno0 := a_is_0.mp s
          refine q_useI (r_isDay (β := β) (xs := xs) (L := L) (d := d) hR x2) (Nat.le_refl _) ⟨hR, fun r => ?_, fun r => none (Or.inr (Or.inl (a_is_0.mp r))) _ _⟩
          have hdy : a_dy x2 = true := by
            cases hz : a_dy x2 with
            | true => rfl
            | false => exact absurd (a_is_0.mpr hz) r
          have hno : ¬ (i = 3 ∨ a_dy x2 = false ∨ a_hasd D f x2 i = true) := by
            rintro (q | q | q)
            · omega
            · rw [hdy] at q; cases q
            · rw [hno0] at q; cases q
          have eo : o_also (nI f) x2 ((nl, nq, np, nf, na, tn, tp), tb, fp, D) = (0, nI (i + 1), ((nl, nq, np, nf, na, tn, tp), tb, fp, am_u (am_u D 71 (3 * f + i) x2) 70 f (nI (i + 1)))) := by
            show (if _ then _ else _) = _
            rw [if_neg (by rw [hlt]; decide), ef, ecn, if_neg hno]
          have c3 : (3 * nI f + nI i : Int32) = nI (3 * f + i) := by rw [s_lit, pk_mul, nI_add]
          rw [e70, c3, show (nI (3 * f + i)).toNatClampNeg = 3 * f + i from nI_clamp (by omega), nI_1, e2, nI_1, ← hQ, eo]
          refine ⟨jf, am_is_nI (by omega) (by omega), jf, jf, jf, _, _, J, rfl, fun _ => rfl, rfl, ((((f_r.rf I).up _ _ (by decide)).up _ _ (by decide)).up _ _ (by decide)).up _ _ (by decide), f_r.rf J, rfl, ?_, h2, h3, ⟨ve + 1, fv, by omega, am_u_same, h6, by omega, fun q => by omega⟩, h9.1, fun j hj => ?_⟩
          · obtain ⟨d1, d2, d3, d4, d5⟩ := hD
            refine ⟨d1, d2, d3, fun g hg => ?_, d5⟩
            dsimp only
            obtain ⟨y1, y2, y3, y4, y5, y6, y7, y8⟩ := d4 g hg
            refine ⟨y1, y2, y3, y4, y5, y6, ?_, fun i' hi' => ?_⟩
            · by_cases hgf : g = f
              · subst hgf; simp [am_u]
              · simp [am_u, hgf, y7]
            · by_cases he : 3 * g + i' = 3 * f + i
              · simp [am_u, he]
              · simp [am_u, he, y8 i' hi']
          · have hne : ¬ j = 3 * f + i := by have : 3 * nf ≤ j := hj; omega
            have := h9.2 j hj
            simp [am_u, hne]
            exact this
      · rw [ef', e70, nI_ltI (by omega) (by omega)] at q
        omega
    | succ m ih =>
      intro i hi
      refine g_111_37 hR _ _ _ _ ⟨jf, fun q => absurd (by rw [ef', e70]; exact (nI_ltI (by omega) (by omega)).mpr (by omega)) q, fun _ => ?_⟩
      have c3 : (3 * nI f + nI i : Int32) = nI (3 * f + i) := by rw [s_lit, pk_mul, nI_add]
      have at72 : ∀ b : Bool, b = a_hasd D f x2 (i + 1) → ∀ i3, q_W β xs L (d + 1) 111 72 [.ref 59, .int (nI f), .int x2, .int i3, .int (nI i)] [.int (a_is b)] (G, am_u I 59 0 0, J) Q := fun b hb i3 => by
        refine g_111_72 hR _ _ _ _ _ ?_
        rw [nI_1, hb]
        exact ih (i + 1) (by omega)
      have at67 : a_hasd D f x2 (i + 1) = true → ∀ i3, q_W β xs L (d + 1) 111 67 [.ref 59, .int (nI f), .int x2, .int i3, .int (nI i)] [] (G, am_u I 59 0 0, J) Q := fun h i3 => g_111_67 hR _ _ _ _ (at72 true h.symm _)
      refine ⟨fun q => at67 ?_ _, fun q => ?_⟩
      · have hb : a_hasd D f x2 i = true := by
          cases hz : a_hasd D f x2 i with
          | true => rfl
          | false => exact absurd (a_is_0.mpr hz) q
        exact a_hasd_mono 1 hb
      · have hb := a_is_0.mp q
        rw [c3, show (nI (3 * f + i)).toNatClampNeg = 3 * f + i from nI_clamp (by omega), e71 i (by omega)]
        refine ⟨am_is_nI (by omega) (by omega), fun t => at72 false ?_ _, fun t => at67 ?_ _⟩
        · show false = (a_hasd D f x2 i || decide (D 71 (3 * f + i) = x2))
          rw [hb, decide_eq_false t]
          rfl
        · show (a_hasd D f x2 i || decide (D 71 (3 * f + i) = x2)) = true
          rw [decide_eq_true t, Bool.or_true]
  exact g_111_23 hR _ _ _ (q_right (d := d) hR true e0 (by decide) (Nat.le_refl _) (fun _ => ⟨fun _ => loop cn 0 (by omega), fun q => absurd q (by decide)⟩) (fun q => by cases q))
theorem k_back {d e : Nat} {w : w_T} (hC : c_I e w G I J) (hw : w_O w) (b : Bool) (x : Int32) : q_W β xs L (d + 1) 75 0 [.ref 0, .int (a_is b), .int x, .retAddr 0] [] (G, I, J) (k_T (o_back b x w).1 (o_back b x w).2.2 e I J (o_back b x w).2.1) := by
  obtain ⟨⟨nl, nq, np, nf, na, tn, tp⟩, tb, fp, D⟩ := w
  have hC0 := hC
  obtain ⟨j, hL, hD, h3, h4, h5, h6⟩ := hC
  have hnf : nf ≤ 100 := hw.1.2.2.2.2.2
  have hna : na ≤ 12 := hw.1.1.2.1.2.2.2
  have hR := hL.2.1
  have e78 : I 7 8 = nI nf := hD.1.2.2.2.1
  have e16 : I 16 15 = nI na := hD.1.2.2.2.2
  generalize hQ : k_T (o_back b x ((nl, nq, np, nf, na, tn, tp), tb, fp, D)).1 (o_back b x ((nl, nq, np, nf, na, tn, tp), tb, fp, D)).2.2 e I J (o_back b x ((nl, nq, np, nf, na, tn, tp), tb, fp, D)).2.1 = Q
  have at46 : ∀ (r N n : Nat), (b = true → r = 21 ∧ N = 12 ∧ n < na) → (b = false → r = 13 ∧ N = 100 ∧ n < nf) → x = nI n → q_SH r = .inl (.int, N) → a_lt x (if b = true then na else nf) = true → q_W β xs L (d + 1) 75 46 [.ref 0, .int (a_is b), .int x, .retAddr 0] [.ref r] (G, I, J) Q := by
    intro r N n hb1 hb2 hx hSH hlt
    have hnN : n < N ∧ N < 2 ^ 31 ∧ (r = 13 ∨ r = 21) := by
      cases b with
      | true => obtain ⟨y1, y2, y3⟩ := hb1 rfl; omega
      | false => obtain ⟨y1, y2, y3⟩ := hb2 rfl; omega
    subst hx
    have en : a_ix (nI n) = n := nI_clamp (by omega)
    have en' : (nI n).toNatClampNeg = n := en
    have er : I r n = D (if b = true then 78 else 69) n := by
      cases b with
      | true =>
        obtain ⟨y1, y2, y3⟩ := hb1 rfl
        rw [y1]
        exact (hD.2.2.2.2 n y3).2.2.2.2.1
      | false =>
        obtain ⟨y1, y2, y3⟩ := hb2 rfl
        rw [y1]
        exact (hD.2.2.2.1 n y3).2.2.2.2.2.1
    refine g_75_46 hR _ _ _ ⟨N, hSH, am_is_nI hnN.1 hnN.2.1, ?_⟩
    rw [en', er]
    refine ⟨fun z => ?_, fun z => ⟨Or.inl rfl, ?_⟩⟩
    · have eo : o_back b (nI n) ((nl, nq, np, nf, na, tn, tp), tb, fp, D) = (0, 1, ((nl, nq, np, nf, na, tn, tp), tb, fp, am_u D (if b = true then 78 else 69) n (nI tn))) := by
        show (if _ then _ else _) = _
        rw [if_neg (by rw [hlt]; decide), en, if_neg (fun q => q z)]
      refine q_useF (c_forget (β := β) (xs := xs) (L := L) (d := d) hR) (Nat.le_refl _) ⟨N, hSH, am_is_nI hnN.1 hnN.2.1, Or.inr rfl, ?_⟩
      have e010 : am_u I 0 11 (-1) 0 10 = nI tn := h3.1
      rw [e010, ← hQ, eo]
      refine ⟨rfl, e, G, _, _, Nat.le_succ _, rfl, ((f_c.rf I).up _ _ (by decide)).up _ _ (by omega), (f_c.rf J).up _ _ (by decide), j, hL, ?_, ?_, ?_, Or.inl am_u_same, Or.inl ?_⟩
      · obtain ⟨d1, d2, d3, d4, d5⟩ := hD
        cases b with
        | true =>
          obtain ⟨y1, y2, y3⟩ := hb1 rfl
          subst y1
          refine ⟨d1, d2, d3, d4, fun a ha => ?_⟩
          obtain ⟨g1, g2, g3, g4, g5, g6⟩ := d5 a ha
          refine ⟨g1, g2, g3, g4, ?_, g6⟩
          show am_u (am_u I 0 11 (-1)) 21 n (nI tn) 21 a = am_u D 78 n (nI tn) 78 a
          by_cases han : a = n
          · subst han; rw [am_u_same, am_u_same]
          · rw [am_u_ne (Or.inr han), am_u_ne (Or.inr han)]; exact g5
        | false =>
          obtain ⟨y1, y2, y3⟩ := hb2 rfl
          subst y1
          refine ⟨d1, d2, d3, fun f hf => ?_, d5⟩
          obtain ⟨g1, g2, g3, g4, g5, g6, g7⟩ := d4 f hf
          refine ⟨g1, g2, g3, g4, g5, ?_, g7⟩
          show am_u (am_u I 0 11 (-1)) 13 n (nI tn) 13 f = am_u D 69 n (nI tn) 69 f
          by_cases hfn : f = n
          · subst hfn; rw [am_u_same, am_u_same]
          · rw [am_u_ne (Or.inr hfn), am_u_ne (Or.inr hfn)]; exact g6
      · rcases hnN.2.2 with q | q <;> subst q <;> exact h3
      · rcases hnN.2.2 with q | q <;> subst q <;> exact h4
      · rcases hnN.2.2 with q | q <;> subst q <;> rfl
    · have eo : o_back b (nI n) ((nl, nq, np, nf, na, tn, tp), tb, fp, D) = (0, 0, ((nl, nq, np, nf, na, tn, tp), tb, fp, D)) := by
        show (if _ then _ else _) = _
        rw [if_neg (by rw [hlt]; decide), en, if_pos z]
      rw [← hQ, eo]
      exact ⟨rfl, e, G, I, J, Nat.le_succ _, rfl, f_c.rf I, f_c.rf J, hC0⟩
  have fail : a_lt x (if b = true then na else nf) = false → Q (.inr 1) ((am_thr (G, I, J)).1, I, J) := fun z => by
    have eo : o_back b x ((nl, nq, np, nf, na, tn, tp), tb, fp, D) = (1, 0, ((nl, nq, np, nf, na, tn, tp), tb, fp, D)) := if_pos z
    rw [← hQ, eo]
    exact ⟨rfl, e + 1, _, I, J, Nat.le_refl _, rfl, f_c.rf I, f_c.rf J, c_inv.tw hC0⟩
  refine g_75_0 hR _ _ ?_
  rw [e78, e16]
  refine ⟨fun z => ?_, fun z => ?_⟩
  · have hb : b = false := a_is_0.mp z
    subst hb
    refine g_75_22 hR _ _ _ _ (q_needN (d := d) hR x nf (Nat.le_refl _) (fun y => ⟨hR, fun _ => ?_, fun q => absurd rfl q⟩) (fun y => fail y))
    obtain ⟨n, hn, hx⟩ := a_lt_of (by omega) y
    exact at46 13 100 n (fun q => by cases q) (fun _ => ⟨rfl, rfl, hn⟩) hx rfl y
  · have hb : b = true := by cases b; exact absurd rfl z; rfl
    subst hb
    refine g_75_22 hR _ _ _ _ (q_needN (d := d) hR x na (Nat.le_refl _) (fun y => ⟨hR, fun q => absurd q (by decide), fun _ => ?_⟩) (fun y => fail y))
    obtain ⟨n, hn, hx⟩ := a_lt_of (by omega) y
    exact at46 21 12 n (fun _ => ⟨rfl, rfl, hn⟩) (fun q => by cases q) hx rfl y
theorem p_back {d v : Nat} {w : w_T} (hr : r_I v w I J) (hw : w_O w) (hR : q_RT G) (b : Bool) (x : Int32) : q_W β xs L (d + 1) 112 0 [.ref 59, .int (a_is b), .int x] [] (G, I, J) (p_P (o_back b x w).2.2 v G I J (o_back b x w).1 (o_back b x w).2.1) := by
  obtain ⟨⟨nl, nq, np, nf, na, tn, tp⟩, tb, fp, D⟩ := w
  have hr0 := hr.c0 0
  have hr1 := (hr.c0 0).c0 1
  obtain ⟨hD, h2, h3, ⟨ve, fv, h4, h5, h6, h7, h8⟩, h9⟩ := hr
  have hnf : nf ≤ 100 := hw.1.2.2.2.2.2
  have hna : na ≤ 12 := hw.1.1.2.1.2.2.2
  have e6 : I 59 6 = nI nf := hD.1.2.2.2.1
  have e32 : I 59 32 = nI na := hD.1.2.2.2.2
  have e2 : am_u I 59 0 0 59 2 = nI ve := h5
  have e1 : am_u I 59 0 0 59 1 = nI tn := h2.1
  have e0 : am_u I 59 0 0 59 0 = 0 := am_u_same
  generalize hQ : p_P (o_back b x ((nl, nq, np, nf, na, tn, tp), tb, fp, D)).2.2 v G I J (o_back b x ((nl, nq, np, nf, na, tn, tp), tb, fp, D)).1 (o_back b x ((nl, nq, np, nf, na, tn, tp), tb, fp, D)).2.1 = Q
  have fail : a_lt x (if b = true then na else nf) = false → q_W β xs L (d + 1) 112 33 [.ref 59, .int (a_is b), .int x] [.ref 59] (G, am_u I 59 0 0, J) Q := fun z => by
    have eo : o_back b x ((nl, nq, np, nf, na, tn, tp), tb, fp, D) = (1, 0, ((nl, nq, np, nf, na, tn, tp), tb, fp, D)) := if_pos z
    rw [← hQ, eo]
    exact g_112_33 hR _ _ (g_112_34 hR _ _ _ (q_right (d := d) hR false e0 (by decide) (Nat.le_refl _) (fun q => by cases q) (fun _ => ⟨hR, fun q => absurd rfl q, fun _ => ⟨Or.inl rfl, _, _, J, rfl, fun q => absurd q (show ¬ (1 : Nat) = 0 by decide), rfl, ((f_r.rf I).up _ _ (by decide)).up _ _ (by decide), f_r.rf J, am_u_same, hr1.mono (Nat.le_succ _)⟩⟩)))
  have at62 : ∀ n : Nat, (b = true → n < na) → (b = false → n < nf) → x = nI n → a_lt x (if b = true then na else nf) = true → q_W β xs L (d + 1) 112 62 [.ref 59, .int (a_is b), .int x] [.int (D (if b = true then 78 else 69) n)] (G, am_u I 59 0 0, J) Q := by
    intro n hb1 hb2 hx hlt
    have hn : n < 100 := by
      cases b with
      | true => have := hb1 rfl; omega
      | false => have := hb2 rfl; omega
    subst hx
    have en : a_ix (nI n) = n := nI_clamp (by omega)
    have en' : (nI n).toNatClampNeg = n := en
    refine g_112_62 hR _ _ _ ⟨fun z => ?_, fun z => ⟨Or.inl rfl, ?_⟩⟩
    · have eo : o_back b (nI n) ((nl, nq, np, nf, na, tn, tp), tb, fp, D) = (0, 1, ((nl, nq, np, nf, na, tn, tp), tb, fp, am_u D (if b = true then 78 else 69) n (nI tn))) := by
        show (if _ then _ else _) = _
        rw [if_neg (by rw [hlt]; decide), en, if_neg (fun q => q z)]
      rw [en', e1]
      cases b with
      | true =>
        have hnn := hb1 rfl
        refine ⟨fun q => absurd q (by decide), fun _ => ⟨am_is_nI (by omega) (by omega), g_112_95 hR _ _ ⟨Or.inr rfl, ?_⟩⟩⟩
        have e2' : am_u (am_u I 59 0 0) 78 n (nI tn) 59 2 = nI ve := h5
        rw [e2', nI_1, ← hQ, eo]
        refine ⟨_, _, J, rfl, fun _ => rfl, rfl, (((f_r.rf I).up _ _ (by decide)).up _ _ (by decide)).up _ _ (by decide), f_r.rf J, rfl, ?_, h2, h3, ⟨ve + 1, fv, by omega, am_u_same, h6, by omega, fun q => by omega⟩, h9⟩
        obtain ⟨d1, d2, d3, d4, d5⟩ := hD
        refine ⟨d1, d2, d3, d4, fun a ha => ?_⟩
        obtain ⟨g1, g2, g3, g4, g5, g6⟩ := d5 a ha
        refine ⟨g1, g2, g3, g4, ?_, g6⟩
        show am_u (am_u (am_u I 59 0 0) 78 n (nI tn)) 59 2 (nI (ve + 1)) 78 a = am_u D 78 n (nI tn) 78 a
        by_cases han : a = n
        · subst han; simp [am_u]
        · simp [am_u, han, g5]
      | false =>
        have hnn := hb2 rfl
        refine ⟨fun _ => ⟨am_is_nI (by omega) (by omega), g_112_95 hR _ _ ⟨Or.inr rfl, ?_⟩⟩, fun q => absurd rfl q⟩
        have e2' : am_u (am_u I 59 0 0) 69 n (nI tn) 59 2 = nI ve := h5
        rw [e2', nI_1, ← hQ, eo]
        refine ⟨_, _, J, rfl, fun _ => rfl, rfl, (((f_r.rf I).up _ _ (by decide)).up _ _ (by decide)).up _ _ (by decide), f_r.rf J, rfl, ?_, h2, h3, ⟨ve + 1, fv, by omega, am_u_same, h6, by omega, fun q => by omega⟩, h9⟩
        obtain ⟨d1, d2, d3, d4, d5⟩ := hD
        refine ⟨d1, d2, d3, fun f hf => ?_, d5⟩
        obtain ⟨g1, g2, g3, g4, g5, g6, g7⟩ := d4 f hf
        refine ⟨g1, g2, g3, g4, g5, ?_, g7⟩
        show am_u (am_u (am_u I 59 0 0) 69 n (nI tn)) 59 2 (nI (ve + 1)) 69 f = am_u D 69 n (nI tn) 69 f
        by_cases hfn : f = n
        · subst hfn; simp [am_u]
        · simp [am_u, hfn, g6]
    · have eo : o_back b (nI n) ((nl, nq, np, nf, na, tn, tp), tb, fp, D) = (0, 0, ((nl, nq, np, nf, na, tn, tp), tb, fp, D)) := by
        show (if _ then _ else _) = _
        rw [if_neg (by rw [hlt]; decide), en, if_pos z]
      rw [← hQ, eo]
      exact ⟨_, _, J, rfl, fun _ => rfl, rfl, (f_r.rf I).up _ _ (by decide), f_r.rf J, am_u_same, hr0.mono (Nat.le_succ _)⟩
  refine g_112_0 hR _ _ ?_
  rw [e6, e32]
  have at26 : ∀ c : Nat, c = (if b = true then na else nf) → ¬ x < 0 → q_W β xs L (d + 1) 112 26 [.ref 59, .int (a_is b), .int x] [.int (nI c), .int x, .ref 59] (G, am_u I 59 0 0, J) Q := by
    intro c hc hx0
    refine g_112_26 hR _ _ _ _ ⟨fun z => fail (by rw [← hc]; simp [a_lt, z]), fun z => ?_⟩
    have hlt : a_lt x c = true := by simp [a_lt, hx0, z]
    have hcl : c < 2 ^ 31 := by
      rw [hc]
      split <;> omega
    obtain ⟨n, hn, hx⟩ := a_lt_of hcl hlt
    refine g_112_34 hR _ _ _ (q_right (d := d) hR true e0 (by decide) (Nat.le_refl _) (fun _ => ⟨hR, fun _ => ?_, fun q => absurd q (by decide)⟩) (fun q => by cases q))
    have en' : x.toNatClampNeg = n := by rw [hx]; exact nI_clamp (by omega)
    cases b with
    | true =>
      have hcn : c = na := hc
      refine ⟨fun q => absurd q (by decide), fun _ => ⟨by rw [hx]; exact am_is_nI (by omega) (by omega), ?_⟩⟩
      have e := at62 n (fun _ => by omega) (fun q => by cases q) hx (by rw [← hc]; exact hlt)
      have er : am_u I 59 0 0 78 x.toNatClampNeg = D 78 n := by rw [en']; exact (hD.2.2.2.2 n (by show n < na; omega)).2.2.2.2.1
      rw [er]
      exact e
    | false =>
      have hcn : c = nf := hc
      refine ⟨fun _ => ⟨by rw [hx]; exact am_is_nI (by omega) (by omega), ?_⟩, fun q => absurd rfl q⟩
      have e := at62 n (fun q => by cases q) (fun _ => by omega) hx (by rw [← hc]; exact hlt)
      have er : am_u I 59 0 0 69 x.toNatClampNeg = D 69 n := by rw [en']; exact (hD.2.2.2.1 n (by show n < nf; omega)).2.2.2.2.2.1
      rw [er]
      exact e
  refine ⟨fun z => fail (by simp [a_lt, z]), fun z => ⟨fun y => at26 nf ?_ z, fun y => at26 na ?_ z⟩⟩
  · rw [if_neg (by rw [a_is_0.mp y]; decide)]
  · have hb : b = true := by cases b; exact absurd rfl y; rfl
    rw [if_pos hb]
end Inv6

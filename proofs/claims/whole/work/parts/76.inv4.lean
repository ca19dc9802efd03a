/-! ===== facts ===== -/
/-- what a class's call that may throw leaves -/
def k_T (t : Nat) (w' : w_T) (e : Nat) (I : a_F) (J : Nat → Nat → Int64) (val : Int32) : am_O → am_H → Prop := fun o h => (if t = 0 then o = .inl (some (.int val)) else o = .inr t) ∧ ∃ e' G' I' J', e' ≤ e + 1 ∧ h = (G', I', J') ∧ f_c I I' ∧ f_c J J' ∧ c_I e' w' G' I' J'
def f_ck (x1 x2 x3 x4 : Int32) (nl nq np : Nat) : Bool := a_lt x1 7 && ((decide (x1 = 5) || a_lt x2 np) && ((!decide (x1 = 1) || a_lt x3 np) && ((!(decide (1 < x1) && decide (x1 < 6)) || a_lt x3 nl) && ((!decide (x1 < 2) && decide (x1 < 5)) || a_lt x4 nq))))
def o_fact (x1 x2 x3 x4 x5 : Int32) : w_T → Nat × Int32 × w_T := fun w => match w with
  | ((nl, nq, np, nf, na, tn, tp), tb, fp, D) => if f_ck x1 x2 x3 x4 nl nq np = false then (1, 0, w) else if nf = 100 ∨ a_dy x5 = false ∨ (x1 = 1 ∧ x2 = x3) then (0, -1, w) else
    (0, nI nf, ((nl, nq, np, nf + 1, na, tn, tp), tb, fp, am_u (am_u (am_u (am_u (am_u (am_u (am_u (am_u (am_u D 64 nf x1) 65 nf x2) 66 nf x3) 67 nf x4) 68 nf (nI tn)) 69 nf (-1)) 70 nf 1) 71 (3 * nf) x5) 59 6 (nI (nf + 1))))
theorem f_ck_of {x1 x2 x3 x4 : Int32} {nl nq np : Nat} (hl : nl ≤ 5) (hq : nq ≤ 12) (hp : np ≤ 20) (h : f_ck x1 x2 x3 x4 nl nq np = true) : ∃ kd, kd ≤ 6 ∧ x1 = nI kd ∧ (kd ≠ 5 → ∃ p, p < np ∧ x2 = nI p) ∧ (kd = 1 → ∃ q, q < np ∧ x3 = nI q) ∧ (2 ≤ kd → kd ≤ 5 → ∃ l, l < nl ∧ x3 = nI l) ∧ (kd < 2 ∨ 5 ≤ kd → ∃ q, q < nq ∧ x4 = nI q) := by
  simp only [f_ck, Bool.and_eq_true, Bool.or_eq_true, Bool.not_eq_true', decide_eq_true_eq, decide_eq_false_iff_not] at h
  obtain ⟨h1, h2, h3, h4, h5⟩ := h
  obtain ⟨kd, hk, hx⟩ := a_lt_of (by decide) h1
  subst hx
  have l1 : (1 : Int32) < nI kd ↔ 1 < kd := nI_ltI (a := 1) (by omega) (by omega)
  have l6 : nI kd < (6 : Int32) ↔ kd < 6 := nI_ltI (b := 6) (by omega) (by omega)
  have l2 : nI kd < (2 : Int32) ↔ kd < 2 := nI_ltI (b := 2) (by omega) (by omega)
  have l5 : nI kd < (5 : Int32) ↔ kd < 5 := nI_ltI (b := 5) (by omega) (by omega)
  have e5 : nI kd = 5 ↔ kd = 5 := nI_eq (b := 5) (by omega) (by omega)
  have e1 : nI kd = 1 ↔ kd = 1 := nI_eq (b := 1) (by omega) (by omega)
  rw [e5] at h2
  rw [e1] at h3
  rw [l2, l5] at h5
  refine ⟨kd, by omega, rfl, fun q => a_lt_of (by omega) (h2.resolve_left q), fun q => a_lt_of (by omega) (h3.resolve_left (fun z => z q)), fun q1 q2 => ?_, fun q => a_lt_of (by omega) (h5.resolve_left (fun z => by omega))⟩
  rcases h4 with h4 | h4
  · exfalso
    have h6 : (decide (1 < nI kd) && decide (nI kd < 6)) = true := by
      rw [Bool.and_eq_true]
      exact ⟨decide_eq_true (l1.mpr (by omega)), decide_eq_true (l6.mpr (by omega))⟩
    first
    | (rw [h6] at h4; cases h4)
    | (simp_all)
  · exact a_lt_of (by omega) h4
theorem w_fact {w : w_T} (h : w_O w) (x1 x2 x3 x4 x5 : Int32) : w_O (o_fact x1 x2 x3 x4 x5 w).2.2 := by
  obtain ⟨⟨nl, nq, np, nf, na, tn, tp⟩, tb, fp, D⟩ := w
  have hw := h
  obtain ⟨⟨⟨⟨p1, p2, p3⟩, ⟨b1, b2, b3, b4⟩, p4⟩, hA, hF, hT, h6, hf2⟩, hDR, ht, hp⟩ := h
  unfold o_fact
  dsimp only
  split
  · exact hw
  · rename_i hck
    split
    · exact hw
    · rename_i hno
      have hck : f_ck x1 x2 x3 x4 nl nq np = true := by
        cases hz : f_ck x1 x2 x3 x4 nl nq np with
        | true => rfl
        | false => exact absurd hz hck
      obtain ⟨kd, hk, hx, k1, k2, k3, k4⟩ := f_ck_of b1 b2 b3 hck
      have hdy : a_dy x5 = true := by
        cases hz : a_dy x5 with
        | true => rfl
        | false => exact absurd (Or.inr (Or.inl hz)) hno
      obtain ⟨dd, hdd, hdd2⟩ := a_dy_of hdy
      have hnf : nf < 100 := by
        have : nf ≠ 100 := fun q => hno (Or.inl q)
        have : nf ≤ 100 := hf2
        omega
      show w_ok nl nq np (nf + 1) na tn tp (am_u (am_u (am_u (am_u (am_u (am_u (am_u (am_u (am_u D 64 nf x1) 65 nf x2) 66 nf x3) 67 nf x4) 68 nf (nI tn)) 69 nf (-1)) 70 nf 1) 71 (3 * nf) x5) 59 6 (nI (nf + 1)))
      refine ⟨⟨⟨⟨p1, p2, p3⟩, ⟨b1, b2, b3, b4⟩, p4⟩, hA, fun f hf => ?_, hT, am_u_same, by omega⟩, hDR, ht, hp⟩
      have r64 : ∀ f, am_u (am_u (am_u (am_u (am_u (am_u (am_u (am_u (am_u D 64 nf x1) 65 nf x2) 66 nf x3) 67 nf x4) 68 nf (nI tn)) 69 nf (-1)) 70 nf 1) 71 (3 * nf) x5) 59 6 (nI (nf + 1)) 64 f = if f = nf then x1 else D 64 f := fun f => by simp [am_u]
      have r65 : ∀ f, am_u (am_u (am_u (am_u (am_u (am_u (am_u (am_u (am_u D 64 nf x1) 65 nf x2) 66 nf x3) 67 nf x4) 68 nf (nI tn)) 69 nf (-1)) 70 nf 1) 71 (3 * nf) x5) 59 6 (nI (nf + 1)) 65 f = if f = nf then x2 else D 65 f := fun f => by simp [am_u]
      have r66 : ∀ f, am_u (am_u (am_u (am_u (am_u (am_u (am_u (am_u (am_u D 64 nf x1) 65 nf x2) 66 nf x3) 67 nf x4) 68 nf (nI tn)) 69 nf (-1)) 70 nf 1) 71 (3 * nf) x5) 59 6 (nI (nf + 1)) 66 f = if f = nf then x3 else D 66 f := fun f => by simp [am_u]
      have r67 : ∀ f, am_u (am_u (am_u (am_u (am_u (am_u (am_u (am_u (am_u D 64 nf x1) 65 nf x2) 66 nf x3) 67 nf x4) 68 nf (nI tn)) 69 nf (-1)) 70 nf 1) 71 (3 * nf) x5) 59 6 (nI (nf + 1)) 67 f = if f = nf then x4 else D 67 f := fun f => by simp [am_u]
      have r70 : ∀ f, am_u (am_u (am_u (am_u (am_u (am_u (am_u (am_u (am_u D 64 nf x1) 65 nf x2) 66 nf x3) 67 nf x4) 68 nf (nI tn)) 69 nf (-1)) 70 nf 1) 71 (3 * nf) x5) 59 6 (nI (nf + 1)) 70 f = if f = nf then 1 else D 70 f := fun f => by simp [am_u]
      have r71 : ∀ f, am_u (am_u (am_u (am_u (am_u (am_u (am_u (am_u (am_u D 64 nf x1) 65 nf x2) 66 nf x3) 67 nf x4) 68 nf (nI tn)) 69 nf (-1)) 70 nf 1) 71 (3 * nf) x5) 59 6 (nI (nf + 1)) 71 f = if f = 3 * nf then x5 else D 71 f := fun f => by simp [am_u]
      rw [r64, r65, r66, r67, r70]
      by_cases e : f = nf
      · subst e
        rw [if_pos rfl, if_pos rfl, if_pos rfl, if_pos rfl, if_pos rfl]
        refine ⟨⟨kd, hk, hx, fun q => ?_, k3, k4⟩, 1, by decide, by decide, rfl, fun i hi => ?_⟩
        · obtain ⟨p, z1, z2⟩ := k1 q
          refine ⟨p, z1, z2, fun y => ?_⟩
          obtain ⟨q', y1, y2⟩ := k2 y
          refine ⟨q', y1, fun u => hno (Or.inr (Or.inr ⟨by rw [hx, y]; rfl, by rw [z2, y2, u]⟩)), y2⟩
        · have : i = 0 := by omega
          subst this
          rw [r71, if_pos (Nat.add_zero _)]
          exact ⟨dd, hdd, hdd2⟩
      · rw [if_neg e, if_neg e, if_neg e, if_neg e, if_neg e]
        have hfl : f < nf := by have : f < nf + 1 := hf; omega
        obtain ⟨z1, cn, z2, z3, z4, z5⟩ := hF f hfl
        refine ⟨z1, cn, z2, z3, z4, fun i hi => ?_⟩
        have hne : ¬ 3 * f + i = 3 * nf := by
          have hi3 : i < 3 := Nat.lt_of_lt_of_le hi z3
          clear z1 z5
          omega
        rw [r71, if_neg hne]
        exact z5 i hi
section Inv4
variable {β : Bool} {xs : Nat → Int32} {L : Nat} {G : am_G} {I : a_F} {J : Nat → Nat → Int64}
theorem q_needN {d d' : Nat} (hR : q_RT G) (x : Int32) (n : Nat) (hd : d ≤ d') {A : am_G → (Nat → Nat → Int32) → (Nat → Nat → Int64) → Prop} {E : Nat → am_G → (Nat → Nat → Int32) → (Nat → Nat → Int64) → Prop} (hA : a_lt x n = true → A G I J) (hE : a_lt x n = false → E 1 (am_thr (G, I, J)).1 I J) : q_W β xs L d' 91 0 [.int x, .int (nI n)] [] (G, I, J) (q_Rv A E) :=
  q_useRv (c_needN (β := β) (xs := xs) (L := L) (d := d) hR x n) hd (fun o h' P => by
    rcases P with ⟨h1, rfl, rfl⟩ | ⟨h1, rfl, rfl⟩
    · exact hA h1
    · exact hE h1)
theorem q_right {d d' : Nat} (hR : q_RT G) (b : Bool) {t : Int32} (h0 : I 59 0 = 0) (ht : ¬ t = 0) (hd : d ≤ d') {A : Int32 → am_G → (Nat → Nat → Int32) → (Nat → Nat → Int64) → Prop} {E : Nat → am_G → (Nat → Nat → Int32) → (Nat → Nat → Int64) → Prop} (hT : b = true → A 1 G I J) (hF : b = false → A 0 G (am_u I 59 0 t) J) : q_W β xs L d' 103 0 [.ref 59, .int (a_is b), .int t] [] (G, I, J) (q_Ri A E) :=
  q_useR (r_right (β := β) (xs := xs) (L := L) (d := d) hR b t h0 ht) hd (fun o h' P => by
    obtain ⟨rfl, rfl⟩ := P
    cases b with
    | true => exact hT rfl
    | false => exact hF rfl)
theorem r_isPerson {d np : Nat} (hR : q_RT G) (h5 : I 59 5 = nI np) (x : Int32) (h0 : I 59 0 = 0) {A : Int32 → am_G → (Nat → Nat → Int32) → (Nat → Nat → Int64) → Prop} {E : Nat → am_G → (Nat → Nat → Int32) → (Nat → Nat → Int64) → Prop} (hT : a_lt x np = true → A 1 G I J) (hF : a_lt x np = false → A 0 G (am_u I 59 0 1) J) : q_W β xs L (d + 1) 107 0 [.ref 59, .int x] [] (G, I, J) (q_Ri A E) := by
  have at18 : ∀ b : Bool, b = a_lt x np → q_W β xs L (d + 1) 107 18 [.ref 59, .int x] [.int (a_is b), .ref 59] (G, I, J) (q_Ri A E) := fun b hb => g_107_18 hR _ _ (q_right (d := d) hR b h0 (by decide) (Nat.le_refl _) (fun z => ⟨Or.inr rfl, hT (hb.symm.trans z)⟩) (fun z => ⟨Or.inl rfl, hF (hb.symm.trans z)⟩))
  refine g_107_0 hR _ ?_
  rw [h5]
  exact ⟨fun z => g_107_17 hR _ (at18 false (by simp [a_lt, z])), fun z => ⟨fun y => g_107_17 hR _ (at18 false (by simp [a_lt, y])), fun y => at18 true (by simp [a_lt, z, y])⟩⟩
theorem r_isLand {d nl : Nat} (hR : q_RT G) (h5 : I 59 3 = nI nl) (x : Int32) (h0 : I 59 0 = 0) {A : Int32 → am_G → (Nat → Nat → Int32) → (Nat → Nat → Int64) → Prop} {E : Nat → am_G → (Nat → Nat → Int32) → (Nat → Nat → Int64) → Prop} (hT : a_lt x nl = true → A 1 G I J) (hF : a_lt x nl = false → A 0 G (am_u I 59 0 1) J) : q_W β xs L (d + 1) 108 0 [.ref 59, .int x] [] (G, I, J) (q_Ri A E) := by
  have at18 : ∀ b : Bool, b = a_lt x nl → q_W β xs L (d + 1) 108 18 [.ref 59, .int x] [.int (a_is b), .ref 59] (G, I, J) (q_Ri A E) := fun b hb => g_108_18 hR _ _ (q_right (d := d) hR b h0 (by decide) (Nat.le_refl _) (fun z => ⟨Or.inr rfl, hT (hb.symm.trans z)⟩) (fun z => ⟨Or.inl rfl, hF (hb.symm.trans z)⟩))
  refine g_108_0 hR _ ?_
  rw [h5]
  exact ⟨fun z => g_108_17 hR _ (at18 false (by simp [a_lt, z])), fun z => ⟨fun y => g_108_17 hR _ (at18 false (by simp [a_lt, y])), fun y => at18 true (by simp [a_lt, z, y])⟩⟩
theorem k_fact {d e : Nat} {w : w_T} (hC : c_I e w G I J) (hw : w_O w) (x1 x2 x3 x4 x5 : Int32) : q_W β xs L (d + 1) 73 0 [.ref 0, .int x1, .int x2, .int x3, .int x4, .int x5, .retAddr 0, .retAddr 0, .retAddr 0] [] (G, I, J) (k_T (o_fact x1 x2 x3 x4 x5 w).1 (o_fact x1 x2 x3 x4 x5 w).2.2 e I J (o_fact x1 x2 x3 x4 x5 w).2.1) := by
  obtain ⟨⟨nl, nq, np, nf, na, tn, tp⟩, tb, fp, D⟩ := w
  have hC0 := hC
  obtain ⟨j, hL, hD, h3, h4, h5, h6⟩ := hC
  have hn5 := hw.1.1.2.1
  have hl5 : nl ≤ 5 := hn5.1
  have hq12 : nq ≤ 12 := hn5.2.1
  have hp20 : np ≤ 20 := hn5.2.2.1
  have hnf : nf ≤ 100 := hw.1.2.2.2.2.2
  have hR := hL.2.1
  have e33 : I 3 3 = nI np := hD.1.2.2.1
  have e12 : I 1 2 = nI nl := hD.1.1
  have e11 : I 1 1 = nI nq := hD.1.2.1
  have e78 : I 7 8 = nI nf := hD.1.2.2.2.1
  generalize hQ : k_T (o_fact x1 x2 x3 x4 x5 ((nl, nq, np, nf, na, tn, tp), tb, fp, D)).1 (o_fact x1 x2 x3 x4 x5 ((nl, nq, np, nf, na, tn, tp), tb, fp, D)).2.2 e I J (o_fact x1 x2 x3 x4 x5 ((nl, nq, np, nf, na, tn, tp), tb, fp, D)).2.1 = Q
  have fail : f_ck x1 x2 x3 x4 nl nq np = false → Q (.inr 1) ((am_thr (G, I, J)).1, I, J) := fun z => by
    have eo : o_fact x1 x2 x3 x4 x5 ((nl, nq, np, nf, na, tn, tp), tb, fp, D) = (1, 0, ((nl, nq, np, nf, na, tn, tp), tb, fp, D)) := if_pos z
    rw [← hQ, eo]
    exact ⟨rfl, e + 1, _, I, J, Nat.le_refl _, rfl, f_c.rf I, f_c.rf J, c_inv.tw hC0⟩
  have none : f_ck x1 x2 x3 x4 nl nq np = true → (nf = 100 ∨ a_dy x5 = false ∨ (x1 = 1 ∧ x2 = x3)) → ∀ i6 i7, q_W β xs L (d + 1) 73 136 [.ref 0, .int x1, .int x2, .int x3, .int x4, .int x5, .int i6, .int i7, .retAddr 0] [] (G, I, J) Q := fun z y i6 i7 => by
    have eo : o_fact x1 x2 x3 x4 x5 ((nl, nq, np, nf, na, tn, tp), tb, fp, D) = (0, -1, ((nl, nq, np, nf, na, tn, tp), tb, fp, D)) := by
      show (if _ then _ else _) = _
      rw [if_neg (by rw [z]; decide), if_pos y]
    rw [← hQ, eo]
    exact g_73_136 hR _ _ _ _ _ _ _ ⟨rfl, e, G, I, J, Nat.le_succ _, rfl, f_c.rf I, f_c.rf J, hC0⟩
  have at138 : ∀ b6 b7 : Bool, b6 = (decide (1 < x1) && decide (x1 < 6)) → b7 = !(!decide (x1 < 2) && decide (x1 < 5)) → f_ck x1 x2 x3 x4 nl nq np = true → ¬ (nf = 100 ∨ a_dy x5 = false ∨ (x1 = 1 ∧ x2 = x3)) → q_W β xs L (d + 1) 73 138 [.ref 0, .int x1, .int x2, .int x3, .int x4, .int x5, .int (a_is b6), .int (a_is b7), .retAddr 0] [] (G, I, J) Q := by
    intro b6 b7 hb6 hb7 hck hno
    have nf9 : nf < 100 := by
      have : nf ≠ 100 := fun q => hno (Or.inl q)
      omega
    have eo : o_fact x1 x2 x3 x4 x5 ((nl, nq, np, nf, na, tn, tp), tb, fp, D) = (0, nI nf, ((nl, nq, np, nf + 1, na, tn, tp), tb, fp, am_u (am_u (am_u (am_u (am_u (am_u (am_u (am_u (am_u D 64 nf x1) 65 nf x2) 66 nf x3) 67 nf x4) 68 nf (nI tn)) 69 nf (-1)) 70 nf 1) 71 (3 * nf) x5) 59 6 (nI (nf + 1)))) := by
      show (if _ then _ else _) = _
      rw [if_neg (by rw [hck]; decide), if_neg hno]
    obtain ⟨kd, hk, hx, -⟩ := f_ck_of hl5 hq12 hp20 hck
    have jn : am_is (nI nf) 100 = true := am_is_nI (by omega) (by omega)
    have cn : (nI nf).toNatClampNeg = nf := nI_clamp (by omega)
    have e3 : (nI nf * 3 : Int32) = nI (3 * nf) := by rw [s_lit, pk_mul, Nat.mul_comm]
    have fin : ∀ v9 v10 v11 : Int32, v9 = (if x1 = 5 then -1 else x2) → v10 = (if x1 = 0 ∨ x1 = 6 then -1 else x3) → v11 = (if x1 < 2 ∨ ¬ x1 < 5 then x4 else -1) → q_W β xs L (d + 1) 73 227 [.ref 0, .int x1, .int x2, .int x3, .int x4, .int x5, .int (a_is b6), .int (a_is b7), .int (nI nf)] [.int v11, .int (nI nf), .ref 11] (G, am_u (am_u (am_u (am_u I 0 11 (-1)) 8 nf x1) 9 nf v9) 10 nf v10, am_u J 38 19 (-1)) Q := by
      intro v9 v10 v11 hv9 hv10 hv11
      refine g_73_227 hR _ _ _ _ _ _ _ _ _ _ ?_
      have z0 : am_u (am_u (am_u (am_u I 0 11 (-1)) 8 nf x1) 9 nf v9) 10 nf v10 0 10 = nI tn := h3.1
      have z7 : am_u (am_u (am_u (am_u I 0 11 (-1)) 8 nf x1) 9 nf v9) 10 nf v10 7 8 = nI nf := e78
      rw [z0, z7, e3, cn, show (nI (3 * nf)).toNatClampNeg = 3 * nf from nI_clamp (by omega), nI_1, ← hQ, eo]
      refine ⟨jn, jn, jn, am_is_nI (by omega) (by omega), jn, rfl, e, G, _, _, Nat.le_succ _, rfl, ((((((((((f_c.rf I).up _ _ (by decide)).up _ _ (by decide)).up _ _ (by decide)).up _ _ (by decide)).up _ _ (by decide)).up _ _ (by decide)).up _ _ (by decide)).up _ _ (by decide)).up _ _ (by decide)).up _ _ (by decide), (f_c.rf J).up _ _ (by decide), j, hL, ?_, h3, h4, Or.inl am_u_same, Or.inl ?_⟩
      · obtain ⟨⟨c1, c2, c3, c4, c5⟩, d2, d3, d4, d5⟩ := hD
        refine ⟨⟨c1, c2, c3, am_u_same, c5⟩, d2, d3, fun f hf => ?_, d5⟩
        dsimp only
        have w8 : ∀ f, am_u (am_u (am_u (am_u (am_u (am_u (am_u (am_u (am_u (am_u I 0 11 (-1)) 8 nf x1) 9 nf v9) 10 nf v10) 11 nf v11) 12 nf (nI tn)) 13 nf (-1)) 14 (3 * nf) x5) 15 nf 1) 7 8 (nI (nf + 1)) 8 f = if f = nf then x1 else I 8 f := fun f => by simp [am_u]
        have w9 : ∀ f, am_u (am_u (am_u (am_u (am_u (am_u (am_u (am_u (am_u (am_u I 0 11 (-1)) 8 nf x1) 9 nf v9) 10 nf v10) 11 nf v11) 12 nf (nI tn)) 13 nf (-1)) 14 (3 * nf) x5) 15 nf 1) 7 8 (nI (nf + 1)) 9 f = if f = nf then v9 else I 9 f := fun f => by simp [am_u]
        have w10 : ∀ f, am_u (am_u (am_u (am_u (am_u (am_u (am_u (am_u (am_u (am_u I 0 11 (-1)) 8 nf x1) 9 nf v9) 10 nf v10) 11 nf v11) 12 nf (nI tn)) 13 nf (-1)) 14 (3 * nf) x5) 15 nf 1) 7 8 (nI (nf + 1)) 10 f = if f = nf then v10 else I 10 f := fun f => by simp [am_u]
        have w11 : ∀ f, am_u (am_u (am_u (am_u (am_u (am_u (am_u (am_u (am_u (am_u I 0 11 (-1)) 8 nf x1) 9 nf v9) 10 nf v10) 11 nf v11) 12 nf (nI tn)) 13 nf (-1)) 14 (3 * nf) x5) 15 nf 1) 7 8 (nI (nf + 1)) 11 f = if f = nf then v11 else I 11 f := fun f => by simp [am_u]
        have w12 : ∀ f, am_u (am_u (am_u (am_u (am_u (am_u (am_u (am_u (am_u (am_u I 0 11 (-1)) 8 nf x1) 9 nf v9) 10 nf v10) 11 nf v11) 12 nf (nI tn)) 13 nf (-1)) 14 (3 * nf) x5) 15 nf 1) 7 8 (nI (nf + 1)) 12 f = if f = nf then nI tn else I 12 f := fun f => by simp [am_u]
        have w13 : ∀ f, am_u (am_u (am_u (am_u (am_u (am_u (am_u (am_u (am_u (am_u I 0 11 (-1)) 8 nf x1) 9 nf v9) 10 nf v10) 11 nf v11) 12 nf (nI tn)) 13 nf (-1)) 14 (3 * nf) x5) 15 nf 1) 7 8 (nI (nf + 1)) 13 f = if f = nf then -1 else I 13 f := fun f => by simp [am_u]
        have w14 : ∀ f, am_u (am_u (am_u (am_u (am_u (am_u (am_u (am_u (am_u (am_u I 0 11 (-1)) 8 nf x1) 9 nf v9) 10 nf v10) 11 nf v11) 12 nf (nI tn)) 13 nf (-1)) 14 (3 * nf) x5) 15 nf 1) 7 8 (nI (nf + 1)) 14 f = if f = 3 * nf then x5 else I 14 f := fun f => by simp [am_u]
        have w15 : ∀ f, am_u (am_u (am_u (am_u (am_u (am_u (am_u (am_u (am_u (am_u I 0 11 (-1)) 8 nf x1) 9 nf v9) 10 nf v10) 11 nf v11) 12 nf (nI tn)) 13 nf (-1)) 14 (3 * nf) x5) 15 nf 1) 7 8 (nI (nf + 1)) 15 f = if f = nf then 1 else I 15 f := fun f => by simp [am_u]
        rw [w8, w9, w10, w11, w12, w13, w15]
        by_cases hfn : f = nf
        · subst hfn
          refine ⟨by simp [am_u], ?_, ?_, ?_, by simp [am_u], by simp [am_u], by simp [am_u], fun i hi => ?_⟩
          · rw [if_pos rfl, hv9]; simp [am_u]
          · rw [if_pos rfl, hv10]; simp [am_u]
          · rw [if_pos rfl, hv11]; simp [am_u]
          · have hi0 : i = 0 := by
              have e70 : a_ix (am_u (am_u (am_u (am_u (am_u (am_u (am_u (am_u (am_u D 64 f x1) 65 f x2) 66 f x3) 67 f x4) 68 f (nI tn)) 69 f (-1)) 70 f 1) 71 (3 * f) x5) 59 6 (nI (f + 1)) 70 f) = 1 := by
                have : am_u (am_u (am_u (am_u (am_u (am_u (am_u (am_u (am_u D 64 f x1) 65 f x2) 66 f x3) 67 f x4) 68 f (nI tn)) 69 f (-1)) 70 f 1) 71 (3 * f) x5) 59 6 (nI (f + 1)) 70 f = 1 := by simp [am_u]
                rw [this]; rfl
              rw [e70] at hi
              omega
            subst hi0
            rw [w14]
            simp [am_u]
        · have hfl : f < nf := by have : f < nf + 1 := hf; omega
          obtain ⟨g1, g2, g3, g4, g5, g6, g7, g8⟩ := d4 f hfl
          refine ⟨by simp [am_u, hfn, g1], ?_, ?_, ?_, by simp [am_u, hfn, g5], by simp [am_u, hfn, g6], by simp [am_u, hfn, g7], fun i hi => ?_⟩
          · rw [if_neg hfn, g2]; simp [am_u, hfn]
          · rw [if_neg hfn, g3]; simp [am_u, hfn]
          · rw [if_neg hfn, g4]; simp [am_u, hfn]
          · have e70 : am_u (am_u (am_u (am_u (am_u (am_u (am_u (am_u (am_u D 64 nf x1) 65 nf x2) 66 nf x3) 67 nf x4) 68 nf (nI tn)) 69 nf (-1)) 70 nf 1) 71 (3 * nf) x5) 59 6 (nI (nf + 1)) 70 f = D 70 f := by simp [am_u, hfn]
            rw [e70] at hi
            have hi3 : i < 3 := by
              obtain ⟨-, cn', -, z2, z3, -⟩ := hw.1.2.2.1 f hfl
              have z3' : D 70 f = nI cn' := z3
              rw [z3', show a_ix (nI cn') = cn' from nI_clamp (by omega)] at hi
              omega
            have hne : ¬ 3 * f + i = 3 * nf := by omega
            rw [w14, if_neg hne, g8 i hi]
            simp [am_u, hne]
      · rw [am_u_ne (Or.inl (by decide)), am_u_ne (Or.inl (by decide)), am_u_ne (Or.inl (by decide)), am_u_ne (Or.inl (by decide)), am_u_ne (Or.inl (by decide)), am_u_ne (Or.inl (by decide)), am_u_ne (Or.inl (by decide)), am_u_ne (Or.inl (by decide)), am_u_ne (Or.inl (by decide)), am_u_same]
    subst hx
    have l1 : (1 : Int32) < nI kd ↔ 1 < kd := nI_ltI (a := 1) (by omega) (by omega)
    have l6 : nI kd < (6 : Int32) ↔ kd < 6 := nI_ltI (b := 6) (by omega) (by omega)
    have l2 : nI kd < (2 : Int32) ↔ kd < 2 := nI_ltI (b := 2) (by omega) (by omega)
    have l5 : nI kd < (5 : Int32) ↔ kd < 5 := nI_ltI (b := 5) (by omega) (by omega)
    have k0 : nI kd = 0 ↔ kd = 0 := nI_eq (b := 0) (by omega) (by omega)
    have k1 : nI kd = 1 ↔ kd = 1 := nI_eq (b := 1) (by omega) (by omega)
    have k6 : nI kd = 6 ↔ kd = 6 := nI_eq (b := 6) (by omega) (by omega)
    have at206 : ∀ v9 v10 : Int32, v9 = (if nI kd = 5 then -1 else x2) → v10 = (if nI kd = 0 ∨ nI kd = 6 then -1 else x3) → q_W β xs L (d + 1) 73 206 [.ref 0, .int (nI kd), .int x2, .int x3, .int x4, .int x5, .int (a_is b6), .int (a_is b7), .int (nI nf)] [.int v10, .int (nI nf), .ref 10] (G, am_u (am_u (am_u I 0 11 (-1)) 8 nf (nI kd)) 9 nf v9, am_u J 38 19 (-1)) Q := by
      intro v9 v10 hv9 hv10
      refine g_73_206 hR _ _ _ _ _ _ _ _ _ _ ?_
      rw [cn]
      refine ⟨jn, fun z => fin v9 v10 _ hv9 hv10 ?_, fun z => fin v9 v10 _ hv9 hv10 ?_⟩
      · have hb := a_is_0.mp z
        rw [hb7] at hb
        rw [if_neg]
        rintro (q | q)
        · rw [decide_eq_true q] at hb
          cases hb
        · rw [decide_eq_false q, Bool.and_false] at hb
          cases hb
      · rw [if_pos]
        cases h1 : decide (nI kd < 2) with
        | true => exact Or.inl (of_decide_eq_true h1)
        | false =>
          right
          intro q
          apply z
          rw [hb7, h1, decide_eq_true q]
          rfl
    have at181 : ∀ v9 : Int32, v9 = (if nI kd = 5 then -1 else x2) → q_W β xs L (d + 1) 73 181 [.ref 0, .int (nI kd), .int x2, .int x3, .int x4, .int x5, .int (a_is b6), .int (a_is b7), .int (nI nf)] [.int v9, .int (nI nf), .ref 9] (G, am_u (am_u I 0 11 (-1)) 8 nf (nI kd), am_u J 38 19 (-1)) Q := by
      intro v9 hv9
      have at201 : ¬ (kd = 0 ∨ kd = 6) → q_W β xs L (d + 1) 73 201 [.ref 0, .int (nI kd), .int x2, .int x3, .int x4, .int x5, .int (a_is b6), .int (a_is b7), .int (nI nf)] [.int (nI nf), .ref 10] (G, am_u (am_u (am_u I 0 11 (-1)) 8 nf (nI kd)) 9 nf v9, am_u J 38 19 (-1)) Q := fun q => g_73_201 hR _ _ _ _ _ _ _ _ _ (at206 v9 _ hv9 (by rw [if_neg (by rw [k0, k6]; exact q)]))
      refine g_73_181 hR _ _ _ _ _ _ _ _ _ _ ?_
      rw [cn, k1]
      refine ⟨jn, fun z => at201 (fun q => z ?_), fun z => ⟨fun y => at206 v9 _ hv9 ?_, fun y => at201 (by omega)⟩⟩
      · rw [hb6]
        have : ¬ (1 < kd ∧ kd < 6) := by omega
        rcases Nat.lt_or_ge 1 kd with h | h
        · rw [decide_eq_false (fun q => by have := l6.mp q; omega : ¬ nI kd < 6), Bool.and_false]; rfl
        · rw [decide_eq_false (fun q => by have := l1.mp q; omega : ¬ (1 : Int32) < nI kd), Bool.false_and]; rfl
      · rw [if_pos]
        rw [k0, k6]
        have hb := a_is_0.mp z
        rw [hb6] at hb
        have : ¬ (1 < kd ∧ kd < 6) := fun q => by
          rw [decide_eq_true (l1.mpr q.1), decide_eq_true (l6.mpr q.2)] at hb
          cases hb
        omega
    refine g_73_138 hR _ _ _ _ _ _ _ ?_
    refine q_useF (c_forget (β := β) (xs := xs) (L := L) (d := d) hR) (Nat.le_refl _) ⟨hR, ?_⟩
    have e1 : am_u I 0 11 (-1) 7 8 = nI nf := e78
    rw [e1, cn]
    exact ⟨jn, fun z => at181 _ (by rw [if_neg z]), fun z => at181 _ (by rw [if_pos z])⟩
  have at106 : ∀ b6 b7 : Bool, b6 = (decide (1 < x1) && decide (x1 < 6)) → b7 = !(!decide (x1 < 2) && decide (x1 < 5)) → f_ck x1 x2 x3 x4 nl nq np = true → q_W β xs L (d + 1) 73 106 [.ref 0, .int x1, .int x2, .int x3, .int x4, .int x5, .int (a_is b6), .int (a_is b7), .retAddr 0] [] (G, I, J) Q := by
    intro b6 b7 hb6 hb7 hck
    have lt : nI nf < 100 ↔ nf < 100 := nI_ltI (b := 100) (by omega) (by omega)
    refine g_73_106 hR _ _ _ _ _ _ _ ?_
    rw [e78, lt]
    refine ⟨fun z => none hck (Or.inl (by omega)) _ _, fun z => q_useI (c_isDay (β := β) (xs := xs) (L := L) (d := d) hR x5) (Nat.le_refl _) ⟨fun y => none hck (Or.inr (Or.inl (a_is_0.mp y))) _ _, fun y => ?_⟩⟩
    have hdy : a_dy x5 = true := by
      cases hz : a_dy x5 with
      | true => rfl
      | false => exact absurd (a_is_0.mpr hz) y
    refine ⟨fun u => at138 b6 b7 hb6 hb7 hck ?_, fun u => ⟨fun t => at138 b6 b7 hb6 hb7 hck ?_, fun t => none hck (Or.inr (Or.inr ⟨u, t⟩)) _ _⟩⟩
    · rintro (q | q | q)
      · omega
      · rw [hdy] at q; cases q
      · exact u q.1
    · rintro (q | q | q)
      · omega
      · rw [hdy] at q; cases q
      · exact t q.2
  have at87 : ∀ b6 b7 : Bool, b6 = (decide (1 < x1) && decide (x1 < 6)) → b7 = !(!decide (x1 < 2) && decide (x1 < 5)) → (a_lt x1 7 = true ∧ (decide (x1 = 5) || a_lt x2 np) = true ∧ (!decide (x1 = 1) || a_lt x3 np) = true ∧ (!(decide (1 < x1) && decide (x1 < 6)) || a_lt x3 nl) = true) → q_W β xs L (d + 1) 73 87 [.ref 0, .int x1, .int x2, .int x3, .int x4, .int x5, .int (a_is b6), .retAddr 0, .retAddr 0] [.int (a_is b7)] (G, I, J) Q := by
    intro b6 b7 hb6 hb7 ⟨c1, c2, c3, c4⟩
    refine g_73_87 hR _ _ _ _ _ _ _ ?_
    rw [e11]
    refine ⟨fun z => at106 b6 b7 hb6 hb7 ?_, fun z => q_needN (d := d) hR x4 nq (Nat.le_refl _) (fun y => at106 b6 b7 hb6 hb7 ?_) (fun y => fail ?_)⟩
    · have hb := a_is_0.mp z
      have h5 : (!decide (x1 < 2) && decide (x1 < 5)) = true := by
        rw [hb7] at hb
        cases hz : (!decide (x1 < 2) && decide (x1 < 5)) with
        | true => rfl
        | false => rw [hz] at hb; cases hb
      unfold f_ck
      rw [c1, c2, c3, c4, h5]
      rfl
    · unfold f_ck
      rw [c1, c2, c3, c4, y]
      simp
    · have hb : b7 = true := by cases b7; exact absurd rfl z; rfl
      have h5 : (!decide (x1 < 2) && decide (x1 < 5)) = false := by
        rw [hb7] at hb
        cases hz : (!decide (x1 < 2) && decide (x1 < 5)) with
        | false => rfl
        | true => rw [hz] at hb; cases hb
      unfold f_ck
      rw [c1, c2, c3, c4, h5, y]
      rfl
  have at72 : ∀ b6 : Bool, b6 = (decide (1 < x1) && decide (x1 < 6)) → (a_lt x1 7 = true ∧ (decide (x1 = 5) || a_lt x2 np) = true ∧ (!decide (x1 = 1) || a_lt x3 np) = true ∧ (!(decide (1 < x1) && decide (x1 < 6)) || a_lt x3 nl) = true) → q_W β xs L (d + 1) 73 72 [.ref 0, .int x1, .int x2, .int x3, .int x4, .int x5, .int (a_is b6), .retAddr 0, .retAddr 0] [] (G, I, J) Q := by
    intro b6 hb6 hc
    exact g_73_72 hR _ _ _ _ _ _ ⟨fun z => g_73_82 hR _ _ _ _ _ _ (at87 b6 true hb6 (by simp [z]) hc), fun z => ⟨fun y => at87 b6 false hb6 (by simp [z, y]) hc, fun y => g_73_82 hR _ _ _ _ _ _ (at87 b6 true hb6 (by simp [y]) hc)⟩⟩
  have at54 : ∀ b6 : Bool, b6 = (decide (1 < x1) && decide (x1 < 6)) → (a_lt x1 7 = true ∧ (decide (x1 = 5) || a_lt x2 np) = true ∧ (!decide (x1 = 1) || a_lt x3 np) = true) → q_W β xs L (d + 1) 73 54 [.ref 0, .int x1, .int x2, .int x3, .int x4, .int x5, .retAddr 0, .retAddr 0, .retAddr 0] [.int (a_is b6)] (G, I, J) Q := by
    intro b6 hb6 ⟨c1, c2, c3⟩
    refine g_73_54 hR _ _ _ _ _ _ ?_
    rw [e12]
    refine ⟨fun z => at72 b6 hb6 ⟨c1, c2, c3, ?_⟩, fun z => q_needN (d := d) hR x3 nl (Nat.le_refl _) (fun y => at72 b6 hb6 ⟨c1, c2, c3, by rw [y]; simp⟩) (fun y => fail ?_)⟩
    · rw [← hb6, a_is_0.mp z]; rfl
    · have hb : b6 = true := by cases b6; exact absurd rfl z; rfl
      unfold f_ck
      rw [c1, c2, c3, ← hb6, hb, y]
      rfl
  have at38 : (a_lt x1 7 = true ∧ (decide (x1 = 5) || a_lt x2 np) = true ∧ (!decide (x1 = 1) || a_lt x3 np) = true) → q_W β xs L (d + 1) 73 38 [.ref 0, .int x1, .int x2, .int x3, .int x4, .int x5, .retAddr 0, .retAddr 0, .retAddr 0] [] (G, I, J) Q := fun hc =>
    g_73_38 hR _ _ _ _ _ ⟨fun z => g_73_53 hR _ _ _ _ _ (at54 false (by simp [z]) hc), fun z => ⟨fun y => g_73_53 hR _ _ _ _ _ (at54 false (by simp [y]) hc), fun y => at54 true (by simp [z, y]) hc⟩⟩
  have at22 : (a_lt x1 7 = true ∧ (decide (x1 = 5) || a_lt x2 np) = true) → q_W β xs L (d + 1) 73 22 [.ref 0, .int x1, .int x2, .int x3, .int x4, .int x5, .retAddr 0, .retAddr 0, .retAddr 0] [] (G, I, J) Q := fun ⟨c1, c2⟩ => by
    refine g_73_22 hR _ _ _ _ _ ?_
    rw [e33]
    refine ⟨fun z => at38 ⟨c1, c2, by simp [z]⟩, fun z => q_needN (d := d) hR x3 np (Nat.le_refl _) (fun y => at38 ⟨c1, c2, by rw [y]; simp⟩) (fun y => fail ?_)⟩
    unfold f_ck
    rw [c1, c2, y, decide_eq_true z]
    rfl
  refine g_73_0 hR _ _ _ _ _ ?_
  refine q_needN (d := d) hR x1 7 (Nat.le_refl _) (fun c1 => ⟨hR, fun z => at22 ⟨c1, by simp [z]⟩, fun z => ?_⟩) (fun c1 => fail (by unfold f_ck; rw [c1]; rfl))
  rw [e33]
  refine q_needN (d := d) hR x2 np (Nat.le_refl _) (fun y => at22 ⟨c1, by rw [y]; simp⟩) (fun y => fail ?_)
  unfold f_ck
  rw [c1, y, decide_eq_false z]
  rfl
end Inv4

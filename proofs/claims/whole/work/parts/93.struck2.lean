/-! ===== were an act struck: the reference ===== -/
theorem r_inv.c116 {v nl nq np nf na tn tp : Nat} {tb : Nat → Nat} {fp : Int32} {D I I' : a_F} {J : Nat → Nat → Int64} (h : r_inv v nl nq np nf na tn tp tb fp D I J) (hf : ∀ c, c ≠ 116 → I' c = I c) : r_inv v nl nq np nf na tn tp tb fp D I' J := by
  obtain ⟨h1, ⟨h2, h3, h4⟩, h5, ⟨ve, fv, h6, h7, h8, h9, h10⟩, h11⟩ := h
  have e59 := hf 59 (by decide)
  refine ⟨h1.keep (fun c i hc => by rw [hf c (by have := (r_dc_rng hc).2; omega)]), ⟨by rw [e59]; exact h2, by rw [e59]; exact h3, by rw [e59]; exact h4⟩, fun i hi => by rw [hf 72 (by decide)]; exact h5 i hi, ⟨ve, fv, h6, by rw [e59]; exact h7, by rw [e59]; exact h8, h9, fun q => (h10 q).keep (by rw [e59]) (by rw [e59]) (hf 115 (by decide))⟩, h11.1, fun j hj => by rw [hf 71 (by decide)]; exact h11.2 j hj⟩
theorem a_str_b (b1 b2 : Bool) {x3 : Int32} (h : x3 = 0 ∨ x3 = 1) : ((if b2 = true then (1 : Int32) else 0) = (if b1 = true then 1 else 0) → (if decide (x3 = 0) = true then b2 && !b1 else b1 && !b2) = false) ∧ (¬ (if b2 = true then (1 : Int32) else 0) = (if b1 = true then 1 else 0) → (¬ (if b2 = true then (1 : Int32) else 0) = 1 - x3 → (if decide (x3 = 0) = true then b2 && !b1 else b1 && !b2) = false) ∧ ((if b2 = true then (1 : Int32) else 0) = 1 - x3 → (if decide (x3 = 0) = true then b2 && !b1 else b1 && !b2) = true)) := by
  rcases h with h | h <;> subst h <;> cases b1 <;> cases b2 <;> decide
section Struck2
variable {β : Bool} {xs : Nat → Int32} {L : Nat} {G : am_G} {J : Nat → Nat → Int64}
theorem p_cpy6 {d nq : Nat} {I0 s : a_F} (hR : q_RT G) (hS : r_S nq I0 s) (i1 i2 i3 i4 : Int32) {Q : am_O → am_H → Prop} (hQ : ∀ I', (∀ c, c ≠ 116 → I' c = I0 c) → (∀ q, q < 20 → I' 116 q = s 0 q) → q_W β xs L (d + 1) 181 75 [.ref 59, .int i1, .int i2, .int i3, .int i4, .int 20, .retAddr 0, .retAddr 0, .retAddr 0] [] (G, I', J) Q) : ∀ n p (I : a_F), p + n = 20 → (∀ c, c ≠ 116 → I c = I0 c) → (∀ q, q < p → I 116 q = s 0 q) →
    q_W β xs L (d + 1) 181 75 [.ref 59, .int i1, .int i2, .int i3, .int i4, .int (nI p), .retAddr 0, .retAddr 0, .retAddr 0] [] (G, I, J) Q
  | 0, p, I, hp, h0, h1 => by
    have e : p = 20 := by omega
    subst e
    exact hQ I h0 h1
  | n + 1, p, I, hp, h0, h1 => by
    refine g_181_75 hR _ _ _ _ _ ⟨fun z => absurd ((nI_ltI (b := 20) (by omega) (by omega)).mpr (by omega)) z, fun _ => ⟨am_is_nI (by omega) (by omega), am_is_nI (by omega) (by omega), ?_⟩⟩
    rw [show (nI p).toNatClampNeg = p from nI_clamp (by omega), nI_1]
    refine p_cpy6 hR hS i1 i2 i3 i4 hQ n (p + 1) _ (by omega) (fun c hc => (am_u_row _ _ _ _ hc).trans (h0 c hc)) (fun q hq => ?_)
    by_cases hqp : q = p
    · subst hqp
      rw [am_u_same, h0 91 (by decide)]
      exact (hS.1 q (by omega)).1
    · rw [am_u_ne (Or.inr hqp)]
      exact h1 q (by omega)
theorem p_strL {d np l a : Nat} {I s1 s2 : a_F} (hR : q_RT G) (h5 : I 59 5 = nI np) (hnp : np ≤ 20) (hl : l < 5) (ha : a < 12) (h74 : I 74 a = nI l) (hs2 : ∀ q, q < 20 → I 91 q = s2 0 q) (hs1 : ∀ q, q < 20 → I 116 q = s1 0 q) (i2 i4 : Int32) {x3 : Int32} (hx3 : x3 = 0 ∨ x3 = 1) {Q : am_O → am_H → Prop} (hQ : Q (.inl (some (.int (nI (a_cnt (a_str s1 s2 l (decide (x3 = 0))) np))))) (G, I, J)) : ∀ n p (v7 v8 : Value), am_nl v7 = true → am_nl v8 = true → p + n = np →
    q_W β xs L (d + 1) 181 117 [.ref 59, .int (nI a), .int i2, .int x3, .int i4, .int (nI (a_cnt (a_str s1 s2 l (decide (x3 = 0))) p)), .int (nI p), v7, v8] [] (G, I, J) Q
  | 0, p, v7, v8, n7, n8, hp => by
    have e : p = np := by omega
    subst e
    refine g_181_117 hR _ _ _ _ _ _ _ _ n7 n8 ⟨fun _ => hQ, fun z => ?_⟩
    rw [h5, nI_ltI (by omega) (by omega)] at z
    omega
  | n + 1, p, v7, v8, n7, n8, hp => by
    have next : ∀ (x i7 i8 : Int32), x = nI (a_cnt (a_str s1 s2 l (decide (x3 = 0))) (p + 1)) → q_W β xs L (d + 1) 181 180 [.ref 59, .int (nI a), .int i2, .int x3, .int i4, .int x, .int (nI p), .int i7, .int i8] [] (G, I, J) Q := fun x i7 i8 hx => by
      refine g_181_180 hR _ _ _ _ _ _ _ _ ?_
      rw [hx, nI_1]
      exact p_strL hR h5 hnp hl ha h74 hs2 hs1 i2 i4 hx3 hQ n (p + 1) _ _ rfl rfl (by omega)
    have ip : am_is (nI p) 20 = true := am_is_nI (by omega) (by omega)
    have ia : am_is (nI a) 12 = true := am_is_nI (by omega) (by omega)
    refine g_181_117 hR _ _ _ _ _ _ _ _ n7 n8 ⟨fun z => absurd (by rw [h5]; exact (nI_ltI (by omega) (by omega)).mpr (by omega)) z, fun _ => ⟨ip, ia, ip, ia, ?_⟩⟩
    rw [show (nI p).toNatClampNeg = p from nI_clamp (by omega), show (nI a).toNatClampNeg = a from nI_clamp (by omega), h74, hs2 p (by omega), hs1 p (by omega), s_bit _ (by omega), s_bit _ (by omega)]
    obtain ⟨c1, c2⟩ := a_str_b (bt (s1 0 p) l) (bt (s2 0 p) l) hx3
    have no : (if decide (x3 = 0) = true then bt (s2 0 p) l && !bt (s1 0 p) l else bt (s1 0 p) l && !bt (s2 0 p) l) = false → nI (a_cnt (a_str s1 s2 l (decide (x3 = 0))) p) = nI (a_cnt (a_str s1 s2 l (decide (x3 = 0))) (p + 1)) := fun h => by
      have h' : a_str s1 s2 l (decide (x3 = 0)) p = false := h
      show _ = nI (a_cnt _ p + (if a_str s1 s2 l (decide (x3 = 0)) p = true then 1 else 0))
      rw [h', if_neg (by decide), Nat.add_zero]
    have yes : (if decide (x3 = 0) = true then bt (s2 0 p) l && !bt (s1 0 p) l else bt (s1 0 p) l && !bt (s2 0 p) l) = true → nI (a_cnt (a_str s1 s2 l (decide (x3 = 0))) p) + 1 = nI (a_cnt (a_str s1 s2 l (decide (x3 = 0))) (p + 1)) := fun h => by
      have h' : a_str s1 s2 l (decide (x3 = 0)) p = true := h
      show _ = nI (a_cnt _ p + (if a_str s1 s2 l (decide (x3 = 0)) p = true then 1 else 0))
      rw [h', if_pos rfl, nI_1]
    exact ⟨fun e => next _ _ _ (no (c1 e)), fun e => ⟨fun e2 => next _ _ _ (no ((c2 e).1 e2)), fun e2 => next _ _ _ (yes ((c2 e).2 e2))⟩⟩
theorem p_ifs {d v : Nat} {w : w_T} {I : a_F} (hr : r_I v w I J) (hw : w_O w) (hR : q_RT G) (x1 x2 x3 x4 : Int32) : q_W β xs L (d + 9) 181 0 [.ref 59, .int x1, .int x2, .int x3, .int x4, .retAddr 0, .retAddr 0, .retAddr 0, .retAddr 0] [] (G, I, J) (p_P w v G I J (o_ifs x1 x2 x3 x4 w).1 (o_ifs x1 x2 x3 x4 w).2) := by
  obtain ⟨⟨nl, nq, np, nf, na, tn, tp⟩, tb, fp, D⟩ := w
  have hr0 : r_I v ((nl, nq, np, nf, na, tn, tp), tb, fp, D) (am_u I 59 0 0) J := hr.c0 0
  obtain ⟨hD, h2, -⟩ := hr
  have hn5 := hw.1.1.2.1
  have hl5 : nl ≤ 5 := hn5.1
  have hp20 : np ≤ 20 := hn5.2.2.1
  have hna : na ≤ 12 := hn5.2.2.2
  have ht : tn ≤ 999 := hw.2.2.1
  have e32 : I 59 32 = nI na := hD.1.2.2.2.2
  have f0 : f_r I (am_u I 59 0 0) := (f_r.rf I).up _ _ (by decide)
  have at55 : ∀ t : Nat, t ≠ 0 → a_bt (a_lt x1 na && (a_dy x2 && a_lt x3 2)) (a_ev x4 tn) = t → q_W β xs L (d + 9) 181 55 [.ref 59, .int x1, .int x2, .int x3, .int x4, .retAddr 0, .retAddr 0, .retAddr 0, .retAddr 0] [] (G, am_u (am_u I 59 0 0) 59 0 (nI t), J) (p_P ((nl, nq, np, nf, na, tn, tp), tb, fp, D) v G I J (o_ifs x1 x2 x3 x4 ((nl, nq, np, nf, na, tn, tp), tb, fp, D)).1 (o_ifs x1 x2 x3 x4 ((nl, nq, np, nf, na, tn, tp), tb, fp, D)).2) := fun t ht0 hto => by
    have ev : (o_ifs x1 x2 x3 x4 ((nl, nq, np, nf, na, tn, tp), tb, fp, D)).1 = t := hto
    rw [ev]
    exact g_181_55 hR _ _ _ _ (p_bad f0 hr0 ht0 _ _)
  have at39 : ∀ b : Bool, b = (a_lt x1 na && (a_dy x2 && a_lt x3 2)) → q_W β xs L (d + 9) 181 39 [.ref 59, .int x1, .int x2, .int x3, .int x4, .retAddr 0, .retAddr 0, .retAddr 0, .retAddr 0] [.int (a_is b), .ref 59] (G, am_u I 59 0 0, J) (p_P ((nl, nq, np, nf, na, tn, tp), tb, fp, D) v G I J (o_ifs x1 x2 x3 x4 ((nl, nq, np, nf, na, tn, tp), tb, fp, D)).1 (o_ifs x1 x2 x3 x4 ((nl, nq, np, nf, na, tn, tp), tb, fp, D)).2) := fun b hb => by
    refine g_181_39 hR _ _ _ _ _ (q_right (d := d + 8) hR b am_u_same (by decide) (Nat.le_refl _) (fun z => ⟨fun q => absurd q (by decide), fun _ => ?_⟩) (fun z => ⟨fun _ => at55 1 (by decide) (a_bt1 (hb.symm.trans z)), fun q => absurd rfl q⟩))
    have hb' := hb.symm.trans z
    refine r_isEv (I := am_u I 59 0 0) (d := d + 7) (tn := tn) hR h2.1 x4 am_u_same (fun b4 => ⟨fun _ => ?_, fun q => absurd q (by decide)⟩) (fun b4 => ⟨fun q => absurd rfl q, fun _ => at55 2 (by decide) (a_bt2 hb' b4)⟩)
    have hb2 := hb'
    simp only [Bool.and_eq_true] at hb2
    obtain ⟨b1, b2, b3⟩ := hb2
    have hx3 : x3 = 0 ∨ x3 = 1 := by
      obtain ⟨i, hi, rfl⟩ := a_lt_of (by omega) b3
      have : i = 0 ∨ i = 1 := by omega
      rcases this with h | h <;> subst h
      · exact Or.inl rfl
      · exact Or.inr rfl
    obtain ⟨a, ha, rfl⟩ := a_lt_of (by omega) b1
    obtain ⟨k, hk, rfl⟩ := a_ev_of ht b4
    obtain ⟨⟨l, hl, hl2⟩, -⟩ := hw.1.2.1 a ha
    have hl' : l < nl := hl
    have ev : o_ifs (nI a) x2 x3 (nI k) ((nl, nq, np, nf, na, tn, tp), tb, fp, D) = (0, nI (a_cnt (a_str (a_run D 0 x2 (nI k) (-1)) (a_run D 0 x2 (nI k) (nI a)) l (decide (x3 = 0))) np)) := by
      unfold o_ifs
      dsimp only
      rw [a_bt0 hb' b4, show a_ix (nI a) = a from nI_clamp (by omega), show D 74 a = nI l from hl2, show a_ix (nI l) = l from nI_clamp (by omega)]
    rw [ev]
    refine p_find (d := d + 7) hr0 hw hR k (fun I1 f1 C1 z1 c1 => ?_)
    refine p_runs (d := d) (way := 0) C1 hw hR (by omega) c1 x2 (-1) (fun I2 n' f2 C2 z2 c2 S2 ok2 en en2 _ => ?_)
    refine p_cpy6 (d := d + 8) (nq := nq) (s := a_run D 0 x2 (nI k) (-1)) hR S2 _ _ _ _ (fun I3 g1 g2 => ?_) 20 0 I2 rfl (fun _ _ => rfl) (fun q hq => absurd hq (Nat.not_lt_zero q))
    refine g_181_75 hR _ _ _ _ _ ⟨fun _ => ?_, fun z => absurd z (by decide)⟩
    have C3 : r_I v ((nl, nq, np, nf, na, tn, tp), tb, fp, D) I3 J := r_inv.c116 C2 g1
    have f3 : f_r I2 I3 := fun c hc => g1 c (by omega)
    have c3 : r_dbl D I3 (a_doubts D (nI k)) := c2.keep (by rw [g1 59 (by decide)]) (by rw [g1 59 (by decide)]) (fun i => by rw [g1 89 (by decide)])
    refine p_runs (d := d) (way := 0) C3 hw hR (by omega) c3 x2 (nI a) (fun I4 n4 f4 C4 z4 c4 S4 ok4 en4 en42 hfr => ?_)
    have z0 : I4 59 0 = 0 := by rw [z4, g1 59 (by decide), z2, z1]; exact am_u_same
    have C4' := C4
    obtain ⟨D4, -⟩ := C4'
    exact p_strL (d := d + 8) (np := np) (l := l) (a := a) (s1 := a_run D 0 x2 (nI k) (-1)) (s2 := a_run D 0 x2 (nI k) (nI a)) hR D4.1.2.2.1 hp20 (by omega) (by omega) (((D4.2.2.2.2 a ha).1).trans hl2) (fun q hq => (S4.1 q hq).1) (fun q hq => (hfr 116 q rfl).trans (g2 q hq)) x2 (nI k) hx3 (p_good ((((f0.tr f1).tr f2).tr f3).tr f4) C4 z0 _) np 0 _ _ rfl rfl (Nat.zero_add _)
  refine g_181_0 hR _ _ _ _ ?_
  rw [e32]
  refine ⟨fun z => g_181_38 hR _ _ _ _ (at39 false (by simp [a_lt, z])), fun z => ⟨fun y => g_181_38 hR _ _ _ _ (at39 false (by simp [a_lt, y])), fun y => ?_⟩⟩
  have h1 : a_lt x1 na = true := by simp [a_lt, z, y]
  refine q_isDay (d := d) hR x2 (by omega) ⟨fun u => g_181_38 hR _ _ _ _ (at39 false (by rw [a_is_0.mp u, Bool.false_and, Bool.and_false])), fun u => ?_⟩
  have hdy : a_dy x2 = true := by
    cases hh : a_dy x2 with
    | true => rfl
    | false => exact absurd (a_is_0.mpr hh) u
  refine ⟨fun z => g_181_34 hR _ _ _ _ (at39 true ?_), fun z => ⟨fun y => g_181_38 hR _ _ _ _ (at39 false ?_), fun y => g_181_34 hR _ _ _ _ (at39 true ?_)⟩⟩
  · rw [h1, hdy, z]; rfl
  · rw [h1, hdy, Bool.true_and, Bool.true_and]
    cases hh : a_lt x3 2 with
    | false => rfl
    | true =>
      obtain ⟨i, hi, rfl⟩ := a_lt_of (by omega) hh
      have : i = 0 ∨ i = 1 := by omega
      rcases this with h | h <;> subst h
      · exact absurd rfl z
      · exact absurd rfl y
  · rw [h1, hdy, y]; rfl
end Struck2

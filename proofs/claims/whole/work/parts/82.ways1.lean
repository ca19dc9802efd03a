/-! ===== all ways: the class's bits ===== -/
theorem a_dbl27 {nl nq np nf : Nat} {D : a_F} (hF : a_DF nl nq np nf D) (hDf : D 59 6 = nI nf) (hf2 : nf ≤ 100) (k : Int32) : 1 ≤ a_ways D (a_doubts D k) ∧ a_ways D (a_doubts D k) ≤ 27 :=
  a_ways_27 (a_doubts_len D k) (fun x hx => by
    obtain ⟨h1, -⟩ := a_doubts_mem hDf (by omega) hx
    obtain ⟨-, cn, hc1, hc2, hc3, -⟩ := hF x h1
    exact ⟨cn, hc1, hc2, hc3⟩)
def c_wsc (c i : Nat) : Bool := c_sc c i || Nat.beq c 58
theorem c_wsc_no {c i : Nat} (h : c < 38 ∨ (56 < c ∧ c < 118)) (h2 : c ≠ 58) : c_wsc c i = false := by
  unfold c_wsc
  rw [c_sc_no h]
  cases hh : Nat.beq c 58 with
  | false => rfl
  | true => exact absurd (Nat.eq_of_beq_eq_true hh) h2
theorem c_wsc_sc : ∀ c i, c_wsc c i = false → c_sc c i = false := fun c i h => by
  unfold c_wsc at h
  cases hh : c_sc c i with
  | false => rfl
  | true => rw [hh] at h; cases h
theorem c_dc_rng {c i : Nat} (h : c_dc c i = true) : c < 38 := by have := c_dc_lt h; omega
/-- the bits of all ways, in the class's cells -/
def c_wt (D I : a_F) (day k n : Nat) : Prop := ∀ x, x < n → ∀ p, p < 20 → I 58 (20 * x + p) = a_run D x (nI day) (nI k) (-1) 0 p
theorem c_db.keep {D I I' : a_F} {l : List Nat} (h : c_db D I l) (h34 : ∀ i, i = 4 ∨ i = 5 → I' 34 i = I 34 i) (h35 : ∀ i, I' 35 i = I 35 i ∧ I' 36 i = I 36 i ∧ I' 37 i = I 37 i) : c_db D I' l :=
  ⟨(h34 4 (Or.inl rfl)).trans h.1, (h34 5 (Or.inr rfl)).trans h.2.1, fun i x hx => by
    obtain ⟨a1, a2, a3⟩ := h.2.2 i x hx
    obtain ⟨b1, b2, b3⟩ := h35 i
    exact ⟨b1.trans a1, b2.trans a2, b3.trans a3⟩⟩
section Ways1
variable {β : Bool} {xs : Nat → Int32} {L : Nat}
theorem k_wayL {d e nl nq np nf na day k : Nat} {D I0 : a_F} {J0 : Nat → Nat → Int64} (hD : c_D nl nq np nf na D I0) (hW : a_D nl nq np nf na D) (hDR : a_DR np D) (hk : k ≤ 999) (hday : day ≤ 72999) (hb : c_db D I0 (a_doubts D (nI k))) (h6 : I0 34 6 = nI k) (h27 : a_ways D (a_doubts D (nI k)) ≤ 27) (i3 : Int32) {Q : am_O → am_H → Prop}
    (hQ : ∀ (G' : am_G) (I' : a_F) (J' : Nat → Nat → Int64) (j' : Nat), c_L e j' G' → c_J2 J0 J' → q_F c_wsc I0 I' → c_K nq j' D I' J' → c_wt D I' day k (a_ways D (a_doubts D (nI k))) → Q (.inl none) (G', am_u I' 0 11 i3, J')) : ∀ (n x : Nat) (G : am_G) (I : a_F) (J : Nat → Nat → Int64) (j : Nat), x + n = a_ways D (a_doubts D (nI k)) →
    c_L e j G → c_J2 J0 J → q_F c_wsc I0 I → c_K nq j D I J → c_wt D I day k x → q_W β xs L (d + 6) 99 28 [.ref 0, .int (nI day), .int (nI k), .int i3, .int (nI x)] [] (G, I, J) Q
  | 0, x, G, I, J, j, hx, hL, hJ, hf, hK, ht => by
    have e5 : I 34 5 = nI (a_ways D (a_doubts D (nI k))) := (hf 34 5 rfl).trans hb.2.1
    have ex : x = a_ways D (a_doubts D (nI k)) := by omega
    refine g_99_28 hL.2.1 _ _ _ _ ⟨fun _ => g_99_86 hL.2.1 _ _ _ _ ?_, fun z => ?_⟩
    · rw [ex] at ht
      exact hQ G I J j hL hJ hf hK ht
    · rw [e5, nI_ltI (by omega) (by omega)] at z
      omega
  | n + 1, x, G, I, J, j, hx, hL, hJ, hf, hK, ht => by
    have e5 : I 34 5 = nI (a_ways D (a_doubts D (nI k))) := (hf 34 5 rfl).trans hb.2.1
    refine g_99_28 hL.2.1 _ _ _ _ ⟨fun z => absurd (by rw [e5]; exact (nI_ltI (by omega) (by omega)).mpr (by omega)) z, fun _ => ⟨fun z => absurd ((nI_ltI (b := 27) (by omega) (by omega)).mpr (by omega)) z, fun _ => ?_⟩⟩
    have D1 : c_D nl nq np nf na D I := hD.keep (fun c i hc => hf c i (c_wsc_no (Or.inl (c_dc_rng hc)) (by have := c_dc_rng hc; omega)))
    have b1 : c_db D I (a_doubts D (nI k)) := hb.keep (fun i hi => hf 34 i (c_wsc_no (Or.inl (by decide)) (by decide))) (fun i => ⟨hf 35 i rfl, hf 36 i rfl, hf 37 i rfl⟩)
    refine c_live (d := d) hL D1 hW hDR hk (way := x) (last := day) (w := 0) (by omega) hday (by decide) b1 ((hf 34 6 rfl).trans h6) hK (fun G1 I1 J1 j1 w1 w2 w3 w4 w5 => ?_)
    have e20 : (nI x * 20 : Int32) = nI (20 * x) := by rw [show (20 : Int32) = nI 20 from rfl, pk_mul, Nat.mul_comm]
    have ec : (nI x * 20 : Int32).toNatClampNeg = 20 * x := by rw [e20]; exact nI_clamp (by omega)
    refine ⟨w1.2.1, ⟨by decide, by rw [e20]; exact nI_pos (by omega), by decide, by decide, ?_⟩, ?_⟩
    · rw [ec, show (20 : Int32).toNatClampNeg = 20 by decide]
      omega
    · rw [ec, nI_1, show (20 : Int32).toNatClampNeg = 20 by decide, show (0 : Int32).toNatClampNeg = 0 by decide]
      refine k_wayL (d := d) hD hW hDR hk hday hb h6 h27 i3 hQ n (x + 1) G1 _ J1 j1 (by omega) w1 (fun i hi h38 => (w2 i hi h38).trans (hJ i hi h38)) ((hf.tr (w3.sub c_wsc_sc)).row _ (fun i => by unfold c_wsc; simp)) (w5.keep (fun c a b => am_row_ne _ _ _ (by omega)) rfl) (fun y hy p hp => ?_)
      show (if (58 : Nat) = 58 then va_cpy (I1 47) (I1 58) 0 (20 * x) 20 else I1 58) (20 * y + p) = _
      rw [if_pos rfl]
      unfold va_cpy
      by_cases hxy : y = x
      · subst hxy
        rw [if_pos (by omega), show 0 + (20 * y + p - 20 * y) = p by omega]
        exact (w4.1 p hp).1
      · rw [if_neg (by omega), w3 58 (20 * y + p) rfl]
        exact ht y (by omega) p hp
theorem k_ways {d e : Nat} {w : w_T} {G : am_G} {I : a_F} {J : Nat → Nat → Int64} (hC : c_I e w G I J) (hw : w_O w) {day k : Nat} (hday : day ≤ 72999) (hk : k ≤ 999) : q_W β xs L (d + 7) 99 0 [.ref 0, .int (nI day), .int (nI k), .retAddr 0, .retAddr 0] [] (G, I, J)
    (fun o h => o = .inl none ∧ ∃ G' I' J', h = (G', I', J') ∧ f_c I I' ∧ f_c J J' ∧ c_I e w G' I' J' ∧ c_db w.2.2.2 I' (a_doubts w.2.2.2 (nI k)) ∧ I' 34 6 = nI k ∧ c_wt w.2.2.2 I' day k (a_ways w.2.2.2 (a_doubts w.2.2.2 (nI k)))) := by
  obtain ⟨⟨nl, nq, np, nf, na, tn, tp⟩, tb, fp, D⟩ := w
  have hC0 := hC
  obtain ⟨j, hL, hD, h3, h4, h5, h6⟩ := hC
  obtain ⟨hW, hDR, ht, hp⟩ := hw
  have hW0 := hW
  obtain ⟨hP, hA, hF, hT, hDf, hf2⟩ := hW
  have hR := hL.2.1
  have ei : (nI day * 1000 + nI k : Int32) = nI (day * 1000 + k) := by rw [show (1000 : Int32) = nI 1000 from rfl, pk_mul, nI_add]
  refine g_99_0 hR _ _ ?_
  rw [ei]
  refine q_useV (c_findD (β := β) (xs := xs) (L := L) (d := d) hR hD hF hf2 hDf (nI k)) (by omega) (fun I1 h1 => ?_)
  obtain ⟨f1, k1, b1⟩ := h1
  obtain ⟨C1, fc1⟩ := c_inv.dq hC0 f1
  have h27 := (a_dbl27 hF hDf hf2 (nI k)).2
  refine ⟨fun z => ?_, fun z => ?_⟩
  · obtain ⟨j', L1, D1, t1, p1, K1, W1⟩ := C1
    refine k_wayL (d := d + 1) (e := e) D1 hW0 hDR hk hday b1 k1 h27 _ (fun G2 I2 J2 j2 w1 w2 w3 w4 w5 => ⟨rfl, G2, _, J2, rfl, (fun c a b => ?_), fun c a b => w2 c (by omega) (by omega), ⟨j2, w1, ?_, ?_, fun i hi => (w3 57 i rfl).trans (p1 i hi), w4.keep (fun c a b => am_u_row _ _ _ _ (by omega)) rfl, Or.inr ⟨day, k, hday, hk, am_u_same, fun x hx p hp => w5 x hx p hp⟩⟩, ?_, ?_, fun x hx p hp => w5 x hx p hp⟩) _ 0 G I1 J j' (Nat.zero_add _) L1 (fun i hi h38 => rfl) (q_F.rf _ I1) K1 (fun y hy => absurd hy (Nat.not_lt_zero y))
    · rw [am_u_row _ _ _ _ (by omega)]
      funext i
      by_cases h58 : c = 58
      · omega
      · exact (w3 c i (c_wsc_no (by omega) h58)).trans (congrFun (fc1 c a b) i)
    · refine D1.keep (fun c i hc => ?_)
      rw [am_u_ne]
      · exact w3 c i (c_wsc_no (Or.inl (c_dc_rng hc)) (by have := c_dc_rng hc; omega))
      · refine Or.inl (fun q => ?_)
        subst q
        cases hc
    · obtain ⟨t2, t3, t4⟩ := t1
      exact ⟨(w3 0 10 rfl).trans t2, (w3 0 9 rfl).trans t3, (w3 32 11 rfl).trans t4⟩
    · refine b1.keep (fun i hi => ?_) (fun i => ⟨w3 35 i rfl, w3 36 i rfl, w3 37 i rfl⟩)
      exact w3 34 i (c_wsc_no (Or.inl (by decide)) (by decide))
    · exact (w3 34 6 rfl).trans k1
  · refine ⟨rfl, G, I1, J, rfl, fc1, f_c.rf J, C1, b1, k1, ?_⟩
    obtain ⟨j', L1, D1, t1, p1, K1, W1⟩ := C1
    rcases W1 with W1 | ⟨day', k', q1, q2, q3, q4⟩
    · rw [W1] at z
      exact absurd z (nI_m1 (by omega))
    · rw [q3] at z
      have := nI_inj2 (by omega) (by omega) z
      obtain ⟨e1, e2⟩ : day' = day ∧ k' = k := by omega
      subst e1; subst e2
      exact fun x hx p hp => q4 x hx p hp
/-- in how many of the first ways -/
def a_hv (D : a_F) (day k p l : Nat) : Nat → Nat
  | 0 => 0
  | n + 1 => a_hv D day k p l n + (if bt (a_run D n (nI day) (nI k) (-1) 0 p) l = true then 1 else 0)
theorem a_hv_le (D : a_F) (day k p l : Nat) : ∀ n, a_hv D day k p l n ≤ n
  | 0 => Nat.le_refl _
  | n + 1 => by
    have := a_hv_le D day k p l n
    unfold a_hv
    split <;> omega
theorem a_hv_s (D : a_F) (day k p l n : Nat) (x : Int32) (hl : l < 32) (hx : x = a_run D n (nI day) (nI k) (-1) 0 p) : nI (a_hv D day k p l n) + ((x >>> (nI l &&& 31)) &&& 1) = nI (a_hv D day k p l (n + 1)) := by
  rw [s_bit _ hl, hx]
  show _ = nI (a_hv D day k p l n + _)
  by_cases h : bt (a_run D n (nI day) (nI k) (-1) 0 p) l = true
  · rw [if_pos h, if_pos h, nI_1]
  · rw [if_neg h, if_neg h, Int32.add_zero, Nat.add_zero]
theorem k_withL {d day k p l n : Nat} {G : am_G} {I D : a_F} {J : Nat → Nat → Int64} (hR : q_RT G) (h5 : I 34 5 = nI n) (hn : n ≤ 27) (hp : p < 20) (hl : l < 5) (ht : c_wt D I day k n) {Q : am_O → am_H → Prop} (hQ : Q (.inl (some (.int (nI (a_hv D day k p l n))))) (G, I, J)) : ∀ m x, x + m = n →
    q_W β xs L d 100 5 [.ref 0, .int (nI p), .int (nI l), .int (nI (a_hv D day k p l x)), .int (nI x)] [] (G, I, J) Q
  | 0, x, hx => by
    have e : x = n := by omega
    subst e
    refine g_100_5 hR _ _ _ _ ⟨fun _ => g_100_49 hR _ _ _ _ hQ, fun z => ?_⟩
    rw [h5, nI_ltI (by omega) (by omega)] at z
    omega
  | m + 1, x, hx => by
    have e20 : (nI x * 20 + nI p : Int32) = nI (20 * x + p) := by rw [show (20 : Int32) = nI 20 from rfl, pk_mul, Nat.mul_comm, nI_add]
    refine g_100_5 hR _ _ _ _ ⟨fun z => absurd (by rw [h5]; exact (nI_ltI (by omega) (by omega)).mpr (by omega)) z, fun _ => ⟨fun z => absurd ((nI_ltI (b := 27) (by omega) (by omega)).mpr (by omega)) z, fun _ => ?_⟩⟩
    rw [e20, show (nI (20 * x + p)).toNatClampNeg = 20 * x + p from nI_clamp (by omega), a_hv_s D day k p l x _ (by omega) (ht x (by omega) p hp), nI_1]
    exact ⟨am_is_nI (by omega) (by omega), k_withL hR h5 hn hp hl ht hQ m (x + 1) (by omega)⟩
theorem k_with {d day k p l n : Nat} {G : am_G} {I D : a_F} {J : Nat → Nat → Int64} (hR : q_RT G) (h5 : I 34 5 = nI n) (hn : n ≤ 27) (hp : p < 20) (hl : l < 5) (ht : c_wt D I day k n) : q_W β xs L d 100 0 [.ref 0, .int (nI p), .int (nI l), .retAddr 0, .retAddr 0] [] (G, I, J) (fun o h => o = .inl (some (.int (nI (a_hv D day k p l n)))) ∧ h = (G, I, J)) :=
  g_100_0 hR _ _ (k_withL hR h5 hn hp hl ht ⟨rfl, rfl⟩ n 0 (Nat.zero_add _))
end Ways1

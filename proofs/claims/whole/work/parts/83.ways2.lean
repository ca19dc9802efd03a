/-! ===== all ways: the reference's bits ===== -/
def r_fsc (c i : Nat) : Bool := r_sc c i || (Nat.beq c 115 || (Nat.beq c 59 && (Nat.beq i 88 || (Nat.beq i 89 || Nat.beq i 90))))
theorem r_fsc_sc : ∀ c i, r_fsc c i = false → r_sc c i = false := fun c i h => by
  unfold r_fsc at h
  cases hh : r_sc c i with
  | false => rfl
  | true => rw [hh] at h; cases h
theorem r_fsc_no {c i : Nat} (h : (c < 90 ∨ 115 < c) ∧ c ≠ 59) : r_fsc c i = false := by
  unfold r_fsc
  rw [r_sc_no (by omega)]
  cases hh : (Nat.beq c 115 || (Nat.beq c 59 && (Nat.beq i 88 || (Nat.beq i 89 || Nat.beq i 90)))) with
  | false => rfl
  | true =>
    simp only [Bool.or_eq_true, Bool.and_eq_true, Nat.beq_eq] at hh
    omega
theorem r_fsc_D : ∀ c i, r_dc c i = true → r_fsc c i = false := fun c i h => by
  unfold r_fsc
  rw [r_sc_D c i h]
  cases hh : (Nat.beq c 115 || (Nat.beq c 59 && (Nat.beq i 88 || (Nat.beq i 89 || Nat.beq i 90)))) with
  | false => rfl
  | true =>
    simp only [r_dc, Bool.or_eq_true, Bool.and_eq_true, Nat.beq_eq, Nat.ble_eq] at h
    simp only [Bool.or_eq_true, Bool.and_eq_true, Nat.beq_eq] at hh
    omega
def r_wt (D I : a_F) (day k n : Nat) : Prop := ∀ x, x < n → ∀ p, p < 20 → I 115 (20 * x + p) = a_run D x (nI day) (nI k) (-1) 0 p
theorem r_dbl.keep {D I I' : a_F} {l : List Nat} (h : r_dbl D I l) (h1 : I' 59 51 = I 59 51) (h2 : I' 59 52 = I 59 52) (h3 : ∀ i, I' 89 i = I 89 i) : r_dbl D I' l := ⟨h1.trans h.1, h2.trans h.2.1, fun i f hi => (h3 i).trans (h.2.2 i f hi)⟩
section Ways2
variable {β : Bool} {xs : Nat → Int32} {L : Nat} {G : am_G} {J : Nat → Nat → Int64}
/-- one way's bits are copied -/
theorem p_cpyL {d nq day k x : Nat} {s : a_F} (hR : q_RT G) (hx : x < 27) {Q : am_O → am_H → Prop} {I0 : a_F} (hQ : ∀ (I' : a_F), q_F r_fsc I0 I' → (∀ c, c ≠ 115 → ∀ i, I' c i = I0 c i) → (∀ y, y < x → ∀ p, p < 20 → I' 115 (20 * y + p) = I0 115 (20 * y + p)) → (∀ p, p < 20 → I' 115 (20 * x + p) = s 0 p) → q_W β xs L (d + 1) 166 53 [.ref 59, .int (nI day), .int (nI k), .int (nI (x + 1)), .int 20] [] (G, I', J) Q) (hS : r_S nq I0 s) : ∀ (n p : Nat) (I : a_F), p + n = 20 → q_F r_fsc I0 I → (∀ c, c ≠ 115 → ∀ i, I c i = I0 c i) → (∀ y, y < x → ∀ q, q < 20 → I 115 (20 * y + q) = I0 115 (20 * y + q)) → (∀ q, q < p → I 115 (20 * x + q) = s 0 q) →
    q_W β xs L (d + 1) 166 72 [.ref 59, .int (nI day), .int (nI k), .int (nI x), .int (nI p)] [] (G, I, J) Q
  | 0, p, I, hp, hf, h0, h1, h2 => by
    have e : p = 20 := by omega
    subst e
    refine g_166_72 hR _ _ _ _ ⟨fun _ => ?_, fun z => absurd z (by decide)⟩
    rw [nI_1]
    exact hQ I hf h0 h1 h2
  | n + 1, p, I, hp, hf, h0, h1, h2 => by
    have e20 : (20 * nI x + nI p : Int32) = nI (20 * x + p) := by rw [show (20 : Int32) = nI 20 from rfl, pk_mul, nI_add]
    have ep : (nI p).toNatClampNeg = p := nI_clamp (by omega)
    have lt : (nI p < (20 : Int32)) ↔ p < 20 := nI_ltI (b := 20) (by omega) (by omega)
    refine g_166_72 hR _ _ _ _ ⟨fun z => absurd (lt.mpr (by omega)) z, fun _ => ⟨am_is_nI (by omega) (by omega), ?_⟩⟩
    rw [e20, show (nI (20 * x + p)).toNatClampNeg = 20 * x + p from nI_clamp (by omega), ep, nI_1]
    refine ⟨am_is_nI (by omega) (by omega), p_cpyL hR hx hQ hS n (p + 1) _ (by omega) (hf.up _ rfl) (fun c hc i => ?_) (fun y hy q hq => ?_) (fun q hq => ?_)⟩
    · rw [am_u_ne (Or.inl hc)]; exact h0 c hc i
    · rw [am_u_ne (Or.inr (by omega))]; exact h1 y hy q hq
    · by_cases hqp : q = p
      · subst hqp
        rw [am_u_same, h0 91 (by decide) q]
        exact (hS.1 q (by omega)).1
      · rw [am_u_ne (Or.inr (by omega))]; exact h2 q (by omega)
theorem p_fndL {d nl nq np nf na day k : Nat} {D I0 : a_F} (hR : q_RT G) (hD : r_D nl nq np nf na D I0) (hW : a_D nl nq np nf na D) (hb : r_dbl D I0 (a_doubts D (nI k))) (h27 : a_ways D (a_doubts D (nI k)) ≤ 27) {Q : am_O → am_H → Prop}
    (hQ : ∀ (I' : a_F), q_F r_fsc I0 I' → (I' 59 88 = I0 59 88 ∧ I' 59 89 = I0 59 89 ∧ I' 59 90 = I0 59 90) → r_wt D I' day k (a_ways D (a_doubts D (nI k))) → Q (.inl none) (G, I', J)) : ∀ (n x : Nat) (I : a_F) (v4 : Value), am_nl v4 = true → x + n = a_ways D (a_doubts D (nI k)) → q_F r_fsc I0 I → (I 59 88 = I0 59 88 ∧ I 59 89 = I0 59 89 ∧ I 59 90 = I0 59 90) → r_wt D I day k x →
    q_W β xs L (d + 9) 166 53 [.ref 59, .int (nI day), .int (nI k), .int (nI x), v4] [] (G, I, J) Q
  | 0, x, I, v4, n4, hx, hf, h3, ht => by
    have e5 : I 59 52 = nI (a_ways D (a_doubts D (nI k))) := (hf 59 52 rfl).trans hb.2.1
    have ex : x = a_ways D (a_doubts D (nI k)) := by omega
    refine g_166_53 hR _ _ _ _ n4 ⟨fun _ => ?_, fun z => ?_⟩
    · rw [ex] at ht
      exact hQ I hf h3 ht
    · rw [e5, nI_ltI (by omega) (by omega)] at z
      omega
  | n + 1, x, I, v4, n4, hx, hf, h3, ht => by
    have e5 : I 59 52 = nI (a_ways D (a_doubts D (nI k))) := (hf 59 52 rfl).trans hb.2.1
    refine g_166_53 hR _ _ _ _ n4 ⟨fun z => absurd (by rw [e5]; exact (nI_ltI (by omega) (by omega)).mpr (by omega)) z, fun _ => ?_⟩
    have D1 : r_D nl nq np nf na D I := hD.F hf r_fsc_D
    have b1 : r_dbl D I (a_doubts D (nI k)) := hb.keep (hf 59 51 rfl) (hf 59 52 rfl) (fun i => hf 89 i rfl)
    refine q_useV (r_runs (β := β) (xs := xs) (L := L) (d := d) (J := J) hR D1 hW b1 (way := x) (by omega) (nI day) (-1)) (by omega) (fun I1 h1 => ?_)
    obtain ⟨f1, S1, -, -⟩ := h1
    have f1' : q_F r_fsc I I1 := fun c i hc => f1 c i (r_fsc_sc c i hc)
    refine p_cpyL (d := d + 8) (nq := nq) (s := a_run D x (nI day) (nI k) (-1)) hR (by omega) (fun I2 g1 g2 g3 g4 => ?_) S1 20 0 I1 rfl (q_F.rf _ _) (fun _ _ _ => rfl) (fun _ _ _ _ => rfl) (fun q hq => absurd hq (Nat.not_lt_zero q))
    refine p_fndL (d := d) hR hD hW hb h27 hQ n (x + 1) I2 _ rfl (by omega) ((hf.tr f1').tr g1) ?_ (fun y hy p hp => ?_)
    · rw [g2 59 (by decide), g2 59 (by decide), g2 59 (by decide), f1 59 88 rfl, f1 59 89 rfl, f1 59 90 rfl]
      exact h3
    · by_cases hxy : y = x
      · subst hxy; exact g4 p hp
      · rw [g3 y (by omega) p hp, f1 115 (20 * y + p) rfl]
        exact ht y (by omega) p hp
theorem p_finds {d v : Nat} {w : w_T} {I : a_F} (hr : r_I v w I J) (hw : w_O w) (hR : q_RT G) (hv : v < 2 ^ 31) {day k : Nat} (hday : day ≤ 72999) (hk : k ≤ 999) : q_W β xs L (d + 9) 166 0 [.ref 59, .int (nI day), .int (nI k), .retAddr 0, .retAddr 0] [] (G, I, J)
    (fun o h => o = .inl none ∧ ∃ I', h = (G, I', J) ∧ f_r I I' ∧ I' 59 0 = I 59 0 ∧ r_I v w I' J ∧ r_dbl w.2.2.2 I' (a_doubts w.2.2.2 (nI k)) ∧ r_wt w.2.2.2 I' day k (a_ways w.2.2.2 (a_doubts w.2.2.2 (nI k)))) := by
  obtain ⟨⟨nl, nq, np, nf, na, tn, tp⟩, tb, fp, D⟩ := w
  obtain ⟨hW, hDR, ht, hp⟩ := hw
  have hW0 := hW
  obtain ⟨hP, hA, hF, hT, hDf, hf2⟩ := hW
  have h27 := (a_dbl27 hF hDf hf2 (nI k)).2
  refine g_166_0 hR _ _ ?_
  refine q_useV (r_findsD (β := β) (xs := xs) (L := L) (d := d) hR hr.1 hF hf2 hDf (nI k)) (by omega) (fun I1 h1 => ?_)
  obtain ⟨f1, b1⟩ := h1
  obtain ⟨R1, fr1, z1⟩ := r_inv.dq hr f1
  have R10 := R1
  obtain ⟨D1, t1, p1, ⟨ve, fv, y1, y2, y3, y4, y5⟩, l1, l2⟩ := R1
  have at33 : q_W β xs L (d + 9) 166 33 [.ref 59, .int (nI day), .int (nI k), .retAddr 0, .retAddr 0] [] (G, I1, J) (fun o h => o = .inl none ∧ ∃ I', h = (G, I', J) ∧ f_r I I' ∧ I' 59 0 = I 59 0 ∧ r_I v ((nl, nq, np, nf, na, tn, tp), tb, fp, D) I' J ∧ r_dbl D I' (a_doubts D (nI k)) ∧ r_wt D I' day k (a_ways D (a_doubts D (nI k)))) := by
    refine g_166_33 hR _ _ ?_
    have fI : q_F r_fsc I1 (am_u (am_u (am_u I1 59 88 (I1 59 2)) 59 89 (nI day)) 59 90 (nI k)) := (((q_F.rf _ I1).up _ rfl).up _ rfl).up _ rfl
    refine p_fndL (d := d) hR (D1.F fI r_fsc_D) hW0 (b1.keep rfl rfl (fun _ => rfl)) h27 (fun I2 g1 g2 g3 => ⟨rfl, I2, rfl, fr1.tr (fun c a => ?_), ?_, ⟨D1.F (fI.tr g1) r_fsc_D, ?_, fun i hi => ?_, ⟨ve, ve, y1, ?_, ?_, Nat.le_refl _, fun _ => ⟨day, k, hday, hk, g2.2.1, g2.2.2, fun x hx p hp => g3 x hx p hp⟩⟩, l1, fun i hi => ?_⟩, ?_, fun x hx p hp => g3 x hx p hp⟩) _ 0 _ _ rfl (Nat.zero_add _) (q_F.rf _ _) ⟨rfl, rfl, rfl⟩ (fun y hy => absurd hy (Nat.not_lt_zero y))
    · funext i
      exact (fI.tr g1) c i (r_fsc_no (by omega))
    · exact ((fI.tr g1) 59 0 rfl).trans z1
    · obtain ⟨t2, t3, t4⟩ := t1
      exact ⟨((fI.tr g1) 59 1 rfl).trans t2, ((fI.tr g1) 59 20 rfl).trans t3, ((fI.tr g1) 59 22 rfl).trans t4⟩
    · have := (fI.tr g1) 72 i rfl
      rw [this]
      exact p1 i hi
    · exact ((fI.tr g1) 59 2 rfl).trans y2
    · rw [g2.1]
      exact y2
    · rw [(fI.tr g1) 71 i rfl]
      exact l2 i hi
    · exact b1.keep ((fI.tr g1) 59 51 rfl) ((fI.tr g1) 59 52 rfl) (fun i => (fI.tr g1) 89 i rfl)
  refine ⟨fun _ => at33, fun q => ⟨fun _ => at33, fun q1 => ⟨fun _ => at33, fun q2 => ⟨rfl, I1, rfl, fr1, z1, R10, b1, ?_⟩⟩⟩⟩
  rw [y3, y2] at q
  obtain ⟨day', k', o1, o2, o3, o4, o5⟩ := y5 (nI_inj2 (by omega) (by omega) q)
  rw [o3] at q1
  rw [o4] at q2
  have e1 := nI_inj2 (by omega) (by omega) q1
  have e2 := nI_inj2 (by omega) (by omega) q2
  subst e1; subst e2
  exact fun x hx p hp => o5 x hx p hp
theorem p_saysL {d day k p l n : Nat} {I D : a_F} (hR : q_RT G) (h5 : I 59 52 = nI n) (hn : n ≤ 27) (hp : p < 20) (hl : l < 5) (ht : r_wt D I day k n) {Q : am_O → am_H → Prop} (hQ : Q (.inl (some (.int (nI (a_hv D day k p l n))))) (G, I, J)) : ∀ m x, x + m = n →
    q_W β xs L d 172 5 [.ref 59, .int (nI p), .int (nI l), .int (nI (a_hv D day k p l x)), .int (nI x)] [] (G, I, J) Q
  | 0, x, hx => by
    have e : x = n := by omega
    subst e
    refine g_172_5 hR _ _ _ _ ⟨fun _ => hQ, fun z => ?_⟩
    rw [h5, nI_ltI (by omega) (by omega)] at z
    omega
  | m + 1, x, hx => by
    have e20 : (20 * nI x + nI p : Int32) = nI (20 * x + p) := by rw [show (20 : Int32) = nI 20 from rfl, pk_mul, nI_add]
    refine g_172_5 hR _ _ _ _ ⟨fun z => absurd (by rw [h5]; exact (nI_ltI (by omega) (by omega)).mpr (by omega)) z, fun _ => ?_⟩
    rw [e20, show (nI (20 * x + p)).toNatClampNeg = 20 * x + p from nI_clamp (by omega), a_hv_s D day k p l x _ (by omega) (ht x (by omega) p hp), nI_1]
    exact ⟨am_is_nI (by omega) (by omega), p_saysL hR h5 hn hp hl ht hQ m (x + 1) (by omega)⟩
theorem p_says0 {d day k p l n : Nat} {I D : a_F} (hR : q_RT G) (h5 : I 59 52 = nI n) (hn : n ≤ 27) (hp : p < 20) (hl : l < 5) (ht : r_wt D I day k n) : q_W β xs L d 172 0 [.ref 59, .int (nI p), .int (nI l), .retAddr 0, .retAddr 0] [] (G, I, J) (fun o h => o = .inl (some (.int (nI (a_hv D day k p l n)))) ∧ h = (G, I, J)) :=
  g_172_0 hR _ _ (p_saysL hR h5 hn hp hl ht ⟨rfl, rfl⟩ n 0 (Nat.zero_add _))
end Ways2

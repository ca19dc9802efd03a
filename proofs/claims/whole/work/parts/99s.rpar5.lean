/-! ===== the reference's parser: change() ===== -/
def r_exT (D : a_F) (a t u : Nat) (c : yx_C) : Prop := r_ex D a u c ∧ u + yx_n c < t
/-- a clause lies in the reference's rows; its codes end ahead of t -/
def r_kT (D : a_F) (a t i : Nat) (k : yx_K) : Prop := (k.1 = 2 ∧ D 81 i = 4) ∨ (k.1 < 2 ∧ D 81 i = nI k.1 ∧ (k.2.1 < 7 ∧ D 82 i = nI (k.2.1 + 8)) ∧ (D 85 i = (match k.2.2.2.2.1 with
  | none => -1
  | some v => nI v) ∧ ∀ v, k.2.2.2.2.1 = some v → v < 100000) ∧ (∃ u, D 83 i = nI u ∧ r_exT D a t u k.2.2.1) ∧ (k.2.2.2.1 = none → D 84 i = -1) ∧ ∀ c2, k.2.2.2.1 = some c2 → ∃ u, D 84 i = nI u ∧ r_exT D a t u c2)
theorem r_exT.keep {D D' : a_F} {a t t' u : Nat} {c : yx_C} (h : r_exT D a t u c) (ht : t ≤ t') (h86 : ∀ j, j < t → D' 86 j = D 86 j) : r_exT D' a t' u c := by
  obtain ⟨⟨h1, h2, h3, h4, h5, h6⟩, h7⟩ := h
  refine ⟨⟨h1, r_sp_cong c u (fun i a b => h86 i (by omega)) h2, (h86 _ h7).trans h3, h4, h5, h6⟩, by omega⟩
theorem r_kT.keep {D D' : a_F} {a t t' i : Nat} {k : yx_K} (h : r_kT D a t i k) (ht : t ≤ t') (hc : ∀ c, 81 ≤ c → c ≤ 85 → D' c i = D c i) (h86 : ∀ j, j < t → D' 86 j = D 86 j) : r_kT D' a t' i k := by
  rcases h with ⟨h1, h2⟩ | ⟨h1, h2, ⟨h3, h4⟩, ⟨h5, h6⟩, ⟨u, h7, h8⟩, h9, h10⟩
  · exact Or.inl ⟨h1, (hc 81 (by decide) (by decide)).trans h2⟩
  · refine Or.inr ⟨h1, (hc 81 (by decide) (by decide)).trans h2, ⟨h3, (hc 82 (by decide) (by decide)).trans h4⟩, ⟨(hc 85 (by decide) (by decide)).trans h5, h6⟩, ⟨u, (hc 83 (by decide) (by decide)).trans h7, h8.keep ht h86⟩, fun z => (hc 84 (by decide) (by decide)).trans (h9 z), fun c2 z => ?_⟩
    obtain ⟨u2, w1, w2⟩ := h10 c2 z
    exact ⟨u2, (hc 84 (by decide) (by decide)).trans w1, w2.keep ht h86⟩
theorem r_kT.kd {D : a_F} {a t i : Nat} {k : yx_K} (h : r_kT D a t i k) : r_kd D a i k := by
  rcases h with h | ⟨h1, h2, h3, h4, ⟨u, h7, h8⟩, h9, h10⟩
  · exact Or.inl h
  · refine Or.inr ⟨h1, h2, h3, h4, ⟨u, h7, h8.1⟩, h9, fun c2 z => ?_⟩
    obtain ⟨u2, w1, w2⟩ := h10 c2 z
    exact ⟨u2, w1, w2.1⟩
theorem yt_kno_wh : ∀ w, w < 28 → (nI (yt_rw w) < 8 ↔ w < 8) ∧ (14 < nI (yt_rw w) ↔ 14 < w) ∧ (8 ≤ w → yt_rw w = w) := by decide +kernel
/-- cells that change() changes -/
def r_bsc (t i2 c i : Nat) : Bool := r_xsc t c i || (Nat.beq i i2 && (Nat.ble 82 c && Nat.ble c 85))
theorem r_bsc_x {t t' i2 c i : Nat} (ht : t ≤ t') (h : r_bsc t i2 c i = false) : r_xsc t' c i = false := by
  unfold r_bsc at h
  rw [Bool.or_eq_false_iff] at h
  exact r_xsc_s ht h.1
theorem r_bsc_i {t i2 c : Nat} (h : 82 ≤ c ∧ c ≤ 85) : r_bsc t i2 c i2 = true := by
  unfold r_bsc
  rw [show Nat.beq i2 i2 = true from Nat.beq_refl i2, Nat.ble_eq.mpr h.1, Nat.ble_eq.mpr h.2]
  simp
section Rpar5
variable {β : Bool} {xs : Nat → Int32} {L : Nat} {G : am_G} {I : a_F} {J : Nat → Nat → Int64} {d : Nat} {tb : Nat → Nat} {n : Nat} {ts : yt_L}
/-- children, a fault having been found -/
theorem p_ch94E {k1 i2 : Nat} {w : Int32} {Q : am_O → am_H → Prop} (hR : q_RT G) (h21 : ¬ I 59 21 = 0) (hQ : Q (.inl none) (G, I, J)) : q_W β xs L (d + 1) 137 94 [.ref 59, .int (nI i2), .int w] [] (G, I, J) Q :=
  g_137_94 hR _ _ (q_useI (p_isG0 (β := β) (xs := xs) (L := L) (d := d) hR h21) (Nat.le_refl _) ⟨fun _ => g_137_123 hR _ _ hQ, fun q => absurd rfl q⟩)
/-- children -/
theorem p_ch94 {i2 how wh : Nat} {w : Int32} {c : yx_C} {un : Option yx_C} (hR : q_RT G) (hi : i2 < 144) (hA : r_xA tb n ts I J) (h21 : I 59 21 = 0) (h85 : I 85 i2 = -1) : q_W β xs L (d + 3) 137 94 [.ref 59, .int (nI i2), .int w] [] (G, I, J) (fun o h => o = .inl none ∧ ∃ I' J', h = (G, I', J') ∧ r_nj J J' ∧ (∀ t, q_F (fun c i => r_xsc t c i || (Nat.beq i i2 && Nat.beq c 85)) I I') ∧ match yx_chi n how wh c un ts with
    | .inl e => r_fe e I'
    | .inr (k, r) => r_xA tb n r I' J' ∧ (I' 59 21 = 0 ∧ I' 59 22 = I 59 22 ∧ I' 59 33 = I 59 33 ∧ I' 86 = I 86) ∧ ∃ ch, k = (how, wh, c, un, ch, 0) ∧ (I' 85 i2 = (match ch with
      | none => -1
      | some v => nI v) ∧ ∀ v, ch = some v → v < 100000) ∧ r.length ≤ ts.length) := by
  have ei : (nI i2).toNatClampNeg = i2 := nI_clamp (by omega)
  have ii : am_is (nI i2) 144 = true := am_is_nI hi (by omega)
  have k4 := yt_kno_eq (t := yt_hd ts) (w := 4) (by decide) (r := 3) rfl
  refine g_137_94 hR _ _ (q_useI (p_isG1 (β := β) (xs := xs) (L := L) (d := d) hR h21) (by omega) ⟨fun q => absurd q (by decide), fun _ => ?_⟩)
  unfold yx_chi
  refine q_useI (p_kno1 (β := β) (xs := xs) (L := L) (d := d) hR hA) (by omega) ⟨fun z => g_137_123 hR _ _ ⟨rfl, I, J, rfl, r_nj.rf J, fun t => q_F.rf _ I, ?_⟩, fun z => ?_⟩
  · rw [if_neg (fun q => z (k4.mpr q))]
    exact ⟨hA, ⟨h21, rfl, rfl, rfl⟩, none, rfl, ⟨h85, fun v q => by cases q⟩, Nat.le_refl _⟩
  · have ht := k4.mp z
    have l1 := yt_tl_len ht (by decide)
    rw [if_pos ht]
    refine q_useRv (p_goK (β := β) (xs := xs) (L := L) (d := d) hR hA) (by omega) (fun o h' P => ?_)
    obtain ⟨rfl, I1, J1, rfl, f1, j1, hA1⟩ := P
    refine ⟨hR, ?_⟩
    have g21 : I1 59 21 = 0 := (f1 59 21 rfl).trans h21
    refine q_useR (p_num (β := β) (xs := xs) (L := L) (d := d) hR hA1 g21) (by omega) (fun o h' P => ?_)
    obtain ⟨y, I2, J2, rfl, rfl, ⟨f2, j2⟩, P⟩ := P
    refine ⟨ii, g_137_123 hR _ _ ⟨rfl, _, J2, rfl, j1.tr j2, fun t => ?_, ?_⟩⟩
    · intro c i hc
      dsimp only
      rw [ei]
      rw [Bool.or_eq_false_iff] at hc
      have f2' : q_F (r_xsc t) I1 I2 := f2 t
      rw [am_u_ne, f2' c i hc.1, f1 c i (r_xsc_n hc.1)]
      by_cases q1 : c = 85
      · refine Or.inr (fun q2 => ?_)
        subst q1; subst q2
        have := hc.2
        rw [show Nat.beq i i = true from Nat.beq_refl i] at this
        cases this
      · exact Or.inl q1
    · dsimp only
      rw [ei]
      by_cases h2 : (yt_hd ts.tail).1 = 2
      · rw [if_pos h2] at P ⊢
        obtain ⟨rfl, f3, hA2⟩ := P
        have l2 := yt_tl_len (ts := ts.tail) rfl (by rw [h2]; decide)
        have s8 := hA1.sort.2.2.2.2.2.2.2 h2
        refine ⟨hA2.keep (fun i _ _ => am_u_ne (Or.inl (by decide))) (am_u_row _ _ _ _ (by decide)), ⟨?_, ?_, ?_, ?_⟩, _, rfl, ⟨am_u_same, fun v q => ?_⟩, by omega⟩
        · rw [am_u_ne (Or.inl (by decide)), f3 59 21 rfl]; exact g21
        · rw [am_u_ne (Or.inl (by decide)), f3 59 22 rfl]; exact f1 59 22 rfl
        · rw [am_u_ne (Or.inl (by decide)), f3 59 33 rfl]; exact f1 59 33 rfl
        · rw [am_u_row _ _ _ _ (by decide)]
          exact funext fun i => (f3 86 i rfl).trans (f1 86 i rfl)
        · rw [← Option.some.inj q]; exact s8
      · rw [if_neg h2] at P ⊢
        refine ⟨⟨?_, P.1.2⟩, ?_⟩
        · rw [am_u_ne (Or.inl (by decide))]; exact P.1.1
        · rw [am_u_ne (Or.inl (by decide))]; exact P.2
/-- change() -/
theorem p_change {a t i2 how : Nat} {ok : Nat → Bool} (hR : q_RT G) (hi : i2 < 144) (hh : how < 2) (ha : a < 12) (hA : r_xA tb n ts I J) (h21 : I 59 21 = 0) (h33 : I 59 33 = nI t) (h81 : I 81 i2 = nI how) (ht1 : 1210 * a ≤ t) (ht2 : t + 2 * ts.length ≤ 1210 * a + 1000) (hl : ts.length ≤ 500) : q_W β xs L (d + 5) 137 0 [.ref 59, .int (nI i2), .retAddr 0] [] (G, I, J) (fun o h => o = .inl none ∧ ∃ I' J', h = (G, I', J') ∧ r_nj J J' ∧ q_F (r_bsc t i2) I I' ∧ match yx_body n ok how ts with
    | .inl e => r_fe e I'
    | .inr (k, r) => r_xA tb n r I' J' ∧ (I' 59 21 = 0 ∧ I' 59 22 = I 59 22) ∧ k.1 ≠ 2 ∧ ∃ t', (t ≤ t' ∧ t' + 2 * r.length ≤ t + 2 * ts.length) ∧ I' 59 33 = nI t' ∧ r_kT I' a t' i2 k) := by
  have ei : (nI i2).toNatClampNeg = i2 := nI_clamp (by omega)
  have ii : am_is (nI i2) 144 = true := am_is_nI hi (by omega)
  have hne : ¬ how = 2 := by omega
  obtain ⟨s1, s2, s3, s4, s5, s6, s7, s8⟩ := hA.sort
  generalize hQ : (fun (o : am_O) (h : am_H) => o = .inl none ∧ ∃ I' J', h = (G, I', J') ∧ r_nj J J' ∧ q_F (r_bsc t i2) I I' ∧ match yx_body n ok how ts with
    | .inl e => r_fe e I'
    | .inr (k, r) => r_xA tb n r I' J' ∧ (I' 59 21 = 0 ∧ I' 59 22 = I 59 22) ∧ k.1 ≠ 2 ∧ ∃ t', (t ≤ t' ∧ t' + 2 * r.length ≤ t + 2 * ts.length) ∧ I' 59 33 = nI t' ∧ r_kT I' a t' i2 k) = Q
  have err : ∀ (e : Nat × Nat) (I' : a_F) (J' : Nat → Nat → Int64), yx_body n ok how ts = .inl e → r_nj J J' → q_F (r_bsc t i2) I I' → r_fe e I' → Q (.inl none) (G, I', J') := fun e I' J' he hj hf hfe => by
    rw [← hQ, he]
    exact ⟨rfl, I', J', rfl, hj, hf, hfe⟩
  have bad : ¬ ((yt_hd ts).1 = 3 ∧ 8 ≤ (yt_hd ts).2 ∧ (yt_hd ts).2 < 15) → ∀ w, q_W β xs L (d + 5) 137 17 [.ref 59, .int (nI i2), .int w] [] (G, I, J) Q := fun hb w => by
    have ec : yx_body n ok how ts = .inl (1, yt_pl n ts) := by
      unfold yx_body
      rw [if_neg hne, if_neg hb]
    refine g_137_17 hR _ _ (q_useV (p_wrongK (β := β) (xs := xs) (L := L) (d := d) hR hA h21 (k := 1) (by decide)) (by omega) (fun I1 h1 => g_137_22 hR _ _ ?_))
    exact q_useI (p_isG0 (β := β) (xs := xs) (L := L) (I := I1) (J := J) (d := d) hR h1.2.1.n0) (by omega) ⟨hR, fun q => absurd rfl q, fun _ => err _ I1 J ec (r_nj.rf J) (fun c i hc => h1.1 t c i (r_bsc_x (Nat.le_refl _) hc)) h1.2.1⟩
  refine g_137_0 hR _ (q_useI (p_kno1 (β := β) (xs := xs) (L := L) (d := d) hR hA) (by omega) ?_)
  by_cases hc : (yt_hd ts).1 = 3 ∧ 8 ≤ (yt_hd ts).2 ∧ (yt_hd ts).2 < 15
  · obtain ⟨h3, h8, h15⟩ := hc
    obtain ⟨k1, k2, k3⟩ := yt_kno_wh (yt_hd ts).2 (by omega)
    have ek : yt_kno (yt_hd ts) = nI (yt_hd ts).2 := by
      have : yt_kno (yt_hd ts) = nI (yt_rw (yt_hd ts).2) := if_pos ⟨h3, by omega⟩
      rw [this, k3 h8]
    rw [k3 h8] at k1 k2
    have l1 := yt_tl_len (ts := ts) rfl (by rw [h3]; decide)
    have ec : yx_body n ok how ts = yx_bond n how ((yt_hd ts).2 - 8) ts.tail := by
      unfold yx_body
      rw [if_neg hne, if_pos ⟨h3, h8, h15⟩]
    rw [ek, k1, k2]
    refine ⟨fun q => absurd q (by omega), fun _ => ⟨fun _ => ?_, fun q => absurd q (by omega)⟩⟩
    obtain ⟨w, hw⟩ : ∃ w, (yt_hd ts).2 = w + 8 := ⟨(yt_hd ts).2 - 8, by omega⟩
    rw [hw] at ec ⊢
    rw [show w + 8 - 8 = w by omega] at ec
    refine g_137_22 hR _ _ (q_useI (p_isG1 (β := β) (xs := xs) (L := L) (d := d) hR h21) (by omega) ⟨hR, fun _ => ⟨ii, ?_⟩, fun q => absurd q (by decide)⟩)
    rw [ei]
    have hA0 : r_xA tb n ts (am_u I 82 i2 (nI (w + 8))) J := hA.keep (fun i _ _ => am_u_ne (Or.inl (by decide))) (am_u_row _ _ _ _ (by decide))
    refine q_useRv (p_goK (β := β) (xs := xs) (L := L) (d := d) hR hA0) (by omega) (fun o h' P => ?_)
    obtain ⟨rfl, I1, J1, rfl, f1, j1, hA1⟩ := P
    have F1 : q_F (r_bsc t i2) I I1 := ((q_F.rf _ I).up (c := 82) (i := i2) (nI (w + 8)) (r_bsc_i (by decide))).tr (fun c i hc => f1 c i (r_xsc_n (r_bsc_x (Nat.le_refl _) hc)))
    have a21 : I1 59 21 = 0 := (f1 59 21 rfl).trans ((am_u_ne (Or.inl (by decide))).trans h21)
    have a22 : I1 59 22 = I 59 22 := (f1 59 22 rfl).trans (am_u_ne (Or.inl (by decide)))
    have a33 : I1 59 33 = nI t := (f1 59 33 rfl).trans ((am_u_ne (Or.inl (by decide))).trans h33)
    have a81 : I1 81 i2 = nI how := (f1 81 i2 rfl).trans ((am_u_ne (Or.inl (by decide))).trans h81)
    have a82 : I1 82 i2 = nI (w + 8) := (f1 82 i2 rfl).trans am_u_same
    refine ⟨hR, ?_⟩
    refine q_useR (p_expr (β := β) (xs := xs) (L := L) (d := d) hR hA1 a21 a33 (by omega) (by omega)) (by omega) (fun o h' P => ?_)
    obtain ⟨y, I2, J2, rfl, rfl, ⟨f2, j2⟩, P⟩ := P
    refine ⟨hR, ii, ii, ii, ?_⟩
    dsimp only
    have rr : ∀ c, 80 ≤ c → c ≤ 85 → ∀ i, I2 c i = I1 c i := fun c p q i => f2 c i (r_xsc_r (by omega))
    have F2 : q_F (r_bsc t i2) I (am_u (am_u (am_u I2 83 i2 y) 84 i2 (-1)) 85 i2 (-1)) := (((F1.tr (fun c i hc => f2 c i (r_bsc_x (Nat.le_refl _) hc))).up _ (r_bsc_i (by decide))).up _ (r_bsc_i (by decide))).up _ (r_bsc_i (by decide))
    cases hx : yx_E n 6 ts.tail with
    | inl e =>
      rw [hx] at P
      have ec2 : yx_body n ok how ts = .inl e := by rw [ec]; unfold yx_bond; rw [hx]
      have hfe : r_fe e (am_u (am_u (am_u I2 83 i2 y) 84 i2 (-1)) 85 i2 (-1)) := by
        refine ⟨⟨?_, P.1.2⟩, ?_⟩
        · rw [am_u_ne (Or.inl (by decide)), am_u_ne (Or.inl (by decide)), am_u_ne (Or.inl (by decide))]; exact P.1.1
        · rw [am_u_ne (Or.inl (by decide)), am_u_ne (Or.inl (by decide)), am_u_ne (Or.inl (by decide))]; exact P.2
      refine q_useI (p_isG0 (β := β) (xs := xs) (L := L) (J := J2) (d := d) hR hfe.n0) (by omega) ⟨fun _ => ?_, fun q => absurd rfl q⟩
      exact p_ch94E (d := d + 4) (k1 := 0) hR hfe.n0 (err e _ J2 ec2 (j1.tr j2) F2 hfe)
    | inr z =>
      obtain ⟨c1, r1⟩ := z
      rw [hx] at P
      obtain ⟨rfl, hA2, ⟨b21, b22⟩, b33, bsp, b0, bwo⟩ := P
      obtain ⟨lc1, lc2⟩ := yx_E6_len hx
      have lcn := yx_n_le c1
      have ex1 : ∀ t', t + yx_n c1 < t' → r_exT I2 a t' t c1 := fun t' q => ⟨⟨⟨ht1, by omega⟩, bsp, b0, bwo, by omega, yx_E_gd hx⟩, q⟩
      have e21 : am_u (am_u (am_u I2 83 i2 (nI t)) 84 i2 (-1)) 85 i2 (-1) 59 21 = 0 := by rw [am_u_ne (Or.inl (by decide)), am_u_ne (Or.inl (by decide)), am_u_ne (Or.inl (by decide))]; exact b21
      have e22 : am_u (am_u (am_u I2 83 i2 (nI t)) 84 i2 (-1)) 85 i2 (-1) 59 22 = I 59 22 := by rw [am_u_ne (Or.inl (by decide)), am_u_ne (Or.inl (by decide)), am_u_ne (Or.inl (by decide))]; exact b22.trans a22
      have e33 : am_u (am_u (am_u I2 83 i2 (nI t)) 84 i2 (-1)) 85 i2 (-1) 59 33 = nI (t + yx_n c1 + 1) := by rw [am_u_ne (Or.inl (by decide)), am_u_ne (Or.inl (by decide)), am_u_ne (Or.inl (by decide))]; exact b33
      have e81 : am_u (am_u (am_u I2 83 i2 (nI t)) 84 i2 (-1)) 85 i2 (-1) 81 i2 = nI how := by rw [am_u_ne (Or.inl (by decide)), am_u_ne (Or.inl (by decide)), am_u_ne (Or.inl (by decide)), rr 81 (by decide) (by decide)]; exact a81
      have e82 : am_u (am_u (am_u I2 83 i2 (nI t)) 84 i2 (-1)) 85 i2 (-1) 82 i2 = nI (w + 8) := by rw [am_u_ne (Or.inl (by decide)), am_u_ne (Or.inl (by decide)), am_u_ne (Or.inl (by decide)), rr 82 (by decide) (by decide)]; exact a82
      have e83 : am_u (am_u (am_u I2 83 i2 (nI t)) 84 i2 (-1)) 85 i2 (-1) 83 i2 = nI t := by rw [am_u_ne (Or.inl (by decide)), am_u_ne (Or.inl (by decide)), am_u_same]
      have e84 : am_u (am_u (am_u I2 83 i2 (nI t)) 84 i2 (-1)) 85 i2 (-1) 84 i2 = -1 := by rw [am_u_ne (Or.inl (by decide)), am_u_same]
      have e85 : am_u (am_u (am_u I2 83 i2 (nI t)) 84 i2 (-1)) 85 i2 (-1) 85 i2 = -1 := am_u_same
      have e86 : am_u (am_u (am_u I2 83 i2 (nI t)) 84 i2 (-1)) 85 i2 (-1) 86 = I2 86 := by rw [am_u_row _ _ _ _ (by decide), am_u_row _ _ _ _ (by decide), am_u_row _ _ _ _ (by decide)]
      have hA3 : r_xA tb n r1 (am_u (am_u (am_u I2 83 i2 (nI t)) 84 i2 (-1)) 85 i2 (-1)) J2 := hA2.keep (fun i _ _ => by rw [am_u_ne (Or.inl (by decide)), am_u_ne (Or.inl (by decide)), am_u_ne (Or.inl (by decide))]) (by rw [am_u_row _ _ _ _ (by decide), am_u_row _ _ _ _ (by decide), am_u_row _ _ _ _ (by decide)])
      generalize am_u (am_u (am_u I2 83 i2 (nI t)) 84 i2 (-1)) 85 i2 (-1) = I3 at F2 e21 e22 e33 e81 e82 e83 e84 e85 e86 hA3 ⊢
      -- what children leave
      have fin : ∀ (un : Option yx_C) (r : yt_L) (t3 : Nat) (I4 : a_F) (J4 : Nat → Nat → Int64), yx_body n ok how ts = yx_chi n how w c1 un r → r_nj J J4 → q_F (r_bsc t i2) I I4 → r_xA tb n r I4 J4 → I4 59 21 = 0 → I4 59 22 = I 59 22 → I4 59 33 = nI t3 → (t + yx_n c1 < t3 ∧ t3 + 2 * r.length ≤ t + 2 * ts.length) → (∀ c, c = 81 ∨ c = 82 ∨ c = 83 ∨ c = 85 → I4 c i2 = I3 c i2) → (∀ j, j < t + yx_n c1 + 1 → I4 86 j = I2 86 j) → (un = none → I4 84 i2 = -1) → (∀ c2, un = some c2 → ∃ u, I4 84 i2 = nI u ∧ r_exT I4 a t3 u c2) → q_W β xs L (d + 5) 137 94 [.ref 59, .int (nI i2), .int (nI (w + 8))] [] (G, I4, J4) Q := fun un r t3 I4 J4 q0 q1 q2 q3 q4 q5 q6 q7 q8 q9 q10 q11 => by
        refine q_mono (p_ch94 (β := β) (xs := xs) (L := L) (d := d + 2) (how := how) (wh := w) (w := nI (w + 8)) (c := c1) (un := un) hR hi q3 q4 ((q8 85 (Or.inr (Or.inr (Or.inr rfl)))).trans e85)) (by omega) (fun o h' P => ?_)
        obtain ⟨rfl, I5, J5, rfl, j5, f5, P⟩ := P
        have F5 : q_F (r_bsc t i2) I I5 := q2.tr (fun c i hc => f5 t c i (by
          unfold r_bsc at hc
          rw [Bool.or_eq_false_iff] at hc ⊢
          refine ⟨hc.1, ?_⟩
          cases hh : (Nat.beq i i2 && Nat.beq c 85) with
          | false => rfl
          | true =>
            simp only [Bool.and_eq_true, Nat.beq_eq] at hh
            have h2 := hc.2
            rw [hh.1, hh.2, show Nat.beq i2 i2 = true from Nat.beq_refl i2] at h2
            cases h2))
        cases hy : yx_chi n how w c1 un r with
        | inl e =>
          rw [hy] at P q0
          exact err e I5 J5 q0 (q1.tr j5) F5 P
        | inr z =>
          obtain ⟨k, r'⟩ := z
          rw [hy] at P q0
          obtain ⟨p1, ⟨p2, p3, p4, p5⟩, ch, p6, ⟨p7, p7'⟩, p8⟩ := P
          have r5 : ∀ c, 81 ≤ c → c ≤ 84 → I5 c i2 = I4 c i2 := fun c a b => f5 0 c i2 (by
            show (r_xsc 0 c i2 || (Nat.beq i2 i2 && Nat.beq c 85)) = false
            rw [r_xsc_r (by omega), yt_bf (show ¬ c = 85 by omega), Bool.and_false, Bool.false_or])
          rw [← hQ, q0]
          refine ⟨rfl, I5, J5, rfl, q1.tr j5, F5, p1, ⟨p2, p3.trans q5⟩, ?_, t3, ⟨by omega, by omega⟩, p4.trans q6, ?_⟩
          · rw [p6]; exact hne
          · rw [p6]
            refine Or.inr ⟨hh, ?_, ⟨by show w < 7; omega, ?_⟩, ⟨p7, p7'⟩, ⟨t, ?_, ?_⟩, fun z => ?_, fun c2 z => ?_⟩
            · rw [r5 81 (by decide) (by decide), q8 81 (Or.inl rfl)]; exact e81
            · rw [r5 82 (by decide) (by decide), q8 82 (Or.inr (Or.inl rfl))]; exact e82
            · rw [r5 83 (by decide) (by decide), q8 83 (Or.inr (Or.inr (Or.inl rfl)))]; exact e83
            · refine ((ex1 (t + yx_n c1 + 1) (by omega)).keep (D' := I5) (t' := t3) (by omega) (fun j hj => ?_))
              rw [p5]
              exact q9 j hj
            · rw [r5 84 (by decide) (by decide)]; exact q10 z
            · obtain ⟨u2, w1, w2⟩ := q11 c2 z
              exact ⟨u2, by rw [r5 84 (by decide) (by decide)]; exact w1, w2.keep (Nat.le_refl _) (fun j _ => by rw [p5])⟩
      refine q_useI (p_isG1 (β := β) (xs := xs) (L := L) (J := J2) (d := d) hR e21) (by omega) ⟨fun q => absurd q (by decide), fun _ => ?_⟩
      have k3u := yt_kno_eq (t := yt_hd r1) (w := 3) (by decide) (r := 2) rfl
      refine q_useI (p_kno1 (β := β) (xs := xs) (L := L) (d := d) hR hA3) (by omega) ⟨fun z => ?_, fun z => ?_⟩
      · refine fin none r1 (t + yx_n c1 + 1) I3 J2 ?_ (j1.tr j2) F2 hA3 e21 e22 e33 ⟨by omega, by omega⟩ (fun c _ => rfl) (fun j _ => by rw [e86]) (fun _ => e84) (fun c2 q => by cases q)
        rw [ec]
        unfold yx_bond
        rw [hx]
        dsimp only
        rw [if_neg (fun q => z (k3u.mpr q))]
      · have htu := k3u.mp z
        have l2 := yt_tl_len htu (by decide)
        refine q_useRv (p_goK (β := β) (xs := xs) (L := L) (d := d) hR hA3) (by omega) (fun o h' P => ?_)
        obtain ⟨rfl, I4, J4, rfl, f4, j4, hA4⟩ := P
        refine ⟨hR, ?_⟩
        have d21 : I4 59 21 = 0 := (f4 59 21 rfl).trans e21
        have d22 : I4 59 22 = I 59 22 := (f4 59 22 rfl).trans e22
        have d33 : I4 59 33 = nI (t + yx_n c1 + 1) := (f4 59 33 rfl).trans e33
        refine q_useR (p_expr (β := β) (xs := xs) (L := L) (d := d) hR hA4 d21 d33 (by omega) (by omega)) (by omega) (fun o h' P => ?_)
        obtain ⟨y5, I5, J5, rfl, rfl, ⟨f5, j5⟩, P⟩ := P
        refine ⟨ii, ?_⟩
        dsimp only
        have F5 : q_F (r_bsc t i2) I (am_u I5 84 i2 y5) := ((F2.tr (fun c i hc => f4 c i (r_xsc_n (r_bsc_x (Nat.le_refl _) hc)))).tr (fun c i hc => f5 c i (r_bsc_x (by omega) hc))).up _ (r_bsc_i (by decide))
        have ec1 : yx_body n ok how ts = (match yx_E n 6 r1.tail with
          | .inl e => .inl e
          | .inr (c2, r2) => yx_chi n how w c1 (some c2) r2) := by
          rw [ec]
          unfold yx_bond
          rw [hx]
          dsimp only
          rw [if_pos htu]
          rfl
        have f5' : q_F (r_xsc (t + yx_n c1 + 1)) I4 I5 := f5
        cases hy : yx_E n 6 r1.tail with
        | inl e =>
          rw [hy] at P ec1
          have hfe : r_fe e (am_u I5 84 i2 y5) := by
            refine ⟨⟨?_, P.1.2⟩, ?_⟩
            · rw [am_u_ne (Or.inl (by decide))]; exact P.1.1
            · rw [am_u_ne (Or.inl (by decide))]; exact P.2
          exact p_ch94E (d := d + 4) (k1 := 0) hR hfe.n0 (err e _ J5 ec1 ((j1.tr j2).tr (j4.tr j5)) F5 hfe)
        | inr z =>
          obtain ⟨c2, r2⟩ := z
          rw [hy] at P ec1
          obtain ⟨rfl, hA5, ⟨g21, g22⟩, g33, gsp, g0, gwo⟩ := P
          obtain ⟨ld1, ld2⟩ := yx_E6_len hy
          have ldn := yx_n_le c2
          refine fin (some c2) r2 (t + yx_n c1 + 1 + yx_n c2 + 1) _ J5 ec1 ((j1.tr j2).tr (j4.tr j5)) F5 (hA5.keep (fun i _ _ => am_u_ne (Or.inl (by decide))) (am_u_row _ _ _ _ (by decide))) ?_ ?_ ?_ ⟨by omega, by omega⟩ (fun c hc => ?_) (fun j hj => ?_) (fun q => by cases q) (fun c2' q => ?_)
          · rw [am_u_ne (Or.inl (by decide))]; exact g21
          · rw [am_u_ne (Or.inl (by decide))]; exact g22.trans d22
          · rw [am_u_ne (Or.inl (by decide))]; exact g33
          · rw [am_u_ne (Or.inl (by omega)), f5' c i2 (r_xsc_r (by omega)), f4 c i2 (by
              unfold r_nsc
              rw [yt_bf (show ¬ c = 59 by omega)]
              rfl)]
          · rw [am_u_ne (Or.inl (by decide)), f5' 86 j (r_xsc_lo hj), f4 86 j rfl, e86]
          · cases q
            refine ⟨_, am_u_same, ⟨⟨by omega, by omega⟩, ?_, ?_, gwo, by omega, yx_E_gd hy⟩, by omega⟩
            · rw [am_u_row _ _ _ _ (by decide)]; exact gsp
            · rw [am_u_ne (Or.inl (by decide))]; exact g0
  · have nolt : yt_kno (yt_hd ts) < 8 ∨ 14 < yt_kno (yt_hd ts) := by
      unfold yt_kno
      by_cases h28 : (yt_hd ts).1 = 3 ∧ (yt_hd ts).2 < 28
      · rw [if_pos h28]
        obtain ⟨k1, k2, k3⟩ := yt_kno_wh (yt_hd ts).2 h28.2
        by_cases h8 : (yt_hd ts).2 < 8
        · exact Or.inl (k1.mpr h8)
        · exact Or.inr (k2.mpr (by omega))
      · rw [if_neg h28]
        exact Or.inl (by decide)
    exact ⟨fun _ => bad hc _, fun z => ⟨fun y => by rcases nolt with q | q; exact absurd q z; exact absurd q y, fun _ => bad hc _⟩⟩
end Rpar5

/-! ===== the class's parser: a clause ===== -/
/-- cells that children change -/
def c_b3 (s i2 c i : Nat) : Bool := c_xsc s c i || (Nat.beq i i2 && (Nat.beq c 29 || Nat.beq c 30))
theorem c_b3_x {s s' i2 c i : Nat} (hs : s ≤ s') (h : c_b3 s i2 c i = false) : c_xsc s' c i = false := by
  unfold c_b3 at h
  rw [Bool.or_eq_false_iff] at h
  exact c_xsc_s hs h.1
theorem q_F.b3 {s s' i2 : Nat} {I I' : a_F} (hs : s ≤ s') (h : q_F (c_xsc s') I I') : q_F (c_b3 s i2) I I' := fun c i hc => h c i (c_b3_x hs hc)
theorem c_b3_i {s i2 c : Nat} (h : c = 29 ∨ c = 30) : c_b3 s i2 c i2 = true := by
  unfold c_b3
  rw [show Nat.beq i2 i2 = true from Nat.beq_refl i2]
  rcases h with h | h <;> subst h <;> simp [c_xsc]
/-- rows of clauses lie beside what an expression changes -/
theorem c_xsc_r {s c i : Nat} (h : 17 ≤ c ∧ c ≤ 30) : c_xsc s c i = false := by
  unfold c_xsc
  rw [yt_bf (show ¬ c = 32 by omega), yt_bf (show ¬ c = 31 by omega)]
  rfl
theorem c_nsc_r {c i : Nat} (h : c ≤ 31) : c_nsc c i = false := c_nsc_no (by omega)
theorem c_er.up {tb : Nat → Nat} {n s k p : Nat} {G : am_G} {I : a_F} (h : c_er tb n s k p G I) (c i : Nat) (x : Int32) (hc : c ≠ 32 ∧ c ≠ 57) : c_er tb n s k p G (am_u I c i x) := by
  obtain ⟨⟨a1, a2, a3, a4⟩, ⟨q, q1, q2⟩, h3, h4, z, z1, z2, z3⟩ := h
  have e32 : am_u I c i x 32 = I 32 := am_u_row _ _ _ _ (fun q => hc.1 q.symm)
  have e57 : am_u I c i x 57 = I 57 := am_u_row _ _ _ _ (fun q => hc.2 q.symm)
  exact ⟨⟨a1, by rw [e32]; exact a2, a3, fun j hj => by rw [e57]; exact a4 j hj⟩, ⟨q, q1, by rw [e32]; exact q2⟩, by rw [e32]; exact h3, by rw [e32]; exact h4, z, z1, z2, by rw [e32]; exact z3⟩
section Cpar3
variable {β : Bool} {xs : Nat → Int32} {L : Nat} {G : am_G} {J : Nat → Nat → Int64} {d : Nat} {tb : Nat → Nat} {n : Nat}
/-- children, a fault having been found -/
theorem k_b121E {a s s0 i2 : Nat} {e : Nat × Nat} {I : a_F} (hR : q_RT G) (ha : a < 12) (hi : i2 < 144) (h : c_er tb n s0 e.1 e.2 G I) : q_W β xs L (d + 1) 30 121 [.ref 32, .int (nI a), .int (nI i2)] [] (G, I, J) (fun o h' => o = .inl none ∧ ∃ I', h' = (G, I', J) ∧ q_F (c_b3 s i2) I I' ∧ c_er tb n s0 e.1 e.2 G I') := by
  have ei : (nI i2).toNatClampNeg = i2 := nI_clamp (by omega)
  have ii : am_is (nI i2) 144 = true := am_is_nI hi (by omega)
  refine g_30_121 hR _ _ ?_
  rw [ei]
  have h1 := (h.up 29 i2 (I 32 9) (by decide)).up 30 i2 (-1) (by decide)
  refine ⟨ii, ii, q_useI (k_isW0 (β := β) (xs := xs) (L := L) (J := J) (d := d) hR h1 4) (Nat.le_refl _) ⟨fun _ => g_30_180 hR _ _ ⟨rfl, _, rfl, ((q_F.rf _ I).up _ (c_b3_i (Or.inl rfl))).up _ (c_b3_i (Or.inr rfl)), h1⟩, fun q => absurd rfl q⟩⟩
/-- children -/
theorem k_b121 {a s i2 how wh : Nat} {c : yx_C} {un : Option yx_C} {ts : yt_L} {I : a_F} (hR : q_RT G) (ha : a < 12) (hi : i2 < 144) (h : c_ge tb n s ts G I) (hs : s ≤ 6000) : q_W β xs L (d + 6) 30 121 [.ref 32, .int (nI a), .int (nI i2)] [] (G, I, J) (fun o h' => o = .inl none ∧ ∃ I', h' = (G, I', J) ∧ q_F (c_b3 s i2) I I' ∧ match yx_chi n how wh c un ts with
    | .inl e => c_er tb n s e.1 e.2 G I'
    | .inr (k, r) => c_ge tb n s r G I' ∧ I' 32 11 = I 32 11 ∧ I' 29 i2 = nI s ∧ ∃ ch, k = (how, wh, c, un, ch, 0) ∧ I' 30 i2 = (match ch with
      | none => -1
      | some v => nI v) ∧ r.length ≤ ts.length) := by
  have ei : (nI i2).toNatClampNeg = i2 := nI_clamp (by omega)
  have ii : am_is (nI i2) 144 = true := am_is_nI hi (by omega)
  refine g_30_121 hR _ _ ?_
  have e9 : I 32 9 = nI s := h.2.2.2.1
  rw [ei, e9]
  have h1 := (h.up 29 i2 (nI s) (by decide)).up 30 i2 (-1) (by decide)
  have f1 : q_F (c_b3 s i2) I (am_u (am_u I 29 i2 (nI s)) 30 i2 (-1)) := ((q_F.rf _ I).up _ (c_b3_i (Or.inl rfl))).up _ (c_b3_i (Or.inr rfl))
  have e32 : am_u (am_u I 29 i2 (nI s)) 30 i2 (-1) 32 = I 32 := by rw [am_u_row _ _ _ _ (by decide), am_u_row _ _ _ _ (by decide)]
  have e29 : am_u (am_u I 29 i2 (nI s)) 30 i2 (-1) 29 i2 = nI s := by rw [am_u_ne (Or.inl (by decide)), am_u_same]
  have e30 : am_u (am_u I 29 i2 (nI s)) 30 i2 (-1) 30 i2 = -1 := am_u_same
  generalize am_u (am_u I 29 i2 (nI s)) 30 i2 (-1) = I1 at h1 f1 e32 e29 e30
  refine ⟨ii, ii, ?_⟩
  unfold yx_chi
  refine q_useI (k_isW1 (β := β) (xs := xs) (L := L) (J := J) (d := d + 5) hR h1 (w := 4) (by decide)) (by omega) ⟨fun z => g_30_180 hR _ _ ⟨rfl, I1, rfl, f1, ?_⟩, fun z => ?_⟩
  · rw [if_neg (a_is_d0.mp z)]
    exact ⟨h1, by rw [e32], e29, none, rfl, e30, Nat.le_refl _⟩
  · have ht := a_is_d1.mp z
    have l1 := yt_tl_len ht (by decide)
    rw [if_pos ht]
    refine q_useV (k_next1 (β := β) (xs := xs) (L := L) (J := J) (d := d) hR (c_st.rf h1)) (by omega) (fun I2 g2 => ?_)
    have g2g : c_ge tb n s ts.tail G I2 := g2.2.1
    refine q_useVI (k_num1 (β := β) (xs := xs) (L := L) (J := J) (d := d) hR g2g hs) (by omega) (fun v I3 q => ⟨hR, ?_⟩)
    by_cases h2 : (yt_hd ts.tail).1 = 2
    · rw [if_pos h2] at q ⊢
      obtain ⟨rfl, rfl, q3⟩ := q
      have l2 := yt_tl_len (ts := ts.tail) rfl (by rw [h2]; decide)
      refine ⟨fun q => absurd q (by decide), fun _ => ⟨ii, ?_⟩⟩
      rw [q3]
      have h3 := g2g.up 30 i2 (nI (yt_hd ts.tail).2) (by decide)
      refine q_useV (k_next1 (β := β) (xs := xs) (L := L) (J := J) (d := d) hR (c_st.rf h3)) (by omega) (fun I4 g4 => g_30_180 hR _ _ ⟨rfl, I4, rfl, ?_, ?_⟩)
      · exact ((f1.tr (g2.1.b3 (Nat.le_refl _))).up _ (c_b3_i (Or.inr rfl))).tr (g4.1.b3 (Nat.le_refl _))
      · refine ⟨g4.2.1, ?_, ?_, _, rfl, ?_, by omega⟩
        · rw [g4.2.2.1, am_u_ne (Or.inl (by decide)), g2.2.2.1, e32]
        · rw [g4.1 29 i2 (c_xsc_r (by decide)), am_u_ne (Or.inl (by decide)), g2.1 29 i2 (c_xsc_r (by decide))]; exact e29
        · rw [g4.1 30 i2 (c_xsc_r (by decide)), am_u_same]
    · rw [if_neg h2] at q ⊢
      obtain ⟨rfl, q2⟩ := q
      refine ⟨fun _ => g_30_180 hR _ _ ⟨rfl, I3, rfl, ?_, q2.2⟩, fun q => absurd rfl q⟩
      exact (f1.tr (g2.1.b3 (Nat.le_refl _))).tr (q2.1.b3 (Nat.le_refl _))
/-- cells that a clause changes -/
def c_bsc (a s i2 c i : Nat) : Bool := c_xsc s c i || ((Nat.beq i a && Nat.beq c 23) || (Nat.beq i i2 && (Nat.ble 26 c && Nat.ble c 30)))
theorem c_bsc_3 {a s s' i2 c i : Nat} (hs : s ≤ s') (h : c_bsc a s i2 c i = false) : c_b3 s' i2 c i = false := by
  unfold c_bsc at h
  unfold c_b3
  rw [Bool.or_eq_false_iff, Bool.or_eq_false_iff] at h
  rw [Bool.or_eq_false_iff]
  refine ⟨c_xsc_s hs h.1, ?_⟩
  have h2 := h.2.2
  cases hh : (Nat.beq i i2 && (Nat.beq c 29 || Nat.beq c 30)) with
  | false => rfl
  | true =>
    simp only [Bool.and_eq_true, Bool.or_eq_true, Nat.beq_eq] at hh
    have : (Nat.beq i i2 && (Nat.ble 26 c && Nat.ble c 30)) = true := by
      simp only [Bool.and_eq_true, Nat.beq_eq, Nat.ble_eq]
      omega
    rw [this] at h2
    cases h2
theorem c_bsc_x {a s s' i2 c i : Nat} (hs : s ≤ s') (h : c_bsc a s i2 c i = false) : c_xsc s' c i = false := by
  unfold c_bsc at h
  rw [Bool.or_eq_false_iff] at h
  exact c_xsc_s hs h.1
theorem c_bsc_i {a s i2 c : Nat} (h : 26 ≤ c ∧ c ≤ 30) : c_bsc a s i2 c i2 = true := by
  unfold c_bsc
  rw [show Nat.beq i2 i2 = true from Nat.beq_refl i2, Nat.ble_eq.mpr h.1, Nat.ble_eq.mpr h.2]
  simp
theorem c_bsc_a {a s i2 : Nat} : c_bsc a s i2 23 a = true := by
  unfold c_bsc
  rw [show Nat.beq a a = true from Nat.beq_refl a]
  simp
theorem bt_or (x y : Int32) (i : Nat) : bt (x ||| y) i = (bt x i || bt y i) := by unfold bt; rw [Int32.toBitVec_or, BitVec.getLsbD_or]
theorem bt_1s : ∀ w, w < 7 → bt ((1 : Int32) <<< (nI w &&& 31)) w = true := by decide +kernel
/-- readBond() -/
theorem k_rbond {a s i2 how : Nat} {ok : Nat → Bool} {ts : yt_L} {I : a_F} (hR : q_RT G) (ha : a < 12) (hi : i2 < 144) (hh : how < 2) (h : c_ge tb n s ts G I) (h25 : I 25 i2 = nI how) (hs : s + ts.length ≤ 6000) : q_W β xs L (d + 44) 30 0 [.ref 32, .int (nI a), .int (nI i2)] [] (G, I, J) (fun o h' => o = .inl none ∧ ∃ I', h' = (G, I', J) ∧ q_F (c_bsc a s i2) I I' ∧ match yx_body n ok how ts with
    | .inl e => c_er tb n s e.1 e.2 G I'
    | .inr (k, r) => ∃ s', (s ≤ s' ∧ s' + r.length + 1 ≤ s + ts.length) ∧ c_ge tb n s' r G I' ∧ I' 32 11 = I 32 11 ∧ c_kd a I' s' i2 k ∧ k.1 ≠ 2 ∧ ∀ w, bt (I 23 a) w = true → bt (I' 23 a) w = true) := by
  have ea : (nI a).toNatClampNeg = a := nI_clamp (by omega)
  have ia : am_is (nI a) 12 = true := am_is_nI ha (by omega)
  have ei : (nI i2).toNatClampNeg = i2 := nI_clamp (by omega)
  have ii : am_is (nI i2) 144 = true := am_is_nI hi (by omega)
  have hne : ¬ how = 2 := by omega
  unfold yx_body
  rw [if_neg hne]
  have bad : ¬ ((yt_hd ts).1 = 3 ∧ 8 ≤ (yt_hd ts).2 ∧ (yt_hd ts).2 < 15) → q_W β xs L (d + 44) 30 26 [.ref 32, .int (nI a), .int (nI i2)] [] (G, I, J) (fun o h' => o = .inl none ∧ ∃ I', h' = (G, I', J) ∧ q_F (c_bsc a s i2) I I' ∧ match (if (yt_hd ts).1 = 3 ∧ 8 ≤ (yt_hd ts).2 ∧ (yt_hd ts).2 < 15 then yx_bond n how ((yt_hd ts).2 - 8) ts.tail else .inl (1, yt_pl n ts)) with
    | .inl e => c_er tb n s e.1 e.2 G I'
    | .inr (k, r) => ∃ s', (s ≤ s' ∧ s' + r.length + 1 ≤ s + ts.length) ∧ c_ge tb n s' r G I' ∧ I' 32 11 = I 32 11 ∧ c_kd a I' s' i2 k ∧ k.1 ≠ 2 ∧ ∀ w, bt (I 23 a) w = true → bt (I' 23 a) w = true) := fun hb => by
    rw [if_neg hb]
    refine g_30_26 hR _ _ (q_useV (k_fail1 (β := β) (xs := xs) (L := L) (J := J) (d := d) hR h (by omega) (k := 1) (by decide)) (by omega) (fun I2 h2 => ⟨rfl, I2, rfl, fun c i hc => h2.1 c i (c_bsc_x (Nat.le_refl _) hc), h2.2⟩))
  refine g_30_0 hR _ _ ⟨fun z => bad (fun q => z (h.hd.1.mpr q.1)), fun z => ?_⟩
  have h3 := h.hd.1.mp z
  have e8 : I 32 8 = nI (yt_hd ts).2 := h.2.1.1.1.2.2.2 h3
  have hle : (yt_hd ts).2 ≤ 28 := by
    rcases yt_hd_ok h.2.2.2.2 with q | q | q | q | q | q
    · rw [q] at h3; cases h3
    · rw [q] at h3; cases h3
    · omega
    · exact q.2
    · omega
    · rw [q] at h3; cases h3
  have l1 := yt_tl_len (ts := ts) rfl (by rw [h3]; decide)
  rw [e8]
  have lt8 : nI (yt_hd ts).2 < 8 ↔ (yt_hd ts).2 < 8 := nI_ltI (b := 8) (by omega) (by omega)
  have lt15 : nI (yt_hd ts).2 < 15 ↔ (yt_hd ts).2 < 15 := nI_ltI (b := 15) (by omega) (by omega)
  rw [lt8, lt15]
  refine ⟨fun q => bad (by omega), fun y1 => ⟨fun y2 => ⟨ii, ia, ia, ?_⟩, fun q => bad (by omega)⟩⟩
  rw [if_pos ⟨h3, by omega, y2⟩]
  generalize hw : (yt_hd ts).2 - 8 = w
  have hw7 : w < 7 := by omega
  have e88 : nI (yt_hd ts).2 - 8 = nI w := by rw [show (8 : Int32) = nI 8 from rfl, pk_sub (by omega), hw]
  rw [e88, ei, ea]
  have hA := (h.up 26 i2 (nI w) (by decide)).up 23 a (I 23 a ||| (1 <<< (nI w &&& 31))) (by decide)
  have fA : q_F (c_bsc a s i2) I (am_u (am_u I 26 i2 (nI w)) 23 a (I 23 a ||| (1 <<< (nI w &&& 31)))) := ((q_F.rf _ I).up _ (c_bsc_i (by decide))).up _ c_bsc_a
  have A11 : am_u (am_u I 26 i2 (nI w)) 23 a (I 23 a ||| (1 <<< (nI w &&& 31))) 32 11 = I 32 11 := by rw [am_u_ne (Or.inl (by decide)), am_u_ne (Or.inl (by decide))]
  have A25 : am_u (am_u I 26 i2 (nI w)) 23 a (I 23 a ||| (1 <<< (nI w &&& 31))) 25 i2 = nI how := by rw [am_u_ne (Or.inl (by decide)), am_u_ne (Or.inl (by decide))]; exact h25
  have A26 : am_u (am_u I 26 i2 (nI w)) 23 a (I 23 a ||| (1 <<< (nI w &&& 31))) 26 i2 = nI w := by rw [am_u_ne (Or.inl (by decide)), am_u_same]
  have A23 : am_u (am_u I 26 i2 (nI w)) 23 a (I 23 a ||| (1 <<< (nI w &&& 31))) 23 a = I 23 a ||| (1 <<< (nI w &&& 31)) := am_u_same
  generalize am_u (am_u I 26 i2 (nI w)) 23 a (I 23 a ||| (1 <<< (nI w &&& 31))) = IA at hA fA A11 A25 A26 A23 ⊢
  refine q_useV (k_next1 (β := β) (xs := xs) (L := L) (J := J) (d := d) hR (c_st.rf hA)) (by omega) (fun I1 g1 => ⟨hR, ii, ?_⟩)
  have r1 : ∀ c i, 17 ≤ c → c ≤ 30 → I1 c i = IA c i := fun c i a b => g1.1 c i (c_xsc_r ⟨a, b⟩)
  have e19 : I1 32 9 = nI s := g1.2.1.2.2.2.1
  rw [e19]
  have gB : c_ge tb n s ts.tail G (am_u I1 27 i2 (nI s)) := c_ge.up g1.2.1 27 i2 (nI s) (by decide)
  have fB : q_F (c_bsc a s i2) I (am_u I1 27 i2 (nI s)) := (fA.tr (fun c i hc => g1.1 c i (c_bsc_x (Nat.le_refl _) hc))).up _ (c_bsc_i (by decide))
  have B11 : am_u I1 27 i2 (nI s) 32 11 = I 32 11 := by rw [am_u_ne (Or.inl (by decide)), g1.2.2.1]; exact A11
  have B27 : am_u I1 27 i2 (nI s) 27 i2 = nI s := am_u_same
  have rB : ∀ c i, 17 ≤ c → c ≤ 26 → am_u I1 27 i2 (nI s) c i = IA c i := fun c i p q => by rw [am_u_ne (Or.inl (by omega))]; exact r1 c i p (by omega)
  generalize am_u I1 27 i2 (nI s) = IB at gB fB B11 B27 rB ⊢
  refine q_useV (k_E (β := β) (xs := xs) (L := L) (J := J) hR 6 0 rfl s ts.tail IB gB (by omega)) (by omega) (fun I2 g2 => ⟨hR, ii, ?_⟩)
  unfold yx_bond
  cases hx : yx_E n 6 ts.tail with
  | inl e =>
    rw [hx] at g2
    obtain ⟨f2, g2e⟩ := g2
    have fC : q_F (c_bsc a s i2) I (am_u I2 28 i2 (I2 32 9)) := (fB.tr (fun c i hc => f2 c i (c_bsc_x (Nat.le_refl _) hc))).up _ (c_bsc_i (by decide))
    have gC := g2e.up 28 i2 (I2 32 9) (by decide)
    refine q_useI (k_isW0 (β := β) (xs := xs) (L := L) (J := J) (d := d) hR gC 3) (by omega) ⟨fun _ => ?_, fun q => absurd rfl q⟩
    refine q_mono (k_b121E (β := β) (xs := xs) (L := L) (J := J) (d := d) (s := s) hR ha hi gC) (by omega) (fun o h' P => ?_)
    obtain ⟨rfl, I3, rfl, f3, e3⟩ := P
    exact ⟨rfl, I3, rfl, fC.tr (fun c i hc => f3 c i (c_bsc_3 (Nat.le_refl _) hc)), e3⟩
  | inr y =>
    obtain ⟨c1, r1'⟩ := y
    rw [hx] at g2
    obtain ⟨lc1, lc2⟩ := yx_E6_len hx
    obtain ⟨f2, g2e, g211, g2c⟩ := g2
    have e29 : I2 32 9 = nI (s + c1.length) := g2e.2.2.2.1
    rw [e29]
    have gC : c_ge tb n (s + c1.length) r1' G (am_u I2 28 i2 (nI (s + c1.length))) := c_ge.up g2e 28 i2 (nI (s + c1.length)) (by decide)
    have fC : q_F (c_bsc a s i2) I (am_u I2 28 i2 (nI (s + c1.length))) := (fB.tr (fun c i hc => f2 c i (c_bsc_x (Nat.le_refl _) hc))).up _ (c_bsc_i (by decide))
    have C11 : am_u I2 28 i2 (nI (s + c1.length)) 32 11 = I 32 11 := by rw [am_u_ne (Or.inl (by decide)), g211]; exact B11
    have C28 : am_u I2 28 i2 (nI (s + c1.length)) 28 i2 = nI (s + c1.length) := am_u_same
    have C27 : am_u I2 28 i2 (nI (s + c1.length)) 27 i2 = nI s := by rw [am_u_ne (Or.inl (by decide)), f2 27 i2 (c_xsc_r (by decide))]; exact B27
    have rC : ∀ c i, 17 ≤ c → c ≤ 26 → am_u I2 28 i2 (nI (s + c1.length)) c i = IA c i := fun c i p q => by rw [am_u_ne (Or.inl (by omega)), f2 c i (c_xsc_r ⟨p, by omega⟩)]; exact rB c i p q
    have C31 : c_ops (am_u I2 28 i2 (nI (s + c1.length)) 31) c1.length s = c1 := by rw [am_u_row _ _ _ _ (by decide)]; exact g2c
    generalize am_u I2 28 i2 (nI (s + c1.length)) = IC at gC fC C11 C28 C27 rC C31 ⊢
    -- what children leave
    have fin : ∀ (un : Option yx_C) (r : yt_L) (ID : a_F), (∀ j, j < s + c1.length → ID 31 j = IC 31 j) → (∀ c i, 17 ≤ c → c ≤ 30 → ID c i = IC c i) → q_F (c_bsc a s i2) I ID → ID 32 11 = I 32 11 → c_ge tb n (s + c1.length + (un.getD []).length) r G ID → c_ops (ID 31) (un.getD []).length (s + c1.length) = un.getD [] → s + c1.length + (un.getD []).length + r.length + 1 ≤ s + ts.length → q_W β xs L (d + 44) 30 121 [.ref 32, .int (nI a), .int (nI i2)] [] (G, ID, J) (fun o h' => o = .inl none ∧ ∃ I', h' = (G, I', J) ∧ q_F (c_bsc a s i2) I I' ∧ match yx_chi n how w c1 un r with
        | .inl e => c_er tb n s e.1 e.2 G I'
        | .inr (k, r) => ∃ s', (s ≤ s' ∧ s' + r.length + 1 ≤ s + ts.length) ∧ c_ge tb n s' r G I' ∧ I' 32 11 = I 32 11 ∧ c_kd a I' s' i2 k ∧ k.1 ≠ 2 ∧ ∀ w, bt (I 23 a) w = true → bt (I' 23 a) w = true) := fun un r ID d31 rD fD D11 gD oD lD => by
      refine q_mono (k_b121 (β := β) (xs := xs) (L := L) (J := J) (d := d) (how := how) (wh := w) (c := c1) (un := un) hR ha hi gD (by omega)) (by omega) (fun o h' P => ?_)
      obtain ⟨rfl, I3, rfl, f3, P⟩ := P
      refine ⟨rfl, I3, rfl, fD.tr (fun c i hc => f3 c i (c_bsc_3 (by omega) hc)), ?_⟩
      cases hy : yx_chi n how w c1 un r with
      | inl e =>
        rw [hy] at P
        exact P.le (by omega)
      | inr y =>
        obtain ⟨k, r'⟩ := y
        rw [hy] at P
        obtain ⟨p1, p2, p3, ch, p4, p5, p6⟩ := P
        have k23 : ∀ c i, 17 ≤ c → c ≤ 28 → I3 c i = IC c i := fun c i p q => by
          rw [f3 c i, rD c i p (by omega)]
          unfold c_b3
          rw [c_xsc_r ⟨p, by omega⟩, yt_bf (show ¬ c = 29 by omega), yt_bf (show ¬ c = 30 by omega)]
          simp
        have k31 : ∀ j, j < s + c1.length + (un.getD []).length → I3 31 j = ID 31 j := fun j hj => f3 31 j (by
          unfold c_b3 c_xsc
          have : Nat.ble (s + c1.length + (un.getD []).length) j = false := by
            cases hh : Nat.ble (s + c1.length + (un.getD []).length) j with
            | false => rfl
            | true => rw [Nat.ble_eq] at hh; omega
          rw [this, show Nat.beq 31 29 = false from rfl, show Nat.beq 31 30 = false from rfl]
          simp)
        have c23 : I3 23 a = I 23 a ||| (1 <<< (nI w &&& 31)) := by rw [k23 23 a (by decide) (by decide), rC 23 a (by decide) (by decide)]; exact A23
        refine ⟨s + c1.length + (un.getD []).length, ⟨by omega, by omega⟩, p1, p2.trans D11, ?_, ?_, fun w' hw' => ?_⟩
        · subst p4
          refine Or.inr ⟨hh, ?_, ⟨hw7, ?_, ?_⟩, p5, s, ?_, ?_, ?_, p3, ?_, Nat.le_refl _⟩
          · rw [k23 25 i2 (by decide) (by decide), rC 25 i2 (by decide) (by decide)]; exact A25
          · rw [k23 26 i2 (by decide) (by decide), rC 26 i2 (by decide) (by decide)]; exact A26
          · show bt (I3 23 a) w = true
            rw [c23, bt_or, bt_1s w hw7, Bool.or_true]
          · rw [k23 27 i2 (by decide) (by decide)]; exact C27
          · rw [k23 28 i2 (by decide) (by decide)]; exact C28
          · show c_ops (I3 31) c1.length s = c1
            rw [c_ops_cong c1.length s (g := IC 31) (fun j x y => by rw [k31 j (by omega), d31 j (by omega)])]
            exact C31
          · show c_ops (I3 31) (un.getD []).length (s + c1.length) = un.getD []
            rw [c_ops_cong _ _ (g := ID 31) (fun j x y => k31 j (by omega))]
            exact oD
        · subst p4
          exact hne
        · rw [c23, bt_or, hw', Bool.true_or]
    dsimp only
    refine q_useI (k_isW1 (β := β) (xs := xs) (L := L) (J := J) (d := d) hR gC (w := 3) (by decide)) (by omega) ⟨fun z => ?_, fun z => ?_⟩
    · rw [if_neg (a_is_d0.mp z)]
      exact fin none r1' IC (fun j _ => rfl) (fun c i _ _ => rfl) fC C11 gC rfl (by show s + c1.length + 0 + r1'.length + 1 ≤ s + ts.length; omega)
    · have ht := a_is_d1.mp z
      have l2 := yt_tl_len ht (by decide)
      rw [if_pos ht]
      refine q_useV (k_next1 (β := β) (xs := xs) (L := L) (J := J) (d := d) hR (c_st.rf gC)) (by omega) (fun I3 g3 => ?_)
      have g3g : c_ge tb n (s + c1.length) r1'.tail G I3 := g3.2.1
      refine q_useV (k_E (β := β) (xs := xs) (L := L) (J := J) hR 6 0 rfl (s + c1.length) r1'.tail I3 g3g (by omega)) (by omega) (fun I4 g4 => ?_)
      have f3 : q_F (c_bsc a s i2) I I3 := fC.tr (fun c i hc => g3.1 c i (c_bsc_x (Nat.le_add_right _ _) hc))
      cases hy : yx_E n 6 r1'.tail with
      | inl e =>
        rw [hy] at g4
        obtain ⟨f4, g4e⟩ := g4
        refine q_mono (k_b121E (β := β) (xs := xs) (L := L) (J := J) (d := d) (s := s + c1.length) hR ha hi g4e) (by omega) (fun o h' P => ?_)
        obtain ⟨rfl, I5, rfl, f5, e5⟩ := P
        exact ⟨rfl, I5, rfl, (f3.tr (fun c i hc => f4 c i (c_bsc_x (Nat.le_add_right _ _) hc))).tr (fun c i hc => f5 c i (c_bsc_3 (s' := s + c1.length) (Nat.le_add_right _ _) hc)), e5.le (Nat.le_add_right _ _)⟩
      | inr y =>
        obtain ⟨c2, r2⟩ := y
        rw [hy] at g4
        obtain ⟨ld1, ld2⟩ := yx_E6_len hy
        obtain ⟨f4, g4e, g411, g4c⟩ := g4
        refine fin (some c2) r2 I4 (fun j hj => ?_) (fun c i p q => ?_) (f3.tr (fun c i hc => f4 c i (c_bsc_x (Nat.le_add_right _ _) hc))) ?_ g4e g4c (by show s + c1.length + c2.length + r2.length + 1 ≤ s + ts.length; omega)
        · have no : c_xsc (s + c1.length) 31 j = false := by
            unfold c_xsc
            have : Nat.ble (s + c1.length) j = false := by
              cases hh : Nat.ble (s + c1.length) j with
              | false => rfl
              | true => rw [Nat.ble_eq] at hh; omega
            rw [this]
            simp
          rw [f4 31 j no, g3.1 31 j no]
        · rw [f4 c i (c_xsc_r ⟨p, q⟩), g3.1 c i (c_xsc_r ⟨p, q⟩)]
        · rw [g411, g3.2.2.1]; exact C11
end Cpar3

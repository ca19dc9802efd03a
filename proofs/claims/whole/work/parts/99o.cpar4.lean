/-! ===== the class's parser: all clauses ===== -/
theorem c_bsc_k {a s i2 c i : Nat} (hs : 500 * a ≤ s) (hi : 12 * a ≤ i2) (h : c_ksc a c i = false) : c_bsc a s i2 c i = false := by
  have hx := c_ksc_x hs h
  unfold c_ksc at h
  rw [Bool.or_eq_false_iff, Bool.or_eq_false_iff] at h
  unfold c_bsc
  rw [hx, Bool.false_or, Bool.or_eq_false_iff]
  refine ⟨?_, ?_⟩
  · cases hh : (Nat.beq i a && Nat.beq c 23) with
    | false => rfl
    | true =>
      rw [Bool.and_eq_true] at hh
      have h2 := h.2.1
      rw [hh.1, hh.2] at h2
      simp at h2
  · cases hh : (Nat.beq i i2 && (Nat.ble 26 c && Nat.ble c 30)) with
    | false => rfl
    | true =>
      simp only [Bool.and_eq_true, Nat.beq_eq, Nat.ble_eq] at hh
      have h2 := h.2.2
      have : (Nat.ble 25 c && (Nat.ble c 30 && Nat.ble (12 * a) i)) = true := by
        simp only [Bool.and_eq_true, Nat.ble_eq]
        omega
      rw [this] at h2
      cases h2
theorem c_bsc_no {a s i2 c i : Nat} (h : (17 ≤ c ∧ c ≤ 22) ∨ c = 24 ∨ (25 ≤ c ∧ c ≤ 30 ∧ i ≠ i2)) : c_bsc a s i2 c i = false := by
  unfold c_bsc
  rw [c_xsc_r (by omega), yt_bf (show ¬ c = 23 by omega), Bool.and_false, Bool.false_or, Bool.false_or]
  cases hh : (Nat.beq i i2 && (Nat.ble 26 c && Nat.ble c 30)) with
  | false => rfl
  | true =>
    simp only [Bool.and_eq_true, Nat.beq_eq, Nat.ble_eq] at hh
    omega
theorem c_xsc_lo {s j : Nat} (h : j < s) : c_xsc s 31 j = false := by
  unfold c_xsc
  have : Nat.ble s j = false := by
    cases hh : Nat.ble s j with
    | false => rfl
    | true => rw [Nat.ble_eq] at hh; omega
  rw [this]
  simp
theorem c_bsc_lo {a s i2 j : Nat} (h : j < s) : c_bsc a s i2 31 j = false := by
  unfold c_bsc
  rw [c_xsc_lo h, show Nat.beq 31 23 = false from rfl, show Nat.ble 31 30 = false from rfl]
  simp
theorem yx_cl_len {l : List yx_K} {k : yx_K} {c : Nat} {k' : yx_K} (h : (l ++ [k])[c]? = some k') : (l[c]? = some k' ∧ c < l.length) ∨ (c = l.length ∧ k' = k) := by
  by_cases hc : c < l.length
  · rw [List.getElem?_append_left hc] at h
    exact Or.inl ⟨h, hc⟩
  · rw [List.getElem?_append_right (by omega)] at h
    have hl : c - l.length < [k].length := by
      by_cases h1 : c - l.length < [k].length
      · exact h1
      · rw [List.getElem?_eq_none (by omega)] at h
        cases h
    simp only [List.length_singleton] at hl
    have e : c = l.length := by omega
    subst e
    rw [Nat.sub_self] at h
    exact Or.inr ⟨rfl, (Option.some.inj h).symm⟩
section Cpar4
variable {β : Bool} {xs : Nat → Int32} {L : Nat} {G : am_G} {J : Nat → Nat → Int64} {d : Nat} {tb : Nat → Nat} {n : Nat}
/-- readClause() -/
theorem k_rclause {a s : Nat} {ok : Nat → Bool} {l : List yx_K} {ts : yt_L} {I0 I : a_F} (hR : q_RT G) (ha : a < 12) (hok : ∀ v, v < 100000 → (ok v = true ↔ v < a ∧ I0 17 v = I0 17 a)) (h : c_kt tb n a l s ts G I0 I) (hl : l.length ≤ 12) : q_W β xs L (d + 45) 28 0 [.ref 32, .int (nI a), .int (nI l.length), .retAddr 0] [] (G, I, J) (fun o h' => o = .inl none ∧ ∃ I', h' = (G, I', J) ∧ match yx_cl n ok l.length ts with
    | .inl e => c_ke n a e I0 I'
    | .inr (k, r) => l.length < 12 ∧ ∃ s', c_kt tb n a (l ++ [k]) s' r G I0 I') := by
  obtain ⟨f0, g, g11, g24, g22, ⟨gs1, gs2⟩, gk⟩ := h
  have ea : (nI a).toNatClampNeg = a := nI_clamp (by omega)
  have ia : am_is (nI a) 12 = true := am_is_nI ha (by omega)
  have s6 : s ≤ 6000 := by omega
  have ok1 : ∀ v, v < 100000 → (ok v = true ↔ v < a ∧ I 17 v = I 17 a) := fun v hv => by
    rw [hok v hv, f0 17 v (c_ksc_c (by decide)), f0 17 a (c_ksc_c (by decide))]
  have bad : ¬ ((yt_hd ts).1 = 3 ∧ (yt_hd ts).2 ≤ 2) → q_W β xs L (d + 45) 28 16 [.ref 32, .int (nI a), .int (nI l.length), .retAddr 0] [] (G, I, J) (fun o h' => o = .inl none ∧ ∃ I', h' = (G, I', J) ∧ match yx_cl n ok l.length ts with
      | .inl e => c_ke n a e I0 I'
      | .inr (k, r) => l.length < 12 ∧ ∃ s', c_kt tb n a (l ++ [k]) s' r G I0 I') := fun hb => by
    have ec : yx_cl n ok l.length ts = .inl (1, yt_pl n ts) := if_neg hb
    rw [ec]
    exact g_28_16 hR _ _ (q_useV (k_fail1 (β := β) (xs := xs) (L := L) (J := J) (d := d) hR g s6 (k := 1) (by decide)) (by omega) (fun I2 h2 => ⟨rfl, I2, rfl, h2.ke f0 gs1⟩))
  refine g_28_0 hR _ _ ⟨fun z => bad (fun q => z (g.hd.1.mpr q.1)), fun z => ?_⟩
  have h3 := g.hd.1.mp z
  have e8 : I 32 8 = nI (yt_hd ts).2 := g.2.1.1.1.2.2.2 h3
  have hle : (yt_hd ts).2 ≤ 28 := by
    rcases yt_hd_ok g.2.2.2.2 with q | q | q | q | q | q
    · rw [q] at h3; cases h3
    · rw [q] at h3; cases h3
    · omega
    · exact q.2
    · omega
    · rw [q] at h3; cases h3
  have l1 := yt_tl_len (ts := ts) rfl (by rw [h3]; decide)
  rw [e8]
  have lt2 : (2 : Int32) < nI (yt_hd ts).2 ↔ 2 < (yt_hd ts).2 := nI_ltI (a := 2) (by omega) (by omega)
  have lt12 : nI l.length < (12 : Int32) ↔ l.length < 12 := nI_ltI (b := 12) (by omega) (by omega)
  rw [lt2, lt12]
  refine ⟨fun y => ⟨fun x => ?_, fun x => ?_⟩, fun y => bad (by omega)⟩
  · have ec : yx_cl n ok l.length ts = (match yx_body n ok (yt_hd ts).2 ts.tail with
      | .inl e => .inl e
      | .inr (k, r) => yx_semi n k r) := by
      unfold yx_cl
      rw [if_pos ⟨h3, by omega⟩, if_pos x]
      rfl
    generalize hw : (yt_hd ts).2 = w at ec y
    have e12 : (nI a * 12 + nI l.length : Int32) = nI (12 * a + l.length) := by rw [show (12 : Int32) = nI 12 from rfl, pk_mul, nI_add, Nat.mul_comm]
    have ei : (nI (12 * a + l.length)).toNatClampNeg = 12 * a + l.length := nI_clamp (by omega)
    have ii : am_is (nI (12 * a + l.length)) 144 = true := am_is_nI (by omega) (by omega)
    rw [e12, ei, ea, nI_1]
    refine ⟨ii, ia, ?_⟩
    have gA := (g.up 25 (12 * a + l.length) (nI w) (by decide)).up 24 a (nI (l.length + 1)) (by decide)
    have fA : q_F (c_ksc a) I0 (am_u (am_u I 25 (12 * a + l.length) (nI w)) 24 a (nI (l.length + 1))) := (f0.up _ (c_ksc_k (by decide) (by omega))).up _ (c_ksc_a (Or.inr (Or.inr rfl)))
    have A11 : am_u (am_u I 25 (12 * a + l.length) (nI w)) 24 a (nI (l.length + 1)) 32 11 = I0 32 11 := by rw [am_u_ne (Or.inl (by decide)), am_u_ne (Or.inl (by decide))]; exact g11
    have A25 : am_u (am_u I 25 (12 * a + l.length) (nI w)) 24 a (nI (l.length + 1)) 25 (12 * a + l.length) = nI w := by rw [am_u_ne (Or.inl (by decide)), am_u_same]
    have A24 : am_u (am_u I 25 (12 * a + l.length) (nI w)) 24 a (nI (l.length + 1)) 24 a = nI (l.length + 1) := am_u_same
    have A22 : am_u (am_u I 25 (12 * a + l.length) (nI w)) 24 a (nI (l.length + 1)) 22 a = yx_stk l 0 := by rw [am_u_ne (Or.inl (by decide)), am_u_ne (Or.inl (by decide))]; exact g22
    have Ar : ∀ c i, (c ≠ 24) → (c ≠ 25 ∨ i ≠ 12 * a + l.length) → am_u (am_u I 25 (12 * a + l.length) (nI w)) 24 a (nI (l.length + 1)) c i = I c i := fun c i q1 q2 => by
      rw [am_u_ne (Or.inl q1), am_u_ne q2]
    generalize am_u (am_u I 25 (12 * a + l.length) (nI w)) 24 a (nI (l.length + 1)) = IA at gA fA A11 A25 A24 A22 Ar ⊢
    refine q_useV (k_next1 (β := β) (xs := xs) (L := L) (J := J) (d := d) hR (c_st.rf gA)) (by omega) (fun I1 g1 => ⟨hR, ii, ?_⟩)
    have g1g : c_ge tb n s ts.tail G I1 := g1.2.1
    have f1 : q_F (c_ksc a) I0 I1 := fA.tr (g1.1.kx gs1)
    have r1 : ∀ c i, 17 ≤ c → c ≤ 30 → I1 c i = IA c i := fun c i a b => g1.1 c i (c_xsc_r ⟨a, b⟩)
    have r31 : ∀ j, j < s → I1 31 j = I 31 j := fun j hj => (g1.1 31 j (c_xsc_lo (by show j < s + 0; omega))).trans (Ar 31 j (by decide) (Or.inl (by decide)))
    have e25 : I1 25 (12 * a + l.length) = nI w := (r1 25 _ (by decide) (by decide)).trans A25
    have D11 : I1 32 11 = I0 32 11 := g1.2.2.1.trans A11
    -- the clauses ahead stay
    have keep : ∀ (s' : Nat) (I2 : a_F), s ≤ s' → (∀ c i, 25 ≤ c → c ≤ 30 → i ≠ 12 * a + l.length → I2 c i = I1 c i) → (∀ w', w' < 7 → bt (I1 23 a) w' = true → bt (I2 23 a) w' = true) → (∀ j, j < s → I2 31 j = I1 31 j) → ∀ c k, l[c]? = some k → c < l.length → c_kd a I2 s' (12 * a + c) k := fun s' I2 q1 q2 q3 q4 c k hck hcl => by
      refine (gk c k hck).keep q1 (fun c' p1 p2 => ?_) (fun w' p1 p2 => q3 w' p1 ?_) (fun j hj => (q4 j hj).trans (r31 j hj))
      · rw [q2 c' _ p1 p2 (by omega), r1 c' _ (by omega) p2, Ar c' _ (by omega) (Or.inr (by omega))]
      · rw [r1 23 a (by decide) (by decide), Ar 23 a (by decide) (Or.inl (by decide))]
        exact p2
    -- behind the body
    have semi : ∀ (k : yx_K) (r : yt_L) (s' : Nat) (I2 : a_F), c_kt tb n a (l ++ [k]) s' r G I0 I2 → q_W β xs L (d + 45) 28 97 [.ref 32, .int (nI a), .int (nI l.length), .int (nI (12 * a + l.length))] [] (G, I2, J) (fun o h' => o = .inl none ∧ ∃ I', h' = (G, I', J) ∧ match yx_semi n k r with
        | .inl e => c_ke n a e I0 I'
        | .inr (k, r) => l.length < 12 ∧ ∃ s', c_kt tb n a (l ++ [k]) s' r G I0 I') := fun k r s' I2 hk => by
      obtain ⟨k1, k2, k3, k4, k5, ⟨k6, k7⟩, k8⟩ := hk
      refine g_28_97 hR _ _ _ (q_useV (k_exp1 (β := β) (xs := xs) (L := L) (J := J) (d := d) hR (c_st.rf k2) (by show s' + 0 ≤ 6000; omega) (c := 59) (by decide)) (by omega) (fun I3 h3 => ⟨rfl, I3, rfl, ?_⟩))
      unfold yx_semi
      by_cases h59 : yt_hd r = (4, 59)
      · rw [if_pos h59] at h3 ⊢
        have l2 := yt_tl_len h59 (by decide)
        have fr : ∀ c i, 17 ≤ c → c ≤ 30 → I3 c i = I2 c i := fun c i a b => h3.1 c i (c_xsc_r ⟨a, b⟩)
        refine ⟨x, s', k1.tr (h3.1.kx k6), h3.2.1, h3.2.2.1.trans k3, (fr 24 a (by decide) (by decide)).trans k4, (fr 22 a (by decide) (by decide)).trans k5, ⟨k6, by omega⟩, fun c k hck => (k8 c k hck).keep (Nat.le_refl _) (fun c' p1 p2 => fr c' _ (by omega) p2) (fun w' p1 p2 => by rw [fr 23 a (by decide) (by decide)]; exact p2) (fun j hj => h3.1 31 j (c_xsc_lo hj))⟩
      · rw [if_neg h59] at h3 ⊢
        exact h3.ke k1 k6
    have semiE : ∀ (e : Nat × Nat) (I2 : a_F), q_F (c_ksc a) I0 I2 → c_er tb n s e.1 e.2 G I2 → q_W β xs L (d + 45) 28 97 [.ref 32, .int (nI a), .int (nI l.length), .int (nI (12 * a + l.length))] [] (G, I2, J) (fun o h' => o = .inl none ∧ ∃ I', h' = (G, I', J) ∧ c_ke n a e I0 I') := fun e I2 hf he =>
      g_28_97 hR _ _ _ (q_useV (k_exp0 (β := β) (xs := xs) (L := L) (J := J) (d := d) (I0 := I2) hR ⟨q_F.rf _ _, he⟩ 59) (by omega) (fun I3 h3 => ⟨rfl, I3, rfl, h3.ke hf gs1⟩))
    rw [e25, ec]
    have ew2 : nI w = 2 ↔ w = 2 := nI_eq (b := 2) (by omega) (by omega)
    rw [ew2]
    refine ⟨fun z2 => ?_, fun z2 => ?_⟩
    · refine q_useV (k_rbond (β := β) (xs := xs) (L := L) (J := J) (d := d) (ok := ok) hR ha (i2 := 12 * a + l.length) (by omega) (how := w) (by omega) g1g e25 (by omega)) (Nat.le_refl _) (fun I2 h2 => ?_)
      obtain ⟨f2, h2⟩ := h2
      have fk : q_F (c_ksc a) I0 I2 := f1.tr (fun c i hc => f2 c i (c_bsc_k gs1 (by omega) hc))
      cases hx : yx_body n ok w ts.tail with
      | inl e =>
        rw [hx] at h2
        exact semiE e I2 fk h2
      | inr y =>
        obtain ⟨k, r⟩ := y
        rw [hx] at h2
        obtain ⟨s', ⟨p1, p2⟩, p3, p4, p5, p6, p7⟩ := h2
        refine semi k r s' I2 ⟨fk, p3, p4.trans D11, ?_, ?_, ⟨by omega, by omega⟩, fun c k' hck => ?_⟩
        · rw [f2 24 a (c_bsc_no (Or.inr (Or.inl rfl))), r1 24 a (by decide) (by decide), A24]
          simp
        · rw [f2 22 a (c_bsc_no (Or.inl (by decide))), r1 22 a (by decide) (by decide), A22, yx_stk_app, if_neg p6]
        · rcases yx_cl_len hck with ⟨q1, q2⟩ | ⟨q1, q2⟩
          · exact keep s' I2 p1 (fun c i a1 a2 a3 => f2 c i (c_bsc_no (Or.inr (Or.inr ⟨a1, a2, a3⟩)))) (fun w' _ hw' => p7 w' hw') (fun j hj => f2 31 j (c_bsc_lo hj)) c k' q1 q2
          · rw [q1, q2]
            exact p5
    · subst z2
      refine q_useV (k_rstrike (β := β) (xs := xs) (L := L) (J := J) (d := d) (I0 := I0) (ok := ok) hR ha (fun v hv => by rw [ok1 v hv, r1 17 v (by decide) (by decide), r1 17 a (by decide) (by decide), Ar 17 v (by decide) (Or.inl (by decide)), Ar 17 a (by decide) (Or.inl (by decide))]) g1g s6) (by omega) (fun I2 h2 => ?_)
      cases hx : yx_body n ok 2 ts.tail with
      | inl e =>
        rw [hx] at h2
        exact semiE e I2 (f1.tr (h2.1.kx gs1)) h2.2
      | inr y =>
        obtain ⟨k, r⟩ := y
        rw [hx] at h2
        obtain ⟨p1, ⟨p2, p3⟩, p4⟩ := h2
        have fr : ∀ c i, c_nsc c i = false → (c ≠ 22 ∨ i ≠ a) → I2 c i = I1 c i := fun c i q1 q2 => p4 c i (by
          show (c_nsc c i || (Nat.beq c 22 && Nat.beq i a)) = false
          rw [q1, Bool.false_or]
          cases hh : (Nat.beq c 22 && Nat.beq i a) with
          | false => rfl
          | true =>
            simp only [Bool.and_eq_true, Nat.beq_eq] at hh
            rcases q2 with q | q
            · exact absurd hh.1 q
            · exact absurd hh.2 q)
        have fk : q_F (c_ksc a) I0 I2 := f1.tr (fun c i hc => fr c i (c_xsc_n (c_ksc_x (Nat.le_refl _) hc)) (by
          by_cases q1 : c = 22
          · refine Or.inr (fun q2 => ?_)
            subst q1; subst q2
            rw [c_ksc_a (Or.inl rfl)] at hc
            cases hc
          · exact Or.inl q1))
        have lr : r.length + 1 ≤ ts.length := by
          unfold yx_body at hx
          rw [if_pos rfl] at hx
          by_cases q1 : (yt_hd ts.tail).1 = 2
          · rw [if_pos q1] at hx
            by_cases q2 : ok (yt_hd ts.tail).2 = true
            · rw [if_pos q2] at hx
              rw [← (Prod.mk.inj (Sum.inr.inj hx)).2]
              have := yt_tl_len (ts := ts.tail) rfl (by rw [q1]; decide)
              omega
            · rw [if_neg q2] at hx; cases hx
          · rw [if_neg q1] at hx; cases hx
        refine semi k r s I2 ⟨fk, p1, (fr 32 11 rfl (Or.inl (by decide))).trans D11, ?_, ?_, ⟨gs1, by omega⟩, fun c k' hck => ?_⟩
        · rw [fr 24 a rfl (Or.inl (by decide)), r1 24 a (by decide) (by decide), A24]
          simp
        · rw [p3, r1 22 a (by decide) (by decide), A22, yx_stk_app, if_pos p2]
        · rcases yx_cl_len hck with ⟨q1, q2⟩ | ⟨q1, q2⟩
          · exact keep s I2 (Nat.le_refl _) (fun c i a1 a2 a3 => fr c i (c_nsc_no (by omega)) (Or.inl (by omega))) (fun w' _ hw' => by rw [fr 23 a rfl (Or.inl (by decide))]; exact hw') (fun j hj => fr 31 j rfl (Or.inl (by decide))) c k' q1 q2
          · rw [q1, q2]
            exact Or.inl ⟨p2, (fr 25 _ (c_nsc_no (by decide)) (Or.inl (by decide))).trans e25⟩
  · have ec : yx_cl n ok l.length ts = .inl (2, yt_pl n ts) := by
      unfold yx_cl
      rw [if_pos ⟨h3, by omega⟩, if_neg x]
    rw [ec]
    exact q_useV (k_fail1 (β := β) (xs := xs) (L := L) (J := J) (d := d) hR g s6 (k := 2) (by decide)) (by omega) (fun I2 h2 => ⟨rfl, I2, rfl, h2.ke f0 gs1⟩)
/-- the loop over clauses -/
theorem k_readL {a : Nat} {i2 i3 : Int32} {ok : Nat → Bool} {I0 : a_F} (hR : q_RT G) (ha : a < 12) (hok : ∀ v, v < 100000 → (ok v = true ↔ v < a ∧ I0 17 v = I0 17 a)) : ∀ m (l : List yx_K) (s : Nat) (ts : yt_L) (I : a_F), l.length + m = 13 → c_kt tb n a l s ts G I0 I → q_W β xs L (d + 46) 27 104 [.ref 32, .ref 57, .int i2, .int i3, .int (nI a), .int (nI l.length)] [] (G, I, J) (fun o h' => ∃ y I', o = .inl (some (.int y)) ∧ h' = (G, I', J) ∧ match yx_cls n ok m l.length ts with
    | .inl e => y = nI e.1 ∧ c_ke n a e I0 I'
    | .inr l' => y = 0 ∧ ∃ s' r, c_kt tb n a (l ++ l') s' r G I0 I')
  | 0, l, s, ts, I, hl, h => by
    have e10 : I 32 10 = 0 := h.2.1.2.2.1
    refine g_27_104 hR _ _ _ _ ⟨fun _ => g_27_139 hR _ _ _ _ ⟨0, I, by rw [e10], rfl, rfl, s, ts, ?_⟩, fun z => absurd ((nI_ltI (a := 12) (by omega) (by omega)).mpr (by omega)) z⟩
    rw [List.append_nil]
    exact h
  | m + 1, l, s, ts, I, hl, h => by
    have e10 : I 32 10 = 0 := h.2.1.2.2.1
    have hd0 := h.2.1.hd.2.2.1
    have ec : yx_cls n ok (m + 1) l.length ts = if (yt_hd ts).1 = 0 then .inr [] else match yx_cl n ok l.length ts with
      | .inl e => .inl e
      | .inr (k, r) => match yx_cls n ok m (l.length + 1) r with
        | .inl e => .inl e
        | .inr l => .inr (k :: l) := rfl
    rw [ec]
    refine g_27_104 hR _ _ _ _ ⟨fun z => absurd ((nI_ltI (a := 12) (by omega) (by omega)).mp z) (by omega), fun _ => ⟨fun z => g_27_139 hR _ _ _ _ ⟨0, I, by rw [e10], rfl, ?_⟩, fun z => ⟨fun q => absurd e10 q, fun _ => ?_⟩⟩⟩
    · rw [if_pos (hd0.mp z)]
      refine ⟨rfl, s, ts, ?_⟩
      rw [List.append_nil]
      exact h
    · rw [if_neg (fun q => z (hd0.mpr q))]
      refine q_useV (k_rclause (β := β) (xs := xs) (L := L) (J := J) (d := d) (ok := ok) hR ha hok h (by omega)) (Nat.le_refl _) (fun I1 h1 => ?_)
      rw [nI_1]
      cases hx : yx_cl n ok l.length ts with
      | inl e =>
        rw [hx] at h1
        have n10 : ¬ I1 32 10 = 0 := by
          rw [h1.2.1.1]
          exact nI_ne0 (by have := h1.2.1.2.1; omega) (by have := h1.2.1.2.2; omega)
        have fin : q_W β xs L (d + 46) 27 139 [.ref 32, .ref 57, .int i2, .int i3, .int (nI a), .int (nI (l.length + 1))] [] (G, I1, J) (fun o h' => ∃ y I', o = .inl (some (.int y)) ∧ h' = (G, I', J) ∧ y = nI e.1 ∧ c_ke n a e I0 I') := g_27_139 hR _ _ _ _ ⟨_, I1, rfl, rfl, h1.2.1.1, h1⟩
        exact g_27_104 hR _ _ _ _ ⟨fun _ => fin, fun _ => ⟨fun _ => fin, fun _ => ⟨fun _ => fin, fun q => absurd q n10⟩⟩⟩
      | inr y =>
        obtain ⟨k, r⟩ := y
        rw [hx] at h1
        obtain ⟨h12, s', h1⟩ := h1
        have ih := k_readL (i2 := i2) (i3 := i3) hR ha hok m (l ++ [k]) s' r I1 (by simp only [List.length_append, List.length_singleton]; omega) h1
        rw [List.length_append, List.length_singleton] at ih
        refine q_mono ih (Nat.le_refl _) (fun o h' P => ?_)
        obtain ⟨y, I', e1, e2, P⟩ := P
        refine ⟨y, I', e1, e2, ?_⟩
        dsimp only
        cases hy : yx_cls n ok m (l.length + 1) r with
        | inl e =>
          rw [hy] at P
          exact P
        | inr l' =>
          rw [hy] at P
          obtain ⟨p1, s2, r2, p2⟩ := P
          refine ⟨p1, s2, r2, ?_⟩
          rw [List.append_assoc] at p2
          exact p2
end Cpar4

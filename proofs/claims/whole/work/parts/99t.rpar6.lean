/-! ===== the reference's parser: all clauses ===== -/
/-- cells that an act's text may change -/
def r_ksc (a c i : Nat) : Bool := r_xsc (1210 * a) c i || ((Nat.beq i a && (Nat.beq c 79 || Nat.beq c 80)) || (Nat.ble 81 c && (Nat.ble c 85 && Nat.ble (12 * a) i)))
theorem r_ksc_x {a t c i : Nat} (ht : 1210 * a ≤ t) (h : r_ksc a c i = false) : r_xsc t c i = false := by
  unfold r_ksc at h
  rw [Bool.or_eq_false_iff] at h
  exact r_xsc_s ht h.1
theorem r_ksc_no {a c i : Nat} (hx : r_xsc (1210 * a) c i = false) (h : c < 79 ∨ 85 < c) : r_ksc a c i = false := by
  unfold r_ksc
  rw [hx, yt_bf (show ¬ c = 79 by omega), yt_bf (show ¬ c = 80 by omega), Bool.false_or]
  cases hh : (Nat.ble 81 c && (Nat.ble c 85 && Nat.ble (12 * a) i)) with
  | false => simp
  | true =>
    simp only [Bool.and_eq_true, Nat.ble_eq] at hh
    omega
theorem r_ksc_a {a c : Nat} (h : c = 79 ∨ c = 80) : r_ksc a c a = true := by
  unfold r_ksc
  rw [show Nat.beq a a = true from Nat.beq_refl a]
  rcases h with h | h <;> subst h <;> simp [r_xsc]
theorem r_ksc_k {a c i : Nat} (h : 81 ≤ c ∧ c ≤ 85) (hi : 12 * a ≤ i) : r_ksc a c i = true := by
  unfold r_ksc
  rw [Nat.ble_eq.mpr h.1, Nat.ble_eq.mpr h.2, Nat.ble_eq.mpr hi]
  simp
theorem r_bsc_k {a t i2 c i : Nat} (ht : 1210 * a ≤ t) (hi : 12 * a ≤ i2) (h : r_ksc a c i = false) : r_bsc t i2 c i = false := by
  have hx := r_ksc_x ht h
  unfold r_ksc at h
  rw [Bool.or_eq_false_iff, Bool.or_eq_false_iff] at h
  unfold r_bsc
  rw [hx, Bool.false_or]
  cases hh : (Nat.beq i i2 && (Nat.ble 82 c && Nat.ble c 85)) with
  | false => rfl
  | true =>
    simp only [Bool.and_eq_true, Nat.beq_eq, Nat.ble_eq] at hh
    have h2 := h.2.2
    have : (Nat.ble 81 c && (Nat.ble c 85 && Nat.ble (12 * a) i)) = true := by
      simp only [Bool.and_eq_true, Nat.ble_eq]
      omega
    rw [this] at h2
    cases h2
theorem r_bsc_no {t i2 c i : Nat} (h : (60 ≤ c ∧ c ≤ 81) ∨ (82 ≤ c ∧ c ≤ 85 ∧ i ≠ i2)) : r_bsc t i2 c i = false := by
  unfold r_bsc
  rw [r_xsc_r (by omega), Bool.false_or]
  cases hh : (Nat.beq i i2 && (Nat.ble 82 c && Nat.ble c 85)) with
  | false => rfl
  | true =>
    simp only [Bool.and_eq_true, Nat.beq_eq, Nat.ble_eq] at hh
    omega
theorem r_bsc_lo {t i2 j : Nat} (h : j < t) : r_bsc t i2 86 j = false := by
  unfold r_bsc
  rw [r_xsc_lo h, show Nat.ble 86 85 = false from rfl]
  simp
/-- these clauses have been read; ts are to come -/
def r_kt (tb : Nat → Nat) (n a : Nat) (l : List yx_K) (t : Nat) (ts : yt_L) (I0 : a_F) (J0 : Nat → Nat → Int64) (I : a_F) (J : Nat → Nat → Int64) : Prop := (q_F (r_ksc a) I0 I ∧ r_nj J0 J) ∧ r_xA tb n ts I J ∧ (I 59 21 = 0 ∧ I 59 22 = I0 59 22) ∧ (I 79 a = nI l.length ∧ I 80 a = yx_stk l 0) ∧ I 59 33 = nI t ∧ (1210 * a ≤ t ∧ t + 2 * ts.length ≤ 1210 * a + 1000 ∧ ts.length ≤ 500) ∧ ∀ c k, l[c]? = some k → r_kT I a t (12 * a + c) k
/-- a fault has been found -/
def r_ke (a : Nat) (e : Nat × Nat) (I0 : a_F) (J0 : Nat → Nat → Int64) (I : a_F) (J : Nat → Nat → Int64) : Prop := (q_F (r_ksc a) I0 I ∧ r_nj J0 J) ∧ r_fe e I
theorem yt_kno_3 {t : yt_T} : (yt_kno t = 0 ↔ t = (3, 0)) ∧ (yt_kno t = 1 ↔ t = (3, 1)) ∧ (yt_kno t = 4 ↔ t = (3, 2)) := ⟨yt_kno_eq (w := 0) (by decide) (r := 0) rfl, yt_kno_eq (w := 1) (by decide) (r := 1) rfl, yt_kno_eq (w := 2) (by decide) (r := 4) rfl⟩
section Rpar6
variable {β : Bool} {xs : Nat → Int32} {L : Nat} {G : am_G} {I : a_F} {J : Nat → Nat → Int64} {d : Nat} {tb : Nat → Nat} {n : Nat} {ts : yt_L} {I0 : a_F} {J0 : Nat → Nat → Int64}
/-- clause() -/
theorem p_clause {a t : Nat} {ok : Nat → Bool} {l : List yx_K} (hR : q_RT G) (ha : a < 12) (h32 : I0 59 32 = nI a) (hok : ∀ v, v < 100000 → (ok v = true ↔ v < a ∧ I0 74 v = I0 74 a)) (h : r_kt tb n a l t ts I0 J0 I J) (hl : l.length ≤ 12) : q_W β xs L (d + 6) 135 0 [.ref 59, .int (nI a), .retAddr 0, .retAddr 0] [] (G, I, J) (fun o h' => o = .inl none ∧ ∃ I' J', h' = (G, I', J') ∧ match yx_cl n ok l.length ts with
    | .inl e => r_ke a e I0 J0 I' J'
    | .inr (k, r) => l.length < 12 ∧ ∃ t', r_kt tb n a (l ++ [k]) t' r I0 J0 I' J') := by
  obtain ⟨⟨f0, j0⟩, hA, ⟨g21, g22⟩, ⟨g79, g80⟩, g33, ⟨gt1, gt2, gt3⟩, gk⟩ := h
  have ea : (nI a).toNatClampNeg = a := nI_clamp (by omega)
  have ia : am_is (nI a) 12 = true := am_is_nI ha (by omega)
  generalize hQ : (fun (o : am_O) (h' : am_H) => o = .inl none ∧ ∃ I' J', h' = (G, I', J') ∧ match yx_cl n ok l.length ts with
    | .inl e => r_ke a e I0 J0 I' J'
    | .inr (k, r) => l.length < 12 ∧ ∃ t', r_kt tb n a (l ++ [k]) t' r I0 J0 I' J') = Q
  have err : ∀ (e : Nat × Nat) (I' : a_F) (J' : Nat → Nat → Int64), yx_cl n ok l.length ts = .inl e → q_F (r_ksc a) I0 I' → r_nj J0 J' → r_fe e I' → Q (.inl none) (G, I', J') := fun e I' J' he hf hj hfe => by
    rw [← hQ, he]
    exact ⟨rfl, I', J', rfl, ⟨hf, hj⟩, hfe⟩
  have eq12 : nI l.length = 12 ↔ l.length = 12 := nI_eq (b := 12) (by omega) (by omega)
  obtain ⟨k0, k1, k4⟩ := yt_kno_3 (t := yt_hd ts)
  -- a fault, at 24 and at 40
  have bad40 : ∀ (e : Nat × Nat) (I' : a_F) (w : Int32), yx_cl n ok l.length ts = .inl e → q_F (r_ksc a) I0 I' → r_fe e I' → q_W β xs L (d + 6) 135 40 [.ref 59, .int (nI a), .int w, .retAddr 0] [] (G, I', J) Q := fun e I' w he hf hfe =>
    g_135_40 hR _ _ (q_useI (p_isG0 (β := β) (xs := xs) (L := L) (I := I') (J := J) (d := d) hR hfe.n0) (by omega) ⟨hR, fun q => absurd rfl q, fun _ => err e I' J he hf j0 hfe⟩)
  have bad24 : ∀ (e : Nat × Nat) (I' : a_F) (w : Int32), yx_cl n ok l.length ts = .inl e → q_F (r_ksc a) I0 I' → r_fe e I' → q_W β xs L (d + 6) 135 24 [.ref 59, .int (nI a), .int w, .retAddr 0] [] (G, I', J) Q := fun e I' w he hf hfe => by
    refine g_135_24 hR _ _ ⟨ia, fun _ => bad40 e I' w he hf hfe, fun _ => ?_⟩
    exact q_useF (p_wrong0 (β := β) (xs := xs) (L := L) (I := I') (J := J) (d := d) hR hfe.n0 2) (by omega) (bad40 e I' w he hf hfe)
  refine g_135_0 hR _ (q_useI (p_kno1 (β := β) (xs := xs) (L := L) (d := d) hR hA) (by omega) ?_)
  by_cases hc : (yt_hd ts).1 = 3 ∧ (yt_hd ts).2 ≤ 2
  · obtain ⟨h3, h2⟩ := hc
    have l1 := yt_tl_len (ts := ts) rfl (by rw [h3]; decide)
    have at24 : q_W β xs L (d + 6) 135 24 [.ref 59, .int (nI a), .int (yt_kno (yt_hd ts)), .retAddr 0] [] (G, I, J) Q := by
      refine g_135_24 hR _ _ ?_
      rw [ea, g79, eq12]
      refine ⟨ia, fun hlt => ?_, fun heq => ?_⟩
      · have hlt : l.length < 12 := by omega
        refine g_135_40 hR _ _ (q_useI (p_isG1 (β := β) (xs := xs) (L := L) (d := d) hR g21) (by omega) ⟨hR, fun _ => ?_, fun q => absurd q (by decide)⟩)
        have e12 : (12 * nI a + nI l.length : Int32) = nI (12 * a + l.length) := by rw [show (12 : Int32) = nI 12 from rfl, pk_mul, nI_add]
        have ei : (nI (12 * a + l.length)).toNatClampNeg = 12 * a + l.length := nI_clamp (by omega)
        have ii : am_is (nI (12 * a + l.length)) 144 = true := am_is_nI (by omega) (by omega)
        rw [ea, g79, e12, ei, nI_1]
        refine ⟨ia, ia, ia, ii, ?_⟩
        have ec : yx_cl n ok l.length ts = (match yx_body n ok (yt_hd ts).2 ts.tail with
          | .inl e => .inl e
          | .inr (k, r) => yx_semi n k r) := by
          unfold yx_cl
          rw [if_pos ⟨h3, h2⟩, if_pos hlt]
          rfl
        generalize hwh : yt_kno (yt_hd ts) = wh at k0 k1 k4
        have fB : q_F (r_ksc a) I0 (am_u (am_u I 79 a (nI (l.length + 1))) 81 (12 * a + l.length) wh) := (f0.up _ (r_ksc_a (Or.inl rfl))).up _ (r_ksc_k (by decide) (by omega))
        have hB : r_xA tb n ts (am_u (am_u I 79 a (nI (l.length + 1))) 81 (12 * a + l.length) wh) J := hA.keep (fun i _ _ => by rw [am_u_ne (Or.inl (by decide)), am_u_ne (Or.inl (by decide))]) (by rw [am_u_row _ _ _ _ (by decide), am_u_row _ _ _ _ (by decide)])
        have B79 : am_u (am_u I 79 a (nI (l.length + 1))) 81 (12 * a + l.length) wh 79 a = nI (l.length + 1) := by rw [am_u_ne (Or.inl (by decide)), am_u_same]
        have B81 : am_u (am_u I 79 a (nI (l.length + 1))) 81 (12 * a + l.length) wh 81 (12 * a + l.length) = wh := am_u_same
        have Br : ∀ c i, c ≠ 79 → (c ≠ 81 ∨ i ≠ 12 * a + l.length) → am_u (am_u I 79 a (nI (l.length + 1))) 81 (12 * a + l.length) wh c i = I c i := fun c i q1 q2 => by rw [am_u_ne q2, am_u_ne (Or.inl q1)]
        generalize am_u (am_u I 79 a (nI (l.length + 1))) 81 (12 * a + l.length) wh = IB at fB hB B79 B81 Br ⊢
        refine q_useRv (p_goK (β := β) (xs := xs) (L := L) (d := d) hR hB) (by omega) (fun o h' P => ?_)
        obtain ⟨rfl, I1, J1, rfl, f1, j1, hA1⟩ := P
        have F1 : q_F (r_ksc a) I0 I1 := fB.tr (fun c i hc => f1 c i (r_xsc_n (r_ksc_x (Nat.le_refl _) hc)))
        have a21 : I1 59 21 = 0 := (f1 59 21 rfl).trans ((Br 59 21 (by decide) (Or.inl (by decide))).trans g21)
        have a22 : I1 59 22 = I0 59 22 := (f1 59 22 rfl).trans ((Br 59 22 (by decide) (Or.inl (by decide))).trans g22)
        have a33 : I1 59 33 = nI t := (f1 59 33 rfl).trans ((Br 59 33 (by decide) (Or.inl (by decide))).trans g33)
        have rr : ∀ c i, c ≠ 59 → I1 c i = IB c i := fun c i q => f1 c i (by unfold r_nsc; rw [yt_bf q]; rfl)
        -- the clauses ahead stay
        have keep : ∀ (t' : Nat) (I2 : a_F), t ≤ t' → (∀ c i, 81 ≤ c → c ≤ 85 → i ≠ 12 * a + l.length → I2 c i = I1 c i) → (∀ j, j < t → I2 86 j = I1 86 j) → ∀ c k, l[c]? = some k → c < l.length → r_kT I2 a t' (12 * a + c) k := fun t' I2 q1 q2 q3 c k hck hcl => by
          refine (gk c k hck).keep q1 (fun c' p1 p2 => ?_) (fun j hj => ?_)
          · rw [q2 c' _ p1 p2 (by omega), rr c' _ (by omega), Br c' _ (by omega) (Or.inr (by omega))]
          · rw [q3 j hj, rr 86 j (by decide), Br 86 j (by decide) (Or.inl (by decide))]
        -- behind the body
        have semi : ∀ (k : yx_K) (r : yt_L) (t' : Nat) (i3 : Int32) (I2 : a_F) (J2 : Nat → Nat → Int64), yx_cl n ok l.length ts = yx_semi n k r → r_kt tb n a (l ++ [k]) t' r I0 J0 I2 J2 → q_W β xs L (d + 6) 135 99 [.ref 59, .int (nI a), .int wh, .int i3] [] (G, I2, J2) Q := fun k r t' i3 I2 J2 he hk => by
          obtain ⟨⟨q0, q0'⟩, q1, ⟨q2, q3⟩, ⟨q4, q5⟩, q6, ⟨q7, q8, q9⟩, q10⟩ := hk
          refine g_135_99 hR _ _ _ (q_useI (p_isG1 (β := β) (xs := xs) (L := L) (d := d) hR q2) (by omega) ⟨fun _ => ?_, fun q => absurd q (by decide)⟩)
          refine q_useI (p_isS1 (β := β) (xs := xs) (L := L) (d := d) hR q1 (c := 59) (by decide)) (by omega) ⟨fun z => ?_, fun z => ?_⟩
          · have es : yx_semi n k r = .inl (1, yt_pl n r) := if_neg (a_is_d0.mp z)
            refine q_useV (p_wrongK (β := β) (xs := xs) (L := L) (d := d) hR q1 q2 (k := 1) (by decide)) (by omega) (fun I3 h3 => g_135_128 hR _ _ _ (err (1, yt_pl n r) I3 J2 (he.trans es) (q0.tr (fun c i hc => h3.1 t' c i (r_ksc_x q7 hc))) q0' h3.2.1))
          · have hs := a_is_d1.mp z
            have l2 := yt_tl_len hs (by decide)
            have es : yx_semi n k r = .inr (k, r.tail) := if_pos hs
            refine q_useRv (p_goK (β := β) (xs := xs) (L := L) (d := d) hR q1) (by omega) (fun o h' P => ?_)
            obtain ⟨rfl, I3, J3, rfl, f3, j3, hA3⟩ := P
            refine g_135_128 hR _ _ _ ?_
            have r3 : ∀ c i, c ≠ 59 → I3 c i = I2 c i := fun c i q => f3 c i (by unfold r_nsc; rw [yt_bf q]; rfl)
            rw [← hQ, he, es]
            refine ⟨rfl, I3, J3, rfl, hlt, t', ⟨q0.tr (fun c i hc => f3 c i (r_xsc_n (r_ksc_x (Nat.le_refl _) hc))), q0'.tr j3⟩, hA3, ⟨(f3 59 21 rfl).trans q2, (f3 59 22 rfl).trans q3⟩, ⟨(r3 79 a (by decide)).trans q4, (r3 80 a (by decide)).trans q5⟩, (f3 59 33 rfl).trans q6, ⟨q7, by omega, by omega⟩, fun c k' hck => (q10 c k' hck).keep (Nat.le_refl _) (fun c' p1 p2 => r3 c' _ (by omega)) (fun j _ => r3 86 j (by decide))⟩
        have semiE : ∀ (e : Nat × Nat) (i3 : Int32) (I2 : a_F) (J2 : Nat → Nat → Int64), yx_cl n ok l.length ts = .inl e → q_F (r_ksc a) I0 I2 → r_nj J0 J2 → r_fe e I2 → q_W β xs L (d + 6) 135 99 [.ref 59, .int (nI a), .int wh, .int i3] [] (G, I2, J2) Q := fun e i3 I2 J2 he hf hj hfe =>
          g_135_99 hR _ _ _ (q_useI (p_isG0 (β := β) (xs := xs) (L := L) (I := I2) (J := J2) (d := d) hR hfe.n0) (by omega) ⟨fun q => absurd rfl q, fun _ => err e I2 J2 he hf hj hfe⟩)
        have J01 := j0.tr j1
        refine ⟨fun z => ?_, fun z => ?_⟩
        · have hw2 : (yt_hd ts).2 ≠ 2 := fun q => z (k4.mpr (by rw [← h3, ← q]))
          have how : nI (yt_hd ts).2 = wh := by
            rcases (show (yt_hd ts).2 = 0 ∨ (yt_hd ts).2 = 1 by omega) with q | q
            · rw [q]; exact (k0.mpr (by rw [← h3, ← q])).symm
            · rw [q]; exact (k1.mpr (by rw [← h3, ← q])).symm
          refine q_useRv (p_change (β := β) (xs := xs) (L := L) (d := d) (ok := ok) (a := a) (t := t) (i2 := 12 * a + l.length) (how := (yt_hd ts).2) hR (by omega) (by omega) ha hA1 a21 a33 (by show I1 81 _ = nI (yt_hd ts).2; rw [how, rr 81 _ (by decide)]; exact B81) gt1 (by omega) (by omega)) (by omega) (fun o h' P => ?_)
          obtain ⟨rfl, I2, J2, rfl, j2, f2, P⟩ := P
          have F2 : q_F (r_ksc a) I0 I2 := F1.tr (fun c i hc => f2 c i (r_bsc_k gt1 (by omega) hc))
          cases hx : yx_body n ok (yt_hd ts).2 ts.tail with
          | inl e =>
            rw [hx] at P ec
            exact semiE e _ I2 J2 ec F2 (J01.tr j2) P
          | inr y =>
            obtain ⟨k, r⟩ := y
            rw [hx] at P ec
            obtain ⟨p1, ⟨p2, p3⟩, p4, t', ⟨p5, p6⟩, p7, p8⟩ := P
            have f2' : q_F (r_bsc t (12 * a + l.length)) I1 I2 := f2
            refine semi k r t' _ I2 J2 ec ⟨⟨F2, J01.tr j2⟩, p1, ⟨p2, p3.trans a22⟩, ⟨?_, ?_⟩, p7, ⟨by omega, by omega, ?_⟩, fun c k' hck => ?_⟩
            · rw [f2' 79 a (r_bsc_no (Or.inl (by decide))), rr 79 a (by decide), B79]
              simp
            · rw [f2' 80 a (r_bsc_no (Or.inl (by decide))), rr 80 a (by decide), Br 80 a (by decide) (Or.inl (by decide)), g80, yx_stk_app, if_neg p4]
            · have : r.length ≤ ts.tail.length := by omega
              omega
            · rcases yx_cl_len hck with ⟨q1, q2⟩ | ⟨q1, q2⟩
              · refine keep t' I2 (by omega) (fun c i a1 a2 a3 => ?_) (fun j hj => f2' 86 j (r_bsc_lo hj)) c k' q1 q2
                by_cases e81 : c = 81
                · exact f2' c i (r_bsc_no (Or.inl (by omega)))
                · exact f2' c i (r_bsc_no (Or.inr ⟨by omega, a2, a3⟩))
              · rw [q1, q2]
                exact p8
        · have hw2 : (yt_hd ts).2 = 2 := by
            have := k4.mp z
            rw [this]
          rw [hw2] at ec
          refine q_useRv (p_struck (β := β) (xs := xs) (L := L) (d := d) (ok := ok) (a := a) hR ha ((F1 59 32 (r_ksc_no (r_xsc_59 (Or.inr (Or.inr (Or.inl rfl)))) (Or.inl (by decide)))).trans h32) (fun v hv => by
            have e74 : ∀ i, I1 74 i = I0 74 i := fun i => F1 74 i (r_ksc_no (r_xsc_r (by decide)) (Or.inl (by decide)))
            show ok v = true ↔ v < a ∧ I1 74 v = I1 74 a
            rw [e74, e74]
            exact hok v hv) hA1 a21) (by omega) (fun o h' P => ?_)
          obtain ⟨rfl, I2, J2, rfl, j2, f2, P⟩ := P
          have f2' : ∀ c i, r_xsc t c i = false → (c ≠ 80 ∨ i ≠ a) → I2 c i = I1 c i := fun c i q1 q2 => f2 t c i (by
            show (r_xsc t c i || (Nat.beq c 80 && Nat.beq i a)) = false
            rw [q1, Bool.false_or]
            cases hh : (Nat.beq c 80 && Nat.beq i a) with
            | false => rfl
            | true =>
              simp only [Bool.and_eq_true, Nat.beq_eq] at hh
              rcases q2 with q | q
              · exact absurd hh.1 q
              · exact absurd hh.2 q)
          have F2 : q_F (r_ksc a) I0 I2 := F1.tr (fun c i hc => f2' c i (r_ksc_x gt1 hc) (by
            by_cases q1 : c = 80
            · refine Or.inr (fun q2 => ?_)
              subst q1; subst q2
              rw [r_ksc_a (Or.inr rfl)] at hc
              cases hc
            · exact Or.inl q1))
          cases hx : yx_body n ok 2 ts.tail with
          | inl e =>
            rw [hx] at P ec
            exact semiE e _ I2 J2 ec F2 (J01.tr j2) P
          | inr y =>
            obtain ⟨k, r⟩ := y
            rw [hx] at P ec
            obtain ⟨⟨p1, p2⟩, p3, p4, p5, p6⟩ := P
            have lr : r.length + 2 ≤ ts.length := by
              unfold yx_body at hx
              rw [if_pos rfl] at hx
              by_cases q1 : (yt_hd ts.tail).1 = 2
              · rw [if_pos q1] at hx
                by_cases q2 : ok (yt_hd ts.tail).2 = true
                · rw [if_pos q2] at hx
                  rw [← (Prod.mk.inj (Sum.inr.inj hx)).2]
                  have := yt_tl_len (ts := ts.tail) rfl (by rw [q1]; decide)
                  omega
                · rw [if_neg q2] at hx; cases hx
              · rw [if_neg q1] at hx; cases hx
            refine semi k r t _ I2 J2 ec ⟨⟨F2, J01.tr j2⟩, p3, ⟨p4, p5.trans a22⟩, ⟨?_, ?_⟩, p6.trans a33, ⟨gt1, by omega, by omega⟩, fun c k' hck => ?_⟩
            · rw [f2' 79 a (r_xsc_r (by decide)) (Or.inl (by decide)), rr 79 a (by decide), B79]
              simp
            · rw [p2, yx_stk_app, if_pos p1]
              have : I1 80 a = yx_stk l 0 := by rw [rr 80 a (by decide), Br 80 a (by decide) (Or.inl (by decide))]; exact g80
              rw [← this]
            · rcases yx_cl_len hck with ⟨q1, q2⟩ | ⟨q1, q2⟩
              · exact keep t I2 (Nat.le_refl _) (fun c i a1 a2 a3 => f2' c i (r_xsc_r (by omega)) (Or.inl (by omega))) (fun j hj => f2' 86 j (r_xsc_lo hj) (Or.inl (by decide))) c k' q1 q2
              · rw [q1, q2]
                refine Or.inl ⟨p1, ?_⟩
                rw [f2' 81 _ (r_xsc_r (by decide)) (Or.inl (by decide)), rr 81 _ (by decide), B81]
                exact z
      · have ec : yx_cl n ok l.length ts = .inl (2, yt_pl n ts) := by
          unfold yx_cl
          rw [if_pos ⟨h3, h2⟩, if_neg (by omega)]
        exact q_useV (p_wrongK (β := β) (xs := xs) (L := L) (d := d) hR hA g21 (k := 2) (by decide)) (by omega) (fun I1 h1 => bad40 _ I1 _ ec (f0.tr (fun c i hc => h1.1 t c i (r_ksc_x gt1 hc))) h1.2.1)
    refine ⟨fun _ => at24, fun n0 => ⟨fun _ => at24, fun n1 => ⟨fun _ => at24, fun n4 => ?_⟩⟩⟩
    exfalso
    rcases (show (yt_hd ts).2 = 0 ∨ (yt_hd ts).2 = 1 ∨ (yt_hd ts).2 = 2 by omega) with q | q | q
    · exact n0 (k0.mpr (by rw [← h3, ← q]))
    · exact n1 (k1.mpr (by rw [← h3, ← q]))
    · exact n4 (k4.mpr (by rw [← h3, ← q]))
  · have ec : yx_cl n ok l.length ts = .inl (1, yt_pl n ts) := by
      unfold yx_cl
      rw [if_neg hc]
    refine ⟨fun z => absurd ⟨by rw [k0.mp z], by rw [k0.mp z]; decide⟩ hc, fun _ => ⟨fun z => absurd ⟨by rw [k1.mp z], by rw [k1.mp z]; decide⟩ hc, fun _ => ⟨fun z => absurd ⟨by rw [k4.mp z], by rw [k4.mp z]; decide⟩ hc, fun _ => ?_⟩⟩⟩
    exact q_useV (p_wrongK (β := β) (xs := xs) (L := L) (d := d) hR hA g21 (k := 1) (by decide)) (by omega) (fun I1 h1 => bad24 _ I1 _ ec (f0.tr (fun c i hc => h1.1 t c i (r_ksc_x gt1 hc))) h1.2.1)
/-- the loop over clauses -/
theorem p_actL {a : Nat} {i1 i2 i3 i4 : Int32} {ok : Nat → Bool} {Q : am_O → am_H → Prop} (hR : q_RT G) (ha : a < 12) (h32 : I0 59 32 = nI a) (hok : ∀ v, v < 100000 → (ok v = true ↔ v < a ∧ I0 74 v = I0 74 a)) : ∀ m (l : List yx_K) (t : Nat) (ts : yt_L) (I : a_F) (J : Nat → Nat → Int64), l.length + m = 13 → l.length ≤ 12 → r_kt tb n a l t ts I0 J0 I J →
    (∀ e I' J', yx_cls n ok m l.length ts = .inl e → r_ke a e I0 J0 I' J' → q_W β xs L (d + 7) 138 159 [.ref 59, .int i1, .int i2, .int i3, .int i4, .int (nI a)] [] (G, I', J') Q) →
    (∀ l' t' r I' J', yx_cls n ok m l.length ts = .inr l' → (l ++ l').length ≤ 12 → r_kt tb n a (l ++ l') t' r I0 J0 I' J' → q_W β xs L (d + 7) 138 159 [.ref 59, .int i1, .int i2, .int i3, .int i4, .int (nI a)] [] (G, I', J') Q) →
    q_W β xs L (d + 7) 138 136 [.ref 59, .int i1, .int i2, .int i3, .int i4, .int (nI a)] [] (G, I, J) Q
  | 0, l, t, ts, I, J, hl, hl2, h, hE, hG => by omega
  | m + 1, l, t, ts, I, J, hl, hl2, h, hE, hG => by
    have ec : yx_cls n ok (m + 1) l.length ts = if (yt_hd ts).1 = 0 then .inr [] else match yx_cl n ok l.length ts with
      | .inl e => .inl e
      | .inr (k, r) => match yx_cls n ok m (l.length + 1) r with
        | .inl e => .inl e
        | .inr l => .inr (k :: l) := rfl
    have s0 := h.2.1.sort.2.2.1
    refine g_138_136 hR _ _ _ _ _ (q_useI (p_isG1 (β := β) (xs := xs) (L := L) (d := d) hR h.2.2.1.1) (by omega) ⟨fun q => absurd q (by decide), fun _ => ⟨fun z => ?_, fun z => ?_⟩⟩)
    · refine hG [] t ts I J (by rw [ec, if_pos (s0.mp z)]) (by rw [List.append_nil]; exact hl2) (by rw [List.append_nil]; exact h)
    · rw [ec, if_neg (fun q => z (s0.mpr q))] at hE hG
      refine q_useRv (p_clause (β := β) (xs := xs) (L := L) (d := d) (ok := ok) hR ha h32 hok h hl2) (by omega) (fun o h' P => ?_)
      obtain ⟨rfl, I1, J1, rfl, P⟩ := P
      cases hx : yx_cl n ok l.length ts with
      | inl e =>
        rw [hx] at P hE
        have n0 : ¬ I1 59 21 = 0 := P.2.n0
        exact g_138_136 hR _ _ _ _ _ (q_useI (p_isG0 (β := β) (xs := xs) (L := L) (I := I1) (J := J1) (d := d) hR n0) (by omega) ⟨fun _ => hE e I1 J1 rfl P, fun q => absurd rfl q⟩)
      | inr y =>
        obtain ⟨k, r⟩ := y
        rw [hx] at P hE hG
        dsimp only at hE hG
        obtain ⟨h12, t', P⟩ := P
        have el : (l ++ [k]).length = l.length + 1 := by simp
        refine p_actL hR ha h32 hok m (l ++ [k]) t' r I1 J1 (by omega) (by omega) P (fun e I' J' he hk => hE e I' J' ?_ hk) (fun l' t2 r2 I' J' he hl' hk => ?_)
        · rw [el] at he
          rw [he]
        · rw [el] at he
          have ea : l ++ [k] ++ l' = l ++ (k :: l') := by simp
          rw [ea] at hk hl'
          exact hG (k :: l') t2 r2 I' J' (by rw [he]) hl' hk
end Rpar6

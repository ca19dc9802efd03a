/-! ===== act() of the reference ===== -/
theorem yx_cls_len {n : Nat} {ok : Nat → Bool} : ∀ m cnt ts l, cnt + m = 13 → cnt ≤ 12 → yx_cls n ok m cnt ts = .inr l → cnt + l.length ≤ 12
  | 0, cnt, ts, l, h, h2, _ => by omega
  | m + 1, cnt, ts, l, h, h2, e => by
    have ec : yx_cls n ok (m + 1) cnt ts = if (yt_hd ts).1 = 0 then .inr [] else match yx_cl n ok cnt ts with
      | .inl e => .inl e
      | .inr (k, r) => match yx_cls n ok m (cnt + 1) r with
        | .inl e => .inl e
        | .inr l => .inr (k :: l) := rfl
    rw [ec] at e
    by_cases h0 : (yt_hd ts).1 = 0
    · rw [if_pos h0] at e
      rw [← Sum.inr.inj e]
      exact h2
    · rw [if_neg h0] at e
      cases hx : yx_cl n ok cnt ts with
      | inl z => rw [hx] at e; cases e
      | inr z =>
        obtain ⟨k, r⟩ := z
        rw [hx] at e
        dsimp only at e
        have hc : cnt < 12 := by
          unfold yx_cl at hx
          by_cases q1 : (yt_hd ts).1 = 3 ∧ (yt_hd ts).2 ≤ 2
          · rw [if_pos q1] at hx
            by_cases q2 : cnt < 12
            · exact q2
            · rw [if_neg q2] at hx; cases hx
          · rw [if_neg q1] at hx; cases hx
        cases hy : yx_cls n ok m (cnt + 1) r with
        | inl z => rw [hy] at e; cases e
        | inr l' =>
          rw [hy] at e
          have := yx_cls_len m (cnt + 1) r l' (by omega) (by omega) hy
          rw [← Sum.inr.inj e]
          simp only [List.length_cons]
          omega
/-- cells of the reference that act() changes -/
def r_asc (na c i : Nat) : Bool := (Nat.beq c 59 && (Nat.beq i 0 || (Nat.beq i 2 || (Nat.ble 20 i && Nat.ble i 35)))) || ((Nat.beq i na && (Nat.ble 74 c && Nat.ble c 80)) || ((Nat.ble (12 * na) i && (Nat.ble 81 c && Nat.ble c 85)) || ((Nat.beq c 86 && Nat.ble (1210 * na) i) || (Nat.beq c 87 || Nat.beq c 88))))
theorem r_asc_no {na c i : Nat} (h : (c < 74 ∧ c ≠ 59) ∨ (c = 59 ∧ i ≠ 0 ∧ i ≠ 2 ∧ (i < 20 ∨ 35 < i)) ∨ (74 ≤ c ∧ c ≤ 80 ∧ i ≠ na) ∨ (81 ≤ c ∧ c ≤ 85 ∧ i < 12 * na) ∨ (c = 86 ∧ i < 1210 * na) ∨ 88 < c) : r_asc na c i = false := by
  cases hh : r_asc na c i with
  | false => rfl
  | true =>
    simp only [r_asc, Bool.or_eq_true, Bool.and_eq_true, Nat.beq_eq, Nat.ble_eq] at hh
    omega
theorem r_asc_a {na c : Nat} (h1 : 74 ≤ c) (h2 : c ≤ 80) : r_asc na c na = true := by
  unfold r_asc
  rw [show Nat.beq na na = true from Nat.beq_refl na, Nat.ble_eq.mpr h1, Nat.ble_eq.mpr h2]
  simp
theorem r_asc_k {na c i : Nat} (h : r_asc na c i = false) : r_ksc na c i = false := by
  cases hh : r_ksc na c i with
  | false => rfl
  | true =>
    have : r_asc na c i = true := by
      simp only [r_ksc, r_xsc, Bool.or_eq_true, Bool.and_eq_true, Nat.beq_eq, Nat.ble_eq] at hh
      simp only [r_asc, Bool.or_eq_true, Bool.and_eq_true, Nat.beq_eq, Nat.ble_eq]
      omega
    rw [this] at h
    cases h
theorem r_asc_n {na c i : Nat} (h : r_asc na c i = false) : r_nsc c i = false := r_xsc_n (r_ksc_x (Nat.le_refl _) (r_asc_k h))
/-- the data after act() -/
theorem r_D.k2 {nl nq np nf na na' : Nat} {D D' I I' : a_F} (h : r_D nl nq np nf na D I) (hf : q_F (r_asc na) I I') (hD : ∀ c i, a_row na c i = false → D' c i = D c i) (h32 : I' 59 32 = nI na') (hn : na' = na ∨ (na' = na + 1 ∧ ∀ c i, a_row na c i = true → D' c i = I' c i)) : r_D nl nq np nf na' D' I' := by
  obtain ⟨⟨h1, h2, h3, h4, h5⟩, h6, h7, h8, h9⟩ := h
  have lo : ∀ c i, c < 74 → c ≠ 59 → I' c i = I c i := fun c i a b => hf c i (r_asc_no (Or.inl ⟨a, b⟩))
  have l59 : ∀ i, 3 ≤ i → i < 20 → I' 59 i = I 59 i := fun i a b => hf 59 i (r_asc_no (Or.inr (Or.inl ⟨rfl, by omega, by omega, Or.inl b⟩)))
  have dl : ∀ c i, c < 74 → c ≠ 59 → D' c i = D c i := fun c i a b => hD c i (a_row_no (Or.inl ⟨a, b⟩))
  have old : ∀ a, a < na → I' 74 a = D' 74 a ∧ I' 75 a = D' 75 a ∧ I' 76 a = D' 76 a ∧ I' 77 a = D' 77 a ∧ I' 78 a = D' 78 a ∧ I' 79 a = D' 79 a ∧ I' 80 a = D' 80 a ∧ (∀ c, c < 12 → I' 81 (12 * a + c) = D' 81 (12 * a + c) ∧ I' 82 (12 * a + c) = D' 82 (12 * a + c) ∧ I' 83 (12 * a + c) = D' 83 (12 * a + c) ∧ I' 84 (12 * a + c) = D' 84 (12 * a + c) ∧ I' 85 (12 * a + c) = D' 85 (12 * a + c)) ∧ ∀ i, i < 1210 → I' 86 (1210 * a + i) = D' 86 (1210 * a + i) := fun a ha => by
    have ra : ∀ c, 74 ≤ c → c ≤ 80 → I' c a = I c a ∧ D' c a = D c a := fun c p q => ⟨hf c a (r_asc_no (Or.inr (Or.inr (Or.inl ⟨p, q, by omega⟩)))), hD c a (a_row_no (Or.inr (Or.inr (Or.inl ⟨p, q, by omega⟩))))⟩
    have rk : ∀ c i, 81 ≤ c → c ≤ 85 → i < 12 * na → I' c i = I c i ∧ D' c i = D c i := fun c i p q r => ⟨hf c i (r_asc_no (Or.inr (Or.inr (Or.inr (Or.inl ⟨p, q, r⟩))))), hD c i (a_row_no (Or.inr (Or.inr (Or.inr (Or.inl ⟨p, q, r⟩)))))⟩
    have rc : ∀ i, i < 1210 * na → I' 86 i = I 86 i ∧ D' 86 i = D 86 i := fun i r => ⟨hf 86 i (r_asc_no (Or.inr (Or.inr (Or.inr (Or.inr (Or.inl ⟨rfl, r⟩)))))), hD 86 i (a_row_no (Or.inr (Or.inr (Or.inr (Or.inr ⟨rfl, r⟩)))))⟩
    obtain ⟨b1, b2, b3, b4, b5, b6, b7, b8, b9⟩ := h9 a ha
    refine ⟨?_, ?_, ?_, ?_, ?_, ?_, ?_, fun c hc => ?_, fun i hi => ?_⟩
    · rw [(ra 74 (by decide) (by decide)).1, (ra 74 (by decide) (by decide)).2]; exact b1
    · rw [(ra 75 (by decide) (by decide)).1, (ra 75 (by decide) (by decide)).2]; exact b2
    · rw [(ra 76 (by decide) (by decide)).1, (ra 76 (by decide) (by decide)).2]; exact b3
    · rw [(ra 77 (by decide) (by decide)).1, (ra 77 (by decide) (by decide)).2]; exact b4
    · rw [(ra 78 (by decide) (by decide)).1, (ra 78 (by decide) (by decide)).2]; exact b5
    · rw [(ra 79 (by decide) (by decide)).1, (ra 79 (by decide) (by decide)).2]; exact b6
    · rw [(ra 80 (by decide) (by decide)).1, (ra 80 (by decide) (by decide)).2]; exact b7
    · have hlt : 12 * a + c < 12 * na := by omega
      rw [(rk 81 _ (by decide) (by decide) hlt).1, (rk 81 _ (by decide) (by decide) hlt).2, (rk 82 _ (by decide) (by decide) hlt).1, (rk 82 _ (by decide) (by decide) hlt).2, (rk 83 _ (by decide) (by decide) hlt).1, (rk 83 _ (by decide) (by decide) hlt).2, (rk 84 _ (by decide) (by decide) hlt).1, (rk 84 _ (by decide) (by decide) hlt).2, (rk 85 _ (by decide) (by decide) hlt).1, (rk 85 _ (by decide) (by decide) hlt).2]
      exact b8 c hc
    · have hlt : 1210 * a + i < 1210 * na := by omega
      rw [(rc _ hlt).1, (rc _ hlt).2]
      exact b9 i hi
  refine ⟨⟨(l59 3 (by decide) (by decide)).trans h1, (l59 4 (by decide) (by decide)).trans h2, (l59 5 (by decide) (by decide)).trans h3, (l59 6 (by decide) (by decide)).trans h4, h32⟩, fun q hq => ?_, fun p hp => ?_, fun f hf2 => ?_, fun a ha => ?_⟩
  · rw [lo 60 q (by decide) (by decide), dl 60 q (by decide) (by decide)]; exact h6 q hq
  · rw [lo 61 p (by decide) (by decide), lo 62 p (by decide) (by decide), lo 63 p (by decide) (by decide), dl 61 p (by decide) (by decide), dl 62 p (by decide) (by decide), dl 63 p (by decide) (by decide)]; exact h7 p hp
  · rw [lo 64 f (by decide) (by decide), lo 65 f (by decide) (by decide), lo 66 f (by decide) (by decide), lo 67 f (by decide) (by decide), lo 68 f (by decide) (by decide), lo 69 f (by decide) (by decide), lo 70 f (by decide) (by decide), dl 64 f (by decide) (by decide), dl 65 f (by decide) (by decide), dl 66 f (by decide) (by decide), dl 67 f (by decide) (by decide), dl 68 f (by decide) (by decide), dl 69 f (by decide) (by decide), dl 70 f (by decide) (by decide)]
    obtain ⟨b1, b2, b3, b4, b5, b6, b7, b8⟩ := h8 f hf2
    exact ⟨b1, b2, b3, b4, b5, b6, b7, fun i hi => by rw [lo 71 _ (by decide) (by decide), dl 71 _ (by decide) (by decide)]; exact b8 i hi⟩
  · rcases hn with hn | ⟨hn, hrow⟩
    · exact old a (by omega)
    · by_cases e : a = na
      · subst e
        have ra : ∀ c, 74 ≤ c → c ≤ 80 → D' c a = I' c a := fun c p q => hrow c a (by
          simp only [a_row, Bool.or_eq_true, Bool.and_eq_true, Nat.ble_eq]
          exact Or.inl ⟨Nat.beq_refl a, p, q⟩)
        have rk : ∀ c i, 81 ≤ c → c ≤ 85 → 12 * a ≤ i → D' c i = I' c i := fun c i p q r => hrow c i (by
          simp only [a_row, Bool.or_eq_true, Bool.and_eq_true, Nat.ble_eq]
          exact Or.inr (Or.inl ⟨r, p, q⟩))
        have rc : ∀ i, 1210 * a ≤ i → D' 86 i = I' 86 i := fun i r => hrow 86 i (by
          simp only [a_row, Bool.or_eq_true, Bool.and_eq_true, Nat.ble_eq]
          exact Or.inr (Or.inr (Or.inl ⟨rfl, r⟩)))
        refine ⟨(ra 74 (by decide) (by decide)).symm, (ra 75 (by decide) (by decide)).symm, (ra 76 (by decide) (by decide)).symm, (ra 77 (by decide) (by decide)).symm, (ra 78 (by decide) (by decide)).symm, (ra 79 (by decide) (by decide)).symm, (ra 80 (by decide) (by decide)).symm, fun c hc => ⟨(rk 81 _ (by decide) (by decide) (by omega)).symm, (rk 82 _ (by decide) (by decide) (by omega)).symm, (rk 83 _ (by decide) (by decide) (by omega)).symm, (rk 84 _ (by decide) (by decide) (by omega)).symm, (rk 85 _ (by decide) (by decide) (by omega)).symm⟩, fun i hi => (rc _ (by omega)).symm⟩
      · exact old a (by omega)
theorem r_exT.to {D D' : a_F} {a t u : Nat} {c : yx_C} (h : r_exT D a t u c) (h86 : ∀ j, 1210 * a ≤ j → D' 86 j = D 86 j) : r_exT D' a t u c := by
  obtain ⟨⟨h1, h2, h3, h4, h5, h6⟩, h7⟩ := h
  exact ⟨⟨h1, r_sp_cong c u (fun i a b => h86 i (by omega)) h2, (h86 _ (by omega)).trans h3, h4, h5, h6⟩, h7⟩
theorem r_kT.to {D D' : a_F} {a t i : Nat} {k : yx_K} (h : r_kT D a t i k) (hc : ∀ c, 81 ≤ c → c ≤ 85 → D' c i = D c i) (h86 : ∀ j, 1210 * a ≤ j → D' 86 j = D 86 j) : r_kT D' a t i k := by
  rcases h with ⟨h1, h2⟩ | ⟨h1, h2, ⟨h3, h4⟩, ⟨h5, h6⟩, ⟨u, h7, h8⟩, h9, h10⟩
  · exact Or.inl ⟨h1, (hc 81 (by decide) (by decide)).trans h2⟩
  · refine Or.inr ⟨h1, (hc 81 (by decide) (by decide)).trans h2, ⟨h3, (hc 82 (by decide) (by decide)).trans h4⟩, ⟨(hc 85 (by decide) (by decide)).trans h5, h6⟩, ⟨u, (hc 83 (by decide) (by decide)).trans h7, h8.to h86⟩, fun z => (hc 84 (by decide) (by decide)).trans (h9 z), fun c2 z => ?_⟩
    obtain ⟨u2, w1, w2⟩ := h10 c2 z
    exact ⟨u2, (hc 84 (by decide) (by decide)).trans w1, w2.to h86⟩
section Act3
variable {β : Bool} {xs : Nat → Int32} {L : Nat} {G : am_G} {I : a_F} {J : Nat → Nat → Int64} {d : Nat}
theorem p_act {v : Nat} {w : w_T} (hr : r_I v w I J) (hw : w_O w) (hR : q_RT G) (x1 x2 x3 x4 : Int32) : q_W β xs L (d + 7) 138 0 [.ref 59, .int x1, .int x2, .int x3, .int x4, .retAddr 0] [] (G, I, J) (fun o h => match (o_act x1 x2 x3 x4 w).2.2 with
    | .inl w' => p_P w' v G I J (o_act x1 x2 x3 x4 w).1 (o_act x1 x2 x3 x4 w).2.1 o h
    | .inr l => (o_act x1 x2 x3 x4 w).1 = 0 ∧ ∃ D', a_new w.2.2.2 D' w.1.2.2.2.2.1 l x1 x3 x4 w.1.2.2.2.2.2.1 ∧ w_O (o_new D' w) ∧ p_P (o_new D' w) v G I J 0 (o_act x1 x2 x3 x4 w).2.1 o h) := by
  obtain ⟨⟨nl, nq, np, nf, na, tn, tp⟩, tb, fp, D⟩ := w
  have hr0 : r_I v ((nl, nq, np, nf, na, tn, tp), tb, fp, D) (am_u I 59 0 0) J := hr.c0 0
  obtain ⟨hD, ⟨h2a, h2b, h2c⟩, h3, ⟨ve, fv, hv1, hv2, hv3, hv4, hv5⟩, h9, h71⟩ := hr
  have hn5 := hw.1.1.2.1
  have hl5 : nl ≤ 5 := hn5.1
  have hna12 : na ≤ 12 := hn5.2.2.2
  have htp : tp ≤ 500 := hw.2.2.2
  have f0 : f_r I (am_u I 59 0 0) := (f_r.rf I).up _ _ (by decide)
  generalize hQ : (fun (o : am_O) (h : am_H) => match (o_act x1 x2 x3 x4 ((nl, nq, np, nf, na, tn, tp), tb, fp, D)).2.2 with
    | .inl w' => p_P w' v G I J (o_act x1 x2 x3 x4 ((nl, nq, np, nf, na, tn, tp), tb, fp, D)).1 (o_act x1 x2 x3 x4 ((nl, nq, np, nf, na, tn, tp), tb, fp, D)).2.1 o h
    | .inr l => (o_act x1 x2 x3 x4 ((nl, nq, np, nf, na, tn, tp), tb, fp, D)).1 = 0 ∧ ∃ D', a_new D D' na l x1 x3 x4 tn ∧ w_O (o_new D' ((nl, nq, np, nf, na, tn, tp), tb, fp, D)) ∧ p_P (o_new D' ((nl, nq, np, nf, na, tn, tp), tb, fp, D)) v G I J 0 (o_act x1 x2 x3 x4 ((nl, nq, np, nf, na, tn, tp), tb, fp, D)).2.1 o h) = Q
  have out1 : ∀ (t : Nat) (val : Int32) (w' : w_T), o_act x1 x2 x3 x4 ((nl, nq, np, nf, na, tn, tp), tb, fp, D) = (t, val, .inl w') → ∀ o h, p_P w' v G I J t val o h → Q o h := fun t val w' he o h hk => by
    rw [← hQ, he]
    exact hk
  show q_W β xs L (d + 7) 138 0 [.ref 59, .int x1, .int x2, .int x3, .int x4, .retAddr 0] [] (G, I, J) Q
  have e59 : am_u I 59 0 0 59 0 = 0 := am_u_same
  refine g_138_0 hR _ _ _ _ ?_
  refine r_isLand (I := am_u I 59 0 0) (d := d + 5) (nl := nl) hR hD.1.1 x1 e59 (fun b1 => ⟨fun q => absurd q (by decide), fun _ => ?_⟩) (fun b1 => ⟨fun _ => ?_, fun q => absurd rfl q⟩)
  · have hn1 : ¬ a_lt x1 nl = false := by rw [b1]; decide
    have e20 : am_u I 59 0 0 59 20 = nI tp := (am_u_ne (Or.inr (by decide))).trans h2b
    have fail2 : a_ev x2 tp = false → ∀ b : Bool, b = false → q_W β xs L (d + 7) 138 31 [.ref 59, .int x1, .int x2, .int x3, .int x4, .retAddr 0] [.int (a_is b), .ref 59] (G, am_u I 59 0 0, J) Q := fun b2 b hb => by
      subst hb
      refine g_138_31 hR _ _ _ _ _ (q_right (d := d) hR false e59 (by decide) (by omega) (fun q => by cases q) (fun _ => ⟨fun q => absurd rfl q, fun _ => g_138_38 hR _ _ _ _ ?_⟩))
      exact out1 2 0 _ ((if_neg hn1).trans (if_pos b2)) _ _ (p_bad f0 hr0 (by decide) _ _)
    rw [e20]
    refine ⟨fun z => g_138_30 hR _ _ _ _ (fail2 (by simp [a_ev, z]) false rfl), fun z => ⟨fun y => g_138_30 hR _ _ _ _ (fail2 (by simp [a_ev, y]) false rfl), fun y => ?_⟩⟩
    have b2 : a_ev x2 tp = true := by simp [a_ev, z, y]
    have hn2 : ¬ a_ev x2 tp = false := by rw [b2]; decide
    obtain ⟨n, hn, rfl⟩ := a_ev_of (by omega) b2
    refine g_138_31 hR _ _ _ _ _ (q_right (d := d) hR true e59 (by decide) (by omega) (fun _ => ⟨fun _ => ?_, fun q => absurd q (by decide)⟩) (fun q => by cases q))
    have e32 : am_u I 59 0 0 59 32 = nI na := (am_u_ne (Or.inr (by decide))).trans hD.1.2.2.2.2
    have eq12 : nI na = 12 ↔ na = 12 := nI_eq (b := 12) (by omega) (by omega)
    rw [e32, eq12]
    have F1 : q_F (r_asc na) I (am_u (am_u (am_u (am_u I 59 0 0) 59 20 0) 59 22 (-1)) 59 21 0) := ((((q_F.rf _ I).up _ rfl).up _ rfl).up _ rfl).up _ rfl
    have z0 : am_u (am_u (am_u (am_u I 59 0 0) 59 20 0) 59 22 (-1)) 59 21 0 59 0 = 0 := by simp [am_u]
    have z1 : am_u (am_u (am_u (am_u I 59 0 0) 59 20 0) 59 22 (-1)) 59 21 0 59 1 = nI tn := by simp [am_u]; exact h2a
    have z2 : am_u (am_u (am_u (am_u I 59 0 0) 59 20 0) 59 22 (-1)) 59 21 0 59 2 = nI ve := by simp [am_u]; exact hv2
    have z20 : am_u (am_u (am_u (am_u I 59 0 0) 59 20 0) 59 22 (-1)) 59 21 0 59 20 = nI 0 := by simp [am_u]; rfl
    have z21 : am_u (am_u (am_u (am_u I 59 0 0) 59 20 0) 59 22 (-1)) 59 21 0 59 21 = 0 := by simp [am_u]
    have z22 : am_u (am_u (am_u (am_u I 59 0 0) 59 20 0) 59 22 (-1)) 59 21 0 59 22 = -1 := by simp [am_u]
    have z32 : am_u (am_u (am_u (am_u I 59 0 0) 59 20 0) 59 22 (-1)) 59 21 0 59 32 = nI na := by simp [am_u]; exact hD.1.2.2.2.2
    have zr : ∀ c, c ≠ 59 → am_u (am_u (am_u (am_u I 59 0 0) 59 20 0) 59 22 (-1)) 59 21 0 c = I c := fun c hc => by
      rw [am_u_row _ _ _ _ hc, am_u_row _ _ _ _ hc, am_u_row _ _ _ _ hc, am_u_row _ _ _ _ hc]
    generalize am_u (am_u (am_u (am_u I 59 0 0) 59 20 0) 59 22 (-1)) 59 21 0 = I1 at F1 z0 z1 z2 z20 z21 z22 z32 zr ⊢
    -- the world where no act comes
    have stand : ∀ (I' : a_F) (J' : Nat → Nat → Int64) (fp' val : Int32), q_F (r_asc na) I I' → r_nj J J' → I' 59 0 = 0 → I' 59 2 = nI ve → I' 59 20 = nI 0 → I' 59 22 = fp' → I' 59 32 = nI na → p_P ((nl, nq, np, nf, na, tn, 0), tb, fp', D) v G I J 0 val (.inl (some (.int val))) (G, I', J') := fun I' J' fp' val hf hj k0 k2 k20 k22 k32 => by
      refine ⟨val, I', J', rfl, fun _ => rfl, rfl, fun c hc => funext fun i => hf c i (r_asc_no ?_), fun c hc => funext fun i => hj c i (by omega), k0, ?_⟩
      · omega
      · show r_inv (v + 1) nl nq np nf na tn 0 tb fp' D I' J'
        refine ⟨hD.k2 hf (fun _ _ _ => rfl) k32 (Or.inl rfl), ⟨(hf 59 1 (r_asc_no (Or.inr (Or.inl ⟨rfl, by decide, by decide, Or.inl (by decide)⟩)))).trans h2a, k20, k22⟩, fun i hi => absurd hi (Nat.not_lt_zero i), ⟨ve, fv, by omega, k2, (hf 59 88 (r_asc_no (Or.inr (Or.inl ⟨rfl, by decide, by decide, Or.inr (by decide)⟩)))).trans hv3, hv4, fun q => (hv5 q).keep (hf 59 89 (r_asc_no (Or.inr (Or.inl ⟨rfl, by decide, by decide, Or.inr (by decide)⟩)))) (hf 59 90 (r_asc_no (Or.inr (Or.inl ⟨rfl, by decide, by decide, Or.inr (by decide)⟩)))) (funext fun i => hf 115 i (r_asc_no (Or.inr (Or.inr (Or.inr (Or.inr (Or.inr (by decide))))))))⟩, fun i hi => (hj 73 i (by omega)).trans (h9 i hi), fun i hi => (hf 71 i (r_asc_no (Or.inl ⟨by decide, by decide⟩))).trans (h71 i hi)⟩
    have ref : (na = 12 ∨ a_dy x3 = false ∨ a_dy x4 = false) → q_W β xs L (d + 7) 138 79 [.ref 59, .int x1, .int (nI n), .int x3, .int x4, .retAddr 0] [] (G, I1, J) Q := fun hq =>
      g_138_79 hR _ _ _ _ (out1 0 (-9) _ ((if_neg hn1).trans ((if_neg hn2).trans (if_pos hq))) _ _ (stand I1 J (-1) (-9) F1 (r_nj.rf J) z0 z2 z20 z22 z32))
    refine ⟨fun q => ref (Or.inl q), fun hlt12 => ?_⟩
    refine q_isDay (d := d) hR x3 (by omega) ⟨fun q => ref (Or.inr (Or.inl (a_is_0.mp q))), fun b3 => ?_⟩
    refine q_isDay (d := d) hR x4 (by omega) ⟨hR, fun b4 => ?_, fun q => ref (Or.inr (Or.inr (a_is_0.mp q)))⟩
    have hlt : na < 12 := by omega
    have hno : ¬ (na = 12 ∨ a_dy x3 = false ∨ a_dy x4 = false) := by
      rintro (q | q | q)
      · omega
      · rw [a_is_n0.mp b3] at q; cases q
      · rw [a_is_n0.mp b4] at q; cases q
    have en : a_ix (nI n) = n := nI_clamp (by omega)
    have eo : o_act x1 (nI n) x3 x4 ((nl, nq, np, nf, na, tn, tp), tb, fp, D) = (match yx_cls n (a_okv D na x1) 13 0 (yt_ts tb n 0) with
      | .inl e => (0, -1 - nI e.1, .inl ((nl, nq, np, nf, na, tn, 0), tb, nI e.2, D))
      | .inr l => (0, nI na, .inr l)) := by
      refine (if_neg hn1).trans ((if_neg hn2).trans ((if_neg hno).trans ?_))
      rw [en]
      rfl
    have ina : am_is (nI na) 12 = true := am_is_nI hlt (by omega)
    have ena : (nI na).toNatClampNeg = na := nI_clamp (by omega)
    have e1210 : (1210 * nI na : Int32) = nI (1210 * na) := by rw [show (1210 : Int32) = nI 1210 from rfl, pk_mul]
    rw [z32, ena, e1210]
    refine ⟨ina, ina, ina, ?_⟩
    have F2 : q_F (r_asc na) I (am_u (am_u (am_u (am_u (am_u (am_u I1 59 23 (nI n)) 59 24 0) 59 33 (nI (1210 * na))) 74 na x1) 79 na 0) 80 na 0) := (((((F1.up _ rfl).up _ rfl).up _ rfl).up _ (r_asc_a (by decide) (by decide))).up _ (r_asc_a (by decide) (by decide))).up _ (r_asc_a (by decide) (by decide))
    have y0 : am_u (am_u (am_u (am_u (am_u (am_u I1 59 23 (nI n)) 59 24 0) 59 33 (nI (1210 * na))) 74 na x1) 79 na 0) 80 na 0 59 0 = 0 := by simp [am_u]; exact z0
    have y1 : am_u (am_u (am_u (am_u (am_u (am_u I1 59 23 (nI n)) 59 24 0) 59 33 (nI (1210 * na))) 74 na x1) 79 na 0) 80 na 0 59 1 = nI tn := by simp [am_u]; exact z1
    have y2 : am_u (am_u (am_u (am_u (am_u (am_u I1 59 23 (nI n)) 59 24 0) 59 33 (nI (1210 * na))) 74 na x1) 79 na 0) 80 na 0 59 2 = nI ve := by simp [am_u]; exact z2
    have y20 : am_u (am_u (am_u (am_u (am_u (am_u I1 59 23 (nI n)) 59 24 0) 59 33 (nI (1210 * na))) 74 na x1) 79 na 0) 80 na 0 59 20 = nI 0 := by simp [am_u]; exact z20
    have y21 : am_u (am_u (am_u (am_u (am_u (am_u I1 59 23 (nI n)) 59 24 0) 59 33 (nI (1210 * na))) 74 na x1) 79 na 0) 80 na 0 59 21 = 0 := by simp [am_u]; exact z21
    have y22 : am_u (am_u (am_u (am_u (am_u (am_u I1 59 23 (nI n)) 59 24 0) 59 33 (nI (1210 * na))) 74 na x1) 79 na 0) 80 na 0 59 22 = -1 := by simp [am_u]; exact z22
    have y23 : am_u (am_u (am_u (am_u (am_u (am_u I1 59 23 (nI n)) 59 24 0) 59 33 (nI (1210 * na))) 74 na x1) 79 na 0) 80 na 0 59 23 = nI n := by simp [am_u]
    have y24 : am_u (am_u (am_u (am_u (am_u (am_u I1 59 23 (nI n)) 59 24 0) 59 33 (nI (1210 * na))) 74 na x1) 79 na 0) 80 na 0 59 24 = nI 0 := by simp [am_u]; rfl
    have y32 : am_u (am_u (am_u (am_u (am_u (am_u I1 59 23 (nI n)) 59 24 0) 59 33 (nI (1210 * na))) 74 na x1) 79 na 0) 80 na 0 59 32 = nI na := by simp [am_u]; exact z32
    have y33 : am_u (am_u (am_u (am_u (am_u (am_u I1 59 23 (nI n)) 59 24 0) 59 33 (nI (1210 * na))) 74 na x1) 79 na 0) 80 na 0 59 33 = nI (1210 * na) := by simp [am_u]
    have y74 : am_u (am_u (am_u (am_u (am_u (am_u I1 59 23 (nI n)) 59 24 0) 59 33 (nI (1210 * na))) 74 na x1) 79 na 0) 80 na 0 74 na = x1 := by simp [am_u]
    have y74v : ∀ v, v < na → am_u (am_u (am_u (am_u (am_u (am_u I1 59 23 (nI n)) 59 24 0) 59 33 (nI (1210 * na))) 74 na x1) 79 na 0) 80 na 0 74 v = D 74 v := fun v hv => by
      have : v ≠ na := by omega
      simp [am_u, this]
      rw [zr 74 (by decide)]
      exact (hD.2.2.2.2 v hv).1
    have y79 : am_u (am_u (am_u (am_u (am_u (am_u I1 59 23 (nI n)) 59 24 0) 59 33 (nI (1210 * na))) 74 na x1) 79 na 0) 80 na 0 79 na = 0 := by simp [am_u]
    have y80 : am_u (am_u (am_u (am_u (am_u (am_u I1 59 23 (nI n)) 59 24 0) 59 33 (nI (1210 * na))) 74 na x1) 79 na 0) 80 na 0 80 na = 0 := by simp [am_u]
    have y72 : am_u (am_u (am_u (am_u (am_u (am_u I1 59 23 (nI n)) 59 24 0) 59 33 (nI (1210 * na))) 74 na x1) 79 na 0) 80 na 0 72 = I 72 := by
      rw [am_u_row _ _ _ _ (by decide), am_u_row _ _ _ _ (by decide), am_u_row _ _ _ _ (by decide), am_u_row _ _ _ _ (by decide), am_u_row _ _ _ _ (by decide), am_u_row _ _ _ _ (by decide)]
      exact zr 72 (by decide)
    generalize am_u (am_u (am_u (am_u (am_u (am_u I1 59 23 (nI n)) 59 24 0) 59 33 (nI (1210 * na))) 74 na x1) 79 na 0) 80 na 0 = I2 at F2 y0 y1 y2 y20 y21 y22 y23 y24 y32 y33 y74 y74v y79 y80 y72 ⊢
    have tx : r_tx tb n I2 := ⟨y23, by omega, fun i hi => by rw [y72]; exact h3 i (by show i < tp; omega)⟩
    refine q_useRv (p_goes (β := β) (xs := xs) (L := L) (d := d) (J := J) hR tx (Nat.zero_le _) y24) (by omega) (fun o h' P => ?_)
    obtain ⟨rfl, I3, J3, rfl, f3, j3, t3⟩ := P
    have hlen := yt_ts_len (tb := tb) (n := n) (i := 0)
    have hk : r_kt tb n na [] (1210 * na) (yt_ts tb n 0) I2 J I3 J3 := ⟨⟨fun c i hc => f3 c i (r_xsc_n (r_ksc_x (Nat.le_refl _) hc)), j3⟩, ⟨tx.F f3, t3, yt_ts_ok, fun i hi => (j3 73 i (by omega)).trans (h9 i hi)⟩, ⟨(f3 59 21 rfl).trans y21, f3 59 22 rfl⟩, ⟨(f3 79 na rfl).trans y79, (f3 80 na rfl).trans y80⟩, (f3 59 33 rfl).trans y33, ⟨Nat.le_refl _, by omega, by omega⟩, fun c k hc => by simp at hc⟩
    have hok : ∀ v, v < 100000 → (a_okv D na x1 v = true ↔ v < na ∧ I2 74 v = I2 74 na) := fun v hv => by
      unfold a_okv
      rw [decide_eq_true_iff, y74]
      constructor
      · rintro ⟨q1, q2⟩
        exact ⟨q1, by rw [y74v v q1]; exact q2⟩
      · rintro ⟨q1, q2⟩
        rw [y74v v q1] at q2
        exact ⟨q1, q2⟩
    have kf : ∀ I' : a_F, q_F (r_ksc na) I2 I' → q_F (r_asc na) I I' ∧ I' 59 0 = 0 ∧ I' 59 1 = nI tn ∧ I' 59 2 = nI ve ∧ I' 59 20 = nI 0 ∧ I' 59 32 = nI na ∧ I' 74 na = x1 := fun I' hf => by
      have k59 : ∀ i, i < 21 ∨ i = 32 → I' 59 i = I2 59 i := fun i hi => hf 59 i (r_ksc_no (r_xsc_59 (by omega)) (Or.inl (by decide)))
      exact ⟨F2.tr (fun c i hc => hf c i (r_asc_k hc)), (k59 0 (by decide)).trans y0, (k59 1 (by decide)).trans y1, (k59 2 (by decide)).trans y2, (k59 20 (by decide)).trans y20, (k59 32 (by decide)).trans y32, (hf 74 na (r_ksc_no (r_xsc_r (by decide)) (Or.inl (by decide)))).trans y74⟩
    refine p_actL (d := d) hR hlt y32 hok 13 [] (1210 * na) (yt_ts tb n 0) I3 J3 rfl (by decide) hk (fun e I4 J4 he hke => ?_) (fun l t' r I4 J4 he hl12 hkt => ?_)
    · have he' : yx_cls n (a_okv D na x1) 13 0 (yt_ts tb n 0) = .inl e := he
      rw [he'] at eo
      obtain ⟨⟨q1, q2⟩, q3⟩ := hke
      obtain ⟨k1, k2, k3, k4, k5, k6, k7⟩ := kf I4 q1
      refine g_138_159 hR _ _ _ _ _ (q_useI (p_isG0 (β := β) (xs := xs) (L := L) (I := I4) (J := J4) (d := d) hR q3.n0) (by omega) ⟨hR, fun q => absurd rfl q, fun _ => ?_⟩)
      rw [q3.1.1]
      exact out1 0 (-1 - nI e.1) _ eo _ _ (stand I4 J4 _ _ k1 q2 k2 k4 k5 q3.2 k6)
    · have he' : yx_cls n (a_okv D na x1) 13 0 (yt_ts tb n 0) = .inr l := he
      rw [he'] at eo
      rw [List.nil_append] at hkt hl12
      obtain ⟨⟨q1, q2⟩, q3, ⟨q4, q5⟩, ⟨q6, q7⟩, q8, ⟨q9, q10, q11⟩, q12⟩ := hkt
      obtain ⟨k1, k2, k3, k4, k5, k6, k7⟩ := kf I4 q1
      refine g_138_159 hR _ _ _ _ _ (q_useI (p_isG1 (β := β) (xs := xs) (L := L) (d := d) hR q4) (by omega) ⟨hR, fun _ => ⟨ina, ina, ina, ina, ?_⟩, fun q => absurd q (by decide)⟩)
      rw [ena, k3, k4, k6, nI_1, nI_1]
      have F5 : q_F (r_asc na) I (am_u (am_u (am_u (am_u (am_u (am_u I4 75 na x3) 76 na x4) 77 na (nI tn)) 78 na (-1)) 59 32 (nI (na + 1))) 59 2 (nI (ve + 1))) := (((((k1.up _ (r_asc_a (by decide) (by decide))).up _ (r_asc_a (by decide) (by decide))).up _ (r_asc_a (by decide) (by decide))).up _ (r_asc_a (by decide) (by decide))).up _ rfl).up _ rfl
      have v0 : am_u (am_u (am_u (am_u (am_u (am_u I4 75 na x3) 76 na x4) 77 na (nI tn)) 78 na (-1)) 59 32 (nI (na + 1))) 59 2 (nI (ve + 1)) 59 0 = 0 := by simp [am_u]; exact k2
      have v2 : am_u (am_u (am_u (am_u (am_u (am_u I4 75 na x3) 76 na x4) 77 na (nI tn)) 78 na (-1)) 59 32 (nI (na + 1))) 59 2 (nI (ve + 1)) 59 2 = nI (ve + 1) := by simp [am_u]
      have v20 : am_u (am_u (am_u (am_u (am_u (am_u I4 75 na x3) 76 na x4) 77 na (nI tn)) 78 na (-1)) 59 32 (nI (na + 1))) 59 2 (nI (ve + 1)) 59 20 = nI 0 := by simp [am_u]; exact k5
      have v22 : am_u (am_u (am_u (am_u (am_u (am_u I4 75 na x3) 76 na x4) 77 na (nI tn)) 78 na (-1)) 59 32 (nI (na + 1))) 59 2 (nI (ve + 1)) 59 22 = -1 := by simp [am_u]; exact q5.trans y22
      have v32 : am_u (am_u (am_u (am_u (am_u (am_u I4 75 na x3) 76 na x4) 77 na (nI tn)) 78 na (-1)) 59 32 (nI (na + 1))) 59 2 (nI (ve + 1)) 59 32 = nI (na + 1) := by simp [am_u]
      have v74 : am_u (am_u (am_u (am_u (am_u (am_u I4 75 na x3) 76 na x4) 77 na (nI tn)) 78 na (-1)) 59 32 (nI (na + 1))) 59 2 (nI (ve + 1)) 74 na = x1 := by simp [am_u]; exact k7
      have v75 : am_u (am_u (am_u (am_u (am_u (am_u I4 75 na x3) 76 na x4) 77 na (nI tn)) 78 na (-1)) 59 32 (nI (na + 1))) 59 2 (nI (ve + 1)) 75 na = x3 := by simp [am_u]
      have v76 : am_u (am_u (am_u (am_u (am_u (am_u I4 75 na x3) 76 na x4) 77 na (nI tn)) 78 na (-1)) 59 32 (nI (na + 1))) 59 2 (nI (ve + 1)) 76 na = x4 := by simp [am_u]
      have v77 : am_u (am_u (am_u (am_u (am_u (am_u I4 75 na x3) 76 na x4) 77 na (nI tn)) 78 na (-1)) 59 32 (nI (na + 1))) 59 2 (nI (ve + 1)) 77 na = nI tn := by simp [am_u]
      have v78 : am_u (am_u (am_u (am_u (am_u (am_u I4 75 na x3) 76 na x4) 77 na (nI tn)) 78 na (-1)) 59 32 (nI (na + 1))) 59 2 (nI (ve + 1)) 78 na = -1 := by simp [am_u]
      have vr : ∀ c, 79 ≤ c → am_u (am_u (am_u (am_u (am_u (am_u I4 75 na x3) 76 na x4) 77 na (nI tn)) 78 na (-1)) 59 32 (nI (na + 1))) 59 2 (nI (ve + 1)) c = I4 c := fun c hc => by
        rw [am_u_row _ _ _ _ (by omega), am_u_row _ _ _ _ (by omega), am_u_row _ _ _ _ (by omega), am_u_row _ _ _ _ (by omega), am_u_row _ _ _ _ (by omega), am_u_row _ _ _ _ (by omega)]
      generalize am_u (am_u (am_u (am_u (am_u (am_u I4 75 na x3) 76 na x4) 77 na (nI tn)) 78 na (-1)) 59 32 (nI (na + 1))) 59 2 (nI (ve + 1)) = I5 at F5 v0 v2 v20 v22 v32 v74 v75 v76 v77 v78 vr ⊢
      -- the new data
      have hrow : ∀ c i, a_row na c i = true → (fun c i => if a_row na c i = true then I5 c i else D c i : a_F) c i = I5 c i := fun c i h => if_pos h
      have hrow0 : ∀ c i, a_row na c i = false → (fun c i => if a_row na c i = true then I5 c i else D c i : a_F) c i = D c i := fun c i h => if_neg (by rw [h]; decide)
      generalize (fun c i => if a_row na c i = true then I5 c i else D c i : a_F) = D' at hrow hrow0
      have ra : ∀ c, 74 ≤ c → c ≤ 80 → D' c na = I5 c na := fun c p q => hrow c na (by
        simp only [a_row, Bool.or_eq_true, Bool.and_eq_true, Nat.ble_eq]
        exact Or.inl ⟨Nat.beq_refl na, p, q⟩)
      have rk : ∀ c i, 81 ≤ c → c ≤ 85 → 12 * na ≤ i → D' c i = I5 c i := fun c i p q r => hrow c i (by
        simp only [a_row, Bool.or_eq_true, Bool.and_eq_true, Nat.ble_eq]
        exact Or.inr (Or.inl ⟨r, p, q⟩))
      have rc : ∀ i, 1210 * na ≤ i → D' 86 i = I5 86 i := fun i r => hrow 86 i (by
        simp only [a_row, Bool.or_eq_true, Bool.and_eq_true, Nat.ble_eq]
        exact Or.inr (Or.inr (Or.inl ⟨rfl, r⟩)))
      have hnew : a_new D D' na l x1 x3 x4 tn := ⟨hrow0, (hrow 59 32 (by simp [a_row])).trans v32, ⟨(ra 74 (by decide) (by decide)).trans v74, (ra 75 (by decide) (by decide)).trans v75, (ra 76 (by decide) (by decide)).trans v76, (ra 77 (by decide) (by decide)).trans v77, (ra 78 (by decide) (by decide)).trans v78, (ra 79 (by decide) (by decide)).trans (by rw [vr 79 (by decide)]; exact q6), (ra 80 (by decide) (by decide)).trans (by rw [vr 80 (by decide)]; exact q7)⟩, hl12, fun c k hck => ((q12 c k hck).to (D' := D') (fun c' p q => by rw [rk c' _ p q (by omega), vr c' (by omega)]) (fun j hj => by rw [rc j hj, vr 86 (by decide)])).kd⟩
      rw [← hQ, eo]
      refine ⟨rfl, D', hnew, ?_, ?_⟩
      · obtain ⟨w1, w2, w3, w4⟩ := hw
        obtain ⟨l0, hl0, rfl⟩ := a_lt_of (by omega) b1
        obtain ⟨u3, hu3, rfl⟩ := a_dy_of (a_is_n0.mp b3)
        obtain ⟨u4, hu4, rfl⟩ := a_dy_of (a_is_n0.mp b4)
        exact w_act ⟨w1, w2, w3, Nat.zero_le _⟩ hlt ⟨l0, hl0, rfl⟩ ⟨u3, hu3, rfl⟩ ⟨u4, hu4, rfl⟩ hnew
      · refine ⟨nI na, I5, J4, rfl, fun _ => rfl, rfl, fun c hc => funext fun i => F5 c i (r_asc_no (by omega)), fun c hc => funext fun i => q2 c i (by omega), v0, ?_⟩
        show r_inv (v + 1) nl nq np nf (na + 1) tn 0 tb (-1) D' I5 J4
        refine ⟨hD.k2 F5 hrow0 v32 (Or.inr ⟨rfl, hrow⟩), ⟨(F5 59 1 (r_asc_no (Or.inr (Or.inl ⟨rfl, by decide, by decide, Or.inl (by decide)⟩)))).trans h2a, v20, v22⟩, fun i hi => absurd hi (Nat.not_lt_zero i), ⟨ve + 1, fv, by omega, v2, (F5 59 88 (r_asc_no (Or.inr (Or.inl ⟨rfl, by decide, by decide, Or.inr (by decide)⟩)))).trans hv3, by omega, fun q => by omega⟩, fun i hi => (q2 73 i (by omega)).trans (h9 i hi), fun i hi => ?_⟩
        rw [hrow0 71 i (a_row_no (Or.inl ⟨by decide, by decide⟩))]
        exact (F5 71 i (r_asc_no (Or.inl ⟨by decide, by decide⟩))).trans (h71 i hi)
  · exact g_138_38 hR _ _ _ _ (out1 1 0 _ (if_pos b1) _ _ (p_bad f0 hr0 (by decide) _ _))
end Act3

/-! ===== chain, times in the reference ===== -/
section Chain3
variable {β : Bool} {xs : Nat → Int32} {L : Nat} {G : am_G} {I : a_F} {J : Nat → Nat → Int64}
theorem p_chL {d nq n : Nat} {s : a_F} (hR : q_RT G) (hS : r_S nq I s) (hk : a_lk n s) (hn : n ≤ 22400) (i1 i2 i3 x4 i5 i6 : Int32) {Q : am_O → am_H → Prop} : ∀ m c x f, c + m = 40 → a_ir n x → (∀ x', q_W β xs L (d + 1) 179 135 [.ref 59, .int i1, .int i2, .int i3, .int x4, .int i5, .int i6, .int (nI (c + a_links s m x)), .int (a_fnd s x4 m c x f), .int x'] [] (G, I, J) Q) →
    q_W β xs L (d + 1) 179 96 [.ref 59, .int i1, .int i2, .int i3, .int x4, .int i5, .int i6, .int (nI c), .int f, .int x] [] (G, I, J) Q := by
  intro m
  have en : a_ix (s 17 0) = n := by rw [hk.1]; exact nI_clamp (by omega)
  induction m with
  | zero =>
    intro c x f hc hx hQ
    refine g_179_96 hR _ _ _ _ _ _ _ _ _ ⟨fun _ => hQ x, fun _ => ⟨fun _ => hQ x, fun z => ?_⟩⟩
    have := (nI_ltI (b := 40) (by omega) (by omega)).mp z
    omega
  | succ m ih =>
    intro c x f hc hx hQ
    rcases hx with hx | ⟨y, hy, hx⟩
    · subst hx
      refine g_179_96 hR _ _ _ _ _ _ _ _ _ ⟨fun _ => ?_, fun z => absurd rfl z⟩
      have e0 : a_links s (m + 1) (-1) = 0 := if_pos rfl
      have e1 : a_fnd s x4 (m + 1) c (-1) f = f := if_pos rfl
      have := hQ (-1)
      rw [e0, e1] at this
      exact this
    · subst hx
      have hne : ¬ nI y = -1 := nI_m1 (by omega)
      have ey : a_ix (nI y) = y := nI_clamp (by omega)
      have e0 : a_links s (m + 1) (nI y) = a_links s m (s 15 y) + 1 := (if_neg hne).trans (by rw [ey])
      have e1 : a_fnd s x4 (m + 1) c (nI y) f = a_fnd s x4 m (c + 1) (s 15 y) (if nI c = x4 then nI y else f) := (if_neg hne).trans (by rw [ey])
      rw [e0, e1] at hQ
      have at120 : ∀ g : Int32, g = (if nI c = x4 then nI y else f) → q_W β xs L (d + 1) 179 120 [.ref 59, .int i1, .int i2, .int i3, .int x4, .int i5, .int i6, .int (nI c), .int g, .int (nI y)] [] (G, I, J) Q := fun g hg => by
        refine g_179_120 hR _ _ _ _ _ _ _ _ _ ⟨am_is_nI (by omega) (by omega), ?_⟩
        rw [show (nI y).toNatClampNeg = y from ey, nI_1, (hS.2.2.2.2 y (by omega)).2.2.2.2.1, hg]
        refine ih (c + 1) _ _ (by omega) (hk.2.2.1 y hy).1 (fun x' => ?_)
        have := hQ x'
        rw [show c + (a_links s m (s 15 y) + 1) = c + 1 + a_links s m (s 15 y) by omega] at this
        exact this
      exact g_179_96 hR _ _ _ _ _ _ _ _ _ ⟨fun z => absurd z hne, fun _ => ⟨fun z => absurd ((nI_ltI (b := 40) (by omega) (by omega)).mpr (by omega)) z, fun _ => ⟨fun z => at120 _ (by rw [if_neg z]), fun z => at120 _ (by rw [if_pos z])⟩⟩⟩
theorem p_bit01 {d : Nat} (hR : q_RT G) {x : Int32} (hx : x = 0 ∨ x = 1) {Q : am_O → am_H → Prop} (hQ : Q (.inl (some (.int x))) (G, I, J)) : q_W β xs L d 155 0 [.int x] [] (G, I, J) Q := by
  refine g_155_0 hR _ ⟨fun z => g_155_9 hR _ _ ?_, fun z => g_155_9 hR _ _ ?_⟩
  · rw [z] at hQ; exact hQ
  · rcases hx with h | h
    · exact absurd h z
    · rw [h] at hQ; exact hQ
theorem p_chain {d v : Nat} {w : w_T} (hr : r_I v w I J) (hw : w_O w) (hR : q_RT G) (x1 x2 x3 x4 x5 x6 : Int32) : q_W β xs L (d + 9) 179 0 [.ref 59, .int x1, .int x2, .int x3, .int x4, .int x5, .int x6, .retAddr 0, .retAddr 0, .retAddr 0] [] (G, I, J) (p_P w v G I J (o_chain x1 x2 x3 x4 x5 x6 w).1 (o_chain x1 x2 x3 x4 x5 x6 w).2) := by
  obtain ⟨⟨nl, nq, np, nf, na, tn, tp⟩, tb, fp, D⟩ := w
  have hr0 : r_I v ((nl, nq, np, nf, na, tn, tp), tb, fp, D) (am_u I 59 0 0) J := hr.c0 0
  obtain ⟨hD, h2, -⟩ := hr
  have hn5 := hw.1.1.2.1
  have hl5 : nl ≤ 5 := hn5.1
  have hp20 : np ≤ 20 := hn5.2.2.1
  have ht : tn ≤ 999 := hw.2.2.1
  have f0 : f_r I (am_u I 59 0 0) := (f_r.rf I).up _ _ (by decide)
  have at61 : ∀ t : Nat, t ≠ 0 → a_bt (a_lt x5 6 && (a_lt x1 np && (a_lt x2 nl && a_dy x3))) (a_ev x6 tn) = t → q_W β xs L (d + 9) 179 61 [.ref 59, .int x1, .int x2, .int x3, .int x4, .int x5, .int x6, .retAddr 0, .retAddr 0, .retAddr 0] [] (G, am_u (am_u I 59 0 0) 59 0 (nI t), J) (p_P ((nl, nq, np, nf, na, tn, tp), tb, fp, D) v G I J (o_chain x1 x2 x3 x4 x5 x6 ((nl, nq, np, nf, na, tn, tp), tb, fp, D)).1 (o_chain x1 x2 x3 x4 x5 x6 ((nl, nq, np, nf, na, tn, tp), tb, fp, D)).2) := fun t ht0 hto => by
    have ev : (o_chain x1 x2 x3 x4 x5 x6 ((nl, nq, np, nf, na, tn, tp), tb, fp, D)).1 = t := by
      unfold o_chain
      dsimp only
      rw [hto, if_neg ht0]
    rw [ev]
    exact g_179_61 hR _ _ _ _ _ _ (p_bad f0 hr0 ht0 _ _)
  refine g_179_0 hR _ _ _ _ _ _ ?_
  refine r_isPerson (I := am_u I 59 0 0) (d := d + 7) (np := np) hR hD.1.2.2.1 x1 am_u_same (fun b1 => ⟨fun q => absurd q (by decide), fun _ => ?_⟩) (fun b1 => ⟨fun _ => at61 1 (by decide) (a_bt1 (by rw [b1, Bool.false_and, Bool.and_false])), fun q => absurd rfl q⟩)
  refine r_isLand (I := am_u I 59 0 0) (d := d + 7) (nl := nl) hR hD.1.1 x2 am_u_same (fun b2 => ⟨fun q => absurd q (by decide), fun _ => ?_⟩) (fun b2 => ⟨fun _ => at61 1 (by decide) (a_bt1 (by rw [b2, Bool.false_and, Bool.and_false, Bool.and_false])), fun q => absurd rfl q⟩)
  have at45 : ∀ b : Bool, b = (a_dy x3 && a_lt x5 6) → q_W β xs L (d + 9) 179 45 [.ref 59, .int x1, .int x2, .int x3, .int x4, .int x5, .int x6, .retAddr 0, .retAddr 0, .retAddr 0] [.int (a_is b), .ref 59] (G, am_u I 59 0 0, J) (p_P ((nl, nq, np, nf, na, tn, tp), tb, fp, D) v G I J (o_chain x1 x2 x3 x4 x5 x6 ((nl, nq, np, nf, na, tn, tp), tb, fp, D)).1 (o_chain x1 x2 x3 x4 x5 x6 ((nl, nq, np, nf, na, tn, tp), tb, fp, D)).2) := fun b hb => by
    refine g_179_45 hR _ _ _ _ _ _ _ (q_right (d := d + 8) hR b am_u_same (by decide) (Nat.le_refl _) (fun z => ⟨fun q => absurd q (by decide), fun _ => ?_⟩) (fun z => ⟨fun _ => at61 1 (by decide) (a_bt1 ?_), fun q => absurd rfl q⟩))
    · rw [z] at hb
      have hb' := hb.symm
      rw [Bool.and_eq_true] at hb'
      obtain ⟨b3, b5⟩ := hb'
      refine r_isEv (I := am_u I 59 0 0) (d := d + 7) (tn := tn) hR h2.1 x6 am_u_same (fun b4 => ⟨fun _ => ?_, fun q => absurd q (by decide)⟩) (fun b4 => ⟨fun q => absurd rfl q, fun _ => at61 2 (by decide) (a_bt2 (by rw [b1, b2, b3, b5]; rfl) b4)⟩)
      have ok : a_bt (a_lt x1 np && (a_lt x2 nl && a_dy x3)) (a_ev x6 tn) = 0 := a_bt0 (by rw [b1, b2, b3]; rfl) b4
      obtain ⟨p, l, day, k, hp, hl, hd, hk, rfl, rfl, rfl, rfl⟩ := a_bond_of hp20 hl5 ht ok
      obtain ⟨wh, hwh, rfl⟩ := a_lt_of (by omega) b5
      have bt0 : a_bt (a_lt (nI wh) 6 && (a_lt (nI p) np && (a_lt (nI l) nl && a_dy (nI day)))) (a_ev (nI k) tn) = 0 := by rw [a_bt_and b5]; exact ok
      have ev : o_chain (nI p) (nI l) (nI day) x4 (nI wh) (nI k) ((nl, nq, np, nf, na, tn, tp), tb, fp, D) = (if x4 = -1 then 0 else if a_lt x4 (a_links (a_run D 0 (nI day) (nI k) (-1)) 40 (a_run D 0 (nI day) (nI k) (-1) 8 (5 * p + l))) = false then 1 else 0, if x4 = -1 then nI (a_links (a_run D 0 (nI day) (nI k) (-1)) 40 (a_run D 0 (nI day) (nI k) (-1) 8 (5 * p + l))) else a_tell (a_run D 0 (nI day) (nI k) (-1)) wh (a_ix (a_link (a_run D 0 (nI day) (nI k) (-1)) (a_ix x4) (a_run D 0 (nI day) (nI k) (-1) 8 (5 * p + l))))) := by
        unfold o_chain
        dsimp only
        rw [bt0, if_pos rfl, show a_ix (nI p) = p from nI_clamp (by omega), show a_ix (nI l) = l from nI_clamp (by omega), show a_ix (nI wh) = wh from nI_clamp (by omega)]
      rw [ev]
      obtain ⟨n, hn, lk⟩ := a_lk_run hw.1 0 (nI day) (nI k) (-1)
      refine p_find (d := d + 7) hr0 hw hR k (fun I1 f1 C1 z1 c1 => ?_)
      refine p_runs (d := d) (way := 0) C1 hw hR (by omega) c1 (nI day) (-1) (fun I2 n' f2 C2 z2 c2 S2 ok2 en en2 _ => ⟨hR, ?_⟩)
      have z0 : I2 59 0 = 0 := z2.trans (z1.trans am_u_same)
      have S2' : r_S nq I2 (a_run D 0 (nI day) (nI k) (-1)) := S2
      have lk' : a_lk n (a_run D 0 (nI day) (nI k) (-1)) := lk
      have enn : n = n' := nI_inj2 (by omega) (by omega) (lk'.1.symm.trans en)
      have hn2 : n ≤ 22400 := by omega
      clear S2 lk en ok2
      generalize a_run D 0 (nI day) (nI k) (-1) = s at S2' lk' ⊢
      have e5 : (5 * nI p + nI l : Int32) = nI (5 * p + l) := by rw [show (5 : Int32) = nI 5 from rfl, pk_mul, nI_add]
      rw [e5, show (nI (5 * p + l)).toNatClampNeg = 5 * p + l from nI_clamp (by omega), (S2'.2.2.1 (5 * p + l) (by omega)).1]
      have hin := lk'.2.1 (5 * p + l)
      generalize s 8 (5 * p + l) = x0 at hin ⊢
      refine ⟨am_is_nI (by omega) (by omega), p_chL (d := d + 8) hR S2' lk' hn2 _ _ _ x4 _ _ 40 0 x0 (-1) rfl hin (fun x' => ?_)⟩
      rw [Nat.zero_add]
      have hle := a_links_le s 40 x0
      have at161 : ∀ (b : Bool) (f : Int32), ¬ x4 = -1 → b = a_lt x4 (a_links s 40 x0) → (b = true → f = a_link s (a_ix x4) x0) → q_W β xs L (d + 9) 179 161 [.ref 59, .int (nI p), .int (nI l), .int (nI day), .int x4, .int (nI wh), .int (nI k), .int (nI (a_links s 40 x0)), .int f, .int x'] [.int (a_is b), .ref 59] (G, I2, J) (p_P ((nl, nq, np, nf, na, tn, tp), tb, fp, D) v G I J (if x4 = -1 then 0 else if a_lt x4 (a_links s 40 x0) = false then 1 else 0) (if x4 = -1 then nI (a_links s 40 x0) else a_tell s wh (a_ix (a_link s (a_ix x4) x0)))) := fun b f h4 hb hf => by
        rw [if_neg h4, if_neg h4]
        refine g_179_161 hR _ _ _ _ _ _ _ _ _ _ (q_right (d := d + 8) hR b z0 (by decide) (Nat.le_refl _) (fun z => ⟨fun _ => ?_, fun q => absurd q (by decide)⟩) (fun z => ⟨fun q => absurd rfl q, fun _ => ?_⟩))
        · have b4 := hb.symm.trans z
          have hf' := hf z
          obtain ⟨i, hi, rfl⟩ := a_lt_of (by omega) b4
          rw [b4, if_neg (by decide)]
          rw [show a_ix (nI i) = i from nI_clamp (by omega)] at hf' ⊢
          obtain ⟨m, hm, em⟩ := a_link_in lk' (by omega) i 40 x0 hin hi
          rw [em] at hf' ⊢
          rw [show a_ix (nI m) = m from nI_clamp (by omega)]
          subst hf'
          have ecl : (nI m).toNatClampNeg = m := nI_clamp (by omega)
          have en : a_ix (s 17 0) = n := by rw [lk'.1]; exact nI_clamp (by omega)
          obtain ⟨r1, r2, r3, r4, r5, r6⟩ := S2'.2.2.2.2 m (by omega)
          have im : am_is (nI m) 23000 = true := am_is_nI (by omega) (by omega)
          have fin : ∀ y : Int32, y = a_tell s wh m → p_P ((nl, nq, np, nf, na, tn, tp), tb, fp, D) v G I J 0 (a_tell s wh m) (.inl (some (.int y))) (G, I2, J) := fun y hy => by
            rw [hy]
            exact p_good ((f0.tr f1).tr f2) C2 z0 _
          have hw6 : wh = 0 ∨ wh = 1 ∨ wh = 2 ∨ wh = 3 ∨ wh = 4 ∨ wh = 5 := by omega
          rcases hw6 with h | h | h | h | h | h <;> subst h
          · refine ⟨208, by decide, g_179_208 hR _ _ _ _ _ _ _ _ _ ⟨im, ?_⟩⟩
            rw [ecl, r1]; exact fin _ rfl
          · refine ⟨216, by decide, g_179_216 hR _ _ _ _ _ _ _ _ _ ⟨im, ?_⟩⟩
            rw [ecl, r2]; exact fin _ rfl
          · refine ⟨224, by decide, g_179_224 hR _ _ _ _ _ _ _ _ _ ⟨im, by decide, ?_⟩⟩
            rw [ecl, r3]; exact fin _ rfl
          · refine ⟨235, by decide, g_179_235 hR _ _ _ _ _ _ _ _ _ ⟨im, by decide, ?_⟩⟩
            rw [ecl, r3]; exact fin _ rfl
          · refine ⟨246, by decide, g_179_246 hR _ _ _ _ _ _ _ _ _ ⟨im, ?_⟩⟩
            rw [ecl, r4]; exact fin _ rfl
          · refine ⟨254, by decide, g_179_254 hR _ _ _ _ _ _ _ _ _ ⟨im, ?_⟩⟩
            rw [ecl, r6]
            exact p_bit01 hR (lk'.2.2.1 m hm).2 (fin _ rfl)
        · have b4 := hb.symm.trans z
          rw [b4, if_pos rfl]
          exact p_bad ((f0.tr f1).tr f2) C2 (t := 1) (by decide) _ _
      refine g_179_135 hR _ _ _ _ _ _ _ _ _ ⟨fun h4 => ?_, fun h4 => ?_⟩
      · refine ⟨fun z => g_179_160 hR _ _ _ _ _ _ _ _ _ (at161 false _ h4 (by simp [a_lt, z]) (fun q => by cases q)), fun z => ?_⟩
        obtain ⟨i, hi, rfl⟩ := nI_of z
        have lti : a_lt (nI i) (a_links s 40 x0) = decide (i < a_links s 40 x0) := by
          unfold a_lt
          rw [decide_eq_false z, Bool.not_false, Bool.true_and]
          exact decide_eq_decide.mpr (nI_ltI hi (by omega))
        by_cases hil : i < a_links s 40 x0
        · obtain ⟨y1, y2⟩ := a_fnd_yes s hi 40 0 x0 (-1) (by omega) (Nat.zero_le _) (by omega)
          rw [Nat.sub_zero] at y1 y2
          refine ⟨fun q => absurd (y1.symm.trans q) y2, fun _ => at161 true _ h4 (by rw [lti, decide_eq_true hil]) (fun _ => by rw [y1, show a_ix (nI i) = i from nI_clamp hi])⟩
        · have y1 := a_fnd_no s (nI i) 40 0 x0 (-1) (fun i' h1 h2 q => by
            have := nI_inj2 (by omega) hi q
            omega)
          rw [y1]
          exact ⟨fun _ => g_179_160 hR _ _ _ _ _ _ _ _ _ (at161 false _ h4 (by rw [lti, decide_eq_false hil]) (fun q => by cases q)), fun q => absurd rfl q⟩
      · rw [if_pos h4, if_pos h4]
        exact p_good ((f0.tr f1).tr f2) C2 z0 _
    · have hb' := hb.symm.trans z
      rw [Bool.and_eq_false_iff] at hb'
      rcases hb' with h | h
      · rw [h, Bool.and_false, Bool.and_false, Bool.and_false]
      · rw [h, Bool.false_and]
  refine q_isDay (d := d) hR x3 (by omega) ⟨fun u => g_179_44 hR _ _ _ _ _ _ (at45 false (by rw [a_is_0.mp u, Bool.false_and])), fun u => ?_⟩
  have hdy : a_dy x3 = true := by
    cases hh : a_dy x3 with
    | true => rfl
    | false => exact absurd (a_is_0.mpr hh) u
  refine ⟨fun z => g_179_44 hR _ _ _ _ _ _ (at45 false (by simp [a_lt, z])), fun z => ?_⟩
  obtain ⟨i, hi, rfl⟩ := nI_of z
  have g5 : (5 : Int32) < nI i ↔ 5 < i := nI_ltI (a := 5) (by omega) hi
  have l6 : nI i < nI 6 ↔ i < 6 := nI_ltI hi (by omega)
  rw [g5]
  refine ⟨fun y => g_179_44 hR _ _ _ _ _ _ (at45 false ?_), fun y => at45 true ?_⟩
  · unfold a_lt
    rw [decide_eq_false (fun q => by have := l6.mp q; omega : ¬ nI i < nI 6), Bool.and_false, Bool.and_false]
  · unfold a_lt
    rw [hdy, decide_eq_false z, decide_eq_true (l6.mpr (by omega))]
    rfl
theorem p_times {d v : Nat} {w : w_T} (hr : r_I v w I J) (hw : w_O w) (hR : q_RT G) (x1 x2 x3 x4 x5 : Int32) : q_W β xs L (d + 9) 180 0 [.ref 59, .int x1, .int x2, .int x3, .int x4, .int x5] [] (G, I, J) (p_P w v G I J (o_times x1 x2 x3 x4 x5 w).1 (o_times x1 x2 x3 x4 x5 w).2) := by
  obtain ⟨⟨nl, nq, np, nf, na, tn, tp⟩, tb, fp, D⟩ := w
  have hr0 : r_I v ((nl, nq, np, nf, na, tn, tp), tb, fp, D) (am_u I 59 0 0) J := hr.c0 0
  obtain ⟨hD, h2, -⟩ := hr
  have hn5 := hw.1.1.2.1
  have hl5 : nl ≤ 5 := hn5.1
  have hp20 : np ≤ 20 := hn5.2.2.1
  have ht : tn ≤ 999 := hw.2.2.1
  have f0 : f_r I (am_u I 59 0 0) := (f_r.rf I).up _ _ (by decide)
  have at61 : ∀ t : Nat, t ≠ 0 → a_bt (a_lt x4 2 && (a_lt x1 np && (a_lt x2 nl && a_dy x3))) (a_ev x5 tn) = t → q_W β xs L (d + 9) 180 61 [.ref 59, .int x1, .int x2, .int x3, .int x4, .int x5] [] (G, am_u (am_u I 59 0 0) 59 0 (nI t), J) (p_P ((nl, nq, np, nf, na, tn, tp), tb, fp, D) v G I J (o_times x1 x2 x3 x4 x5 ((nl, nq, np, nf, na, tn, tp), tb, fp, D)).1 (o_times x1 x2 x3 x4 x5 ((nl, nq, np, nf, na, tn, tp), tb, fp, D)).2) := fun t ht0 hto => by
    have ev : (o_times x1 x2 x3 x4 x5 ((nl, nq, np, nf, na, tn, tp), tb, fp, D)).1 = t := hto
    rw [ev]
    exact g_180_61 hR _ _ _ _ _ (p_bad f0 hr0 ht0 _ _)
  refine g_180_0 hR _ _ _ _ _ ?_
  refine r_isPerson (I := am_u I 59 0 0) (d := d + 7) (np := np) hR hD.1.2.2.1 x1 am_u_same (fun b1 => ⟨fun q => absurd q (by decide), fun _ => ?_⟩) (fun b1 => ⟨fun _ => at61 1 (by decide) (a_bt1 (by rw [b1, Bool.false_and, Bool.and_false])), fun q => absurd rfl q⟩)
  refine r_isLand (I := am_u I 59 0 0) (d := d + 7) (nl := nl) hR hD.1.1 x2 am_u_same (fun b2 => ⟨fun q => absurd q (by decide), fun _ => ?_⟩) (fun b2 => ⟨fun _ => at61 1 (by decide) (a_bt1 (by rw [b2, Bool.false_and, Bool.and_false, Bool.and_false])), fun q => absurd rfl q⟩)
  have at45 : ∀ b : Bool, b = (a_dy x3 && a_lt x4 2) → q_W β xs L (d + 9) 180 45 [.ref 59, .int x1, .int x2, .int x3, .int x4, .int x5] [.int (a_is b), .ref 59] (G, am_u I 59 0 0, J) (p_P ((nl, nq, np, nf, na, tn, tp), tb, fp, D) v G I J (o_times x1 x2 x3 x4 x5 ((nl, nq, np, nf, na, tn, tp), tb, fp, D)).1 (o_times x1 x2 x3 x4 x5 ((nl, nq, np, nf, na, tn, tp), tb, fp, D)).2) := fun b hb => by
    refine g_180_45 hR _ _ _ _ _ _ (q_right (d := d + 8) hR b am_u_same (by decide) (Nat.le_refl _) (fun z => ⟨fun q => absurd q (by decide), fun _ => ?_⟩) (fun z => ⟨fun _ => at61 1 (by decide) (a_bt1 ?_), fun q => absurd rfl q⟩))
    · rw [z] at hb
      have hb' := hb.symm
      rw [Bool.and_eq_true] at hb'
      obtain ⟨b3, b5⟩ := hb'
      refine r_isEv (I := am_u I 59 0 0) (d := d + 7) (tn := tn) hR h2.1 x5 am_u_same (fun b4 => ⟨fun _ => ?_, fun q => absurd q (by decide)⟩) (fun b4 => ⟨fun q => absurd rfl q, fun _ => at61 2 (by decide) (a_bt2 (by rw [b1, b2, b3, b5]; rfl) b4)⟩)
      have ok : a_bt (a_lt x1 np && (a_lt x2 nl && a_dy x3)) (a_ev x5 tn) = 0 := a_bt0 (by rw [b1, b2, b3]; rfl) b4
      obtain ⟨p, l, day, k, hp, hl, hd, hk, rfl, rfl, rfl, rfl⟩ := a_bond_of hp20 hl5 ht ok
      have bt0 : a_bt (a_lt x4 2 && (a_lt (nI p) np && (a_lt (nI l) nl && a_dy (nI day)))) (a_ev (nI k) tn) = 0 := by rw [a_bt_and b5]; exact ok
      have ev : o_times (nI p) (nI l) (nI day) x4 (nI k) ((nl, nq, np, nf, na, tn, tp), tb, fp, D) = (0, if x4 = 0 then a_run D 0 (nI day) (nI k) (-1) 9 (5 * p + l) else a_run D 0 (nI day) (nI k) (-1) 10 (5 * p + l)) := by
        unfold o_times
        dsimp only
        rw [bt0, show a_ix (nI p) = p from nI_clamp (by omega), show a_ix (nI l) = l from nI_clamp (by omega)]
      rw [ev]
      refine p_find (d := d + 7) hr0 hw hR k (fun I1 f1 C1 z1 c1 => ?_)
      refine p_runs (d := d) (way := 0) C1 hw hR (by omega) c1 (nI day) (-1) (fun I2 n' f2 C2 z2 c2 S2 ok2 en en2 _ => ⟨hR, ?_⟩)
      have z0 : I2 59 0 = 0 := z2.trans (z1.trans am_u_same)
      have e5 : (5 * nI p + nI l : Int32) = nI (5 * p + l) := by rw [show (5 : Int32) = nI 5 from rfl, pk_mul, nI_add]
      obtain ⟨-, s9, s10⟩ := S2.2.2.1 (5 * p + l) (by omega)
      dsimp only at s9 s10 ⊢
      rw [e5, show (nI (5 * p + l)).toNatClampNeg = 5 * p + l from nI_clamp (by omega), s9, s10]
      refine ⟨fun z => ⟨am_is_nI (by omega) (by omega), g_180_106 hR _ _ _ _ _ _ ?_⟩, fun z => ⟨am_is_nI (by omega) (by omega), g_180_106 hR _ _ _ _ _ _ ?_⟩⟩
      · rw [if_neg z]; exact p_good ((f0.tr f1).tr f2) C2 z0 _
      · rw [if_pos z]; exact p_good ((f0.tr f1).tr f2) C2 z0 _
    · have hb' := hb.symm.trans z
      rw [Bool.and_eq_false_iff] at hb'
      rcases hb' with h | h
      · rw [h, Bool.and_false, Bool.and_false, Bool.and_false]
      · rw [h, Bool.false_and]
  refine q_isDay (d := d) hR x3 (by omega) ⟨fun u => g_180_44 hR _ _ _ _ _ (at45 false (by rw [a_is_0.mp u, Bool.false_and])), fun u => ?_⟩
  have hdy : a_dy x3 = true := by
    cases hh : a_dy x3 with
    | true => rfl
    | false => exact absurd (a_is_0.mpr hh) u
  refine ⟨fun z => g_180_40 hR _ _ _ _ _ (at45 true ?_), fun z => ⟨fun y => g_180_44 hR _ _ _ _ _ (at45 false ?_), fun y => g_180_40 hR _ _ _ _ _ (at45 true ?_)⟩⟩
  · rw [hdy, z]; rfl
  · rw [hdy, Bool.true_and]
    cases hh : a_lt x4 2 with
    | false => rfl
    | true =>
      obtain ⟨i, hi, rfl⟩ := a_lt_of (by omega) hh
      have : i = 0 ∨ i = 1 := by omega
      rcases this with h | h <;> subst h
      · exact absurd rfl z
      · exact absurd rfl y
  · rw [hdy, y]; rfl
end Chain3

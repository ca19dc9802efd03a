/-! ===== queries: ways, lands; a way is lived ===== -/
section Qry2
variable {β : Bool} {xs : Nat → Int32} {L : Nat} {G : am_G} {I : a_F} {J : Nat → Nat → Int64}
theorem k_live {d e : Nat} {w : w_T} (hC : c_I e w G I J) (hw : w_O w) {day k way x : Nat} (hday : day ≤ 72999) (hk : k ≤ 999) (hway : way < 27) (hx : x < 13) (b1 : c_db w.2.2.2 I (a_doubts w.2.2.2 (nI k))) (h6 : I 34 6 = nI k) {Q : am_O → am_H → Prop}
    (hQ : ∀ (G' : am_G) (I' : a_F) (J' : Nat → Nat → Int64) (j' : Nat), f_c I I' → f_c J J' → c_I e w G' I' J' → c_L e j' G' → c_S w.1.2.1 j' I' (a_run w.2.2.2 way (nI day) (nI k) (c_wo x)) → c_db w.2.2.2 I' (a_doubts w.2.2.2 (nI k)) → I' 34 6 = nI k → q_F c_sc I I' → Q (.inl none) (G', I', J')) :
    q_W β xs L (d + 5) 52 0 [.ref 38, .int (nI way), .int (nI day), .int (c_wo x), .retAddr 0, .retAddr 0, .retAddr 0, .retAddr 0, .retAddr 0] [] (G, I, J) Q := by
  obtain ⟨⟨nl, nq, np, nf, na, tn, tp⟩, tb, fp, D⟩ := w
  have hC0 := hC
  obtain ⟨j, hL, hD, h3, h4, h5, h7⟩ := hC
  obtain ⟨hW, hDR, ht, hp⟩ := hw
  refine c_live (d := d) hL hD hW hDR hk hway hday hx b1 h6 h5 (fun G1 I1 J1 j1 w1 w2 w3 w4 w5 => ?_)
  obtain ⟨C1, fc, fj⟩ := c_inv.lv hC0 w1 w2 w3 w5
  exact hQ G1 I1 J1 j1 fc fj C1 w1 w4 (b1.keep (fun i hi => w3 34 i (c_sc_no (Or.inl (by decide)))) (fun i => ⟨w3 35 i rfl, w3 36 i rfl, w3 37 i rfl⟩)) ((w3 34 6 rfl).trans h6) w3
theorem k_find {d e : Nat} {w : w_T} (hC : c_I e w G I J) (hw : w_O w) (k : Nat) {A : am_G → (Nat → Nat → Int32) → (Nat → Nat → Int64) → Prop} {E : Nat → am_G → (Nat → Nat → Int32) → (Nat → Nat → Int64) → Prop}
    (hA : ∀ I', f_c I I' → c_I e w G I' J → c_db w.2.2.2 I' (a_doubts w.2.2.2 (nI k)) → I' 34 6 = nI k → A G I' J) : q_W β xs L (d + 1) 13 0 [.ref 34, .int (nI k), .retAddr 0] [] (G, I, J) (q_Rv A E) := by
  obtain ⟨⟨nl, nq, np, nf, na, tn, tp⟩, tb, fp, D⟩ := w
  have hC0 := hC
  obtain ⟨j, hL, hD, h3, h4, h5, h7⟩ := hC
  obtain ⟨hW, hDR, ht, hp⟩ := hw
  obtain ⟨hP, hA', hF, hT, hDf, hf2⟩ := hW
  refine q_useV (c_findD (β := β) (xs := xs) (L := L) (d := d) hL.2.1 hD hF hf2 hDf (nI k)) (Nat.le_refl _) (fun I1 h1 => ?_)
  obtain ⟨f1, k1, b1⟩ := h1
  obtain ⟨C1, fc1⟩ := c_inv.dq hC0 f1
  exact hA I1 fc1 C1 b1 k1
theorem p_find {d v : Nat} {w : w_T} (hr : r_I v w I J) (hw : w_O w) (hR : q_RT G) (k : Nat) {A : am_G → (Nat → Nat → Int32) → (Nat → Nat → Int64) → Prop} {E : Nat → am_G → (Nat → Nat → Int32) → (Nat → Nat → Int64) → Prop}
    (hA : ∀ I', f_r I I' → r_I v w I' J → I' 59 0 = I 59 0 → r_dbl w.2.2.2 I' (a_doubts w.2.2.2 (nI k)) → A G I' J) : q_W β xs L (d + 1) 143 0 [.ref 59, .int (nI k), .retAddr 0] [] (G, I, J) (q_Rv A E) := by
  obtain ⟨⟨nl, nq, np, nf, na, tn, tp⟩, tb, fp, D⟩ := w
  obtain ⟨hW, hDR, ht, hp⟩ := hw
  obtain ⟨hP, hA', hF, hT, hDf, hf2⟩ := hW
  refine q_useV (r_findsD (β := β) (xs := xs) (L := L) (d := d) hR hr.1 hF hf2 hDf (nI k)) (Nat.le_refl _) (fun I1 h1 => ?_)
  obtain ⟨f1, b1⟩ := h1
  obtain ⟨R1, fr1, z1⟩ := r_inv.dq hr f1
  exact hA I1 fr1 R1 z1 b1
theorem p_runs {d v : Nat} {w : w_T} (hr : r_I v w I J) (hw : w_O w) (hR : q_RT G) {k way : Nat} (hway : way < 27) (b1 : r_dbl w.2.2.2 I (a_doubts w.2.2.2 (nI k))) (last wo : Int32) {A : am_G → (Nat → Nat → Int32) → (Nat → Nat → Int64) → Prop} {E : Nat → am_G → (Nat → Nat → Int32) → (Nat → Nat → Int64) → Prop}
    (hA : ∀ I' n', f_r I I' → r_I v w I' J → I' 59 0 = I 59 0 → r_dbl w.2.2.2 I' (a_doubts w.2.2.2 (nI k)) → r_S w.1.2.1 I' (a_run w.2.2.2 way last (nI k) wo) → a_ok w.1.2.2.1 w.1.2.1 (a_run w.2.2.2 way last (nI k) wo) → a_run w.2.2.2 way last (nI k) wo 17 0 = nI n' → n' ≤ 22400 → r_fr I I' → A G I' J) :
    q_W β xs L (d + 8) 147 0 [.ref 59, .int (nI way), .int last, .int (nI k), .int wo, .retAddr 0, .retAddr 0] [] (G, I, J) (q_Rv A E) := by
  obtain ⟨⟨nl, nq, np, nf, na, tn, tp⟩, tb, fp, D⟩ := w
  obtain ⟨hW, hDR, ht, hp⟩ := hw
  refine q_useV (r_runs (β := β) (xs := xs) (L := L) (d := d) (J := J) hR hr.1 hW b1 (way := way) (by omega) last wo) (Nat.le_refl _) (fun I1 h1 => ?_)
  obtain ⟨f1, S1, ok, n', e1, e2⟩ := h1
  obtain ⟨R1, fr1, z1⟩ := r_inv.rn hr f1
  exact hA I1 n' fr1 R1 z1 (b1.fr f1) S1 ok e1 e2 f1
def o_ways (x1 x2 : Int32) : w_T → Nat × Int32 := fun w => match w with
  | ((nl, nq, np, nf, na, tn, tp), tb, fp, D) => (a_bt (a_lt x1 5) (a_ev x2 tn), if a_ix x1 = 0 then nI (a_ways D (a_doubts D x2)) else if a_ix x1 = 1 then nI (a_doubts D x2).length else match (a_doubts D x2)[a_ix x1 - 2]? with | some f => nI f | none => -1)
theorem k_waysQ {d e : Nat} {w : w_T} (hC : c_I e w G I J) (hw : w_O w) (x1 x2 : Int32) : q_W β xs L (d + 2) 82 0 [.ref 0, .int x1, .int x2] [] (G, I, J) (k_T (o_ways x1 x2 w).1 w e I J (o_ways x1 x2 w).2) := by
  obtain ⟨⟨nl, nq, np, nf, na, tn, tp⟩, tb, fp, D⟩ := w
  have hC0 := hC
  obtain ⟨j, hL, hD, h3, h4, h5, h6⟩ := hC
  have ht : tn ≤ 999 := hw.2.2.1
  have hR := hL.2.1
  refine g_82_0 hR _ _ ?_
  refine q_needN (d := d) hR x1 5 (by omega) (fun b1 => ?_) (fun b1 => ?_)
  · refine q_needE (d := d) (tn := tn) hR h3.1 x2 (by omega) (fun b2 => ?_) (fun b2 => ?_)
    · obtain ⟨i, hi, rfl⟩ := a_lt_of (by omega) b1
      obtain ⟨k, hk, rfl⟩ := a_ev_of ht b2
      have ev : o_ways (nI i) (nI k) ((nl, nq, np, nf, na, tn, tp), tb, fp, D) = (0, if i = 0 then nI (a_ways D (a_doubts D (nI k))) else if i = 1 then nI (a_doubts D (nI k)).length else match (a_doubts D (nI k))[i - 2]? with | some f => nI f | none => -1) := by
        unfold o_ways
        dsimp only
        rw [a_bt0 b1 b2, show a_ix (nI i) = i from nI_clamp (by omega)]
      rw [ev]
      have hlen := a_doubts_len D (nI k)
      refine ⟨hR, k_find (d := d) hC0 hw k (fun I1 f1 C1 c1 k1 => ⟨hR, ?_⟩)⟩
      have e4 : I1 34 4 = nI (a_doubts D (nI k)).length := c1.1
      have e5 : I1 34 5 = nI (a_ways D (a_doubts D (nI k))) := c1.2.1
      rw [e4, e5, show (nI i = 0) = (i = 0) from propext (nI_eq (b := 0) (by omega) (by omega)), show (nI i = 1) = (i = 1) from propext (nI_eq (b := 1) (by omega) (by omega))]
      refine ⟨fun z => ⟨fun y => ?_, fun y => ?_⟩, fun z => ?_⟩
      · rw [show (nI i - 2 : Int32) = nI (i - 2) from pk_sub (b := 2) (by omega), nI_ltI (by omega) (by omega), if_neg z, if_neg y]
        refine ⟨fun u => g_82_71 hR _ _ _ ?_, fun u => ⟨am_is_nI (by omega) (by omega), g_82_71 hR _ _ _ ?_⟩⟩
        · rw [List.getElem?_eq_none (by omega)]
          exact k_good f1 (f_c.rf J) C1 _
        · rw [show (nI (i - 2)).toNatClampNeg = i - 2 from nI_clamp (by omega)]
          have hg := List.getElem?_eq_getElem u
          rw [(c1.2.2 (i - 2) _ hg).1, hg]
          exact k_good f1 (f_c.rf J) C1 _
      · rw [if_neg z, if_pos y]
        exact k_good f1 (f_c.rf J) C1 _
      · rw [if_pos z]
        exact k_good f1 (f_c.rf J) C1 _
    · have ev : (o_ways x1 x2 ((nl, nq, np, nf, na, tn, tp), tb, fp, D)).1 = 2 := a_bt2 b1 b2
      rw [ev]
      exact k_bad hC0 (by decide) _
  · have ev : (o_ways x1 x2 ((nl, nq, np, nf, na, tn, tp), tb, fp, D)).1 = 1 := a_bt1 b1
    rw [ev]
    exact k_bad hC0 (by decide) _
theorem p_waysQ {d v : Nat} {w : w_T} (hr : r_I v w I J) (hw : w_O w) (hR : q_RT G) (x1 x2 : Int32) : q_W β xs L (d + 2) 170 0 [.ref 59, .int x1, .int x2] [] (G, I, J) (p_P w v G I J (o_ways x1 x2 w).1 (o_ways x1 x2 w).2) := by
  obtain ⟨⟨nl, nq, np, nf, na, tn, tp⟩, tb, fp, D⟩ := w
  have hr0 : r_I v ((nl, nq, np, nf, na, tn, tp), tb, fp, D) (am_u I 59 0 0) J := hr.c0 0
  obtain ⟨hD, h2, -⟩ := hr
  have ht : tn ≤ 999 := hw.2.2.1
  have f0 : f_r I (am_u I 59 0 0) := (f_r.rf I).up _ _ (by decide)
  have at20 : ∀ b : Bool, b = a_lt x1 5 → q_W β xs L (d + 2) 170 20 [.ref 59, .int x1, .int x2] [.int (a_is b), .ref 59] (G, am_u I 59 0 0, J) (p_P ((nl, nq, np, nf, na, tn, tp), tb, fp, D) v G I J (o_ways x1 x2 ((nl, nq, np, nf, na, tn, tp), tb, fp, D)).1 (o_ways x1 x2 ((nl, nq, np, nf, na, tn, tp), tb, fp, D)).2) := fun b hb => by
    refine g_170_20 hR _ _ _ (q_right (d := d) hR b am_u_same (by decide) (by omega) (fun z => ⟨fun q => absurd q (by decide), fun _ => ?_⟩) (fun z => ⟨fun _ => g_170_35 hR _ _ ?_, fun q => absurd rfl q⟩))
    · have b1 : a_lt x1 5 = true := hb.symm.trans z
      refine r_isEv (I := am_u I 59 0 0) (d := d) (tn := tn) hR h2.1 x2 am_u_same (fun b2 => ⟨fun _ => ?_, fun q => absurd q (by decide)⟩) (fun b2 => ⟨fun q => absurd rfl q, fun _ => g_170_35 hR _ _ ?_⟩)
      · obtain ⟨i, hi, rfl⟩ := a_lt_of (by omega) b1
        obtain ⟨k, hk, rfl⟩ := a_ev_of ht b2
        have ev : o_ways (nI i) (nI k) ((nl, nq, np, nf, na, tn, tp), tb, fp, D) = (0, if i = 0 then nI (a_ways D (a_doubts D (nI k))) else if i = 1 then nI (a_doubts D (nI k)).length else match (a_doubts D (nI k))[i - 2]? with | some f => nI f | none => -1) := by
          unfold o_ways
          dsimp only
          rw [a_bt0 b1 b2, show a_ix (nI i) = i from nI_clamp (by omega)]
        rw [ev]
        have hlen := a_doubts_len D (nI k)
        refine p_find (d := d) hr0 hw hR k (fun I1 f1 C1 z1 c1 => ⟨hR, ?_⟩)
        have e4 : I1 59 51 = nI (a_doubts D (nI k)).length := c1.1
        have e5 : I1 59 52 = nI (a_ways D (a_doubts D (nI k))) := c1.2.1
        have z0 : I1 59 0 = 0 := z1.trans am_u_same
        rw [e4, e5, show (nI i = 0) = (i = 0) from propext (nI_eq (b := 0) (by omega) (by omega)), show (nI i = 1) = (i = 1) from propext (nI_eq (b := 1) (by omega) (by omega))]
        refine ⟨fun z => ⟨fun y => ?_, fun y => g_170_87 hR _ _ _ ?_⟩, fun z => g_170_87 hR _ _ _ ?_⟩
        · rw [show (nI i - 2 : Int32) = nI (i - 2) from pk_sub (b := 2) (by omega), nI_ltI (by omega) (by omega), if_neg z, if_neg y]
          refine ⟨fun u => g_170_87 hR _ _ _ ?_, fun u => ⟨am_is_nI (by omega) (by omega), g_170_87 hR _ _ _ ?_⟩⟩
          · rw [List.getElem?_eq_none (by omega)]
            exact p_good (f0.tr f1) C1 z0 _
          · rw [show (nI (i - 2)).toNatClampNeg = i - 2 from nI_clamp (by omega)]
            have hg := List.getElem?_eq_getElem u
            rw [c1.2.2 (i - 2) _ hg, hg]
            exact p_good (f0.tr f1) C1 z0 _
        · rw [if_neg z, if_pos y]
          exact p_good (f0.tr f1) C1 z0 _
        · rw [if_pos z]
          exact p_good (f0.tr f1) C1 z0 _
      · have ev : (o_ways x1 x2 ((nl, nq, np, nf, na, tn, tp), tb, fp, D)).1 = 2 := a_bt2 b1 b2
        rw [ev]
        exact p_bad f0 hr0 (t := 2) (by decide) _ _
    · have ev : (o_ways x1 x2 ((nl, nq, np, nf, na, tn, tp), tb, fp, D)).1 = 1 := a_bt1 (hb.symm.trans z)
      rw [ev]
      exact p_bad f0 hr0 (t := 1) (by decide) _ _
  refine g_170_0 hR _ _ ⟨fun z => g_170_19 hR _ _ (at20 false (by simp [a_lt, z])), fun z => ?_⟩
  obtain ⟨i, hi, rfl⟩ := nI_of z
  have l4 : (4 : Int32) < nI i ↔ 4 < i := nI_ltI (a := 4) (by omega) hi
  have l5 : nI i < nI 5 ↔ i < 5 := nI_ltI hi (by omega)
  rw [l4]
  refine ⟨fun y => g_170_19 hR _ _ (at20 false ?_), fun y => at20 true ?_⟩
  · unfold a_lt
    rw [decide_eq_false (fun q => by have := l5.mp q; omega : ¬ nI i < nI 5), Bool.and_false]
  · unfold a_lt
    rw [decide_eq_false z, decide_eq_true (l5.mpr (by omega))]
    rfl
def o_lands (x1 x2 x3 x4 : Int32) : w_T → Nat × Int32 := fun w => match w with
  | ((nl, nq, np, nf, na, tn, tp), tb, fp, D) => (if a_bt (a_lt x1 np && a_dy x2) (a_ev x4 tn) = 0 then (if a_lt x3 (a_ways D (a_doubts D x4)) = false then 1 else 0) else a_bt (a_lt x1 np && a_dy x2) (a_ev x4 tn), a_run D (a_ix x3) x2 x4 (-1) 0 (a_ix x1))
theorem k_lands {d e : Nat} {w : w_T} (hC : c_I e w G I J) (hw : w_O w) (x1 x2 x3 x4 : Int32) : q_W β xs L (d + 6) 86 0 [.ref 0, .int x1, .int x2, .int x3, .int x4] [] (G, I, J) (k_T (o_lands x1 x2 x3 x4 w).1 w e I J (o_lands x1 x2 x3 x4 w).2) := by
  obtain ⟨⟨nl, nq, np, nf, na, tn, tp⟩, tb, fp, D⟩ := w
  have hC0 := hC
  obtain ⟨j, hL, hD, h3, h4, h5, h6⟩ := hC
  have hn5 := hw.1.1.2.1
  have hp20 : np ≤ 20 := hn5.2.2.1
  have ht : tn ≤ 999 := hw.2.2.1
  have hR := hL.2.1
  have e3 : I 3 3 = nI np := hD.1.2.2.1
  have bad : ∀ t : Nat, t ≠ 0 → a_bt (a_lt x1 np && a_dy x2) (a_ev x4 tn) = t → k_T (o_lands x1 x2 x3 x4 ((nl, nq, np, nf, na, tn, tp), tb, fp, D)).1 ((nl, nq, np, nf, na, tn, tp), tb, fp, D) e I J (o_lands x1 x2 x3 x4 ((nl, nq, np, nf, na, tn, tp), tb, fp, D)).2 (.inr t) ((am_thr (G, I, J)).1, I, J) := fun t ht0 hto => by
    have ev : (o_lands x1 x2 x3 x4 ((nl, nq, np, nf, na, tn, tp), tb, fp, D)).1 = t := by
      unfold o_lands
      dsimp only
      rw [hto, if_neg ht0]
    rw [ev]
    exact k_bad hC0 ht0 _
  refine g_86_0 hR _ _ _ _ ?_
  rw [e3]
  refine q_needN (d := d) hR x1 np (by omega) (fun b1 => ?_) (fun b1 => bad 1 (by decide) (a_bt1 (by rw [b1]; rfl)))
  refine q_needD (d := d) hR x2 (by omega) (fun b2 => ?_) (fun b2 => bad 1 (by decide) (a_bt1 (by rw [b1, b2]; rfl)))
  refine q_needE (d := d) (tn := tn) hR h3.1 x4 (by omega) (fun b4 => ⟨hR, ?_⟩) (fun b4 => bad 2 (by decide) (a_bt2 (by rw [b1, b2]; rfl) b4))
  obtain ⟨p, hp, rfl⟩ := a_lt_of (by omega) b1
  obtain ⟨day, hd, rfl⟩ := a_dy_of b2
  obtain ⟨k, hk, rfl⟩ := a_ev_of ht b4
  have h27 : a_ways D (a_doubts D (nI k)) ≤ 27 := (a_dbl27 hw.1.2.2.1 hw.1.2.2.2.2.1 hw.1.2.2.2.2.2 (nI k)).2
  have bt0 : a_bt (a_lt (nI p) np && a_dy (nI day)) (a_ev (nI k) tn) = 0 := a_bt0 (by rw [b1, b2]; rfl) b4
  refine k_find (d := d + 4) hC0 hw k (fun I1 f1 C1 c1 k1 => ⟨hR, ?_⟩)
  have e5 : I1 34 5 = nI (a_ways D (a_doubts D (nI k))) := c1.2.1
  rw [e5]
  refine q_needN (d := d) hR x3 _ (by omega) (fun b3 => ⟨hR, ?_⟩) (fun b3 => ?_)
  · obtain ⟨way, hway, rfl⟩ := a_lt_of (by omega) b3
    have ev : o_lands (nI p) (nI day) (nI way) (nI k) ((nl, nq, np, nf, na, tn, tp), tb, fp, D) = (0, a_run D way (nI day) (nI k) (-1) 0 p) := by
      unfold o_lands
      dsimp only
      rw [bt0, b3, show a_ix (nI way) = way from nI_clamp (by omega), show a_ix (nI p) = p from nI_clamp (by omega)]
      rfl
    rw [ev]
    refine k_live (d := d) (x := 0) C1 hw hd (k := k) (by omega) (by omega) (by decide) c1 k1 (fun G2 I2 J2 j2 f2 g2 C2 L2 S2 _ _ _ => ⟨L2.2.1, am_is_nI (by omega) (by omega), ?_⟩)
    dsimp only
    rw [show (nI p).toNatClampNeg = p from nI_clamp (by omega), show I2 47 p = a_run D way (nI day) (nI k) (-1) 0 p from (S2.1 p (by omega)).1]
    exact k_good (f1.tr f2) g2 C2 _
  · have ev : (o_lands (nI p) (nI day) x3 (nI k) ((nl, nq, np, nf, na, tn, tp), tb, fp, D)).1 = 1 := by
      unfold o_lands
      dsimp only
      rw [bt0, b3]
      rfl
    rw [ev]
    exact k_badF (G := G) (G' := G) f1 (f_c.rf J) C1 (by decide) _
theorem p_lands {d v : Nat} {w : w_T} (hr : r_I v w I J) (hw : w_O w) (hR : q_RT G) (hv : v < 2 ^ 31) (x1 x2 x3 x4 : Int32) : q_W β xs L (d + 10) 178 0 [.ref 59, .int x1, .int x2, .int x3, .int x4] [] (G, I, J) (p_P w v G I J (o_lands x1 x2 x3 x4 w).1 (o_lands x1 x2 x3 x4 w).2) := by
  obtain ⟨⟨nl, nq, np, nf, na, tn, tp⟩, tb, fp, D⟩ := w
  have hr0 : r_I v ((nl, nq, np, nf, na, tn, tp), tb, fp, D) (am_u I 59 0 0) J := hr.c0 0
  obtain ⟨hD, h2, -⟩ := hr
  have hn5 := hw.1.1.2.1
  have hp20 : np ≤ 20 := hn5.2.2.1
  have ht : tn ≤ 999 := hw.2.2.1
  have f0 : f_r I (am_u I 59 0 0) := (f_r.rf I).up _ _ (by decide)
  have at34 : ∀ t : Nat, t ≠ 0 → a_bt (a_lt x1 np && a_dy x2) (a_ev x4 tn) = t → q_W β xs L (d + 10) 178 34 [.ref 59, .int x1, .int x2, .int x3, .int x4] [] (G, am_u (am_u I 59 0 0) 59 0 (nI t), J) (p_P ((nl, nq, np, nf, na, tn, tp), tb, fp, D) v G I J (o_lands x1 x2 x3 x4 ((nl, nq, np, nf, na, tn, tp), tb, fp, D)).1 (o_lands x1 x2 x3 x4 ((nl, nq, np, nf, na, tn, tp), tb, fp, D)).2) := fun t ht0 hto => by
    have ev : (o_lands x1 x2 x3 x4 ((nl, nq, np, nf, na, tn, tp), tb, fp, D)).1 = t := by
      unfold o_lands
      dsimp only
      rw [hto, if_neg ht0]
    rw [ev]
    exact g_178_34 hR _ _ _ _ (p_bad f0 hr0 ht0 _ _)
  refine g_178_0 hR _ _ _ _ ?_
  refine r_isPerson (I := am_u I 59 0 0) (d := d + 8) (np := np) hR hD.1.2.2.1 x1 am_u_same (fun b1 => ⟨fun q => absurd q (by decide), fun _ => ?_⟩) (fun b1 => ⟨fun _ => at34 1 (by decide) (a_bt1 (by rw [b1]; rfl)), fun q => absurd rfl q⟩)
  refine q_isDay (d := d) hR x2 (by omega) ?_
  refine q_right (d := d) hR (a_dy x2) am_u_same (by decide) (by omega) (fun b2 => ⟨fun q => absurd q (by decide), fun _ => ?_⟩) (fun b2 => ⟨fun _ => at34 1 (by decide) (a_bt1 (by rw [b1, b2]; rfl)), fun q => absurd rfl q⟩)
  refine r_isEv (I := am_u I 59 0 0) (d := d + 8) (tn := tn) hR h2.1 x4 am_u_same (fun b4 => ⟨fun _ => ?_, fun q => absurd q (by decide)⟩) (fun b4 => ⟨fun q => absurd rfl q, fun _ => at34 2 (by decide) (a_bt2 (by rw [b1, b2]; rfl) b4)⟩)
  obtain ⟨p, hp, rfl⟩ := a_lt_of (by omega) b1
  obtain ⟨day, hd, rfl⟩ := a_dy_of b2
  obtain ⟨k, hk, rfl⟩ := a_ev_of ht b4
  have h27 : a_ways D (a_doubts D (nI k)) ≤ 27 := (a_dbl27 hw.1.2.2.1 hw.1.2.2.2.2.1 hw.1.2.2.2.2.2 (nI k)).2
  have bt0 : a_bt (a_lt (nI p) np && a_dy (nI day)) (a_ev (nI k) tn) = 0 := a_bt0 (by rw [b1, b2]; rfl) b4
  refine p_find (d := d + 8) hr0 hw hR k (fun I1 f1 C1 z1 c1 => ?_)
  have e5 : I1 59 52 = nI (a_ways D (a_doubts D (nI k))) := c1.2.1
  have z0 : I1 59 0 = 0 := z1.trans am_u_same
  have at60 : ∀ b : Bool, b = a_lt x3 (a_ways D (a_doubts D (nI k))) → q_W β xs L (d + 10) 178 60 [.ref 59, .int (nI p), .int (nI day), .int x3, .int (nI k)] [.int (a_is b), .ref 59] (G, I1, J) (p_P ((nl, nq, np, nf, na, tn, tp), tb, fp, D) v G I J (o_lands (nI p) (nI day) x3 (nI k) ((nl, nq, np, nf, na, tn, tp), tb, fp, D)).1 (o_lands (nI p) (nI day) x3 (nI k) ((nl, nq, np, nf, na, tn, tp), tb, fp, D)).2) := fun b hb => by
    refine g_178_60 hR _ _ _ _ _ (q_right (d := d) hR b z0 (by decide) (by omega) (fun z => ⟨fun _ => ?_, fun q => absurd q (by decide)⟩) (fun z => ⟨fun q => absurd rfl q, fun _ => ?_⟩))
    · have b3 := hb.symm.trans z
      obtain ⟨way, hway, rfl⟩ := a_lt_of (by omega) b3
      have ev : o_lands (nI p) (nI day) (nI way) (nI k) ((nl, nq, np, nf, na, tn, tp), tb, fp, D) = (0, a_run D way (nI day) (nI k) (-1) 0 p) := by
        unfold o_lands
        dsimp only
        rw [bt0, b3, show a_ix (nI way) = way from nI_clamp (by omega), show a_ix (nI p) = p from nI_clamp (by omega)]
        rfl
      rw [ev]
      refine q_useRv (p_finds (β := β) (xs := xs) (L := L) (d := d) C1 hw hR hv hd (k := k) (by omega)) (by omega) (fun o h' P => ?_)
      obtain ⟨rfl, I2, rfl, f2, z2, C2, c2, t2⟩ := P
      have e20 : (20 * nI way + nI p : Int32) = nI (20 * way + p) := by rw [show (20 : Int32) = nI 20 from rfl, pk_mul, nI_add]
      refine ⟨hR, ?_⟩
      dsimp only
      rw [e20, show (nI (20 * way + p)).toNatClampNeg = 20 * way + p from nI_clamp (by omega), show I2 115 (20 * way + p) = _ from t2 way hway p (by omega)]
      exact ⟨am_is_nI (by omega) (by omega), p_good ((f0.tr f1).tr f2) C2 (z2.trans z0) _⟩
    · have ev : (o_lands (nI p) (nI day) x3 (nI k) ((nl, nq, np, nf, na, tn, tp), tb, fp, D)).1 = 1 := by
        unfold o_lands
        dsimp only
        rw [bt0, hb.symm.trans z]
        rfl
      rw [ev]
      exact p_bad (f0.tr f1) C1 (t := 1) (by decide) _ _
  rw [e5]
  exact ⟨fun z => g_178_59 hR _ _ _ _ (at60 false (by simp [a_lt, z])), fun z => ⟨fun y => g_178_59 hR _ _ _ _ (at60 false (by simp [a_lt, y])), fun y => at60 true (by simp [a_lt, z, y])⟩⟩
end Qry2

/-! ===== queries: who stands in a bond ===== -/
theorem k_bad {e : Nat} {w : w_T} {G : am_G} {I : a_F} {J : Nat → Nat → Int64} (hC : c_I e w G I J) {t : Nat} (ht : t ≠ 0) (val : Int32) : k_T t w e I J val (.inr t) ((am_thr (G, I, J)).1, I, J) := by
  refine ⟨?_, e + 1, _, I, J, Nat.le_refl _, rfl, f_c.rf I, f_c.rf J, c_inv.tw hC⟩
  rw [if_neg ht]
theorem k_badF {e : Nat} {w : w_T} {G G' : am_G} {I I' : a_F} {J J' : Nat → Nat → Int64} (hf : f_c I I') (hj : f_c J J') (hC : c_I e w G' I' J') {t : Nat} (ht : t ≠ 0) (val : Int32) : k_T t w e I J val (.inr t) ((am_thr (G', I', J')).1, I', J') := by
  refine ⟨?_, e + 1, _, I', J', Nat.le_refl _, rfl, hf, hj, c_inv.tw hC⟩
  rw [if_neg ht]
theorem k_good {e : Nat} {w : w_T} {I : a_F} {J : Nat → Nat → Int64} {G' : am_G} {I' : a_F} {J' : Nat → Nat → Int64} (hf : f_c I I') (hj : f_c J J') (hC : c_I e w G' I' J') (val : Int32) : k_T 0 w e I J val (.inl (some (.int val))) (G', I', J') :=
  ⟨by rw [if_pos rfl], e, G', I', J', Nat.le_succ _, rfl, hf, hj, hC⟩
theorem p_bad {v : Nat} {w : w_T} {G : am_G} {I I' : a_F} {J : Nat → Nat → Int64} (hf : f_r I I') (hr : r_I v w I' J) {t : Nat} (ht : t ≠ 0) (val y : Int32) : p_P w v G I J t val (.inl (some (.int y))) (G, am_u I' 59 0 (nI t), J) :=
  ⟨y, _, J, rfl, fun q => absurd q ht, rfl, hf.up _ _ (by decide), f_r.rf J, am_u_same, (hr.c0 _).mono (Nat.le_succ _)⟩
theorem p_good {v : Nat} {w : w_T} {G : am_G} {I I' : a_F} {J : Nat → Nat → Int64} (hf : f_r I I') (hr : r_I v w I' J) (h0 : I' 59 0 = 0) (val : Int32) : p_P w v G I J 0 val (.inl (some (.int val))) (G, I', J) :=
  ⟨val, I', J, rfl, fun _ => rfl, rfl, hf, f_r.rf J, h0, hr.mono (Nat.le_succ _)⟩
theorem a_bt1 {b1 b2 : Bool} (h : b1 = false) : a_bt b1 b2 = 1 := by unfold a_bt; rw [if_pos h]
theorem a_bt2 {b1 b2 : Bool} (h : b1 = true) (h2 : b2 = false) : a_bt b1 b2 = 2 := by subst h; subst h2; rfl
theorem a_bt0 {b1 b2 : Bool} (h : b1 = true) (h2 : b2 = true) : a_bt b1 b2 = 0 := by subst h; subst h2; rfl
theorem a_bt0_of {b1 b2 : Bool} (h : a_bt b1 b2 = 0) : b1 = true ∧ b2 = true := by
  cases b1 <;> cases b2 <;> first | exact ⟨rfl, rfl⟩ | cases h
section Qry1
variable {β : Bool} {xs : Nat → Int32} {L : Nat} {G : am_G} {I : a_F} {J : Nat → Nat → Int64}
theorem k_bond {d nl np tn : Nat} (hR : q_RT G) (e3 : I 3 3 = nI np) (e12 : I 1 2 = nI nl) (e10 : I 0 10 = nI tn) (x1 x2 x3 x4 : Int32) {A : am_G → (Nat → Nat → Int32) → (Nat → Nat → Int64) → Prop} {E : Nat → am_G → (Nat → Nat → Int32) → (Nat → Nat → Int64) → Prop}
    (hA : a_bt (a_lt x1 np && (a_lt x2 nl && a_dy x3)) (a_ev x4 tn) = 0 → A G I J) (hE : ∀ t, t ≠ 0 → a_bt (a_lt x1 np && (a_lt x2 nl && a_dy x3)) (a_ev x4 tn) = t → E t (am_thr (G, I, J)).1 I J) :
    q_W β xs L (d + 2) 94 0 [.ref 0, .int x1, .int x2, .int x3, .int x4] [] (G, I, J) (q_Rv A E) := by
  refine g_94_0 hR _ _ _ _ ?_
  rw [e3]
  refine q_needN (d := d) hR x1 np (by omega) (fun b1 => ⟨hR, ?_⟩) (fun b1 => hE 1 (by decide) (a_bt1 (by rw [b1]; rfl)))
  rw [e12]
  refine q_needN (d := d) hR x2 nl (by omega) (fun b2 => ?_) (fun b2 => hE 1 (by decide) (a_bt1 (by rw [b1, b2]; rfl)))
  refine q_needD (d := d) hR x3 (by omega) (fun b3 => ?_) (fun b3 => hE 1 (by decide) (a_bt1 (by rw [b1, b2, b3]; rfl)))
  exact q_needE (d := d) (tn := tn) hR e10 x4 (by omega) (fun b4 => hA (a_bt0 (by rw [b1, b2, b3]; rfl) b4)) (fun b4 => hE 2 (by decide) (a_bt2 (by rw [b1, b2, b3]; rfl) b4))
theorem p_bond {d nl np tn : Nat} (hR : q_RT G) (e3 : I 59 5 = nI np) (e12 : I 59 3 = nI nl) (e10 : I 59 1 = nI tn) (x1 x2 x3 x4 : Int32) {A : Int32 → am_G → (Nat → Nat → Int32) → (Nat → Nat → Int64) → Prop} {E : Nat → am_G → (Nat → Nat → Int32) → (Nat → Nat → Int64) → Prop}
    (hA : a_bt (a_lt x1 np && (a_lt x2 nl && a_dy x3)) (a_ev x4 tn) = 0 → A 1 G (am_u I 59 0 0) J) (hE : ∀ t, t ≠ 0 → a_bt (a_lt x1 np && (a_lt x2 nl && a_dy x3)) (a_ev x4 tn) = t → A 0 G (am_u (am_u I 59 0 0) 59 0 (nI t)) J) :
    q_W β xs L (d + 2) 171 0 [.ref 59, .int x1, .int x2, .int x3, .int x4] [] (G, I, J) (q_Ri A E) := by
  have at46 : ∀ t, t ≠ 0 → a_bt (a_lt x1 np && (a_lt x2 nl && a_dy x3)) (a_ev x4 tn) = t → q_W β xs L (d + 2) 171 46 [.ref 59, .int x1, .int x2, .int x3, .int x4] [] (G, am_u (am_u I 59 0 0) 59 0 (nI t), J) (q_Ri A E) := fun t ht h => g_171_46 hR _ _ _ _ (g_171_47 hR _ _ _ _ _ ⟨Or.inl rfl, hE t ht h⟩)
  refine g_171_0 hR _ _ _ _ ?_
  refine r_isPerson (I := am_u I 59 0 0) (d := d) (np := np) hR e3 x1 am_u_same (fun b1 => ⟨fun q => absurd q (by decide), fun _ => ?_⟩) (fun b1 => ⟨fun _ => at46 1 (by decide) (a_bt1 (by rw [b1]; rfl)), fun q => absurd rfl q⟩)
  refine r_isLand (I := am_u I 59 0 0) (d := d) (nl := nl) hR e12 x2 am_u_same (fun b2 => ⟨fun q => absurd q (by decide), fun _ => ?_⟩) (fun b2 => ⟨fun _ => at46 1 (by decide) (a_bt1 (by rw [b1, b2]; rfl)), fun q => absurd rfl q⟩)
  refine q_isDay (d := d) hR x3 (by omega) ?_
  refine q_right (d := d) hR (a_dy x3) am_u_same (by decide) (by omega) (fun b3 => ⟨fun q => absurd q (by decide), fun _ => ?_⟩) (fun b3 => ⟨fun _ => at46 1 (by decide) (a_bt1 (by rw [b1, b2, b3]; rfl)), fun q => absurd rfl q⟩)
  exact r_isEv (I := am_u I 59 0 0) (d := d) (tn := tn) hR e10 x4 am_u_same (fun b4 => ⟨fun q => absurd q (by decide), fun _ => g_171_47 hR _ _ _ _ _ ⟨Or.inr rfl, hA (a_bt0 (by rw [b1, b2, b3]; rfl) b4)⟩⟩) (fun b4 => ⟨fun _ => at46 2 (by decide) (a_bt2 (by rw [b1, b2, b3]; rfl) b4), fun q => absurd rfl q⟩)
/-- a bond's arguments -/
theorem a_bond_of {x1 x2 x3 x4 : Int32} {nl np tn : Nat} (hnp : np ≤ 20) (hnl : nl ≤ 5) (ht : tn ≤ 999) (h : a_bt (a_lt x1 np && (a_lt x2 nl && a_dy x3)) (a_ev x4 tn) = 0) : ∃ p l day k, p < np ∧ l < nl ∧ day ≤ 72999 ∧ k ≤ tn ∧ x1 = nI p ∧ x2 = nI l ∧ x3 = nI day ∧ x4 = nI k := by
  obtain ⟨h1, h2⟩ := a_bt0_of h
  simp only [Bool.and_eq_true] at h1
  obtain ⟨p, hp, e1⟩ := a_lt_of (by omega) h1.1
  obtain ⟨l, hl, e2⟩ := a_lt_of (by omega) h1.2.1
  obtain ⟨day, hd, e3⟩ := a_dy_of h1.2.2
  obtain ⟨k, hk, e4⟩ := a_ev_of ht h2
  exact ⟨p, l, day, k, hp, hl, hd, hk, e1, e2, e3, e4⟩
def o_says (x1 x2 x3 x4 : Int32) : w_T → Nat × Int32 := fun w => match w with
  | ((nl, nq, np, nf, na, tn, tp), tb, fp, D) => (a_bt (a_lt x1 np && (a_lt x2 nl && a_dy x3)) (a_ev x4 tn), nI (a_hv D (a_ix x3) (a_ix x4) (a_ix x1) (a_ix x2) (a_ways D (a_doubts D x4))))
def o_bel (x1 x2 x3 x4 : Int32) : w_T → Nat × Int32 := fun w => match w with
  | ((nl, nq, np, nf, na, tn, tp), tb, fp, D) => (a_bt (a_lt x1 np && (a_lt x2 nl && a_dy x3)) (a_ev x4 tn),
    if a_hv D (a_ix x3) (a_ix x4) (a_ix x1) (a_ix x2) (a_ways D (a_doubts D x4)) = 0 then 0 else if a_hv D (a_ix x3) (a_ix x4) (a_ix x1) (a_ix x2) (a_ways D (a_doubts D x4)) = a_ways D (a_doubts D x4) then 1 else 2)
theorem k_says {d e : Nat} {w : w_T} (hC : c_I e w G I J) (hw : w_O w) (x1 x2 x3 x4 : Int32) : q_W β xs L (d + 8) 84 0 [.ref 0, .int x1, .int x2, .int x3, .int x4] [] (G, I, J) (k_T (o_says x1 x2 x3 x4 w).1 w e I J (o_says x1 x2 x3 x4 w).2) := by
  obtain ⟨⟨nl, nq, np, nf, na, tn, tp⟩, tb, fp, D⟩ := w
  have hC0 := hC
  obtain ⟨j, hL, hD, h3, h4, h5, h6⟩ := hC
  have hn5 := hw.1.1.2.1
  have hl5 : nl ≤ 5 := hn5.1
  have hp20 : np ≤ 20 := hn5.2.2.1
  have ht : tn ≤ 999 := hw.2.2.1
  have hR := hL.2.1
  refine g_84_0 hR _ _ _ _ ?_
  refine k_bond (d := d + 5) (nl := nl) (np := np) (tn := tn) hR hD.1.2.2.1 hD.1.1 h3.1 x1 x2 x3 x4 (fun ok => ?_) (fun t ht0 hto => ?_)
  · obtain ⟨p, l, day, k, hp, hl, hd, hk, rfl, rfl, rfl, rfl⟩ := a_bond_of hp20 hl5 ht ok
    have ev : o_says (nI p) (nI l) (nI day) (nI k) ((nl, nq, np, nf, na, tn, tp), tb, fp, D) = (0, nI (a_hv D day k p l (a_ways D (a_doubts D (nI k))))) := by
      show (a_bt _ _, nI (a_hv D (a_ix (nI day)) (a_ix (nI k)) (a_ix (nI p)) (a_ix (nI l)) _)) = _
      rw [ok, show a_ix (nI day) = day from nI_clamp (by omega), show a_ix (nI k) = k from nI_clamp (by omega), show a_ix (nI p) = p from nI_clamp (by omega), show a_ix (nI l) = l from nI_clamp (by omega)]
    rw [ev]
    have h27 : a_ways D (a_doubts D (nI k)) ≤ 27 := (a_dbl27 hw.1.2.2.1 hw.1.2.2.2.2.1 hw.1.2.2.2.2.2 (nI k)).2
    refine q_useRv (k_ways (β := β) (xs := xs) (L := L) (d := d) hC0 hw hd (k := k) (by omega)) (by omega) (fun o h' P => ?_)
    obtain ⟨rfl, G1, I1, J1, rfl, f1, g1, C1, b1, k1, t1⟩ := P
    have R1 : q_RT G1 := by obtain ⟨j', L1, -⟩ := C1; exact L1.2.1
    refine q_useI (k_with (β := β) (xs := xs) (L := L) (d := d) (D := D) R1 b1.2.1 h27 (p := p) (l := l) (by omega) (by omega) t1) (by omega) ?_
    exact k_good f1 g1 C1 _
  · have ev : (o_says x1 x2 x3 x4 ((nl, nq, np, nf, na, tn, tp), tb, fp, D)).1 = t := hto
    rw [ev]
    exact k_bad hC0 ht0 _
theorem p_says {d v : Nat} {w : w_T} (hr : r_I v w I J) (hw : w_O w) (hR : q_RT G) (hv : v < 2 ^ 31) (x1 x2 x3 x4 : Int32) : q_W β xs L (d + 10) 174 0 [.ref 59, .int x1, .int x2, .int x3, .int x4] [] (G, I, J) (p_P w v G I J (o_says x1 x2 x3 x4 w).1 (o_says x1 x2 x3 x4 w).2) := by
  obtain ⟨⟨nl, nq, np, nf, na, tn, tp⟩, tb, fp, D⟩ := w
  have hr0 : r_I v ((nl, nq, np, nf, na, tn, tp), tb, fp, D) (am_u I 59 0 0) J := hr.c0 0
  obtain ⟨hD, h2, -⟩ := hr
  have hn5 := hw.1.1.2.1
  have hl5 : nl ≤ 5 := hn5.1
  have hp20 : np ≤ 20 := hn5.2.2.1
  have ht : tn ≤ 999 := hw.2.2.1
  have f0 : f_r I (am_u I 59 0 0) := (f_r.rf I).up _ _ (by decide)
  refine g_174_0 hR _ _ _ _ ?_
  refine p_bond (d := d + 7) (nl := nl) (np := np) (tn := tn) hR hD.1.2.2.1 hD.1.1 h2.1 x1 x2 x3 x4 (fun ok => ⟨fun _ => ?_, fun q => absurd q (by decide)⟩) (fun t ht0 hto => ⟨fun q => absurd rfl q, fun _ => ?_⟩)
  · obtain ⟨p, l, day, k, hp, hl, hd, hk, rfl, rfl, rfl, rfl⟩ := a_bond_of hp20 hl5 ht ok
    have ev : o_says (nI p) (nI l) (nI day) (nI k) ((nl, nq, np, nf, na, tn, tp), tb, fp, D) = (0, nI (a_hv D day k p l (a_ways D (a_doubts D (nI k))))) := by
      show (a_bt _ _, nI (a_hv D (a_ix (nI day)) (a_ix (nI k)) (a_ix (nI p)) (a_ix (nI l)) _)) = _
      rw [ok, show a_ix (nI day) = day from nI_clamp (by omega), show a_ix (nI k) = k from nI_clamp (by omega), show a_ix (nI p) = p from nI_clamp (by omega), show a_ix (nI l) = l from nI_clamp (by omega)]
    rw [ev]
    have h27 : a_ways D (a_doubts D (nI k)) ≤ 27 := (a_dbl27 hw.1.2.2.1 hw.1.2.2.2.2.1 hw.1.2.2.2.2.2 (nI k)).2
    refine q_useRv (p_finds (β := β) (xs := xs) (L := L) (d := d) hr0 hw hR hv hd (k := k) (by omega)) (by omega) (fun o h' P => ?_)
    obtain ⟨rfl, I1, rfl, f1, z1, C1, b1, t1⟩ := P
    refine q_useI (p_says0 (β := β) (xs := xs) (L := L) (d := d) (D := D) hR b1.2.1 h27 (p := p) (l := l) (by omega) (by omega) t1) (by omega) ?_
    exact p_good (f0.tr f1) C1 (z1.trans am_u_same) _
  · have ev : (o_says x1 x2 x3 x4 ((nl, nq, np, nf, na, tn, tp), tb, fp, D)).1 = t := hto
    rw [ev]
    exact p_bad f0 hr0 ht0 _ _
theorem k_bel {d e : Nat} {w : w_T} (hC : c_I e w G I J) (hw : w_O w) (x1 x2 x3 x4 : Int32) : q_W β xs L (d + 8) 83 0 [.ref 0, .int x1, .int x2, .int x3, .int x4, .retAddr 0] [] (G, I, J) (k_T (o_bel x1 x2 x3 x4 w).1 w e I J (o_bel x1 x2 x3 x4 w).2) := by
  obtain ⟨⟨nl, nq, np, nf, na, tn, tp⟩, tb, fp, D⟩ := w
  have hC0 := hC
  obtain ⟨j, hL, hD, h3, h4, h5, h6⟩ := hC
  have hn5 := hw.1.1.2.1
  have hl5 : nl ≤ 5 := hn5.1
  have hp20 : np ≤ 20 := hn5.2.2.1
  have ht : tn ≤ 999 := hw.2.2.1
  have hR := hL.2.1
  refine g_83_0 hR _ _ _ _ ?_
  refine k_bond (d := d + 5) (nl := nl) (np := np) (tn := tn) hR hD.1.2.2.1 hD.1.1 h3.1 x1 x2 x3 x4 (fun ok => ?_) (fun t ht0 hto => ?_)
  · obtain ⟨p, l, day, k, hp, hl, hd, hk, rfl, rfl, rfl, rfl⟩ := a_bond_of hp20 hl5 ht ok
    have ev : o_bel (nI p) (nI l) (nI day) (nI k) ((nl, nq, np, nf, na, tn, tp), tb, fp, D) = (0, if a_hv D day k p l (a_ways D (a_doubts D (nI k))) = 0 then 0 else if a_hv D day k p l (a_ways D (a_doubts D (nI k))) = a_ways D (a_doubts D (nI k)) then 1 else 2) := by
      unfold o_bel
      dsimp only
      rw [ok, show a_ix (nI day) = day from nI_clamp (by omega), show a_ix (nI k) = k from nI_clamp (by omega), show a_ix (nI p) = p from nI_clamp (by omega), show a_ix (nI l) = l from nI_clamp (by omega)]
    rw [ev]
    have h27 : a_ways D (a_doubts D (nI k)) ≤ 27 := (a_dbl27 hw.1.2.2.1 hw.1.2.2.2.2.1 hw.1.2.2.2.2.2 (nI k)).2
    have hle := a_hv_le D day k p l (a_ways D (a_doubts D (nI k)))
    refine q_useRv (k_ways (β := β) (xs := xs) (L := L) (d := d) hC0 hw hd (k := k) (by omega)) (by omega) (fun o h' P => ?_)
    obtain ⟨rfl, G1, I1, J1, rfl, f1, g1, C1, b1, k1, t1⟩ := P
    have R1 : q_RT G1 := by obtain ⟨j', L1, -⟩ := C1; exact L1.2.1
    have e5 : I1 34 5 = nI (a_ways D (a_doubts D (nI k))) := b1.2.1
    refine q_useI (k_with (β := β) (xs := xs) (L := L) (d := d) (D := D) R1 b1.2.1 h27 (p := p) (l := l) (by omega) (by omega) t1) (by omega) ⟨R1, ?_⟩
    dsimp only
    rw [e5]
    generalize a_hv D day k p l (a_ways D (a_doubts D (nI k))) = m at hle ⊢
    generalize a_ways D (a_doubts D (nI k)) = W at hle h27 ⊢
    have n0 : nI m = 0 ↔ m = 0 := nI_eq (b := 0) (by omega) (by omega)
    have n1 : nI m = nI W ↔ m = W := nI_eq (by omega) (by omega)
    rw [n0, n1]
    refine ⟨fun z => ⟨fun y => g_83_48 R1 _ _ _ _ _ _ ?_, fun y => g_83_48 R1 _ _ _ _ _ _ ?_⟩, fun z => ?_⟩
    · rw [if_neg z, if_neg y]; exact k_good f1 g1 C1 _
    · rw [if_neg z, if_pos y]; exact k_good f1 g1 C1 _
    · rw [if_pos z]; exact k_good f1 g1 C1 _
  · have ev : (o_bel x1 x2 x3 x4 ((nl, nq, np, nf, na, tn, tp), tb, fp, D)).1 = t := hto
    rw [ev]
    exact k_bad hC0 ht0 _
theorem p_bel {d v : Nat} {w : w_T} (hr : r_I v w I J) (hw : w_O w) (hR : q_RT G) (hv : v < 2 ^ 31) (x1 x2 x3 x4 : Int32) : q_W β xs L (d + 10) 173 0 [.ref 59, .int x1, .int x2, .int x3, .int x4, .retAddr 0] [] (G, I, J) (p_P w v G I J (o_bel x1 x2 x3 x4 w).1 (o_bel x1 x2 x3 x4 w).2) := by
  obtain ⟨⟨nl, nq, np, nf, na, tn, tp⟩, tb, fp, D⟩ := w
  have hr0 : r_I v ((nl, nq, np, nf, na, tn, tp), tb, fp, D) (am_u I 59 0 0) J := hr.c0 0
  obtain ⟨hD, h2, -⟩ := hr
  have hn5 := hw.1.1.2.1
  have hl5 : nl ≤ 5 := hn5.1
  have hp20 : np ≤ 20 := hn5.2.2.1
  have ht : tn ≤ 999 := hw.2.2.1
  have f0 : f_r I (am_u I 59 0 0) := (f_r.rf I).up _ _ (by decide)
  refine g_173_0 hR _ _ _ _ ?_
  refine p_bond (d := d + 7) (nl := nl) (np := np) (tn := tn) hR hD.1.2.2.1 hD.1.1 h2.1 x1 x2 x3 x4 (fun ok => ⟨fun _ => ?_, fun q => absurd q (by decide)⟩) (fun t ht0 hto => ⟨fun q => absurd rfl q, fun _ => ?_⟩)
  · obtain ⟨p, l, day, k, hp, hl, hd, hk, rfl, rfl, rfl, rfl⟩ := a_bond_of hp20 hl5 ht ok
    have ev : o_bel (nI p) (nI l) (nI day) (nI k) ((nl, nq, np, nf, na, tn, tp), tb, fp, D) = (0, if a_hv D day k p l (a_ways D (a_doubts D (nI k))) = 0 then 0 else if a_hv D day k p l (a_ways D (a_doubts D (nI k))) = a_ways D (a_doubts D (nI k)) then 1 else 2) := by
      unfold o_bel
      dsimp only
      rw [ok, show a_ix (nI day) = day from nI_clamp (by omega), show a_ix (nI k) = k from nI_clamp (by omega), show a_ix (nI p) = p from nI_clamp (by omega), show a_ix (nI l) = l from nI_clamp (by omega)]
    rw [ev]
    have h27 : a_ways D (a_doubts D (nI k)) ≤ 27 := (a_dbl27 hw.1.2.2.1 hw.1.2.2.2.2.1 hw.1.2.2.2.2.2 (nI k)).2
    have hle := a_hv_le D day k p l (a_ways D (a_doubts D (nI k)))
    refine q_useRv (p_finds (β := β) (xs := xs) (L := L) (d := d) hr0 hw hR hv hd (k := k) (by omega)) (by omega) (fun o h' P => ?_)
    obtain ⟨rfl, I1, rfl, f1, z1, C1, b1, t1⟩ := P
    have e5 : I1 59 52 = nI (a_ways D (a_doubts D (nI k))) := b1.2.1
    refine q_useI (p_says0 (β := β) (xs := xs) (L := L) (d := d) (D := D) hR b1.2.1 h27 (p := p) (l := l) (by omega) (by omega) t1) (by omega) ?_
    dsimp only
    rw [e5]
    generalize a_hv D day k p l (a_ways D (a_doubts D (nI k))) = m at hle ⊢
    generalize a_ways D (a_doubts D (nI k)) = W at hle h27 ⊢
    have n0 : nI m = 0 ↔ m = 0 := nI_eq (b := 0) (by omega) (by omega)
    have n1 : nI m = nI W ↔ m = W := nI_eq (by omega) (by omega)
    rw [n0, n1]
    refine ⟨fun z => ⟨fun y => g_173_52 hR _ _ _ _ _ _ ?_, fun y => g_173_52 hR _ _ _ _ _ _ ?_⟩, fun z => g_173_52 hR _ _ _ _ _ _ ?_⟩
    · rw [if_neg z, if_neg y]; exact p_good (f0.tr f1) C1 (z1.trans am_u_same) _
    · rw [if_neg z, if_pos y]; exact p_good (f0.tr f1) C1 (z1.trans am_u_same) _
    · rw [if_pos z]; exact p_good (f0.tr f1) C1 (z1.trans am_u_same) _
  · have ev : (o_bel x1 x2 x3 x4 ((nl, nq, np, nf, na, tn, tp), tb, fp, D)).1 = t := hto
    rw [ev]
    exact p_bad f0 hr0 ht0 _ _
end Qry1

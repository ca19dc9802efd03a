/-! ===== evenings, the tape, counts ===== -/
def o_ev (x : Int32) : w_T → Nat × Int32 × w_T := fun w => match w with
  | ((nl, nq, np, nf, na, tn, tp), tb, fp, D) => if x < 0 ∨ nI (999 - tn) < x then (2, 0, w) else (0, nI (tn + a_ix x), ((nl, nq, np, nf, na, tn + a_ix x, tp), tb, fp, D))
def o_count (x : Int32) : w_T → Nat × Int32 × w_T := fun w => match w with
  | ((nl, nq, np, nf, na, tn, tp), tb, fp, D) => if a_lt x 7 = false then (1, 0, w) else (0, nI (([tn, nl, nq, np, nf, na, tp] : List Nat).getD (a_ix x) 0), w)
/-- the byte of a number from bit s on -/
def a_byt (x : Int32) (s : Nat) : Nat := ((x >>> (nI s &&& 31)) &&& 255).toNatClampNeg
def t_put (tb : Nat → Nat) (n b : Nat) : Nat → Nat := fun i => if i = n then b else tb i
def t_put4 (tb : Nat → Nat) (n : Nat) (x : Int32) : Nat → Nat := t_put (t_put (t_put (t_put tb n (a_byt x 24)) (n + 1) (a_byt x 16)) (n + 2) (a_byt x 8)) (n + 3) (a_byt x 0)
def o_feed (x1 x2 x3 x4 x5 : Int32) : w_T → Int32 × w_T := fun w => match w with
  | ((nl, nq, np, nf, na, tn, tp), tb, fp, D) => if 500 < tp + 20 then (-1, w) else (nI (tp + 20), ((nl, nq, np, nf, na, tn, tp + 20), t_put4 (t_put4 (t_put4 (t_put4 (t_put4 tb tp x1) (tp + 4) x2) (tp + 8) x3) (tp + 12) x4) (tp + 16) x5, fp, D))
theorem w_ev {w : w_T} (h : w_O w) (x : Int32) : w_O (o_ev x w).2.2 := by
  obtain ⟨⟨nl, nq, np, nf, na, tn, tp⟩, tb, fp, D⟩ := w
  have hw := h
  obtain ⟨hD, hDR, ht, hp⟩ := h
  have ht' : tn ≤ 999 := ht
  unfold o_ev
  dsimp only
  split
  · exact hw
  · rename_i hno
    refine ⟨hD, hDR, ?_, hp⟩
    show tn + a_ix x ≤ 999
    obtain ⟨i, hi, hx⟩ := nI_of (x := x) (fun q => hno (Or.inl q))
    have h2 : ¬ nI (999 - tn) < nI i := fun q => hno (Or.inr (by rw [hx]; exact q))
    rw [nI_ltI (by omega) hi] at h2
    rw [hx, show a_ix (nI i) = i from nI_clamp hi]
    omega
theorem w_count {w : w_T} (h : w_O w) (x : Int32) : w_O (o_count x w).2.2 := by
  obtain ⟨⟨nl, nq, np, nf, na, tn, tp⟩, tb, fp, D⟩ := w
  unfold o_count
  dsimp only
  split
  · exact h
  · exact h
theorem w_feed {w : w_T} (h : w_O w) (x1 x2 x3 x4 x5 : Int32) : w_O (o_feed x1 x2 x3 x4 x5 w).2 := by
  obtain ⟨⟨nl, nq, np, nf, na, tn, tp⟩, tb, fp, D⟩ := w
  have hw := h
  obtain ⟨hD, hDR, ht, hp⟩ := h
  unfold o_feed
  dsimp only
  split
  · exact hw
  · refine ⟨hD, hDR, ht, ?_⟩
    show tp + 20 ≤ 500
    omega
theorem s_i8 (y : Int32) : (y &&& 255).toInt8 = y.toInt8 := by
  apply Int8.toBitVec_inj.mp
  rw [Int32.toBitVec_toInt8, Int32.toBitVec_toInt8]
  apply BitVec.eq_of_getLsbD_eq
  intro i hi
  rw [BitVec.getLsbD_signExtend, BitVec.getLsbD_signExtend, if_pos (by omega), if_pos (by omega)]
  have h := b_and y 255 i
  have h2 := b_255 i
  unfold bt at h h2
  rw [h, h2]
  simp [hi]
theorem c_byte_tab : ∀ b, b < 256 → vp_nar .byte ((nI b).toInt8.toInt32) = c_byte b := by decide +kernel
theorem a_byt_lt (x : Int32) (s : Nat) : a_byt x s < 256 ∧ (x >>> (nI s &&& 31)) &&& 255 = nI (a_byt x s) := by
  obtain ⟨b, hb, hb2⟩ := pk_andE (x >>> (nI s &&& 31)) (m := 255) 8 (by decide)
  unfold a_byt
  rw [hb2, show (nI b).toNatClampNeg = b from nI_clamp (by omega)]
  exact ⟨by omega, rfl⟩
theorem c_byte_of (x : Int32) (s : Nat) : vp_nar .byte ((x >>> (nI s &&& 31)).toInt8.toInt32) = c_byte (a_byt x s) := by
  obtain ⟨h1, h2⟩ := a_byt_lt x s
  rw [← s_i8, h2]
  exact c_byte_tab _ h1
section Inv7
variable {β : Bool} {xs : Nat → Int32} {L : Nat} {G : am_G} {I : a_F} {J : Nat → Nat → Int64}
theorem k_ev {d e : Nat} {w : w_T} (hC : c_I e w G I J) (hw : w_O w) (x : Int32) : q_W β xs L d 76 0 [.ref 0, .int x] [] (G, I, J) (k_T (o_ev x w).1 (o_ev x w).2.2 e I J (o_ev x w).2.1) := by
  obtain ⟨⟨nl, nq, np, nf, na, tn, tp⟩, tb, fp, D⟩ := w
  have hC0 := hC
  obtain ⟨j, hL, hD, h3, h4, h5, h6⟩ := hC
  have ht : tn ≤ 999 := hw.2.2.1
  have hR := hL.2.1
  have e010 : I 0 10 = nI tn := h3.1
  have esub : (999 - nI tn : Int32) = nI (999 - tn) := by rw [s_lit, pk_sub (by omega)]
  have fail : (x < 0 ∨ nI (999 - tn) < x) → q_W β xs L d 76 16 [.ref 0, .int x] [] (G, I, J) (k_T (o_ev x ((nl, nq, np, nf, na, tn, tp), tb, fp, D)).1 (o_ev x ((nl, nq, np, nf, na, tn, tp), tb, fp, D)).2.2 e I J (o_ev x ((nl, nq, np, nf, na, tn, tp), tb, fp, D)).2.1) := fun z => by
    have eo : o_ev x ((nl, nq, np, nf, na, tn, tp), tb, fp, D) = (2, 0, ((nl, nq, np, nf, na, tn, tp), tb, fp, D)) := if_pos z
    rw [eo]
    exact g_76_16 hR _ ⟨rfl, e + 1, _, I, J, Nat.le_refl _, rfl, f_c.rf I, f_c.rf J, c_inv.tw hC0⟩
  refine g_76_0 hR _ ?_
  rw [e010, esub]
  refine ⟨fun z => fail (Or.inl z), fun z => ⟨fun y => ?_, fun y => fail (Or.inr y)⟩⟩
  have eo : o_ev x ((nl, nq, np, nf, na, tn, tp), tb, fp, D) = (0, nI (tn + a_ix x), ((nl, nq, np, nf, na, tn + a_ix x, tp), tb, fp, D)) := if_neg (fun q => q.elim z y)
  obtain ⟨i, hi, hx⟩ := nI_of z
  have ex : nI tn + x = nI (tn + a_ix x) := by rw [hx, show a_ix (nI i) = i from nI_clamp hi, nI_add]
  rw [eo, ex]
  refine ⟨rfl, e, G, _, J, Nat.le_succ _, rfl, (f_c.rf I).up _ _ (by decide), f_c.rf J, j, hL, hD, ⟨am_u_same, h3.2.1, h3.2.2⟩, h4, h5.keep (fun c a b => am_u_row _ _ _ _ (by omega)) rfl, h6⟩
theorem p_ev {d v : Nat} {w : w_T} (hr : r_I v w I J) (hw : w_O w) (hR : q_RT G) (x : Int32) : q_W β xs L (d + 1) 113 0 [.ref 59, .int x] [] (G, I, J) (p_P (o_ev x w).2.2 v G I J (if (o_ev x w).1 = 0 then 0 else 1) (o_ev x w).2.1) := by
  obtain ⟨⟨nl, nq, np, nf, na, tn, tp⟩, tb, fp, D⟩ := w
  have hr1 := (hr.c0 0).c0 2
  obtain ⟨hD, h2, h3, ⟨ve, fv, h4, h5, h6, h7, h8⟩, h9⟩ := hr
  have ht : tn ≤ 999 := hw.2.2.1
  have e1 : I 59 1 = nI tn := h2.1
  have e0 : am_u I 59 0 0 59 0 = 0 := am_u_same
  have esub : (999 - nI tn : Int32) = nI (999 - tn) := by rw [s_lit, pk_sub (by omega)]
  have fail : (x < 0 ∨ nI (999 - tn) < x) → q_W β xs L (d + 1) 113 33 [.ref 59, .int x] [.ref 59] (G, am_u I 59 0 0, J) (p_P (o_ev x ((nl, nq, np, nf, na, tn, tp), tb, fp, D)).2.2 v G I J (if (o_ev x ((nl, nq, np, nf, na, tn, tp), tb, fp, D)).1 = 0 then 0 else 1) (o_ev x ((nl, nq, np, nf, na, tn, tp), tb, fp, D)).2.1) := fun z => by
    have eo : o_ev x ((nl, nq, np, nf, na, tn, tp), tb, fp, D) = (2, 0, ((nl, nq, np, nf, na, tn, tp), tb, fp, D)) := if_pos z
    rw [eo]
    exact g_113_33 hR _ (g_113_34 hR _ _ (q_right (d := d) hR false e0 (by decide) (Nat.le_refl _) (fun q => by cases q) (fun _ => ⟨fun q => absurd rfl q, fun _ => ⟨_, _, J, rfl, fun q => absurd q (show ¬ (1 : Nat) = 0 by decide), rfl, ((f_r.rf I).up _ _ (by decide)).up _ _ (by decide), f_r.rf J, am_u_same, hr1.mono (Nat.le_succ _)⟩⟩)))
  refine g_113_0 hR _ ?_
  rw [e1, esub]
  refine ⟨fun z => fail (Or.inl z), fun z => ⟨fun y => fail (Or.inr ?_), fun y => ⟨fun u => fail (Or.inr u), fun u => ?_⟩⟩⟩
  · obtain ⟨i, hi, hx⟩ := nI_of z
    rw [hx] at y ⊢
    have h1 : 999 < i := (nI_ltI (a := 999) (by omega) hi).mp y
    exact (nI_ltI (by omega) hi).mpr (by omega)
  · have eo : o_ev x ((nl, nq, np, nf, na, tn, tp), tb, fp, D) = (0, nI (tn + a_ix x), ((nl, nq, np, nf, na, tn + a_ix x, tp), tb, fp, D)) := if_neg (fun q => q.elim z u)
    obtain ⟨i, hi, hx⟩ := nI_of z
    have ex : nI tn + x = nI (tn + a_ix x) := by rw [hx, show a_ix (nI i) = i from nI_clamp hi, nI_add]
    have e1' : am_u I 59 0 0 59 1 = nI tn := e1
    refine g_113_34 hR _ _ (q_right (d := d) hR true e0 (by decide) (Nat.le_refl _) (fun _ => ⟨fun _ => ?_, fun q => absurd q (by decide)⟩) (fun q => by cases q))
    rw [e1', ex, eo]
    refine ⟨_, _, J, rfl, fun _ => rfl, rfl, ((f_r.rf I).up _ _ (by decide)).up _ _ (by decide), f_r.rf J, rfl, hD.keep (fun c i hc => ?_), ⟨am_u_same, h2.2.1, h2.2.2⟩, h3, ⟨ve, fv, by omega, h5, h6, h7, h8⟩, h9⟩
    rw [am_u_ne, am_u_ne]
    · by_cases h59 : c = 59
      · subst h59; exact Or.inr (fun q => by subst q; cases hc)
      · exact Or.inl h59
    · by_cases h59 : c = 59
      · subst h59; exact Or.inr (fun q => by subst q; cases hc)
      · exact Or.inl h59
theorem k_fault {d e : Nat} {w : w_T} (hC : c_I e w G I J) : q_W β xs L d 79 0 [.ref 0] [] (G, I, J) (k_P w e 0 I J w.2.2.1) := by
  obtain ⟨⟨nl, nq, np, nf, na, tn, tp⟩, tb, fp, D⟩ := w
  have hC0 := hC
  obtain ⟨j, hL, hD, h3, h4, h5, h6⟩ := hC
  refine g_79_0 hL.2.1 ?_
  rw [show I 32 11 = fp from h3.2.2]
  exact ⟨rfl, G, I, J, rfl, f_c.rf I, f_c.rf J, hC0⟩
theorem p_fault {d v : Nat} {w : w_T} (hr : r_I v w I J) (hR : q_RT G) : q_W β xs L d 139 0 [.ref 59] [] (G, I, J) (p_P w v G I J 0 w.2.2.1) := by
  obtain ⟨⟨nl, nq, np, nf, na, tn, tp⟩, tb, fp, D⟩ := w
  have hr0 := hr.c0 0
  obtain ⟨hD, h2, h3, h4, h9⟩ := hr
  refine g_139_0 hR ?_
  rw [show I 59 22 = fp from h2.2.2]
  exact ⟨_, _, J, rfl, fun _ => rfl, rfl, (f_r.rf I).up _ _ (by decide), f_r.rf J, am_u_same, hr0.mono (Nat.le_succ _)⟩
theorem a_lt_not {x : Int32} {n : Nat} (hn : n < 2 ^ 31) (h : a_lt x n = false) : x.toInt < 0 ∨ (n : Int) ≤ x.toInt := by
  unfold a_lt at h
  rw [Bool.and_eq_false_iff] at h
  rcases h with h | h
  · left
    have h1 : x < 0 := by simpa using h
    rw [Int32.lt_iff_toInt_lt] at h1
    exact h1
  · right
    have h1 := of_decide_eq_false h
    rw [Int32.lt_iff_toInt_lt, nI_toInt hn] at h1
    omega
theorem k_count {d e : Nat} {w : w_T} (hC : c_I e w G I J) (x : Int32) : q_W β xs L d 90 0 [.ref 0, .int x] [] (G, I, J) (k_T (o_count x w).1 (o_count x w).2.2 e I J (o_count x w).2.1) := by
  obtain ⟨⟨nl, nq, np, nf, na, tn, tp⟩, tb, fp, D⟩ := w
  have hC0 := hC
  obtain ⟨j, hL, hD, h3, h4, h5, h6⟩ := hC
  have hR := hL.2.1
  refine g_90_0 hR _ ?_
  cases hlt : a_lt x 7 with
  | false =>
    have eo : o_count x ((nl, nq, np, nf, na, tn, tp), tb, fp, D) = (1, 0, ((nl, nq, np, nf, na, tn, tp), tb, fp, D)) := if_pos hlt
    refine ⟨94, ?_, g_90_94 hR _ ?_⟩
    · have := a_lt_not (by decide) hlt
      unfold q_sw
      rw [if_pos (by omega)]
    · rw [eo]
      exact ⟨rfl, e + 1, _, I, J, Nat.le_refl _, rfl, f_c.rf I, f_c.rf J, c_inv.tw hC0⟩
  | true =>
    have eo : o_count x ((nl, nq, np, nf, na, tn, tp), tb, fp, D) = (0, nI (([tn, nl, nq, np, nf, na, tp] : List Nat).getD (a_ix x) 0), ((nl, nq, np, nf, na, tn, tp), tb, fp, D)) := if_neg (by rw [hlt]; decide)
    obtain ⟨i, hi, hx⟩ := a_lt_of (by decide) hlt
    subst hx
    have ei : a_ix (nI i) = i := nI_clamp (by omega)
    rw [eo, ei]
    have fin : ∀ n : Nat, k_T 0 ((nl, nq, np, nf, na, tn, tp), tb, fp, D) e I J (nI n) (.inl (some (.int (nI n)))) (G, I, J) := fun n => ⟨rfl, e, G, I, J, Nat.le_succ _, rfl, f_c.rf I, f_c.rf J, hC0⟩
    have h7 : i = 0 ∨ i = 1 ∨ i = 2 ∨ i = 3 ∨ i = 4 ∨ i = 5 ∨ i = 6 := by omega
    rcases h7 with h | h | h | h | h | h | h <;> subst h
    · refine ⟨44, by decide, g_90_44 hR _ ?_⟩
      rw [show I 0 10 = nI tn from h3.1]; exact fin tn
    · refine ⟨49, by decide, g_90_49 hR _ ?_⟩
      rw [show I 1 2 = nI nl from hD.1.1]; exact fin nl
    · refine ⟨57, by decide, g_90_57 hR _ ?_⟩
      rw [show I 1 1 = nI nq from hD.1.2.1]; exact fin nq
    · refine ⟨65, by decide, g_90_65 hR _ ?_⟩
      rw [show I 3 3 = nI np from hD.1.2.2.1]; exact fin np
    · refine ⟨73, by decide, g_90_73 hR _ ?_⟩
      rw [show I 7 8 = nI nf from hD.1.2.2.2.1]; exact fin nf
    · refine ⟨81, by decide, g_90_81 hR _ ?_⟩
      rw [show I 16 15 = nI na from hD.1.2.2.2.2]; exact fin na
    · refine ⟨89, by decide, g_90_89 hR _ ?_⟩
      rw [show I 0 9 = nI tp from h3.2.1]; exact fin tp
theorem p_count {d v : Nat} {w : w_T} (hr : r_I v w I J) (hR : q_RT G) (x : Int32) : q_W β xs L (d + 1) 182 0 [.ref 59, .int x] [] (G, I, J) (p_P (o_count x w).2.2 v G I J (o_count x w).1 (o_count x w).2.1) := by
  obtain ⟨⟨nl, nq, np, nf, na, tn, tp⟩, tb, fp, D⟩ := w
  have hr0 := hr.c0 0
  have hr1 := (hr.c0 0).c0 1
  obtain ⟨hD, h2, h3, h4, h9⟩ := hr
  have e0 : am_u I 59 0 0 59 0 = 0 := am_u_same
  have fail : a_lt x 7 = false → q_W β xs L (d + 1) 182 20 [.ref 59, .int x] [.ref 59] (G, am_u I 59 0 0, J) (p_P (o_count x ((nl, nq, np, nf, na, tn, tp), tb, fp, D)).2.2 v G I J (o_count x ((nl, nq, np, nf, na, tn, tp), tb, fp, D)).1 (o_count x ((nl, nq, np, nf, na, tn, tp), tb, fp, D)).2.1) := fun z => by
    have eo : o_count x ((nl, nq, np, nf, na, tn, tp), tb, fp, D) = (1, 0, ((nl, nq, np, nf, na, tn, tp), tb, fp, D)) := if_pos z
    rw [eo]
    exact g_182_20 hR _ (g_182_21 hR _ _ (q_right (d := d) hR false e0 (by decide) (Nat.le_refl _) (fun q => by cases q) (fun _ => ⟨fun q => absurd rfl q, fun _ => ⟨_, _, J, rfl, fun q => absurd q (show ¬ (1 : Nat) = 0 by decide), rfl, ((f_r.rf I).up _ _ (by decide)).up _ _ (by decide), f_r.rf J, am_u_same, hr1.mono (Nat.le_succ _)⟩⟩)))
  refine g_182_0 hR _ ⟨fun z => fail (by simp [a_lt, z]), fun z => ?_⟩
  obtain ⟨i, hi, hx⟩ := nI_of z
  subst hx
  have g6 : (6 : Int32) < nI i ↔ 6 < i := nI_ltI (a := 6) (by omega) hi
  rw [g6]
  refine ⟨fun y => fail ?_, fun y => ?_⟩
  · unfold a_lt
    rw [decide_eq_false (fun q => by have := (nI_ltI hi (b := 7) (by omega)).mp q; omega : ¬ nI i < nI 7), Bool.and_false]
  · have hlt : a_lt (nI i) 7 = true := by
      unfold a_lt
      rw [decide_eq_false (nI_pos (by omega)), decide_eq_true ((nI_ltI hi (b := 7) (by omega)).mpr (by omega))]
      rfl
    have eo : o_count (nI i) ((nl, nq, np, nf, na, tn, tp), tb, fp, D) = (0, nI (([tn, nl, nq, np, nf, na, tp] : List Nat).getD (a_ix (nI i)) 0), ((nl, nq, np, nf, na, tn, tp), tb, fp, D)) := if_neg (by rw [hlt]; decide)
    have ei : a_ix (nI i) = i := nI_clamp (by omega)
    rw [eo, ei]
    refine g_182_21 hR _ _ (q_right (d := d) hR true e0 (by decide) (Nat.le_refl _) (fun _ => ⟨fun _ => ?_, fun q => absurd q (by decide)⟩) (fun q => by cases q))
    have fin : ∀ n : Nat, p_P ((nl, nq, np, nf, na, tn, tp), tb, fp, D) v G I J 0 (nI n) (.inl (some (.int (nI n)))) (G, am_u I 59 0 0, J) := fun n => ⟨_, _, J, rfl, fun _ => rfl, rfl, (f_r.rf I).up _ _ (by decide), f_r.rf J, am_u_same, hr0.mono (Nat.le_succ _)⟩
    have h7 : i = 0 ∨ i = 1 ∨ i = 2 ∨ i = 3 ∨ i = 4 ∨ i = 5 ∨ i = 6 := by omega
    rcases h7 with h | h | h | h | h | h | h <;> subst h
    · refine ⟨68, by decide, g_182_68 hR _ ?_⟩
      rw [show am_u I 59 0 0 59 1 = nI tn from h2.1]; exact fin tn
    · refine ⟨73, by decide, g_182_73 hR _ ?_⟩
      rw [show am_u I 59 0 0 59 3 = nI nl from hD.1.1]; exact fin nl
    · refine ⟨78, by decide, g_182_78 hR _ ?_⟩
      rw [show am_u I 59 0 0 59 4 = nI nq from hD.1.2.1]; exact fin nq
    · refine ⟨83, by decide, g_182_83 hR _ ?_⟩
      rw [show am_u I 59 0 0 59 5 = nI np from hD.1.2.2.1]; exact fin np
    · refine ⟨88, by decide, g_182_88 hR _ ?_⟩
      rw [show am_u I 59 0 0 59 6 = nI nf from hD.1.2.2.2.1]; exact fin nf
    · refine ⟨93, by decide, g_182_93 hR _ ?_⟩
      rw [show am_u I 59 0 0 59 32 = nI na from hD.1.2.2.2.2]; exact fin na
    · refine ⟨98, by decide, g_182_98 hR _ ?_⟩
      rw [show am_u I 59 0 0 59 20 = nI tp from h2.2.1]; exact fin tp
end Inv7

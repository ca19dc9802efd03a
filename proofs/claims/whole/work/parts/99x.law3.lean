/-! ===== the law: act, evenings, back, force ===== -/
def yl_Wa (x1 x2 x3 x4 : Int32) (w : w_T) : w_T → Prop := fun w' => match (o_act x1 x2 x3 x4 w).2.2 with
  | .inl w1 => w' = w1
  | .inr l => ∃ D', a_new w.2.2.2 D' w.1.2.2.2.2.1 l x1 x3 x4 w.1.2.2.2.2.2.1 ∧ w' = o_new D' w
theorem o_act_c (x1 x2 x3 x4 : Int32) (w : w_T) : (o_act x1 x2 x3 x4 w).1 = 0 ∨ (o_act x1 x2 x3 x4 w).1 = 1 ∨ (o_act x1 x2 x3 x4 w).1 = 2 := by
  obtain ⟨⟨nl, nq, np, nf, na, tn, tp⟩, tb, fp, D⟩ := w
  unfold o_act
  dsimp only
  repeat' split
  all_goals simp
theorem w_actI {x1 x2 x3 x4 : Int32} {w w1 : w_T} (hw : w_O w) (h : (o_act x1 x2 x3 x4 w).2.2 = .inl w1) : w_O w1 := by
  obtain ⟨⟨nl, nq, np, nf, na, tn, tp⟩, tb, fp, D⟩ := w
  have h0 : ∀ tb' fp', w_O ((nl, nq, np, nf, na, tn, 0), tb', fp', D) := fun _ _ => ⟨hw.1, hw.2.1, hw.2.2.1, Nat.zero_le _⟩
  unfold o_act at h
  dsimp only at h
  repeat' split at h
  all_goals first
    | (cases h; exact hw)
    | (cases h; exact h0 _ _)
    | (cases h; done)
theorem o_act_r {x1 x2 x3 x4 : Int32} {w : w_T} {l : List yx_K} (h : (o_act x1 x2 x3 x4 w).2.2 = .inr l) : (o_act x1 x2 x3 x4 w).1 = 0 := by
  obtain ⟨⟨nl, nq, np, nf, na, tn, tp⟩, tb, fp, D⟩ := w
  unfold o_act at h ⊢
  dsimp only at h ⊢
  by_cases a : a_lt x1 nl = false
  · rw [if_pos a] at h
    cases h
  rw [if_neg a] at h ⊢
  by_cases b : a_ev x2 tp = false
  · rw [if_pos b] at h
    cases h
  rw [if_neg b] at h ⊢
  by_cases c : na = 12 ∨ a_dy x3 = false ∨ a_dy x4 = false
  · rw [if_pos c] at h
    cases h
  rw [if_neg c] at h ⊢
  revert h
  split
  · intro h
    cases h
  · intro h
    rfl
section Law3
variable {β : Bool} {xs : Nat → Int32} {L : Nat} {G : am_G} {I : a_F} {J : Nat → Nat → Int64}
theorem yl_wa {d K : Nat} {ls : List Value} {t : Nat} {val : Int32} {Wp : w_T → Prop} {w0 : w_T} {e : Nat} {P : am_O → am_H → Prop} {E : Nat → am_G → (Nat → Nat → Int32) → (Nat → Nat → Int64) → Prop} (hw : q_W β xs L d K 0 ls [] (G, I, J) P) (h0 : Wp w0) (hP : ∀ o h, P o h → ∀ w', Wp w' → k_T t w' e I J val o h)
    (hE : t ≠ 0 → ∀ G1 I1 J1, q_RT G1 → yl_U t Wp e I J val.toInt64 (.inl (some (.int (nI t)))) (G1, I1, J1) → E t G1 I1 J1) :
    q_W β xs L d K 0 ls [] (G, I, J) (q_Ri (fun y1 G1 I1 J1 => am_is 0 1 = true ∧ yl_U t Wp e I J val.toInt64 (.inl (some (.int 0))) (G1, I1, am_u J1 117 (0 : Int32).toNatClampNeg y1.toInt64)) E) := by
  refine q_useR hw (Nat.le_refl _) (fun o h' hq => ?_)
  have hA := hP o h' hq
  obtain ⟨ho, e', G1, I1, J1, he, rfl, hf, hj, hC⟩ := hA w0 h0
  have hB : ∀ w', Wp w' → ∃ e', e' ≤ e + 1 ∧ c_I e' w' G1 I1 J1 := fun w' hw' => by
    obtain ⟨-, e2, G2, I2, J2, he2, heq, -, -, hC2⟩ := hA w' hw'
    cases heq
    exact ⟨e2, he2, hC2⟩
  by_cases h0 : t = 0
  · rw [if_pos h0] at ho
    subst ho
    refine ⟨rfl, G1, I1, _, by rw [h0]; rfl, rfl, hC.RT, hf, hj.up _ _ (Or.inr (Nat.le_refl _)), fun w hw => ?_, fun _ => am_u_same⟩
    obtain ⟨e2, q1, q2⟩ := hB w hw
    exact ⟨e2, q1, q2.out _⟩
  · rw [if_neg h0] at ho
    subst ho
    exact hE h0 G1 I1 J1 hC.RT ⟨G1, I1, J1, rfl, rfl, hC.RT, hf, hj, hB, fun z => absurd z h0⟩
theorem yl_pa {v : Nat} {w : w_T} {d : Nat} (hr : r_I v w I J) (hw : w_O w) (hR : q_RT G) (x1 x2 x3 x4 : Int32) : q_W β xs L (d + 7) 138 0 [.ref 59, .int x1, .int x2, .int x3, .int x4, .retAddr 0] [] (G, I, J) (yl_R (o_act x1 x2 x3 x4 w).1 (yl_Wa x1 x2 x3 x4 w) v G I J (o_act x1 x2 x3 x4 w).2.1) := by
  refine q_mono (p_act (d := d) hr hw hR x1 x2 x3 x4) (Nat.le_refl _) (fun o h hq => ?_)
  split at hq
  · rename_i w1 hw1
    exact ⟨w1, by unfold yl_Wa; rw [hw1], w_actI hw hw1, hq⟩
  · rename_i l hl
    obtain ⟨ht, D', h1, h2, h3⟩ := hq
    refine ⟨o_new D' w, by unfold yl_Wa; rw [hl]; exact ⟨D', h1, rfl⟩, h2, ?_⟩
    rw [ht]
    exact h3
theorem u_act {d e v : Nat} {w : w_T} (hC : c_I e w G I J) (hr : r_I v w I J) (hw : w_O w) (x1 x2 x3 x4 : Int32) : q_W β xs L (d + 47 + 1) 187 0 [.ref 0, .int x1, .int x2, .int x3, .int x4, .ref 117, .retAddr 0] [] (G, I, J) (yl_U (o_act x1 x2 x3 x4 w).1 (yl_Wa x1 x2 x3 x4 w) e I J (o_act x1 x2 x3 x4 w).2.1.toInt64) := by
  have hne : ∃ w0, yl_Wa x1 x2 x3 x4 w w0 := by
    obtain ⟨n, o, h1, -, w', hw', -⟩ := yl_pa (β := β) (xs := xs) (L := L) (d := d) hr hw hC.RT x1 x2 x3 x4
    exact ⟨w', hw'⟩
  obtain ⟨w0, hw0⟩ := hne
  have htb : ∀ i, i < w.1.2.2.2.2.2.2 → w.2.1 i < 256 := fun i hi => (hr.2.2.1 i hi).1
  refine g_187_0 hC.RT _ _ _ _ (yl_wa (k_act (d := d) hC hw htb x1 x2 x3 x4) hw0 (fun o h hq w' hw' => ?_) (fun ht G1 I1 J1 hR1 hU => ?_))
  · split at hq
    · rename_i w1 hw1
      unfold yl_Wa at hw'
      rw [hw1] at hw'
      have hw' : w' = w1 := hw'
      rw [hw']
      exact hq
    · rename_i l hl
      unfold yl_Wa at hw'
      rw [hl] at hw'
      obtain ⟨D', h1, rfl⟩ := hw'
      have ht := o_act_r hl
      rw [ht]
      exact hq D' h1
  · rcases (o_act_c x1 x2 x3 x4 w).resolve_left ht with h1 | h1
    · rw [h1] at hU ⊢
      exact yl_x rfl (g_187_19 hR1 _ _ _ _ hU)
    · rw [h1] at hU ⊢
      exact yl_x rfl (g_187_23 hR1 _ _ _ _ hU)
theorem l_act {d m : Nat} {i4 : Int32} {v5 v6 : Value} {Q : am_O → am_H → Prop} (n5 : am_nl v5 = true) (n6 : am_nl v6 = true) (hm : m ≤ 512) (hs : yl_is i4 L) (hI : yl_I m G I J) (hN : ∀ v5 v6 G I J, am_nl v5 = true → am_nl v6 = true → yl_I (m + 1) G I J → q_W β xs L (d + 60 + 1) 199 1697 [.retAddr 1, .ref 0, .ref 59, .ref 117, .int i4, v5, v6] [] (G, I, J) Q) : q_W β xs L (d + 60 + 1) 199 619 [.retAddr 1, .ref 0, .ref 59, .ref 117, .int i4, v5, v6] [] (G, I, J) Q := by
  obtain ⟨w, e, v, he, hv, hw, hC, hr⟩ := hI
  obtain ⟨s1, s2, s3, s4, s5, s6⟩ := hs
  refine g_199_619 hC.RT _ _ _ n5 n6 ?_
  refine ⟨s1, s2, s3, s4, yl_A (u_act (d := d) hC hr hw (xs (i4 + 1).toNatClampNeg) (xs (i4 + 2).toNatClampNeg) (xs (i4 + 3).toNatClampNeg) (xs (i4 + 4).toNatClampNeg)) (by omega) (fun G1 I1 J1 hR1 h1 h2 hW hx => ?_)⟩
  refine ⟨s1, s2, s3, s4, yl_B (m := m) (yl_pa (d := d) (hr.fc h1 h2) hw hR1 (xs (i4 + 1).toNatClampNeg) (xs (i4 + 2).toNatClampNeg) (xs (i4 + 3).toNatClampNeg) (xs (i4 + 4).toNatClampNeg)) (by omega) hR1 (fun w' z => by obtain ⟨e', z1, z2⟩ := hW w' z; exact ⟨e', by omega, z2⟩) (by omega) hx (o_act_c (xs (i4 + 1).toNatClampNeg) (xs (i4 + 2).toNatClampNeg) (xs (i4 + 3).toNatClampNeg) (xs (i4 + 4).toNatClampNeg) w) (fun y1 y2 G I J hI => ?_)⟩
  exact g_199_708 hI.RT _ _ _ (hN _ _ _ _ _ rfl rfl hI)
theorem l_ev {d m : Nat} {i4 : Int32} {v5 v6 : Value} {Q : am_O → am_H → Prop} (n5 : am_nl v5 = true) (n6 : am_nl v6 = true) (hm : m ≤ 512) (hs : yl_is i4 L) (hI : yl_I m G I J) (hN : ∀ v5 v6 G I J, am_nl v5 = true → am_nl v6 = true → yl_I (m + 1) G I J → q_W β xs L (d + 60 + 1) 199 1697 [.retAddr 1, .ref 0, .ref 59, .ref 117, .int i4, v5, v6] [] (G, I, J) Q) : q_W β xs L (d + 60 + 1) 199 490 [.retAddr 1, .ref 0, .ref 59, .ref 117, .int i4, v5, v6] [] (G, I, J) Q := by
  obtain ⟨w, e, v, he, hv, hw, hC, hr⟩ := hI
  obtain ⟨s1, s2, s3, s4, s5, s6⟩ := hs
  refine g_199_490 hC.RT _ _ _ n5 n6 ?_
  refine ⟨s1, yl_A (u_ev (d := d) hC hw (xs (i4 + 1).toNatClampNeg)) (by omega) (fun G1 I1 J1 hR1 h1 h2 hW hx => ?_)⟩
  refine ⟨s1, yl_B (m := m) (yl_P (w_ev hw (xs (i4 + 1).toNatClampNeg)) (p_ev (d := d) (hr.fc h1 h2) hw hR1 (xs (i4 + 1).toNatClampNeg))) (by omega) hR1 (fun w' z => by obtain ⟨e', z1, z2⟩ := hW w' z; exact ⟨e', by omega, z2⟩) (by omega) hx (by split <;> simp) (fun y1 y2 G I J hI => ?_)⟩
  exact g_199_543 hI.RT _ _ _ (hN _ _ _ _ _ rfl rfl hI)
/-- the end of a turn whose answer is a truth -/
theorem l_tr {d m pcz pcc t : Nat} {i4 y : Int32} {Q : am_O → am_H → Prop} {G : am_G} {I1 : a_F} {J1 : Nat → Nat → Int64} (hI2 : yl_I (m + 1) G I1 J1) (h3 : I1 59 0 = nI t) (hx : t = 0 → J1 117 0 = yl_b y) (ht : t = 0 ∨ t = 1 ∨ t = 2)
    (hz : q_W β xs L (d + 60 + 1) 199 pcz [.retAddr 1, .ref 0, .ref 59, .ref 117, .int i4, .int (nI t), .int y] [] (G, I1, J1) Q)
    (hc : ∀ a b : Int64, ((if b > a then (1 : Int32) else if b = a then 0 else -1) = 0 → q_W β xs L (d + 60 + 1) 199 pcz [.retAddr 1, .ref 0, .ref 59, .ref 117, .int i4, .int (nI t), .int y] [] (G, I1, J1) Q) ∧ (¬ (if b > a then (1 : Int32) else if b = a then 0 else -1) = 0 → (((0 : Int32) = 0 ∨ (0 : Int32) = 1) ∧ Q (.inl (some (.int 0))) (G, I1, J1))) → q_W β xs L (d + 60 + 1) 199 pcc [.retAddr 1, .ref 0, .ref 59, .ref 117, .int i4, .int (nI t), .int y] [.long a, .long b] (G, I1, J1) Q) :
    ((I1 59 0 = nI t → ((¬ nI t = 0 → q_W β xs L (d + 60 + 1) 199 pcz [.retAddr 1, .ref 0, .ref 59, .ref 117, .int i4, .int (nI t), .int y] [] (G, I1, J1) Q) ∧ (nI t = 0 → (am_is 0 1 = true ∧ ((y = 0 → q_W β xs L (d + 60 + 1) 199 pcc [.retAddr 1, .ref 0, .ref 59, .ref 117, .int i4, .int (nI t), .int y] [.long 0, .long (J1 117 (0 : Int32).toNatClampNeg)] (G, I1, J1) Q) ∧ (¬ y = 0 → q_W β xs L (d + 60 + 1) 199 pcc [.retAddr 1, .ref 0, .ref 59, .ref 117, .int i4, .int (nI t), .int y] [.long 1, .long (J1 117 (0 : Int32).toNatClampNeg)] (G, I1, J1) Q)))))) ∧ (¬ I1 59 0 = nI t → (((0 : Int32) = 0 ∨ (0 : Int32) = 1) ∧ Q (.inl (some (.int 0))) (G, I1, J1)))) := by
  refine ⟨fun _ => ⟨fun _ => hz, fun z => ⟨rfl, fun q => hc _ _ ⟨fun _ => hz, fun q2 => absurd (yl_cmp ?_) q2⟩, fun q => hc _ _ ⟨fun _ => hz, fun q2 => absurd (yl_cmp ?_) q2⟩⟩⟩, fun q => absurd h3 q⟩
  · exact (hx ((yl_t0 ht).mp z)).trans (if_pos q)
  · exact (hx ((yl_t0 ht).mp z)).trans (if_neg q)
theorem l_force {d m : Nat} {i4 : Int32} {v5 v6 : Value} {Q : am_O → am_H → Prop} (n5 : am_nl v5 = true) (n6 : am_nl v6 = true) (hm : m ≤ 512) (hs : yl_is i4 L) (hI : yl_I m G I J) (hN : ∀ v5 v6 G I J, am_nl v5 = true → am_nl v6 = true → yl_I (m + 1) G I J → q_W β xs L (d + 60 + 1) 199 1697 [.retAddr 1, .ref 0, .ref 59, .ref 117, .int i4, v5, v6] [] (G, I, J) Q) : q_W β xs L (d + 60 + 1) 199 724 [.retAddr 1, .ref 0, .ref 59, .ref 117, .int i4, v5, v6] [] (G, I, J) Q := by
  obtain ⟨w, e, v, he, hv, hw, hC, hr⟩ := hI
  obtain ⟨s1, s2, s3, s4, s5, s6⟩ := hs
  refine g_199_724 hC.RT _ _ _ n5 n6 ?_
  refine ⟨s1, s2, s3, yl_A (u_force (d := d) hC hw (xs (i4 + 1).toNatClampNeg) (xs (i4 + 2).toNatClampNeg) (xs (i4 + 3).toNatClampNeg)) (by omega) (fun G1 I1 J1 hR1 h1 h2 hW hx => ?_)⟩
  refine ⟨s1, s2, s3, yl_Bb (m := m) (yl_P hw (p_force (d := d) (hr.fc h1 h2) hw hR1 (xs (i4 + 1).toNatClampNeg) (xs (i4 + 2).toNatClampNeg) (xs (i4 + 3).toNatClampNeg))) (by omega) (fun w' z => by obtain ⟨e', z1, z2⟩ := hW w' z; exact ⟨e', by omega, z2⟩) (by omega) hx (fun y I2 J2 hI2 h3 hx2 => ?_)⟩
  refine g_102_0 hR1 ?_
  have hz := g_199_808 (d := d + 60) (β := β) (xs := xs) (L := L) hI2.RT i4 (nI (o_force (xs (i4 + 1).toNatClampNeg) (xs (i4 + 2).toNatClampNeg) (xs (i4 + 3).toNatClampNeg) w).1) y (hN _ _ _ _ _ rfl rfl hI2)
  exact l_tr hI2 h3 hx2 (o_force_c (xs (i4 + 1).toNatClampNeg) (xs (i4 + 2).toNatClampNeg) (xs (i4 + 3).toNatClampNeg) w) hz (fun a b hh => g_199_802 hI2.RT _ _ _ _ _ hh)
theorem l_back {d m : Nat} {i4 : Int32} {v5 v6 : Value} {Q : am_O → am_H → Prop} (n5 : am_nl v5 = true) (n6 : am_nl v6 = true) (hm : m ≤ 512) (hs : yl_is i4 L) (hI : yl_I m G I J) (hN : ∀ v5 v6 G I J, am_nl v5 = true → am_nl v6 = true → yl_I (m + 1) G I J → q_W β xs L (d + 60 + 1) 199 1697 [.retAddr 1, .ref 0, .ref 59, .ref 117, .int i4, v5, v6] [] (G, I, J) Q) : q_W β xs L (d + 60 + 1) 199 399 [.retAddr 1, .ref 0, .ref 59, .ref 117, .int i4, v5, v6] [] (G, I, J) Q := by
  obtain ⟨w, e, v, he, hv, hw, hC, hr⟩ := hI
  obtain ⟨s1, s2, s3, s4, s5, s6⟩ := hs
  refine g_199_399 hC.RT _ _ _ n5 n6 ⟨s1, ?_⟩
  have hB : ∀ b : Bool, ((xs (i4 + 1).toNatClampNeg = 0) ↔ b = false) → q_W β xs L (d + 60 + 1) 199 414 [.retAddr 1, .ref 0, .ref 59, .ref 117, .int i4, v5, v6] [.int (a_is b), .ref 0] (G, I, J) Q := fun b hb => by
    refine g_199_414 hC.RT _ _ _ _ n5 n6 ?_
    refine ⟨s2, yl_A (u_back (d := d) hC hw b (xs (i4 + 2).toNatClampNeg)) (by omega) (fun G1 I1 J1 hR1 h1 h2 hW hx => ?_)⟩
    have h441 : q_W β xs L (d + 60 + 1) 199 441 [.retAddr 1, .ref 0, .ref 59, .ref 117, .int i4, .int (nI (o_back b (xs (i4 + 2).toNatClampNeg) w).1), v6] [.int (a_is b), .ref 59] (G1, I1, J1) Q := by
      refine g_199_441 hR1 _ _ _ _ n6 ?_
      refine ⟨s2, yl_Bb (m := m) (yl_P (w_back hw b (xs (i4 + 2).toNatClampNeg)) (p_back (d := d) (hr.fc h1 h2) hw hR1 b (xs (i4 + 2).toNatClampNeg))) (by omega) (fun w' z => by obtain ⟨e', z1, z2⟩ := hW w' z; exact ⟨e', by omega, z2⟩) (by omega) hx (fun y I2 J2 hI2 h3 hx2 => ?_)⟩
      refine g_102_0 hR1 ?_
      have hz := g_199_487 (d := d + 60) (β := β) (xs := xs) (L := L) hI2.RT i4 (nI (o_back b (xs (i4 + 2).toNatClampNeg) w).1) y (hN _ _ _ _ _ rfl rfl hI2)
      exact l_tr hI2 h3 hx2 (by rcases o_back_c b (xs (i4 + 2).toNatClampNeg) w with z | z <;> simp [z]) hz (fun a b hh => g_199_481 hI2.RT _ _ _ _ _ hh)
    refine ⟨s1, fun z => ?_, fun z => ?_⟩
    · rw [hb.mp z] at h441
      simp only [hb.mp z]
      exact h441
    · have hbt : b = true := by
        cases b with
        | false => exact absurd (hb.mpr rfl) z
        | true => rfl
      rw [hbt] at h441
      simp only [hbt]
      exact h441
  exact ⟨fun z => hB false (iff_of_true z rfl), fun z => hB true (iff_of_false z (by decide))⟩
end Law3

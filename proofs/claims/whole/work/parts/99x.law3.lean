/-! ===== the law: act, evenings, back, force ===== -/
def yl_Wa (x1 x2 x3 x4 : Int32) (w : w_T) : w_T → Prop := fun w' => match (o_act x1 x2 x3 x4 w).2.2 with
  | .inl w1 => w' = w1
  | .inr l => ∃ D', a_new w.2.2.2 D' w.1.2.2.2.2.1 l x1 x3 x4 w.1.2.2.2.2.2.1 ∧ w' = o_new D' w
theorem o_act_c (x1 x2 x3 x4 : Int32) (w : w_T) : (o_act x1 x2 x3 x4 w).1 = 0 ∨ (o_act x1 x2 x3 x4 w).1 = 1 ∨ (o_act x1 x2 x3 x4 w).1 = 2 := by
  obtain ⟨⟨nl, nq, np, nf, na, tn, tp⟩, tb, fp, D⟩ := w
  unfold o_act
  dsimp only
  repeat' split
  all_goals simp
theorem w_actI {x1 x2 x3 x4 : Int32} {w w1 : w_T} (hw : w_O w) (h : (o_act x1 x2 x3 x4 w).2.2 = .inl w1) : w_O w1 := by
  obtain ⟨⟨nl, nq, np, nf, na, tn, tp⟩, tb, fp, D⟩ := w
  have h0 : ∀ tb' fp', w_O ((nl, nq, np, nf, na, tn, 0), tb', fp', D) := fun _ _ => ⟨hw.1, hw.2.1, hw.2.2.1, Nat.zero_le _⟩
  unfold o_act at h
  dsimp only at h
  repeat' split at h
  all_goals first
    | (cases h; exact hw)
    | (cases h; exact h0 _ _)
    | (cases h; done)
theorem o_act_r {x1 x2 x3 x4 : Int32} {w : w_T} {l : List yx_K} (h : (o_act x1 x2 x3 x4 w).2.2 = .inr l) : (o_act x1 x2 x3 x4 w).1 = 0 := by
  obtain ⟨⟨nl, nq, np, nf, na, tn, tp⟩, tb, fp, D⟩ := w
  unfold o_act at h ⊢
  dsimp only at h ⊢
  by_cases a : a_lt x1 nl = false
  · rw [if_pos a] at h
    cases h
  rw [if_neg a] at h ⊢
  by_cases b : a_ev x2 tp = false
  · rw [if_pos b] at h
    cases h
  rw [if_neg b] at h ⊢
  by_cases c : na = 12 ∨ a_dy x3 = false ∨ a_dy x4 = false
  · rw [if_pos c] at h
    cases h
  rw [if_neg c] at h ⊢
  revert h
  split
  · intro h
    cases h
  · intro h
    rfl
section Law3
variable {β : Bool} {xs : Nat → Int32} {L : Nat} {G : am_G} {I : a_F} {J : Nat → Nat → Int64}
theorem yl_wa {d K : Nat} {ls : List Value} {t : Nat} {val : Int32} {Wp : w_T → Prop} {w0 : w_T} {e : Nat} {P : am_O → am_H → Prop} {E : Nat → am_G → (Nat → Nat → Int32) → (Nat → Nat → Int64) → Prop} (hw : q_W β xs L d K 0 ls [] (G, I, J) P) (h0 : Wp w0) (hP : ∀ o h, P o h → ∀ w', Wp w' → k_T t w' e I J val o h)
    (hE : t ≠ 0 → ∀ G1 I1 J1, q_RT G1 → yl_U t Wp e I J val.toInt64 (.inl (some (.int (nI t)))) (G1, I1, J1) → E t G1 I1 J1) :
    q_W β xs L d K 0 ls [] (G, I, J) (q_Ri (fun y1 G1 I1 J1 => am_is 0 1 = true ∧ yl_U t Wp e I J val.toInt64 (.inl (some (.int 0))) (G1, I1, am_u J1 117 (0 : Int32).toNatClampNeg y1.toInt64)) E) := by
  refine q_useR hw (Nat.le_refl _) (fun o h' hq => ?_)
  have hA := hP o h' hq
  obtain ⟨ho, e', G1, I1, J1, he, rfl, hf, hj, hC⟩ := hA w0 h0
  have hB : ∀ w', Wp w' → ∃ e', e' ≤ e + 1 ∧ c_I e' w' G1 I1 J1 := fun w' hw' => by
    obtain ⟨-, e2, G2, I2, J2, he2, heq, -, -, hC2⟩ := hA w' hw'
    cases heq
    exact ⟨e2, he2, hC2⟩
  by_cases h0 : t = 0
  · rw [if_pos h0] at ho
    subst ho
    refine ⟨rfl, G1, I1, _, by rw [h0]; rfl, rfl, hC.RT, hf, hj.up _ _ (Or.inr (Nat.le_refl _)), fun w hw => ?_, fun _ => am_u_same⟩
    obtain ⟨e2, q1, q2⟩ := hB w hw
    exact ⟨e2, q1, q2.out _⟩
  · rw [if_neg h0] at ho
    subst ho
    exact hE h0 G1 I1 J1 hC.RT ⟨G1, I1, J1, rfl, rfl, hC.RT, hf, hj, hB, fun z => absurd z h0⟩
theorem yl_pa {v : Nat} {w : w_T} {d : Nat} (hr : r_I v w I J) (hw : w_O w) (hR : q_RT G) (x1 x2 x3 x4 : Int32) : q_W β xs L (d + 7) 138 0 [.ref 59, .int x1, .int x2, .int x3, .int x4, .retAddr 0] [] (G, I, J) (yl_R (o_act x1 x2 x3 x4 w).1 (yl_Wa x1 x2 x3 x4 w) v G I J (o_act x1 x2 x3 x4 w).2.1) := by
  refine q_mono (p_act (d := d) hr hw hR x1 x2 x3 x4) (Nat.le_refl _) (fun o h hq => ?_)
  split at hq
  · rename_i w1 hw1
    exact ⟨w1, by unfold yl_Wa; rw [hw1], w_actI hw hw1, hq⟩
  · rename_i l hl
    obtain ⟨ht, D', h1, h2, h3⟩ := hq
    refine ⟨o_new D' w, by unfold yl_Wa; rw [hl]; exact ⟨D', h1, rfl⟩, h2, ?_⟩
    rw [ht]
    exact h3
theorem u_act {d e v : Nat} {w : w_T} (hC : c_I e w G I J) (hr : r_I v w I J) (hw : w_O w) (x1 x2 x3 x4 : Int32) : q_W β xs L (d + 47 + 1) 187 0 [.ref 0, .int x1, .int x2, .int x3, .int x4, .ref 117, .retAddr 0] [] (G, I, J) (yl_U (o_act x1 x2 x3 x4 w).1 (yl_Wa x1 x2 x3 x4 w) e I J (o_act x1 x2 x3 x4 w).2.1.toInt64) := by
  have hne : ∃ w0, yl_Wa x1 x2 x3 x4 w w0 := by
    obtain ⟨n, o, h1, -, w', hw', -⟩ := yl_pa (β := β) (xs := xs) (L := L) (d := d) hr hw hC.RT x1 x2 x3 x4
    exact ⟨w', hw'⟩
  obtain ⟨w0, hw0⟩ := hne
  have htb : ∀ i, i < w.1.2.2.2.2.2.2 → w.2.1 i < 256 := fun i hi => (hr.2.2.1 i hi).1
  refine g_187_0 hC.RT _ _ _ _ (yl_wa (k_act (d := d) hC hw htb x1 x2 x3 x4) hw0 (fun o h hq w' hw' => ?_) (fun ht G1 I1 J1 hR1 hU => ?_))
  · split at hq
    · rename_i w1 hw1
      unfold yl_Wa at hw'
      rw [hw1] at hw'
      have hw' : w' = w1 := hw'
      rw [hw']
      exact hq
    · rename_i l hl
      unfold yl_Wa at hw'
      rw [hl] at hw'
      obtain ⟨D', h1, rfl⟩ := hw'
      have ht := o_act_r hl
      rw [ht]
      exact hq D' h1
  · rcases (o_act_c x1 x2 x3 x4 w).resolve_left ht with h1 | h1
    · rw [h1] at hU ⊢
      exact yl_x rfl (g_187_19 hR1 _ _ _ _ hU)
    · rw [h1] at hU ⊢
      exact yl_x rfl (g_187_23 hR1 _ _ _ _ hU)
end Law3

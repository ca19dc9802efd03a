/-! ===== the law: one turn ===== -/
def yl_I (m : Nat) (G : am_G) (I : a_F) (J : Nat → Nat → Int64) : Prop := ∃ w e v, e ≤ m ∧ v ≤ m + 1 ∧ w_O w ∧ c_I e w G I J ∧ r_I v w I J
def yl_R (t : Nat) (Wp : w_T → Prop) (v : Nat) (G : am_G) (I : a_F) (J : Nat → Nat → Int64) (val : Int32) : am_O → am_H → Prop := fun o h => ∃ w', Wp w' ∧ w_O w' ∧ p_P w' v G I J t val o h
def yl_is (i4 : Int32) (L : Nat) : Prop := am_is (i4 + 1) L = true ∧ am_is (i4 + 2) L = true ∧ am_is (i4 + 3) L = true ∧ am_is (i4 + 4) L = true ∧ am_is (i4 + 5) L = true ∧ am_is (i4 + 6) L = true
theorem yl_I.up {m : Nat} {G : am_G} {I : a_F} {J : Nat → Nat → Int64} (h : yl_I m G I J) : yl_I (m + 1) G I J := by
  obtain ⟨w, e, v, he, hv, h1⟩ := h
  exact ⟨w, e, v, by omega, by omega, h1⟩
theorem yl_I.RT {m : Nat} {G : am_G} {I : a_F} {J : Nat → Nat → Int64} (h : yl_I m G I J) : q_RT G := by
  obtain ⟨w, e, v, he, hv, hw, hC, hr⟩ := h
  exact hC.RT
theorem yl_t0 {t : Nat} (ht : t = 0 ∨ t = 1 ∨ t = 2) : nI t = 0 ↔ t = 0 := by
  rcases ht with rfl | rfl | rfl <;> decide
theorem yl_cmp {x y : Int64} (h : x = y) : (if x > y then (1 : Int32) else if x = y then 0 else -1) = 0 := by
  subst h
  rw [if_neg Int64.lt_irrefl, if_pos rfl]
section Law2
variable {β : Bool} {xs : Nat → Int32} {L : Nat} {G : am_G} {I : a_F} {J : Nat → Nat → Int64}
theorem yl_A {d d' K : Nat} {ls : List Value} {t : Nat} {Wp : w_T → Prop} {e : Nat} {x : Int64} {A : Int32 → am_G → (Nat → Nat → Int32) → (Nat → Nat → Int64) → Prop} {E : Nat → am_G → (Nat → Nat → Int32) → (Nat → Nat → Int64) → Prop} (hw : q_W β xs L d K 0 ls [] (G, I, J) (yl_U t Wp e I J x)) (hd : d ≤ d')
    (hA : ∀ G1 I1 J1, q_RT G1 → f_c I I1 → f_c J J1 → (∀ w', Wp w' → ∃ e', e' ≤ e + 1 ∧ c_I e' w' G1 I1 J1) → (t = 0 → J1 117 0 = x) → A (nI t) G1 I1 J1) : q_W β xs L d' K 0 ls [] (G, I, J) (q_Ri A E) := by
  refine q_useR hw hd (fun o h' hq => ?_)
  obtain ⟨G1, I1, J1, rfl, rfl, h1, h2, h3, h4, h5⟩ := hq
  exact hA G1 I1 J1 h1 h2 h3 h4 h5
theorem yl_Dk {d d' K : Nat} {ls : List Value} {w' : w_T} {e : Nat} {val : Int32} {A : Int32 → am_G → (Nat → Nat → Int32) → (Nat → Nat → Int64) → Prop} {E : Nat → am_G → (Nat → Nat → Int32) → (Nat → Nat → Int64) → Prop} (hw : q_W β xs L d K 0 ls [] (G, I, J) (k_P w' e 0 I J val)) (hd : d ≤ d')
    (hA : ∀ G1 I1 J1, f_c I I1 → f_c J J1 → c_I e w' G1 I1 J1 → A val G1 I1 J1) : q_W β xs L d' K 0 ls [] (G, I, J) (q_Ri A E) := by
  refine q_useR hw hd (fun o h' hq => ?_)
  obtain ⟨rfl, G1, I1, J1, rfl, h1, h2, h3⟩ := hq
  exact hA G1 I1 J1 h1 h2 h3
theorem yl_Dp {d d' K m v e : Nat} {ls : List Value} {w' : w_T} {val : Int32} {A : Int32 → am_G → (Nat → Nat → Int32) → (Nat → Nat → Int64) → Prop} {E : Nat → am_G → (Nat → Nat → Int32) → (Nat → Nat → Int64) → Prop} (hw : q_W β xs L d K 0 ls [] (G, I, J) (p_P w' v G I J 0 val)) (hd : d ≤ d') (hO : w_O w') (hC : c_I e w' G I J) (he : e ≤ m + 1) (hv : v ≤ m + 1)
    (hA : ∀ G1 I1 J1, yl_I (m + 1) G1 I1 J1 → A val G1 I1 J1) : q_W β xs L d' K 0 ls [] (G, I, J) (q_Ri A E) := by
  refine q_useR hw hd (fun o h' hq => ?_)
  obtain ⟨y, I1, J1, rfl, hy, rfl, h1, h2, h3, h4⟩ := hq
  have h := hA G I1 J1 ⟨w', e, v + 1, he, by omega, hO, hC.fr h1 h2, h4⟩
  rw [hy rfl]
  exact h
theorem yl_B {d d2 K2 pcz m v t : Nat} {ls2 : List Value} {i4 val : Int32} {Wp : w_T → Prop} {Q : am_O → am_H → Prop} {E2 : Nat → am_G → (Nat → Nat → Int32) → (Nat → Nat → Int64) → Prop} {E3 : Int32 → Nat → am_G → (Nat → Nat → Int32) → (Nat → Nat → Int64) → Prop}
    (hr : q_W β xs L d2 K2 0 ls2 [] (G, I, J) (yl_R t Wp v G I J val)) (hd : d2 ≤ d) (hR : q_RT G) (hW : ∀ w', Wp w' → ∃ e', e' ≤ m + 1 ∧ c_I e' w' G I J) (hv : v ≤ m + 1) (hx : t = 0 → J 117 0 = val.toInt64) (ht : t = 0 ∨ t = 1 ∨ t = 2)
    (hN : ∀ y1 y2 G I J, yl_I (m + 1) G I J → q_W β xs L (d + 1) 199 pcz [.retAddr 1, .ref 0, .ref 59, .ref 117, .int i4, .int y1, .int y2] [] (G, I, J) Q) :
    q_W β xs L d K2 0 ls2 [] (G, I, J) (q_Ri (fun y2 G2 I2 J2 => q_W β xs L d 102 0 [.ref 59] [] (G2, I2, J2) (q_Ri (fun y3 G3 I3 J3 => ((y3 = nI t → ((¬ nI t = 0 → q_W β xs L (d + 1) 199 pcz [.retAddr 1, .ref 0, .ref 59, .ref 117, .int i4, .int (nI t), .int y2] [] (G3, I3, J3) Q) ∧ (nI t = 0 → (am_is 0 1 = true ∧ (((if (J3 117 (0 : Int32).toNatClampNeg) > (y2.toInt64) then (1 : Int32) else if (J3 117 (0 : Int32).toNatClampNeg) = (y2.toInt64) then 0 else -1) = 0 → q_W β xs L (d + 1) 199 pcz [.retAddr 1, .ref 0, .ref 59, .ref 117, .int i4, .int (nI t), .int y2] [] (G3, I3, J3) Q) ∧ (¬ (if (J3 117 (0 : Int32).toNatClampNeg) > (y2.toInt64) then (1 : Int32) else if (J3 117 (0 : Int32).toNatClampNeg) = (y2.toInt64) then 0 else -1) = 0 → (((0 : Int32) = 0 ∨ (0 : Int32) = 1) ∧ Q (.inl (some (.int 0))) (G3, I3, J3)))))))) ∧ (¬ y3 = nI t → (((0 : Int32) = 0 ∨ (0 : Int32) = 1) ∧ Q (.inl (some (.int 0))) (G3, I3, J3))))) (E3 y2))) E2) := by
  refine q_useR hr hd (fun o h' hq => ?_)
  obtain ⟨w', hw1, hw2, y, I1, J1, rfl, hy, rfl, h1, h2, h3, h4⟩ := hq
  obtain ⟨e', he, hC⟩ := hW w' hw1
  have hI : yl_I (m + 1) G I1 J1 := ⟨w', e', v + 1, he, by omega, hw2, hC.fr h1 h2, h4⟩
  refine g_102_0 hR ?_
  refine ⟨fun _ => ⟨fun _ => hN _ _ _ _ _ hI, fun z => ⟨rfl, fun _ => hN _ _ _ _ _ hI, fun q => absurd (yl_cmp ?_) q⟩⟩, fun q => absurd h3 q⟩
  have t0 := (yl_t0 ht).mp z
  have e1 : J1 117 (0 : Int32).toNatClampNeg = J 117 0 := congrFun (h2 117 (Or.inr (Nat.le_refl _))) _
  show J1 117 (0 : Int32).toNatClampNeg = y.toInt64
  rw [e1, hx t0, hy t0]
/-- the same, where the answer is a truth -/
theorem yl_Bb {d d2 K2 m v t : Nat} {ls2 : List Value} {val : Int32} {Wp : w_T → Prop} {E2 : Nat → am_G → (Nat → Nat → Int32) → (Nat → Nat → Int64) → Prop} {A : Int32 → am_G → (Nat → Nat → Int32) → (Nat → Nat → Int64) → Prop}
    (hr : q_W β xs L d2 K2 0 ls2 [] (G, I, J) (yl_R t Wp v G I J val)) (hd : d2 ≤ d) (hW : ∀ w', Wp w' → ∃ e', e' ≤ m + 1 ∧ c_I e' w' G I J) (hv : v ≤ m + 1) (hx : t = 0 → J 117 0 = yl_b val)
    (hA : ∀ y I1 J1, yl_I (m + 1) G I1 J1 → I1 59 0 = nI t → (t = 0 → J1 117 0 = yl_b y) → A y G I1 J1) :
    q_W β xs L d K2 0 ls2 [] (G, I, J) (q_Ri A E2) := by
  refine q_useR hr hd (fun o h' hq => ?_)
  obtain ⟨w', hw1, hw2, y, I1, J1, rfl, hy, rfl, h1, h2, h3, h4⟩ := hq
  obtain ⟨e', he, hC⟩ := hW w' hw1
  refine hA y I1 J1 ⟨w', e', v + 1, he, by omega, hw2, hC.fr h1 h2, h4⟩ h3 (fun t0 => ?_)
  rw [hy t0, ← hx t0]
  exact congrFun (h2 117 (Or.inr (Nat.le_refl _))) 0
theorem yl_P {d K v t : Nat} {ls : List Value} {val : Int32} {w' : w_T} (hO : w_O w') (hw : q_W β xs L d K 0 ls [] (G, I, J) (p_P w' v G I J t val)) : q_W β xs L d K 0 ls [] (G, I, J) (yl_R t (fun z => z = w') v G I J val) := q_mono hw (Nat.le_refl _) (fun _ _ q => ⟨w', rfl, hO, q⟩)
theorem l_land {d m : Nat} {i4 : Int32} {v5 v6 : Value} {Q : am_O → am_H → Prop} (n5 : am_nl v5 = true) (n6 : am_nl v6 = true) (hm : m ≤ 512) (hs : yl_is i4 L) (hI : yl_I m G I J) (hN : ∀ v5 v6 G I J, am_nl v5 = true → am_nl v6 = true → yl_I (m + 1) G I J → q_W β xs L (d + 60 + 1) 199 1697 [.retAddr 1, .ref 0, .ref 59, .ref 117, .int i4, v5, v6] [] (G, I, J) Q) : q_W β xs L (d + 60 + 1) 199 140 [.retAddr 1, .ref 0, .ref 59, .ref 117, .int i4, v5, v6] [] (G, I, J) Q := by
  obtain ⟨w, e, v, he, hv, hw, hC, hr⟩ := hI
  obtain ⟨s1, s2, s3, s4, s5, s6⟩ := hs
  refine g_199_140 hC.RT _ _ _ n5 n6 ?_
  refine yl_Dk (k_land (d := d) hC hw ) (by omega) (fun G1 I1 J1 h1 h2 hC1 => ?_)
  refine yl_Dp (m := m) (p_land (d := d) (hr.fc h1 h2) hw hC1.RT ) (by omega) (w_land hw) hC1 (by omega) (by omega) (fun G2 I2 J2 hI2 => ?_)
  exact ⟨fun _ => hN _ _ _ _ _ n5 n6 hI2, fun q => absurd rfl q⟩
theorem l_place {d m : Nat} {i4 : Int32} {v5 v6 : Value} {Q : am_O → am_H → Prop} (n5 : am_nl v5 = true) (n6 : am_nl v6 = true) (hm : m ≤ 512) (hs : yl_is i4 L) (hI : yl_I m G I J) (hN : ∀ v5 v6 G I J, am_nl v5 = true → am_nl v6 = true → yl_I (m + 1) G I J → q_W β xs L (d + 60 + 1) 199 1697 [.retAddr 1, .ref 0, .ref 59, .ref 117, .int i4, v5, v6] [] (G, I, J) Q) : q_W β xs L (d + 60 + 1) 199 153 [.retAddr 1, .ref 0, .ref 59, .ref 117, .int i4, v5, v6] [] (G, I, J) Q := by
  obtain ⟨w, e, v, he, hv, hw, hC, hr⟩ := hI
  obtain ⟨s1, s2, s3, s4, s5, s6⟩ := hs
  refine g_199_153 hC.RT _ _ _ n5 n6 ?_
  refine ⟨s1, yl_Dk (k_place (d := d) hC hw (xs (i4 + 1).toNatClampNeg)) (by omega) (fun G1 I1 J1 h1 h2 hC1 => ?_)⟩
  refine ⟨s1, yl_Dp (m := m) (p_place (d := d) (hr.fc h1 h2) hw hC1.RT (xs (i4 + 1).toNatClampNeg)) (by omega) (w_place hw (xs (i4 + 1).toNatClampNeg)) hC1 (by omega) (by omega) (fun G2 I2 J2 hI2 => ?_)⟩
  exact ⟨fun _ => hN _ _ _ _ _ n5 n6 hI2, fun q => absurd rfl q⟩
theorem l_person {d m : Nat} {i4 : Int32} {v5 v6 : Value} {Q : am_O → am_H → Prop} (n5 : am_nl v5 = true) (n6 : am_nl v6 = true) (hm : m ≤ 512) (hs : yl_is i4 L) (hI : yl_I m G I J) (hN : ∀ v5 v6 G I J, am_nl v5 = true → am_nl v6 = true → yl_I (m + 1) G I J → q_W β xs L (d + 60 + 1) 199 1697 [.retAddr 1, .ref 0, .ref 59, .ref 117, .int i4, v5, v6] [] (G, I, J) Q) : q_W β xs L (d + 60 + 1) 199 178 [.retAddr 1, .ref 0, .ref 59, .ref 117, .int i4, v5, v6] [] (G, I, J) Q := by
  obtain ⟨w, e, v, he, hv, hw, hC, hr⟩ := hI
  obtain ⟨s1, s2, s3, s4, s5, s6⟩ := hs
  refine g_199_178 hC.RT _ _ _ n5 n6 ?_
  refine ⟨s1, s2, s3, yl_Dk (k_person (d := d) hC hw (xs (i4 + 1).toNatClampNeg) (xs (i4 + 2).toNatClampNeg) (xs (i4 + 3).toNatClampNeg)) (by omega) (fun G1 I1 J1 h1 h2 hC1 => ?_)⟩
  refine ⟨s1, s2, s3, yl_Dp (m := m) (p_person (d := d) (hr.fc h1 h2) hw hC1.RT (xs (i4 + 1).toNatClampNeg) (xs (i4 + 2).toNatClampNeg) (xs (i4 + 3).toNatClampNeg)) (by omega) (w_person hw (xs (i4 + 1).toNatClampNeg) (xs (i4 + 2).toNatClampNeg) (xs (i4 + 3).toNatClampNeg)) hC1 (by omega) (by omega) (fun G2 I2 J2 hI2 => ?_)⟩
  exact ⟨fun _ => hN _ _ _ _ _ n5 n6 hI2, fun q => absurd rfl q⟩
theorem l_feed {d m : Nat} {i4 : Int32} {v5 v6 : Value} {Q : am_O → am_H → Prop} (n5 : am_nl v5 = true) (n6 : am_nl v6 = true) (hm : m ≤ 512) (hs : yl_is i4 L) (hI : yl_I m G I J) (hN : ∀ v5 v6 G I J, am_nl v5 = true → am_nl v6 = true → yl_I (m + 1) G I J → q_W β xs L (d + 60 + 1) 199 1697 [.retAddr 1, .ref 0, .ref 59, .ref 117, .int i4, v5, v6] [] (G, I, J) Q) : q_W β xs L (d + 60 + 1) 199 546 [.retAddr 1, .ref 0, .ref 59, .ref 117, .int i4, v5, v6] [] (G, I, J) Q := by
  obtain ⟨w, e, v, he, hv, hw, hC, hr⟩ := hI
  obtain ⟨s1, s2, s3, s4, s5, s6⟩ := hs
  refine g_199_546 hC.RT _ _ _ n5 n6 ?_
  refine ⟨s1, s2, s3, s4, s5, yl_Dk (k_feed (d := d) hC hw (xs (i4 + 1).toNatClampNeg) (xs (i4 + 2).toNatClampNeg) (xs (i4 + 3).toNatClampNeg) (xs (i4 + 4).toNatClampNeg) (xs (i4 + 5).toNatClampNeg)) (by omega) (fun G1 I1 J1 h1 h2 hC1 => ?_)⟩
  refine ⟨s1, s2, s3, s4, s5, yl_Dp (m := m) (p_feed (d := d) (hr.fc h1 h2) hw hC1.RT (xs (i4 + 1).toNatClampNeg) (xs (i4 + 2).toNatClampNeg) (xs (i4 + 3).toNatClampNeg) (xs (i4 + 4).toNatClampNeg) (xs (i4 + 5).toNatClampNeg)) (by omega) (w_feed hw (xs (i4 + 1).toNatClampNeg) (xs (i4 + 2).toNatClampNeg) (xs (i4 + 3).toNatClampNeg) (xs (i4 + 4).toNatClampNeg) (xs (i4 + 5).toNatClampNeg)) hC1 (by omega) (by omega) (fun G2 I2 J2 hI2 => ?_)⟩
  exact ⟨fun _ => hN _ _ _ _ _ n5 n6 hI2, fun q => absurd rfl q⟩
theorem l_fault {d m : Nat} {i4 : Int32} {v5 v6 : Value} {Q : am_O → am_H → Prop} (n5 : am_nl v5 = true) (n6 : am_nl v6 = true) (hm : m ≤ 512) (hs : yl_is i4 L) (hI : yl_I m G I J) (hN : ∀ v5 v6 G I J, am_nl v5 = true → am_nl v6 = true → yl_I (m + 1) G I J → q_W β xs L (d + 60 + 1) 199 1697 [.retAddr 1, .ref 0, .ref 59, .ref 117, .int i4, v5, v6] [] (G, I, J) Q) : q_W β xs L (d + 60 + 1) 199 711 [.retAddr 1, .ref 0, .ref 59, .ref 117, .int i4, v5, v6] [] (G, I, J) Q := by
  obtain ⟨w, e, v, he, hv, hw, hC, hr⟩ := hI
  obtain ⟨s1, s2, s3, s4, s5, s6⟩ := hs
  refine g_199_711 hC.RT _ _ _ n5 n6 ?_
  refine yl_Dk (k_fault (d := d + 60) hC) (by omega) (fun G1 I1 J1 h1 h2 hC1 => ?_)
  refine yl_Dp (m := m) (p_fault (d := d + 60) (hr.fc h1 h2) hC1.RT) (by omega) hw hC1 (by omega) (by omega) (fun G2 I2 J2 hI2 => ?_)
  exact ⟨fun _ => hN _ _ _ _ _ n5 n6 hI2, fun q => absurd rfl q⟩
theorem l_fact {d m : Nat} {i4 : Int32} {v5 v6 : Value} {Q : am_O → am_H → Prop} (n5 : am_nl v5 = true) (n6 : am_nl v6 = true) (hm : m ≤ 512) (hs : yl_is i4 L) (hI : yl_I m G I J) (hN : ∀ v5 v6 G I J, am_nl v5 = true → am_nl v6 = true → yl_I (m + 1) G I J → q_W β xs L (d + 60 + 1) 199 1697 [.retAddr 1, .ref 0, .ref 59, .ref 117, .int i4, v5, v6] [] (G, I, J) Q) : q_W β xs L (d + 60 + 1) 199 227 [.retAddr 1, .ref 0, .ref 59, .ref 117, .int i4, v5, v6] [] (G, I, J) Q := by
  obtain ⟨w, e, v, he, hv, hw, hC, hr⟩ := hI
  obtain ⟨s1, s2, s3, s4, s5, s6⟩ := hs
  refine g_199_227 hC.RT _ _ _ n5 n6 ?_
  refine ⟨s1, s2, s3, s4, s5, yl_A (u_fact (d := d) hC hw (xs (i4 + 1).toNatClampNeg) (xs (i4 + 2).toNatClampNeg) (xs (i4 + 3).toNatClampNeg) (xs (i4 + 4).toNatClampNeg) (xs (i4 + 5).toNatClampNeg)) (by omega) (fun G1 I1 J1 hR1 h1 h2 hW hx => ?_)⟩
  refine ⟨s1, s2, s3, s4, s5, yl_B (m := m) (yl_P (w_fact hw (xs (i4 + 1).toNatClampNeg) (xs (i4 + 2).toNatClampNeg) (xs (i4 + 3).toNatClampNeg) (xs (i4 + 4).toNatClampNeg) (xs (i4 + 5).toNatClampNeg)) (p_fact (d := d) (hr.fc h1 h2) hw hR1 (xs (i4 + 1).toNatClampNeg) (xs (i4 + 2).toNatClampNeg) (xs (i4 + 3).toNatClampNeg) (xs (i4 + 4).toNatClampNeg) (xs (i4 + 5).toNatClampNeg))) (by omega) hR1 (fun w' z => by obtain ⟨e', z1, z2⟩ := hW w' z; exact ⟨e', by omega, z2⟩) (by omega) hx (by rcases o_fact_c (xs (i4 + 1).toNatClampNeg) (xs (i4 + 2).toNatClampNeg) (xs (i4 + 3).toNatClampNeg) (xs (i4 + 4).toNatClampNeg) (xs (i4 + 5).toNatClampNeg) w with z | z <;> simp [z]) (fun y1 y2 G I J hI => ?_)⟩
  exact g_199_328 hI.RT _ _ _ (hN _ _ _ _ _ rfl rfl hI)
theorem l_also {d m : Nat} {i4 : Int32} {v5 v6 : Value} {Q : am_O → am_H → Prop} (n5 : am_nl v5 = true) (n6 : am_nl v6 = true) (hm : m ≤ 512) (hs : yl_is i4 L) (hI : yl_I m G I J) (hN : ∀ v5 v6 G I J, am_nl v5 = true → am_nl v6 = true → yl_I (m + 1) G I J → q_W β xs L (d + 60 + 1) 199 1697 [.retAddr 1, .ref 0, .ref 59, .ref 117, .int i4, v5, v6] [] (G, I, J) Q) : q_W β xs L (d + 60 + 1) 199 331 [.retAddr 1, .ref 0, .ref 59, .ref 117, .int i4, v5, v6] [] (G, I, J) Q := by
  obtain ⟨w, e, v, he, hv, hw, hC, hr⟩ := hI
  obtain ⟨s1, s2, s3, s4, s5, s6⟩ := hs
  refine g_199_331 hC.RT _ _ _ n5 n6 ?_
  refine ⟨s1, s2, yl_A (u_also (d := d) hC hw (xs (i4 + 1).toNatClampNeg) (xs (i4 + 2).toNatClampNeg)) (by omega) (fun G1 I1 J1 hR1 h1 h2 hW hx => ?_)⟩
  refine ⟨s1, s2, yl_B (m := m) (yl_P (w_also hw (xs (i4 + 1).toNatClampNeg) (xs (i4 + 2).toNatClampNeg)) (p_also (d := d) (hr.fc h1 h2) hw hR1 (xs (i4 + 1).toNatClampNeg) (xs (i4 + 2).toNatClampNeg))) (by omega) hR1 (fun w' z => by obtain ⟨e', z1, z2⟩ := hW w' z; exact ⟨e', by omega, z2⟩) (by omega) hx (by rcases o_also_c (xs (i4 + 1).toNatClampNeg) (xs (i4 + 2).toNatClampNeg) w with z | z <;> simp [z]) (fun y1 y2 G I J hI => ?_)⟩
  exact g_199_396 hI.RT _ _ _ (hN _ _ _ _ _ rfl rfl hI)
theorem l_landOf {d m : Nat} {i4 : Int32} {v5 v6 : Value} {Q : am_O → am_H → Prop} (n5 : am_nl v5 = true) (n6 : am_nl v6 = true) (hm : m ≤ 512) (hs : yl_is i4 L) (hI : yl_I m G I J) (hN : ∀ v5 v6 G I J, am_nl v5 = true → am_nl v6 = true → yl_I (m + 1) G I J → q_W β xs L (d + 60 + 1) 199 1697 [.retAddr 1, .ref 0, .ref 59, .ref 117, .int i4, v5, v6] [] (G, I, J) Q) : q_W β xs L (d + 60 + 1) 199 811 [.retAddr 1, .ref 0, .ref 59, .ref 117, .int i4, v5, v6] [] (G, I, J) Q := by
  obtain ⟨w, e, v, he, hv, hw, hC, hr⟩ := hI
  obtain ⟨s1, s2, s3, s4, s5, s6⟩ := hs
  refine g_199_811 hC.RT _ _ _ n5 n6 ?_
  refine ⟨s1, s2, s3, yl_A (u_landOf (d := d) hC hw (xs (i4 + 1).toNatClampNeg) (xs (i4 + 2).toNatClampNeg) (xs (i4 + 3).toNatClampNeg)) (by omega) (fun G1 I1 J1 hR1 h1 h2 hW hx => ?_)⟩
  refine ⟨s1, s2, s3, yl_B (m := m) (yl_P hw (p_landOf (d := d) (hr.fc h1 h2) hw hR1 (xs (i4 + 1).toNatClampNeg) (xs (i4 + 2).toNatClampNeg) (xs (i4 + 3).toNatClampNeg))) (by omega) hR1 (fun w' z => by obtain ⟨e', z1, z2⟩ := hW w' z; exact ⟨e', by omega, z2⟩) (by omega) hx (o_landOf_c (xs (i4 + 1).toNatClampNeg) (xs (i4 + 2).toNatClampNeg) (xs (i4 + 3).toNatClampNeg) w) (fun y1 y2 G I J hI => ?_)⟩
  exact g_199_888 hI.RT _ _ _ (hN _ _ _ _ _ rfl rfl hI)
theorem l_waysQ {d m : Nat} {i4 : Int32} {v5 v6 : Value} {Q : am_O → am_H → Prop} (n5 : am_nl v5 = true) (n6 : am_nl v6 = true) (hm : m ≤ 512) (hs : yl_is i4 L) (hI : yl_I m G I J) (hN : ∀ v5 v6 G I J, am_nl v5 = true → am_nl v6 = true → yl_I (m + 1) G I J → q_W β xs L (d + 60 + 1) 199 1697 [.retAddr 1, .ref 0, .ref 59, .ref 117, .int i4, v5, v6] [] (G, I, J) Q) : q_W β xs L (d + 60 + 1) 199 891 [.retAddr 1, .ref 0, .ref 59, .ref 117, .int i4, v5, v6] [] (G, I, J) Q := by
  obtain ⟨w, e, v, he, hv, hw, hC, hr⟩ := hI
  obtain ⟨s1, s2, s3, s4, s5, s6⟩ := hs
  refine g_199_891 hC.RT _ _ _ n5 n6 ?_
  refine ⟨s1, s2, yl_A (u_ways (d := d) hC hw (xs (i4 + 1).toNatClampNeg) (xs (i4 + 2).toNatClampNeg)) (by omega) (fun G1 I1 J1 hR1 h1 h2 hW hx => ?_)⟩
  refine ⟨s1, s2, yl_B (m := m) (yl_P hw (p_waysQ (d := d) (hr.fc h1 h2) hw hR1 (xs (i4 + 1).toNatClampNeg) (xs (i4 + 2).toNatClampNeg))) (by omega) hR1 (fun w' z => by obtain ⟨e', z1, z2⟩ := hW w' z; exact ⟨e', by omega, z2⟩) (by omega) hx (o_ways_c (xs (i4 + 1).toNatClampNeg) (xs (i4 + 2).toNatClampNeg) w) (fun y1 y2 G I J hI => ?_)⟩
  exact g_199_956 hI.RT _ _ _ (hN _ _ _ _ _ rfl rfl hI)
theorem l_bel {d m : Nat} {i4 : Int32} {v5 v6 : Value} {Q : am_O → am_H → Prop} (n5 : am_nl v5 = true) (n6 : am_nl v6 = true) (hm : m ≤ 512) (hs : yl_is i4 L) (hI : yl_I m G I J) (hN : ∀ v5 v6 G I J, am_nl v5 = true → am_nl v6 = true → yl_I (m + 1) G I J → q_W β xs L (d + 60 + 1) 199 1697 [.retAddr 1, .ref 0, .ref 59, .ref 117, .int i4, v5, v6] [] (G, I, J) Q) : q_W β xs L (d + 60 + 1) 199 959 [.retAddr 1, .ref 0, .ref 59, .ref 117, .int i4, v5, v6] [] (G, I, J) Q := by
  obtain ⟨w, e, v, he, hv, hw, hC, hr⟩ := hI
  obtain ⟨s1, s2, s3, s4, s5, s6⟩ := hs
  refine g_199_959 hC.RT _ _ _ n5 n6 ?_
  refine ⟨s1, s2, s3, s4, yl_A (u_bel (d := d) hC hw (xs (i4 + 1).toNatClampNeg) (xs (i4 + 2).toNatClampNeg) (xs (i4 + 3).toNatClampNeg) (xs (i4 + 4).toNatClampNeg)) (by omega) (fun G1 I1 J1 hR1 h1 h2 hW hx => ?_)⟩
  refine ⟨s1, s2, s3, s4, yl_B (m := m) (yl_P hw (p_bel (d := d) (hr.fc h1 h2) hw hR1 (by omega) (xs (i4 + 1).toNatClampNeg) (xs (i4 + 2).toNatClampNeg) (xs (i4 + 3).toNatClampNeg) (xs (i4 + 4).toNatClampNeg))) (by omega) hR1 (fun w' z => by obtain ⟨e', z1, z2⟩ := hW w' z; exact ⟨e', by omega, z2⟩) (by omega) hx (o_bel_c (xs (i4 + 1).toNatClampNeg) (xs (i4 + 2).toNatClampNeg) (xs (i4 + 3).toNatClampNeg) (xs (i4 + 4).toNatClampNeg) w) (fun y1 y2 G I J hI => ?_)⟩
  exact g_199_1048 hI.RT _ _ _ (hN _ _ _ _ _ rfl rfl hI)
theorem l_says {d m : Nat} {i4 : Int32} {v5 v6 : Value} {Q : am_O → am_H → Prop} (n5 : am_nl v5 = true) (n6 : am_nl v6 = true) (hm : m ≤ 512) (hs : yl_is i4 L) (hI : yl_I m G I J) (hN : ∀ v5 v6 G I J, am_nl v5 = true → am_nl v6 = true → yl_I (m + 1) G I J → q_W β xs L (d + 60 + 1) 199 1697 [.retAddr 1, .ref 0, .ref 59, .ref 117, .int i4, v5, v6] [] (G, I, J) Q) : q_W β xs L (d + 60 + 1) 199 1051 [.retAddr 1, .ref 0, .ref 59, .ref 117, .int i4, v5, v6] [] (G, I, J) Q := by
  obtain ⟨w, e, v, he, hv, hw, hC, hr⟩ := hI
  obtain ⟨s1, s2, s3, s4, s5, s6⟩ := hs
  refine g_199_1051 hC.RT _ _ _ n5 n6 ?_
  refine ⟨s1, s2, s3, s4, yl_A (u_says (d := d) hC hw (xs (i4 + 1).toNatClampNeg) (xs (i4 + 2).toNatClampNeg) (xs (i4 + 3).toNatClampNeg) (xs (i4 + 4).toNatClampNeg)) (by omega) (fun G1 I1 J1 hR1 h1 h2 hW hx => ?_)⟩
  refine ⟨s1, s2, s3, s4, yl_B (m := m) (yl_P hw (p_says (d := d) (hr.fc h1 h2) hw hR1 (by omega) (xs (i4 + 1).toNatClampNeg) (xs (i4 + 2).toNatClampNeg) (xs (i4 + 3).toNatClampNeg) (xs (i4 + 4).toNatClampNeg))) (by omega) hR1 (fun w' z => by obtain ⟨e', z1, z2⟩ := hW w' z; exact ⟨e', by omega, z2⟩) (by omega) hx (o_says_c (xs (i4 + 1).toNatClampNeg) (xs (i4 + 2).toNatClampNeg) (xs (i4 + 3).toNatClampNeg) (xs (i4 + 4).toNatClampNeg) w) (fun y1 y2 G I J hI => ?_)⟩
  exact g_199_1140 hI.RT _ _ _ (hN _ _ _ _ _ rfl rfl hI)
theorem l_settles {d m : Nat} {i4 : Int32} {v5 v6 : Value} {Q : am_O → am_H → Prop} (n5 : am_nl v5 = true) (n6 : am_nl v6 = true) (hm : m ≤ 512) (hs : yl_is i4 L) (hI : yl_I m G I J) (hN : ∀ v5 v6 G I J, am_nl v5 = true → am_nl v6 = true → yl_I (m + 1) G I J → q_W β xs L (d + 60 + 1) 199 1697 [.retAddr 1, .ref 0, .ref 59, .ref 117, .int i4, v5, v6] [] (G, I, J) Q) : q_W β xs L (d + 60 + 1) 199 1143 [.retAddr 1, .ref 0, .ref 59, .ref 117, .int i4, v5, v6] [] (G, I, J) Q := by
  obtain ⟨w, e, v, he, hv, hw, hC, hr⟩ := hI
  obtain ⟨s1, s2, s3, s4, s5, s6⟩ := hs
  refine g_199_1143 hC.RT _ _ _ n5 n6 ?_
  refine ⟨s1, s2, s3, s4, yl_A (u_set (d := d) hC hw (xs (i4 + 1).toNatClampNeg) (xs (i4 + 2).toNatClampNeg) (xs (i4 + 3).toNatClampNeg) (xs (i4 + 4).toNatClampNeg)) (by omega) (fun G1 I1 J1 hR1 h1 h2 hW hx => ?_)⟩
  refine ⟨s1, s2, s3, s4, yl_B (m := m) (yl_P hw (p_settles (d := d) (hr.fc h1 h2) hw hR1 (by omega) (xs (i4 + 1).toNatClampNeg) (xs (i4 + 2).toNatClampNeg) (xs (i4 + 3).toNatClampNeg) (xs (i4 + 4).toNatClampNeg))) (by omega) hR1 (fun w' z => by obtain ⟨e', z1, z2⟩ := hW w' z; exact ⟨e', by omega, z2⟩) (by omega) hx (o_set_c (xs (i4 + 1).toNatClampNeg) (xs (i4 + 2).toNatClampNeg) (xs (i4 + 3).toNatClampNeg) (xs (i4 + 4).toNatClampNeg) w) (fun y1 y2 G I J hI => ?_)⟩
  exact g_199_1232 hI.RT _ _ _ (hN _ _ _ _ _ rfl rfl hI)
theorem l_lands {d m : Nat} {i4 : Int32} {v5 v6 : Value} {Q : am_O → am_H → Prop} (n5 : am_nl v5 = true) (n6 : am_nl v6 = true) (hm : m ≤ 512) (hs : yl_is i4 L) (hI : yl_I m G I J) (hN : ∀ v5 v6 G I J, am_nl v5 = true → am_nl v6 = true → yl_I (m + 1) G I J → q_W β xs L (d + 60 + 1) 199 1697 [.retAddr 1, .ref 0, .ref 59, .ref 117, .int i4, v5, v6] [] (G, I, J) Q) : q_W β xs L (d + 60 + 1) 199 1235 [.retAddr 1, .ref 0, .ref 59, .ref 117, .int i4, v5, v6] [] (G, I, J) Q := by
  obtain ⟨w, e, v, he, hv, hw, hC, hr⟩ := hI
  obtain ⟨s1, s2, s3, s4, s5, s6⟩ := hs
  refine g_199_1235 hC.RT _ _ _ n5 n6 ?_
  refine ⟨s1, s2, s3, s4, yl_A (u_lands (d := d) hC hw (xs (i4 + 1).toNatClampNeg) (xs (i4 + 2).toNatClampNeg) (xs (i4 + 3).toNatClampNeg) (xs (i4 + 4).toNatClampNeg)) (by omega) (fun G1 I1 J1 hR1 h1 h2 hW hx => ?_)⟩
  refine ⟨s1, s2, s3, s4, yl_B (m := m) (yl_P hw (p_lands (d := d) (hr.fc h1 h2) hw hR1 (by omega) (xs (i4 + 1).toNatClampNeg) (xs (i4 + 2).toNatClampNeg) (xs (i4 + 3).toNatClampNeg) (xs (i4 + 4).toNatClampNeg))) (by omega) hR1 (fun w' z => by obtain ⟨e', z1, z2⟩ := hW w' z; exact ⟨e', by omega, z2⟩) (by omega) hx (o_lands_c (xs (i4 + 1).toNatClampNeg) (xs (i4 + 2).toNatClampNeg) (xs (i4 + 3).toNatClampNeg) (xs (i4 + 4).toNatClampNeg) w) (fun y1 y2 G I J hI => ?_)⟩
  exact g_199_1324 hI.RT _ _ _ (hN _ _ _ _ _ rfl rfl hI)
theorem l_chain {d m : Nat} {i4 : Int32} {v5 v6 : Value} {Q : am_O → am_H → Prop} (n5 : am_nl v5 = true) (n6 : am_nl v6 = true) (hm : m ≤ 512) (hs : yl_is i4 L) (hI : yl_I m G I J) (hN : ∀ v5 v6 G I J, am_nl v5 = true → am_nl v6 = true → yl_I (m + 1) G I J → q_W β xs L (d + 60 + 1) 199 1697 [.retAddr 1, .ref 0, .ref 59, .ref 117, .int i4, v5, v6] [] (G, I, J) Q) : q_W β xs L (d + 60 + 1) 199 1327 [.retAddr 1, .ref 0, .ref 59, .ref 117, .int i4, v5, v6] [] (G, I, J) Q := by
  obtain ⟨w, e, v, he, hv, hw, hC, hr⟩ := hI
  obtain ⟨s1, s2, s3, s4, s5, s6⟩ := hs
  refine g_199_1327 hC.RT _ _ _ n5 n6 ?_
  refine ⟨s1, s2, s3, s4, s5, s6, yl_A (u_chain (d := d) hC hw (xs (i4 + 1).toNatClampNeg) (xs (i4 + 2).toNatClampNeg) (xs (i4 + 3).toNatClampNeg) (xs (i4 + 4).toNatClampNeg) (xs (i4 + 5).toNatClampNeg) (xs (i4 + 6).toNatClampNeg)) (by omega) (fun G1 I1 J1 hR1 h1 h2 hW hx => ?_)⟩
  refine ⟨s1, s2, s3, s4, s5, s6, yl_B (m := m) (yl_P hw (p_chain (d := d) (hr.fc h1 h2) hw hR1 (xs (i4 + 1).toNatClampNeg) (xs (i4 + 2).toNatClampNeg) (xs (i4 + 3).toNatClampNeg) (xs (i4 + 4).toNatClampNeg) (xs (i4 + 5).toNatClampNeg) (xs (i4 + 6).toNatClampNeg))) (by omega) hR1 (fun w' z => by obtain ⟨e', z1, z2⟩ := hW w' z; exact ⟨e', by omega, z2⟩) (by omega) hx (o_chain_c (xs (i4 + 1).toNatClampNeg) (xs (i4 + 2).toNatClampNeg) (xs (i4 + 3).toNatClampNeg) (xs (i4 + 4).toNatClampNeg) (xs (i4 + 5).toNatClampNeg) (xs (i4 + 6).toNatClampNeg) w) (fun y1 y2 G I J hI => ?_)⟩
  exact g_199_1442 hI.RT _ _ _ (hN _ _ _ _ _ rfl rfl hI)
theorem l_times {d m : Nat} {i4 : Int32} {v5 v6 : Value} {Q : am_O → am_H → Prop} (n5 : am_nl v5 = true) (n6 : am_nl v6 = true) (hm : m ≤ 512) (hs : yl_is i4 L) (hI : yl_I m G I J) (hN : ∀ v5 v6 G I J, am_nl v5 = true → am_nl v6 = true → yl_I (m + 1) G I J → q_W β xs L (d + 60 + 1) 199 1697 [.retAddr 1, .ref 0, .ref 59, .ref 117, .int i4, v5, v6] [] (G, I, J) Q) : q_W β xs L (d + 60 + 1) 199 1445 [.retAddr 1, .ref 0, .ref 59, .ref 117, .int i4, v5, v6] [] (G, I, J) Q := by
  obtain ⟨w, e, v, he, hv, hw, hC, hr⟩ := hI
  obtain ⟨s1, s2, s3, s4, s5, s6⟩ := hs
  refine g_199_1445 hC.RT _ _ _ n5 n6 ?_
  refine ⟨s1, s2, s3, s4, s5, yl_A (u_times (d := d) hC hw (xs (i4 + 1).toNatClampNeg) (xs (i4 + 2).toNatClampNeg) (xs (i4 + 3).toNatClampNeg) (xs (i4 + 4).toNatClampNeg) (xs (i4 + 5).toNatClampNeg)) (by omega) (fun G1 I1 J1 hR1 h1 h2 hW hx => ?_)⟩
  refine ⟨s1, s2, s3, s4, s5, yl_B (m := m) (yl_P hw (p_times (d := d) (hr.fc h1 h2) hw hR1 (xs (i4 + 1).toNatClampNeg) (xs (i4 + 2).toNatClampNeg) (xs (i4 + 3).toNatClampNeg) (xs (i4 + 4).toNatClampNeg) (xs (i4 + 5).toNatClampNeg))) (by omega) hR1 (fun w' z => by obtain ⟨e', z1, z2⟩ := hW w' z; exact ⟨e', by omega, z2⟩) (by omega) hx (o_times_c (xs (i4 + 1).toNatClampNeg) (xs (i4 + 2).toNatClampNeg) (xs (i4 + 3).toNatClampNeg) (xs (i4 + 4).toNatClampNeg) (xs (i4 + 5).toNatClampNeg) w) (fun y1 y2 G I J hI => ?_)⟩
  exact g_199_1546 hI.RT _ _ _ (hN _ _ _ _ _ rfl rfl hI)
theorem l_ifs {d m : Nat} {i4 : Int32} {v5 v6 : Value} {Q : am_O → am_H → Prop} (n5 : am_nl v5 = true) (n6 : am_nl v6 = true) (hm : m ≤ 512) (hs : yl_is i4 L) (hI : yl_I m G I J) (hN : ∀ v5 v6 G I J, am_nl v5 = true → am_nl v6 = true → yl_I (m + 1) G I J → q_W β xs L (d + 60 + 1) 199 1697 [.retAddr 1, .ref 0, .ref 59, .ref 117, .int i4, v5, v6] [] (G, I, J) Q) : q_W β xs L (d + 60 + 1) 199 1549 [.retAddr 1, .ref 0, .ref 59, .ref 117, .int i4, v5, v6] [] (G, I, J) Q := by
  obtain ⟨w, e, v, he, hv, hw, hC, hr⟩ := hI
  obtain ⟨s1, s2, s3, s4, s5, s6⟩ := hs
  refine g_199_1549 hC.RT _ _ _ n5 n6 ?_
  refine ⟨s1, s2, s3, s4, yl_A (u_ifs (d := d) hC hw (xs (i4 + 1).toNatClampNeg) (xs (i4 + 2).toNatClampNeg) (xs (i4 + 3).toNatClampNeg) (xs (i4 + 4).toNatClampNeg)) (by omega) (fun G1 I1 J1 hR1 h1 h2 hW hx => ?_)⟩
  refine ⟨s1, s2, s3, s4, yl_B (m := m) (yl_P hw (p_ifs (d := d) (hr.fc h1 h2) hw hR1 (xs (i4 + 1).toNatClampNeg) (xs (i4 + 2).toNatClampNeg) (xs (i4 + 3).toNatClampNeg) (xs (i4 + 4).toNatClampNeg))) (by omega) hR1 (fun w' z => by obtain ⟨e', z1, z2⟩ := hW w' z; exact ⟨e', by omega, z2⟩) (by omega) hx (o_ifs_c (xs (i4 + 1).toNatClampNeg) (xs (i4 + 2).toNatClampNeg) (xs (i4 + 3).toNatClampNeg) (xs (i4 + 4).toNatClampNeg) w) (fun y1 y2 G I J hI => ?_)⟩
  exact g_199_1638 hI.RT _ _ _ (hN _ _ _ _ _ rfl rfl hI)
theorem l_count {d m : Nat} {i4 : Int32} {v5 v6 : Value} {Q : am_O → am_H → Prop} (n5 : am_nl v5 = true) (n6 : am_nl v6 = true) (hm : m ≤ 512) (hs : yl_is i4 L) (hI : yl_I m G I J) (hN : ∀ v5 v6 G I J, am_nl v5 = true → am_nl v6 = true → yl_I (m + 1) G I J → q_W β xs L (d + 60 + 1) 199 1697 [.retAddr 1, .ref 0, .ref 59, .ref 117, .int i4, v5, v6] [] (G, I, J) Q) : q_W β xs L (d + 60 + 1) 199 1641 [.retAddr 1, .ref 0, .ref 59, .ref 117, .int i4, v5, v6] [] (G, I, J) Q := by
  obtain ⟨w, e, v, he, hv, hw, hC, hr⟩ := hI
  obtain ⟨s1, s2, s3, s4, s5, s6⟩ := hs
  refine g_199_1641 hC.RT _ _ _ n5 n6 ?_
  refine ⟨s1, yl_A (u_count (d := d) hC (xs (i4 + 1).toNatClampNeg)) (by omega) (fun G1 I1 J1 hR1 h1 h2 hW hx => ?_)⟩
  refine ⟨s1, yl_B (m := m) (yl_P (w_count hw (xs (i4 + 1).toNatClampNeg)) (p_count (d := d) (hr.fc h1 h2) hR1 (xs (i4 + 1).toNatClampNeg))) (by omega) hR1 (fun w' z => by obtain ⟨e', z1, z2⟩ := hW w' z; exact ⟨e', by omega, z2⟩) (by omega) hx (by rcases o_count_c (xs (i4 + 1).toNatClampNeg) w with z | z <;> simp [z]) (fun y1 y2 G I J hI => ?_)⟩
  exact g_199_1694 hI.RT _ _ _ (hN _ _ _ _ _ rfl rfl hI)
end Law2

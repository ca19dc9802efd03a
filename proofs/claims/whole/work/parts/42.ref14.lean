/-! ===== the reference: known, in force ===== -/
section R14
variable {β : Bool} {xs : Nat → Int32} {L : Nat} {G : am_G} {I : Nat → Nat → Int32} {J : Nat → Nat → Int64}
theorem s_m1 (x : Int32) : x + (-1) = x - 1 := (Int32.sub_eq_add_neg x 1).symm
theorem r_knownA {d : Nat} (hR : q_RT G) {D : a_F} {a : Nat} (ha : a < 12) (h77 : I 77 a = D 77 a) (h78 : I 78 a = D 78 a) (k : Int32) : q_W β xs L d 140 0 [.ref 59, .int (nI a), .int k] [] (G, I, J) (fun o h => o = .inl (some (.int (a_is (s_kn (D 77) (D 78) k a)))) ∧ h = (G, I, J)) := by
  have ea : (nI a).toNatClampNeg = a := nI_clamp (by omega)
  have ia : am_is (nI a) 12 = true := am_is_nI ha (by omega)
  have y : s_kn (D 77) (D 78) k a = true → q_W β xs L d 140 30 [.ref 59, .int (nI a), .int k] [] (G, I, J) (fun o h => o = .inl (some (.int (a_is (s_kn (D 77) (D 78) k a)))) ∧ h = (G, I, J)) := fun h => g_140_30 hR _ _ (g_140_35 hR _ _ _ ⟨Or.inr rfl, by rw [h]; rfl, rfl⟩)
  have z : s_kn (D 77) (D 78) k a = false → q_W β xs L d 140 34 [.ref 59, .int (nI a), .int k] [] (G, I, J) (fun o h => o = .inl (some (.int (a_is (s_kn (D 77) (D 78) k a)))) ∧ h = (G, I, J)) := fun h => g_140_34 hR _ _ (g_140_35 hR _ _ _ ⟨Or.inl rfl, by rw [h]; rfl, rfl⟩)
  refine g_140_0 hR _ _ ?_
  rw [ea, h77, h78]
  exact ⟨ia, fun c => z (by simp [s_kn, c]), fun c => ⟨ia, fun c1 => y (by simp [s_kn, c, c1]), fun c1 => ⟨ia, fun c2 => z (by simp [s_kn, c1, c2]), fun c2 => y (by simp [s_kn, c, c2])⟩⟩⟩
theorem r_knownF {d : Nat} (hR : q_RT G) {D : a_F} {f : Nat} (hf : f < 100) (h68 : I 68 f = D 68 f) (h69 : I 69 f = D 69 f) (k : Int32) : q_W β xs L d 141 0 [.ref 59, .int (nI f), .int k] [] (G, I, J) (fun o h => o = .inl (some (.int (a_is (a_knF D k f)))) ∧ h = (G, I, J)) := by
  have ea : (nI f).toNatClampNeg = f := nI_clamp (by omega)
  have ia : am_is (nI f) 100 = true := am_is_nI hf (by omega)
  have y : a_knF D k f = true → q_W β xs L d 141 30 [.ref 59, .int (nI f), .int k] [] (G, I, J) (fun o h => o = .inl (some (.int (a_is (a_knF D k f)))) ∧ h = (G, I, J)) := fun h => g_141_30 hR _ _ (g_141_35 hR _ _ _ ⟨Or.inr rfl, by rw [h]; rfl, rfl⟩)
  have z : a_knF D k f = false → q_W β xs L d 141 34 [.ref 59, .int (nI f), .int k] [] (G, I, J) (fun o h => o = .inl (some (.int (a_is (a_knF D k f)))) ∧ h = (G, I, J)) := fun h => g_141_34 hR _ _ (g_141_35 hR _ _ _ ⟨Or.inl rfl, by rw [h]; rfl, rfl⟩)
  refine g_141_0 hR _ _ ?_
  rw [ea, h68, h69]
  exact ⟨ia, fun c => z (by simp [a_knF, s_kn, c]), fun c => ⟨ia, fun c1 => y (by simp [a_knF, s_kn, c, c1]), fun c1 => ⟨ia, fun c2 => z (by simp [a_knF, s_kn, c1, c2]), fun c2 => y (by simp [a_knF, s_kn, c, c2])⟩⟩⟩
theorem r_force_loop {d nl nq np nf na : Nat} (hR : q_RT G) {D : a_F} (hD : r_D nl nq np nf na D I) (hna : na ≤ 12) (day k wo : Int32) {Q : am_O → am_H → Prop} (hQ : Q (.inl (some (.int (a_frc D day k wo na na).1))) (G, I, J)) : ∀ r m, r + m = na →
    q_W β xs L (d + 1) 142 14 [.ref 59, .int day, .int k, .int wo, .int (a_frc D day k wo na m).2, .int (a_frc D day k wo na m).1, .int (nI r - 1)] [] (G, I, J) Q
  | 0, m, hm => by
    have e : m = na := by omega
    subst e
    exact g_142_14 hR _ _ _ _ _ _ ⟨fun _ => hQ, fun z => absurd (by decide) z⟩
  | r + 1, m, hm => by
    have er : nI (r + 1) - 1 = nI r := nI_pred r
    have ec : (nI r).toNatClampNeg = r := nI_clamp (by omega)
    have ir : am_is (nI r) 12 = true := am_is_nI (by omega) (by omega)
    obtain ⟨d1, d2, d3, d4, d5, d6, d7, -, -⟩ := hD.2.2.2.2 r (by omega)
    have ea : na - (m + 1) = r := by omega
    have hbit := s_bit1 (a_frc D day k wo na m).2 (a := r) (by omega)
    have ih := r_force_loop (d := d) hR hD hna day k wo hQ r (m + 1) (by omega)
    have step : ∀ x y : Int32, (x, y) = a_frc D day k wo na (m + 1) → q_W β xs L (d + 1) 142 92 [.ref 59, .int day, .int k, .int wo, .int y, .int x, .int (nI r)] [] (G, I, J) Q := by
      intro x y h
      refine g_142_92 hR _ _ _ _ _ _ ?_
      rw [s_m1]
      have e1 : x = (a_frc D day k wo na (m + 1)).1 := congrArg Prod.fst h
      have e2 : y = (a_frc D day k wo na (m + 1)).2 := congrArg Prod.snd h
      rw [e1, e2]
      exact ih
    have no : ¬ (a_knA D k wo r = true ∧ ¬ day < D 75 r ∧ day < D 76 r ∧ bt (a_frc D day k wo na m).2 r = false) → q_W β xs L (d + 1) 142 92 [.ref 59, .int day, .int k, .int wo, .int (a_frc D day k wo na m).2, .int (a_frc D day k wo na m).1, .int (nI r)] [] (G, I, J) Q := fun h => step _ _ (by
      show _ = (if _ then _ else _)
      rw [ea, if_neg h])
    rw [er]
    refine g_142_14 hR _ _ _ _ _ _ ⟨fun z => absurd z (nI_pos (by omega)), fun _ => ⟨fun z => no (fun h => by have := h.1; simp [a_knA, z] at this), fun z => ?_⟩⟩
    refine q_useI (r_knownA (β := β) (xs := xs) (L := L) (d := d) hR (by omega) d4 d5 k) (Nat.le_refl _) ⟨hR, fun w => no (fun h => ?_), fun w => ⟨ir, fun y => ?_, fun y => ⟨ir, fun v => ?_, fun v => ⟨fun u => ⟨ir, ?_⟩, fun u => ?_⟩⟩⟩⟩
    · have h1 := h.1
      rw [a_knA, a_is_0.mp w] at h1
      simp at h1
    · rw [ec, d2] at y
      exact no (fun h => h.2.1 y)
    · rw [ec, d3] at v
      exact no (fun h => v h.2.2.1)
    · rw [ec, d2] at y
      rw [ec, d3] at v
      have hb : bt (a_frc D day k wo na m).2 r = false := by
        cases hz : bt (a_frc D day k wo na m).2 r with
        | false => rfl
        | true => exact absurd (hbit.mpr hz) u
      have hk : a_knA D k wo r = true := by
        unfold a_knA
        have : s_kn (D 77) (D 78) k r = true := by
          cases hs : s_kn (D 77) (D 78) k r with
          | true => rfl
          | false => exact absurd (a_is_0.mpr hs) w
        rw [this]
        simp [z]
      rw [ec, d7]
      exact step _ _ (by
        show _ = (if _ then _ else _)
        rw [ea, if_pos ⟨hk, y, v, hb⟩]
        rfl)
    · exact no (fun h => by rw [hbit.mp u] at h; exact absurd h.2.2.2 (by decide))
theorem r_force {d nl nq np nf na : Nat} (hR : q_RT G) {D : a_F} (hD : r_D nl nq np nf na D I) (hDn : D 59 32 = nI na) (hna : na ≤ 12) (day k wo : Int32) : q_W β xs L (d + 1) 142 0 [.ref 59, .int day, .int k, .int wo, .retAddr 0, .retAddr 0, .retAddr 0] [] (G, I, J) (fun o h => o = .inl (some (.int (a_force D day k wo))) ∧ h = (G, I, J)) := by
  refine g_142_0 hR _ _ _ ?_
  rw [hD.1.2.2.2.2]
  exact r_force_loop (d := d) hR hD hna day k wo ⟨by unfold a_force; rw [hDn, show a_ix (nI na) = na from nI_clamp (by omega)], rfl⟩ na 0 rfl
end R14

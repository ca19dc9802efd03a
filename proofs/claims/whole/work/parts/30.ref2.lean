/-! ===== the data, as the reference holds them ===== -/
/-- the cells agree with the data, as far as they are counted -/
def r_D (nl nq np nf na : Nat) (D I : a_F) : Prop :=
  (I 59 3 = nI nl ∧ I 59 4 = nI nq ∧ I 59 5 = nI np ∧ I 59 6 = nI nf ∧ I 59 32 = nI na) ∧ (∀ q, q < nq → I 60 q = D 60 q) ∧ (∀ p, p < np → I 61 p = D 61 p ∧ I 62 p = D 62 p ∧ I 63 p = D 63 p) ∧
  (∀ f, f < nf → I 64 f = D 64 f ∧ I 65 f = D 65 f ∧ I 66 f = D 66 f ∧ I 67 f = D 67 f ∧ I 68 f = D 68 f ∧ I 69 f = D 69 f ∧ I 70 f = D 70 f ∧ ∀ i, i < 3 → I 71 (3 * f + i) = D 71 (3 * f + i)) ∧
  (∀ a, a < na → I 74 a = D 74 a ∧ I 75 a = D 75 a ∧ I 76 a = D 76 a ∧ I 77 a = D 77 a ∧ I 78 a = D 78 a ∧ I 79 a = D 79 a ∧ I 80 a = D 80 a ∧ (∀ c, c < 12 → I 81 (12 * a + c) = D 81 (12 * a + c) ∧ I 82 (12 * a + c) = D 82 (12 * a + c) ∧ I 83 (12 * a + c) = D 83 (12 * a + c) ∧ I 84 (12 * a + c) = D 84 (12 * a + c) ∧ I 85 (12 * a + c) = D 85 (12 * a + c)) ∧ ∀ i, i < 1210 → I 86 (1210 * a + i) = D 86 (1210 * a + i))
theorem r_D.fr {nl nq np nf na : Nat} {D I I' : a_F} (h : r_D nl nq np nf na D I) (hf : r_fr I I') : r_D nl nq np nf na D I' := by
  obtain ⟨⟨h1, h2, h3, h4, h5⟩, h6, h7, h8, h9⟩ := h
  refine ⟨⟨?_, ?_, ?_, ?_, ?_⟩, fun q hq => ?_, fun p hp => ?_, fun f hf2 => ?_, fun a ha => ?_⟩
  · rw [hf 59 3 rfl]; exact h1
  · rw [hf 59 4 rfl]; exact h2
  · rw [hf 59 5 rfl]; exact h3
  · rw [hf 59 6 rfl]; exact h4
  · rw [hf 59 32 rfl]; exact h5
  · rw [hf 60 q rfl]; exact h6 q hq
  · rw [hf 61 p rfl, hf 62 p rfl, hf 63 p rfl]; exact h7 p hp
  · rw [hf 64 f rfl, hf 65 f rfl, hf 66 f rfl, hf 67 f rfl, hf 68 f rfl, hf 69 f rfl, hf 70 f rfl]
    obtain ⟨b1, b2, b3, b4, b5, b6, b7, b8⟩ := h8 f hf2
    exact ⟨b1, b2, b3, b4, b5, b6, b7, fun i hi => by rw [hf 71 _ rfl]; exact b8 i hi⟩
  · rw [hf 74 a rfl, hf 75 a rfl, hf 76 a rfl, hf 77 a rfl, hf 78 a rfl, hf 79 a rfl, hf 80 a rfl]
    obtain ⟨b1, b2, b3, b4, b5, b6, b7, b8, b9⟩ := h9 a ha
    exact ⟨b1, b2, b3, b4, b5, b6, b7, fun c hc => by rw [hf 81 _ rfl, hf 82 _ rfl, hf 83 _ rfl, hf 84 _ rfl, hf 85 _ rfl]; exact b8 c hc, fun i hi => by rw [hf 86 _ rfl]; exact b9 i hi⟩
/-- a number of a person, a land .. or none -/
def a_nn (n : Nat) (x : Int32) : Prop := x = -1 ∨ ∃ j, j < n ∧ x = nI j
section R2
variable {β : Bool} {xs : Nat → Int32} {L : Nat} {G : am_G} {I : Nat → Nat → Int32} {J : Nat → Nat → Int64}
theorem r_has_eq {nq : Nat} {s : a_F} (hS : r_S nq I s) {x : Int32} (hx : a_nn 20 x) (l : Nat) : (!decide (x = -1) && bt (I 91 (a_ix x)) l) = a_has s x l := by
  unfold a_has
  rcases hx with hx | ⟨j, hj, hx⟩
  · simp [hx]
  · rw [hx, show a_ix (nI j) = j from nI_clamp (by omega), (hS.1 j hj).1]
theorem r_leans {d nq : Nat} (hR : q_RT G) {D s : a_F} (hS : r_S nq I s) {p l : Nat} (hp : p < 20) (hl : l < 5) (h62 : I 62 p = D 62 p) (h63 : I 63 p = D 63 p) (hf : a_nn 20 (D 62 p)) (hm : a_nn 20 (D 63 p)) {c : a_C} (hw : I 59 78 = c.2.1) (hb : c.2.1 = 9 → I 59 82 = c.2.2.2.2) {wc : Nat → Int32} (hwc : c.2.1 = 9 → I 113 l = wc l) :
    q_W β xs L (d + 1) 163 0 [.ref 59, .int (nI p), .int (nI l)] [] (G, I, J) (fun o h => o = .inl (some (.int (a_lean D s c wc p l))) ∧ h = (G, I, J)) := by
  have e1 : (nI p).toNatClampNeg = p := nI_clamp (by omega)
  have e2 : (nI l).toNatClampNeg = l := nI_clamp (by omega)
  have i1 : am_is (nI p) 20 = true := am_is_nI hp (by omega)
  have i2 : am_is (nI l) 5 = true := am_is_nI hl (by omega)
  have hbit := s_bit1 c.2.2.2.2 (a := l) (by omega)
  have H1 := r_has (β := β) (xs := xs) (L := L) (G := G) (I := I) (J := J) (d := d) hR (p := D 62 p) (l := l) (by omega) hf
  have H2 := r_has (β := β) (xs := xs) (L := L) (G := G) (I := I) (J := J) (d := d) hR (p := D 63 p) (l := l) (by omega) hm
  rw [r_has_eq hS hf] at H1
  rw [r_has_eq hS hm] at H2
  have came : ∀ x, a_nn 20 x → a_has s x l = true → am_is (5 * x + nI l) 100 = true ∧ I 99 (5 * x + nI l).toNatClampNeg = s 8 (5 * a_ix x + l) := by
    intro x hx hh
    rcases hx with hx | ⟨j, hj, hx⟩
    · rw [hx] at hh; simp [a_has] at hh
    · have e3 : (5 * nI j + nI l : Int32) = nI (5 * j + l) := by rw [s_lit, pk_mul, nI_add]
      rw [hx, e3, show a_ix (nI j) = j from nI_clamp (by omega), show (nI (5 * j + l)).toNatClampNeg = 5 * j + l from nI_clamp (by omega)]
      exact ⟨am_is_nI (by omega) (by omega), (hS.2.2.1 _ (by omega)).1⟩
  refine g_163_0 hR _ _ ?_
  rw [e1, e2, hw, h62]
  refine ⟨fun c1 => ⟨fun c2 => ?_, fun c2 => ⟨fun c3 => ?_, fun c3 => ⟨i2, ?_⟩⟩⟩, fun c1 => ⟨i1, ?_⟩⟩
  · exact g_163_105 hR _ _ (g_163_106 hR _ _ _ ⟨by simp [a_lean, c1, c2], rfl⟩)
  · rw [hb c2] at c3
    have : bt c.2.2.2.2 l = false := by
      cases hz : bt c.2.2.2.2 l with
      | false => rfl
      | true => exact absurd (hbit.mpr hz) c3
    exact g_163_105 hR _ _ (g_163_106 hR _ _ _ ⟨by simp [a_lean, c1, this], rfl⟩)
  · rw [hb c2] at c3
    have : bt c.2.2.2.2 l = true := hbit.mp c3
    exact g_163_106 hR _ _ _ ⟨by rw [hwc c2]; simp [a_lean, c2, this], rfl⟩
  · refine q_useI H1 (Nat.le_refl _) ⟨hR, fun z => ⟨i1, ?_⟩, fun z => ⟨i1, ?_⟩⟩
    · rw [h63]
      have z1 := a_is_0.mp z
      refine q_useI H2 (Nat.le_refl _) ⟨hR, fun y => ?_, fun y => ⟨i1, ?_⟩⟩
      · have y1 := a_is_0.mp y
        exact g_163_74 hR _ _ _ ⟨by simp [a_lean, c1, z1, y1], rfl⟩
      · have y1 : a_has s (D 63 p) l = true := by
          cases hz : a_has s (D 63 p) l with
          | true => rfl
          | false => exact absurd (a_is_0.mpr hz) y
        obtain ⟨g1, g2⟩ := came _ hm y1
        rw [h63]
        exact ⟨g1, g_163_74 hR _ _ _ ⟨by rw [g2]; simp [a_lean, c1, z1, y1], rfl⟩⟩
    · have z1 : a_has s (D 62 p) l = true := by
        cases hz : a_has s (D 62 p) l with
        | true => rfl
        | false => exact absurd (a_is_0.mpr hz) z
      obtain ⟨g1, g2⟩ := came _ hf z1
      rw [h62]
      exact ⟨g1, g_163_74 hR _ _ _ ⟨by rw [g2]; simp [a_lean, c1, z1], rfl⟩⟩
end R2

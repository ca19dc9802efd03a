/-! ===== the reference: which clause is chosen ===== -/
/-- well-formed acts -/
def a_DA (nl na : Nat) (D : a_F) : Prop := ∀ a, a < na → (∃ l, l < nl ∧ D 74 a = nI l) ∧ ∃ cn, cn ≤ 12 ∧ D 79 a = nI cn ∧ ∀ c, c < cn → D 81 (12 * a + c) ≠ 4 → a_ex D a (D 83 (12 * a + c)) ∧ (D 84 (12 * a + c) = -1 ∨ a_ex D a (D 84 (12 * a + c)))
/-- all rows but values, pile and chosen stay -/
def r_f3 (I I' : a_F) : Prop := ∀ c, c ≠ 110 → c ≠ 111 → c ≠ 112 → I' c = I c
theorem r_f3.rf (I : a_F) : r_f3 I I := fun _ _ _ _ => rfl
theorem r_f3.fx {I I1 I2 : a_F} (h : r_f3 I I1) (h2 : r_fx I1 I2) : r_f3 I I2 := fun c a b d => (h2 c b).trans (h c a b d)
theorem r_f3.up {I I1 : a_F} (h : r_f3 I I1) (n : Nat) (x : Int32) : r_f3 I (am_u I1 112 n x) := fun c a b d => (am_u_row _ _ _ _ d).trans (h c a b d)
section R9
variable {β : Bool} {xs : Nat → Int32} {L : Nat} {G : am_G} {J : Nat → Nat → Int64}
theorem r_pickL {d nl nq np nf na : Nat} (hR : q_RT G) {D I0 : a_F} (hD : r_D nl nq np nf na D I0) (hA : a_DA nl na D) (hna : na ≤ 12) {l : Nat} (hl : l < 5) {v : Nat → Int32} {what force wanted : Int32} (hw : I0 59 78 = what) (hfo : I0 59 77 = force) (hwd : wanted ≠ 4) (i1 i2 i3 : Int32) {Q : am_O → am_H → Prop} :
    ∀ m a (I : a_F), a + m = na → r_f3 I0 I → (∀ i, i < 13 → I 110 i = v i) → I 112 l = -1 →
      (∀ I' (i6 : Int32), r_f3 I0 I' → (∀ j, j ≠ l → I' 112 j = I 112 j) → I' 112 l = a_choose D v what wanted force l m a → q_W β xs L (d + 3) 158 110 [.ref 59, .int i1, .int i2, .int i3, .int (nI l), .int wanted, .int i6] [] (G, I', J) Q) →
      q_W β xs L (d + 3) 158 44 [.ref 59, .int i1, .int i2, .int i3, .int (nI l), .int wanted, .int (nI a)] [] (G, I, J) Q
  | 0, a, I, ham, hf, hv, hch, hQ => by
    refine g_158_44 hR _ _ _ _ _ _ ⟨fun _ => hQ I _ hf (fun _ _ => rfl) hch, fun z => ?_⟩
    rw [hf 59 (by decide) (by decide) (by decide), hD.1.2.2.2.2, nI_ltI (by omega) (by omega)] at z
    omega
  | m + 1, a, I, ham, hf, hv, hch, hQ => by
    have el : (nI l).toNatClampNeg = l := nI_clamp (by omega)
    have ea : (nI a).toNatClampNeg = a := nI_clamp (by omega)
    have il : am_is (nI l) 5 = true := am_is_nI hl (by omega)
    obtain ⟨d1, d2, d3, d4, d5, d6, d7, d8, d9⟩ := hD.2.2.2.2 a (by omega)
    obtain ⟨⟨la, hla, hla2⟩, cn, hcn, hcn2, hok⟩ := hA a (by omega)
    have hbit := s_bit1 force (a := a) (by omega)
    have next : a_choose D v what wanted force l (m + 1) a = a_choose D v what wanted force l m (a + 1) → ∀ I1, r_f3 I0 I1 → (∀ j, j ≠ l → I1 112 j = I 112 j) → (∀ i, i < 13 → I1 110 i = v i) → I1 112 l = -1 → q_W β xs L (d + 3) 158 104 [.ref 59, .int i1, .int i2, .int i3, .int (nI l), .int wanted, .int (nI a)] [] (G, I1, J) Q := by
      intro he I1 q1 q2 q3 q4
      refine g_158_104 hR _ _ _ _ _ _ ?_
      rw [nI_1]
      exact r_pickL (d := d) hR hD hA hna hl hw hfo hwd i1 i2 i3 m (a + 1) I1 (by omega) q1 q3 q4 (fun I' i6 z1 z2 z3 => hQ I' i6 z1 (fun j hj => (z2 j hj).trans (q2 j hj)) (he ▸ z3))
    have no : ¬ (bt force a = true ∧ D 74 a = nI l) → a_choose D v what wanted force l (m + 1) a = a_choose D v what wanted force l m (a + 1) := fun z => by
      show (if _ then _ else _) = _
      rw [if_neg z]
    refine g_158_44 hR _ _ _ _ _ _ ⟨fun z => ?_, fun _ => ⟨il, fun z => ?_, fun _ => ⟨fun z => ?_, fun z => ⟨am_is_nI (by omega) (by omega), fun y => ?_, fun y => ?_⟩⟩⟩⟩
    · rw [hf 59 (by decide) (by decide) (by decide), hD.1.2.2.2.2] at z
      exact absurd ((nI_ltI (by omega) (by omega)).mpr (by omega)) z
    · rw [el] at z
      exact absurd hch z
    · rw [hf 59 (by decide) (by decide) (by decide), hfo] at z
      exact next (no (fun w => z (hbit.mpr w.1))) I hf (fun _ _ => rfl) hv hch
    · rw [ea, hf 74 (by decide) (by decide) (by decide), d1] at y
      exact next (no (fun w => y w.2)) I hf (fun _ _ => rfl) hv hch
    · rw [hf 59 (by decide) (by decide) (by decide), hfo] at z
      rw [ea, hf 74 (by decide) (by decide) (by decide), d1] at y
      have zb := hbit.mp z
      have yes : a_choose D v what wanted force l (m + 1) a = if a_first D v what wanted a cn 0 = -1 then a_choose D v what wanted force l m (a + 1) else a_first D v what wanted a cn 0 := by
        show (if _ then _ else _) = _
        rw [if_pos ⟨zb, y⟩, hcn2, show a_ix (nI cn) = cn from nI_clamp (by omega)]
      refine q_useVI (r_first (β := β) (xs := xs) (L := L) (d := d) hR (D := D) (I := I) (a := a) (cn := cn) (by omega) hcn (by rw [hf 79 (by decide) (by decide) (by decide), d6, hcn2]) (fun c hc => ?_) (fun i hi => by rw [hf 86 (by decide) (by decide) (by decide)]; exact d9 i hi) hv (what := what) (by rw [hf 59 (by decide) (by decide) (by decide)]; exact hw) (fun c hc hc2 => hok c hc (by rw [hc2]; exact hwd))) (Nat.le_refl _) (fun w I2 hB => ?_)
      · rw [hf 81 (by decide) (by decide) (by decide), hf 82 (by decide) (by decide) (by decide), hf 83 (by decide) (by decide) (by decide), hf 84 (by decide) (by decide) (by decide)]
        obtain ⟨e1, e2, e3, e4, -⟩ := d8 c hc
        exact ⟨e1, e2, e3, e4⟩
      · obtain ⟨x1, x2⟩ := hB
        rw [el]
        refine ⟨il, ?_⟩
        have f2 : r_f3 I0 (am_u I2 112 l w) := (hf.fx x2).up _ _
        have g2 : ∀ j, j ≠ l → am_u I2 112 l w 112 j = I 112 j := fun j hj => by rw [am_u_ne (Or.inr hj), x2 112 (by decide)]
        by_cases hw1 : w = -1
        · refine next (by rw [yes, if_pos (by rw [← x1]; exact hw1)]) _ f2 g2 (fun i hi => by rw [am_u_row _ _ _ _ (by decide), x2 110 (by decide)]; exact hv i hi) (by rw [am_u_same]; exact hw1)
        · have hc : am_u I2 112 l w 112 l = a_choose D v what wanted force l (m + 1) a := by
            rw [am_u_same, yes, if_neg (by rw [← x1]; exact hw1), x1]
          refine g_158_104 hR _ _ _ _ _ _ ?_
          refine g_158_44 hR _ _ _ _ _ _ ⟨fun _ => hQ _ _ f2 g2 hc, fun _ => ⟨il, fun _ => hQ _ _ f2 g2 hc, fun q => ?_⟩⟩
          rw [el, am_u_same] at q
          exact absurd q hw1
end R9

/-! ===== the reference: the first clause of an act ===== -/
/-- an expression of act a stands at x -/
def a_ex (D : a_F) (a : Nat) (x : Int32) : Prop := ∃ u, x = nI u ∧ 1210 * a ≤ u ∧ u < 14600 ∧ a_in (D 86) (1210 * a + 1210) 1211 u = true ∧ a_gd (a_ops (D 86) 1211 u) 0 = true
section R7
variable {β : Bool} {xs : Nat → Int32} {L : Nat} {G : am_G} {J : Nat → Nat → Int64}
theorem r_worthX {d : Nat} (hR : q_RT G) {D I : a_F} {a : Nat} (ha : a < 12) (hc : ∀ i, i < 1210 → I 86 (1210 * a + i) = D 86 (1210 * a + i)) {v : Nat → Int32} (hv : ∀ i, i < 13 → I 110 i = v i) {x : Int32} (hx : a_ex D a x) :
    q_W β xs L (d + 1) 161 0 [.ref 59, .int x, .retAddr 0, .retAddr 0, .retAddr 0] [] (G, I, J) (fun o h => ∃ w I', o = .inl (some (.int w)) ∧ h = (G, I', J) ∧ w = a_worth D v (a_ix x) ∧ r_fx I I') := by
  obtain ⟨u, rfl, h1, h2, h3, h4⟩ := hx
  rw [show a_ix (nI u) = u from nI_clamp (by omega)]
  exact r_worth (β := β) (xs := xs) (L := L) (d := d) hR (lo := 1210 * a) (hi := 1210 * a + 1210) (by omega) (fun j q1 q2 => by have := hc (j - 1210 * a) (by omega); rwa [show 1210 * a + (j - 1210 * a) = j by omega] at this) hv h3 h1 h4
theorem r_first_loop {d : Nat} (hR : q_RT G) {D I0 : a_F} {a cn : Nat} (ha : a < 12) (hcn : cn ≤ 12) (h79 : I0 79 a = nI cn) (hcl : ∀ c, c < 12 → I0 81 (12 * a + c) = D 81 (12 * a + c) ∧ I0 82 (12 * a + c) = D 82 (12 * a + c) ∧ I0 83 (12 * a + c) = D 83 (12 * a + c) ∧ I0 84 (12 * a + c) = D 84 (12 * a + c))
    (hc : ∀ i, i < 1210 → I0 86 (1210 * a + i) = D 86 (1210 * a + i)) {v : Nat → Int32} (hv : ∀ i, i < 13 → I0 110 i = v i) {what wanted : Int32} (hw : I0 59 78 = what) (hok : ∀ c, c < cn → D 81 (12 * a + c) = wanted → a_ex D a (D 83 (12 * a + c)) ∧ (D 84 (12 * a + c) = -1 ∨ a_ex D a (D 84 (12 * a + c)))) {Q : am_O → am_H → Prop} :
    ∀ m c (I : a_F) (v4 : Value), am_nl v4 = true → c + m = cn → r_fx I0 I → (∀ I', r_fx I0 I' → Q (.inl (some (.int (a_first D v what wanted a m c)))) (G, I', J)) → q_W β xs L (d + 2) 159 2 [.ref 59, .int (nI a), .int wanted, .int (nI c), v4] [] (G, I, J) Q
  | 0, c, I, v4, n4, hcm, hf, hQ => by
    have ea : (nI a).toNatClampNeg = a := nI_clamp (by omega)
    refine g_159_2 hR _ _ _ _ n4 ⟨am_is_nI ha (by omega), fun _ => hQ I hf, fun z => ?_⟩
    rw [ea, hf 79 (by decide), h79, nI_ltI (by omega) (by omega)] at z
    omega
  | m + 1, c, I, v4, n4, hcm, hf, hQ => by
    have ea : (nI a).toNatClampNeg = a := nI_clamp (by omega)
    have e1 : (12 * nI a + nI c : Int32) = nI (12 * a + c) := by rw [s_lit, pk_mul, nI_add]
    have e2 : (nI (12 * a + c)).toNatClampNeg = 12 * a + c := nI_clamp (by omega)
    have ik : am_is (nI (12 * a + c)) 144 = true := am_is_nI (by omega) (by omega)
    obtain ⟨d1, d2, d3, d4⟩ := hcl c (by omega)
    have k79 : I 79 a = nI cn := by rw [hf 79 (by decide)]; exact h79
    have row : ∀ (I1 : a_F), r_fx I0 I1 → I1 81 (12 * a + c) = D 81 (12 * a + c) ∧ I1 82 (12 * a + c) = D 82 (12 * a + c) ∧ I1 83 (12 * a + c) = D 83 (12 * a + c) ∧ I1 84 (12 * a + c) = D 84 (12 * a + c) ∧ I1 59 78 = what ∧ (∀ i, i < 1210 → I1 86 (1210 * a + i) = D 86 (1210 * a + i)) ∧ (∀ i, i < 13 → I1 110 i = v i) := fun I1 h1 => by
      rw [h1 81 (by decide), h1 82 (by decide), h1 83 (by decide), h1 84 (by decide), h1 59 (by decide), h1 86 (by decide), h1 110 (by decide)]
      exact ⟨d1, d2, d3, d4, hw, hc, hv⟩
    obtain ⟨b1, b2, b3, b4, b5, b6, b7⟩ := row I hf
    have next : a_first D v what wanted a (m + 1) c = a_first D v what wanted a m (c + 1) → ∀ I1, r_fx I0 I1 → q_W β xs L (d + 2) 159 90 [.ref 59, .int (nI a), .int wanted, .int (nI c), .int (nI (12 * a + c))] [] (G, I1, J) Q := by
      intro he I1 h1
      refine g_159_90 hR _ _ _ _ ?_
      rw [nI_1]
      exact r_first_loop (d := d) hR ha hcn h79 hcl hc hv hw hok m (c + 1) I1 _ rfl (by omega) h1 (fun I' q => he ▸ hQ I' q)
    have no : ¬ ((D 81 (12 * a + c) = wanted ∧ D 82 (12 * a + c) = what) ∧ (D 84 (12 * a + c) = -1 ∨ a_worth D v (a_ix (D 84 (12 * a + c))) = 0) ∧ a_worth D v (a_ix (D 83 (12 * a + c))) ≠ 0) → a_first D v what wanted a (m + 1) c = a_first D v what wanted a m (c + 1) := fun z => by
      show (if _ then _ else _) = _
      rw [if_neg z]
    have at73 : D 81 (12 * a + c) = wanted → D 82 (12 * a + c) = what → (D 84 (12 * a + c) = -1 ∨ a_worth D v (a_ix (D 84 (12 * a + c))) = 0) → ∀ I1, r_fx I0 I1 → q_W β xs L (d + 2) 159 73 [.ref 59, .int (nI a), .int wanted, .int (nI c), .int (nI (12 * a + c))] [] (G, I1, J) Q := by
      intro w1 w2 w3 I1 h1
      obtain ⟨r1, r2, r3, r4, r5, r6, r7⟩ := row I1 h1
      refine g_159_73 hR _ _ _ _ ⟨ik, ?_⟩
      rw [e2, r3]
      refine q_useVI (r_worthX (β := β) (xs := xs) (L := L) (d := d) hR ha r6 r7 (hok c (by omega) w1).1) (Nat.le_refl _) (fun w I2 hB => ?_)
      obtain ⟨x1, x2⟩ := hB
      have h2 : r_fx I0 I2 := fun q hq => (x2 q hq).trans (h1 q hq)
      refine ⟨fun z => next (no (fun y => y.2.2 (by rw [← x1]; exact z))) I2 h2, fun z => ?_⟩
      have := hQ I2 h2
      have e : a_first D v what wanted a (m + 1) c = nI (12 * a + c) := by
        show (if _ then _ else _) = _
        rw [if_pos ⟨⟨w1, w2⟩, w3, by rw [← x1]; exact z⟩]
      rw [e] at this
      exact this
    refine g_159_2 hR _ _ _ _ n4 ⟨am_is_nI ha (by omega), fun z => ?_, fun _ => ?_⟩
    · rw [ea, k79] at z
      exact absurd ((nI_ltI (by omega) (by omega)).mpr (by omega)) z
    · rw [e1, e2, b1, b2, b4, b5]
      refine ⟨ik, fun z => next (no (fun y => z y.1.1)) I hf, fun z => ⟨ik, fun y => ⟨ik, fun x => at73 z y (Or.inl x) I hf, fun x => ⟨ik, ?_⟩⟩, fun y => next (no (fun q => y q.1.2)) I hf⟩⟩
      rcases (hok c (by omega) z).2 with hh | hh
      · exact absurd hh x
      · refine q_useVI (r_worthX (β := β) (xs := xs) (L := L) (d := d) hR ha b6 b7 hh) (Nat.le_refl _) (fun w I2 hB => ?_)
        obtain ⟨x1, x2⟩ := hB
        have h2 : r_fx I0 I2 := fun q hq => (x2 q hq).trans (hf q hq)
        exact ⟨fun q => next (no (fun p => p.2.1.elim x (fun p2 => q (by rw [x1]; exact p2)))) I2 h2, fun q => at73 z y (Or.inr (by rw [← x1]; exact q)) I2 h2⟩
theorem r_first {d : Nat} (hR : q_RT G) {D I : a_F} {a cn : Nat} (ha : a < 12) (hcn : cn ≤ 12) (h79 : I 79 a = nI cn) (hcl : ∀ c, c < 12 → I 81 (12 * a + c) = D 81 (12 * a + c) ∧ I 82 (12 * a + c) = D 82 (12 * a + c) ∧ I 83 (12 * a + c) = D 83 (12 * a + c) ∧ I 84 (12 * a + c) = D 84 (12 * a + c))
    (hc : ∀ i, i < 1210 → I 86 (1210 * a + i) = D 86 (1210 * a + i)) {v : Nat → Int32} (hv : ∀ i, i < 13 → I 110 i = v i) {what wanted : Int32} (hw : I 59 78 = what) (hok : ∀ c, c < cn → D 81 (12 * a + c) = wanted → a_ex D a (D 83 (12 * a + c)) ∧ (D 84 (12 * a + c) = -1 ∨ a_ex D a (D 84 (12 * a + c)))) :
    q_W β xs L (d + 2) 159 0 [.ref 59, .int (nI a), .int wanted, .retAddr 0, .retAddr 0] [] (G, I, J) (fun o h => ∃ w I', o = .inl (some (.int w)) ∧ h = (G, I', J) ∧ w = a_first D v what wanted a cn 0 ∧ r_fx I I') :=
  g_159_0 hR _ _ (r_first_loop (d := d) hR ha hcn h79 hcl hc hv hw hok cn 0 I _ rfl (by omega) (r_fx.rf I) (fun I' q => ⟨_, I', rfl, rfl, rfl, q⟩))
end R7

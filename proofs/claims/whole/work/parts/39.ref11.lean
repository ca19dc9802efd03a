/-! ===== the reference: a person is asked, first half ===== -/
theorem a_nn.mono {n m : Nat} {x : Int32} (h : a_nn n x) (hm : n ≤ m) : a_nn m x := h.imp id (fun ⟨j, h1, h2⟩ => ⟨j, by omega, h2⟩)
/-- counts and persons are well-formed -/
def a_DP (nl nq np na : Nat) (D : a_F) : Prop := (D 59 3 = nI nl ∧ D 59 5 = nI np ∧ D 59 32 = nI na) ∧ (nl ≤ 5 ∧ nq ≤ 12 ∧ np ≤ 20 ∧ na ≤ 12) ∧ ∀ p, p < np → a_nn np (D 62 p) ∧ a_nn np (D 63 p)
/-- what is asked stands in the cells -/
def r_C (I : a_F) (c : a_C) : Prop := I 59 76 = c.1 ∧ I 59 78 = c.2.1 ∧ I 59 79 = c.2.2.1 ∧ I 59 80 = c.2.2.2.1 ∧ (c.2.1 = 9 → I 59 82 = c.2.2.2.2)
section R11
variable {β : Bool} {xs : Nat → Int32} {L : Nat} {G : am_G} {J : Nat → Nat → Int64}
theorem r_asks1 {d nl nq np nf na : Nat} (hR : q_RT G) {D I0 s : a_F} (hD : r_D nl nq np nf na D I0) (hP : a_DP nl nq np na D) (hA : a_DA nl na D) (hS : r_S nq I0 s) (hok : a_ok np nq s) {c : a_C} (hC : r_C I0 c) (hpl : a_nn nq c.2.2.1) {force : Int32} (hfo : I0 59 77 = force) {p lo hi : Nat} (hp : p < np) (hhi : hi ≤ 5) {i3 : Int32} (h3 : ∀ l, l ≤ 5 → (i3 < nI l ↔ hi ≤ l)) {Q : am_O → am_H → Prop} :
    ∀ m l (I : a_F) (v5 v6 : Value), am_nl v5 = true → am_nl v6 = true → lo ≤ l → l + m = hi → r_f3 I0 I → (∀ j, lo ≤ j → j < l → I 112 j = a_pick D s c force p j) →
      (∀ I' v5 v6, am_nl v5 = true → am_nl v6 = true → r_f3 I0 I' → (∀ j, lo ≤ j → j < hi → I' 112 j = a_pick D s c force p j) → q_W β xs L (d + 4) 158 119 [.ref 59, .int (nI p), .int (nI lo), .int i3, .int (nI lo), v5, v6] [] (G, I', J) Q) →
      q_W β xs L (d + 4) 158 3 [.ref 59, .int (nI p), .int (nI lo), .int i3, .int (nI l), v5, v6] [] (G, I, J) Q
  | 0, l, I, v5, v6, n5, n6, hlo, hlm, hf, hch, hQ => by
    have e : l = hi := by omega
    subst e
    refine g_158_3 hR _ _ _ _ _ _ n5 n6 ⟨fun _ => hQ I v5 v6 n5 n6 hf hch, fun z => absurd ((h3 l hhi).mpr (Nat.le_refl _)) z⟩
  | m + 1, l, I, v5, v6, n5, n6, hlo, hlm, hf, hch, hQ => by
    obtain ⟨⟨c3, c5, c32⟩, ⟨b1, b2, b3, b4⟩, hpp⟩ := hP
    have hl5 : l < 5 := by omega
    have el : (nI l).toNatClampNeg = l := nI_clamp (by omega)
    have hp20 : p < 20 := by omega
    refine g_158_3 hR _ _ _ _ _ _ n5 n6 ⟨fun z => absurd ((h3 l (by omega)).mp z) (by omega), fun _ => ⟨am_is_nI hl5 (by omega), ?_⟩⟩
    rw [el]
    have f1 : r_f3 I0 (am_u I 112 l (-1)) := hf.up _ _
    have S1 := hS.f3 f1
    obtain ⟨o1, o2, o3⟩ := hok p hp
    have r59 : ∀ i, am_u I 112 l (-1) 59 i = I0 59 i := fun i => congrFun (f1 59 (by decide) (by decide) (by decide)) i
    have D1 := hD.fr f1.fr
    obtain ⟨e61, e62, e63⟩ := D1.2.2.1 p hp
    refine q_useV (r_sees (β := β) (xs := xs) (L := L) (d := d + 2) hR S1 b2 hp20 hl5 e61 e62 e63 D1.1.1 b1 c3 ((hpp p hp).1.mono b3) ((hpp p hp).2.mono b3) (o1.mono b3) o2 o3 (c := c) hpl (by rw [r59]; exact hC.1) (by rw [r59]; exact hC.2.1) (by rw [r59]; exact hC.2.2.1) (by rw [r59]; exact hC.2.2.2.1) (fun w9 => by rw [r59]; exact hC.2.2.2.2 w9)) (Nat.le_refl _) (fun I2 hz => ?_)
    have f2 : r_f3 I0 I2 := f1.vz hz
    have S2 := hS.f3 f2
    have H := r_has (β := β) (xs := xs) (L := L) (G := G) (I := I2) (J := J) (d := d + 3) hR (p := nI p) (l := l) (by omega) (Or.inr ⟨p, hp20, rfl⟩)
    rw [r_has_eq S2 (Or.inr ⟨p, hp20, rfl⟩)] at H
    have hh : a_has s (nI p) l = bt (s 0 p) l := by
      unfold a_has
      rw [show a_ix (nI p) = p from nI_clamp (by omega)]
      have : ¬ nI p = -1 := fun w => by
        have w2 := congrArg Int32.toInt w
        rw [nI_toInt (by omega)] at w2
        have : (-1 : Int32).toInt = -1 := by decide
        omega
      simp [this]
    rw [hh] at H
    have z112 : ∀ j, I2 112 j = am_u I 112 l (-1) 112 j := fun j => congrFun (hz.1 112 (by decide)) j
    have go : ∀ wanted : Int32, wanted ≠ 4 → wanted = (if bt (s 0 p) l = true then 1 else 0) → q_W β xs L (d + 4) 158 39 [.ref 59, .int (nI p), .int (nI lo), .int i3, .int (nI l), v5, v6] [.int wanted] (G, I2, J) Q := by
      intro wanted hw4 hwd
      refine g_158_39 hR _ _ _ _ _ _ _ n5 n6 ?_
      refine r_pickL (β := β) (xs := xs) (L := L) (d := d + 1) hR (I0 := I0) hD hA b4 hl5 (v := a_val D s c p l) hC.2.1 hfo hw4 (nI p) (nI lo) i3 na 0 I2 (by omega) f2 hz.2 (by rw [z112, am_u_same]) (fun I' i6 q1 q2 q3 => ?_)
      refine g_158_110 hR _ _ _ _ _ _ ?_
      rw [nI_1]
      refine r_asks1 (d := d) hR hD ⟨⟨c3, c5, c32⟩, ⟨b1, b2, b3, b4⟩, hpp⟩ hA hS hok hC hpl hfo hp hhi h3 m (l + 1) I' _ _ rfl rfl (by omega) (by omega) q1 (fun j hj1 hj2 => ?_) hQ
      by_cases hjl : j = l
      · subst hjl
        rw [q3]
        unfold a_pick
        rw [hwd, c32, show a_ix (nI na) = na from nI_clamp (by omega)]
      · rw [q2 j hjl, z112, am_u_ne (Or.inr hjl)]
        exact hch j hj1 (by omega)
    refine q_useI H (Nat.le_refl _) ⟨fun w => go 0 (by decide) ?_, fun w => go 1 (by decide) ?_⟩
    · have := a_is_0.mp w
      rw [if_neg (by rw [this]; decide)]
    · cases hb : bt (s 0 p) l with
      | true => rfl
      | false => exact absurd (a_is_0.mpr hb) w
end R11

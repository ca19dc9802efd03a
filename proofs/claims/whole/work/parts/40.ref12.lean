/-! ===== the reference: a person is asked ===== -/
theorem a_first_rng (D : a_F) (v : Nat → Int32) (what wanted : Int32) (a : Nat) : ∀ n c, a_first D v what wanted a n c = -1 ∨ ∃ c', c ≤ c' ∧ c' < c + n ∧ a_first D v what wanted a n c = nI (12 * a + c')
  | 0, c => Or.inl rfl
  | n + 1, c => by
    unfold a_first
    split
    · exact Or.inr ⟨c, Nat.le_refl _, by omega, rfl⟩
    · rcases a_first_rng D v what wanted a n (c + 1) with h | ⟨c', h1, h2, h3⟩
      · exact Or.inl h
      · exact Or.inr ⟨c', by omega, by omega, h3⟩
theorem a_choose_rng {nl na : Nat} {D : a_F} (hA : a_DA nl na D) (v : Nat → Int32) (what wanted force : Int32) (l : Nat) : ∀ m a, a + m = na → a_choose D v what wanted force l m a = -1 ∨ ∃ a' c', a' < na ∧ c' < 12 ∧ a_choose D v what wanted force l m a = nI (12 * a' + c')
  | 0, a, _ => Or.inl rfl
  | m + 1, a, ham => by
    have ih := a_choose_rng hA v what wanted force l m (a + 1) (by omega)
    obtain ⟨-, cn, hcn, hcn2, -⟩ := hA a (by omega)
    unfold a_choose
    split
    · split
      · exact ih
      · rename_i h1 h2
        rcases a_first_rng D v what wanted a (a_ix (D 79 a)) 0 with h | ⟨c', -, h3, h4⟩
        · exact absurd h h2
        · rw [hcn2, show a_ix (nI cn) = cn from nI_clamp (by omega)] at h3
          exact Or.inr ⟨a, c', by omega, by omega, h4⟩
    · exact ih
/-- what is asked, and the calendar, stay -/
def r_cx (I I' : a_F) : Prop := (∀ i, 76 ≤ i → i ≤ 82 → I' 59 i = I 59 i) ∧ (∀ l, I' 113 l = I 113 l) ∧ (∀ l, I' 114 l = I 114 l) ∧ (∀ i, I' 108 i = I 108 i) ∧ (∀ i, I' 109 i = I 109 i) ∧ I' 59 73 = I 59 73
theorem r_ct.cx {I I' : a_F} (h : r_ct I I') : r_cx I I' := ⟨h.1, h.2.1, h.2.2.1, h.2.2.2.1, h.2.2.2.2.1, h.2.2.2.2.2.1⟩
theorem r_cx.rf (I : a_F) : r_cx I I := (r_ct.rf I).cx
theorem r_cx.tr {I I1 I2 : a_F} (h1 : r_cx I I1) (h2 : r_cx I1 I2) : r_cx I I2 := by
  obtain ⟨a1, a2, a3, a4, a5, a6⟩ := h1
  obtain ⟨b1, b2, b3, b4, b5, b6⟩ := h2
  exact ⟨fun i h1 h2 => (b1 i h1 h2).trans (a1 i h1 h2), fun l => (b2 l).trans (a2 l), fun l => (b3 l).trans (a3 l), fun l => (b4 l).trans (a4 l), fun l => (b5 l).trans (a5 l), b6.trans a6⟩
theorem r_f3.cx {I I' : a_F} (h : r_f3 I I') : r_cx I I' := by
  have g : ∀ c, c ≠ 110 → c ≠ 111 → c ≠ 112 → ∀ i, I' c i = I c i := fun c a b d i => congrFun (h c a b d) i
  exact ⟨fun i _ _ => g 59 (by decide) (by decide) (by decide) i, g 113 (by decide) (by decide) (by decide), g 114 (by decide) (by decide) (by decide), g 108 (by decide) (by decide) (by decide), g 109 (by decide) (by decide) (by decide), g 59 (by decide) (by decide) (by decide) 73⟩
section R12
variable {β : Bool} {xs : Nat → Int32} {L : Nat} {G : am_G} {J : Nat → Nat → Int64}
theorem r_asks2 {d nl nq np nf na : Nat} (hR : q_RT G) {D I0 : a_F} (hD : r_D nl nq np nf na D I0) (hP : a_DP nl nq np na D) (hA : a_DA nl na D) {c : a_C} (hC : r_C I0 c) {fact : Int32} (hfa : I0 59 81 = fact) {wc : Nat → Int32} (hwc : c.2.1 = 9 → ∀ l, l < 5 → I0 113 l = wc l) {p lo hi : Nat} (hp : p < np) (hhi : hi ≤ 5) {i3 : Int32} (h3 : ∀ l, l ≤ 5 → (i3 < nI l ↔ hi ≤ l))
    {ch : Nat → Int32} (hch : ∀ j, lo ≤ j → j < hi → ch j = -1 ∨ ∃ a' c', a' < na ∧ c' < 12 ∧ ch j = nI (12 * a' + c')) {Q : am_O → am_H → Prop} :
    ∀ m l (I s : a_F) (n : Nat) (v5 v6 : Value), am_nl v5 = true → am_nl v6 = true → lo ≤ l → l + m = hi → r_fr I0 I → r_cx I0 I → (∀ j, lo ≤ j → j < hi → I 112 j = ch j) → r_S nq I s → s 17 0 = nI n → n + 21 * m < 23000 →
      (∀ I' n', r_fr I0 I' → r_cx I0 I' → r_S nq I' (a_changes D c fact wc ch p m l s) → a_changes D c fact wc ch p m l s 17 0 = nI n' → n' ≤ n + 21 * m → Q (.inl none) (G, I', J)) →
      q_W β xs L (d + 4) 158 119 [.ref 59, .int (nI p), .int (nI lo), .int i3, .int (nI l), v5, v6] [] (G, I, J) Q
  | 0, l, I, s, n, v5, v6, n5, n6, hlo, hlm, hf, hcx, hc, hS, hn, hb, hQ => by
    have e : l = hi := by omega
    subst e
    exact g_158_119 hR _ _ _ _ _ _ n5 n6 ⟨fun _ => hQ I n hf hcx hS hn (by omega), fun z => absurd ((h3 l hhi).mpr (Nat.le_refl _)) z⟩
  | m + 1, l, I, s, n, v5, v6, n5, n6, hlo, hlm, hf, hcx, hc, hS, hn, hb, hQ => by
    have el : (nI l).toNatClampNeg = l := nI_clamp (by omega)
    have il : am_is (nI l) 5 = true := am_is_nI (by omega) (by omega)
    have next : ∀ (I1 s1 : a_F) (n1 : Nat), a_changes D c fact wc ch p (m + 1) l s = a_changes D c fact wc ch p m (l + 1) s1 → r_fr I0 I1 → r_cx I0 I1 → (∀ j, lo ≤ j → j < hi → I1 112 j = ch j) → r_S nq I1 s1 → s1 17 0 = nI n1 → n1 ≤ n + 21 →
        q_W β xs L (d + 4) 158 150 [.ref 59, .int (nI p), .int (nI lo), .int i3, .int (nI l), v5, v6] [] (G, I1, J) Q := by
      intro I1 s1 n1 he q1 q2 q3 q4 q5 q6
      refine g_158_150 hR _ _ _ _ _ _ n5 n6 ?_
      rw [nI_1]
      exact r_asks2 (d := d) hR hD hP hA hC hfa hwc hp hhi h3 hch m (l + 1) I1 s1 n1 _ _ n5 n6 (by omega) (by omega) q1 q2 q3 q4 q5 (by omega) (fun I' n' z1 z2 z3 z4 z5 => hQ I' n' z1 z2 (he ▸ z3) (he ▸ z4) (by omega))
    refine g_158_119 hR _ _ _ _ _ _ n5 n6 ⟨fun z => absurd ((h3 l (by omega)).mp z) (by omega), fun _ => ⟨il, ?_⟩⟩
    rw [el, hc l hlo (by omega)]
    refine ⟨fun z => next I s n (by show a_changes D c fact wc ch p m (l + 1) (if _ then _ else _) = _; rw [if_pos z]) hf hcx hc hS hn (by omega), fun z => ⟨il, ?_⟩⟩
    rcases hch l hlo (by omega) with h | ⟨a', c', ha', hc', hk⟩
    · exact absurd h z
    obtain ⟨⟨k3, k5, k32⟩, ⟨b1, b2, b3, b4⟩, hpp⟩ := hP
    have D1 := hD.fr hf
    obtain ⟨-, -, -, -, -, -, -, e8, -⟩ := D1.2.2.2.2 a' ha'
    obtain ⟨e81, -, -, -, e85⟩ := e8 c' hc'
    rw [hk]
    refine q_useV (q_mono (r_changes (β := β) (xs := xs) (L := L) (d := d) hR hS (D := D) (np := np) (by omega) (by omega) (by omega) D1.1.2.2.1 b3 k5 (fun q hq => ⟨(D1.2.2.1 q hq).2.1, (D1.2.2.1 q hq).2.2⟩) hp e81 e85 ((hpp p hp).1.mono b3) ((hpp p hp).2.mono b3) (c := c) (fact := fact) ((hcx.1 76 (by decide) (by decide)).trans hC.1) ((hcx.1 81 (by decide) (by decide)).trans hfa) ((hcx.1 78 (by decide) (by decide)).trans hC.2.1) (fun w9 => (hcx.1 82 (by decide) (by decide)).trans (hC.2.2.2.2 w9)) (wc := wc) (fun w => (hcx.2.1 l).trans (hwc w l (by omega))) hn (by omega)) (Nat.le_succ _) (fun _ _ q => q)) (Nat.le_refl _) (fun I' hI' => ?_)
    obtain ⟨q1, q2, q3, n', q4, q5⟩ := hI'
    refine next I' _ n' (by show a_changes D c fact wc ch p m (l + 1) (if _ then _ else _) = _; rw [if_neg z, hk, show a_ix (nI (12 * a' + c')) = 12 * a' + c' from nI_clamp (by omega)]) (hf.tr q1) (hcx.tr q2.cx) (fun j h1 h2 => (q2.2.2.2.2.2.2 j).trans (hc j h1 h2)) q3 q4 q5
end R12

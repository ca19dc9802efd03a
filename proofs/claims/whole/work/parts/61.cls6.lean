/-! ===== the class: which clause is chosen ===== -/
/-- all rows but the chosen and the stack stay -/
def c_f (I I' : a_F) : Prop := ∀ c, c ≠ 55 → c ≠ 56 → I' c = I c
theorem c_f.rf (I : a_F) : c_f I I := fun _ _ _ => rfl
theorem c_f.tr {I I1 I2 : a_F} (h1 : c_f I I1) (h2 : c_f I1 I2) : c_f I I2 := fun c a b => (h2 c a b).trans (h1 c a b)
theorem c_f.fw {I I1 I2 : a_F} (h : c_f I I1) (h2 : r_fw 56 I1 I2) : c_f I I2 := fun c a b => (h2 c b).trans (h c a b)
theorem c_f.up {I I1 : a_F} (h : c_f I I1) (n : Nat) (x : Int32) : c_f I (am_u I1 55 n x) := fun c a b => (am_u_row _ _ _ _ a).trans (h c a b)
theorem c_f.F {I I' : a_F} (h : c_f I I') : q_F c_sc I I' := fun c i hc => by
  have h1 : c ≠ 55 := fun q => by subst q; cases hc
  have h2 : c ≠ 56 := fun q => by subst q; cases hc
  rw [h c h1 h2]
theorem c_f.ct {I I' : a_F} (h : c_f I I') : c_ct I I' := ⟨fun i => congrFun (h 41 (by decide) (by decide)) i, fun i => congrFun (h 40 (by decide) (by decide)) i, fun i => congrFun (h 39 (by decide) (by decide)) i, congrFun (h 38 (by decide) (by decide)) 18⟩
theorem c_S.f {nq j : Nat} {I I' s : a_F} (h : c_S nq j I s) (hf : c_f I I') : c_S nq j I' s := by
  have hr := c_row_ne (j := j)
  unfold c_S c_rw at h ⊢
  rw [hf 47 (by decide) (by decide), hf 48 (by decide) (by decide), hf 49 (by decide) (by decide), hf 50 (by decide) (by decide), hf 51 (by decide) (by decide), hf 52 (by decide) (by decide), hf 53 (by decide) (by decide), hf 54 (by decide) (by decide), hf 43 (by decide) (by decide), hf 44 (by decide) (by decide), hf 45 (by decide) (by decide), hf 42 (by decide) (by decide), hf (c_row j) (by omega) (by omega)]
  exact h
theorem c_C.ct {I I' : a_F} {c : a_C} {p w : Nat} (h : c_C I c p w) (hf : c_ct I I') : c_C I' c p w := by
  unfold c_C at h ⊢
  rw [hf.1 0, hf.1 1, hf.1 2, hf.1 3, hf.1 6, hf.1 8, hf.1 9]
  exact h
theorem a_first_sp (D : a_F) (v : Nat → Int32) (what wanted : Int32) (a : Nat) : ∀ n c, a_first D v what wanted a n c = -1 ∨ ∃ c', c ≤ c' ∧ c' < c + n ∧ a_first D v what wanted a n c = nI (12 * a + c') ∧ D 81 (12 * a + c') = wanted ∧ D 82 (12 * a + c') = what
  | 0, c => Or.inl rfl
  | n + 1, c => by
    unfold a_first
    split
    · rename_i h
      exact Or.inr ⟨c, Nat.le_refl _, by omega, rfl, h.1⟩
    · rcases a_first_sp D v what wanted a n (c + 1) with h | ⟨c', h1, h2, h3⟩
      · exact Or.inl h
      · exact Or.inr ⟨c', by omega, by omega, h3⟩
theorem a_choose_sp {nl na : Nat} {D : a_F} (hA : a_DA nl na D) (v : Nat → Int32) (what wanted force : Int32) (l : Nat) : ∀ m a, a + m = na → a_choose D v what wanted force l m a = -1 ∨ ∃ a' c' cn, a' < na ∧ cn ≤ 12 ∧ D 79 a' = nI cn ∧ c' < cn ∧ a_choose D v what wanted force l m a = nI (12 * a' + c') ∧ D 81 (12 * a' + c') = wanted
  | 0, a, _ => Or.inl rfl
  | m + 1, a, ham => by
    have ih := a_choose_sp hA v what wanted force l m (a + 1) (by omega)
    obtain ⟨-, cn, hcn, hcn2, -⟩ := hA a (by omega)
    unfold a_choose
    split
    · split
      · exact ih
      · rename_i h1 h2
        rcases a_first_sp D v what wanted a (a_ix (D 79 a)) 0 with h | ⟨c', -, h3, h4, h5, -⟩
        · exact absurd h h2
        · rw [hcn2, show a_ix (nI cn) = cn from nI_clamp (by omega)] at h3
          exact Or.inr ⟨a, c', cn, by omega, hcn, hcn2, by omega, h4, h5⟩
    · exact ih
section C6
variable {β : Bool} {xs : Nat → Int32} {L : Nat} {G : am_G} {J : Nat → Nat → Int64}
theorem c_firstL {d nl na : Nat} (hR : q_RT G) {D I0 : a_F} {a cn : Nat} (hA : a_DA nl na D) (ha : a < na) (hna : na ≤ 12) (hcn : cn ≤ 12) (h79 : D 79 a = nI cn) (h24 : I0 24 a = nI cn) (hcl : ∀ c, c < cn → c_cl D I0 a (12 * a + c)) {p l w : Nat} (hw7 : w < 7) (h41 : I0 41 1 = nI w) {v : Nat → Int32} {b : Bool}
    (hv : ∀ I', r_fw 56 I0 I' → ∀ i, i < 13 → q_W β xs L (d + 1) 66 0 [.ref 38, .int (nI i), .int (nI p), .int (nI l), .retAddr 0, .retAddr 0, .retAddr 0, .retAddr 0, .retAddr 0, .retAddr 0, .retAddr 0] [] (G, I', J) (fun o h => o = .inl (some (.int (v i))) ∧ h = (G, I', J))) {Q : am_O → am_H → Prop} :
    ∀ m c (I : a_F) (v6 v7 : Value), am_nl v6 = true → am_nl v7 = true → c + m = cn → r_fw 56 I0 I →
      (∀ I' v5 v6 v7, am_nl v5 = true → am_nl v6 = true → am_nl v7 = true → r_fw 56 I0 I' → a_first D v (nI (w + 8)) (a_is b) a m c = -1 → q_W β xs L (d + 3) 63 208 [.ref 38, .int (nI p), .int (nI l), .int (a_is b), .int (nI a), v5, v6, v7] [] (G, I', J) Q) →
      (∀ I', r_fw 56 I0 I' → a_first D v (nI (w + 8)) (a_is b) a m c ≠ -1 → Q (.inl (some (.int (a_first D v (nI (w + 8)) (a_is b) a m c)))) (G, I', J)) →
      q_W β xs L (d + 3) 63 70 [.ref 38, .int (nI p), .int (nI l), .int (a_is b), .int (nI a), .int (nI c), v6, v7] [] (G, I, J) Q
  | 0, c, I, v6, v7, n6, n7, hcm, hf, hN, hY => by
    have ea : (nI a).toNatClampNeg = a := nI_clamp (by omega)
    refine g_63_70 hR _ _ _ _ _ _ _ n6 n7 ?_
    rw [ea, show I 24 a = nI cn by rw [hf 24 (by decide)]; exact h24]
    refine ⟨am_is_nI (by omega) (by omega), fun _ => hN I _ _ _ rfl n6 n7 hf rfl, fun z => ?_⟩
    rw [nI_ltI (by omega) (by omega)] at z
    omega
  | m + 1, c, I, v6, v7, n6, n7, hcm, hf, hN, hY => by
    have ea : (nI a).toNatClampNeg = a := nI_clamp (by omega)
    have e1 : (nI a * 12 + nI c : Int32) = nI (12 * a + c) := by rw [s_lit, pk_mul, nI_add, Nat.mul_comm]
    have e2 : (nI (12 * a + c)).toNatClampNeg = 12 * a + c := nI_clamp (by omega)
    have ik : am_is (nI (12 * a + c)) 144 = true := am_is_nI (by omega) (by omega)
    obtain ⟨-, cn', hcn', hcn2', hok⟩ := hA a ha
    have ecn : cn' = cn := nI_inj2 (by omega) (by omega) (hcn2'.symm.trans h79)
    subst ecn
    have next : a_first D v (nI (w + 8)) (a_is b) a (m + 1) c = a_first D v (nI (w + 8)) (a_is b) a m (c + 1) → ∀ I1 (i7 : Int32), r_fw 56 I0 I1 → q_W β xs L (d + 3) 63 202 [.ref 38, .int (nI p), .int (nI l), .int (a_is b), .int (nI a), .int (nI c), .int (nI (12 * a + c)), .int i7] [] (G, I1, J) Q := by
      intro he I1 i7 h1
      refine g_63_202 hR _ _ _ _ _ _ _ ?_
      rw [nI_1]
      exact c_firstL (d := d) hR hA ha hna hcn h79 h24 hcl hw7 h41 hv m (c + 1) I1 _ _ rfl rfl (by omega) h1 (fun I' v5 v6 v7 n5 n6 n7 q1 q2 => hN I' v5 v6 v7 n5 n6 n7 q1 (he.trans q2)) (fun I' q1 q2 => he ▸ hY I' q1 (by rw [he]; exact q2))
    have no : ¬ ((D 81 (12 * a + c) = a_is b ∧ D 82 (12 * a + c) = nI (w + 8)) ∧ (D 84 (12 * a + c) = -1 ∨ a_worth D v (a_ix (D 84 (12 * a + c))) = 0) ∧ a_worth D v (a_ix (D 83 (12 * a + c))) ≠ 0) → a_first D v (nI (w + 8)) (a_is b) a (m + 1) c = a_first D v (nI (w + 8)) (a_is b) a m (c + 1) := fun z => by
      show (if _ then _ else _) = _
      rw [if_neg z]
    have at133 : ¬ (D 81 (12 * a + c) = a_is b ∧ D 82 (12 * a + c) = nI (w + 8)) → q_W β xs L (d + 3) 63 133 [.ref 38, .int (nI p), .int (nI l), .int (a_is b), .int (nI a), .int (nI c), .int (nI (12 * a + c)), v7] [] (G, I, J) Q := fun z =>
      g_63_133 hR _ _ _ _ _ _ _ n7 (g_63_134 hR _ _ _ _ _ _ _ _ n7 ⟨fun _ => next (no (fun y => z y.1)) I _ hf, fun q => absurd rfl q⟩)
    refine g_63_70 hR _ _ _ _ _ _ _ n6 n7 ?_
    rw [ea, show I 24 a = nI cn' by rw [hf 24 (by decide)]; exact h24, e1, e2, hf 25 (by decide), hf 26 (by decide), hf 41 (by decide), h41]
    refine ⟨am_is_nI (by omega) (by omega), fun z => absurd ((nI_ltI (by omega) (by omega)).mpr (by omega)) z, fun _ => ⟨ik, ?_⟩⟩
    rcases hcl c (by omega) with ⟨q1, q2⟩ | ⟨q1, q2, ⟨w', q3, q4, q5, q6⟩, q7, q8, q9, q10⟩
    · rw [q2]
      exact ⟨fun _ => at133 (fun y => by rw [q1] at y; cases b <;> exact absurd y.1 (by decide)), fun z => by cases b <;> exact absurd z (by decide)⟩
    · rw [q2, q5]
      have ew : nI w' = nI w ↔ D 82 (12 * a + c) = nI (w + 8) := by
        rw [q4, nI_eq (by omega) (by omega), nI_eq (by omega) (by omega)]
        omega
      refine ⟨fun z => at133 (fun y => z y.1), fun z => ⟨ik, fun y => at133 (fun x => y (ew.mpr x.2)), fun y => ?_⟩⟩
      have h82 := ew.mp y
      have hno4 : D 81 (12 * a + c) ≠ 4 := fun q => by rw [q] at z; cases b <;> exact absurd z (by decide)
      obtain ⟨ex1, ex2⟩ := hok c (by omega) hno4
      have row : ∀ I1, r_fw 56 I0 I1 → I1 27 = I0 27 ∧ I1 28 = I0 28 ∧ I1 29 = I0 29 ∧ I1 31 = I0 31 := fun I1 h1 => ⟨h1 27 (by decide), h1 28 (by decide), h1 29 (by decide), h1 31 (by decide)⟩
      obtain ⟨u1, x1, -, x3, -, x5⟩ := ex1
      have gd1 : a_gd (a_ops (D 86) 1211 (a_ix (D 83 (12 * a + c)))) 0 = true := by rw [x1, show a_ix (nI u1) = u1 from nI_clamp (by omega)]; exact x5
      obtain ⟨r27, r28, r29, r31⟩ := row I hf
      refine g_63_134 hR _ _ _ _ _ _ _ _ n7 ⟨fun q => absurd q (by decide), fun _ => ⟨ik, ik, ?_⟩⟩
      rw [e2, r27, r28]
      refine q_useVI (c_eval (β := β) (xs := xs) (L := L) (d := d) hR (I := I) (v := v) (fun I' h1 => hv I' (fun c hc => (h1 c hc).trans (hf c hc))) (q8.keep r31) (Or.inr gd1)) (Nat.le_refl _) (fun y1 I1 hB => ?_)
      obtain ⟨b1, b2⟩ := hB
      have f1 : r_fw 56 I0 I1 := fun c hc => (b2 c hc).trans (hf c hc)
      obtain ⟨t27, t28, t29, t31⟩ := row I1 f1
      have hw1 : y1 = a_worth D v (a_ix (D 83 (12 * a + c))) := b1
      refine ⟨hR, fun q => next (no (fun x => x.2.2 (by rw [← hw1]; exact q))) I1 _ f1, fun q => ⟨ik, ik, ?_⟩⟩
      rw [t28, t29]
      have fin : ∀ (y2 : Int32) (I2 : a_F), r_fw 56 I0 I2 → (y2 = 0 ↔ (D 84 (12 * a + c) = -1 ∨ a_worth D v (a_ix (D 84 (12 * a + c))) = 0)) → (¬ y2 = 0 → q_W β xs L (d + 3) 63 202 [.ref 38, .int (nI p), .int (nI l), .int (a_is b), .int (nI a), .int (nI c), .int (nI (12 * a + c)), .int 1] [] (G, I2, J) Q) ∧ (y2 = 0 → Q (.inl (some (.int (nI (12 * a + c))))) (G, I2, J)) := by
        intro y2 I2 f2 hy2
        refine ⟨fun z2 => next (no (fun x => z2 (hy2.mpr x.2.1))) I2 _ f2, fun z2 => ?_⟩
        have e : a_first D v (nI (w + 8)) (a_is b) a (m + 1) c = nI (12 * a + c) := by
          show (if _ then _ else _) = _
          rw [if_pos ⟨⟨z, h82⟩, hy2.mp z2, by rw [← hw1]; exact q⟩]
        have := hY I2 f2 (by rw [e]; exact nI_m1 (by omega))
        rwa [e] at this
      by_cases h84 : D 84 (12 * a + c) = -1
      · refine q_useVI (c_eval (β := β) (xs := xs) (L := L) (d := d) hR (I := I1) (v := v) (fun I' h1 => hv I' (fun c hc => (h1 c hc).trans (f1 c hc))) ((q9 h84).keep t31) (Or.inl rfl)) (Nat.le_refl _) (fun y2 I2 hB => ?_)
        obtain ⟨b3, b4⟩ := hB
        have e0 : y2 = 0 := b3
        exact fin y2 I2 (fun c hc => (b4 c hc).trans (f1 c hc)) ⟨fun _ => Or.inl h84, fun _ => e0⟩
      · rcases ex2 with h | ⟨u2, x1', -, x3', -, x5'⟩
        · exact absurd h h84
        have gd2 : a_gd (a_ops (D 86) 1211 (a_ix (D 84 (12 * a + c)))) 0 = true := by rw [x1', show a_ix (nI u2) = u2 from nI_clamp (by omega)]; exact x5'
        refine q_useVI (c_eval (β := β) (xs := xs) (L := L) (d := d) hR (I := I1) (v := v) (fun I' h1 => hv I' (fun c hc => (h1 c hc).trans (f1 c hc))) ((q10 h84).keep t31) (Or.inr gd2)) (Nat.le_refl _) (fun y2 I2 hB => ?_)
        obtain ⟨b3, b4⟩ := hB
        have e0 : y2 = a_worth D v (a_ix (D 84 (12 * a + c))) := b3
        exact fin y2 I2 (fun c hc => (b4 c hc).trans (f1 c hc)) ⟨fun q => Or.inr (by rw [← e0]; exact q), fun q => by rw [e0]; exact q.resolve_left h84⟩
theorem c_chooseL {d nl nq np nf na : Nat} (hR : q_RT G) {D I0 : a_F} (hD : c_D nl nq np nf na D I0) (hA : a_DA nl na D) (hna : na ≤ 12) {p l w : Nat} (hl : l < 5) (hw7 : w < 7) (h41 : I0 41 1 = nI w) {force : Int32} (hask : ∀ a, a < na → bt (I0 41 5) a = (bt force a && bt (I0 23 a) w)) {v : Nat → Int32} {b : Bool}
    (hv : ∀ I', r_fw 56 I0 I' → ∀ i, i < 13 → q_W β xs L (d + 1) 66 0 [.ref 38, .int (nI i), .int (nI p), .int (nI l), .retAddr 0, .retAddr 0, .retAddr 0, .retAddr 0, .retAddr 0, .retAddr 0, .retAddr 0] [] (G, I', J) (fun o h => o = .inl (some (.int (v i))) ∧ h = (G, I', J))) {Q : am_O → am_H → Prop} :
    ∀ m a (I : a_F) (v5 v6 v7 : Value), am_nl v5 = true → am_nl v6 = true → am_nl v7 = true → a + m = na → r_fw 56 I0 I →
      (∀ I', r_fw 56 I0 I' → Q (.inl (some (.int (a_choose D v (nI (w + 8)) (a_is b) force l m a)))) (G, I', J)) →
      q_W β xs L (d + 3) 63 23 [.ref 38, .int (nI p), .int (nI l), .int (a_is b), .int (nI a), v5, v6, v7] [] (G, I, J) Q
  | 0, a, I, v5, v6, v7, n5, n6, n7, ham, hf, hQ => by
    refine g_63_23 hR _ _ _ _ _ _ _ n5 n6 n7 ⟨fun _ => hQ I hf, fun z => ?_⟩
    rw [hf 16 (by decide), hD.1.2.2.2.2, nI_ltI (by omega) (by omega)] at z
    omega
  | m + 1, a, I, v5, v6, v7, n5, n6, n7, ham, hf, hQ => by
    have ea : (nI a).toNatClampNeg = a := nI_clamp (by omega)
    obtain ⟨d1, d2, d3, d4, d5, d6, d7, d8⟩ := hD.2.2.2.2 a (by omega)
    obtain ⟨-, cn, hcn, hcn2, hok⟩ := hA a (by omega)
    have ecn : a_ix (D 79 a) = cn := by rw [hcn2]; exact nI_clamp (by omega)
    rw [ecn] at d8
    have next : a_choose D v (nI (w + 8)) (a_is b) force l (m + 1) a = a_choose D v (nI (w + 8)) (a_is b) force l m (a + 1) → ∀ I1 v5 v6 v7, am_nl v5 = true → am_nl v6 = true → am_nl v7 = true → r_fw 56 I0 I1 → q_W β xs L (d + 3) 63 208 [.ref 38, .int (nI p), .int (nI l), .int (a_is b), .int (nI a), v5, v6, v7] [] (G, I1, J) Q := by
      intro he I1 v5 v6 v7 n5 n6 n7 h1
      refine g_63_208 hR _ _ _ _ _ _ _ n5 n6 n7 ?_
      rw [nI_1]
      exact c_chooseL (d := d) hR hD hA hna hl hw7 h41 hask hv m (a + 1) I1 v5 v6 v7 n5 n6 n7 (by omega) h1 (fun I' q => he ▸ hQ I' q)
    have no : ¬ (bt force a = true ∧ D 74 a = nI l) → a_choose D v (nI (w + 8)) (a_is b) force l (m + 1) a = a_choose D v (nI (w + 8)) (a_is b) force l m (a + 1) := fun z => by
      show (if _ then _ else _) = _
      rw [if_neg z]
    have yes : (bt force a = true ∧ D 74 a = nI l) → a_choose D v (nI (w + 8)) (a_is b) force l (m + 1) a = if a_first D v (nI (w + 8)) (a_is b) a cn 0 = -1 then a_choose D v (nI (w + 8)) (a_is b) force l m (a + 1) else a_first D v (nI (w + 8)) (a_is b) a cn 0 := fun z => by
      show (if _ then _ else _) = _
      rw [if_pos z, ecn]
    -- without a clause for it
    have none : bt (I0 23 a) w = false → a_first D v (nI (w + 8)) (a_is b) a cn 0 = -1 := fun hw => by
      rcases a_first_sp D v (nI (w + 8)) (a_is b) a cn 0 with h | ⟨c', -, h2, -, h4, h5⟩
      · exact h
      · exfalso
        rcases d8 c' (by omega) with ⟨q1, -⟩ | ⟨-, -, ⟨w', q3, q4, -, q6⟩, -⟩
        · rw [q1] at h4; cases b <;> exact absurd h4 (by decide)
        · have : w' = w := by
            have := nI_inj2 (by omega) (by omega) (q4.symm.trans h5)
            omega
          rw [this, hw] at q6
          cases q6
    refine g_63_23 hR _ _ _ _ _ _ _ n5 n6 n7 ⟨fun z => absurd (by rw [hf 16 (by decide), hD.1.2.2.2.2]; exact (nI_ltI (by omega) (by omega)).mpr (by omega)) z, fun _ => ?_⟩
    rw [hf 41 (by decide), s_bit0 _ (by omega), hask a (by omega), ea, hf 17 (by decide), d1]
    refine ⟨fun z => next ?_ I _ _ _ n5 n6 n7 hf, fun z => ⟨am_is_nI (by omega) (by omega), fun y => ?_, fun y => next (no (fun x => y x.2)) I _ _ _ n5 n6 n7 hf⟩⟩
    · by_cases hfb : bt force a = true ∧ D 74 a = nI l
      · rw [hfb.1, Bool.true_and] at z
        rw [yes hfb, if_pos (none z)]
      · exact no hfb
    · have zt : (bt force a && bt (I0 23 a) w) = true := by
        cases hz : (bt force a && bt (I0 23 a) w) with
        | true => rfl
        | false => exact absurd hz z
      rw [Bool.and_eq_true] at zt
      have hy := yes ⟨zt.1, y⟩
      refine c_firstL (d := d) hR (I0 := I0) hA (by omega) hna hcn hcn2 (d6.trans hcn2) d8 hw7 h41 hv cn 0 I v6 v7 n6 n7 (by omega) hf (fun I' v5 v6 v7 n5 n6 n7 q1 q2 => next (by rw [hy, if_pos q2]) I' v5 v6 v7 n5 n6 n7 q1) (fun I' q1 q2 => ?_)
      have := hQ I' q1
      rw [hy, if_neg q2] at this
      exact this
end C6

/-! ===== the reference: worth of an expression, its loop ===== -/
/-- reading from k on comes to a stop ahead of hi -/
def a_in (c : Nat → Int32) (hi : Nat) : Nat → Nat → Bool
  | 0, _ => false
  | n + 1, k => Nat.blt k hi && (if c k = 0 then true else if c k = 1 ∨ c k = 2 then Nat.blt (k + 1) hi && a_in c hi n (k + 2) else a_in c hi n (k + 1))
/-- all rows but the pile stay -/
def r_fx (I I' : a_F) : Prop := ∀ c, c ≠ 111 → I' c = I c
theorem r_fx.rf (I : a_F) : r_fx I I := fun _ _ => rfl
theorem r_fx.up {I I' : a_F} (h : r_fx I I') (n : Nat) (x : Int32) : r_fx I (am_u I' 111 n x) := fun c hc => (am_u_row _ _ _ _ hc).trans (h c hc)
section R6
variable {β : Bool} {xs : Nat → Int32} {L : Nat} {G : am_G} {J : Nat → Nat → Int64}
theorem r_worth_loop {d : Nat} (hR : q_RT G) {D I0 : a_F} {lo hi : Nat} (hhi : hi ≤ 14600) (hc : ∀ j, lo ≤ j → j < hi → I0 86 j = D 86 j) {v : Nat → Int32} (hv : ∀ i, i < 13 → I0 110 i = v i) (i1 : Int32) {Q : am_O → am_H → Prop} : ∀ n k (I : a_F) (st : List Int32) (v4 : Value), am_nl v4 = true → a_in (D 86) hi n k = true → lo ≤ k → r_fx I0 I →
    a_gd (a_ops (D 86) n k) st.length = true → st.length ≤ 64 → r_pl I st → (∀ I', r_fx I0 I' → Q (.inl (some (.int (((a_ops (D 86) n k).foldl (a_step v) st).headD 0)))) (G, I', J)) →
    q_W β xs L (d + 1) 161 4 [.ref 59, .int i1, .int (nI st.length), .int (nI k), v4] [] (G, I, J) Q
  | 0, k, I, st, v4, n4, hin, hlo, hf, hg, hs, hp, hQ => by cases hin
  | n + 1, k, I, st, v4, n4, hin, hlo, hf, hg, hs, hp, hQ => by
    unfold a_in at hin
    rw [Bool.and_eq_true] at hin
    have hk : k < hi := by have := hin.1; rwa [Nat.blt_eq] at this
    have ek : (nI k).toNatClampNeg = k := nI_clamp (by omega)
    have ek1 : (nI (k + 1)).toNatClampNeg = k + 1 := nI_clamp (by omega)
    have ik : am_is (nI k) 14600 = true := am_is_nI (by omega) (by omega)
    have code : ∀ j, lo ≤ j → j < hi → I 86 j = D 86 j := fun j a b => by rw [hf 86 (by decide)]; exact hc j a b
    have ck := code k hlo hk
    have ih := hin.2
    -- a push
    have push : ∀ (x y w : Int32), a_gd (a_ops (D 86) n (k + 2)) (st.length + 1) = true → st.length < 64 → a_in (D 86) hi n (k + 2) = true → (∀ I', r_fx I0 I' → Q (.inl (some (.int (((a_ops (D 86) n (k + 2)).foldl (a_step v) (x :: st)).headD 0)))) (G, I', J)) →
        q_W β xs L (d + 1) 161 67 [.ref 59, .int i1, .int (nI st.length), .int (nI (k + 1)), .int y] [.int x, .int (nI st.length), .ref 111] (G, I, J) Q := by
      intro x y w g1 g2 g3 g4
      refine g_161_67 hR _ _ _ _ _ _ ⟨am_is_nI (by omega) (by omega), ?_⟩
      rw [show (nI st.length).toNatClampNeg = st.length from nI_clamp (by omega), nI_1, nI_1]
      refine g_161_140 hR _ _ _ _ ?_
      exact r_worth_loop (d := d) hR hhi hc hv i1 n (k + 2) (am_u I 111 st.length x) (x :: st) _ rfl g3 (by omega) (hf.up _ _) g1 (by simp; omega) (hp.cons x) g4
    refine g_161_4 hR _ _ _ _ n4 ?_
    rw [ek, ck]
    refine ⟨ik, fun z0 => ?_, fun z0 => ?_⟩
    · have e : a_ops (D 86) (n + 1) k = [] := by unfold a_ops; rw [if_pos z0]
      rw [e] at hg hQ
      have h1 : st.length = 1 := Nat.eq_of_beq_eq_true hg
      refine ⟨by decide, ?_⟩
      match st, h1, hp, hQ with
      | [x], _, hp, hQ =>
        have := hQ I hf
        have e2 : I 111 (0 : Int32).toNatClampNeg = x := hp.top
        rw [e2]
        exact this
    · rw [if_neg z0] at ih
      refine ⟨ik, fun z1 => ?_, fun z1 => ⟨fun z2 => ⟨fun z3 => ?_, fun z3 => ?_⟩, fun z2 => ?_⟩⟩
      · rw [if_pos (Or.inl z1), Bool.and_eq_true] at ih
        have hk1 : k + 1 < hi := by have := ih.1; rwa [Nat.blt_eq] at this
        have e : a_ops (D 86) (n + 1) k = (D 86 k, D 86 (k + 1)) :: a_ops (D 86) n (k + 2) := by
          show (if _ then _ else _) = _
          rw [if_neg z0, if_pos (Or.inl z1)]
        rw [e] at hg hQ
        unfold a_gd at hg
        rw [if_pos z1, Bool.and_eq_true] at hg
        have hlt : st.length < 64 := by have := hg.1; rwa [Nat.blt_eq] at this
        rw [nI_1]
        refine g_161_36 hR _ _ _ _ ⟨fun z => absurd z1 z, fun _ => ⟨am_is_nI (by omega) (by omega), ?_⟩⟩
        rw [ek1, code (k + 1) (by omega) hk1]
        refine push _ _ 0 hg.2 hlt ih.2 (fun I' q => ?_)
        have := hQ I' q
        rw [List.foldl_cons] at this
        have e3 : a_step v st (D 86 k, D 86 (k + 1)) = D 86 (k + 1) :: st := by unfold a_step; rw [if_pos z1]
        rw [e3] at this
        exact this
      · -- two operands
        rw [if_neg (fun z => z.elim z1 z2)] at ih
        have e : a_ops (D 86) (n + 1) k = (D 86 k, 0) :: a_ops (D 86) n (k + 1) := by
          show (if _ then _ else _) = _
          rw [if_neg z0, if_neg (fun z => z.elim z1 z2)]
        rw [e] at hg hQ
        unfold a_gd at hg
        rw [if_neg z1, if_neg z2, if_neg z3, Bool.and_eq_true] at hg
        have h2 : 2 ≤ st.length := Nat.le_of_ble_eq_true hg.1
        match st, h2, hs, hp, hg, hQ with
        | y :: x :: r, _, hs, hp, hg, hQ =>
          have el : (y :: x :: r).length = r.length + 2 := rfl
          have hr : r.length ≤ 62 := by rw [el] at hs; omega
          rw [el] at hg ⊢
          have e1 : nI (r.length + 2) + (-1) = nI (r.length + 1) := pk_m1 _
          have e2 : nI (r.length + 1) - 1 = nI r.length := nI_pred _
          have c1 : (nI (r.length + 1)).toNatClampNeg = r.length + 1 := nI_clamp (by omega)
          have c2 : (nI r.length).toNatClampNeg = r.length := nI_clamp (by omega)
          rw [e1, e2, c1, c2]
          have t1 : I 111 (r.length + 1) = y := hp.top
          have t2 : I 111 r.length = x := hp.tail.top
          rw [t1, t2]
          refine ⟨am_is_nI (by omega) (by omega), am_is_nI (by omega) (by omega), ?_⟩
          refine q_useI (r_works (β := β) (xs := xs) (L := L) (d := d) hR _ _ _) (Nat.le_refl _) ⟨am_is_nI (by omega) (by omega), ?_⟩
          rw [nI_1]
          refine g_161_140 hR _ _ _ _ ?_
          have hpl : r_pl (am_u I 111 r.length (a_works (D 86 k) x y)) (a_works (D 86 k) x y :: r) := hp.tail.tail.cons _
          refine r_worth_loop (d := d) hR hhi hc hv i1 n (k + 1) _ (a_works (D 86 k) x y :: r) _ rfl ih (by omega) (hf.up _ _) hg.2 (by simp; omega) hpl (fun I' q => ?_)
          have := hQ I' q
          rw [List.foldl_cons] at this
          have e3 : a_step v (y :: x :: r) (D 86 k, 0) = a_works (D 86 k) x y :: r := by unfold a_step; rw [if_neg z1, if_neg z2, if_neg z3]
          rw [e3] at this
          exact this
      · -- not
        rw [if_neg (fun z => z.elim z1 z2)] at ih
        have e : a_ops (D 86) (n + 1) k = (D 86 k, 0) :: a_ops (D 86) n (k + 1) := by
          show (if _ then _ else _) = _
          rw [if_neg z0, if_neg (fun z => z.elim z1 z2)]
        rw [e] at hg hQ
        unfold a_gd at hg
        rw [if_neg z1, if_neg z2, if_pos z3, Bool.and_eq_true] at hg
        have h1 : 1 ≤ st.length := Nat.le_of_ble_eq_true hg.1
        match st, h1, hs, hp, hg, hQ with
        | x :: r, _, hs, hp, hg, hQ =>
          have el : (x :: r).length = r.length + 1 := rfl
          have hr : r.length ≤ 63 := by rw [el] at hs; omega
          rw [el] at hg ⊢
          have e2 : nI (r.length + 1) - 1 = nI r.length := nI_pred _
          have c2 : (nI r.length).toNatClampNeg = r.length := nI_clamp (by omega)
          rw [e2, c2, hp.top]
          have fin : ∀ b : Bool, b = decide (x = 0) → q_W β xs L (d + 1) 161 106 [.ref 59, .int i1, .int (nI (r.length + 1)), .int (nI k + 1), .int (D 86 k)] [.int (a_is b), .int (nI r.length), .ref 111] (G, I, J) Q := by
            intro b hb
            refine g_161_106 hR _ _ _ _ _ _ ⟨am_is_nI (by omega) (by omega), ?_⟩
            rw [c2, nI_1]
            refine g_161_140 hR _ _ _ _ ?_
            have hpl : r_pl (am_u I 111 r.length (a_is b)) (a_is b :: r) := hp.tail.cons _
            refine r_worth_loop (d := d) hR hhi hc hv i1 n (k + 1) _ (a_is b :: r) _ rfl ih (by omega) (hf.up _ _) hg.2 (by simp; omega) hpl (fun I' q => ?_)
            have := hQ I' q
            rw [List.foldl_cons] at this
            have e3 : a_step v (x :: r) (D 86 k, 0) = a_is b :: r := by unfold a_step; rw [if_neg z1, if_neg z2, if_pos z3, hb]
            rw [e3] at this
            exact this
          exact ⟨am_is_nI (by omega) (by omega), fun w => fin false (by simp [w]), fun w => fin true (by simp [w])⟩
      · rw [if_pos (Or.inr z2), Bool.and_eq_true] at ih
        have hk1 : k + 1 < hi := by have := ih.1; rwa [Nat.blt_eq] at this
        have e : a_ops (D 86) (n + 1) k = (D 86 k, D 86 (k + 1)) :: a_ops (D 86) n (k + 2) := by
          show (if _ then _ else _) = _
          rw [if_neg z0, if_pos (Or.inr z2)]
        rw [e] at hg hQ
        unfold a_gd at hg
        rw [if_neg z1, if_pos z2, Bool.and_eq_true, Bool.and_eq_true] at hg
        have hlt : st.length < 64 := by have := hg.2.1; rwa [Nat.blt_eq] at this
        obtain ⟨i, hi13, hi2⟩ := am_is_of hg.1 (by decide)
        have hi2 : D 86 (k + 1) = nI i := hi2
        rw [nI_1]
        refine g_161_36 hR _ _ _ _ ⟨fun _ => ⟨am_is_nI (by omega) (by omega), ?_⟩, fun z => absurd z z1⟩
        rw [ek1, code (k + 1) (by omega) hk1]
        refine ⟨hg.1, ?_⟩
        refine push _ _ 0 hg.2.2 hlt ih.2 (fun I' q => ?_)
        have := hQ I' q
        rw [List.foldl_cons] at this
        have e4 : I 110 (D 86 (k + 1)).toNatClampNeg = v (a_ix (D 86 (k + 1))) := by
          rw [hi2, hf 110 (by decide)]
          show I0 110 (nI i).toNatClampNeg = v (nI i).toNatClampNeg
          rw [show (nI i).toNatClampNeg = i from nI_clamp (by omega)]
          exact hv i hi13
        have e3 : a_step v st (D 86 k, D 86 (k + 1)) = I 110 (D 86 (k + 1)).toNatClampNeg :: st := by unfold a_step; rw [if_neg z1, if_pos z2, e4]
        rw [e3] at this
        exact this
theorem r_worth {d : Nat} (hR : q_RT G) {D I : a_F} {lo hi k : Nat} (hhi : hi ≤ 14600) (hc : ∀ j, lo ≤ j → j < hi → I 86 j = D 86 j) {v : Nat → Int32} (hv : ∀ i, i < 13 → I 110 i = v i) (hin : a_in (D 86) hi 1211 k = true) (hlo : lo ≤ k) (hg : a_gd (a_ops (D 86) 1211 k) 0 = true) :
    q_W β xs L (d + 1) 161 0 [.ref 59, .int (nI k), .retAddr 0, .retAddr 0, .retAddr 0] [] (G, I, J) (fun o h => ∃ w I', o = .inl (some (.int w)) ∧ h = (G, I', J) ∧ w = a_worth D v k ∧ r_fx I I') :=
  g_161_0 hR _ (r_worth_loop (d := d) hR hhi hc hv (nI k) 1211 k I [] _ rfl hin hlo (r_fx.rf I) hg (by decide) (fun j hj => absurd hj (by simp)) (fun I' q => ⟨_, I', rfl, rfl, rfl, q⟩))
end R6

/-! ===== the class: what an expression comes to ===== -/
/-- a row holds the stack -/
def t_pl (r : Nat) (I : a_F) (st : List Int32) : Prop := ∀ j, j < st.length → st[j]? = some (I r (st.length - 1 - j))
theorem t_pl.cons {r : Nat} {I : a_F} {st : List Int32} (h : t_pl r I st) (x : Int32) : t_pl r (am_u I r st.length x) (x :: st) := by
  intro j hj
  cases j with
  | zero =>
    simp [am_u]
  | succ j =>
    have hj2 : j < st.length := by simpa using hj
    rw [List.getElem?_cons_succ, h j hj2]
    have e : (x :: st).length - 1 - (j + 1) = st.length - 1 - j := by simp; omega
    rw [e, am_u_ne (Or.inr (by omega))]
theorem t_pl.top {r : Nat} {I : a_F} {x : Int32} {st : List Int32} (h : t_pl r I (x :: st)) : I r st.length = x := by
  have := h 0 (by simp)
  simp at this
  exact this.symm
theorem t_pl.tail {r : Nat} {I : a_F} {x : Int32} {st : List Int32} (h : t_pl r I (x :: st)) : t_pl r I st := by
  intro j hj
  have := h (j + 1) (by simp; omega)
  rw [List.getElem?_cons_succ] at this
  rw [this]
  have e : (x :: st).length - 1 - (j + 1) = st.length - 1 - j := by simp; omega
  rw [e]
theorem c_op_C {x : Int32} (h1 : x < -13) (h2 : ¬ x = -203) : (c_op x).1 ≠ 1 ∧ (c_op x).1 ≠ 2 ∧ (c_op x).1 ≠ 3 ∧ (c_op x).2 = 0 := by
  have h0 : x < 0 := Int32.lt_trans h1 (by decide)
  unfold c_op
  rw [if_neg (fun q => q h0), if_neg (fun q => q h1), if_neg h2]
  repeat' split
  all_goals decide
theorem c_op_N : c_op (-203) = (3, 0) := by decide
theorem c_op_A {x : Int32} (h : ¬ x < 0) : c_op x = (1, x) := by unfold c_op; rw [if_pos h]
theorem c_op_B {x : Int32} (h : x < 0) (h2 : ¬ x < -13) : c_op x = (2, -1 - x) := by unfold c_op; rw [if_neg (fun q => q h), if_pos h2]
theorem q_lsw_df {pc : Nat} {df : Int} {ps : List (Int × Int)} {x : Int32} (h : ∀ q ∈ ps, x.toInt ≠ q.1) : q_lsw pc df ps x = some ((pc : Int) + df).toNat := by
  have key : ∀ ps : List (Int × Int), (∀ q ∈ ps, x.toInt ≠ q.1) → Op.lookupswitch.offset ps df x.toInt = df := by
    intro ps
    induction ps with
    | nil => intro _; rfl
    | cons a r ih =>
      intro h
      obtain ⟨a, o⟩ := a
      have h1 := h (a, o) List.mem_cons_self
      have h2 := ih (fun q hq => h q (List.mem_cons_of_mem _ hq))
      unfold Op.lookupswitch.offset
      first
      | (rw [if_neg (by simpa using h1)]; exact h2)
      | (rw [if_neg (by simpa using Ne.symm h1)]; exact h2)
      | (simp_all)
  unfold q_lsw
  rw [key ps h]
section C5
variable {β : Bool} {xs : Nat → Int32} {L : Nat} {G : am_G} {J : Nat → Nat → Int64}
theorem c_join {d : Nat} {I : a_F} (hR : q_RT G) {code : Int32} (h1 : code < -13) (h2 : ¬ code = -203) (x y : Int32) : q_W β xs L d 65 0 [.int code, .int x, .int y] [] (G, I, J) (fun o h => o = .inl (some (.int (a_works (c_op code).1 x y))) ∧ h = (G, I, J)) := by
  refine g_65_0 hR _ _ _ ?_
  by_cases k1 : code = -201
  · subst k1
    rw [show (c_op (-201)).1 = 4 by decide]
    refine ⟨114, by decide, g_65_114 hR _ _ _ ⟨fun a => g_65_126 hR _ _ _ (g_65_127 hR _ _ _ _ ⟨by simp [a_works, a_is, a], rfl⟩), fun a => ⟨fun b => g_65_126 hR _ _ _ (g_65_127 hR _ _ _ _ ⟨by simp [a_works, a_is, b], rfl⟩), fun b => g_65_127 hR _ _ _ _ ⟨by simp [a_works, a_is, a, b], rfl⟩⟩⟩⟩
  by_cases k2 : code = -61
  · subst k2
    rw [show (c_op (-61)).1 = 7 by decide]
    exact ⟨103, by decide, g_65_103 hR _ _ _ ⟨fun a => g_65_113 hR _ _ _ _ ⟨by simp [a_works, a_is, a], rfl⟩, fun a => g_65_113 hR _ _ _ _ ⟨by simp [a_works, a_is, a], rfl⟩⟩⟩
  by_cases k3 : code = -60
  · subst k3
    rw [show (c_op (-60)).1 = 6 by decide]
    exact ⟨92, by decide, g_65_92 hR _ _ _ ⟨fun a => g_65_102 hR _ _ _ _ ⟨by simp [a_works, a_is, a], rfl⟩, fun a => g_65_102 hR _ _ _ _ ⟨by simp [a_works, a_is, a], rfl⟩⟩⟩
  by_cases k4 : code = -47
  · subst k4
    rw [show (c_op (-47)).1 = 11 by decide]
    exact ⟨80, by decide, g_65_80 hR _ _ _ ⟨fun a => ⟨a, g_65_91 hR _ _ _ _ ⟨by simp [a_works, a], rfl⟩⟩, fun a => g_65_91 hR _ _ _ _ ⟨by simp [a_works, a], rfl⟩⟩⟩
  by_cases k5 : code = -45
  · subst k5
    rw [show (c_op (-45)).1 = 9 by decide]
    exact ⟨72, by decide, g_65_72 hR _ _ _ ⟨by simp [a_works], rfl⟩⟩
  by_cases k6 : code = -43
  · subst k6
    rw [show (c_op (-43)).1 = 8 by decide]
    exact ⟨68, by decide, g_65_68 hR _ _ _ ⟨by simp [a_works], rfl⟩⟩
  by_cases k7 : code = -42
  · subst k7
    rw [show (c_op (-42)).1 = 10 by decide]
    exact ⟨76, by decide, g_65_76 hR _ _ _ ⟨by simp [a_works], rfl⟩⟩
  have e5 : (c_op code).1 = 5 := by
    have h0 : code < 0 := Int32.lt_trans h1 (by decide)
    unfold c_op
    rw [if_neg (fun q => q h0), if_neg (fun q => q h1), if_neg h2, if_neg k1, if_neg k3, if_neg k2, if_neg k6, if_neg k5, if_neg k7, if_neg k4]
  rw [e5]
  have hne : ∀ (m : Int) (z : Int32), z.toInt = m → ¬ code = z → code.toInt ≠ m := fun m z hz hc q => hc (Int32.toInt_inj.mp (q.trans hz.symm))
  refine ⟨128, ?_, g_65_128 hR _ _ _ ⟨fun a => g_65_136 hR _ _ _ (g_65_141 hR _ _ _ _ ⟨by simp [a_works, a_is, a], rfl⟩), fun a => ⟨fun b => g_65_141 hR _ _ _ _ ⟨by simp [a_works, a_is, a, b], rfl⟩, fun b => g_65_136 hR _ _ _ (g_65_141 hR _ _ _ _ ⟨by simp [a_works, a_is, b], rfl⟩)⟩⟩⟩
  rw [q_lsw_df (fun q hq => ?_)]
  · rfl
  · have hq2 : q = (-201, 113) ∨ q = (-61, 102) ∨ q = (-60, 91) ∨ q = (-47, 79) ∨ q = (-45, 71) ∨ q = (-43, 67) ∨ q = (-42, 75) := by simpa using hq
    rcases hq2 with h | h | h | h | h | h | h <;> subst h
    · exact hne _ (-201) (by decide) k1
    · exact hne _ (-61) (by decide) k2
    · exact hne _ (-60) (by decide) k3
    · exact hne _ (-47) (by decide) k4
    · exact hne _ (-45) (by decide) k5
    · exact hne _ (-43) (by decide) k6
    · exact hne _ (-42) (by decide) k7
theorem c_evL {d : Nat} (hR : q_RT G) {I0 : a_F} {v : Nat → Int32} {i3 i4 : Int32} (hv : ∀ I, r_fw 56 I0 I → ∀ i, i < 13 → q_W β xs L (d + 1) 66 0 [.ref 38, .int (nI i), .int i3, .int i4, .retAddr 0, .retAddr 0, .retAddr 0, .retAddr 0, .retAddr 0, .retAddr 0, .retAddr 0] [] (G, I, J) (fun o h => o = .inl (some (.int (v i))) ∧ h = (G, I, J)))
    (i1 : Int32) {hi : Nat} (hhi : hi ≤ 6000) {Q : am_O → am_H → Prop} : ∀ n u (I : a_F) (st : List Int32) (v7 : Value), am_nl v7 = true → u + n = hi → r_fw 56 I0 I → a_gd (c_ops (I0 31) n u) st.length = true → st.length ≤ 64 → t_pl 56 I st →
      (∀ I', r_fw 56 I0 I' → Q (.inl (some (.int (((c_ops (I0 31) n u).foldl (a_step v) st).headD 0)))) (G, I', J)) →
      q_W β xs L (d + 2) 64 6 [.ref 38, .int i1, .int (nI hi), .int i3, .int i4, .int (nI st.length), .int (nI u), v7] [] (G, I, J) Q
  | 0, u, I, st, v7, n7, hu, hf, hg, hs, hp, hQ => by
    have h1 : st.length = 1 := Nat.eq_of_beq_eq_true hg
    match st, h1, hp, hQ with
    | [x], _, hp, hQ =>
      refine g_64_6 hR _ _ _ _ _ _ _ n7 ⟨fun _ => ⟨fun z => absurd (show (0 : Int32) < nI 1 by decide) z, fun _ => ⟨by decide, ?_⟩⟩, fun z => ?_⟩
      · refine g_64_174 hR _ _ _ _ _ _ _ _ n7 ?_
        have e2 : I 56 (0 : Int32).toNatClampNeg = x := hp.top
        rw [e2]
        exact hQ I hf
      · rw [nI_ltI (by omega) (by omega)] at z
        omega
  | n + 1, u, I, st, v7, n7, hu, hf, hg, hs, hp, hQ => by
    have eu : (nI u).toNatClampNeg = u := nI_clamp (by omega)
    have iu : am_is (nI u) 6000 = true := am_is_nI (by omega) (by omega)
    have e31 : I 31 u = I0 31 u := congrFun (hf 31 (by decide)) u
    have eL : c_ops (I0 31) (n + 1) u = c_op (I0 31 u) :: c_ops (I0 31) n (u + 1) := rfl
    rw [eL] at hg hQ
    rw [show ((c_op (I0 31 u) :: c_ops (I0 31) n (u + 1)).foldl (a_step v) st) = (c_ops (I0 31) n (u + 1)).foldl (a_step v) (a_step v st (c_op (I0 31 u))) from rfl] at hQ
    unfold a_gd at hg
    generalize hcd : I0 31 u = code at *
    have next : ∀ (I1 : a_F) (st1 : List Int32) (i7 : Int32), r_fw 56 I0 I1 → st1 = a_step v st (c_op code) → a_gd (c_ops (I0 31) n (u + 1)) st1.length = true → st1.length ≤ 64 → t_pl 56 I1 st1 → q_W β xs L (d + 2) 64 153 [.ref 38, .int i1, .int (nI hi), .int i3, .int i4, .int (nI st1.length), .int (nI u), .int i7] [] (G, I1, J) Q := by
      intro I1 st1 i7 w1 w2 w3 w4 w5
      refine g_64_153 hR _ _ _ _ _ _ _ ?_
      rw [nI_1]
      exact c_evL (d := d) hR hv i1 hhi n (u + 1) I1 st1 _ rfl (by omega) w1 w3 w4 w5 (fun I' w => by rw [w2]; exact hQ I' w)
    have push : ∀ (x : Int32), a_step v st (c_op code) = x :: st → st.length < 64 → a_gd (c_ops (I0 31) n (u + 1)) (st.length + 1) = true → q_W β xs L (d + 2) 64 65 [.ref 38, .int i1, .int (nI hi), .int i3, .int i4, .int (nI st.length), .int (nI u), .int code] [.int x, .int (nI st.length), .ref 56] (G, I, J) Q := by
      intro x hx hlt hg2
      refine g_64_65 hR _ _ _ _ _ _ _ _ _ ⟨am_is_nI (by omega) (by omega), ?_⟩
      rw [show (nI st.length).toNatClampNeg = st.length from nI_clamp (by omega), nI_1]
      exact next (am_u I 56 st.length x) (x :: st) _ (hf.up _ _) hx.symm hg2 (by simp; omega) (hp.cons x)
    refine g_64_6 hR _ _ _ _ _ _ _ n7 ⟨fun z => absurd ((nI_ltI (by omega) (by omega)).mpr (by omega)) z, fun _ => ⟨iu, ?_⟩⟩
    rw [eu, e31]
    refine ⟨fun hC => ?_, fun hC => ⟨fun z => ?_, fun z => ⟨fun hB => ?_, fun hA => ?_⟩⟩⟩
    · -- an operator
      by_cases hN : code = -203
      · rw [hN, c_op_N, if_neg (by decide), if_neg (by decide), if_pos rfl, Bool.and_eq_true] at hg
        have h1 : 1 ≤ st.length := Nat.le_of_ble_eq_true hg.1
        match st, h1, hs, hp, hg, next with
        | x :: r, _, hs, hp, hg, next =>
          have el : (x :: r).length = r.length + 1 := rfl
          have hr : r.length ≤ 63 := by rw [el] at hs; omega
          rw [el] at hg ⊢
          have e2 : nI (r.length + 1) - 1 = nI r.length := nI_pred _
          have c2 : (nI r.length).toNatClampNeg = r.length := nI_clamp (by omega)
          have st3 : a_step v (x :: r) (c_op code) = a_is (decide (x = 0)) :: r := by rw [hN, c_op_N]; rfl
          have fin : ∀ b : Bool, b = decide (x = 0) → q_W β xs L (d + 2) 64 110 [.ref 38, .int i1, .int (nI hi), .int i3, .int i4, .int (nI (r.length + 1)), .int (nI u), .int code] [.int (a_is b), .int (nI r.length), .ref 56] (G, I, J) Q := by
            intro b hb
            refine g_64_110 hR _ _ _ _ _ _ _ _ _ ⟨am_is_nI (by omega) (by omega), ?_⟩
            rw [c2]
            have hpl : t_pl 56 (am_u I 56 r.length (a_is b)) (a_is b :: r) := hp.tail.cons _
            exact next (am_u I 56 r.length (a_is b)) (a_is b :: r) _ (hf.up _ _) (by rw [st3, hb]) hg.2 (by simp; omega) hpl
          refine g_64_72 hR _ _ _ _ _ _ _ ⟨fun q => absurd hN q, fun _ => ⟨fun q => absurd ((nI_ltI (a := 0) (by omega) (by omega)).mpr (by omega)) q, fun _ => ?_⟩⟩
          rw [e2, c2, hp.top]
          exact ⟨am_is_nI (by omega) (by omega), fun w => fin false (by simp [w]), fun w => fin true (by simp [w])⟩
      · obtain ⟨k1, k2, k3, k4⟩ := c_op_C hC hN
        rw [if_neg k1, if_neg k2, if_neg k3, Bool.and_eq_true] at hg
        have h2 : 2 ≤ st.length := Nat.le_of_ble_eq_true hg.1
        refine g_64_72 hR _ _ _ _ _ _ _ ⟨fun _ => ?_, fun q => absurd q hN⟩
        match st, h2, hs, hp, hg, next with
        | y :: x :: r, _, hs, hp, hg, next =>
          have el : (y :: x :: r).length = r.length + 2 := rfl
          have hr : r.length ≤ 62 := by rw [el] at hs; omega
          rw [el] at hg ⊢
          have e1 : nI (r.length + 2) + (-1) = nI (r.length + 1) := pk_m1 _
          have e2 : nI (r.length + 1) - 1 = nI r.length := nI_pred _
          have c1 : (nI (r.length + 1)).toNatClampNeg = r.length + 1 := nI_clamp (by omega)
          have c2 : (nI r.length).toNatClampNeg = r.length := nI_clamp (by omega)
          have st3 : a_step v (y :: x :: r) (c_op code) = a_works (c_op code).1 x y :: r := by
            unfold a_step
            rw [if_neg k1, if_neg k2, if_neg k3]
          refine g_64_114 hR _ _ _ _ _ _ _ ⟨fun q => absurd ((nI_ltI (a := 1) (by omega) (by omega)).mpr (by omega)) q, fun _ => ?_⟩
          rw [e1, e2, c1, c2, show I 56 (r.length + 1) = y from hp.top, show I 56 r.length = x from hp.tail.top]
          refine ⟨am_is_nI (by omega) (by omega), am_is_nI (by omega) (by omega), ?_⟩
          refine q_useI (c_join (β := β) (xs := xs) (L := L) (d := d + 1) hR hC hN x y) (Nat.le_refl _) ⟨am_is_nI (by omega) (by omega), ?_⟩
          have hpl : t_pl 56 (am_u I 56 r.length (a_works (c_op code).1 x y)) (a_works (c_op code).1 x y :: r) := hp.tail.tail.cons _
          exact next (am_u I 56 r.length (a_works (c_op code).1 x y)) (a_works (c_op code).1 x y :: r) _ (hf.up _ _) st3.symm hg.2 (by simp; omega) hpl
    · -- no room: it doesn't come to that
      exfalso
      have hlt : st.length < 64 := by
        by_cases h0 : code < 0
        · rw [c_op_B h0 hC, if_neg (show ¬ (2 : Int32) = 1 by decide), if_pos rfl, Bool.and_eq_true, Bool.and_eq_true] at hg
          have := hg.2.1
          rwa [Nat.blt_eq] at this
        · rw [c_op_A h0, if_pos rfl, Bool.and_eq_true] at hg
          have := hg.1
          rwa [Nat.blt_eq] at this
      exact z ((nI_ltI (b := 64) (by omega) (by omega)).mpr hlt)
    · have eo := c_op_B hB hC
      rw [eo, if_neg (show ¬ (2 : Int32) = 1 by decide), if_pos rfl, Bool.and_eq_true, Bool.and_eq_true] at hg
      have hlt : st.length < 64 := by have := hg.2.1; rwa [Nat.blt_eq] at this
      obtain ⟨i, hi13, hi2⟩ := am_is_of hg.1 (by decide)
      have hi2 : -1 - code = nI i := hi2
      rw [hi2]
      refine q_useI (hv I hf i hi13) (Nat.le_refl _) (push _ ?_ hlt hg.2.2)
      rw [eo]
      show v (a_ix (-1 - code)) :: st = _
      rw [hi2, show a_ix (nI i) = i from nI_clamp (by omega)]
    · have eo := c_op_A hA
      rw [eo, if_pos rfl, Bool.and_eq_true] at hg
      have hlt : st.length < 64 := by have := hg.1; rwa [Nat.blt_eq] at this
      exact push _ (by rw [eo]; rfl) hlt hg.2
/-- what stands from lo to hi -/
theorem c_eval {d : Nat} (hR : q_RT G) {I : a_F} {v : Nat → Int32} {i3 i4 : Int32} (hv : ∀ I', r_fw 56 I I' → ∀ i, i < 13 → q_W β xs L (d + 1) 66 0 [.ref 38, .int (nI i), .int i3, .int i4, .retAddr 0, .retAddr 0, .retAddr 0, .retAddr 0, .retAddr 0, .retAddr 0, .retAddr 0] [] (G, I', J) (fun o h => o = .inl (some (.int (v i))) ∧ h = (G, I', J)))
    {lo hi : Int32} {ops : List (Int32 × Int32)} (he : c_e I lo hi ops) (hg : ops = [] ∨ a_gd ops 0 = true) : q_W β xs L (d + 2) 64 0 [.ref 38, .int lo, .int hi, .int i3, .int i4, .retAddr 0, .retAddr 0, .retAddr 0] [] (G, I, J) (fun o h => ∃ w I', o = .inl (some (.int w)) ∧ h = (G, I', J) ∧ w = (ops.foldl (a_step v) []).headD 0 ∧ r_fw 56 I I') := by
  obtain ⟨u, n, rfl, rfl, hb, hops⟩ := he
  refine g_64_0 hR _ _ _ _ ?_
  by_cases hn : n = 0
  · subst hn
    have : ops = [] := by rw [← hops]; rfl
    subst this
    refine g_64_6 hR _ _ _ _ _ _ _ rfl ⟨fun _ => ⟨fun _ => g_64_174 hR _ _ _ _ _ _ _ _ rfl ⟨0, I, rfl, rfl, rfl, r_fw.rf 56 I⟩, fun z => absurd z (by decide)⟩, fun z => ?_⟩
    rw [nI_ltI (by omega) (by omega)] at z
    omega
  · have hne : ¬ ops = [] := fun q => by
      rw [q] at hops
      cases n with
      | zero => exact hn rfl
      | succ n => cases hops
    have hg2 : a_gd (c_ops (I 31) n u) 0 = true := by rw [hops]; exact hg.resolve_left hne
    refine c_evL (d := d) hR hv _ (hi := u + n) hb n u I [] _ rfl rfl (r_fw.rf 56 I) hg2 (by simp) (fun j hj => absurd hj (by simp)) (fun I' w => ?_)
    rw [hops]
    exact ⟨_, I', rfl, rfl, rfl, w⟩
end C5

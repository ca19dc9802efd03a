/-! ===== the law's run ===== -/
def yl_ts : List Nat := [140, 153, 178, 227, 331, 399, 490, 546, 619, 711, 724, 811, 891, 959, 1051, 1143, 1235, 1327, 1445, 1549, 1641]
theorem yl_sw (x : Int32) : ∃ v, q_sw 0 20 yl_ts 1697 x = some v ∧ (v = 1697 ∨ v ∈ yl_ts) := by
  unfold q_sw
  by_cases h : x.toInt < 0 ∨ 20 < x.toInt
  · rw [if_pos h]
    exact ⟨1697, rfl, Or.inl rfl⟩
  · rw [if_neg h]
    have hlt : (x.toInt - 0).toNat < yl_ts.length := by
      show (x.toInt - 0).toNat < 21
      omega
    refine ⟨_, rfl, Or.inr ?_⟩
    rw [List.getD_eq_getElem?_getD, List.getElem?_eq_getElem hlt]
    exact List.getElem_mem hlt
theorem yl_neg : ∀ l, l < 7 → Int32.ofNat l - 7 < 0 := by decide
theorem yl_go {L m : Nat} (hL : L ≤ 3584) (h : ¬ (Int32.ofNat L - 7) < nI (7 * m)) (hm : m ≤ 512) : 7 * m + 7 ≤ L := by
  by_cases h7 : L < 7
  · exact absurd (Int32.lt_of_lt_of_le (yl_neg L h7) (nI_pos' (by omega))) h
  · have e : Int32.ofNat L - 7 = nI (L - 7) := pk_sub (a := L) (b := 7) (by omega)
    rw [e] at h
    have h2 : ¬ L - 7 < 7 * m := fun z => h ((nI_ltI (a := L - 7) (b := 7 * m) (by omega) (by omega)).mpr z)
    omega
/-- the end that is owed -/
def yl_Q : am_O → am_H → Prop := fun o h => o = .inl (some (.int 1)) ∧ h.1.2.2.1 ≤ 601024 ∧ h.1.2.2.2 ≤ 7293034
theorem yl_I.end {m : Nat} {G : am_G} {I : a_F} {J : Nat → Nat → Int64} (h : yl_I m G I J) (hm : m ≤ 512) : yl_Q (.inl (some (.int 1))) (G, I, J) := by
  obtain ⟨w, e, v, he, hv, hw, ⟨j, ⟨h1, h2, h3, h4, h5, h6⟩, -⟩, hr⟩ := h
  have hp : 2 ^ (j + 1) ≤ 2 ^ 10 := Nat.pow_le_pow_right (by decide) (by omega)
  refine ⟨rfl, ?_, ?_⟩
  · show G.2.2.1 ≤ 601024
    omega
  · show G.2.2.2 ≤ 7293034
    omega
section Run
variable {β : Bool} {xs : Nat → Int32} {L : Nat}
theorem yl_loop (hL : L ≤ 3584) (d : Nat) : ∀ n m (v5 v6 : Value) (G : am_G) (I : a_F) (J : Nat → Nat → Int64), m + n = 512 → am_nl v5 = true → am_nl v6 = true → yl_I m G I J → q_W β xs L (d + 60 + 1) 199 23 [.retAddr 1, .ref 0, .ref 59, .ref 117, .int (nI (7 * m)), v5, v6] [] (G, I, J) yl_Q := by
  intro n
  induction n with
  | zero =>
    intro m v5 v6 G I J hmn n5 n6 hI
    refine g_199_23 hI.RT _ _ _ n5 n6 ⟨fun _ => ⟨Or.inr rfl, hI.end (by omega)⟩, fun z => ?_⟩
    have := yl_go hL z (by omega)
    omega
  | succ n ih =>
    intro m v5 v6 G I J hmn n5 n6 hI
    refine g_199_23 hI.RT _ _ _ n5 n6 ⟨fun _ => ⟨Or.inr rfl, hI.end (by omega)⟩, fun z => ?_⟩
    have h7 := yl_go hL z (by omega)
    have ik : ∀ k, k < 7 → am_is (nI (7 * m) + nI k) L = true := fun k hk => by
      rw [nI_add]
      exact am_is_nI (by omega) (by omega)
    have hs : yl_is (nI (7 * m)) L := ⟨ik 1 (by decide), ik 2 (by decide), ik 3 (by decide), ik 4 (by decide), ik 5 (by decide), ik 6 (by decide)⟩
    have hN : ∀ v5 v6 G I J, am_nl v5 = true → am_nl v6 = true → yl_I (m + 1) G I J → q_W β xs L (d + 60 + 1) 199 1697 [.retAddr 1, .ref 0, .ref 59, .ref 117, .int (nI (7 * m)), v5, v6] [] (G, I, J) yl_Q := fun v5 v6 G I J n5 n6 hI => by
      refine g_199_1697 hI.RT _ _ _ n5 n6 ?_
      have e : nI (7 * m) + 7 = nI (7 * (m + 1)) := by
        show nI (7 * m) + nI 7 = _
        rw [nI_add]
        rfl
      rw [e]
      exact ih (m + 1) v5 v6 G I J (by omega) n5 n6 hI
    have hm : m ≤ 512 := by omega
    refine ⟨am_is_nI (by omega) (by omega), ?_⟩
    obtain ⟨v, hv1, hv2⟩ := yl_sw ((xs (nI (7 * m)).toNatClampNeg) &&& 31)
    refine ⟨v, hv1, ?_⟩
    clear hv1 ih z
    simp only [yl_ts, List.mem_cons, List.not_mem_nil, or_false] at hv2
    rcases hv2 with rfl | rfl | rfl | rfl | rfl | rfl | rfl | rfl | rfl | rfl | rfl | rfl | rfl | rfl | rfl | rfl | rfl | rfl | rfl | rfl | rfl | rfl
    · exact hN _ _ _ _ _ n5 n6 hI.up
    · exact l_land n5 n6 hm hs hI hN
    · exact l_place n5 n6 hm hs hI hN
    · exact l_person n5 n6 hm hs hI hN
    · exact l_fact n5 n6 hm hs hI hN
    · exact l_also n5 n6 hm hs hI hN
    · exact l_back n5 n6 hm hs hI hN
    · exact l_ev n5 n6 hm hs hI hN
    · exact l_feed n5 n6 hm hs hI hN
    · exact l_act n5 n6 hm hs hI hN
    · exact l_fault n5 n6 hm hs hI hN
    · exact l_force n5 n6 hm hs hI hN
    · exact l_landOf n5 n6 hm hs hI hN
    · exact l_waysQ n5 n6 hm hs hI hN
    · exact l_bel n5 n6 hm hs hI hN
    · exact l_says n5 n6 hm hs hI hN
    · exact l_settles n5 n6 hm hs hI hN
    · exact l_lands n5 n6 hm hs hI hN
    · exact l_chain n5 n6 hm hs hI hN
    · exact l_times n5 n6 hm hs hI hN
    · exact l_ifs n5 n6 hm hs hI hN
    · exact l_count n5 n6 hm hs hI hN
theorem q_iniJ_kw : ∀ i, i < 28 → (73, i, q_kw i) ∈ q_iniJ := by decide +kernel
theorem yl_start {h : am_H} (hk : q_chk h = true) : yl_I 0 h.1 h.2.1 h.2.2 := by
  have hR := q_chk_RT hk
  obtain ⟨G, I, J⟩ := h
  simp only [q_chk, Bool.and_eq_true] at hk
  obtain ⟨k1, k2, k3, -, k5, -, k7, k8, -⟩ := hk
  have c1 : G.1 = 118 := Nat.eq_of_beq_eq_true k1
  have c2 : G.2.2.1 = 118 := Nat.eq_of_beq_eq_true k2
  have c3 : G.2.2.2 = 167762 := Nat.eq_of_beq_eq_true k3
  have c4 : G.2.1 42 3 = some 46 := by simpa using k5
  have hi : ∀ a b x, (a, b, x) ∈ q_ini0 → I a b = x := fun a b x hm => by simpa using List.all_eq_true.mp k7 _ hm
  have hj : ∀ a b x, (a, b, x) ∈ q_iniJ → J a b = x := fun a b x hm => by simpa using List.all_eq_true.mp k8 _ hm
  have e3 : I 59 3 = nI 0 := hi 59 3 0 (by decide +kernel)
  have e4 : I 59 4 = nI 0 := hi 59 4 0 (by decide +kernel)
  have e5 : I 59 5 = nI 0 := hi 59 5 0 (by decide +kernel)
  have e6 : I 59 6 = nI 0 := hi 59 6 0 (by decide +kernel)
  have e32 : I 59 32 = nI 0 := hi 59 32 0 (by decide +kernel)
  have no : ∀ {P : Nat → Prop} (p : Nat), p < 0 → P p := fun p hp => absurd hp (Nat.not_lt_zero p)
  refine ⟨((0, 0, 0, 0, 0, 0, 0), fun _ => 0, -1, I), 0, 1, Nat.le_refl _, Nat.le_refl _, ?_, ?_, ?_⟩
  · exact ⟨⟨⟨⟨e3, e5, e32⟩, ⟨Nat.zero_le 5, Nat.zero_le 12, Nat.zero_le 20, Nat.zero_le 12⟩, no⟩, no, no, no, e6, Nat.zero_le 100⟩, no, Nat.zero_le 999, Nat.zero_le 500⟩
  · refine ⟨0, ⟨by decide, hR, c1, c4, c2, ?_⟩, ⟨⟨hi 1 2 0 (by decide +kernel), hi 1 1 0 (by decide +kernel), hi 3 3 0 (by decide +kernel), hi 7 8 0 (by decide +kernel), hi 16 15 0 (by decide +kernel)⟩, no, no, no, no⟩, ⟨hi 0 10 0 (by decide +kernel), hi 0 9 0 (by decide +kernel), hi 32 11 (-1) (by decide +kernel)⟩, no, Or.inl (hj 38 19 (-1) (by decide +kernel)), Or.inl (hi 0 11 (-1) (by decide +kernel))⟩
    rw [c3]
  · exact ⟨⟨⟨e3, e4, e5, e6, e32⟩, no, no, no, no⟩, ⟨hi 59 1 0 (by decide +kernel), hi 59 20 0 (by decide +kernel), hi 59 22 (-1) (by decide +kernel)⟩, no, ⟨1, 0, Nat.le_refl _, hi 59 2 1 (by decide +kernel), hi 59 88 0 (by decide +kernel), by decide, fun z => by cases z⟩, fun i hi' => hj 73 i (q_kw i) (q_iniJ_kw i hi'), fun _ _ => rfl⟩
end Run
theorem q_run : ∀ (β : Bool) (xs : Nat → Int32) (L : Nat), L ≤ 3584 → ∃ (n d : Nat) (h1 : am_H), d ≤ 1300 ∧ am_ex (q_P β xs L) q_ML q_HD q_NT n d q_law 0 (.retAddr 1 :: List.replicate 6 (.retAddr 0)) [] q_h0 = some (.inl (some (.int 1)), h1) ∧ h1.1.2.2.1 ≤ 601024 ∧ h1.1.2.2.2 ≤ 7293034 := by
  intro β xs L hL
  obtain ⟨n, o, h1, hx, ho, hc⟩ := q_begin (β := β) (xs := xs) (L := L) (d := 0 + 60) (by decide) (Q := yl_Q) (fun h hk => yl_loop hL 0 512 0 (.retAddr 0) (.retAddr 0) h.1 h.2.1 h.2.2 rfl rfl rfl (yl_start hk))
  subst ho
  exact ⟨n, _, h1, by decide, hx, hc⟩

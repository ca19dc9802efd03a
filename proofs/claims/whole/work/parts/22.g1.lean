/-! ===== regions ===== -/
def am_nl : Value → Bool
  | .long _ => false
  | .double _ => false
  | _ => true
theorem am_set_nl {ls : List Value} {j : Nat} {v x : Value} (h : ls[j]? = some v) (hn : am_nl v = true) : am_set ls (j + 1) x = ls.set (j + 1) x := by
  have e : am_clr ls (j + 1) = ls := by
    show (match ls[j]? with | some (.long _) => ls.set j (.retAddr 0) | some (.double _) => ls.set j (.retAddr 0) | _ => ls) = ls
    rw [h]
    cases v <;> first | rfl | (simp [am_nl] at hn)
  unfold am_set
  rw [e]
theorem q_RT_u {G : am_G} {i k x : Nat} (h : q_RT G) (hn : q_rt i k = none) : q_RT (G.1, am_u G.2.1 i k (some x), G.2.2) := by
  intro a b j hj
  show am_u G.2.1 i k (some x) a b = some j
  rw [am_u_ne]
  · exact h a b j hj
  · by_cases h1 : a = i
    · by_cases h2 : b = k
      · subst h1; subst h2; rw [hn] at hj; cases hj
      · exact Or.inr h2
    · exact Or.inl h1
section Re
variable {β : Bool} {xs : Nat → Int32} {L : Nat}
theorem g_1_0 {d : Nat} {G : am_G} {I : Nat → Nat → Int32} {J : Nat → Nat → Int64} {Q : am_O → am_H → Prop} (hR : q_RT G) (i1 : Int32) (H : q_W β xs L d 1 4 [.ref 16, .int i1, .int 0, .int 0] [] (G, I, J) Q) : q_W β xs L d 1 0 [.ref 16, .int i1, .retAddr 0, .retAddr 0] [] (G, I, J) Q := by
  refine w_ic f_1_0 ?_
  refine w_is (ls' := [.ref 16, .int i1, .int 0, .retAddr 0]) f_1_1 rfl ?_
  refine w_ic f_1_2 ?_
  refine w_is (ls' := [.ref 16, .int i1, .int 0, .int 0]) f_1_3 rfl ?_
  exact H
theorem g_1_4 {d : Nat} {G : am_G} {I : Nat → Nat → Int32} {J : Nat → Nat → Int64} {Q : am_O → am_H → Prop} (hR : q_RT G) (i1 : Int32) (i2 : Int32) (i3 : Int32) (H : ((¬ i3 < (I 16 15) → Q (.inl (some (.int i2))) (G, I, J)) ∧ (i3 < (I 16 15) → (am_is i3 12 = true ∧ ((i1 < (I 20 (i3).toNatClampNeg) → q_W β xs L d 1 48 [.ref 16, .int i1, .int i2, .int i3] [] (G, I, J) Q) ∧ (¬ i1 < (I 20 (i3).toNatClampNeg) → (am_is i3 12 = true ∧ (((I 21 (i3).toNatClampNeg) = (-1) → q_W β xs L d 1 42 [.ref 16, .int i1, .int i2, .int i3] [] (G, I, J) Q) ∧ (¬ (I 21 (i3).toNatClampNeg) = (-1) → (am_is i3 12 = true ∧ ((¬ i1 < (I 21 (i3).toNatClampNeg) → q_W β xs L d 1 48 [.ref 16, .int i1, .int i2, .int i3] [] (G, I, J) Q) ∧ (i1 < (I 21 (i3).toNatClampNeg) → q_W β xs L d 1 42 [.ref 16, .int i1, .int i2, .int i3] [] (G, I, J) Q)))))))))))) : q_W β xs L d 1 4 [.ref 16, .int i1, .int i2, .int i3] [] (G, I, J) Q := by
  refine w_il f_1_4 rfl ?_
  refine w_al f_1_5 rfl ?_
  refine w_gi f_1_6 rfl ?_
  refine w_icge f_1_9 (fun c => ?_) (fun c => ?_)
  · have H := H.1 c
    refine w_il f_1_54 rfl ?_
    exact w_reti f_1_55 H
  · have H := H.2 c
    refine w_al f_1_12 rfl ?_
    refine w_gr f_1_13 rfl (hR _ _ _ rfl) ?_
    refine w_il f_1_16 rfl ?_
    have hb := H.1
    have H := H.2
    refine w_ald f_1_17 rfl hb ?_
    refine w_il f_1_18 rfl ?_
    refine w_icgt f_1_19 (fun c => ?_) (fun c => ?_)
    · have H := H.1 c
      exact H
    · have H := H.2 c
      refine w_al f_1_22 rfl ?_
      refine w_gr f_1_23 rfl (hR _ _ _ rfl) ?_
      refine w_il f_1_26 rfl ?_
      have hb := H.1
      have H := H.2
      refine w_ald f_1_27 rfl hb ?_
      refine w_ic f_1_28 ?_
      refine w_iceq f_1_29 (fun c => ?_) (fun c => ?_)
      · have H := H.1 c
        exact H
      · have H := H.2 c
        refine w_al f_1_32 rfl ?_
        refine w_gr f_1_33 rfl (hR _ _ _ rfl) ?_
        refine w_il f_1_36 rfl ?_
        have hb := H.1
        have H := H.2
        refine w_ald f_1_37 rfl hb ?_
        refine w_il f_1_38 rfl ?_
        refine w_icle f_1_39 (fun c => ?_) (fun c => ?_)
        · have H := H.1 c
          exact H
        · have H := H.2 c
          exact H
theorem g_1_42 {d : Nat} {G : am_G} {I : Nat → Nat → Int32} {J : Nat → Nat → Int64} {Q : am_O → am_H → Prop} (hR : q_RT G) (i1 : Int32) (i2 : Int32) (i3 : Int32) (H : q_W β xs L d 1 48 [.ref 16, .int i1, .int (i2 ||| (1 <<< (i3 &&& 31))), .int i3] [] (G, I, J) Q) : q_W β xs L d 1 42 [.ref 16, .int i1, .int i2, .int i3] [] (G, I, J) Q := by
  refine w_il f_1_42 rfl ?_
  refine w_ic f_1_43 ?_
  refine w_il f_1_44 rfl ?_
  refine w_bin f_1_45 ?_
  refine w_bin f_1_46 ?_
  refine w_is (ls' := [.ref 16, .int i1, .int (i2 ||| (1 <<< (i3 &&& 31))), .int i3]) f_1_47 rfl ?_
  exact H
theorem g_1_48 {d : Nat} {G : am_G} {I : Nat → Nat → Int32} {J : Nat → Nat → Int64} {Q : am_O → am_H → Prop} (hR : q_RT G) (i1 : Int32) (i2 : Int32) (i3 : Int32) (H : q_W β xs L d 1 4 [.ref 16, .int i1, .int i2, .int (i3 + 1)] [] (G, I, J) Q) : q_W β xs L d 1 48 [.ref 16, .int i1, .int i2, .int i3] [] (G, I, J) Q := by
  refine w_iinc (ls' := [.ref 16, .int i1, .int i2, .int (i3 + 1)]) f_1_48 rfl rfl ?_
  refine w_go f_1_51 ?_
  exact H
theorem g_2_0 {d : Nat} {G : am_G} {I : Nat → Nat → Int32} {J : Nat → Nat → Int64} {Q : am_O → am_H → Prop} (hR : q_RT G) (i1 : Int32) (i2 : Int32) (H : q_W β xs L d 2 13 [.ref 16, .int i1, .int i2, .int 0, .int 0, .int ((I 16 15) - 1), .retAddr 0] [] (G, I, J) Q) : q_W β xs L d 2 0 [.ref 16, .int i1, .int i2, .retAddr 0, .retAddr 0, .retAddr 0, .retAddr 0] [] (G, I, J) Q := by
  refine w_ic f_2_0 ?_
  refine w_is (ls' := [.ref 16, .int i1, .int i2, .int 0, .retAddr 0, .retAddr 0, .retAddr 0]) f_2_1 rfl ?_
  refine w_ic f_2_2 ?_
  refine w_is (ls' := [.ref 16, .int i1, .int i2, .int 0, .int 0, .retAddr 0, .retAddr 0]) f_2_3 rfl ?_
  refine w_al f_2_5 rfl ?_
  refine w_gi f_2_6 rfl ?_
  refine w_ic f_2_9 ?_
  refine w_bin f_2_10 ?_
  refine w_is (ls' := [.ref 16, .int i1, .int i2, .int 0, .int 0, .int ((I 16 15) - 1), .retAddr 0]) f_2_11 rfl ?_
  exact H
theorem g_2_13 {d : Nat} {G : am_G} {I : Nat → Nat → Int32} {J : Nat → Nat → Int64} {Q : am_O → am_H → Prop} (hR : q_RT G) (i1 : Int32) (i2 : Int32) (i3 : Int32) (i4 : Int32) (i5 : Int32) (v6 : Value) (n6 : am_nl v6 = true) (H : ((i5 < 0 → Q (.inl (some (.int i3))) (G, I, J)) ∧ (¬ i5 < 0 → ((¬ ((i1 >>> (i5 &&& 31)) &&& 1) = 1 → q_W β xs L d 2 42 [.ref 16, .int i1, .int i2, .int i3, .int i4, .int i5, v6] [] (G, I, J) Q) ∧ (((i1 >>> (i5 &&& 31)) &&& 1) = 1 → ((¬ ((i4 >>> (i5 &&& 31)) &&& 1) = 0 → q_W β xs L d 2 42 [.ref 16, .int i1, .int i2, .int i3, .int i4, .int i5, v6] [] (G, I, J) Q) ∧ (((i4 >>> (i5 &&& 31)) &&& 1) = 0 → q_W β xs L d 2 43 [.ref 16, .int i1, .int i2, .int i3, .int i4, .int i5, v6] [.int 1] (G, I, J) Q))))))) : q_W β xs L d 2 13 [.ref 16, .int i1, .int i2, .int i3, .int i4, .int i5, v6] [] (G, I, J) Q := by
  refine w_il f_2_13 rfl ?_
  refine w_iflt f_2_15 (fun c => ?_) (fun c => ?_)
  · have H := H.1 c
    refine w_il f_2_97 rfl ?_
    exact w_reti f_2_98 H
  · have H := H.2 c
    refine w_il f_2_18 rfl ?_
    refine w_il f_2_19 rfl ?_
    refine w_bin f_2_21 ?_
    refine w_ic f_2_22 ?_
    refine w_bin f_2_23 ?_
    refine w_ic f_2_24 ?_
    refine w_icne f_2_25 (fun c => ?_) (fun c => ?_)
    · have H := H.1 c
      exact H
    · have H := H.2 c
      refine w_il f_2_28 rfl ?_
      refine w_il f_2_30 rfl ?_
      refine w_bin f_2_32 ?_
      refine w_ic f_2_33 ?_
      refine w_bin f_2_34 ?_
      refine w_ifne f_2_35 (fun c => ?_) (fun c => ?_)
      · have H := H.1 c
        exact H
      · have H := H.2 c
        refine w_ic f_2_38 ?_
        refine w_go f_2_39 ?_
        exact H
theorem g_2_42 {d : Nat} {G : am_G} {I : Nat → Nat → Int32} {J : Nat → Nat → Int64} {Q : am_O → am_H → Prop} (hR : q_RT G) (i1 : Int32) (i2 : Int32) (i3 : Int32) (i4 : Int32) (i5 : Int32) (v6 : Value) (n6 : am_nl v6 = true) (H : q_W β xs L d 2 43 [.ref 16, .int i1, .int i2, .int i3, .int i4, .int i5, v6] [.int 0] (G, I, J) Q) : q_W β xs L d 2 42 [.ref 16, .int i1, .int i2, .int i3, .int i4, .int i5, v6] [] (G, I, J) Q := by
  refine w_ic f_2_42 ?_
  exact H
theorem g_2_43 {d : Nat} {G : am_G} {I : Nat → Nat → Int32} {J : Nat → Nat → Int64} {Q : am_O → am_H → Prop} (hR : q_RT G) (i1 : Int32) (i2 : Int32) (i3 : Int32) (i4 : Int32) (i5 : Int32) (v6 : Value) (is0 : Int32) (n6 : am_nl v6 = true) (H : ((is0 = 0 → q_W β xs L d 2 91 [.ref 16, .int i1, .int i2, .int i3, .int i4, .int i5, .int is0] [] (G, I, J) Q) ∧ (¬ is0 = 0 → (am_is i5 12 = true ∧ ((i2 < (I 18 (i5).toNatClampNeg) → q_W β xs L d 2 91 [.ref 16, .int i1, .int i2, .int i3, .int i4, .int i5, .int is0] [] (G, I, J) Q) ∧ (¬ i2 < (I 18 (i5).toNatClampNeg) → (am_is i5 12 = true ∧ ((¬ i2 < (I 19 (i5).toNatClampNeg) → q_W β xs L d 2 91 [.ref 16, .int i1, .int i2, .int i3, .int i4, .int i5, .int is0] [] (G, I, J) Q) ∧ (i2 < (I 19 (i5).toNatClampNeg) → (am_is i5 12 = true ∧ q_W β xs L d 2 91 [.ref 16, .int i1, .int i2, .int (i3 ||| (1 <<< (i5 &&& 31))), .int (i4 ||| (I 22 (i5).toNatClampNeg)), .int i5, .int is0] [] (G, I, J) Q)))))))))) : q_W β xs L d 2 43 [.ref 16, .int i1, .int i2, .int i3, .int i4, .int i5, v6] [.int is0] (G, I, J) Q := by
  refine w_is (ls' := [.ref 16, .int i1, .int i2, .int i3, .int i4, .int i5, .int is0]) f_2_43 rfl ?_
  refine w_il f_2_45 rfl ?_
  refine w_ifeq f_2_47 (fun c => ?_) (fun c => ?_)
  · have H := H.1 c
    exact H
  · have H := H.2 c
    refine w_al f_2_50 rfl ?_
    refine w_gr f_2_51 rfl (hR _ _ _ rfl) ?_
    refine w_il f_2_54 rfl ?_
    have hb := H.1
    have H := H.2
    refine w_ald f_2_56 rfl hb ?_
    refine w_il f_2_57 rfl ?_
    refine w_icgt f_2_58 (fun c => ?_) (fun c => ?_)
    · have H := H.1 c
      exact H
    · have H := H.2 c
      refine w_il f_2_61 rfl ?_
      refine w_al f_2_62 rfl ?_
      refine w_gr f_2_63 rfl (hR _ _ _ rfl) ?_
      refine w_il f_2_66 rfl ?_
      have hb := H.1
      have H := H.2
      refine w_ald f_2_68 rfl hb ?_
      refine w_icge f_2_69 (fun c => ?_) (fun c => ?_)
      · have H := H.1 c
        exact H
      · have H := H.2 c
        refine w_il f_2_72 rfl ?_
        refine w_ic f_2_73 ?_
        refine w_il f_2_74 rfl ?_
        refine w_bin f_2_76 ?_
        refine w_bin f_2_77 ?_
        refine w_is (ls' := [.ref 16, .int i1, .int i2, .int (i3 ||| (1 <<< (i5 &&& 31))), .int i4, .int i5, .int is0]) f_2_78 rfl ?_
        refine w_il f_2_79 rfl ?_
        refine w_al f_2_81 rfl ?_
        refine w_gr f_2_82 rfl (hR _ _ _ rfl) ?_
        refine w_il f_2_85 rfl ?_
        have hb := H.1
        have H := H.2
        refine w_ald f_2_87 rfl hb ?_
        refine w_bin f_2_88 ?_
        refine w_is (ls' := [.ref 16, .int i1, .int i2, .int (i3 ||| (1 <<< (i5 &&& 31))), .int (i4 ||| (I 22 (i5).toNatClampNeg)), .int i5, .int is0]) f_2_89 rfl ?_
        exact H
theorem g_2_91 {d : Nat} {G : am_G} {I : Nat → Nat → Int32} {J : Nat → Nat → Int64} {Q : am_O → am_H → Prop} (hR : q_RT G) (i1 : Int32) (i2 : Int32) (i3 : Int32) (i4 : Int32) (i5 : Int32) (i6 : Int32) (H : q_W β xs L d 2 13 [.ref 16, .int i1, .int i2, .int i3, .int i4, .int (i5 + (-1)), .int i6] [] (G, I, J) Q) : q_W β xs L d 2 91 [.ref 16, .int i1, .int i2, .int i3, .int i4, .int i5, .int i6] [] (G, I, J) Q := by
  refine w_iinc (ls' := [.ref 16, .int i1, .int i2, .int i3, .int i4, .int (i5 + (-1)), .int i6]) f_2_91 rfl rfl ?_
  refine w_go f_2_94 ?_
  exact H
theorem g_3_0 {d : Nat} {G : am_G} {I : Nat → Nat → Int32} {J : Nat → Nat → Int64} {Q : am_O → am_H → Prop} (hR : q_RT G) (i1 : Int32) (i2 : Int32) (H : q_W β xs L d 3 5 [.ref 16, .int i1, .int i2, .int 0, .int 0] [] (G, I, J) Q) : q_W β xs L d 3 0 [.ref 16, .int i1, .int i2, .retAddr 0, .retAddr 0] [] (G, I, J) Q := by
  refine w_ic f_3_0 ?_
  refine w_is (ls' := [.ref 16, .int i1, .int i2, .int 0, .retAddr 0]) f_3_1 rfl ?_
  refine w_ic f_3_2 ?_
  refine w_is (ls' := [.ref 16, .int i1, .int i2, .int 0, .int 0]) f_3_3 rfl ?_
  exact H
theorem g_3_5 {d : Nat} {G : am_G} {I : Nat → Nat → Int32} {J : Nat → Nat → Int64} {Q : am_O → am_H → Prop} (hR : q_RT G) (i1 : Int32) (i2 : Int32) (i3 : Int32) (i4 : Int32) (H : ((¬ i4 < (I 16 15) → Q (.inl (some (.int i3))) (G, I, J)) ∧ (i4 < (I 16 15) → ((¬ ((i1 >>> (i4 &&& 31)) &&& 1) = 1 → q_W β xs L d 3 46 [.ref 16, .int i1, .int i2, .int i3, .int i4] [] (G, I, J) Q) ∧ (((i1 >>> (i4 &&& 31)) &&& 1) = 1 → (am_is i4 12 = true ∧ ((¬ (((I 23 (i4).toNatClampNeg) >>> (i2 &&& 31)) &&& 1) = 1 → q_W β xs L d 3 46 [.ref 16, .int i1, .int i2, .int i3, .int i4] [] (G, I, J) Q) ∧ ((((I 23 (i4).toNatClampNeg) >>> (i2 &&& 31)) &&& 1) = 1 → q_W β xs L d 3 46 [.ref 16, .int i1, .int i2, .int (i3 ||| (1 <<< (i4 &&& 31))), .int i4] [] (G, I, J) Q)))))))) : q_W β xs L d 3 5 [.ref 16, .int i1, .int i2, .int i3, .int i4] [] (G, I, J) Q := by
  refine w_il f_3_5 rfl ?_
  refine w_al f_3_7 rfl ?_
  refine w_gi f_3_8 rfl ?_
  refine w_icge f_3_11 (fun c => ?_) (fun c => ?_)
  · have H := H.1 c
    refine w_il f_3_52 rfl ?_
    exact w_reti f_3_53 H
  · have H := H.2 c
    refine w_il f_3_14 rfl ?_
    refine w_il f_3_15 rfl ?_
    refine w_bin f_3_17 ?_
    refine w_ic f_3_18 ?_
    refine w_bin f_3_19 ?_
    refine w_ic f_3_20 ?_
    refine w_icne f_3_21 (fun c => ?_) (fun c => ?_)
    · have H := H.1 c
      exact H
    · have H := H.2 c
      refine w_al f_3_24 rfl ?_
      refine w_gr f_3_25 rfl (hR _ _ _ rfl) ?_
      refine w_il f_3_28 rfl ?_
      have hb := H.1
      have H := H.2
      refine w_ald f_3_30 rfl hb ?_
      refine w_il f_3_31 rfl ?_
      refine w_bin f_3_32 ?_
      refine w_ic f_3_33 ?_
      refine w_bin f_3_34 ?_
      refine w_ic f_3_35 ?_
      refine w_icne f_3_36 (fun c => ?_) (fun c => ?_)
      · have H := H.1 c
        exact H
      · have H := H.2 c
        refine w_il f_3_39 rfl ?_
        refine w_ic f_3_40 ?_
        refine w_il f_3_41 rfl ?_
        refine w_bin f_3_43 ?_
        refine w_bin f_3_44 ?_
        refine w_is (ls' := [.ref 16, .int i1, .int i2, .int (i3 ||| (1 <<< (i4 &&& 31))), .int i4]) f_3_45 rfl ?_
        exact H
theorem g_3_46 {d : Nat} {G : am_G} {I : Nat → Nat → Int32} {J : Nat → Nat → Int64} {Q : am_O → am_H → Prop} (hR : q_RT G) (i1 : Int32) (i2 : Int32) (i3 : Int32) (i4 : Int32) (H : q_W β xs L d 3 5 [.ref 16, .int i1, .int i2, .int i3, .int (i4 + 1)] [] (G, I, J) Q) : q_W β xs L d 3 46 [.ref 16, .int i1, .int i2, .int i3, .int i4] [] (G, I, J) Q := by
  refine w_iinc (ls' := [.ref 16, .int i1, .int i2, .int i3, .int (i4 + 1)]) f_3_46 rfl rfl ?_
  refine w_go f_3_49 ?_
  exact H
theorem g_5_0 {d : Nat} {G : am_G} {I : Nat → Nat → Int32} {J : Nat → Nat → Int64} {Q : am_O → am_H → Prop} (hR : q_RT G)  (H : Q (.inl none) (G, (am_u I 39 1 0), J)) : q_W β xs L d 5 0 [.ref 39] [] (G, I, J) Q := by
  refine w_al f_5_0 rfl ?_
  refine w_ic f_5_1 ?_
  refine w_pi f_5_2 rfl ?_
  exact w_ret0 f_5_5 H
theorem g_6_0 {d : Nat} {G : am_G} {I : Nat → Nat → Int32} {J : Nat → Nat → Int64} {Q : am_O → am_H → Prop} (hR : q_RT G) (i1 : Int32) (i2 : Int32) (H : q_W β xs L d 8 0 [.ref 39, .int ((i2 * 128) + i1), .retAddr 0] [] (G, I, J) (q_Rv (fun G1 I1 J1 => Q (.inl none) (G1, I1, J1)) (fun x1 G1 I1 J1 => Q (.inr x1) (G1, I1, J1)))) : q_W β xs L (d + 1) 6 0 [.ref 39, .int i1, .int i2] [] (G, I, J) Q := by
  refine w_al f_6_0 rfl ?_
  refine w_il f_6_1 rfl ?_
  refine w_ic f_6_2 ?_
  refine w_bin f_6_5 ?_
  refine w_il f_6_6 rfl ?_
  refine w_bin f_6_7 ?_
  refine w_inv (as := [.ref 39, .int ((i2 * 128) + i1), .retAddr 0]) (st' := []) f_6_8 rfl rfl rfl rfl rfl rfl H (k_v (fun G1 I1 J1 H => ?_)) (x_n (fun _ => rfl) rfl (fun x h' h => h))
  exact w_ret0 f_6_11 H
theorem g_7_0 {d : Nat} {G : am_G} {I : Nat → Nat → Int32} {J : Nat → Nat → Int64} {Q : am_O → am_H → Prop} (hR : q_RT G) (i1 : Int32) (i2 : Int32) (H : q_W β xs L d 8 0 [.ref 39, .int (((i2 * 128) + 12) + i1), .retAddr 0] [] (G, I, J) (q_Rv (fun G1 I1 J1 => Q (.inl none) (G1, I1, J1)) (fun x1 G1 I1 J1 => Q (.inr x1) (G1, I1, J1)))) : q_W β xs L (d + 1) 7 0 [.ref 39, .int i1, .int i2] [] (G, I, J) Q := by
  refine w_al f_7_0 rfl ?_
  refine w_il f_7_1 rfl ?_
  refine w_ic f_7_2 ?_
  refine w_bin f_7_5 ?_
  refine w_ic f_7_6 ?_
  refine w_bin f_7_8 ?_
  refine w_il f_7_9 rfl ?_
  refine w_bin f_7_10 ?_
  refine w_inv (as := [.ref 39, .int (((i2 * 128) + 12) + i1), .retAddr 0]) (st' := []) f_7_11 rfl rfl rfl rfl rfl rfl H (k_v (fun G1 I1 J1 H => ?_)) (x_n (fun _ => rfl) rfl (fun x h' h => h))
  exact w_ret0 f_7_14 H
theorem g_8_0 {d : Nat} {G : am_G} {I : Nat → Nat → Int32} {J : Nat → Nat → Int64} {Q : am_O → am_H → Prop} (hR : q_RT G) (i1 : Int32) (H : (((I 39 1) < (Int32.ofNat 112) → q_W β xs L d 8 18 [.ref 39, .int i1, .int (I 39 1)] [] (G, I, J) Q) ∧ (¬ (I 39 1) < (Int32.ofNat 112) → Q (.inl none) (G, I, J)))) : q_W β xs L d 8 0 [.ref 39, .int i1, .retAddr 0] [] (G, I, J) Q := by
  refine w_al f_8_0 rfl ?_
  refine w_gi f_8_1 rfl ?_
  refine w_al f_8_4 rfl ?_
  refine w_gr f_8_5 rfl (hR _ _ _ rfl) ?_
  refine w_alen f_8_8 rfl ?_
  refine w_iclt f_8_9 (fun c => ?_) (fun c => ?_)
  · have H := H.1 c
    refine w_al f_8_13 rfl ?_
    refine w_gi f_8_14 rfl ?_
    refine w_is (ls' := [.ref 39, .int i1, .int (I 39 1)]) f_8_17 rfl ?_
    exact H
  · have H := H.2 c
    exact w_ret0 f_8_12 H
theorem g_8_18 {d : Nat} {G : am_G} {I : Nat → Nat → Int32} {J : Nat → Nat → Int64} {Q : am_O → am_H → Prop} (hR : q_RT G) (i1 : Int32) (i2 : Int32) (H : ((¬ 0 < i2 → q_W β xs L d 8 54 [.ref 39, .int i1, .int i2] [] (G, I, J) Q) ∧ (0 < i2 → (am_is (i2 - 1) 112 = true ∧ ((¬ i1 < (I 40 ((i2 - 1)).toNatClampNeg) → q_W β xs L d 8 54 [.ref 39, .int i1, .int i2] [] (G, I, J) Q) ∧ (i1 < (I 40 ((i2 - 1)).toNatClampNeg) → (am_is (i2 - 1) 112 = true ∧ (am_is i2 112 = true ∧ q_W β xs L d 8 18 [.ref 39, .int i1, .int (i2 + (-1))] [] (G, (am_u I 40 (i2).toNatClampNeg (I 40 ((i2 - 1)).toNatClampNeg)), J) Q)))))))) : q_W β xs L d 8 18 [.ref 39, .int i1, .int i2] [] (G, I, J) Q := by
  refine w_il f_8_18 rfl ?_
  refine w_ifle f_8_19 (fun c => ?_) (fun c => ?_)
  · have H := H.1 c
    exact H
  · have H := H.2 c
    refine w_al f_8_22 rfl ?_
    refine w_gr f_8_23 rfl (hR _ _ _ rfl) ?_
    refine w_il f_8_26 rfl ?_
    refine w_ic f_8_27 ?_
    refine w_bin f_8_28 ?_
    have hb := H.1
    have H := H.2
    refine w_ald f_8_29 rfl hb ?_
    refine w_il f_8_30 rfl ?_
    refine w_icle f_8_31 (fun c => ?_) (fun c => ?_)
    · have H := H.1 c
      exact H
    · have H := H.2 c
      refine w_al f_8_34 rfl ?_
      refine w_gr f_8_35 rfl (hR _ _ _ rfl) ?_
      refine w_il f_8_38 rfl ?_
      refine w_al f_8_39 rfl ?_
      refine w_gr f_8_40 rfl (hR _ _ _ rfl) ?_
      refine w_il f_8_43 rfl ?_
      refine w_ic f_8_44 ?_
      refine w_bin f_8_45 ?_
      have hb := H.1
      have H := H.2
      refine w_ald f_8_46 rfl hb ?_
      have hb := H.1
      have H := H.2
      refine w_ast f_8_47 rfl hb ?_
      refine w_iinc (ls' := [.ref 39, .int i1, .int (i2 + (-1))]) f_8_48 rfl rfl ?_
      refine w_go f_8_51 ?_
      exact H
theorem g_8_54 {d : Nat} {G : am_G} {I : Nat → Nat → Int32} {J : Nat → Nat → Int64} {Q : am_O → am_H → Prop} (hR : q_RT G) (i1 : Int32) (i2 : Int32) (H : (am_is i2 112 = true ∧ Q (.inl none) (G, (am_u (am_u I 40 (i2).toNatClampNeg i1) 39 1 ((I 39 1) + 1)), J))) : q_W β xs L d 8 54 [.ref 39, .int i1, .int i2] [] (G, I, J) Q := by
  refine w_al f_8_54 rfl ?_
  refine w_gr f_8_55 rfl (hR _ _ _ rfl) ?_
  refine w_il f_8_58 rfl ?_
  refine w_il f_8_59 rfl ?_
  have hb := H.1
  have H := H.2
  refine w_ast f_8_60 rfl hb ?_
  refine w_al f_8_61 rfl ?_
  refine w_dupr f_8_62 ?_
  refine w_gi' f_8_63 rfl (am_u_ne (Or.inl (by decide))) ?_
  refine w_ic f_8_66 ?_
  refine w_bin f_8_67 ?_
  refine w_pi f_8_68 rfl ?_
  exact w_ret0 f_8_71 H
theorem g_9_0 {d : Nat} {G : am_G} {I : Nat → Nat → Int32} {J : Nat → Nat → Int64} {Q : am_O → am_H → Prop} (hR : q_RT G) (i1 : Int32) (H : (am_is i1 112 = true ∧ ((128 : Int32) ≠ 0 ∧ Q (.inl (some (.int ((I 40 (i1).toNatClampNeg) / 128)))) (G, I, J)))) : q_W β xs L d 9 0 [.ref 39, .int i1] [] (G, I, J) Q := by
  refine w_al f_9_0 rfl ?_
  refine w_gr f_9_1 rfl (hR _ _ _ rfl) ?_
  refine w_il f_9_4 rfl ?_
  have hb := H.1
  have H := H.2
  refine w_ald f_9_5 rfl hb ?_
  refine w_ic f_9_6 ?_
  have hb := H.1
  have H := H.2
  refine w_div f_9_9 hb ?_
  exact w_reti f_9_10 H
theorem g_10_0 {d : Nat} {G : am_G} {I : Nat → Nat → Int32} {J : Nat → Nat → Int64} {Q : am_O → am_H → Prop} (hR : q_RT G) (i1 : Int32) (H : (am_is i1 112 = true ∧ ((128 : Int32) ≠ 0 ∧ Q (.inl (some (.int (if (((I 40 (i1).toNatClampNeg) - (I 40 (i1).toNatClampNeg) / 128 * 128) - 12) < (-1) then (-1) else (((I 40 (i1).toNatClampNeg) - (I 40 (i1).toNatClampNeg) / 128 * 128) - 12))))) (G, I, J)))) : q_W β xs L d 10 0 [.ref 39, .int i1] [] (G, I, J) Q := by
  refine w_al f_10_0 rfl ?_
  refine w_gr f_10_1 rfl (hR _ _ _ rfl) ?_
  refine w_il f_10_4 rfl ?_
  have hb := H.1
  have H := H.2
  refine w_ald f_10_5 rfl hb ?_
  refine w_ic f_10_6 ?_
  have hb := H.1
  have H := H.2
  refine w_div f_10_9 hb ?_
  refine w_ic f_10_10 ?_
  refine w_bin f_10_12 ?_
  refine w_ic f_10_13 ?_
  refine w_mm f_10_14 rfl ?_
  exact w_reti f_10_17 H
theorem g_11_0 {d : Nat} {G : am_G} {I : Nat → Nat → Int32} {J : Nat → Nat → Int64} {Q : am_O → am_H → Prop} (hR : q_RT G) (i1 : Int32) (H : (am_is i1 112 = true ∧ ((128 : Int32) ≠ 0 ∧ Q (.inl (some (.int ((I 40 (i1).toNatClampNeg) - (I 40 (i1).toNatClampNeg) / 128 * 128)))) (G, I, J)))) : q_W β xs L d 11 0 [.ref 39, .int i1] [] (G, I, J) Q := by
  refine w_al f_11_0 rfl ?_
  refine w_gr f_11_1 rfl (hR _ _ _ rfl) ?_
  refine w_il f_11_4 rfl ?_
  have hb := H.1
  have H := H.2
  refine w_ald f_11_5 rfl hb ?_
  refine w_ic f_11_6 ?_
  have hb := H.1
  have H := H.2
  refine w_div f_11_9 hb ?_
  exact w_reti f_11_10 H
theorem g_13_0 {d : Nat} {G : am_G} {I : Nat → Nat → Int32} {J : Nat → Nat → Int64} {Q : am_O → am_H → Prop} (hR : q_RT G) (i1 : Int32) (H : q_W β xs L (d + 1) 13 12 [.ref 34, .int i1, .int 0] [] (G, (am_u (am_u I 34 6 i1) 34 4 0), J) Q) : q_W β xs L (d + 1) 13 0 [.ref 34, .int i1, .retAddr 0] [] (G, I, J) Q := by
  refine w_al f_13_0 rfl ?_
  refine w_il f_13_1 rfl ?_
  refine w_pi f_13_2 rfl ?_
  refine w_al f_13_5 rfl ?_
  refine w_ic f_13_6 ?_
  refine w_pi f_13_7 rfl ?_
  refine w_ic f_13_10 ?_
  refine w_is (ls' := [.ref 34, .int i1, .int 0]) f_13_11 rfl ?_
  exact H
theorem g_13_12 {d : Nat} {G : am_G} {I : Nat → Nat → Int32} {J : Nat → Nat → Int64} {Q : am_O → am_H → Prop} (hR : q_RT G) (i1 : Int32) (i2 : Int32) (H : ((¬ i2 < (I 7 8) → q_W β xs L (d + 1) 13 82 [.ref 34, .int i1, .int i2] [] (G, I, J) Q) ∧ (i2 < (I 7 8) → ((¬ (I 34 4) < 3 → q_W β xs L (d + 1) 13 82 [.ref 34, .int i1, .int i2] [] (G, I, J) Q) ∧ ((I 34 4) < 3 → (am_is i2 100 = true ∧ ((¬ 1 < (I 15 (i2).toNatClampNeg) → q_W β xs L (d + 1) 13 76 [.ref 34, .int i1, .int i2] [] (G, I, J) Q) ∧ (1 < (I 15 (i2).toNatClampNeg) → q_W β xs L d 18 0 [.ref 7, .int i2, .int i1] [] (G, I, J) (q_Ri (fun y1 G1 I1 J1 => (q_RT G1 ∧ ((y1 = 0 → q_W β xs L (d + 1) 13 76 [.ref 34, .int i1, .int i2] [] (G1, I1, J1) Q) ∧ (¬ y1 = 0 → (am_is (I1 34 4) 3 = true ∧ q_W β xs L (d + 1) 13 76 [.ref 34, .int i1, .int i2] [] (G1, (am_u (am_u I1 35 ((I1 34 4)).toNatClampNeg i2) 34 4 ((I1 34 4) + 1)), J1) Q))))) (fun x1 G1 I1 J1 => Q (.inr x1) (G1, I1, J1))))))))))) : q_W β xs L (d + 1) 13 12 [.ref 34, .int i1, .int i2] [] (G, I, J) Q := by
  refine w_il f_13_12 rfl ?_
  refine w_al f_13_13 rfl ?_
  refine w_gr f_13_14 rfl (hR _ _ _ rfl) ?_
  refine w_gi f_13_17 rfl ?_
  refine w_icge f_13_20 (fun c => ?_) (fun c => ?_)
  · have H := H.1 c
    exact H
  · have H := H.2 c
    refine w_al f_13_23 rfl ?_
    refine w_gi f_13_24 rfl ?_
    refine w_ic f_13_27 ?_
    refine w_icge f_13_28 (fun c => ?_) (fun c => ?_)
    · have H := H.1 c
      exact H
    · have H := H.2 c
      refine w_al f_13_31 rfl ?_
      refine w_gr f_13_32 rfl (hR _ _ _ rfl) ?_
      refine w_gr f_13_35 rfl (hR _ _ _ rfl) ?_
      refine w_il f_13_38 rfl ?_
      have hb := H.1
      have H := H.2
      refine w_ald f_13_39 rfl hb ?_
      refine w_ic f_13_40 ?_
      refine w_icle f_13_41 (fun c => ?_) (fun c => ?_)
      · have H := H.1 c
        exact H
      · have H := H.2 c
        refine w_al f_13_44 rfl ?_
        refine w_gr f_13_45 rfl (hR _ _ _ rfl) ?_
        refine w_il f_13_48 rfl ?_
        refine w_il f_13_49 rfl ?_
        refine w_inv (as := [.ref 7, .int i2, .int i1]) (st' := []) f_13_50 rfl rfl rfl rfl rfl rfl H (k_i (fun y1 G1 I1 J1 H => ?_)) (x_n (fun _ => rfl) rfl (fun x h' h => h))
        have hR1 := H.1
        have H := H.2
        refine w_ifeq f_13_53 (fun c => ?_) (fun c => ?_)
        · have H := H.1 c
          exact H
        · have H := H.2 c
          refine w_al f_13_56 rfl ?_
          refine w_gr f_13_57 rfl (hR1 _ _ _ rfl) ?_
          refine w_al f_13_60 rfl ?_
          refine w_gi f_13_61 rfl ?_
          refine w_il f_13_64 rfl ?_
          have hb := H.1
          have H := H.2
          refine w_ast f_13_65 rfl hb ?_
          refine w_al f_13_66 rfl ?_
          refine w_dupr f_13_67 ?_
          refine w_gi' f_13_68 rfl (am_u_ne (Or.inl (by decide))) ?_
          refine w_ic f_13_71 ?_
          refine w_bin f_13_72 ?_
          refine w_pi f_13_73 rfl ?_
          exact H
theorem g_13_76 {d : Nat} {G : am_G} {I : Nat → Nat → Int32} {J : Nat → Nat → Int64} {Q : am_O → am_H → Prop} (hR : q_RT G) (i1 : Int32) (i2 : Int32) (H : q_W β xs L (d + 1) 13 12 [.ref 34, .int i1, .int (i2 + 1)] [] (G, I, J) Q) : q_W β xs L (d + 1) 13 76 [.ref 34, .int i1, .int i2] [] (G, I, J) Q := by
  refine w_iinc (ls' := [.ref 34, .int i1, .int (i2 + 1)]) f_13_76 rfl rfl ?_
  refine w_go f_13_79 ?_
  exact H
theorem g_13_82 {d : Nat} {G : am_G} {I : Nat → Nat → Int32} {J : Nat → Nat → Int64} {Q : am_O → am_H → Prop} (hR : q_RT G) (i1 : Int32) (i2 : Int32) (H : q_W β xs L (d + 1) 13 89 [.ref 34, .int i1, .int 2] [] (G, (am_u I 34 5 1), J) Q) : q_W β xs L (d + 1) 13 82 [.ref 34, .int i1, .int i2] [] (G, I, J) Q := by
  refine w_al f_13_82 rfl ?_
  refine w_ic f_13_83 ?_
  refine w_pi f_13_84 rfl ?_
  refine w_ic f_13_87 ?_
  refine w_is (ls' := [.ref 34, .int i1, .int 2]) f_13_88 rfl ?_
  exact H
theorem g_13_89 {d : Nat} {G : am_G} {I : Nat → Nat → Int32} {J : Nat → Nat → Int64} {Q : am_O → am_H → Prop} (hR : q_RT G) (i1 : Int32) (i2 : Int32) (H : ((i2 < 0 → Q (.inl none) (G, I, J)) ∧ (¬ i2 < 0 → ((¬ i2 < (I 34 4) → q_W β xs L (d + 1) 13 124 [.ref 34, .int i1, .int i2] [.int 1, .int i2, .ref 36] (G, I, J) Q) ∧ (i2 < (I 34 4) → (am_is i2 3 = true ∧ (am_is (I 35 (i2).toNatClampNeg) 100 = true ∧ q_W β xs L (d + 1) 13 124 [.ref 34, .int i1, .int i2] [.int (I 15 ((I 35 (i2).toNatClampNeg)).toNatClampNeg), .int i2, .ref 36] (G, I, J) Q))))))) : q_W β xs L (d + 1) 13 89 [.ref 34, .int i1, .int i2] [] (G, I, J) Q := by
  refine w_il f_13_89 rfl ?_
  refine w_iflt f_13_90 (fun c => ?_) (fun c => ?_)
  · have H := H.1 c
    exact w_ret0 f_13_156 H
  · have H := H.2 c
    refine w_al f_13_93 rfl ?_
    refine w_gr f_13_94 rfl (hR _ _ _ rfl) ?_
    refine w_il f_13_97 rfl ?_
    refine w_il f_13_98 rfl ?_
    refine w_al f_13_99 rfl ?_
    refine w_gi f_13_100 rfl ?_
    refine w_icge f_13_103 (fun c => ?_) (fun c => ?_)
    · have H := H.1 c
      refine w_ic f_13_123 ?_
      exact H
    · have H := H.2 c
      refine w_al f_13_106 rfl ?_
      refine w_gr f_13_107 rfl (hR _ _ _ rfl) ?_
      refine w_gr f_13_110 rfl (hR _ _ _ rfl) ?_
      refine w_al f_13_113 rfl ?_
      refine w_gr f_13_114 rfl (hR _ _ _ rfl) ?_
      refine w_il f_13_117 rfl ?_
      have hb := H.1
      have H := H.2
      refine w_ald f_13_118 rfl hb ?_
      have hb := H.1
      have H := H.2
      refine w_ald f_13_119 rfl hb ?_
      refine w_go f_13_120 ?_
      exact H
theorem g_13_124 {d : Nat} {G : am_G} {I : Nat → Nat → Int32} {J : Nat → Nat → Int64} {Q : am_O → am_H → Prop} (hR : q_RT G) (i1 : Int32) (i2 : Int32) (is0 : Int32) (is1 : Int32) (H : (am_is is1 3 = true ∧ (am_is i2 3 = true ∧ (am_is i2 3 = true ∧ q_W β xs L (d + 1) 13 89 [.ref 34, .int i1, .int (i2 + (-1))] [] (G, (am_u (am_u (am_u I 36 (is1).toNatClampNeg is0) 37 (i2).toNatClampNeg (I 34 5)) 34 5 ((I 34 5) * ((am_u I 36 (is1).toNatClampNeg is0) 36 (i2).toNatClampNeg))), J) Q)))) : q_W β xs L (d + 1) 13 124 [.ref 34, .int i1, .int i2] [.int is0, .int is1, .ref 36] (G, I, J) Q := by
  have hb := H.1
  have H := H.2
  refine w_ast f_13_124 rfl hb ?_
  refine w_al f_13_125 rfl ?_
  refine w_gr f_13_126 rfl (hR _ _ _ rfl) ?_
  refine w_il f_13_129 rfl ?_
  refine w_al f_13_130 rfl ?_
  refine w_gi' f_13_131 rfl (am_u_ne (Or.inl (by decide))) ?_
  have hb := H.1
  have H := H.2
  refine w_ast f_13_134 rfl hb ?_
  refine w_al f_13_135 rfl ?_
  refine w_dupr f_13_136 ?_
  refine w_gi' f_13_137 rfl ((am_u_ne (Or.inl (by decide))).trans (am_u_ne (Or.inl (by decide)))) ?_
  refine w_al f_13_140 rfl ?_
  refine w_gr f_13_141 rfl (hR _ _ _ rfl) ?_
  refine w_il f_13_144 rfl ?_
  have hb := H.1
  have H := H.2
  refine w_ald' f_13_145 rfl hb (am_u_ne (Or.inl (by decide))) ?_
  refine w_bin f_13_146 ?_
  refine w_pi f_13_147 rfl ?_
  refine w_iinc (ls' := [.ref 34, .int i1, .int (i2 + (-1))]) f_13_150 rfl rfl ?_
  refine w_go f_13_153 ?_
  exact H
theorem g_14_0 {d : Nat} {G : am_G} {I : Nat → Nat → Int32} {J : Nat → Nat → Int64} {Q : am_O → am_H → Prop} (hR : q_RT G) (i1 : Int32) (i2 : Int32) (H : (am_is i1 3 = true ∧ ((¬ 0 < (I 37 (i1).toNatClampNeg) → q_W β xs L d 14 36 [.ref 34, .int i1, .int i2] [] (G, I, J) Q) ∧ (0 < (I 37 (i1).toNatClampNeg) → (am_is i1 3 = true ∧ ((¬ 0 < (I 36 (i1).toNatClampNeg) → q_W β xs L d 14 36 [.ref 34, .int i1, .int i2] [] (G, I, J) Q) ∧ (0 < (I 36 (i1).toNatClampNeg) → (am_is i1 3 = true ∧ (((I 37 (i1).toNatClampNeg) : Int32) ≠ 0 ∧ (am_is i1 3 = true ∧ (((I 36 (i1).toNatClampNeg) : Int32) ≠ 0 ∧ q_W β xs L d 14 37 [.ref 34, .int i1, .int i2] [.int ((i2 / (I 37 (i1).toNatClampNeg)) - (i2 / (I 37 (i1).toNatClampNeg)) / (I 36 (i1).toNatClampNeg) * (I 36 (i1).toNatClampNeg))] (G, I, J) Q))))))))))) : q_W β xs L d 14 0 [.ref 34, .int i1, .int i2] [] (G, I, J) Q := by
  refine w_al f_14_0 rfl ?_
  refine w_gr f_14_1 rfl (hR _ _ _ rfl) ?_
  refine w_il f_14_4 rfl ?_
  have hb := H.1
  have H := H.2
  refine w_ald f_14_5 rfl hb ?_
  refine w_ifle f_14_6 (fun c => ?_) (fun c => ?_)
  · have H := H.1 c
    exact H
  · have H := H.2 c
    refine w_al f_14_9 rfl ?_
    refine w_gr f_14_10 rfl (hR _ _ _ rfl) ?_
    refine w_il f_14_13 rfl ?_
    have hb := H.1
    have H := H.2
    refine w_ald f_14_14 rfl hb ?_
    refine w_ifle f_14_15 (fun c => ?_) (fun c => ?_)
    · have H := H.1 c
      exact H
    · have H := H.2 c
      refine w_il f_14_18 rfl ?_
      refine w_al f_14_19 rfl ?_
      refine w_gr f_14_20 rfl (hR _ _ _ rfl) ?_
      refine w_il f_14_23 rfl ?_
      have hb := H.1
      have H := H.2
      refine w_ald f_14_24 rfl hb ?_
      have hb := H.1
      have H := H.2
      refine w_div f_14_25 hb ?_
      refine w_al f_14_26 rfl ?_
      refine w_gr f_14_27 rfl (hR _ _ _ rfl) ?_
      refine w_il f_14_30 rfl ?_
      have hb := H.1
      have H := H.2
      refine w_ald f_14_31 rfl hb ?_
      have hb := H.1
      have H := H.2
      refine w_div f_14_32 hb ?_
      refine w_go f_14_33 ?_
      exact H
theorem g_14_36 {d : Nat} {G : am_G} {I : Nat → Nat → Int32} {J : Nat → Nat → Int64} {Q : am_O → am_H → Prop} (hR : q_RT G) (i1 : Int32) (i2 : Int32) (H : q_W β xs L d 14 37 [.ref 34, .int i1, .int i2] [.int 0] (G, I, J) Q) : q_W β xs L d 14 36 [.ref 34, .int i1, .int i2] [] (G, I, J) Q := by
  refine w_ic f_14_36 ?_
  exact H
theorem g_14_37 {d : Nat} {G : am_G} {I : Nat → Nat → Int32} {J : Nat → Nat → Int64} {Q : am_O → am_H → Prop} (hR : q_RT G) (i1 : Int32) (i2 : Int32) (is0 : Int32) (H : Q (.inl (some (.int is0))) (G, I, J)) : q_W β xs L d 14 37 [.ref 34, .int i1, .int i2] [.int is0] (G, I, J) Q := by
  exact w_reti f_14_37 H
theorem g_15_0 {d : Nat} {G : am_G} {I : Nat → Nat → Int32} {J : Nat → Nat → Int64} {Q : am_O → am_H → Prop} (hR : q_RT G) (i1 : Int32) (i2 : Int32) (H : q_W β xs L (d + 1) 15 2 [.ref 34, .int i1, .int i2, .int 0] [] (G, I, J) Q) : q_W β xs L (d + 1) 15 0 [.ref 34, .int i1, .int i2, .retAddr 0] [] (G, I, J) Q := by
  refine w_ic f_15_0 ?_
  refine w_is (ls' := [.ref 34, .int i1, .int i2, .int 0]) f_15_1 rfl ?_
  exact H
theorem g_15_2 {d : Nat} {G : am_G} {I : Nat → Nat → Int32} {J : Nat → Nat → Int64} {Q : am_O → am_H → Prop} (hR : q_RT G) (i1 : Int32) (i2 : Int32) (i3 : Int32) (H : ((¬ i3 < (I 34 4) → (am_is (i2 * 3) 300 = true ∧ Q (.inl (some (.int (I 14 ((i2 * 3)).toNatClampNeg)))) (G, I, J))) ∧ (i3 < (I 34 4) → (am_is i3 3 = true ∧ ((¬ (I 35 (i3).toNatClampNeg) = i2 → q_W β xs L (d + 1) 15 2 [.ref 34, .int i1, .int i2, .int (i3 + 1)] [] (G, I, J) Q) ∧ ((I 35 (i3).toNatClampNeg) = i2 → q_W β xs L d 14 0 [.ref 34, .int i3, .int i1] [] (G, I, J) (q_Ri (fun y1 G1 I1 J1 => (am_is ((i2 * 3) + y1) 300 = true ∧ Q (.inl (some (.int (I1 14 (((i2 * 3) + y1)).toNatClampNeg)))) (G1, I1, J1))) (fun x1 G1 I1 J1 => Q (.inr x1) (G1, I1, J1))))))))) : q_W β xs L (d + 1) 15 2 [.ref 34, .int i1, .int i2, .int i3] [] (G, I, J) Q := by
  refine w_il f_15_2 rfl ?_
  refine w_al f_15_3 rfl ?_
  refine w_gi f_15_4 rfl ?_
  refine w_icge f_15_7 (fun c => ?_) (fun c => ?_)
  · have H := H.1 c
    refine w_al f_15_45 rfl ?_
    refine w_gr f_15_46 rfl (hR _ _ _ rfl) ?_
    refine w_gr f_15_49 rfl (hR _ _ _ rfl) ?_
    refine w_il f_15_52 rfl ?_
    refine w_ic f_15_53 ?_
    refine w_bin f_15_54 ?_
    have hb := H.1
    have H := H.2
    refine w_ald f_15_55 rfl hb ?_
    exact w_reti f_15_56 H
  · have H := H.2 c
    refine w_al f_15_10 rfl ?_
    refine w_gr f_15_11 rfl (hR _ _ _ rfl) ?_
    refine w_il f_15_14 rfl ?_
    have hb := H.1
    have H := H.2
    refine w_ald f_15_15 rfl hb ?_
    refine w_il f_15_16 rfl ?_
    refine w_icne f_15_17 (fun c => ?_) (fun c => ?_)
    · have H := H.1 c
      refine w_iinc (ls' := [.ref 34, .int i1, .int i2, .int (i3 + 1)]) f_15_39 rfl rfl ?_
      refine w_go f_15_42 ?_
      exact H
    · have H := H.2 c
      refine w_al f_15_20 rfl ?_
      refine w_gr f_15_21 rfl (hR _ _ _ rfl) ?_
      refine w_gr f_15_24 rfl (hR _ _ _ rfl) ?_
      refine w_il f_15_27 rfl ?_
      refine w_ic f_15_28 ?_
      refine w_bin f_15_29 ?_
      refine w_al f_15_30 rfl ?_
      refine w_il f_15_31 rfl ?_
      refine w_il f_15_32 rfl ?_
      refine w_inv (as := [.ref 34, .int i3, .int i1]) (st' := [.int (i2 * 3), .ref 14]) f_15_33 rfl rfl rfl rfl rfl rfl H (k_i (fun y1 G1 I1 J1 H => ?_)) (x_n (fun _ => rfl) rfl (fun x h' h => h))
      refine w_bin f_15_36 ?_
      have hb := H.1
      have H := H.2
      refine w_ald f_15_37 rfl hb ?_
      exact w_reti f_15_38 H
theorem g_16_0 {d : Nat} {G : am_G} {I : Nat → Nat → Int32} {J : Nat → Nat → Int64} {Q : am_O → am_H → Prop} (hR : q_RT G) (i1 : Int32) (i2 : Int32) (H : q_W β xs L (d + 1) 16 5 [.ref 34, .int i1, .int i2, .int 0, .int 0] [] (G, I, J) Q) : q_W β xs L (d + 1) 16 0 [.ref 34, .int i1, .int i2, .retAddr 0, .retAddr 0] [] (G, I, J) Q := by
  refine w_ic f_16_0 ?_
  refine w_is (ls' := [.ref 34, .int i1, .int i2, .int 0, .retAddr 0]) f_16_1 rfl ?_
  refine w_ic f_16_2 ?_
  refine w_is (ls' := [.ref 34, .int i1, .int i2, .int 0, .int 0]) f_16_3 rfl ?_
  exact H
theorem g_16_5 {d : Nat} {G : am_G} {I : Nat → Nat → Int32} {J : Nat → Nat → Int64} {Q : am_O → am_H → Prop} (hR : q_RT G) (i1 : Int32) (i2 : Int32) (i3 : Int32) (i4 : Int32) (H : ((¬ i4 < (I 34 4) → Q (.inl (some (.int i3))) (G, I, J)) ∧ (i4 < (I 34 4) → ((¬ ((i2 >>> (i4 &&& 31)) &&& 1) = 1 → q_W β xs L (d + 1) 16 42 [.ref 34, .int i1, .int i2, .int i3, .int i4] [] (G, I, J) Q) ∧ (((i2 >>> (i4 &&& 31)) &&& 1) = 1 → q_W β xs L d 14 0 [.ref 34, .int i4, .int i1] [] (G, I, J) (q_Ri (fun y1 G1 I1 J1 => (q_RT G1 ∧ (am_is i4 3 = true ∧ q_W β xs L (d + 1) 16 42 [.ref 34, .int i1, .int i2, .int (i3 + (y1 * (I1 37 (i4).toNatClampNeg))), .int i4] [] (G1, I1, J1) Q))) (fun x1 G1 I1 J1 => Q (.inr x1) (G1, I1, J1)))))))) : q_W β xs L (d + 1) 16 5 [.ref 34, .int i1, .int i2, .int i3, .int i4] [] (G, I, J) Q := by
  refine w_il f_16_5 rfl ?_
  refine w_al f_16_7 rfl ?_
  refine w_gi f_16_8 rfl ?_
  refine w_icge f_16_11 (fun c => ?_) (fun c => ?_)
  · have H := H.1 c
    refine w_il f_16_48 rfl ?_
    exact w_reti f_16_49 H
  · have H := H.2 c
    refine w_il f_16_14 rfl ?_
    refine w_il f_16_15 rfl ?_
    refine w_bin f_16_17 ?_
    refine w_ic f_16_18 ?_
    refine w_bin f_16_19 ?_
    refine w_ic f_16_20 ?_
    refine w_icne f_16_21 (fun c => ?_) (fun c => ?_)
    · have H := H.1 c
      exact H
    · have H := H.2 c
      refine w_il f_16_24 rfl ?_
      refine w_al f_16_25 rfl ?_
      refine w_il f_16_26 rfl ?_
      refine w_il f_16_28 rfl ?_
      refine w_inv (as := [.ref 34, .int i4, .int i1]) (st' := [.int i3]) f_16_29 rfl rfl rfl rfl rfl rfl H (k_i (fun y1 G1 I1 J1 H => ?_)) (x_n (fun _ => rfl) rfl (fun x h' h => h))
      have hR1 := H.1
      have H := H.2
      refine w_al f_16_32 rfl ?_
      refine w_gr f_16_33 rfl (hR1 _ _ _ rfl) ?_
      refine w_il f_16_36 rfl ?_
      have hb := H.1
      have H := H.2
      refine w_ald f_16_38 rfl hb ?_
      refine w_bin f_16_39 ?_
      refine w_bin f_16_40 ?_
      refine w_is (ls' := [.ref 34, .int i1, .int i2, .int (i3 + (y1 * (I1 37 (i4).toNatClampNeg))), .int i4]) f_16_41 rfl ?_
      exact H
theorem g_16_42 {d : Nat} {G : am_G} {I : Nat → Nat → Int32} {J : Nat → Nat → Int64} {Q : am_O → am_H → Prop} (hR : q_RT G) (i1 : Int32) (i2 : Int32) (i3 : Int32) (i4 : Int32) (H : q_W β xs L (d + 1) 16 5 [.ref 34, .int i1, .int i2, .int i3, .int (i4 + 1)] [] (G, I, J) Q) : q_W β xs L (d + 1) 16 42 [.ref 34, .int i1, .int i2, .int i3, .int i4] [] (G, I, J) Q := by
  refine w_iinc (ls' := [.ref 34, .int i1, .int i2, .int i3, .int (i4 + 1)]) f_16_42 rfl rfl ?_
  refine w_go f_16_45 ?_
  exact H
theorem g_18_0 {d : Nat} {G : am_G} {I : Nat → Nat → Int32} {J : Nat → Nat → Int64} {Q : am_O → am_H → Prop} (hR : q_RT G) (i1 : Int32) (i2 : Int32) (H : (am_is i1 100 = true ∧ ((i2 < (I 12 (i1).toNatClampNeg) → q_W β xs L d 18 34 [.ref 7, .int i1, .int i2] [] (G, I, J) Q) ∧ (¬ i2 < (I 12 (i1).toNatClampNeg) → (am_is i1 100 = true ∧ (((I 13 (i1).toNatClampNeg) = (-1) → q_W β xs L d 18 30 [.ref 7, .int i1, .int i2] [] (G, I, J) Q) ∧ (¬ (I 13 (i1).toNatClampNeg) = (-1) → (am_is i1 100 = true ∧ ((¬ i2 < (I 13 (i1).toNatClampNeg) → q_W β xs L d 18 34 [.ref 7, .int i1, .int i2] [] (G, I, J) Q) ∧ (i2 < (I 13 (i1).toNatClampNeg) → q_W β xs L d 18 30 [.ref 7, .int i1, .int i2] [] (G, I, J) Q)))))))))) : q_W β xs L d 18 0 [.ref 7, .int i1, .int i2] [] (G, I, J) Q := by
  refine w_al f_18_0 rfl ?_
  refine w_gr f_18_1 rfl (hR _ _ _ rfl) ?_
  refine w_il f_18_4 rfl ?_
  have hb := H.1
  have H := H.2
  refine w_ald f_18_5 rfl hb ?_
  refine w_il f_18_6 rfl ?_
  refine w_icgt f_18_7 (fun c => ?_) (fun c => ?_)
  · have H := H.1 c
    exact H
  · have H := H.2 c
    refine w_al f_18_10 rfl ?_
    refine w_gr f_18_11 rfl (hR _ _ _ rfl) ?_
    refine w_il f_18_14 rfl ?_
    have hb := H.1
    have H := H.2
    refine w_ald f_18_15 rfl hb ?_
    refine w_ic f_18_16 ?_
    refine w_iceq f_18_17 (fun c => ?_) (fun c => ?_)
    · have H := H.1 c
      exact H
    · have H := H.2 c
      refine w_al f_18_20 rfl ?_
      refine w_gr f_18_21 rfl (hR _ _ _ rfl) ?_
      refine w_il f_18_24 rfl ?_
      have hb := H.1
      have H := H.2
      refine w_ald f_18_25 rfl hb ?_
      refine w_il f_18_26 rfl ?_
      refine w_icle f_18_27 (fun c => ?_) (fun c => ?_)
      · have H := H.1 c
        exact H
      · have H := H.2 c
        exact H
theorem g_18_30 {d : Nat} {G : am_G} {I : Nat → Nat → Int32} {J : Nat → Nat → Int64} {Q : am_O → am_H → Prop} (hR : q_RT G) (i1 : Int32) (i2 : Int32) (H : q_W β xs L d 18 35 [.ref 7, .int i1, .int i2] [.int 1] (G, I, J) Q) : q_W β xs L d 18 30 [.ref 7, .int i1, .int i2] [] (G, I, J) Q := by
  refine w_ic f_18_30 ?_
  refine w_go f_18_31 ?_
  exact H
theorem g_18_34 {d : Nat} {G : am_G} {I : Nat → Nat → Int32} {J : Nat → Nat → Int64} {Q : am_O → am_H → Prop} (hR : q_RT G) (i1 : Int32) (i2 : Int32) (H : q_W β xs L d 18 35 [.ref 7, .int i1, .int i2] [.int 0] (G, I, J) Q) : q_W β xs L d 18 34 [.ref 7, .int i1, .int i2] [] (G, I, J) Q := by
  refine w_ic f_18_34 ?_
  exact H
theorem g_18_35 {d : Nat} {G : am_G} {I : Nat → Nat → Int32} {J : Nat → Nat → Int64} {Q : am_O → am_H → Prop} (hR : q_RT G) (i1 : Int32) (i2 : Int32) (is0 : Int32) (H : (((is0 : Int32) = 0 ∨ (is0 : Int32) = 1) ∧ Q (.inl (some (.int is0))) (G, I, J))) : q_W β xs L d 18 35 [.ref 7, .int i1, .int i2] [.int is0] (G, I, J) Q := by
  exact w_retz f_18_35 H.1 H.2
theorem g_19_0 {d : Nat} {G : am_G} {I : Nat → Nat → Int32} {J : Nat → Nat → Int64} {Q : am_O → am_H → Prop} (hR : q_RT G) (i1 : Int32) (i2 : Int32) (H : q_W β xs L d 19 2 [.ref 7, .int i1, .int i2, .int 0] [] (G, I, J) Q) : q_W β xs L d 19 0 [.ref 7, .int i1, .int i2, .retAddr 0] [] (G, I, J) Q := by
  refine w_ic f_19_0 ?_
  refine w_is (ls' := [.ref 7, .int i1, .int i2, .int 0]) f_19_1 rfl ?_
  exact H
theorem g_19_2 {d : Nat} {G : am_G} {I : Nat → Nat → Int32} {J : Nat → Nat → Int64} {Q : am_O → am_H → Prop} (hR : q_RT G) (i1 : Int32) (i2 : Int32) (i3 : Int32) (H : (am_is i1 100 = true ∧ ((¬ i3 < (I 15 (i1).toNatClampNeg) → (((0 : Int32) = 0 ∨ (0 : Int32) = 1) ∧ Q (.inl (some (.int 0))) (G, I, J))) ∧ (i3 < (I 15 (i1).toNatClampNeg) → (am_is ((i1 * 3) + i3) 300 = true ∧ ((¬ (I 14 (((i1 * 3) + i3)).toNatClampNeg) = i2 → q_W β xs L d 19 2 [.ref 7, .int i1, .int i2, .int (i3 + 1)] [] (G, I, J) Q) ∧ ((I 14 (((i1 * 3) + i3)).toNatClampNeg) = i2 → (((1 : Int32) = 0 ∨ (1 : Int32) = 1) ∧ Q (.inl (some (.int 1))) (G, I, J))))))))) : q_W β xs L d 19 2 [.ref 7, .int i1, .int i2, .int i3] [] (G, I, J) Q := by
  refine w_il f_19_2 rfl ?_
  refine w_al f_19_3 rfl ?_
  refine w_gr f_19_4 rfl (hR _ _ _ rfl) ?_
  refine w_il f_19_7 rfl ?_
  have hb := H.1
  have H := H.2
  refine w_ald f_19_8 rfl hb ?_
  refine w_icge f_19_9 (fun c => ?_) (fun c => ?_)
  · have H := H.1 c
    refine w_ic f_19_34 ?_
    exact w_retz f_19_35 H.1 H.2
  · have H := H.2 c
    refine w_al f_19_12 rfl ?_
    refine w_gr f_19_13 rfl (hR _ _ _ rfl) ?_
    refine w_il f_19_16 rfl ?_
    refine w_ic f_19_17 ?_
    refine w_bin f_19_18 ?_
    refine w_il f_19_19 rfl ?_
    refine w_bin f_19_20 ?_
    have hb := H.1
    have H := H.2
    refine w_ald f_19_21 rfl hb ?_
    refine w_il f_19_22 rfl ?_
    refine w_icne f_19_23 (fun c => ?_) (fun c => ?_)
    · have H := H.1 c
      refine w_iinc (ls' := [.ref 7, .int i1, .int i2, .int (i3 + 1)]) f_19_28 rfl rfl ?_
      refine w_go f_19_31 ?_
      exact H
    · have H := H.2 c
      refine w_ic f_19_26 ?_
      exact w_retz f_19_27 H.1 H.2
theorem g_22_0 {d : Nat} {G : am_G} {I : Nat → Nat → Int32} {J : Nat → Nat → Int64} {Q : am_O → am_H → Prop} (hR : q_RT G)  (H : q_W β xs L d 201 0 [.ref 43, .int (-1), .retAddr 0, .retAddr 0] [] (G, (am_u I 42 4 0), J) (q_Rv (fun G1 I1 J1 => (q_RT G1 ∧ q_W β xs L d 201 0 [.ref 44, .int 0, .retAddr 0, .retAddr 0] [] (G1, I1, J1) (q_Rv (fun G2 I2 J2 => (q_RT G2 ∧ q_W β xs L d 201 0 [.ref 45, .int 0, .retAddr 0, .retAddr 0] [] (G2, I2, J2) (q_Rv (fun G3 I3 J3 => Q (.inl none) (G3, I3, J3)) (fun x3 G3 I3 J3 => Q (.inr x3) (G3, I3, J3))))) (fun x2 G2 I2 J2 => Q (.inr x2) (G2, I2, J2))))) (fun x1 G1 I1 J1 => Q (.inr x1) (G1, I1, J1)))) : q_W β xs L (d + 1) 22 0 [.ref 42] [] (G, I, J) Q := by
  refine w_al f_22_0 rfl ?_
  refine w_ic f_22_1 ?_
  refine w_pi f_22_2 rfl ?_
  refine w_al f_22_5 rfl ?_
  refine w_gr f_22_6 rfl (hR _ _ _ rfl) ?_
  refine w_ic f_22_9 ?_
  refine w_invs (as := [.ref 43, .int (-1), .retAddr 0, .retAddr 0]) (st' := []) f_22_10 rfl rfl rfl rfl rfl H (k_v (fun G1 I1 J1 H => ?_)) (x_n (fun _ => rfl) rfl (fun x h' h => h))
  have hR1 := H.1
  have H := H.2
  refine w_al f_22_13 rfl ?_
  refine w_gr f_22_14 rfl (hR1 _ _ _ rfl) ?_
  refine w_ic f_22_17 ?_
  refine w_invs (as := [.ref 44, .int 0, .retAddr 0, .retAddr 0]) (st' := []) f_22_18 rfl rfl rfl rfl rfl H (k_v (fun G2 I2 J2 H => ?_)) (x_n (fun _ => rfl) rfl (fun x h' h => h))
  have hR2 := H.1
  have H := H.2
  refine w_al f_22_21 rfl ?_
  refine w_gr f_22_22 rfl (hR2 _ _ _ rfl) ?_
  refine w_ic f_22_25 ?_
  refine w_invs (as := [.ref 45, .int 0, .retAddr 0, .retAddr 0]) (st' := []) f_22_26 rfl rfl rfl rfl rfl H (k_v (fun G3 I3 J3 H => ?_)) (x_n (fun _ => rfl) rfl (fun x h' h => h))
  exact w_ret0 f_22_29 H
theorem g_23_0 {d : Nat} {G : am_G} {I : Nat → Nat → Int32} {J : Nat → Nat → Int64} {Q : am_O → am_H → Prop} (hR : q_RT G) (i1 : Int32) (i2 : Int32) (i3 : Int32) (i4 : Int32) (i5 : Int32) (i6 : Int32) (i7 : Int32) (H : (∃ r1 : Nat, G.2.1 42 3 = some r1 ∧ (∃ N2 : Nat, q_SH r1 = .inl (.int, N2) ∧ ((¬ (Int32.ofNat N2) < (((I 42 4) * 7) + 7) → q_W β xs L (d + 1) 23 40 [.ref 42, .int i1, .int i2, .int i3, .int i4, .int i5, .int i6, .int i7, .int ((I 42 4) * 7)] [] (G, I, J) Q) ∧ ((Int32.ofNat N2) < (((I 42 4) * 7) + 7) → (∃ r3 : Nat, G.2.1 42 3 = some r3 ∧ (∃ r4 : Nat, G.2.1 42 3 = some r4 ∧ (∃ N5 : Nat, q_SH r4 = .inl (.int, N5) ∧ q_W β xs L d 202 0 [.ref r3, .int ((Int32.ofNat N5) * 2), .retAddr 0] [] (G, I, J) (q_Rr (fun y6 G6 I6 J6 => (q_RT G6 ∧ q_W β xs L (d + 1) 23 40 [.ref 42, .int i1, .int i2, .int i3, .int i4, .int i5, .int i6, .int i7, .int ((I 42 4) * 7)] [] ((G6.1, am_u G6.2.1 42 3 (some y6), G6.2.2), I6, J6) Q)) (fun x6 G6 I6 J6 => Q (.inr x6) (G6, I6, J6))))))))))) : q_W β xs L (d + 1) 23 0 [.ref 42, .int i1, .int i2, .int i3, .int i4, .int i5, .int i6, .int i7, .retAddr 0] [] (G, I, J) Q := by
  refine w_al f_23_0 rfl ?_
  refine w_gi f_23_1 rfl ?_
  refine w_ic f_23_4 ?_
  refine w_bin f_23_6 ?_
  refine w_is (ls' := [.ref 42, .int i1, .int i2, .int i3, .int i4, .int i5, .int i6, .int i7, .int ((I 42 4) * 7)]) f_23_7 rfl ?_
  refine w_il f_23_9 rfl ?_
  refine w_ic f_23_11 ?_
  refine w_bin f_23_13 ?_
  refine w_al f_23_14 rfl ?_
  obtain ⟨r1, hb, H⟩ := H
  refine w_gr f_23_15 rfl hb ?_
  obtain ⟨N2, hs, H⟩ := H
  refine w_alen f_23_18 hs ?_
  refine w_icle f_23_19 (fun c => ?_) (fun c => ?_)
  · have H := H.1 c
    exact H
  · have H := H.2 c
    refine w_al f_23_22 rfl ?_
    refine w_al f_23_23 rfl ?_
    obtain ⟨r3, hb, H⟩ := H
    refine w_gr f_23_24 rfl hb ?_
    refine w_al f_23_27 rfl ?_
    obtain ⟨r4, hb, H⟩ := H
    refine w_gr f_23_28 rfl hb ?_
    obtain ⟨N5, hs, H⟩ := H
    refine w_alen f_23_31 hs ?_
    refine w_ic f_23_32 ?_
    refine w_bin f_23_33 ?_
    refine w_invs (as := [.ref r3, .int ((Int32.ofNat N5) * 2), .retAddr 0]) (st' := [.ref 42]) f_23_34 rfl rfl rfl rfl rfl H (k_r (fun y6 G6 I6 J6 H => ?_)) (x_n (fun _ => rfl) rfl (fun x h' h => h))
    have hR6 := H.1
    have H := H.2
    refine w_pr f_23_37 rfl ?_
    have hR7 : q_RT (G6.1, am_u G6.2.1 42 3 (some y6), G6.2.2) := q_RT_u hR6 rfl
    exact H
theorem g_23_40 {d : Nat} {G : am_G} {I : Nat → Nat → Int32} {J : Nat → Nat → Int64} {Q : am_O → am_H → Prop} (hR : q_RT G) (i1 : Int32) (i2 : Int32) (i3 : Int32) (i4 : Int32) (i5 : Int32) (i6 : Int32) (i7 : Int32) (i8 : Int32) (H : (∃ r1 : Nat, G.2.1 42 3 = some r1 ∧ (∃ N2 : Nat, q_SH r1 = .inl (.int, N2) ∧ am_is i8 N2 = true ∧ (∃ r3 : Nat, G.2.1 42 3 = some r3 ∧ (∃ N4 : Nat, q_SH r3 = .inl (.int, N4) ∧ am_is (i8 + 1) N4 = true ∧ (∃ r5 : Nat, G.2.1 42 3 = some r5 ∧ ((12 : Int32) ≠ 0 ∧ (∃ N6 : Nat, q_SH r5 = .inl (.int, N6) ∧ am_is (i8 + 2) N6 = true ∧ (∃ r7 : Nat, G.2.1 42 3 = some r7 ∧ ((12 : Int32) ≠ 0 ∧ (∃ N8 : Nat, q_SH r7 = .inl (.int, N8) ∧ am_is (i8 + 3) N8 = true ∧ (∃ r9 : Nat, G.2.1 42 3 = some r9 ∧ (∃ N10 : Nat, q_SH r9 = .inl (.int, N10) ∧ am_is (i8 + 4) N10 = true ∧ (∃ r11 : Nat, G.2.1 42 3 = some r11 ∧ (∃ N12 : Nat, q_SH r11 = .inl (.int, N12) ∧ am_is (i8 + 5) N12 = true ∧ (∃ r13 : Nat, G.2.1 42 3 = some r13 ∧ (∃ N14 : Nat, q_SH r13 = .inl (.int, N14) ∧ am_is (i8 + 6) N14 = true ∧ (am_is ((i1 * 5) + i2) 100 = true ∧ (am_is ((i1 * 5) + i2) 100 = true ∧ (am_is ((i1 * 5) + i2) 100 = true ∧ Q (.inl (some (.int ((((am_u (am_u (am_u (am_u (am_u (am_u (am_u I r1 (i8).toNatClampNeg i1) r3 ((i8 + 1)).toNatClampNeg i3) r5 ((i8 + 2)).toNatClampNeg (i4 / 12)) r7 ((i8 + 3)).toNatClampNeg (i4 - i4 / 12 * 12)) r9 ((i8 + 4)).toNatClampNeg i5) r11 ((i8 + 5)).toNatClampNeg i6) r13 ((i8 + 6)).toNatClampNeg i7) 42 4) + 1) - 1)))) (G, (am_u (am_u (am_u (am_u (am_u (am_u (am_u (am_u (am_u (am_u I r1 (i8).toNatClampNeg i1) r3 ((i8 + 1)).toNatClampNeg i3) r5 ((i8 + 2)).toNatClampNeg (i4 / 12)) r7 ((i8 + 3)).toNatClampNeg (i4 - i4 / 12 * 12)) r9 ((i8 + 4)).toNatClampNeg i5) r11 ((i8 + 5)).toNatClampNeg i6) r13 ((i8 + 6)).toNatClampNeg i7) 43 (((i1 * 5) + i2)).toNatClampNeg ((am_u (am_u (am_u (am_u (am_u (am_u (am_u I r1 (i8).toNatClampNeg i1) r3 ((i8 + 1)).toNatClampNeg i3) r5 ((i8 + 2)).toNatClampNeg (i4 / 12)) r7 ((i8 + 3)).toNatClampNeg (i4 - i4 / 12 * 12)) r9 ((i8 + 4)).toNatClampNeg i5) r11 ((i8 + 5)).toNatClampNeg i6) r13 ((i8 + 6)).toNatClampNeg i7) 42 4)) 44 (((i1 * 5) + i2)).toNatClampNeg (((am_u (am_u (am_u (am_u (am_u (am_u (am_u I r1 (i8).toNatClampNeg i1) r3 ((i8 + 1)).toNatClampNeg i3) r5 ((i8 + 2)).toNatClampNeg (i4 / 12)) r7 ((i8 + 3)).toNatClampNeg (i4 - i4 / 12 * 12)) r9 ((i8 + 4)).toNatClampNeg i5) r11 ((i8 + 5)).toNatClampNeg i6) r13 ((i8 + 6)).toNatClampNeg i7) 44 (((i1 * 5) + i2)).toNatClampNeg) + 1)) 42 4 (((am_u (am_u (am_u (am_u (am_u (am_u (am_u I r1 (i8).toNatClampNeg i1) r3 ((i8 + 1)).toNatClampNeg i3) r5 ((i8 + 2)).toNatClampNeg (i4 / 12)) r7 ((i8 + 3)).toNatClampNeg (i4 - i4 / 12 * 12)) r9 ((i8 + 4)).toNatClampNeg i5) r11 ((i8 + 5)).toNatClampNeg i6) r13 ((i8 + 6)).toNatClampNeg i7) 42 4) + 1)), J))))))))))))))))))))) : q_W β xs L (d + 1) 23 40 [.ref 42, .int i1, .int i2, .int i3, .int i4, .int i5, .int i6, .int i7, .int i8] [] (G, I, J) Q := by
  refine w_al f_23_40 rfl ?_
  obtain ⟨r1, hb, H⟩ := H
  refine w_gr f_23_41 rfl hb ?_
  refine w_il f_23_44 rfl ?_
  refine w_il f_23_46 rfl ?_
  obtain ⟨N2, hs, hb, H⟩ := H
  refine w_ast f_23_47 hs hb ?_
  refine w_al f_23_48 rfl ?_
  obtain ⟨r3, hb, H⟩ := H
  refine w_gr f_23_49 rfl hb ?_
  refine w_il f_23_52 rfl ?_
  refine w_ic f_23_54 ?_
  refine w_bin f_23_55 ?_
  refine w_il f_23_56 rfl ?_
  obtain ⟨N4, hs, hb, H⟩ := H
  refine w_ast f_23_57 hs hb ?_
  refine w_al f_23_58 rfl ?_
  obtain ⟨r5, hb, H⟩ := H
  refine w_gr f_23_59 rfl hb ?_
  refine w_il f_23_62 rfl ?_
  refine w_ic f_23_64 ?_
  refine w_bin f_23_65 ?_
  refine w_il f_23_66 rfl ?_
  refine w_ic f_23_68 ?_
  have hb := H.1
  have H := H.2
  refine w_div f_23_70 hb ?_
  obtain ⟨N6, hs, hb, H⟩ := H
  refine w_ast f_23_71 hs hb ?_
  refine w_al f_23_72 rfl ?_
  obtain ⟨r7, hb, H⟩ := H
  refine w_gr f_23_73 rfl hb ?_
  refine w_il f_23_76 rfl ?_
  refine w_ic f_23_78 ?_
  refine w_bin f_23_79 ?_
  refine w_il f_23_80 rfl ?_
  refine w_ic f_23_82 ?_
  have hb := H.1
  have H := H.2
  refine w_div f_23_84 hb ?_
  obtain ⟨N8, hs, hb, H⟩ := H
  refine w_ast f_23_85 hs hb ?_
  refine w_al f_23_86 rfl ?_
  obtain ⟨r9, hb, H⟩ := H
  refine w_gr f_23_87 rfl hb ?_
  refine w_il f_23_90 rfl ?_
  refine w_ic f_23_92 ?_
  refine w_bin f_23_93 ?_
  refine w_il f_23_94 rfl ?_
  obtain ⟨N10, hs, hb, H⟩ := H
  refine w_ast f_23_96 hs hb ?_
  refine w_al f_23_97 rfl ?_
  obtain ⟨r11, hb, H⟩ := H
  refine w_gr f_23_98 rfl hb ?_
  refine w_il f_23_101 rfl ?_
  refine w_ic f_23_103 ?_
  refine w_bin f_23_104 ?_
  refine w_il f_23_105 rfl ?_
  obtain ⟨N12, hs, hb, H⟩ := H
  refine w_ast f_23_107 hs hb ?_
  refine w_al f_23_108 rfl ?_
  obtain ⟨r13, hb, H⟩ := H
  refine w_gr f_23_109 rfl hb ?_
  refine w_il f_23_112 rfl ?_
  refine w_ic f_23_114 ?_
  refine w_bin f_23_116 ?_
  refine w_il f_23_117 rfl ?_
  obtain ⟨N14, hs, hb, H⟩ := H
  refine w_ast f_23_119 hs hb ?_
  refine w_al f_23_120 rfl ?_
  refine w_gr f_23_121 rfl (hR _ _ _ rfl) ?_
  refine w_il f_23_124 rfl ?_
  refine w_ic f_23_125 ?_
  refine w_bin f_23_126 ?_
  refine w_il f_23_127 rfl ?_
  refine w_bin f_23_128 ?_
  refine w_al f_23_129 rfl ?_
  refine w_gi f_23_130 rfl ?_
  have hb := H.1
  have H := H.2
  refine w_ast f_23_133 rfl hb ?_
  refine w_al f_23_134 rfl ?_
  refine w_gr f_23_135 rfl (hR _ _ _ rfl) ?_
  refine w_il f_23_138 rfl ?_
  refine w_ic f_23_139 ?_
  refine w_bin f_23_140 ?_
  refine w_il f_23_141 rfl ?_
  refine w_bin f_23_142 ?_
  refine w_dup2 f_23_143 ?_
  have hb := H.1
  have H := H.2
  refine w_ald' f_23_144 rfl hb (am_u_ne (Or.inl (by decide))) ?_
  refine w_ic f_23_145 ?_
  refine w_bin f_23_146 ?_
  have hb := H.1
  have H := H.2
  refine w_ast f_23_147 rfl hb ?_
  refine w_al f_23_148 rfl ?_
  refine w_dupr f_23_149 ?_
  refine w_gi' f_23_150 rfl ((am_u_ne (Or.inl (by decide))).trans (am_u_ne (Or.inl (by decide)))) ?_
  refine w_ic f_23_153 ?_
  refine w_bin f_23_154 ?_
  refine w_pi f_23_155 rfl ?_
  refine w_al f_23_158 rfl ?_
  refine w_gi' f_23_159 rfl (am_u_same) ?_
  refine w_ic f_23_162 ?_
  refine w_bin f_23_163 ?_
  exact w_reti f_23_164 H
theorem g_24_0 {d : Nat} {G : am_G} {I : Nat → Nat → Int32} {J : Nat → Nat → Int64} {Q : am_O → am_H → Prop} (hR : q_RT G) (i1 : Int32) (H : q_W β xs L d 24 4 [.ref 42, .int i1, .int 0, .int i1] [] (G, I, J) Q) : q_W β xs L d 24 0 [.ref 42, .int i1, .retAddr 0, .retAddr 0] [] (G, I, J) Q := by
  refine w_ic f_24_0 ?_
  refine w_is (ls' := [.ref 42, .int i1, .int 0, .retAddr 0]) f_24_1 rfl ?_
  refine w_il f_24_2 rfl ?_
  refine w_is (ls' := [.ref 42, .int i1, .int 0, .int i1]) f_24_3 rfl ?_
  exact H
theorem g_24_4 {d : Nat} {G : am_G} {I : Nat → Nat → Int32} {J : Nat → Nat → Int64} {Q : am_O → am_H → Prop} (hR : q_RT G) (i1 : Int32) (i2 : Int32) (i3 : Int32) (H : ((i3 < 0 → q_W β xs L d 24 41 [.ref 42, .int i1, .int i2, .int i3] [] (G, I, J) Q) ∧ (¬ i3 < 0 → ((¬ i3 < (I 42 4) → q_W β xs L d 24 41 [.ref 42, .int i1, .int i2, .int i3] [] (G, I, J) Q) ∧ (i3 < (I 42 4) → ((¬ i2 < 40 → q_W β xs L d 24 41 [.ref 42, .int i1, .int i2, .int i3] [] (G, I, J) Q) ∧ (i2 < 40 → (∃ r1 : Nat, G.2.1 42 3 = some r1 ∧ (∃ N2 : Nat, q_SH r1 = .inl (.int, N2) ∧ am_is ((i3 * 7) + 6) N2 = true ∧ q_W β xs L d 24 4 [.ref 42, .int i1, .int (i2 + 1), .int (I r1 (((i3 * 7) + 6)).toNatClampNeg)] [] (G, I, J) Q))))))))) : q_W β xs L d 24 4 [.ref 42, .int i1, .int i2, .int i3] [] (G, I, J) Q := by
  refine w_il f_24_4 rfl ?_
  refine w_iflt f_24_5 (fun c => ?_) (fun c => ?_)
  · have H := H.1 c
    exact H
  · have H := H.2 c
    refine w_il f_24_8 rfl ?_
    refine w_al f_24_9 rfl ?_
    refine w_gi f_24_10 rfl ?_
    refine w_icge f_24_13 (fun c => ?_) (fun c => ?_)
    · have H := H.1 c
      exact H
    · have H := H.2 c
      refine w_il f_24_16 rfl ?_
      refine w_ic f_24_17 ?_
      refine w_icge f_24_19 (fun c => ?_) (fun c => ?_)
      · have H := H.1 c
        exact H
      · have H := H.2 c
        refine w_iinc (ls' := [.ref 42, .int i1, .int (i2 + 1), .int i3]) f_24_22 rfl rfl ?_
        refine w_al f_24_25 rfl ?_
        obtain ⟨r1, hb, H⟩ := H
        refine w_gr f_24_26 rfl hb ?_
        refine w_il f_24_29 rfl ?_
        refine w_ic f_24_30 ?_
        refine w_bin f_24_32 ?_
        refine w_ic f_24_33 ?_
        refine w_bin f_24_35 ?_
        obtain ⟨N2, hs, hb, H⟩ := H
        refine w_ald f_24_36 hs hb ?_
        refine w_is (ls' := [.ref 42, .int i1, .int (i2 + 1), .int (I r1 (((i3 * 7) + 6)).toNatClampNeg)]) f_24_37 rfl ?_
        refine w_go f_24_38 ?_
        exact H
theorem g_24_41 {d : Nat} {G : am_G} {I : Nat → Nat → Int32} {J : Nat → Nat → Int64} {Q : am_O → am_H → Prop} (hR : q_RT G) (i1 : Int32) (i2 : Int32) (i3 : Int32) (H : Q (.inl (some (.int i2))) (G, I, J)) : q_W β xs L d 24 41 [.ref 42, .int i1, .int i2, .int i3] [] (G, I, J) Q := by
  refine w_il f_24_41 rfl ?_
  exact w_reti f_24_42 H
theorem g_25_0 {d : Nat} {G : am_G} {I : Nat → Nat → Int32} {J : Nat → Nat → Int64} {Q : am_O → am_H → Prop} (hR : q_RT G) (i1 : Int32) (i2 : Int32) (i3 : Int32) (H : q_W β xs L d 25 6 [.ref 42, .int i1, .int i2, .int i3, .int i1, .int 0] [] (G, I, J) Q) : q_W β xs L d 25 0 [.ref 42, .int i1, .int i2, .int i3, .retAddr 0, .retAddr 0] [] (G, I, J) Q := by
  refine w_il f_25_0 rfl ?_
  refine w_is (ls' := [.ref 42, .int i1, .int i2, .int i3, .int i1, .retAddr 0]) f_25_1 rfl ?_
  refine w_ic f_25_3 ?_
  refine w_is (ls' := [.ref 42, .int i1, .int i2, .int i3, .int i1, .int 0]) f_25_4 rfl ?_
  exact H
theorem g_25_6 {d : Nat} {G : am_G} {I : Nat → Nat → Int32} {J : Nat → Nat → Int64} {Q : am_O → am_H → Prop} (hR : q_RT G) (i1 : Int32) (i2 : Int32) (i3 : Int32) (i4 : Int32) (i5 : Int32) (H : ((¬ i5 < i2 → q_W β xs L d 25 47 [.ref 42, .int i1, .int i2, .int i3, .int i4, .int i5] [] (G, I, J) Q) ∧ (i5 < i2 → ((i4 < 0 → q_W β xs L d 25 47 [.ref 42, .int i1, .int i2, .int i3, .int i4, .int i5] [] (G, I, J) Q) ∧ (¬ i4 < 0 → ((¬ i4 < (I 42 4) → q_W β xs L d 25 47 [.ref 42, .int i1, .int i2, .int i3, .int i4, .int i5] [] (G, I, J) Q) ∧ (i4 < (I 42 4) → (∃ r1 : Nat, G.2.1 42 3 = some r1 ∧ (∃ N2 : Nat, q_SH r1 = .inl (.int, N2) ∧ am_is ((i4 * 7) + 6) N2 = true ∧ q_W β xs L d 25 6 [.ref 42, .int i1, .int i2, .int i3, .int (I r1 (((i4 * 7) + 6)).toNatClampNeg), .int (i5 + 1)] [] (G, I, J) Q))))))))) : q_W β xs L d 25 6 [.ref 42, .int i1, .int i2, .int i3, .int i4, .int i5] [] (G, I, J) Q := by
  refine w_il f_25_6 rfl ?_
  refine w_il f_25_8 rfl ?_
  refine w_icge f_25_9 (fun c => ?_) (fun c => ?_)
  · have H := H.1 c
    exact H
  · have H := H.2 c
    refine w_il f_25_12 rfl ?_
    refine w_iflt f_25_14 (fun c => ?_) (fun c => ?_)
    · have H := H.1 c
      exact H
    · have H := H.2 c
      refine w_il f_25_17 rfl ?_
      refine w_al f_25_19 rfl ?_
      refine w_gi f_25_20 rfl ?_
      refine w_icge f_25_23 (fun c => ?_) (fun c => ?_)
      · have H := H.1 c
        exact H
      · have H := H.2 c
        refine w_al f_25_26 rfl ?_
        obtain ⟨r1, hb, H⟩ := H
        refine w_gr f_25_27 rfl hb ?_
        refine w_il f_25_30 rfl ?_
        refine w_ic f_25_32 ?_
        refine w_bin f_25_34 ?_
        refine w_ic f_25_35 ?_
        refine w_bin f_25_37 ?_
        obtain ⟨N2, hs, hb, H⟩ := H
        refine w_ald f_25_38 hs hb ?_
        refine w_is (ls' := [.ref 42, .int i1, .int i2, .int i3, .int (I r1 (((i4 * 7) + 6)).toNatClampNeg), .int i5]) f_25_39 rfl ?_
        refine w_iinc (ls' := [.ref 42, .int i1, .int i2, .int i3, .int (I r1 (((i4 * 7) + 6)).toNatClampNeg), .int (i5 + 1)]) f_25_41 rfl rfl ?_
        refine w_go f_25_44 ?_
        exact H
theorem g_25_47 {d : Nat} {G : am_G} {I : Nat → Nat → Int32} {J : Nat → Nat → Int64} {Q : am_O → am_H → Prop} (hR : q_RT G) (i1 : Int32) (i2 : Int32) (i3 : Int32) (i4 : Int32) (i5 : Int32) (H : ((i4 < 0 → q_W β xs L d 25 86 [.ref 42, .int i1, .int i2, .int i3, .int i4, .int i5] [] (G, I, J) Q) ∧ (¬ i4 < 0 → ((¬ i4 < (I 42 4) → q_W β xs L d 25 86 [.ref 42, .int i1, .int i2, .int i3, .int i4, .int i5] [] (G, I, J) Q) ∧ (i4 < (I 42 4) → ((i3 < 0 → q_W β xs L d 25 86 [.ref 42, .int i1, .int i2, .int i3, .int i4, .int i5] [] (G, I, J) Q) ∧ (¬ i3 < 0 → ((¬ i3 < 6 → q_W β xs L d 25 86 [.ref 42, .int i1, .int i2, .int i3, .int i4, .int i5] [] (G, I, J) Q) ∧ (i3 < 6 → (∃ r1 : Nat, G.2.1 42 3 = some r1 ∧ (∃ N2 : Nat, q_SH r1 = .inl (.int, N2) ∧ am_is ((i4 * 7) + i3) N2 = true ∧ q_W β xs L d 25 87 [.ref 42, .int i1, .int i2, .int i3, .int i4, .int i5] [.int (I r1 (((i4 * 7) + i3)).toNatClampNeg)] (G, I, J) Q))))))))))) : q_W β xs L d 25 47 [.ref 42, .int i1, .int i2, .int i3, .int i4, .int i5] [] (G, I, J) Q := by
  refine w_il f_25_47 rfl ?_
  refine w_iflt f_25_49 (fun c => ?_) (fun c => ?_)
  · have H := H.1 c
    exact H
  · have H := H.2 c
    refine w_il f_25_52 rfl ?_
    refine w_al f_25_54 rfl ?_
    refine w_gi f_25_55 rfl ?_
    refine w_icge f_25_58 (fun c => ?_) (fun c => ?_)
    · have H := H.1 c
      exact H
    · have H := H.2 c
      refine w_il f_25_61 rfl ?_
      refine w_iflt f_25_62 (fun c => ?_) (fun c => ?_)
      · have H := H.1 c
        exact H
      · have H := H.2 c
        refine w_il f_25_65 rfl ?_
        refine w_ic f_25_66 ?_
        refine w_icge f_25_68 (fun c => ?_) (fun c => ?_)
        · have H := H.1 c
          exact H
        · have H := H.2 c
          refine w_al f_25_71 rfl ?_
          obtain ⟨r1, hb, H⟩ := H
          refine w_gr f_25_72 rfl hb ?_
          refine w_il f_25_75 rfl ?_
          refine w_ic f_25_77 ?_
          refine w_bin f_25_79 ?_
          refine w_il f_25_80 rfl ?_
          refine w_bin f_25_81 ?_
          obtain ⟨N2, hs, hb, H⟩ := H
          refine w_ald f_25_82 hs hb ?_
          refine w_go f_25_83 ?_
          exact H
theorem g_25_86 {d : Nat} {G : am_G} {I : Nat → Nat → Int32} {J : Nat → Nat → Int64} {Q : am_O → am_H → Prop} (hR : q_RT G) (i1 : Int32) (i2 : Int32) (i3 : Int32) (i4 : Int32) (i5 : Int32) (H : q_W β xs L d 25 87 [.ref 42, .int i1, .int i2, .int i3, .int i4, .int i5] [.int (-1)] (G, I, J) Q) : q_W β xs L d 25 86 [.ref 42, .int i1, .int i2, .int i3, .int i4, .int i5] [] (G, I, J) Q := by
  refine w_ic f_25_86 ?_
  exact H
theorem g_25_87 {d : Nat} {G : am_G} {I : Nat → Nat → Int32} {J : Nat → Nat → Int64} {Q : am_O → am_H → Prop} (hR : q_RT G) (i1 : Int32) (i2 : Int32) (i3 : Int32) (i4 : Int32) (i5 : Int32) (is0 : Int32) (H : Q (.inl (some (.int is0))) (G, I, J)) : q_W β xs L d 25 87 [.ref 42, .int i1, .int i2, .int i3, .int i4, .int i5] [.int is0] (G, I, J) Q := by
  exact w_reti f_25_87 H
theorem g_27_0 {d : Nat} {G : am_G} {I : Nat → Nat → Int32} {J : Nat → Nat → Int64} {Q : am_O → am_H → Prop} (hR : q_RT G) (i2 : Int32) (i3 : Int32) (H : (((I 16 15) < 12 → (am_is (I 16 15) 12 = true ∧ (am_is (I 16 15) 12 = true ∧ (am_is (I 16 15) 12 = true ∧ (am_is (I 16 15) 12 = true ∧ q_W β xs L d 43 0 [.ref 32, .retAddr 0] [] ((G.1, am_u G.2.1 32 1 (some 57), G.2.2), (am_u (am_u (am_u (am_u (am_u (am_u (am_u (am_u I 32 2 (if (Int32.ofNat 500) < i2 then (Int32.ofNat 500) else i2)) 32 3 0) 32 10 0) 32 9 ((I 16 15) * 500)) 17 ((I 16 15)).toNatClampNeg i3) 22 ((I 16 15)).toNatClampNeg 0) 23 ((I 16 15)).toNatClampNeg 0) 24 ((I 16 15)).toNatClampNeg 0), J) (q_Rv (fun G2 I2 J2 => q_W β xs L (d + 1) 27 104 [.ref 32, .ref 57, .int i2, .int i3, .int (I 16 15), .int 0] [] (G2, I2, J2) Q) (fun x2 G2 I2 J2 => Q (.inr x2) (G2, I2, J2)))))))) ∧ (¬ (I 16 15) < 12 → Q (.inl (some (.int 0))) ((G.1, am_u G.2.1 32 1 (some 57), G.2.2), (am_u (am_u (am_u I 32 2 (if (Int32.ofNat 500) < i2 then (Int32.ofNat 500) else i2)) 32 3 0) 32 10 0), J)))) : q_W β xs L (d + 1) 27 0 [.ref 32, .ref 57, .int i2, .int i3, .retAddr 0, .retAddr 0] [] (G, I, J) Q := by
  refine w_al f_27_0 rfl ?_
  refine w_al f_27_1 rfl ?_
  refine w_pr f_27_2 rfl ?_
  have hR1 : q_RT (G.1, am_u G.2.1 32 1 (some 57), G.2.2) := q_RT_u hR rfl
  refine w_al f_27_5 rfl ?_
  refine w_il f_27_6 rfl ?_
  refine w_al f_27_7 rfl ?_
  refine w_alen f_27_8 rfl ?_
  refine w_mm f_27_9 rfl ?_
  refine w_pi f_27_12 rfl ?_
  refine w_al f_27_15 rfl ?_
  refine w_ic f_27_16 ?_
  refine w_pi f_27_17 rfl ?_
  refine w_al f_27_20 rfl ?_
  refine w_ic f_27_21 ?_
  refine w_pi f_27_22 rfl ?_
  refine w_al f_27_25 rfl ?_
  refine w_gr f_27_26 rfl (hR1 _ _ _ rfl) ?_
  refine w_gi' f_27_29 rfl ((am_u_ne (Or.inl (by decide))).trans ((am_u_ne (Or.inl (by decide))).trans (am_u_ne (Or.inl (by decide))))) ?_
  refine w_is (ls' := [.ref 32, .ref 57, .int i2, .int i3, .int (I 16 15), .retAddr 0]) f_27_32 rfl ?_
  refine w_il f_27_34 rfl ?_
  refine w_ic f_27_36 ?_
  refine w_iclt f_27_38 (fun c => ?_) (fun c => ?_)
  · have H := H.1 c
    refine w_al f_27_43 rfl ?_
    refine w_il f_27_44 rfl ?_
    refine w_ic f_27_46 ?_
    refine w_bin f_27_49 ?_
    refine w_pi f_27_50 rfl ?_
    refine w_al f_27_53 rfl ?_
    refine w_gr f_27_54 rfl (hR1 _ _ _ rfl) ?_
    refine w_gr f_27_57 rfl (hR1 _ _ _ rfl) ?_
    refine w_il f_27_60 rfl ?_
    refine w_il f_27_62 rfl ?_
    have hb := H.1
    have H := H.2
    refine w_ast f_27_63 rfl hb ?_
    refine w_al f_27_64 rfl ?_
    refine w_gr f_27_65 rfl (hR1 _ _ _ rfl) ?_
    refine w_gr f_27_68 rfl (hR1 _ _ _ rfl) ?_
    refine w_il f_27_71 rfl ?_
    refine w_ic f_27_73 ?_
    have hb := H.1
    have H := H.2
    refine w_ast f_27_74 rfl hb ?_
    refine w_al f_27_75 rfl ?_
    refine w_gr f_27_76 rfl (hR1 _ _ _ rfl) ?_
    refine w_gr f_27_79 rfl (hR1 _ _ _ rfl) ?_
    refine w_il f_27_82 rfl ?_
    refine w_ic f_27_84 ?_
    have hb := H.1
    have H := H.2
    refine w_ast f_27_85 rfl hb ?_
    refine w_al f_27_86 rfl ?_
    refine w_gr f_27_87 rfl (hR1 _ _ _ rfl) ?_
    refine w_gr f_27_90 rfl (hR1 _ _ _ rfl) ?_
    refine w_il f_27_93 rfl ?_
    refine w_ic f_27_95 ?_
    have hb := H.1
    have H := H.2
    refine w_ast f_27_96 rfl hb ?_
    refine w_al f_27_97 rfl ?_
    refine w_inv (as := [.ref 32, .retAddr 0]) (st' := []) f_27_98 rfl rfl rfl rfl rfl rfl H (k_v (fun G2 I2 J2 H => ?_)) (x_n (fun _ => rfl) rfl (fun x h' h => h))
    refine w_ic f_27_101 ?_
    refine w_is (ls' := [.ref 32, .ref 57, .int i2, .int i3, .int (I 16 15), .int 0]) f_27_102 rfl ?_
    exact H
  · have H := H.2 c
    refine w_ic f_27_41 ?_
    exact w_reti f_27_42 H
theorem g_27_104 {d : Nat} {G : am_G} {I : Nat → Nat → Int32} {J : Nat → Nat → Int64} {Q : am_O → am_H → Prop} (hR : q_RT G) (i2 : Int32) (i3 : Int32) (i4 : Int32) (i5 : Int32) (H : ((12 < i5 → q_W β xs L (d + 1) 27 139 [.ref 32, .ref 57, .int i2, .int i3, .int i4, .int i5] [] (G, I, J) Q) ∧ (¬ 12 < i5 → (((I 32 4) = 0 → q_W β xs L (d + 1) 27 139 [.ref 32, .ref 57, .int i2, .int i3, .int i4, .int i5] [] (G, I, J) Q) ∧ (¬ (I 32 4) = 0 → ((¬ (I 32 10) = 0 → q_W β xs L (d + 1) 27 139 [.ref 32, .ref 57, .int i2, .int i3, .int i4, .int i5] [] (G, I, J) Q) ∧ ((I 32 10) = 0 → q_W β xs L d 28 0 [.ref 32, .int i4, .int i5, .retAddr 0] [] (G, I, J) (q_Rv (fun G1 I1 J1 => q_W β xs L (d + 1) 27 104 [.ref 32, .ref 57, .int i2, .int i3, .int i4, .int (i5 + 1)] [] (G1, I1, J1) Q) (fun x1 G1 I1 J1 => Q (.inr x1) (G1, I1, J1)))))))))) : q_W β xs L (d + 1) 27 104 [.ref 32, .ref 57, .int i2, .int i3, .int i4, .int i5] [] (G, I, J) Q := by
  refine w_il f_27_104 rfl ?_
  refine w_ic f_27_106 ?_
  refine w_icgt f_27_108 (fun c => ?_) (fun c => ?_)
  · have H := H.1 c
    exact H
  · have H := H.2 c
    refine w_al f_27_111 rfl ?_
    refine w_gi f_27_112 rfl ?_
    refine w_ifeq f_27_115 (fun c => ?_) (fun c => ?_)
    · have H := H.1 c
      exact H
    · have H := H.2 c
      refine w_al f_27_118 rfl ?_
      refine w_gi f_27_119 rfl ?_
      refine w_ifne f_27_122 (fun c => ?_) (fun c => ?_)
      · have H := H.1 c
        exact H
      · have H := H.2 c
        refine w_al f_27_125 rfl ?_
        refine w_il f_27_126 rfl ?_
        refine w_il f_27_128 rfl ?_
        refine w_inv (as := [.ref 32, .int i4, .int i5, .retAddr 0]) (st' := []) f_27_130 rfl rfl rfl rfl rfl rfl H (k_v (fun G1 I1 J1 H => ?_)) (x_n (fun _ => rfl) rfl (fun x h' h => h))
        refine w_iinc (ls' := [.ref 32, .ref 57, .int i2, .int i3, .int i4, .int (i5 + 1)]) f_27_133 rfl rfl ?_
        refine w_go f_27_136 ?_
        exact H
theorem g_27_139 {d : Nat} {G : am_G} {I : Nat → Nat → Int32} {J : Nat → Nat → Int64} {Q : am_O → am_H → Prop} (hR : q_RT G) (i2 : Int32) (i3 : Int32) (i4 : Int32) (i5 : Int32) (H : Q (.inl (some (.int (I 32 10)))) (G, I, J)) : q_W β xs L (d + 1) 27 139 [.ref 32, .ref 57, .int i2, .int i3, .int i4, .int i5] [] (G, I, J) Q := by
  refine w_al f_27_139 rfl ?_
  refine w_gi f_27_140 rfl ?_
  exact w_reti f_27_143 H
theorem g_28_0 {d : Nat} {G : am_G} {I : Nat → Nat → Int32} {J : Nat → Nat → Int64} {Q : am_O → am_H → Prop} (hR : q_RT G) (i1 : Int32) (i2 : Int32) (H : ((¬ (I 32 4) = 3 → q_W β xs L (d + 1) 28 16 [.ref 32, .int i1, .int i2, .retAddr 0] [] (G, I, J) Q) ∧ ((I 32 4) = 3 → ((¬ 2 < (I 32 8) → ((i2 < 12 → (am_is ((i1 * 12) + i2) 144 = true ∧ (am_is i1 12 = true ∧ q_W β xs L d 43 0 [.ref 32, .retAddr 0] [] (G, (am_u (am_u I 25 (((i1 * 12) + i2)).toNatClampNeg (I 32 8)) 24 (i1).toNatClampNeg (i2 + 1)), J) (q_Rv (fun G1 I1 J1 => (q_RT G1 ∧ (am_is ((i1 * 12) + i2) 144 = true ∧ ((¬ (I1 25 (((i1 * 12) + i2)).toNatClampNeg) = 2 → q_W β xs L d 30 0 [.ref 32, .int i1, .int ((i1 * 12) + i2)] [] (G1, I1, J1) (q_Rv (fun G2 I2 J2 => q_W β xs L (d + 1) 28 97 [.ref 32, .int i1, .int i2, .int ((i1 * 12) + i2)] [] (G2, I2, J2) Q) (fun x2 G2 I2 J2 => Q (.inr x2) (G2, I2, J2)))) ∧ ((I1 25 (((i1 * 12) + i2)).toNatClampNeg) = 2 → q_W β xs L d 29 0 [.ref 32, .int i1] [] (G1, I1, J1) (q_Rv (fun G3 I3 J3 => q_W β xs L (d + 1) 28 97 [.ref 32, .int i1, .int i2, .int ((i1 * 12) + i2)] [] (G3, I3, J3) Q) (fun x3 G3 I3 J3 => Q (.inr x3) (G3, I3, J3)))))))) (fun x1 G1 I1 J1 => Q (.inr x1) (G1, I1, J1)))))) ∧ (¬ i2 < 12 → q_W β xs L d 41 0 [.ref 32, .int 2] [] (G, I, J) (q_Rv (fun G4 I4 J4 => Q (.inl none) (G4, I4, J4)) (fun x4 G4 I4 J4 => Q (.inr x4) (G4, I4, J4)))))) ∧ (2 < (I 32 8) → q_W β xs L (d + 1) 28 16 [.ref 32, .int i1, .int i2, .retAddr 0] [] (G, I, J) Q))))) : q_W β xs L (d + 1) 28 0 [.ref 32, .int i1, .int i2, .retAddr 0] [] (G, I, J) Q := by
  refine w_al f_28_0 rfl ?_
  refine w_gi f_28_1 rfl ?_
  refine w_ic f_28_4 ?_
  refine w_icne f_28_5 (fun c => ?_) (fun c => ?_)
  · have H := H.1 c
    exact H
  · have H := H.2 c
    refine w_al f_28_8 rfl ?_
    refine w_gi f_28_9 rfl ?_
    refine w_ic f_28_12 ?_
    refine w_icle f_28_13 (fun c => ?_) (fun c => ?_)
    · have H := H.1 c
      refine w_il f_28_22 rfl ?_
      refine w_ic f_28_23 ?_
      refine w_iclt f_28_25 (fun c => ?_) (fun c => ?_)
      · have H := H.1 c
        refine w_il f_28_34 rfl ?_
        refine w_ic f_28_35 ?_
        refine w_bin f_28_37 ?_
        refine w_il f_28_38 rfl ?_
        refine w_bin f_28_39 ?_
        refine w_is (ls' := [.ref 32, .int i1, .int i2, .int ((i1 * 12) + i2)]) f_28_40 rfl ?_
        refine w_al f_28_41 rfl ?_
        refine w_gr f_28_42 rfl (hR _ _ _ rfl) ?_
        refine w_gr f_28_45 rfl (hR _ _ _ rfl) ?_
        refine w_il f_28_48 rfl ?_
        refine w_al f_28_49 rfl ?_
        refine w_gi f_28_50 rfl ?_
        have hb := H.1
        have H := H.2
        refine w_ast f_28_53 rfl hb ?_
        refine w_al f_28_54 rfl ?_
        refine w_gr f_28_55 rfl (hR _ _ _ rfl) ?_
        refine w_gr f_28_58 rfl (hR _ _ _ rfl) ?_
        refine w_il f_28_61 rfl ?_
        refine w_il f_28_62 rfl ?_
        refine w_ic f_28_63 ?_
        refine w_bin f_28_64 ?_
        have hb := H.1
        have H := H.2
        refine w_ast f_28_65 rfl hb ?_
        refine w_al f_28_66 rfl ?_
        refine w_inv (as := [.ref 32, .retAddr 0]) (st' := []) f_28_67 rfl rfl rfl rfl rfl rfl H (k_v (fun G1 I1 J1 H => ?_)) (x_n (fun _ => rfl) rfl (fun x h' h => h))
        have hR1 := H.1
        have H := H.2
        refine w_al f_28_70 rfl ?_
        refine w_gr f_28_71 rfl (hR1 _ _ _ rfl) ?_
        refine w_gr f_28_74 rfl (hR1 _ _ _ rfl) ?_
        refine w_il f_28_77 rfl ?_
        have hb := H.1
        have H := H.2
        refine w_ald f_28_78 rfl hb ?_
        refine w_ic f_28_79 ?_
        refine w_icne f_28_80 (fun c => ?_) (fun c => ?_)
        · have H := H.1 c
          refine w_al f_28_91 rfl ?_
          refine w_il f_28_92 rfl ?_
          refine w_il f_28_93 rfl ?_
          refine w_inv (as := [.ref 32, .int i1, .int ((i1 * 12) + i2)]) (st' := []) f_28_94 rfl rfl rfl rfl rfl rfl H (k_v (fun G2 I2 J2 H => ?_)) (x_n (fun _ => rfl) rfl (fun x h' h => h))
          exact H
        · have H := H.2 c
          refine w_al f_28_83 rfl ?_
          refine w_il f_28_84 rfl ?_
          refine w_inv (as := [.ref 32, .int i1]) (st' := []) f_28_85 rfl rfl rfl rfl rfl rfl H (k_v (fun G3 I3 J3 H => ?_)) (x_n (fun _ => rfl) rfl (fun x h' h => h))
          refine w_go f_28_88 ?_
          exact H
      · have H := H.2 c
        refine w_al f_28_28 rfl ?_
        refine w_ic f_28_29 ?_
        refine w_inv (as := [.ref 32, .int 2]) (st' := []) f_28_30 rfl rfl rfl rfl rfl rfl H (k_v (fun G4 I4 J4 H => ?_)) (x_n (fun _ => rfl) rfl (fun x h' h => h))
        exact w_ret0 f_28_33 H
    · have H := H.2 c
      exact H
theorem g_28_16 {d : Nat} {G : am_G} {I : Nat → Nat → Int32} {J : Nat → Nat → Int64} {Q : am_O → am_H → Prop} (hR : q_RT G) (i1 : Int32) (i2 : Int32) (H : q_W β xs L d 41 0 [.ref 32, .int 1] [] (G, I, J) (q_Rv (fun G1 I1 J1 => Q (.inl none) (G1, I1, J1)) (fun x1 G1 I1 J1 => Q (.inr x1) (G1, I1, J1)))) : q_W β xs L (d + 1) 28 16 [.ref 32, .int i1, .int i2, .retAddr 0] [] (G, I, J) Q := by
  refine w_al f_28_16 rfl ?_
  refine w_ic f_28_17 ?_
  refine w_inv (as := [.ref 32, .int 1]) (st' := []) f_28_18 rfl rfl rfl rfl rfl rfl H (k_v (fun G1 I1 J1 H => ?_)) (x_n (fun _ => rfl) rfl (fun x h' h => h))
  exact w_ret0 f_28_21 H
theorem g_28_97 {d : Nat} {G : am_G} {I : Nat → Nat → Int32} {J : Nat → Nat → Int64} {Q : am_O → am_H → Prop} (hR : q_RT G) (i1 : Int32) (i2 : Int32) (i3 : Int32) (H : q_W β xs L d 40 0 [.ref 32, .int 59] [] (G, I, J) (q_Rv (fun G1 I1 J1 => Q (.inl none) (G1, I1, J1)) (fun x1 G1 I1 J1 => Q (.inr x1) (G1, I1, J1)))) : q_W β xs L (d + 1) 28 97 [.ref 32, .int i1, .int i2, .int i3] [] (G, I, J) Q := by
  refine w_al f_28_97 rfl ?_
  refine w_ic f_28_98 ?_
  refine w_inv (as := [.ref 32, .int 59]) (st' := []) f_28_100 rfl rfl rfl rfl rfl rfl H (k_v (fun G1 I1 J1 H => ?_)) (x_n (fun _ => rfl) rfl (fun x h' h => h))
  exact w_ret0 f_28_103 H
theorem g_29_0 {d : Nat} {G : am_G} {I : Nat → Nat → Int32} {J : Nat → Nat → Int64} {Q : am_O → am_H → Prop} (hR : q_RT G) (i1 : Int32) (H : q_W β xs L d 39 0 [.ref 32] [] (G, I, J) (q_Ri (fun y1 G1 I1 J1 => (q_RT G1 ∧ ((¬ y1 = 0 → ((¬ (I1 32 7) < i1 → q_W β xs L (d + 1) 29 40 [.ref 32, .int i1] [] (G1, I1, J1) Q) ∧ ((I1 32 7) < i1 → (am_is (I1 32 7) 12 = true ∧ (am_is i1 12 = true ∧ (((I1 17 ((I1 32 7)).toNatClampNeg) = (I1 17 (i1).toNatClampNeg) → (am_is i1 12 = true ∧ (am_is i1 12 = true ∧ q_W β xs L d 43 0 [.ref 32, .retAddr 0] [] (G1, (am_u I1 22 (i1).toNatClampNeg ((I1 22 (i1).toNatClampNeg) ||| (1 <<< ((I1 32 7) &&& 31)))), J1) (q_Rv (fun G2 I2 J2 => Q (.inl none) (G2, I2, J2)) (fun x2 G2 I2 J2 => Q (.inr x2) (G2, I2, J2)))))) ∧ (¬ (I1 17 ((I1 32 7)).toNatClampNeg) = (I1 17 (i1).toNatClampNeg) → q_W β xs L (d + 1) 29 40 [.ref 32, .int i1] [] (G1, I1, J1) Q))))))) ∧ (y1 = 0 → Q (.inl none) (G1, I1, J1))))) (fun x1 G1 I1 J1 => Q (.inr x1) (G1, I1, J1)))) : q_W β xs L (d + 1) 29 0 [.ref 32, .int i1] [] (G, I, J) Q := by
  refine w_al f_29_0 rfl ?_
  refine w_inv (as := [.ref 32]) (st' := []) f_29_1 rfl rfl rfl rfl rfl rfl H (k_i (fun y1 G1 I1 J1 H => ?_)) (x_n (fun _ => rfl) rfl (fun x h' h => h))
  have hR1 := H.1
  have H := H.2
  refine w_ifne f_29_4 (fun c => ?_) (fun c => ?_)
  · have H := H.1 c
    refine w_al f_29_8 rfl ?_
    refine w_gi f_29_9 rfl ?_
    refine w_il f_29_12 rfl ?_
    refine w_icge f_29_13 (fun c => ?_) (fun c => ?_)
    · have H := H.1 c
      exact H
    · have H := H.2 c
      refine w_al f_29_16 rfl ?_
      refine w_gr f_29_17 rfl (hR1 _ _ _ rfl) ?_
      refine w_gr f_29_20 rfl (hR1 _ _ _ rfl) ?_
      refine w_al f_29_23 rfl ?_
      refine w_gi f_29_24 rfl ?_
      have hb := H.1
      have H := H.2
      refine w_ald f_29_27 rfl hb ?_
      refine w_al f_29_28 rfl ?_
      refine w_gr f_29_29 rfl (hR1 _ _ _ rfl) ?_
      refine w_gr f_29_32 rfl (hR1 _ _ _ rfl) ?_
      refine w_il f_29_35 rfl ?_
      have hb := H.1
      have H := H.2
      refine w_ald f_29_36 rfl hb ?_
      refine w_iceq f_29_37 (fun c => ?_) (fun c => ?_)
      · have H := H.1 c
        refine w_al f_29_46 rfl ?_
        refine w_gr f_29_47 rfl (hR1 _ _ _ rfl) ?_
        refine w_gr f_29_50 rfl (hR1 _ _ _ rfl) ?_
        refine w_il f_29_53 rfl ?_
        refine w_dup2 f_29_54 ?_
        have hb := H.1
        have H := H.2
        refine w_ald f_29_55 rfl hb ?_
        refine w_ic f_29_56 ?_
        refine w_al f_29_57 rfl ?_
        refine w_gi f_29_58 rfl ?_
        refine w_bin f_29_61 ?_
        refine w_bin f_29_62 ?_
        have hb := H.1
        have H := H.2
        refine w_ast f_29_63 rfl hb ?_
        refine w_al f_29_64 rfl ?_
        refine w_inv (as := [.ref 32, .retAddr 0]) (st' := []) f_29_65 rfl rfl rfl rfl rfl rfl H (k_v (fun G2 I2 J2 H => ?_)) (x_n (fun _ => rfl) rfl (fun x h' h => h))
        exact w_ret0 f_29_68 H
      · have H := H.2 c
        exact H
  · have H := H.2 c
    exact w_ret0 f_29_7 H
theorem g_29_40 {d : Nat} {G : am_G} {I : Nat → Nat → Int32} {J : Nat → Nat → Int64} {Q : am_O → am_H → Prop} (hR : q_RT G) (i1 : Int32) (H : q_W β xs L d 41 0 [.ref 32, .int 4] [] (G, I, J) (q_Rv (fun G1 I1 J1 => Q (.inl none) (G1, I1, J1)) (fun x1 G1 I1 J1 => Q (.inr x1) (G1, I1, J1)))) : q_W β xs L (d + 1) 29 40 [.ref 32, .int i1] [] (G, I, J) Q := by
  refine w_al f_29_40 rfl ?_
  refine w_ic f_29_41 ?_
  refine w_inv (as := [.ref 32, .int 4]) (st' := []) f_29_42 rfl rfl rfl rfl rfl rfl H (k_v (fun G1 I1 J1 H => ?_)) (x_n (fun _ => rfl) rfl (fun x h' h => h))
  exact w_ret0 f_29_45 H
theorem g_30_0 {d : Nat} {G : am_G} {I : Nat → Nat → Int32} {J : Nat → Nat → Int64} {Q : am_O → am_H → Prop} (hR : q_RT G) (i1 : Int32) (i2 : Int32) (H : ((¬ (I 32 4) = 3 → q_W β xs L (d + 1) 30 26 [.ref 32, .int i1, .int i2] [] (G, I, J) Q) ∧ ((I 32 4) = 3 → (((I 32 8) < 8 → q_W β xs L (d + 1) 30 26 [.ref 32, .int i1, .int i2] [] (G, I, J) Q) ∧ (¬ (I 32 8) < 8 → (((I 32 8) < 15 → (am_is i2 144 = true ∧ (am_is i1 12 = true ∧ (am_is i1 12 = true ∧ q_W β xs L d 43 0 [.ref 32, .retAddr 0] [] (G, (am_u (am_u I 26 (i2).toNatClampNeg ((I 32 8) - 8)) 23 (i1).toNatClampNeg ((I 23 (i1).toNatClampNeg) ||| (1 <<< (((I 32 8) - 8) &&& 31)))), J) (q_Rv (fun G1 I1 J1 => (q_RT G1 ∧ (am_is i2 144 = true ∧ q_W β xs L d 31 0 [.ref 32, .int 0, .retAddr 0] [] (G1, (am_u I1 27 (i2).toNatClampNeg (I1 32 9)), J1) (q_Rv (fun G2 I2 J2 => (q_RT G2 ∧ (am_is i2 144 = true ∧ q_W β xs L d 37 0 [.ref 32, .int 3] [] (G2, (am_u I2 28 (i2).toNatClampNeg (I2 32 9)), J2) (q_Ri (fun y3 G3 I3 J3 => ((y3 = 0 → q_W β xs L (d + 1) 30 121 [.ref 32, .int i1, .int i2] [] (G3, I3, J3) Q) ∧ (¬ y3 = 0 → q_W β xs L d 43 0 [.ref 32, .retAddr 0] [] (G3, I3, J3) (q_Rv (fun G4 I4 J4 => q_W β xs L d 31 0 [.ref 32, .int 0, .retAddr 0] [] (G4, I4, J4) (q_Rv (fun G5 I5 J5 => q_W β xs L (d + 1) 30 121 [.ref 32, .int i1, .int i2] [] (G5, I5, J5) Q) (fun x5 G5 I5 J5 => Q (.inr x5) (G5, I5, J5)))) (fun x4 G4 I4 J4 => Q (.inr x4) (G4, I4, J4)))))) (fun x3 G3 I3 J3 => Q (.inr x3) (G3, I3, J3)))))) (fun x2 G2 I2 J2 => Q (.inr x2) (G2, I2, J2)))))) (fun x1 G1 I1 J1 => Q (.inr x1) (G1, I1, J1))))))) ∧ (¬ (I 32 8) < 15 → q_W β xs L (d + 1) 30 26 [.ref 32, .int i1, .int i2] [] (G, I, J) Q))))))) : q_W β xs L (d + 1) 30 0 [.ref 32, .int i1, .int i2] [] (G, I, J) Q := by
  refine w_al f_30_0 rfl ?_
  refine w_gi f_30_1 rfl ?_
  refine w_ic f_30_4 ?_
  refine w_icne f_30_5 (fun c => ?_) (fun c => ?_)
  · have H := H.1 c
    exact H
  · have H := H.2 c
    refine w_al f_30_8 rfl ?_
    refine w_gi f_30_9 rfl ?_
    refine w_ic f_30_12 ?_
    refine w_iclt f_30_14 (fun c => ?_) (fun c => ?_)
    · have H := H.1 c
      exact H
    · have H := H.2 c
      refine w_al f_30_17 rfl ?_
      refine w_gi f_30_18 rfl ?_
      refine w_ic f_30_21 ?_
      refine w_iclt f_30_23 (fun c => ?_) (fun c => ?_)
      · have H := H.1 c
        refine w_al f_30_32 rfl ?_
        refine w_gr f_30_33 rfl (hR _ _ _ rfl) ?_
        refine w_gr f_30_36 rfl (hR _ _ _ rfl) ?_
        refine w_il f_30_39 rfl ?_
        refine w_al f_30_40 rfl ?_
        refine w_gi f_30_41 rfl ?_
        refine w_ic f_30_44 ?_
        refine w_bin f_30_46 ?_
        have hb := H.1
        have H := H.2
        refine w_ast f_30_47 rfl hb ?_
        refine w_al f_30_48 rfl ?_
        refine w_gr f_30_49 rfl (hR _ _ _ rfl) ?_
        refine w_gr f_30_52 rfl (hR _ _ _ rfl) ?_
        refine w_il f_30_55 rfl ?_
        refine w_dup2 f_30_56 ?_
        have hb := H.1
        have H := H.2
        refine w_ald' f_30_57 rfl hb (am_u_ne (Or.inl (by decide))) ?_
        refine w_ic f_30_58 ?_
        refine w_al f_30_59 rfl ?_
        refine w_gi' f_30_60 rfl (am_u_ne (Or.inl (by decide))) ?_
        refine w_ic f_30_63 ?_
        refine w_bin f_30_65 ?_
        refine w_bin f_30_66 ?_
        refine w_bin f_30_67 ?_
        have hb := H.1
        have H := H.2
        refine w_ast f_30_68 rfl hb ?_
        refine w_al f_30_69 rfl ?_
        refine w_inv (as := [.ref 32, .retAddr 0]) (st' := []) f_30_70 rfl rfl rfl rfl rfl rfl H (k_v (fun G1 I1 J1 H => ?_)) (x_n (fun _ => rfl) rfl (fun x h' h => h))
        have hR1 := H.1
        have H := H.2
        refine w_al f_30_73 rfl ?_
        refine w_gr f_30_74 rfl (hR1 _ _ _ rfl) ?_
        refine w_gr f_30_77 rfl (hR1 _ _ _ rfl) ?_
        refine w_il f_30_80 rfl ?_
        refine w_al f_30_81 rfl ?_
        refine w_gi f_30_82 rfl ?_
        have hb := H.1
        have H := H.2
        refine w_ast f_30_85 rfl hb ?_
        refine w_al f_30_86 rfl ?_
        refine w_ic f_30_87 ?_
        refine w_inv (as := [.ref 32, .int 0, .retAddr 0]) (st' := []) f_30_88 rfl rfl rfl rfl rfl rfl H (k_v (fun G2 I2 J2 H => ?_)) (x_n (fun _ => rfl) rfl (fun x h' h => h))
        have hR2 := H.1
        have H := H.2
        refine w_al f_30_91 rfl ?_
        refine w_gr f_30_92 rfl (hR2 _ _ _ rfl) ?_
        refine w_gr f_30_95 rfl (hR2 _ _ _ rfl) ?_
        refine w_il f_30_98 rfl ?_
        refine w_al f_30_99 rfl ?_
        refine w_gi f_30_100 rfl ?_
        have hb := H.1
        have H := H.2
        refine w_ast f_30_103 rfl hb ?_
        refine w_al f_30_104 rfl ?_
        refine w_ic f_30_105 ?_
        refine w_inv (as := [.ref 32, .int 3]) (st' := []) f_30_106 rfl rfl rfl rfl rfl rfl H (k_i (fun y3 G3 I3 J3 H => ?_)) (x_n (fun _ => rfl) rfl (fun x h' h => h))
        refine w_ifeq f_30_109 (fun c => ?_) (fun c => ?_)
        · have H := H.1 c
          exact H
        · have H := H.2 c
          refine w_al f_30_112 rfl ?_
          refine w_inv (as := [.ref 32, .retAddr 0]) (st' := []) f_30_113 rfl rfl rfl rfl rfl rfl H (k_v (fun G4 I4 J4 H => ?_)) (x_n (fun _ => rfl) rfl (fun x h' h => h))
          refine w_al f_30_116 rfl ?_
          refine w_ic f_30_117 ?_
          refine w_inv (as := [.ref 32, .int 0, .retAddr 0]) (st' := []) f_30_118 rfl rfl rfl rfl rfl rfl H (k_v (fun G5 I5 J5 H => ?_)) (x_n (fun _ => rfl) rfl (fun x h' h => h))
          exact H
      · have H := H.2 c
        exact H
theorem g_30_26 {d : Nat} {G : am_G} {I : Nat → Nat → Int32} {J : Nat → Nat → Int64} {Q : am_O → am_H → Prop} (hR : q_RT G) (i1 : Int32) (i2 : Int32) (H : q_W β xs L d 41 0 [.ref 32, .int 1] [] (G, I, J) (q_Rv (fun G1 I1 J1 => Q (.inl none) (G1, I1, J1)) (fun x1 G1 I1 J1 => Q (.inr x1) (G1, I1, J1)))) : q_W β xs L (d + 1) 30 26 [.ref 32, .int i1, .int i2] [] (G, I, J) Q := by
  refine w_al f_30_26 rfl ?_
  refine w_ic f_30_27 ?_
  refine w_inv (as := [.ref 32, .int 1]) (st' := []) f_30_28 rfl rfl rfl rfl rfl rfl H (k_v (fun G1 I1 J1 H => ?_)) (x_n (fun _ => rfl) rfl (fun x h' h => h))
  exact w_ret0 f_30_31 H
theorem g_30_121 {d : Nat} {G : am_G} {I : Nat → Nat → Int32} {J : Nat → Nat → Int64} {Q : am_O → am_H → Prop} (hR : q_RT G) (i1 : Int32) (i2 : Int32) (H : (am_is i2 144 = true ∧ (am_is i2 144 = true ∧ q_W β xs L d 37 0 [.ref 32, .int 4] [] (G, (am_u (am_u I 29 (i2).toNatClampNeg (I 32 9)) 30 (i2).toNatClampNeg (-1)), J) (q_Ri (fun y1 G1 I1 J1 => ((y1 = 0 → q_W β xs L (d + 1) 30 180 [.ref 32, .int i1, .int i2] [] (G1, I1, J1) Q) ∧ (¬ y1 = 0 → q_W β xs L d 43 0 [.ref 32, .retAddr 0] [] (G1, I1, J1) (q_Rv (fun G2 I2 J2 => q_W β xs L d 39 0 [.ref 32] [] (G2, I2, J2) (q_Ri (fun y3 G3 I3 J3 => (q_RT G3 ∧ ((y3 = 0 → q_W β xs L (d + 1) 30 180 [.ref 32, .int i1, .int i2] [] (G3, I3, J3) Q) ∧ (¬ y3 = 0 → (am_is i2 144 = true ∧ q_W β xs L d 43 0 [.ref 32, .retAddr 0] [] (G3, (am_u I3 30 (i2).toNatClampNeg (I3 32 7)), J3) (q_Rv (fun G4 I4 J4 => q_W β xs L (d + 1) 30 180 [.ref 32, .int i1, .int i2] [] (G4, I4, J4) Q) (fun x4 G4 I4 J4 => Q (.inr x4) (G4, I4, J4)))))))) (fun x3 G3 I3 J3 => Q (.inr x3) (G3, I3, J3)))) (fun x2 G2 I2 J2 => Q (.inr x2) (G2, I2, J2)))))) (fun x1 G1 I1 J1 => Q (.inr x1) (G1, I1, J1)))))) : q_W β xs L (d + 1) 30 121 [.ref 32, .int i1, .int i2] [] (G, I, J) Q := by
  refine w_al f_30_121 rfl ?_
  refine w_gr f_30_122 rfl (hR _ _ _ rfl) ?_
  refine w_gr f_30_125 rfl (hR _ _ _ rfl) ?_
  refine w_il f_30_128 rfl ?_
  refine w_al f_30_129 rfl ?_
  refine w_gi f_30_130 rfl ?_
  have hb := H.1
  have H := H.2
  refine w_ast f_30_133 rfl hb ?_
  refine w_al f_30_134 rfl ?_
  refine w_gr f_30_135 rfl (hR _ _ _ rfl) ?_
  refine w_gr f_30_138 rfl (hR _ _ _ rfl) ?_
  refine w_il f_30_141 rfl ?_
  refine w_ic f_30_142 ?_
  have hb := H.1
  have H := H.2
  refine w_ast f_30_143 rfl hb ?_
  refine w_al f_30_144 rfl ?_
  refine w_ic f_30_145 ?_
  refine w_inv (as := [.ref 32, .int 4]) (st' := []) f_30_146 rfl rfl rfl rfl rfl rfl H (k_i (fun y1 G1 I1 J1 H => ?_)) (x_n (fun _ => rfl) rfl (fun x h' h => h))
  refine w_ifeq f_30_149 (fun c => ?_) (fun c => ?_)
  · have H := H.1 c
    exact H
  · have H := H.2 c
    refine w_al f_30_152 rfl ?_
    refine w_inv (as := [.ref 32, .retAddr 0]) (st' := []) f_30_153 rfl rfl rfl rfl rfl rfl H (k_v (fun G2 I2 J2 H => ?_)) (x_n (fun _ => rfl) rfl (fun x h' h => h))
    refine w_al f_30_156 rfl ?_
    refine w_inv (as := [.ref 32]) (st' := []) f_30_157 rfl rfl rfl rfl rfl rfl H (k_i (fun y3 G3 I3 J3 H => ?_)) (x_n (fun _ => rfl) rfl (fun x h' h => h))
    have hR3 := H.1
    have H := H.2
    refine w_ifeq f_30_160 (fun c => ?_) (fun c => ?_)
    · have H := H.1 c
      exact H
    · have H := H.2 c
      refine w_al f_30_163 rfl ?_
      refine w_gr f_30_164 rfl (hR3 _ _ _ rfl) ?_
      refine w_gr f_30_167 rfl (hR3 _ _ _ rfl) ?_
      refine w_il f_30_170 rfl ?_
      refine w_al f_30_171 rfl ?_
      refine w_gi f_30_172 rfl ?_
      have hb := H.1
      have H := H.2
      refine w_ast f_30_175 rfl hb ?_
      refine w_al f_30_176 rfl ?_
      refine w_inv (as := [.ref 32, .retAddr 0]) (st' := []) f_30_177 rfl rfl rfl rfl rfl rfl H (k_v (fun G4 I4 J4 H => ?_)) (x_n (fun _ => rfl) rfl (fun x h' h => h))
      exact H
theorem g_30_180 {d : Nat} {G : am_G} {I : Nat → Nat → Int32} {J : Nat → Nat → Int64} {Q : am_O → am_H → Prop} (hR : q_RT G) (i1 : Int32) (i2 : Int32) (H : Q (.inl none) (G, I, J)) : q_W β xs L (d + 1) 30 180 [.ref 32, .int i1, .int i2] [] (G, I, J) Q := by
  exact w_ret0 f_30_180 H
theorem g_31_0 {d : Nat} {G : am_G} {I : Nat → Nat → Int32} {J : Nat → Nat → Int64} {Q : am_O → am_H → Prop} (hR : q_RT G) (i1 : Int32) (H : ((i1 < 6 → q_W β xs L d 32 0 [.ref 32, .int i1, .retAddr 0] [] (G, I, J) (q_Rv (fun G1 I1 J1 => q_W β xs L (d + 1) 31 48 [.ref 32, .int i1, .int 0] [] (G1, I1, J1) Q) (fun x1 G1 I1 J1 => Q (.inr x1) (G1, I1, J1)))) ∧ (¬ i1 < 6 → (((I 32 4) = 2 → q_W β xs L (d + 1) 31 32 [.ref 32, .int i1, .retAddr 0] [.ref 32] (G, I, J) Q) ∧ (¬ (I 32 4) = 2 → (((I 32 4) = 3 → q_W β xs L (d + 1) 31 32 [.ref 32, .int i1, .retAddr 0] [.ref 32] (G, I, J) Q) ∧ (¬ (I 32 4) = 3 → ((¬ (I 32 4) = 40 → q_W β xs L (d + 1) 31 37 [.ref 32, .int i1, .retAddr 0] [.int 1, .ref 32] (G, I, J) Q) ∧ ((I 32 4) = 40 → q_W β xs L (d + 1) 31 32 [.ref 32, .int i1, .retAddr 0] [.ref 32] (G, I, J) Q))))))))) : q_W β xs L (d + 1) 31 0 [.ref 32, .int i1, .retAddr 0] [] (G, I, J) Q := by
  refine w_il f_31_0 rfl ?_
  refine w_ic f_31_1 ?_
  refine w_iclt f_31_3 (fun c => ?_) (fun c => ?_)
  · have H := H.1 c
    refine w_al f_31_41 rfl ?_
    refine w_il f_31_42 rfl ?_
    refine w_inv (as := [.ref 32, .int i1, .retAddr 0]) (st' := []) f_31_43 rfl rfl rfl rfl rfl rfl H (k_v (fun G1 I1 J1 H => ?_)) (x_n (fun _ => rfl) rfl (fun x h' h => h))
    refine w_ic f_31_46 ?_
    refine w_is (ls' := [.ref 32, .int i1, .int 0]) f_31_47 rfl ?_
    exact H
  · have H := H.2 c
    refine w_al f_31_6 rfl ?_
    refine w_al f_31_7 rfl ?_
    refine w_gi f_31_8 rfl ?_
    refine w_ic f_31_11 ?_
    refine w_iceq f_31_12 (fun c => ?_) (fun c => ?_)
    · have H := H.1 c
      exact H
    · have H := H.2 c
      refine w_al f_31_15 rfl ?_
      refine w_gi f_31_16 rfl ?_
      refine w_ic f_31_19 ?_
      refine w_iceq f_31_20 (fun c => ?_) (fun c => ?_)
      · have H := H.1 c
        exact H
      · have H := H.2 c
        refine w_al f_31_23 rfl ?_
        refine w_gi f_31_24 rfl ?_
        refine w_ic f_31_27 ?_
        refine w_icne f_31_29 (fun c => ?_) (fun c => ?_)
        · have H := H.1 c
          refine w_ic f_31_36 ?_
          exact H
        · have H := H.2 c
          exact H
theorem g_31_32 {d : Nat} {G : am_G} {I : Nat → Nat → Int32} {J : Nat → Nat → Int64} {Q : am_O → am_H → Prop} (hR : q_RT G) (i1 : Int32) (H : q_W β xs L (d + 1) 31 37 [.ref 32, .int i1, .retAddr 0] [.int 2, .ref 32] (G, I, J) Q) : q_W β xs L (d + 1) 31 32 [.ref 32, .int i1, .retAddr 0] [.ref 32] (G, I, J) Q := by
  refine w_ic f_31_32 ?_
  refine w_go f_31_33 ?_
  exact H
theorem g_31_37 {d : Nat} {G : am_G} {I : Nat → Nat → Int32} {J : Nat → Nat → Int64} {Q : am_O → am_H → Prop} (hR : q_RT G) (i1 : Int32) (is0 : Int32) (H : q_W β xs L d 41 0 [.ref 32, .int is0] [] (G, I, J) (q_Rv (fun G1 I1 J1 => Q (.inl none) (G1, I1, J1)) (fun x1 G1 I1 J1 => Q (.inr x1) (G1, I1, J1)))) : q_W β xs L (d + 1) 31 37 [.ref 32, .int i1, .retAddr 0] [.int is0, .ref 32] (G, I, J) Q := by
  refine w_inv (as := [.ref 32, .int is0]) (st' := []) f_31_37 rfl rfl rfl rfl rfl rfl H (k_v (fun G1 I1 J1 H => ?_)) (x_n (fun _ => rfl) rfl (fun x h' h => h))
  exact w_ret0 f_31_40 H
theorem g_31_48 {d : Nat} {G : am_G} {I : Nat → Nat → Int32} {J : Nat → Nat → Int64} {Q : am_O → am_H → Prop} (hR : q_RT G) (i1 : Int32) (i2 : Int32) (H : ((¬ i2 < 500 → q_W β xs L (d + 1) 31 85 [.ref 32, .int i1, .int i2] [] (G, I, J) Q) ∧ (i2 < 500 → q_W β xs L d 37 0 [.ref 32, .int 5] [] (G, I, J) (q_Ri (fun y1 G1 I1 J1 => ((y1 = 0 → q_W β xs L (d + 1) 31 85 [.ref 32, .int i1, .int i2] [] (G1, I1, J1) Q) ∧ (¬ y1 = 0 → q_W β xs L d 43 0 [.ref 32, .retAddr 0] [] (G1, I1, J1) (q_Rv (fun G2 I2 J2 => q_W β xs L d 32 0 [.ref 32, .int i1, .retAddr 0] [] (G2, I2, J2) (q_Rv (fun G3 I3 J3 => q_W β xs L d 42 0 [.ref 32, .int (-202)] [] (G3, I3, J3) (q_Rv (fun G4 I4 J4 => q_W β xs L (d + 1) 31 48 [.ref 32, .int i1, .int (i2 + 1)] [] (G4, I4, J4) Q) (fun x4 G4 I4 J4 => Q (.inr x4) (G4, I4, J4)))) (fun x3 G3 I3 J3 => Q (.inr x3) (G3, I3, J3)))) (fun x2 G2 I2 J2 => Q (.inr x2) (G2, I2, J2)))))) (fun x1 G1 I1 J1 => Q (.inr x1) (G1, I1, J1)))))) : q_W β xs L (d + 1) 31 48 [.ref 32, .int i1, .int i2] [] (G, I, J) Q := by
  refine w_il f_31_48 rfl ?_
  refine w_ic f_31_49 ?_
  refine w_icge f_31_52 (fun c => ?_) (fun c => ?_)
  · have H := H.1 c
    exact H
  · have H := H.2 c
    refine w_al f_31_55 rfl ?_
    refine w_ic f_31_56 ?_
    refine w_inv (as := [.ref 32, .int 5]) (st' := []) f_31_57 rfl rfl rfl rfl rfl rfl H (k_i (fun y1 G1 I1 J1 H => ?_)) (x_n (fun _ => rfl) rfl (fun x h' h => h))
    refine w_ifeq f_31_60 (fun c => ?_) (fun c => ?_)
    · have H := H.1 c
      exact H
    · have H := H.2 c
      refine w_al f_31_63 rfl ?_
      refine w_inv (as := [.ref 32, .retAddr 0]) (st' := []) f_31_64 rfl rfl rfl rfl rfl rfl H (k_v (fun G2 I2 J2 H => ?_)) (x_n (fun _ => rfl) rfl (fun x h' h => h))
      refine w_al f_31_67 rfl ?_
      refine w_il f_31_68 rfl ?_
      refine w_inv (as := [.ref 32, .int i1, .retAddr 0]) (st' := []) f_31_69 rfl rfl rfl rfl rfl rfl H (k_v (fun G3 I3 J3 H => ?_)) (x_n (fun _ => rfl) rfl (fun x h' h => h))
      refine w_al f_31_72 rfl ?_
      refine w_ic f_31_73 ?_
      refine w_inv (as := [.ref 32, .int (-202)]) (st' := []) f_31_76 rfl rfl rfl rfl rfl rfl H (k_v (fun G4 I4 J4 H => ?_)) (x_n (fun _ => rfl) rfl (fun x h' h => h))
      refine w_iinc (ls' := [.ref 32, .int i1, .int (i2 + 1)]) f_31_79 rfl rfl ?_
      refine w_go f_31_82 ?_
      exact H
theorem g_31_85 {d : Nat} {G : am_G} {I : Nat → Nat → Int32} {J : Nat → Nat → Int64} {Q : am_O → am_H → Prop} (hR : q_RT G) (i1 : Int32) (i2 : Int32) (H : Q (.inl none) (G, I, J)) : q_W β xs L (d + 1) 31 85 [.ref 32, .int i1, .int i2] [] (G, I, J) Q := by
  exact w_ret0 f_31_85 H
theorem g_32_0 {d : Nat} {G : am_G} {I : Nat → Nat → Int32} {J : Nat → Nat → Int64} {Q : am_O → am_H → Prop} (hR : q_RT G) (i1 : Int32) (H : q_W β xs L d 33 0 [.ref 32, .int i1, .retAddr 0, .retAddr 0] [] (G, I, J) (q_Rv (fun G1 I1 J1 => q_W β xs L (d + 1) 32 7 [.ref 32, .int i1, .int 0] [] (G1, I1, J1) Q) (fun x1 G1 I1 J1 => Q (.inr x1) (G1, I1, J1)))) : q_W β xs L (d + 1) 32 0 [.ref 32, .int i1, .retAddr 0] [] (G, I, J) Q := by
  refine w_al f_32_0 rfl ?_
  refine w_il f_32_1 rfl ?_
  refine w_inv (as := [.ref 32, .int i1, .retAddr 0, .retAddr 0]) (st' := []) f_32_2 rfl rfl rfl rfl rfl rfl H (k_v (fun G1 I1 J1 H => ?_)) (x_n (fun _ => rfl) rfl (fun x h' h => h))
  refine w_ic f_32_5 ?_
  refine w_is (ls' := [.ref 32, .int i1, .int 0]) f_32_6 rfl ?_
  exact H
theorem g_32_7 {d : Nat} {G : am_G} {I : Nat → Nat → Int32} {J : Nat → Nat → Int64} {Q : am_O → am_H → Prop} (hR : q_RT G) (i1 : Int32) (i2 : Int32) (H : ((¬ i2 < 500 → q_W β xs L (d + 1) 32 45 [.ref 32, .int i1, .int i2] [] (G, I, J) Q) ∧ (i2 < 500 → q_W β xs L d 37 0 [.ref 32, .int 6] [] (G, I, J) (q_Ri (fun y1 G1 I1 J1 => ((y1 = 0 → q_W β xs L (d + 1) 32 45 [.ref 32, .int i1, .int i2] [] (G1, I1, J1) Q) ∧ (¬ y1 = 0 → q_W β xs L d 43 0 [.ref 32, .retAddr 0] [] (G1, I1, J1) (q_Rv (fun G2 I2 J2 => q_W β xs L d 33 0 [.ref 32, .int i1, .retAddr 0, .retAddr 0] [] (G2, I2, J2) (q_Rv (fun G3 I3 J3 => q_W β xs L d 42 0 [.ref 32, .int (-201)] [] (G3, I3, J3) (q_Rv (fun G4 I4 J4 => q_W β xs L (d + 1) 32 7 [.ref 32, .int i1, .int (i2 + 1)] [] (G4, I4, J4) Q) (fun x4 G4 I4 J4 => Q (.inr x4) (G4, I4, J4)))) (fun x3 G3 I3 J3 => Q (.inr x3) (G3, I3, J3)))) (fun x2 G2 I2 J2 => Q (.inr x2) (G2, I2, J2)))))) (fun x1 G1 I1 J1 => Q (.inr x1) (G1, I1, J1)))))) : q_W β xs L (d + 1) 32 7 [.ref 32, .int i1, .int i2] [] (G, I, J) Q := by
  refine w_il f_32_7 rfl ?_
  refine w_ic f_32_8 ?_
  refine w_icge f_32_11 (fun c => ?_) (fun c => ?_)
  · have H := H.1 c
    exact H
  · have H := H.2 c
    refine w_al f_32_14 rfl ?_
    refine w_ic f_32_15 ?_
    refine w_inv (as := [.ref 32, .int 6]) (st' := []) f_32_17 rfl rfl rfl rfl rfl rfl H (k_i (fun y1 G1 I1 J1 H => ?_)) (x_n (fun _ => rfl) rfl (fun x h' h => h))
    refine w_ifeq f_32_20 (fun c => ?_) (fun c => ?_)
    · have H := H.1 c
      exact H
    · have H := H.2 c
      refine w_al f_32_23 rfl ?_
      refine w_inv (as := [.ref 32, .retAddr 0]) (st' := []) f_32_24 rfl rfl rfl rfl rfl rfl H (k_v (fun G2 I2 J2 H => ?_)) (x_n (fun _ => rfl) rfl (fun x h' h => h))
      refine w_al f_32_27 rfl ?_
      refine w_il f_32_28 rfl ?_
      refine w_inv (as := [.ref 32, .int i1, .retAddr 0, .retAddr 0]) (st' := []) f_32_29 rfl rfl rfl rfl rfl rfl H (k_v (fun G3 I3 J3 H => ?_)) (x_n (fun _ => rfl) rfl (fun x h' h => h))
      refine w_al f_32_32 rfl ?_
      refine w_ic f_32_33 ?_
      refine w_inv (as := [.ref 32, .int (-201)]) (st' := []) f_32_36 rfl rfl rfl rfl rfl rfl H (k_v (fun G4 I4 J4 H => ?_)) (x_n (fun _ => rfl) rfl (fun x h' h => h))
      refine w_iinc (ls' := [.ref 32, .int i1, .int (i2 + 1)]) f_32_39 rfl rfl ?_
      refine w_go f_32_42 ?_
      exact H
theorem g_32_45 {d : Nat} {G : am_G} {I : Nat → Nat → Int32} {J : Nat → Nat → Int64} {Q : am_O → am_H → Prop} (hR : q_RT G) (i1 : Int32) (i2 : Int32) (H : Q (.inl none) (G, I, J)) : q_W β xs L (d + 1) 32 45 [.ref 32, .int i1, .int i2] [] (G, I, J) Q := by
  exact w_ret0 f_32_45 H
theorem g_33_0 {d : Nat} {G : am_G} {I : Nat → Nat → Int32} {J : Nat → Nat → Int64} {Q : am_O → am_H → Prop} (hR : q_RT G) (i1 : Int32) (H : q_W β xs L (d + 1) 33 2 [.ref 32, .int i1, .int 0, .retAddr 0] [] (G, I, J) Q) : q_W β xs L (d + 1) 33 0 [.ref 32, .int i1, .retAddr 0, .retAddr 0] [] (G, I, J) Q := by
  refine w_ic f_33_0 ?_
  refine w_is (ls' := [.ref 32, .int i1, .int 0, .retAddr 0]) f_33_1 rfl ?_
  exact H
theorem g_33_2 {d : Nat} {G : am_G} {I : Nat → Nat → Int32} {J : Nat → Nat → Int64} {Q : am_O → am_H → Prop} (hR : q_RT G) (i1 : Int32) (i2 : Int32) (H : ((6 < i2 → q_W β xs L (d + 1) 33 39 [.ref 32, .int i1, .int i2, .retAddr 0] [] (G, I, J) Q) ∧ (¬ 6 < i2 → q_W β xs L d 37 0 [.ref 32, .int 7] [] (G, I, J) (q_Ri (fun y1 G1 I1 J1 => ((y1 = 0 → q_W β xs L (d + 1) 33 39 [.ref 32, .int i1, .int i2, .retAddr 0] [] (G1, I1, J1) Q) ∧ (¬ y1 = 0 → ((¬ i2 = 6 → q_W β xs L d 43 0 [.ref 32, .retAddr 0] [] (G1, I1, J1) (q_Rv (fun G2 I2 J2 => q_W β xs L (d + 1) 33 2 [.ref 32, .int i1, .int (i2 + 1), .retAddr 0] [] (G2, I2, J2) Q) (fun x2 G2 I2 J2 => Q (.inr x2) (G2, I2, J2)))) ∧ (i2 = 6 → q_W β xs L d 41 0 [.ref 32, .int 2] [] (G1, I1, J1) (q_Rv (fun G3 I3 J3 => Q (.inl none) (G3, I3, J3)) (fun x3 G3 I3 J3 => Q (.inr x3) (G3, I3, J3)))))))) (fun x1 G1 I1 J1 => Q (.inr x1) (G1, I1, J1)))))) : q_W β xs L (d + 1) 33 2 [.ref 32, .int i1, .int i2, .retAddr 0] [] (G, I, J) Q := by
  refine w_il f_33_2 rfl ?_
  refine w_ic f_33_3 ?_
  refine w_icgt f_33_5 (fun c => ?_) (fun c => ?_)
  · have H := H.1 c
    exact H
  · have H := H.2 c
    refine w_al f_33_8 rfl ?_
    refine w_ic f_33_9 ?_
    refine w_inv (as := [.ref 32, .int 7]) (st' := []) f_33_11 rfl rfl rfl rfl rfl rfl H (k_i (fun y1 G1 I1 J1 H => ?_)) (x_n (fun _ => rfl) rfl (fun x h' h => h))
    refine w_ifeq f_33_14 (fun c => ?_) (fun c => ?_)
    · have H := H.1 c
      exact H
    · have H := H.2 c
      refine w_il f_33_17 rfl ?_
      refine w_ic f_33_18 ?_
      refine w_icne f_33_20 (fun c => ?_) (fun c => ?_)
      · have H := H.1 c
        refine w_al f_33_29 rfl ?_
        refine w_inv (as := [.ref 32, .retAddr 0]) (st' := []) f_33_30 rfl rfl rfl rfl rfl rfl H (k_v (fun G2 I2 J2 H => ?_)) (x_n (fun _ => rfl) rfl (fun x h' h => h))
        refine w_iinc (ls' := [.ref 32, .int i1, .int (i2 + 1), .retAddr 0]) f_33_33 rfl rfl ?_
        refine w_go f_33_36 ?_
        exact H
      · have H := H.2 c
        refine w_al f_33_23 rfl ?_
        refine w_ic f_33_24 ?_
        refine w_inv (as := [.ref 32, .int 2]) (st' := []) f_33_25 rfl rfl rfl rfl rfl rfl H (k_v (fun G3 I3 J3 H => ?_)) (x_n (fun _ => rfl) rfl (fun x h' h => h))
        exact w_ret0 f_33_28 H
theorem g_33_39 {d : Nat} {G : am_G} {I : Nat → Nat → Int32} {J : Nat → Nat → Int64} {Q : am_O → am_H → Prop} (hR : q_RT G) (i1 : Int32) (i2 : Int32) (H : q_W β xs L d 34 0 [.ref 32, .int i1, .retAddr 0, .retAddr 0] [] (G, I, J) (q_Rv (fun G1 I1 J1 => q_W β xs L d 38 0 [.ref 32, .int 60] [] (G1, I1, J1) (q_Ri (fun y2 G2 I2 J2 => ((¬ y2 = 0 → q_W β xs L (d + 1) 33 62 [.ref 32, .int i1, .int i2, .retAddr 0] [] (G2, I2, J2) Q) ∧ (y2 = 0 → q_W β xs L d 38 0 [.ref 32, .int 61] [] (G2, I2, J2) (q_Ri (fun y3 G3 I3 J3 => ((y3 = 0 → q_W β xs L (d + 1) 33 82 [.ref 32, .int i1, .int i2, .retAddr 0] [] (G3, I3, J3) Q) ∧ (¬ y3 = 0 → q_W β xs L (d + 1) 33 62 [.ref 32, .int i1, .int i2, .retAddr 0] [] (G3, I3, J3) Q))) (fun x3 G3 I3 J3 => Q (.inr x3) (G3, I3, J3)))))) (fun x2 G2 I2 J2 => Q (.inr x2) (G2, I2, J2)))) (fun x1 G1 I1 J1 => Q (.inr x1) (G1, I1, J1)))) : q_W β xs L (d + 1) 33 39 [.ref 32, .int i1, .int i2, .retAddr 0] [] (G, I, J) Q := by
  refine w_al f_33_39 rfl ?_
  refine w_il f_33_40 rfl ?_
  refine w_inv (as := [.ref 32, .int i1, .retAddr 0, .retAddr 0]) (st' := []) f_33_41 rfl rfl rfl rfl rfl rfl H (k_v (fun G1 I1 J1 H => ?_)) (x_n (fun _ => rfl) rfl (fun x h' h => h))
  refine w_al f_33_44 rfl ?_
  refine w_ic f_33_45 ?_
  refine w_inv (as := [.ref 32, .int 60]) (st' := []) f_33_47 rfl rfl rfl rfl rfl rfl H (k_i (fun y2 G2 I2 J2 H => ?_)) (x_n (fun _ => rfl) rfl (fun x h' h => h))
  refine w_ifne f_33_50 (fun c => ?_) (fun c => ?_)
  · have H := H.1 c
    exact H
  · have H := H.2 c
    refine w_al f_33_53 rfl ?_
    refine w_ic f_33_54 ?_
    refine w_inv (as := [.ref 32, .int 61]) (st' := []) f_33_56 rfl rfl rfl rfl rfl rfl H (k_i (fun y3 G3 I3 J3 H => ?_)) (x_n (fun _ => rfl) rfl (fun x h' h => h))
    refine w_ifeq f_33_59 (fun c => ?_) (fun c => ?_)
    · have H := H.1 c
      exact H
    · have H := H.2 c
      exact H
theorem g_33_62 {d : Nat} {G : am_G} {I : Nat → Nat → Int32} {J : Nat → Nat → Int64} {Q : am_O → am_H → Prop} (hR : q_RT G) (i1 : Int32) (i2 : Int32) (H : q_W β xs L d 43 0 [.ref 32, .retAddr 0] [] (G, I, J) (q_Rv (fun G1 I1 J1 => q_W β xs L d 34 0 [.ref 32, .int i1, .retAddr 0, .retAddr 0] [] (G1, I1, J1) (q_Rv (fun G2 I2 J2 => q_W β xs L d 42 0 [.ref 32, .int (-(I 32 4))] [] (G2, I2, J2) (q_Rv (fun G3 I3 J3 => q_W β xs L (d + 1) 33 82 [.ref 32, .int i1, .int i2, .int (I 32 4)] [] (G3, I3, J3) Q) (fun x3 G3 I3 J3 => Q (.inr x3) (G3, I3, J3)))) (fun x2 G2 I2 J2 => Q (.inr x2) (G2, I2, J2)))) (fun x1 G1 I1 J1 => Q (.inr x1) (G1, I1, J1)))) : q_W β xs L (d + 1) 33 62 [.ref 32, .int i1, .int i2, .retAddr 0] [] (G, I, J) Q := by
  refine w_al f_33_62 rfl ?_
  refine w_gi f_33_63 rfl ?_
  refine w_is (ls' := [.ref 32, .int i1, .int i2, .int (I 32 4)]) f_33_66 rfl ?_
  refine w_al f_33_67 rfl ?_
  refine w_inv (as := [.ref 32, .retAddr 0]) (st' := []) f_33_68 rfl rfl rfl rfl rfl rfl H (k_v (fun G1 I1 J1 H => ?_)) (x_n (fun _ => rfl) rfl (fun x h' h => h))
  refine w_al f_33_71 rfl ?_
  refine w_il f_33_72 rfl ?_
  refine w_inv (as := [.ref 32, .int i1, .retAddr 0, .retAddr 0]) (st' := []) f_33_73 rfl rfl rfl rfl rfl rfl H (k_v (fun G2 I2 J2 H => ?_)) (x_n (fun _ => rfl) rfl (fun x h' h => h))
  refine w_al f_33_76 rfl ?_
  refine w_il f_33_77 rfl ?_
  refine w_un f_33_78 ?_
  refine w_inv (as := [.ref 32, .int (-(I 32 4))]) (st' := []) f_33_79 rfl rfl rfl rfl rfl rfl H (k_v (fun G3 I3 J3 H => ?_)) (x_n (fun _ => rfl) rfl (fun x h' h => h))
  exact H
theorem g_33_82 {d : Nat} {G : am_G} {I : Nat → Nat → Int32} {J : Nat → Nat → Int64} {Q : am_O → am_H → Prop} (hR : q_RT G) (i1 : Int32) (i2 : Int32) (v3 : Value) (n3 : am_nl v3 = true) (H : q_W β xs L (d + 1) 33 84 [.ref 32, .int i1, .int i2, .int 0] [] (G, I, J) Q) : q_W β xs L (d + 1) 33 82 [.ref 32, .int i1, .int i2, v3] [] (G, I, J) Q := by
  refine w_ic f_33_82 ?_
  refine w_is (ls' := [.ref 32, .int i1, .int i2, .int 0]) f_33_83 rfl ?_
  exact H
theorem g_33_84 {d : Nat} {G : am_G} {I : Nat → Nat → Int32} {J : Nat → Nat → Int64} {Q : am_O → am_H → Prop} (hR : q_RT G) (i1 : Int32) (i2 : Int32) (i3 : Int32) (H : ((¬ i3 < i2 → Q (.inl none) (G, I, J)) ∧ (i3 < i2 → q_W β xs L d 42 0 [.ref 32, .int (-203)] [] (G, I, J) (q_Rv (fun G1 I1 J1 => q_W β xs L (d + 1) 33 84 [.ref 32, .int i1, .int i2, .int (i3 + 1)] [] (G1, I1, J1) Q) (fun x1 G1 I1 J1 => Q (.inr x1) (G1, I1, J1)))))) : q_W β xs L (d + 1) 33 84 [.ref 32, .int i1, .int i2, .int i3] [] (G, I, J) Q := by
  refine w_il f_33_84 rfl ?_
  refine w_il f_33_85 rfl ?_
  refine w_icge f_33_86 (fun c => ?_) (fun c => ?_)
  · have H := H.1 c
    exact w_ret0 f_33_102 H
  · have H := H.2 c
    refine w_al f_33_89 rfl ?_
    refine w_ic f_33_90 ?_
    refine w_inv (as := [.ref 32, .int (-203)]) (st' := []) f_33_93 rfl rfl rfl rfl rfl rfl H (k_v (fun G1 I1 J1 H => ?_)) (x_n (fun _ => rfl) rfl (fun x h' h => h))
    refine w_iinc (ls' := [.ref 32, .int i1, .int i2, .int (i3 + 1)]) f_33_96 rfl rfl ?_
    refine w_go f_33_99 ?_
    exact H
theorem g_34_0 {d : Nat} {G : am_G} {I : Nat → Nat → Int32} {J : Nat → Nat → Int64} {Q : am_O → am_H → Prop} (hR : q_RT G) (i1 : Int32) (H : q_W β xs L d 35 0 [.ref 32, .int i1, .retAddr 0, .retAddr 0] [] (G, I, J) (q_Rv (fun G1 I1 J1 => q_W β xs L (d + 1) 34 7 [.ref 32, .int i1, .int 0, .retAddr 0] [] (G1, I1, J1) Q) (fun x1 G1 I1 J1 => Q (.inr x1) (G1, I1, J1)))) : q_W β xs L (d + 1) 34 0 [.ref 32, .int i1, .retAddr 0, .retAddr 0] [] (G, I, J) Q := by
  refine w_al f_34_0 rfl ?_
  refine w_il f_34_1 rfl ?_
  refine w_inv (as := [.ref 32, .int i1, .retAddr 0, .retAddr 0]) (st' := []) f_34_2 rfl rfl rfl rfl rfl rfl H (k_v (fun G1 I1 J1 H => ?_)) (x_n (fun _ => rfl) rfl (fun x h' h => h))
  refine w_ic f_34_5 ?_
  refine w_is (ls' := [.ref 32, .int i1, .int 0, .retAddr 0]) f_34_6 rfl ?_
  exact H
theorem g_34_7 {d : Nat} {G : am_G} {I : Nat → Nat → Int32} {J : Nat → Nat → Int64} {Q : am_O → am_H → Prop} (hR : q_RT G) (i1 : Int32) (i2 : Int32) (v3 : Value) (n3 : am_nl v3 = true) (H : ((¬ i2 < 500 → q_W β xs L (d + 1) 34 58 [.ref 32, .int i1, .int i2, v3] [] (G, I, J) Q) ∧ (i2 < 500 → q_W β xs L d 38 0 [.ref 32, .int 43] [] (G, I, J) (q_Ri (fun y1 G1 I1 J1 => ((¬ y1 = 0 → q_W β xs L (d + 1) 34 32 [.ref 32, .int i1, .int i2, v3] [] (G1, I1, J1) Q) ∧ (y1 = 0 → q_W β xs L d 38 0 [.ref 32, .int 45] [] (G1, I1, J1) (q_Ri (fun y2 G2 I2 J2 => ((y2 = 0 → q_W β xs L (d + 1) 34 58 [.ref 32, .int i1, .int i2, v3] [] (G2, I2, J2) Q) ∧ (¬ y2 = 0 → q_W β xs L (d + 1) 34 32 [.ref 32, .int i1, .int i2, v3] [] (G2, I2, J2) Q))) (fun x2 G2 I2 J2 => Q (.inr x2) (G2, I2, J2)))))) (fun x1 G1 I1 J1 => Q (.inr x1) (G1, I1, J1)))))) : q_W β xs L (d + 1) 34 7 [.ref 32, .int i1, .int i2, v3] [] (G, I, J) Q := by
  refine w_il f_34_7 rfl ?_
  refine w_ic f_34_8 ?_
  refine w_icge f_34_11 (fun c => ?_) (fun c => ?_)
  · have H := H.1 c
    exact H
  · have H := H.2 c
    refine w_al f_34_14 rfl ?_
    refine w_ic f_34_15 ?_
    refine w_inv (as := [.ref 32, .int 43]) (st' := []) f_34_17 rfl rfl rfl rfl rfl rfl H (k_i (fun y1 G1 I1 J1 H => ?_)) (x_n (fun _ => rfl) rfl (fun x h' h => h))
    refine w_ifne f_34_20 (fun c => ?_) (fun c => ?_)
    · have H := H.1 c
      exact H
    · have H := H.2 c
      refine w_al f_34_23 rfl ?_
      refine w_ic f_34_24 ?_
      refine w_inv (as := [.ref 32, .int 45]) (st' := []) f_34_26 rfl rfl rfl rfl rfl rfl H (k_i (fun y2 G2 I2 J2 H => ?_)) (x_n (fun _ => rfl) rfl (fun x h' h => h))
      refine w_ifeq f_34_29 (fun c => ?_) (fun c => ?_)
      · have H := H.1 c
        exact H
      · have H := H.2 c
        exact H
theorem g_34_32 {d : Nat} {G : am_G} {I : Nat → Nat → Int32} {J : Nat → Nat → Int64} {Q : am_O → am_H → Prop} (hR : q_RT G) (i1 : Int32) (i2 : Int32) (v3 : Value) (n3 : am_nl v3 = true) (H : q_W β xs L d 43 0 [.ref 32, .retAddr 0] [] (G, I, J) (q_Rv (fun G1 I1 J1 => q_W β xs L d 35 0 [.ref 32, .int i1, .retAddr 0, .retAddr 0] [] (G1, I1, J1) (q_Rv (fun G2 I2 J2 => q_W β xs L d 42 0 [.ref 32, .int (-(I 32 4))] [] (G2, I2, J2) (q_Rv (fun G3 I3 J3 => q_W β xs L (d + 1) 34 7 [.ref 32, .int i1, .int (i2 + 1), .int (I 32 4)] [] (G3, I3, J3) Q) (fun x3 G3 I3 J3 => Q (.inr x3) (G3, I3, J3)))) (fun x2 G2 I2 J2 => Q (.inr x2) (G2, I2, J2)))) (fun x1 G1 I1 J1 => Q (.inr x1) (G1, I1, J1)))) : q_W β xs L (d + 1) 34 32 [.ref 32, .int i1, .int i2, v3] [] (G, I, J) Q := by
  refine w_al f_34_32 rfl ?_
  refine w_gi f_34_33 rfl ?_
  refine w_is (ls' := [.ref 32, .int i1, .int i2, .int (I 32 4)]) f_34_36 rfl ?_
  refine w_al f_34_37 rfl ?_
  refine w_inv (as := [.ref 32, .retAddr 0]) (st' := []) f_34_38 rfl rfl rfl rfl rfl rfl H (k_v (fun G1 I1 J1 H => ?_)) (x_n (fun _ => rfl) rfl (fun x h' h => h))
  refine w_al f_34_41 rfl ?_
  refine w_il f_34_42 rfl ?_
  refine w_inv (as := [.ref 32, .int i1, .retAddr 0, .retAddr 0]) (st' := []) f_34_43 rfl rfl rfl rfl rfl rfl H (k_v (fun G2 I2 J2 H => ?_)) (x_n (fun _ => rfl) rfl (fun x h' h => h))
  refine w_al f_34_46 rfl ?_
  refine w_il f_34_47 rfl ?_
  refine w_un f_34_48 ?_
  refine w_inv (as := [.ref 32, .int (-(I 32 4))]) (st' := []) f_34_49 rfl rfl rfl rfl rfl rfl H (k_v (fun G3 I3 J3 H => ?_)) (x_n (fun _ => rfl) rfl (fun x h' h => h))
  refine w_iinc (ls' := [.ref 32, .int i1, .int (i2 + 1), .int (I 32 4)]) f_34_52 rfl rfl ?_
  refine w_go f_34_55 ?_
  exact H
theorem g_34_58 {d : Nat} {G : am_G} {I : Nat → Nat → Int32} {J : Nat → Nat → Int64} {Q : am_O → am_H → Prop} (hR : q_RT G) (i1 : Int32) (i2 : Int32) (v3 : Value) (n3 : am_nl v3 = true) (H : Q (.inl none) (G, I, J)) : q_W β xs L (d + 1) 34 58 [.ref 32, .int i1, .int i2, v3] [] (G, I, J) Q := by
  exact w_ret0 f_34_58 H
theorem g_35_0 {d : Nat} {G : am_G} {I : Nat → Nat → Int32} {J : Nat → Nat → Int64} {Q : am_O → am_H → Prop} (hR : q_RT G) (i1 : Int32) (H : q_W β xs L d 36 0 [.ref 32, .int i1] [] (G, I, J) (q_Rv (fun G1 I1 J1 => q_W β xs L (d + 1) 35 7 [.ref 32, .int i1, .int 0, .retAddr 0] [] (G1, I1, J1) Q) (fun x1 G1 I1 J1 => Q (.inr x1) (G1, I1, J1)))) : q_W β xs L (d + 1) 35 0 [.ref 32, .int i1, .retAddr 0, .retAddr 0] [] (G, I, J) Q := by
  refine w_al f_35_0 rfl ?_
  refine w_il f_35_1 rfl ?_
  refine w_inv (as := [.ref 32, .int i1]) (st' := []) f_35_2 rfl rfl rfl rfl rfl rfl H (k_v (fun G1 I1 J1 H => ?_)) (x_n (fun _ => rfl) rfl (fun x h' h => h))
  refine w_ic f_35_5 ?_
  refine w_is (ls' := [.ref 32, .int i1, .int 0, .retAddr 0]) f_35_6 rfl ?_
  exact H
theorem g_35_7 {d : Nat} {G : am_G} {I : Nat → Nat → Int32} {J : Nat → Nat → Int64} {Q : am_O → am_H → Prop} (hR : q_RT G) (i1 : Int32) (i2 : Int32) (v3 : Value) (n3 : am_nl v3 = true) (H : ((¬ i2 < 500 → q_W β xs L (d + 1) 35 58 [.ref 32, .int i1, .int i2, v3] [] (G, I, J) Q) ∧ (i2 < 500 → q_W β xs L d 38 0 [.ref 32, .int 42] [] (G, I, J) (q_Ri (fun y1 G1 I1 J1 => ((¬ y1 = 0 → q_W β xs L (d + 1) 35 32 [.ref 32, .int i1, .int i2, v3] [] (G1, I1, J1) Q) ∧ (y1 = 0 → q_W β xs L d 38 0 [.ref 32, .int 47] [] (G1, I1, J1) (q_Ri (fun y2 G2 I2 J2 => ((y2 = 0 → q_W β xs L (d + 1) 35 58 [.ref 32, .int i1, .int i2, v3] [] (G2, I2, J2) Q) ∧ (¬ y2 = 0 → q_W β xs L (d + 1) 35 32 [.ref 32, .int i1, .int i2, v3] [] (G2, I2, J2) Q))) (fun x2 G2 I2 J2 => Q (.inr x2) (G2, I2, J2)))))) (fun x1 G1 I1 J1 => Q (.inr x1) (G1, I1, J1)))))) : q_W β xs L (d + 1) 35 7 [.ref 32, .int i1, .int i2, v3] [] (G, I, J) Q := by
  refine w_il f_35_7 rfl ?_
  refine w_ic f_35_8 ?_
  refine w_icge f_35_11 (fun c => ?_) (fun c => ?_)
  · have H := H.1 c
    exact H
  · have H := H.2 c
    refine w_al f_35_14 rfl ?_
    refine w_ic f_35_15 ?_
    refine w_inv (as := [.ref 32, .int 42]) (st' := []) f_35_17 rfl rfl rfl rfl rfl rfl H (k_i (fun y1 G1 I1 J1 H => ?_)) (x_n (fun _ => rfl) rfl (fun x h' h => h))
    refine w_ifne f_35_20 (fun c => ?_) (fun c => ?_)
    · have H := H.1 c
      exact H
    · have H := H.2 c
      refine w_al f_35_23 rfl ?_
      refine w_ic f_35_24 ?_
      refine w_inv (as := [.ref 32, .int 47]) (st' := []) f_35_26 rfl rfl rfl rfl rfl rfl H (k_i (fun y2 G2 I2 J2 H => ?_)) (x_n (fun _ => rfl) rfl (fun x h' h => h))
      refine w_ifeq f_35_29 (fun c => ?_) (fun c => ?_)
      · have H := H.1 c
        exact H
      · have H := H.2 c
        exact H
theorem g_35_32 {d : Nat} {G : am_G} {I : Nat → Nat → Int32} {J : Nat → Nat → Int64} {Q : am_O → am_H → Prop} (hR : q_RT G) (i1 : Int32) (i2 : Int32) (v3 : Value) (n3 : am_nl v3 = true) (H : q_W β xs L d 43 0 [.ref 32, .retAddr 0] [] (G, I, J) (q_Rv (fun G1 I1 J1 => q_W β xs L d 36 0 [.ref 32, .int i1] [] (G1, I1, J1) (q_Rv (fun G2 I2 J2 => q_W β xs L d 42 0 [.ref 32, .int (-(I 32 4))] [] (G2, I2, J2) (q_Rv (fun G3 I3 J3 => q_W β xs L (d + 1) 35 7 [.ref 32, .int i1, .int (i2 + 1), .int (I 32 4)] [] (G3, I3, J3) Q) (fun x3 G3 I3 J3 => Q (.inr x3) (G3, I3, J3)))) (fun x2 G2 I2 J2 => Q (.inr x2) (G2, I2, J2)))) (fun x1 G1 I1 J1 => Q (.inr x1) (G1, I1, J1)))) : q_W β xs L (d + 1) 35 32 [.ref 32, .int i1, .int i2, v3] [] (G, I, J) Q := by
  refine w_al f_35_32 rfl ?_
  refine w_gi f_35_33 rfl ?_
  refine w_is (ls' := [.ref 32, .int i1, .int i2, .int (I 32 4)]) f_35_36 rfl ?_
  refine w_al f_35_37 rfl ?_
  refine w_inv (as := [.ref 32, .retAddr 0]) (st' := []) f_35_38 rfl rfl rfl rfl rfl rfl H (k_v (fun G1 I1 J1 H => ?_)) (x_n (fun _ => rfl) rfl (fun x h' h => h))
  refine w_al f_35_41 rfl ?_
  refine w_il f_35_42 rfl ?_
  refine w_inv (as := [.ref 32, .int i1]) (st' := []) f_35_43 rfl rfl rfl rfl rfl rfl H (k_v (fun G2 I2 J2 H => ?_)) (x_n (fun _ => rfl) rfl (fun x h' h => h))
  refine w_al f_35_46 rfl ?_
  refine w_il f_35_47 rfl ?_
  refine w_un f_35_48 ?_
  refine w_inv (as := [.ref 32, .int (-(I 32 4))]) (st' := []) f_35_49 rfl rfl rfl rfl rfl rfl H (k_v (fun G3 I3 J3 H => ?_)) (x_n (fun _ => rfl) rfl (fun x h' h => h))
  refine w_iinc (ls' := [.ref 32, .int i1, .int (i2 + 1), .int (I 32 4)]) f_35_52 rfl rfl ?_
  refine w_go f_35_55 ?_
  exact H
theorem g_35_58 {d : Nat} {G : am_G} {I : Nat → Nat → Int32} {J : Nat → Nat → Int64} {Q : am_O → am_H → Prop} (hR : q_RT G) (i1 : Int32) (i2 : Int32) (v3 : Value) (n3 : am_nl v3 = true) (H : Q (.inl none) (G, I, J)) : q_W β xs L (d + 1) 35 58 [.ref 32, .int i1, .int i2, v3] [] (G, I, J) Q := by
  exact w_ret0 f_35_58 H
theorem g_36_0 {d : Nat} {G : am_G} {I : Nat → Nat → Int32} {J : Nat → Nat → Int64} {Q : am_O → am_H → Prop} (hR : q_RT G) (i1 : Int32) (H : q_W β xs L d 38 0 [.ref 32, .int 40] [] (G, I, J) (q_Ri (fun y1 G1 I1 J1 => ((y1 = 0 → ((¬ (I1 32 4) = 3 → q_W β xs L d 39 0 [.ref 32] [] (G1, I1, J1) (q_Ri (fun y2 G2 I2 J2 => ((y2 = 0 → q_W β xs L (d + 1) 36 100 [.ref 32, .int i1] [] (G2, I2, J2) Q) ∧ (¬ y2 = 0 → q_W β xs L d 42 0 [.ref 32, .int (I2 32 7)] [] (G2, I2, J2) (q_Rv (fun G3 I3 J3 => q_W β xs L d 43 0 [.ref 32, .retAddr 0] [] (G3, I3, J3) (q_Rv (fun G4 I4 J4 => q_W β xs L (d + 1) 36 100 [.ref 32, .int i1] [] (G4, I4, J4) Q) (fun x4 G4 I4 J4 => Q (.inr x4) (G4, I4, J4)))) (fun x3 G3 I3 J3 => Q (.inr x3) (G3, I3, J3)))))) (fun x2 G2 I2 J2 => Q (.inr x2) (G2, I2, J2)))) ∧ ((I1 32 4) = 3 → (((I1 32 8) < 15 → q_W β xs L (d + 1) 36 55 [.ref 32, .int i1] [] (G1, I1, J1) Q) ∧ (¬ (I1 32 8) < 15 → (((I1 32 8) < 28 → q_W β xs L d 42 0 [.ref 32, .int ((-1) - ((I1 32 8) - 15))] [] (G1, I1, J1) (q_Rv (fun G5 I5 J5 => q_W β xs L d 43 0 [.ref 32, .retAddr 0] [] (G5, I5, J5) (q_Rv (fun G6 I6 J6 => q_W β xs L (d + 1) 36 100 [.ref 32, .int i1] [] (G6, I6, J6) Q) (fun x6 G6 I6 J6 => Q (.inr x6) (G6, I6, J6)))) (fun x5 G5 I5 J5 => Q (.inr x5) (G5, I5, J5)))) ∧ (¬ (I1 32 8) < 28 → q_W β xs L (d + 1) 36 55 [.ref 32, .int i1] [] (G1, I1, J1) Q))))))) ∧ (¬ y1 = 0 → q_W β xs L d 43 0 [.ref 32, .retAddr 0] [] (G1, I1, J1) (q_Rv (fun G7 I7 J7 => q_W β xs L d 31 0 [.ref 32, .int (i1 + 1), .retAddr 0] [] (G7, I7, J7) (q_Rv (fun G8 I8 J8 => q_W β xs L d 40 0 [.ref 32, .int 41] [] (G8, I8, J8) (q_Rv (fun G9 I9 J9 => q_W β xs L (d + 1) 36 100 [.ref 32, .int i1] [] (G9, I9, J9) Q) (fun x9 G9 I9 J9 => Q (.inr x9) (G9, I9, J9)))) (fun x8 G8 I8 J8 => Q (.inr x8) (G8, I8, J8)))) (fun x7 G7 I7 J7 => Q (.inr x7) (G7, I7, J7)))))) (fun x1 G1 I1 J1 => Q (.inr x1) (G1, I1, J1)))) : q_W β xs L (d + 1) 36 0 [.ref 32, .int i1] [] (G, I, J) Q := by
  refine w_al f_36_0 rfl ?_
  refine w_ic f_36_1 ?_
  refine w_inv (as := [.ref 32, .int 40]) (st' := []) f_36_3 rfl rfl rfl rfl rfl rfl H (k_i (fun y1 G1 I1 J1 H => ?_)) (x_n (fun _ => rfl) rfl (fun x h' h => h))
  refine w_ifeq f_36_6 (fun c => ?_) (fun c => ?_)
  · have H := H.1 c
    refine w_al f_36_29 rfl ?_
    refine w_gi f_36_30 rfl ?_
    refine w_ic f_36_33 ?_
    refine w_icne f_36_34 (fun c => ?_) (fun c => ?_)
    · have H := H.1 c
      refine w_al f_36_81 rfl ?_
      refine w_inv (as := [.ref 32]) (st' := []) f_36_82 rfl rfl rfl rfl rfl rfl H (k_i (fun y2 G2 I2 J2 H => ?_)) (x_n (fun _ => rfl) rfl (fun x h' h => h))
      refine w_ifeq f_36_85 (fun c => ?_) (fun c => ?_)
      · have H := H.1 c
        exact H
      · have H := H.2 c
        refine w_al f_36_88 rfl ?_
        refine w_al f_36_89 rfl ?_
        refine w_gi f_36_90 rfl ?_
        refine w_inv (as := [.ref 32, .int (I2 32 7)]) (st' := []) f_36_93 rfl rfl rfl rfl rfl rfl H (k_v (fun G3 I3 J3 H => ?_)) (x_n (fun _ => rfl) rfl (fun x h' h => h))
        refine w_al f_36_96 rfl ?_
        refine w_inv (as := [.ref 32, .retAddr 0]) (st' := []) f_36_97 rfl rfl rfl rfl rfl rfl H (k_v (fun G4 I4 J4 H => ?_)) (x_n (fun _ => rfl) rfl (fun x h' h => h))
        exact H
    · have H := H.2 c
      refine w_al f_36_37 rfl ?_
      refine w_gi f_36_38 rfl ?_
      refine w_ic f_36_41 ?_
      refine w_iclt f_36_43 (fun c => ?_) (fun c => ?_)
      · have H := H.1 c
        exact H
      · have H := H.2 c
        refine w_al f_36_46 rfl ?_
        refine w_gi f_36_47 rfl ?_
        refine w_ic f_36_50 ?_
        refine w_iclt f_36_52 (fun c => ?_) (fun c => ?_)
        · have H := H.1 c
          refine w_al f_36_61 rfl ?_
          refine w_ic f_36_62 ?_
          refine w_al f_36_63 rfl ?_
          refine w_gi f_36_64 rfl ?_
          refine w_ic f_36_67 ?_
          refine w_bin f_36_69 ?_
          refine w_bin f_36_70 ?_
          refine w_inv (as := [.ref 32, .int ((-1) - ((I1 32 8) - 15))]) (st' := []) f_36_71 rfl rfl rfl rfl rfl rfl H (k_v (fun G5 I5 J5 H => ?_)) (x_n (fun _ => rfl) rfl (fun x h' h => h))
          refine w_al f_36_74 rfl ?_
          refine w_inv (as := [.ref 32, .retAddr 0]) (st' := []) f_36_75 rfl rfl rfl rfl rfl rfl H (k_v (fun G6 I6 J6 H => ?_)) (x_n (fun _ => rfl) rfl (fun x h' h => h))
          refine w_go f_36_78 ?_
          exact H
        · have H := H.2 c
          exact H
  · have H := H.2 c
    refine w_al f_36_9 rfl ?_
    refine w_inv (as := [.ref 32, .retAddr 0]) (st' := []) f_36_10 rfl rfl rfl rfl rfl rfl H (k_v (fun G7 I7 J7 H => ?_)) (x_n (fun _ => rfl) rfl (fun x h' h => h))
    refine w_al f_36_13 rfl ?_
    refine w_il f_36_14 rfl ?_
    refine w_ic f_36_15 ?_
    refine w_bin f_36_16 ?_
    refine w_inv (as := [.ref 32, .int (i1 + 1), .retAddr 0]) (st' := []) f_36_17 rfl rfl rfl rfl rfl rfl H (k_v (fun G8 I8 J8 H => ?_)) (x_n (fun _ => rfl) rfl (fun x h' h => h))
    refine w_al f_36_20 rfl ?_
    refine w_ic f_36_21 ?_
    refine w_inv (as := [.ref 32, .int 41]) (st' := []) f_36_23 rfl rfl rfl rfl rfl rfl H (k_v (fun G9 I9 J9 H => ?_)) (x_n (fun _ => rfl) rfl (fun x h' h => h))
    refine w_go f_36_26 ?_
    exact H
theorem g_36_55 {d : Nat} {G : am_G} {I : Nat → Nat → Int32} {J : Nat → Nat → Int64} {Q : am_O → am_H → Prop} (hR : q_RT G) (i1 : Int32) (H : q_W β xs L d 41 0 [.ref 32, .int 3] [] (G, I, J) (q_Rv (fun G1 I1 J1 => Q (.inl none) (G1, I1, J1)) (fun x1 G1 I1 J1 => Q (.inr x1) (G1, I1, J1)))) : q_W β xs L (d + 1) 36 55 [.ref 32, .int i1] [] (G, I, J) Q := by
  refine w_al f_36_55 rfl ?_
  refine w_ic f_36_56 ?_
  refine w_inv (as := [.ref 32, .int 3]) (st' := []) f_36_57 rfl rfl rfl rfl rfl rfl H (k_v (fun G1 I1 J1 H => ?_)) (x_n (fun _ => rfl) rfl (fun x h' h => h))
  exact w_ret0 f_36_60 H
theorem g_36_100 {d : Nat} {G : am_G} {I : Nat → Nat → Int32} {J : Nat → Nat → Int64} {Q : am_O → am_H → Prop} (hR : q_RT G) (i1 : Int32) (H : Q (.inl none) (G, I, J)) : q_W β xs L (d + 1) 36 100 [.ref 32, .int i1] [] (G, I, J) Q := by
  exact w_ret0 f_36_100 H
theorem g_37_0 {d : Nat} {G : am_G} {I : Nat → Nat → Int32} {J : Nat → Nat → Int64} {Q : am_O → am_H → Prop} (hR : q_RT G) (i1 : Int32) (H : ((¬ (I 32 10) = 0 → q_W β xs L d 37 27 [.ref 32, .int i1] [] (G, I, J) Q) ∧ ((I 32 10) = 0 → ((¬ (I 32 4) = 3 → q_W β xs L d 37 27 [.ref 32, .int i1] [] (G, I, J) Q) ∧ ((I 32 4) = 3 → ((¬ (I 32 8) = i1 → q_W β xs L d 37 27 [.ref 32, .int i1] [] (G, I, J) Q) ∧ ((I 32 8) = i1 → q_W β xs L d 37 28 [.ref 32, .int i1] [.int 1] (G, I, J) Q))))))) : q_W β xs L d 37 0 [.ref 32, .int i1] [] (G, I, J) Q := by
  refine w_al f_37_0 rfl ?_
  refine w_gi f_37_1 rfl ?_
  refine w_ifne f_37_4 (fun c => ?_) (fun c => ?_)
  · have H := H.1 c
    exact H
  · have H := H.2 c
    refine w_al f_37_7 rfl ?_
    refine w_gi f_37_8 rfl ?_
    refine w_ic f_37_11 ?_
    refine w_icne f_37_12 (fun c => ?_) (fun c => ?_)
    · have H := H.1 c
      exact H
    · have H := H.2 c
      refine w_al f_37_15 rfl ?_
      refine w_gi f_37_16 rfl ?_
      refine w_il f_37_19 rfl ?_
      refine w_icne f_37_20 (fun c => ?_) (fun c => ?_)
      · have H := H.1 c
        exact H
      · have H := H.2 c
        refine w_ic f_37_23 ?_
        refine w_go f_37_24 ?_
        exact H
theorem g_37_27 {d : Nat} {G : am_G} {I : Nat → Nat → Int32} {J : Nat → Nat → Int64} {Q : am_O → am_H → Prop} (hR : q_RT G) (i1 : Int32) (H : q_W β xs L d 37 28 [.ref 32, .int i1] [.int 0] (G, I, J) Q) : q_W β xs L d 37 27 [.ref 32, .int i1] [] (G, I, J) Q := by
  refine w_ic f_37_27 ?_
  exact H
theorem g_37_28 {d : Nat} {G : am_G} {I : Nat → Nat → Int32} {J : Nat → Nat → Int64} {Q : am_O → am_H → Prop} (hR : q_RT G) (i1 : Int32) (is0 : Int32) (H : (((is0 : Int32) = 0 ∨ (is0 : Int32) = 1) ∧ Q (.inl (some (.int is0))) (G, I, J))) : q_W β xs L d 37 28 [.ref 32, .int i1] [.int is0] (G, I, J) Q := by
  exact w_retz f_37_28 H.1 H.2
theorem g_38_0 {d : Nat} {G : am_G} {I : Nat → Nat → Int32} {J : Nat → Nat → Int64} {Q : am_O → am_H → Prop} (hR : q_RT G) (i1 : Int32) (H : ((¬ (I 32 10) = 0 → q_W β xs L d 38 19 [.ref 32, .int i1] [] (G, I, J) Q) ∧ ((I 32 10) = 0 → ((¬ (I 32 4) = i1 → q_W β xs L d 38 19 [.ref 32, .int i1] [] (G, I, J) Q) ∧ ((I 32 4) = i1 → q_W β xs L d 38 20 [.ref 32, .int i1] [.int 1] (G, I, J) Q))))) : q_W β xs L d 38 0 [.ref 32, .int i1] [] (G, I, J) Q := by
  refine w_al f_38_0 rfl ?_
  refine w_gi f_38_1 rfl ?_
  refine w_ifne f_38_4 (fun c => ?_) (fun c => ?_)
  · have H := H.1 c
    exact H
  · have H := H.2 c
    refine w_al f_38_7 rfl ?_
    refine w_gi f_38_8 rfl ?_
    refine w_il f_38_11 rfl ?_
    refine w_icne f_38_12 (fun c => ?_) (fun c => ?_)
    · have H := H.1 c
      exact H
    · have H := H.2 c
      refine w_ic f_38_15 ?_
      refine w_go f_38_16 ?_
      exact H
theorem g_38_19 {d : Nat} {G : am_G} {I : Nat → Nat → Int32} {J : Nat → Nat → Int64} {Q : am_O → am_H → Prop} (hR : q_RT G) (i1 : Int32) (H : q_W β xs L d 38 20 [.ref 32, .int i1] [.int 0] (G, I, J) Q) : q_W β xs L d 38 19 [.ref 32, .int i1] [] (G, I, J) Q := by
  refine w_ic f_38_19 ?_
  exact H
theorem g_38_20 {d : Nat} {G : am_G} {I : Nat → Nat → Int32} {J : Nat → Nat → Int64} {Q : am_O → am_H → Prop} (hR : q_RT G) (i1 : Int32) (is0 : Int32) (H : (((is0 : Int32) = 0 ∨ (is0 : Int32) = 1) ∧ Q (.inl (some (.int is0))) (G, I, J))) : q_W β xs L d 38 20 [.ref 32, .int i1] [.int is0] (G, I, J) Q := by
  exact w_retz f_38_20 H.1 H.2
theorem g_39_0 {d : Nat} {G : am_G} {I : Nat → Nat → Int32} {J : Nat → Nat → Int64} {Q : am_O → am_H → Prop} (hR : q_RT G)  (H : (((I 32 4) = 2 → ((¬ 5 < (I 32 6) → q_W β xs L (d + 1) 39 29 [.ref 32] [] (G, I, J) Q) ∧ (5 < (I 32 6) → q_W β xs L d 41 0 [.ref 32, .int 2] [] (G, I, J) (q_Rv (fun G1 I1 J1 => q_W β xs L (d + 1) 39 29 [.ref 32] [] (G1, I1, J1) Q) (fun x1 G1 I1 J1 => Q (.inr x1) (G1, I1, J1)))))) ∧ (¬ (I 32 4) = 2 → q_W β xs L d 41 0 [.ref 32, .int 1] [] (G, I, J) (q_Rv (fun G2 I2 J2 => q_W β xs L (d + 1) 39 29 [.ref 32] [] (G2, I2, J2) Q) (fun x2 G2 I2 J2 => Q (.inr x2) (G2, I2, J2)))))) : q_W β xs L (d + 1) 39 0 [.ref 32] [] (G, I, J) Q := by
  refine w_al f_39_0 rfl ?_
  refine w_gi f_39_1 rfl ?_
  refine w_ic f_39_4 ?_
  refine w_iceq f_39_5 (fun c => ?_) (fun c => ?_)
  · have H := H.1 c
    refine w_al f_39_16 rfl ?_
    refine w_gi f_39_17 rfl ?_
    refine w_ic f_39_20 ?_
    refine w_icle f_39_21 (fun c => ?_) (fun c => ?_)
    · have H := H.1 c
      exact H
    · have H := H.2 c
      refine w_al f_39_24 rfl ?_
      refine w_ic f_39_25 ?_
      refine w_inv (as := [.ref 32, .int 2]) (st' := []) f_39_26 rfl rfl rfl rfl rfl rfl H (k_v (fun G1 I1 J1 H => ?_)) (x_n (fun _ => rfl) rfl (fun x h' h => h))
      exact H
  · have H := H.2 c
    refine w_al f_39_8 rfl ?_
    refine w_ic f_39_9 ?_
    refine w_inv (as := [.ref 32, .int 1]) (st' := []) f_39_10 rfl rfl rfl rfl rfl rfl H (k_v (fun G2 I2 J2 H => ?_)) (x_n (fun _ => rfl) rfl (fun x h' h => h))
    refine w_go f_39_13 ?_
    exact H
theorem g_39_29 {d : Nat} {G : am_G} {I : Nat → Nat → Int32} {J : Nat → Nat → Int64} {Q : am_O → am_H → Prop} (hR : q_RT G)  (H : ((¬ (I 32 10) = 0 → q_W β xs L (d + 1) 39 41 [.ref 32] [.int 0] (G, I, J) Q) ∧ ((I 32 10) = 0 → q_W β xs L (d + 1) 39 41 [.ref 32] [.int 1] (G, I, J) Q))) : q_W β xs L (d + 1) 39 29 [.ref 32] [] (G, I, J) Q := by
  refine w_al f_39_29 rfl ?_
  refine w_gi f_39_30 rfl ?_
  refine w_ifne f_39_33 (fun c => ?_) (fun c => ?_)
  · have H := H.1 c
    refine w_ic f_39_40 ?_
    exact H
  · have H := H.2 c
    refine w_ic f_39_36 ?_
    refine w_go f_39_37 ?_
    exact H
theorem g_39_41 {d : Nat} {G : am_G} {I : Nat → Nat → Int32} {J : Nat → Nat → Int64} {Q : am_O → am_H → Prop} (hR : q_RT G) (is0 : Int32) (H : (((is0 : Int32) = 0 ∨ (is0 : Int32) = 1) ∧ Q (.inl (some (.int is0))) (G, I, J))) : q_W β xs L (d + 1) 39 41 [.ref 32] [.int is0] (G, I, J) Q := by
  exact w_retz f_39_41 H.1 H.2
theorem g_40_0 {d : Nat} {G : am_G} {I : Nat → Nat → Int32} {J : Nat → Nat → Int64} {Q : am_O → am_H → Prop} (hR : q_RT G) (i1 : Int32) (H : ((¬ (I 32 4) = i1 → q_W β xs L d 41 0 [.ref 32, .int 1] [] (G, I, J) (q_Rv (fun G1 I1 J1 => q_W β xs L (d + 1) 40 20 [.ref 32, .int i1] [] (G1, I1, J1) Q) (fun x1 G1 I1 J1 => Q (.inr x1) (G1, I1, J1)))) ∧ ((I 32 4) = i1 → q_W β xs L d 43 0 [.ref 32, .retAddr 0] [] (G, I, J) (q_Rv (fun G2 I2 J2 => q_W β xs L (d + 1) 40 20 [.ref 32, .int i1] [] (G2, I2, J2) Q) (fun x2 G2 I2 J2 => Q (.inr x2) (G2, I2, J2)))))) : q_W β xs L (d + 1) 40 0 [.ref 32, .int i1] [] (G, I, J) Q := by
  refine w_al f_40_0 rfl ?_
  refine w_gi f_40_1 rfl ?_
  refine w_il f_40_4 rfl ?_
  refine w_icne f_40_5 (fun c => ?_) (fun c => ?_)
  · have H := H.1 c
    refine w_al f_40_15 rfl ?_
    refine w_ic f_40_16 ?_
    refine w_inv (as := [.ref 32, .int 1]) (st' := []) f_40_17 rfl rfl rfl rfl rfl rfl H (k_v (fun G1 I1 J1 H => ?_)) (x_n (fun _ => rfl) rfl (fun x h' h => h))
    exact H
  · have H := H.2 c
    refine w_al f_40_8 rfl ?_
    refine w_inv (as := [.ref 32, .retAddr 0]) (st' := []) f_40_9 rfl rfl rfl rfl rfl rfl H (k_v (fun G2 I2 J2 H => ?_)) (x_n (fun _ => rfl) rfl (fun x h' h => h))
    refine w_go f_40_12 ?_
    exact H
theorem g_40_20 {d : Nat} {G : am_G} {I : Nat → Nat → Int32} {J : Nat → Nat → Int64} {Q : am_O → am_H → Prop} (hR : q_RT G) (i1 : Int32) (H : Q (.inl none) (G, I, J)) : q_W β xs L (d + 1) 40 20 [.ref 32, .int i1] [] (G, I, J) Q := by
  exact w_ret0 f_40_20 H
theorem g_41_0 {d : Nat} {G : am_G} {I : Nat → Nat → Int32} {J : Nat → Nat → Int64} {Q : am_O → am_H → Prop} (hR : q_RT G) (i1 : Int32) (H : ((¬ (I 32 10) = 0 → q_W β xs L d 41 20 [.ref 32, .int i1] [] (G, I, J) Q) ∧ ((I 32 10) = 0 → q_W β xs L d 41 20 [.ref 32, .int i1] [] (G, (am_u (am_u I 32 10 i1) 32 11 (I 32 5)), J) Q))) : q_W β xs L d 41 0 [.ref 32, .int i1] [] (G, I, J) Q := by
  refine w_al f_41_0 rfl ?_
  refine w_gi f_41_1 rfl ?_
  refine w_ifne f_41_4 (fun c => ?_) (fun c => ?_)
  · have H := H.1 c
    exact H
  · have H := H.2 c
    refine w_al f_41_7 rfl ?_
    refine w_il f_41_8 rfl ?_
    refine w_pi f_41_9 rfl ?_
    refine w_al f_41_12 rfl ?_
    refine w_al f_41_13 rfl ?_
    refine w_gi' f_41_14 rfl (am_u_ne (Or.inr (by decide))) ?_
    refine w_pi f_41_17 rfl ?_
    exact H
theorem g_41_20 {d : Nat} {G : am_G} {I : Nat → Nat → Int32} {J : Nat → Nat → Int64} {Q : am_O → am_H → Prop} (hR : q_RT G) (i1 : Int32) (H : Q (.inl none) (G, I, J)) : q_W β xs L d 41 20 [.ref 32, .int i1] [] (G, I, J) Q := by
  exact w_ret0 f_41_20 H
theorem g_42_0 {d : Nat} {G : am_G} {I : Nat → Nat → Int32} {J : Nat → Nat → Int64} {Q : am_O → am_H → Prop} (hR : q_RT G) (i1 : Int32) (H : (((I 32 9) < 0 → q_W β xs L d 42 45 [.ref 32, .int i1] [] (G, I, J) Q) ∧ (¬ (I 32 9) < 0 → ((¬ (I 32 9) < (Int32.ofNat 6000) → q_W β xs L d 42 45 [.ref 32, .int i1] [] (G, I, J) Q) ∧ ((I 32 9) < (Int32.ofNat 6000) → (am_is (I 32 9) 6000 = true ∧ q_W β xs L d 42 45 [.ref 32, .int i1] [] (G, (am_u (am_u I 31 ((I 32 9)).toNatClampNeg i1) 32 9 ((I 32 9) + 1)), J) Q)))))) : q_W β xs L d 42 0 [.ref 32, .int i1] [] (G, I, J) Q := by
  refine w_al f_42_0 rfl ?_
  refine w_gi f_42_1 rfl ?_
  refine w_iflt f_42_4 (fun c => ?_) (fun c => ?_)
  · have H := H.1 c
    exact H
  · have H := H.2 c
    refine w_al f_42_7 rfl ?_
    refine w_gi f_42_8 rfl ?_
    refine w_al f_42_11 rfl ?_
    refine w_gr f_42_12 rfl (hR _ _ _ rfl) ?_
    refine w_gr f_42_15 rfl (hR _ _ _ rfl) ?_
    refine w_alen f_42_18 rfl ?_
    refine w_icge f_42_19 (fun c => ?_) (fun c => ?_)
    · have H := H.1 c
      exact H
    · have H := H.2 c
      refine w_al f_42_22 rfl ?_
      refine w_gr f_42_23 rfl (hR _ _ _ rfl) ?_
      refine w_gr f_42_26 rfl (hR _ _ _ rfl) ?_
      refine w_al f_42_29 rfl ?_
      refine w_gi f_42_30 rfl ?_
      refine w_il f_42_33 rfl ?_
      have hb := H.1
      have H := H.2
      refine w_ast f_42_34 rfl hb ?_
      refine w_al f_42_35 rfl ?_
      refine w_dupr f_42_36 ?_
      refine w_gi' f_42_37 rfl (am_u_ne (Or.inl (by decide))) ?_
      refine w_ic f_42_40 ?_
      refine w_bin f_42_41 ?_
      refine w_pi f_42_42 rfl ?_
      exact H
theorem g_42_45 {d : Nat} {G : am_G} {I : Nat → Nat → Int32} {J : Nat → Nat → Int64} {Q : am_O → am_H → Prop} (hR : q_RT G) (i1 : Int32) (H : Q (.inl none) (G, I, J)) : q_W β xs L d 42 45 [.ref 32, .int i1] [] (G, I, J) Q := by
  exact w_ret0 f_42_45 H
theorem g_43_0 {d : Nat} {G : am_G} {I : Nat → Nat → Int32} {J : Nat → Nat → Int64} {Q : am_O → am_H → Prop} (hR : q_RT G)  (H : ((¬ (I 32 3) < (I 32 2) → q_W β xs L (d + 1) 43 52 [.ref 32, .retAddr 0] [] (G, I, J) Q) ∧ ((I 32 3) < (I 32 2) → (∃ r1 : Nat, G.2.1 32 1 = some r1 ∧ (∃ N2 : Nat, q_SH r1 = .inl (.byte, N2) ∧ am_is (I 32 3) N2 = true ∧ (((I r1 ((I 32 3)).toNatClampNeg) = 32 → q_W β xs L (d + 1) 43 39 [.ref 32, .retAddr 0] [] (G, I, J) Q) ∧ (¬ (I r1 ((I 32 3)).toNatClampNeg) = 32 → (∃ r3 : Nat, G.2.1 32 1 = some r3 ∧ (∃ N4 : Nat, q_SH r3 = .inl (.byte, N4) ∧ am_is (I 32 3) N4 = true ∧ ((¬ (I r3 ((I 32 3)).toNatClampNeg) = 10 → q_W β xs L (d + 1) 43 52 [.ref 32, .retAddr 0] [] (G, I, J) Q) ∧ ((I r3 ((I 32 3)).toNatClampNeg) = 10 → q_W β xs L (d + 1) 43 39 [.ref 32, .retAddr 0] [] (G, I, J) Q))))))))))) : q_W β xs L (d + 1) 43 0 [.ref 32, .retAddr 0] [] (G, I, J) Q := by
  refine w_al f_43_0 rfl ?_
  refine w_gi f_43_1 rfl ?_
  refine w_al f_43_4 rfl ?_
  refine w_gi f_43_5 rfl ?_
  refine w_icge f_43_8 (fun c => ?_) (fun c => ?_)
  · have H := H.1 c
    exact H
  · have H := H.2 c
    refine w_al f_43_11 rfl ?_
    obtain ⟨r1, hb, H⟩ := H
    refine w_gr f_43_12 rfl hb ?_
    refine w_al f_43_15 rfl ?_
    refine w_gi f_43_16 rfl ?_
    obtain ⟨N2, hs, hb, H⟩ := H
    refine w_ald f_43_19 hs hb ?_
    refine w_ic f_43_20 ?_
    refine w_iceq f_43_22 (fun c => ?_) (fun c => ?_)
    · have H := H.1 c
      exact H
    · have H := H.2 c
      refine w_al f_43_25 rfl ?_
      obtain ⟨r3, hb, H⟩ := H
      refine w_gr f_43_26 rfl hb ?_
      refine w_al f_43_29 rfl ?_
      refine w_gi f_43_30 rfl ?_
      obtain ⟨N4, hs, hb, H⟩ := H
      refine w_ald f_43_33 hs hb ?_
      refine w_ic f_43_34 ?_
      refine w_icne f_43_36 (fun c => ?_) (fun c => ?_)
      · have H := H.1 c
        exact H
      · have H := H.2 c
        exact H
theorem g_43_39 {d : Nat} {G : am_G} {I : Nat → Nat → Int32} {J : Nat → Nat → Int64} {Q : am_O → am_H → Prop} (hR : q_RT G)  (H : q_W β xs L (d + 1) 43 0 [.ref 32, .retAddr 0] [] (G, (am_u I 32 3 ((I 32 3) + 1)), J) Q) : q_W β xs L (d + 1) 43 39 [.ref 32, .retAddr 0] [] (G, I, J) Q := by
  refine w_al f_43_39 rfl ?_
  refine w_dupr f_43_40 ?_
  refine w_gi f_43_41 rfl ?_
  refine w_ic f_43_44 ?_
  refine w_bin f_43_45 ?_
  refine w_pi f_43_46 rfl ?_
  refine w_go f_43_49 ?_
  exact H
theorem g_43_52 {d : Nat} {G : am_G} {I : Nat → Nat → Int32} {J : Nat → Nat → Int64} {Q : am_O → am_H → Prop} (hR : q_RT G)  (H : (((I 32 3) < (I 32 2) → (∃ r1 : Nat, G.2.1 32 1 = some r1 ∧ (∃ N2 : Nat, q_SH r1 = .inl (.byte, N2) ∧ am_is (I 32 3) N2 = true ∧ q_W β xs L d 46 0 [.int ((am_u I 32 5 (I 32 3)) r1 ((I 32 3)).toNatClampNeg)] [] (G, (am_u I 32 5 (I 32 3)), J) (q_Ri (fun y3 G3 I3 J3 => ((y3 = 0 → (∃ r4 : Nat, G3.2.1 32 1 = some r4 ∧ (∃ N5 : Nat, q_SH r4 = .inl (.byte, N5) ∧ am_is (I3 32 3) N5 = true ∧ q_W β xs L d 47 0 [.int (I3 r4 ((I3 32 3)).toNatClampNeg)] [] (G3, I3, J3) (q_Ri (fun y6 G6 I6 J6 => ((y6 = 0 → (∃ r7 : Nat, G6.2.1 32 1 = some r7 ∧ (∃ N8 : Nat, q_SH r7 = .inl (.byte, N8) ∧ am_is (I6 32 3) N8 = true ∧ ((¬ 0 < (I6 r7 ((I6 32 3)).toNatClampNeg) → q_W β xs L (d + 1) 43 210 [.ref 32, .retAddr 0] [] (G6, I6, J6) Q) ∧ (0 < (I6 r7 ((I6 32 3)).toNatClampNeg) → (∃ r9 : Nat, G6.2.1 32 1 = some r9 ∧ (∃ N10 : Nat, q_SH r9 = .inl (.byte, N10) ∧ am_is (I6 32 3) N10 = true ∧ ((4 = 3 ∨ 4 = 4) ∧ q_W β xs L d 210 0 [.retAddr 4, .int (((I6 r9 ((I6 32 3)).toNatClampNeg).toUInt32 % 65536).toInt32)] [] (G6, I6, J6) (q_Ri (fun y11 G11 I11 J11 => ((y11 < 0 → q_W β xs L (d + 1) 43 210 [.ref 32, .retAddr 0] [] (G11, I11, J11) Q) ∧ (¬ y11 < 0 → q_W β xs L (d + 1) 43 211 [.ref 32, .retAddr 0] [.int 1] (G11, I11, J11) Q))) (fun x11 G11 I11 J11 => Q (.inr x11) (G11, I11, J11))))))))))) ∧ (¬ y6 = 0 → q_W β xs L d 44 0 [.ref 32] [] (G6, (am_u I6 32 4 2), J6) (q_Rv (fun G12 I12 J12 => q_W β xs L (d + 1) 43 243 [.ref 32, .retAddr 0] [] (G12, I12, J12) Q) (fun x12 G12 I12 J12 => Q (.inr x12) (G12, I12, J12)))))) (fun x6 G6 I6 J6 => Q (.inr x6) (G6, I6, J6)))))) ∧ (¬ y3 = 0 → q_W β xs L (d + 1) 43 99 [.ref 32, .retAddr 0] [] (G3, (am_u I3 32 4 3), J3) Q))) (fun x3 G3 I3 J3 => Q (.inr x3) (G3, I3, J3)))))) ∧ (¬ (I 32 3) < (I 32 2) → q_W β xs L (d + 1) 43 243 [.ref 32, .retAddr 0] [] (G, (am_u (am_u I 32 5 (I 32 3)) 32 4 0), J) Q))) : q_W β xs L (d + 1) 43 52 [.ref 32, .retAddr 0] [] (G, I, J) Q := by
  refine w_al f_43_52 rfl ?_
  refine w_al f_43_53 rfl ?_
  refine w_gi f_43_54 rfl ?_
  refine w_pi f_43_57 rfl ?_
  refine w_al f_43_60 rfl ?_
  refine w_gi' f_43_61 rfl (am_u_ne (Or.inr (by decide))) ?_
  refine w_al f_43_64 rfl ?_
  refine w_gi' f_43_65 rfl (am_u_ne (Or.inr (by decide))) ?_
  refine w_iclt f_43_68 (fun c => ?_) (fun c => ?_)
  · have H := H.1 c
    refine w_al f_43_79 rfl ?_
    obtain ⟨r1, hb, H⟩ := H
    refine w_gr f_43_80 rfl hb ?_
    refine w_al f_43_83 rfl ?_
    refine w_gi' f_43_84 rfl (am_u_ne (Or.inr (by decide))) ?_
    obtain ⟨N2, hs, hb, H⟩ := H
    refine w_ald f_43_87 hs hb ?_
    refine w_invs (as := [.int ((am_u I 32 5 (I 32 3)) r1 ((I 32 3)).toNatClampNeg)]) (st' := []) f_43_88 rfl rfl rfl rfl rfl H (k_i (fun y3 G3 I3 J3 H => ?_)) (x_n (fun _ => rfl) rfl (fun x h' h => h))
    refine w_ifeq f_43_91 (fun c => ?_) (fun c => ?_)
    · have H := H.1 c
      refine w_al f_43_149 rfl ?_
      obtain ⟨r4, hb, H⟩ := H
      refine w_gr f_43_150 rfl hb ?_
      refine w_al f_43_153 rfl ?_
      refine w_gi f_43_154 rfl ?_
      obtain ⟨N5, hs, hb, H⟩ := H
      refine w_ald f_43_157 hs hb ?_
      refine w_invs (as := [.int (I3 r4 ((I3 32 3)).toNatClampNeg)]) (st' := []) f_43_158 rfl rfl rfl rfl rfl H (k_i (fun y6 G6 I6 J6 H => ?_)) (x_n (fun _ => rfl) rfl (fun x h' h => h))
      refine w_ifeq f_43_161 (fun c => ?_) (fun c => ?_)
      · have H := H.1 c
        refine w_al f_43_176 rfl ?_
        obtain ⟨r7, hb, H⟩ := H
        refine w_gr f_43_177 rfl hb ?_
        refine w_al f_43_180 rfl ?_
        refine w_gi f_43_181 rfl ?_
        obtain ⟨N8, hs, hb, H⟩ := H
        refine w_ald f_43_184 hs hb ?_
        refine w_ifle f_43_185 (fun c => ?_) (fun c => ?_)
        · have H := H.1 c
          exact H
        · have H := H.2 c
          refine w_es f_43_188 ?_
          refine w_al f_43_190 rfl ?_
          obtain ⟨r9, hb, H⟩ := H
          refine w_gr f_43_191 rfl hb ?_
          refine w_al f_43_194 rfl ?_
          refine w_gi f_43_195 rfl ?_
          obtain ⟨N10, hs, hb, H⟩ := H
          refine w_ald f_43_198 hs hb ?_
          refine w_un f_43_199 ?_
          have hb := H.1
          have H := H.2
          refine w_invx (as := [.retAddr 4, .int (((I6 r9 ((I6 32 3)).toNatClampNeg).toUInt32 % 65536).toInt32)]) (st' := []) f_43_200 rfl rfl rfl hb rfl rfl H (k_i (fun y11 G11 I11 J11 H => ?_)) (x_n (fun _ => rfl) rfl (fun x h' h => h))
          refine w_iflt f_43_203 (fun c => ?_) (fun c => ?_)
          · have H := H.1 c
            exact H
          · have H := H.2 c
            refine w_ic f_43_206 ?_
            refine w_go f_43_207 ?_
            exact H
      · have H := H.2 c
        refine w_al f_43_164 rfl ?_
        refine w_ic f_43_165 ?_
        refine w_pi f_43_166 rfl ?_
        refine w_al f_43_169 rfl ?_
        refine w_inv (as := [.ref 32]) (st' := []) f_43_170 rfl rfl rfl rfl rfl rfl H (k_v (fun G12 I12 J12 H => ?_)) (x_n (fun _ => rfl) rfl (fun x h' h => h))
        refine w_go f_43_173 ?_
        exact H
    · have H := H.2 c
      refine w_al f_43_94 rfl ?_
      refine w_ic f_43_95 ?_
      refine w_pi f_43_96 rfl ?_
      exact H
  · have H := H.2 c
    refine w_al f_43_71 rfl ?_
    refine w_ic f_43_72 ?_
    refine w_pi f_43_73 rfl ?_
    refine w_go f_43_76 ?_
    exact H
theorem g_43_99 {d : Nat} {G : am_G} {I : Nat → Nat → Int32} {J : Nat → Nat → Int64} {Q : am_O → am_H → Prop} (hR : q_RT G)  (H : ((¬ (I 32 3) < (I 32 2) → q_W β xs L (d + 1) 43 138 [.ref 32, .retAddr 0] [] (G, I, J) Q) ∧ ((I 32 3) < (I 32 2) → (∃ r1 : Nat, G.2.1 32 1 = some r1 ∧ (∃ N2 : Nat, q_SH r1 = .inl (.byte, N2) ∧ am_is (I 32 3) N2 = true ∧ q_W β xs L d 46 0 [.int (I r1 ((I 32 3)).toNatClampNeg)] [] (G, I, J) (q_Ri (fun y3 G3 I3 J3 => ((y3 = 0 → q_W β xs L (d + 1) 43 138 [.ref 32, .retAddr 0] [] (G3, I3, J3) Q) ∧ (¬ y3 = 0 → q_W β xs L (d + 1) 43 99 [.ref 32, .retAddr 0] [] (G3, (am_u I3 32 3 ((I3 32 3) + 1)), J3) Q))) (fun x3 G3 I3 J3 => Q (.inr x3) (G3, I3, J3)))))))) : q_W β xs L (d + 1) 43 99 [.ref 32, .retAddr 0] [] (G, I, J) Q := by
  refine w_al f_43_99 rfl ?_
  refine w_gi f_43_100 rfl ?_
  refine w_al f_43_103 rfl ?_
  refine w_gi f_43_104 rfl ?_
  refine w_icge f_43_107 (fun c => ?_) (fun c => ?_)
  · have H := H.1 c
    exact H
  · have H := H.2 c
    refine w_al f_43_110 rfl ?_
    obtain ⟨r1, hb, H⟩ := H
    refine w_gr f_43_111 rfl hb ?_
    refine w_al f_43_114 rfl ?_
    refine w_gi f_43_115 rfl ?_
    obtain ⟨N2, hs, hb, H⟩ := H
    refine w_ald f_43_118 hs hb ?_
    refine w_invs (as := [.int (I r1 ((I 32 3)).toNatClampNeg)]) (st' := []) f_43_119 rfl rfl rfl rfl rfl H (k_i (fun y3 G3 I3 J3 H => ?_)) (x_n (fun _ => rfl) rfl (fun x h' h => h))
    refine w_ifeq f_43_122 (fun c => ?_) (fun c => ?_)
    · have H := H.1 c
      exact H
    · have H := H.2 c
      refine w_al f_43_125 rfl ?_
      refine w_dupr f_43_126 ?_
      refine w_gi f_43_127 rfl ?_
      refine w_ic f_43_130 ?_
      refine w_bin f_43_131 ?_
      refine w_pi f_43_132 rfl ?_
      refine w_go f_43_135 ?_
      exact H
theorem g_43_138 {d : Nat} {G : am_G} {I : Nat → Nat → Int32} {J : Nat → Nat → Int64} {Q : am_O → am_H → Prop} (hR : q_RT G)  (H : q_W β xs L d 45 0 [.ref 32, .retAddr 0, .retAddr 0, .retAddr 0, .retAddr 0] [] (G, I, J) (q_Ri (fun y1 G1 I1 J1 => q_W β xs L (d + 1) 43 243 [.ref 32, .retAddr 0] [] (G1, (am_u I1 32 8 y1), J1) Q) (fun x1 G1 I1 J1 => Q (.inr x1) (G1, I1, J1)))) : q_W β xs L (d + 1) 43 138 [.ref 32, .retAddr 0] [] (G, I, J) Q := by
  refine w_al f_43_138 rfl ?_
  refine w_al f_43_139 rfl ?_
  refine w_inv (as := [.ref 32, .retAddr 0, .retAddr 0, .retAddr 0, .retAddr 0]) (st' := [.ref 32]) f_43_140 rfl rfl rfl rfl rfl rfl H (k_i (fun y1 G1 I1 J1 H => ?_)) (x_n (fun _ => rfl) rfl (fun x h' h => h))
  refine w_pi f_43_143 rfl ?_
  refine w_go f_43_146 ?_
  exact H
theorem g_43_210 {d : Nat} {G : am_G} {I : Nat → Nat → Int32} {J : Nat → Nat → Int64} {Q : am_O → am_H → Prop} (hR : q_RT G)  (H : q_W β xs L (d + 1) 43 211 [.ref 32, .retAddr 0] [.int 0] (G, I, J) Q) : q_W β xs L (d + 1) 43 210 [.ref 32, .retAddr 0] [] (G, I, J) Q := by
  refine w_ic f_43_210 ?_
  exact H
theorem g_43_211 {d : Nat} {G : am_G} {I : Nat → Nat → Int32} {J : Nat → Nat → Int64} {Q : am_O → am_H → Prop} (hR : q_RT G) (is0 : Int32) (H : ((is0 = 0 → q_W β xs L (d + 1) 43 230 [.ref 32, .int is0] [.int 1, .ref 32] (G, I, J) Q) ∧ (¬ is0 = 0 → (∃ r1 : Nat, G.2.1 32 1 = some r1 ∧ (∃ N2 : Nat, q_SH r1 = .inl (.byte, N2) ∧ am_is (I 32 3) N2 = true ∧ q_W β xs L (d + 1) 43 230 [.ref 32, .int is0] [.int (I r1 ((I 32 3)).toNatClampNeg), .ref 32] (G, I, J) Q))))) : q_W β xs L (d + 1) 43 211 [.ref 32, .retAddr 0] [.int is0] (G, I, J) Q := by
  refine w_is (ls' := [.ref 32, .int is0]) f_43_211 rfl ?_
  refine w_al f_43_212 rfl ?_
  refine w_il f_43_213 rfl ?_
  refine w_ifeq f_43_214 (fun c => ?_) (fun c => ?_)
  · have H := H.1 c
    refine w_ic f_43_229 ?_
    exact H
  · have H := H.2 c
    refine w_al f_43_217 rfl ?_
    obtain ⟨r1, hb, H⟩ := H
    refine w_gr f_43_218 rfl hb ?_
    refine w_al f_43_221 rfl ?_
    refine w_gi f_43_222 rfl ?_
    obtain ⟨N2, hs, hb, H⟩ := H
    refine w_ald f_43_225 hs hb ?_
    refine w_go f_43_226 ?_
    exact H
theorem g_43_230 {d : Nat} {G : am_G} {I : Nat → Nat → Int32} {J : Nat → Nat → Int64} {Q : am_O → am_H → Prop} (hR : q_RT G) (i1 : Int32) (is0 : Int32) (H : q_W β xs L (d + 1) 43 243 [.ref 32, .int i1] [] (G, (am_u (am_u I 32 4 is0) 32 3 ((I 32 3) + 1)), J) Q) : q_W β xs L (d + 1) 43 230 [.ref 32, .int i1] [.int is0, .ref 32] (G, I, J) Q := by
  refine w_pi f_43_230 rfl ?_
  refine w_al f_43_233 rfl ?_
  refine w_dupr f_43_234 ?_
  refine w_gi' f_43_235 rfl (am_u_ne (Or.inr (by decide))) ?_
  refine w_ic f_43_238 ?_
  refine w_bin f_43_239 ?_
  refine w_pi f_43_240 rfl ?_
  exact H
theorem g_43_243 {d : Nat} {G : am_G} {I : Nat → Nat → Int32} {J : Nat → Nat → Int64} {Q : am_O → am_H → Prop} (hR : q_RT G) (v1 : Value) (n1 : am_nl v1 = true) (H : Q (.inl none) (G, I, J)) : q_W β xs L (d + 1) 43 243 [.ref 32, v1] [] (G, I, J) Q := by
  exact w_ret0 f_43_243 H
theorem g_44_0 {d : Nat} {G : am_G} {I : Nat → Nat → Int32} {J : Nat → Nat → Int64} {Q : am_O → am_H → Prop} (hR : q_RT G)  (H : q_W β xs L (d + 1) 44 10 [.ref 32] [] (G, (am_u (am_u I 32 6 0) 32 7 0), J) Q) : q_W β xs L (d + 1) 44 0 [.ref 32] [] (G, I, J) Q := by
  refine w_al f_44_0 rfl ?_
  refine w_ic f_44_1 ?_
  refine w_pi f_44_2 rfl ?_
  refine w_al f_44_5 rfl ?_
  refine w_ic f_44_6 ?_
  refine w_pi f_44_7 rfl ?_
  exact H
theorem g_44_10 {d : Nat} {G : am_G} {I : Nat → Nat → Int32} {J : Nat → Nat → Int64} {Q : am_O → am_H → Prop} (hR : q_RT G)  (H : ((¬ (I 32 3) < (I 32 2) → q_W β xs L (d + 1) 44 91 [.ref 32] [] (G, I, J) Q) ∧ ((I 32 3) < (I 32 2) → (∃ r1 : Nat, G.2.1 32 1 = some r1 ∧ (∃ N2 : Nat, q_SH r1 = .inl (.byte, N2) ∧ am_is (I 32 3) N2 = true ∧ q_W β xs L d 47 0 [.int (I r1 ((I 32 3)).toNatClampNeg)] [] (G, I, J) (q_Ri (fun y3 G3 I3 J3 => ((y3 = 0 → q_W β xs L (d + 1) 44 91 [.ref 32] [] (G3, I3, J3) Q) ∧ (¬ y3 = 0 → ((5 < ((I3 32 6) + 1) → q_W β xs L (d + 1) 44 78 [.ref 32] [] (G3, (am_u I3 32 6 ((I3 32 6) + 1)), J3) Q) ∧ (¬ 5 < ((I3 32 6) + 1) → (∃ r4 : Nat, G3.2.1 32 1 = some r4 ∧ (∃ N5 : Nat, q_SH r4 = .inl (.byte, N5) ∧ am_is (I3 32 3) N5 = true ∧ q_W β xs L (d + 1) 44 78 [.ref 32] [] (G3, (am_u (am_u I3 32 6 ((I3 32 6) + 1)) 32 7 (((I3 32 7) * 10) + (((am_u I3 32 6 ((I3 32 6) + 1)) r4 ((I3 32 3)).toNatClampNeg) - 48))), J3) Q))))))) (fun x3 G3 I3 J3 => Q (.inr x3) (G3, I3, J3)))))))) : q_W β xs L (d + 1) 44 10 [.ref 32] [] (G, I, J) Q := by
  refine w_al f_44_10 rfl ?_
  refine w_gi f_44_11 rfl ?_
  refine w_al f_44_14 rfl ?_
  refine w_gi f_44_15 rfl ?_
  refine w_icge f_44_18 (fun c => ?_) (fun c => ?_)
  · have H := H.1 c
    exact H
  · have H := H.2 c
    refine w_al f_44_21 rfl ?_
    obtain ⟨r1, hb, H⟩ := H
    refine w_gr f_44_22 rfl hb ?_
    refine w_al f_44_25 rfl ?_
    refine w_gi f_44_26 rfl ?_
    obtain ⟨N2, hs, hb, H⟩ := H
    refine w_ald f_44_29 hs hb ?_
    refine w_invs (as := [.int (I r1 ((I 32 3)).toNatClampNeg)]) (st' := []) f_44_30 rfl rfl rfl rfl rfl H (k_i (fun y3 G3 I3 J3 H => ?_)) (x_n (fun _ => rfl) rfl (fun x h' h => h))
    refine w_ifeq f_44_33 (fun c => ?_) (fun c => ?_)
    · have H := H.1 c
      exact H
    · have H := H.2 c
      refine w_al f_44_36 rfl ?_
      refine w_dupr f_44_37 ?_
      refine w_gi f_44_38 rfl ?_
      refine w_ic f_44_41 ?_
      refine w_bin f_44_42 ?_
      refine w_pi f_44_43 rfl ?_
      refine w_al f_44_46 rfl ?_
      refine w_gi' f_44_47 rfl (am_u_same) ?_
      refine w_ic f_44_50 ?_
      refine w_icgt f_44_51 (fun c => ?_) (fun c => ?_)
      · have H := H.1 c
        exact H
      · have H := H.2 c
        refine w_al f_44_54 rfl ?_
        refine w_al f_44_55 rfl ?_
        refine w_gi' f_44_56 rfl (am_u_ne (Or.inr (by decide))) ?_
        refine w_ic f_44_59 ?_
        refine w_bin f_44_61 ?_
        refine w_al f_44_62 rfl ?_
        obtain ⟨r4, hb, H⟩ := H
        refine w_gr f_44_63 rfl hb ?_
        refine w_al f_44_66 rfl ?_
        refine w_gi' f_44_67 rfl (am_u_ne (Or.inr (by decide))) ?_
        obtain ⟨N5, hs, hb, H⟩ := H
        refine w_ald f_44_70 hs hb ?_
        refine w_ic f_44_71 ?_
        refine w_bin f_44_73 ?_
        refine w_bin f_44_74 ?_
        refine w_pi f_44_75 rfl ?_
        exact H
theorem g_44_78 {d : Nat} {G : am_G} {I : Nat → Nat → Int32} {J : Nat → Nat → Int64} {Q : am_O → am_H → Prop} (hR : q_RT G)  (H : q_W β xs L (d + 1) 44 10 [.ref 32] [] (G, (am_u I 32 3 ((I 32 3) + 1)), J) Q) : q_W β xs L (d + 1) 44 78 [.ref 32] [] (G, I, J) Q := by
  refine w_al f_44_78 rfl ?_
  refine w_dupr f_44_79 ?_
  refine w_gi f_44_80 rfl ?_
  refine w_ic f_44_83 ?_
  refine w_bin f_44_84 ?_
  refine w_pi f_44_85 rfl ?_
  refine w_go f_44_88 ?_
  exact H
theorem g_44_91 {d : Nat} {G : am_G} {I : Nat → Nat → Int32} {J : Nat → Nat → Int64} {Q : am_O → am_H → Prop} (hR : q_RT G)  (H : Q (.inl none) (G, I, J)) : q_W β xs L (d + 1) 44 91 [.ref 32] [] (G, I, J) Q := by
  exact w_ret0 f_44_91 H
theorem g_45_0 {d : Nat} {G : am_G} {I : Nat → Nat → Int32} {J : Nat → Nat → Int64} {Q : am_O → am_H → Prop} (hR : q_RT G)  (H : q_W β xs L (d + 1) 45 9 [.ref 32, .int 0, .int (I 32 5), .int 0, .retAddr 0] [] (G, I, J) Q) : q_W β xs L (d + 1) 45 0 [.ref 32, .retAddr 0, .retAddr 0, .retAddr 0, .retAddr 0] [] (G, I, J) Q := by
  refine w_ic f_45_0 ?_
  refine w_is (ls' := [.ref 32, .int 0, .retAddr 0, .retAddr 0, .retAddr 0]) f_45_1 rfl ?_
  refine w_al f_45_2 rfl ?_
  refine w_gi f_45_3 rfl ?_
  refine w_is (ls' := [.ref 32, .int 0, .int (I 32 5), .retAddr 0, .retAddr 0]) f_45_6 rfl ?_
  refine w_ic f_45_7 ?_
  refine w_is (ls' := [.ref 32, .int 0, .int (I 32 5), .int 0, .retAddr 0]) f_45_8 rfl ?_
  exact H
theorem g_45_9 {d : Nat} {G : am_G} {I : Nat → Nat → Int32} {J : Nat → Nat → Int64} {Q : am_O → am_H → Prop} (hR : q_RT G) (i1 : Int32) (i2 : Int32) (i3 : Int32) (v4 : Value) (n4 : am_nl v4 = true) (H : ((3 = 3 ∨ 3 = 4) ∧ q_W β xs L d 203 0 [.retAddr 3] [] (G, I, J) (q_Ri (fun y1 G1 I1 J1 => ((¬ i3 < y1 → Q (.inl (some (.int 28))) (G1, I1, J1)) ∧ (i3 < y1 → ((3 = 3 ∨ 3 = 4) ∧ q_W β xs L d 205 0 [.retAddr 3, .int i3] [] (G1, I1, J1) (q_Ri (fun y2 G2 I2 J2 => ((y2 = 32 → ((¬ i2 = (I2 32 3) → q_W β xs L (d + 1) 45 85 [.ref 32, .int (i1 + 1), .int (I2 32 5), .int i3, .int y2] [] (G2, I2, J2) Q) ∧ (i2 = (I2 32 3) → Q (.inl (some (.int i1))) (G2, I2, J2)))) ∧ (¬ y2 = 32 → ((i2 < 0 → q_W β xs L (d + 1) 45 62 [.ref 32, .int i1, .int i2, .int i3, .int y2] [] (G2, I2, J2) Q) ∧ (¬ i2 < 0 → ((¬ i2 < (I2 32 3) → q_W β xs L (d + 1) 45 62 [.ref 32, .int i1, .int i2, .int i3, .int y2] [] (G2, I2, J2) Q) ∧ (i2 < (I2 32 3) → (∃ r3 : Nat, G2.2.1 32 1 = some r3 ∧ (∃ N4 : Nat, q_SH r3 = .inl (.byte, N4) ∧ am_is i2 N4 = true ∧ ((¬ (I2 r3 (i2).toNatClampNeg) = y2 → q_W β xs L (d + 1) 45 62 [.ref 32, .int i1, .int i2, .int i3, .int y2] [] (G2, I2, J2) Q) ∧ ((I2 r3 (i2).toNatClampNeg) = y2 → q_W β xs L (d + 1) 45 63 [.ref 32, .int i1, .int i2, .int i3, .int y2] [.int (i2 + 1)] (G2, I2, J2) Q))))))))))) (fun x2 G2 I2 J2 => Q (.inr x2) (G2, I2, J2))))))) (fun x1 G1 I1 J1 => Q (.inr x1) (G1, I1, J1))))) : q_W β xs L (d + 1) 45 9 [.ref 32, .int i1, .int i2, .int i3, v4] [] (G, I, J) Q := by
  refine w_il f_45_9 rfl ?_
  refine w_es f_45_10 ?_
  have hb := H.1
  have H := H.2
  refine w_invx (as := [.retAddr 3]) (st' := [.int i3]) f_45_12 rfl rfl rfl hb rfl rfl H (k_i (fun y1 G1 I1 J1 H => ?_)) (x_n (fun _ => rfl) rfl (fun x h' h => h))
  refine w_icge f_45_15 (fun c => ?_) (fun c => ?_)
  · have H := H.1 c
    refine w_ic f_45_91 ?_
    exact w_reti f_45_93 H
  · have H := H.2 c
    refine w_es f_45_18 ?_
    refine w_il f_45_20 rfl ?_
    have hb := H.1
    have H := H.2
    refine w_invx (as := [.retAddr 3, .int i3]) (st' := []) f_45_21 rfl rfl rfl hb rfl rfl H (k_i (fun y2 G2 I2 J2 H => ?_)) (x_n (fun _ => rfl) rfl (fun x h' h => h))
    refine w_is (ls' := [.ref 32, .int i1, .int i2, .int i3, .int y2]) f_45_24 rfl ?_
    refine w_il f_45_26 rfl ?_
    refine w_ic f_45_28 ?_
    refine w_iceq f_45_30 (fun c => ?_) (fun c => ?_)
    · have H := H.1 c
      refine w_il f_45_67 rfl ?_
      refine w_al f_45_68 rfl ?_
      refine w_gi f_45_69 rfl ?_
      refine w_icne f_45_72 (fun c => ?_) (fun c => ?_)
      · have H := H.1 c
        refine w_iinc (ls' := [.ref 32, .int (i1 + 1), .int i2, .int i3, .int y2]) f_45_77 rfl rfl ?_
        refine w_al f_45_80 rfl ?_
        refine w_gi f_45_81 rfl ?_
        refine w_is (ls' := [.ref 32, .int (i1 + 1), .int (I2 32 5), .int i3, .int y2]) f_45_84 rfl ?_
        exact H
      · have H := H.2 c
        refine w_il f_45_75 rfl ?_
        exact w_reti f_45_76 H
    · have H := H.2 c
      refine w_il f_45_33 rfl ?_
      refine w_iflt f_45_34 (fun c => ?_) (fun c => ?_)
      · have H := H.1 c
        exact H
      · have H := H.2 c
        refine w_il f_45_37 rfl ?_
        refine w_al f_45_38 rfl ?_
        refine w_gi f_45_39 rfl ?_
        refine w_icge f_45_42 (fun c => ?_) (fun c => ?_)
        · have H := H.1 c
          exact H
        · have H := H.2 c
          refine w_al f_45_45 rfl ?_
          obtain ⟨r3, hb, H⟩ := H
          refine w_gr f_45_46 rfl hb ?_
          refine w_il f_45_49 rfl ?_
          obtain ⟨N4, hs, hb, H⟩ := H
          refine w_ald f_45_50 hs hb ?_
          refine w_il f_45_51 rfl ?_
          refine w_icne f_45_53 (fun c => ?_) (fun c => ?_)
          · have H := H.1 c
            exact H
          · have H := H.2 c
            refine w_il f_45_56 rfl ?_
            refine w_ic f_45_57 ?_
            refine w_bin f_45_58 ?_
            refine w_go f_45_59 ?_
            exact H
theorem g_45_62 {d : Nat} {G : am_G} {I : Nat → Nat → Int32} {J : Nat → Nat → Int64} {Q : am_O → am_H → Prop} (hR : q_RT G) (i1 : Int32) (i2 : Int32) (i3 : Int32) (i4 : Int32) (H : q_W β xs L (d + 1) 45 63 [.ref 32, .int i1, .int i2, .int i3, .int i4] [.int (-1)] (G, I, J) Q) : q_W β xs L (d + 1) 45 62 [.ref 32, .int i1, .int i2, .int i3, .int i4] [] (G, I, J) Q := by
  refine w_ic f_45_62 ?_
  exact H
theorem g_45_63 {d : Nat} {G : am_G} {I : Nat → Nat → Int32} {J : Nat → Nat → Int64} {Q : am_O → am_H → Prop} (hR : q_RT G) (i1 : Int32) (i2 : Int32) (i3 : Int32) (i4 : Int32) (is0 : Int32) (H : q_W β xs L (d + 1) 45 85 [.ref 32, .int i1, .int is0, .int i3, .int i4] [] (G, I, J) Q) : q_W β xs L (d + 1) 45 63 [.ref 32, .int i1, .int i2, .int i3, .int i4] [.int is0] (G, I, J) Q := by
  refine w_is (ls' := [.ref 32, .int i1, .int is0, .int i3, .int i4]) f_45_63 rfl ?_
  refine w_go f_45_64 ?_
  exact H
theorem g_45_85 {d : Nat} {G : am_G} {I : Nat → Nat → Int32} {J : Nat → Nat → Int64} {Q : am_O → am_H → Prop} (hR : q_RT G) (i1 : Int32) (i2 : Int32) (i3 : Int32) (i4 : Int32) (H : q_W β xs L (d + 1) 45 9 [.ref 32, .int i1, .int i2, .int (i3 + 1), .int i4] [] (G, I, J) Q) : q_W β xs L (d + 1) 45 85 [.ref 32, .int i1, .int i2, .int i3, .int i4] [] (G, I, J) Q := by
  refine w_iinc (ls' := [.ref 32, .int i1, .int i2, .int (i3 + 1), .int i4]) f_45_85 rfl rfl ?_
  refine w_go f_45_88 ?_
  exact H
theorem g_46_0 {d : Nat} {G : am_G} {I : Nat → Nat → Int32} {J : Nat → Nat → Int64} {Q : am_O → am_H → Prop} (hR : q_RT G) (i0 : Int32) (H : ((i0 < 97 → q_W β xs L d 46 16 [.int i0] [] (G, I, J) Q) ∧ (¬ i0 < 97 → ((122 < i0 → q_W β xs L d 46 16 [.int i0] [] (G, I, J) Q) ∧ (¬ 122 < i0 → q_W β xs L d 46 17 [.int i0] [.int 1] (G, I, J) Q))))) : q_W β xs L d 46 0 [.int i0] [] (G, I, J) Q := by
  refine w_il f_46_0 rfl ?_
  refine w_ic f_46_1 ?_
  refine w_iclt f_46_3 (fun c => ?_) (fun c => ?_)
  · have H := H.1 c
    exact H
  · have H := H.2 c
    refine w_il f_46_6 rfl ?_
    refine w_ic f_46_7 ?_
    refine w_icgt f_46_9 (fun c => ?_) (fun c => ?_)
    · have H := H.1 c
      exact H
    · have H := H.2 c
      refine w_ic f_46_12 ?_
      refine w_go f_46_13 ?_
      exact H
theorem g_46_16 {d : Nat} {G : am_G} {I : Nat → Nat → Int32} {J : Nat → Nat → Int64} {Q : am_O → am_H → Prop} (hR : q_RT G) (i0 : Int32) (H : q_W β xs L d 46 17 [.int i0] [.int 0] (G, I, J) Q) : q_W β xs L d 46 16 [.int i0] [] (G, I, J) Q := by
  refine w_ic f_46_16 ?_
  exact H
theorem g_46_17 {d : Nat} {G : am_G} {I : Nat → Nat → Int32} {J : Nat → Nat → Int64} {Q : am_O → am_H → Prop} (hR : q_RT G) (i0 : Int32) (is0 : Int32) (H : (((is0 : Int32) = 0 ∨ (is0 : Int32) = 1) ∧ Q (.inl (some (.int is0))) (G, I, J))) : q_W β xs L d 46 17 [.int i0] [.int is0] (G, I, J) Q := by
  exact w_retz f_46_17 H.1 H.2
theorem g_47_0 {d : Nat} {G : am_G} {I : Nat → Nat → Int32} {J : Nat → Nat → Int64} {Q : am_O → am_H → Prop} (hR : q_RT G) (i0 : Int32) (H : ((i0 < 48 → q_W β xs L d 47 16 [.int i0] [] (G, I, J) Q) ∧ (¬ i0 < 48 → ((57 < i0 → q_W β xs L d 47 16 [.int i0] [] (G, I, J) Q) ∧ (¬ 57 < i0 → q_W β xs L d 47 17 [.int i0] [.int 1] (G, I, J) Q))))) : q_W β xs L d 47 0 [.int i0] [] (G, I, J) Q := by
  refine w_il f_47_0 rfl ?_
  refine w_ic f_47_1 ?_
  refine w_iclt f_47_3 (fun c => ?_) (fun c => ?_)
  · have H := H.1 c
    exact H
  · have H := H.2 c
    refine w_il f_47_6 rfl ?_
    refine w_ic f_47_7 ?_
    refine w_icgt f_47_9 (fun c => ?_) (fun c => ?_)
    · have H := H.1 c
      exact H
    · have H := H.2 c
      refine w_ic f_47_12 ?_
      refine w_go f_47_13 ?_
      exact H
theorem g_47_16 {d : Nat} {G : am_G} {I : Nat → Nat → Int32} {J : Nat → Nat → Int64} {Q : am_O → am_H → Prop} (hR : q_RT G) (i0 : Int32) (H : q_W β xs L d 47 17 [.int i0] [.int 0] (G, I, J) Q) : q_W β xs L d 47 16 [.int i0] [] (G, I, J) Q := by
  refine w_ic f_47_16 ?_
  exact H
theorem g_47_17 {d : Nat} {G : am_G} {I : Nat → Nat → Int32} {J : Nat → Nat → Int64} {Q : am_O → am_H → Prop} (hR : q_RT G) (i0 : Int32) (is0 : Int32) (H : (((is0 : Int32) = 0 ∨ (is0 : Int32) = 1) ∧ Q (.inl (some (.int is0))) (G, I, J))) : q_W β xs L d 47 17 [.int i0] [.int is0] (G, I, J) Q := by
  exact w_retz f_47_17 H.1 H.2
theorem g_49_0 {d : Nat} {G : am_G} {I : Nat → Nat → Int32} {J : Nat → Nat → Int64} {Q : am_O → am_H → Prop} (hR : q_RT G) (i1 : Int32) (i2 : Int32) (H : (am_is i1 20 = true ∧ ((¬ (I 5 (i1).toNatClampNeg) = (-1) → (am_is i1 20 = true ∧ q_W β xs L d 49 25 [.ref 3, .int i1, .int i2, .retAddr 0] [.int (I 5 (i1).toNatClampNeg)] (G, I, J) Q)) ∧ ((I 5 (i1).toNatClampNeg) = (-1) → (am_is i1 20 = true ∧ q_W β xs L d 49 25 [.ref 3, .int i1, .int i2, .retAddr 0] [.int (I 6 (i1).toNatClampNeg)] (G, I, J) Q))))) : q_W β xs L d 49 0 [.ref 3, .int i1, .int i2, .retAddr 0] [] (G, I, J) Q := by
  refine w_al f_49_0 rfl ?_
  refine w_gr f_49_1 rfl (hR _ _ _ rfl) ?_
  refine w_il f_49_4 rfl ?_
  have hb := H.1
  have H := H.2
  refine w_ald f_49_5 rfl hb ?_
  refine w_ic f_49_6 ?_
  refine w_icne f_49_7 (fun c => ?_) (fun c => ?_)
  · have H := H.1 c
    refine w_al f_49_19 rfl ?_
    refine w_gr f_49_20 rfl (hR _ _ _ rfl) ?_
    refine w_il f_49_23 rfl ?_
    have hb := H.1
    have H := H.2
    refine w_ald f_49_24 rfl hb ?_
    exact H
  · have H := H.2 c
    refine w_al f_49_10 rfl ?_
    refine w_gr f_49_11 rfl (hR _ _ _ rfl) ?_
    refine w_il f_49_14 rfl ?_
    have hb := H.1
    have H := H.2
    refine w_ald f_49_15 rfl hb ?_
    refine w_go f_49_16 ?_
    exact H
theorem g_49_25 {d : Nat} {G : am_G} {I : Nat → Nat → Int32} {J : Nat → Nat → Int64} {Q : am_O → am_H → Prop} (hR : q_RT G) (i1 : Int32) (i2 : Int32) (is0 : Int32) (H : ((¬ is0 = i2 → q_W β xs L d 49 36 [.ref 3, .int i1, .int i2, .int is0] [.int 0] (G, I, J) Q) ∧ (is0 = i2 → q_W β xs L d 49 36 [.ref 3, .int i1, .int i2, .int is0] [.int 1] (G, I, J) Q))) : q_W β xs L d 49 25 [.ref 3, .int i1, .int i2, .retAddr 0] [.int is0] (G, I, J) Q := by
  refine w_is (ls' := [.ref 3, .int i1, .int i2, .int is0]) f_49_25 rfl ?_
  refine w_il f_49_26 rfl ?_
  refine w_il f_49_27 rfl ?_
  refine w_icne f_49_28 (fun c => ?_) (fun c => ?_)
  · have H := H.1 c
    refine w_ic f_49_35 ?_
    exact H
  · have H := H.2 c
    refine w_ic f_49_31 ?_
    refine w_go f_49_32 ?_
    exact H
theorem g_49_36 {d : Nat} {G : am_G} {I : Nat → Nat → Int32} {J : Nat → Nat → Int64} {Q : am_O → am_H → Prop} (hR : q_RT G) (i1 : Int32) (i2 : Int32) (i3 : Int32) (is0 : Int32) (H : (((is0 : Int32) = 0 ∨ (is0 : Int32) = 1) ∧ Q (.inl (some (.int is0))) (G, I, J))) : q_W β xs L d 49 36 [.ref 3, .int i1, .int i2, .int i3] [.int is0] (G, I, J) Q := by
  exact w_retz f_49_36 H.1 H.2
theorem g_200_0 {d : Nat} {G : am_G} {I : Nat → Nat → Int32} {J : Nat → Nat → Int64} {Q : am_O → am_H → Prop} (hR : q_RT G) (i0 : Int32) (H : Q (.inl (some (.int ((((((((i0 - (((i0.toUInt32 >>> ((1 : Int32).toUInt32 &&& Int32.toUInt32 31)).toInt32) &&& 1431655765)) &&& 858993459) + ((((i0 - (((i0.toUInt32 >>> ((1 : Int32).toUInt32 &&& Int32.toUInt32 31)).toInt32) &&& 1431655765)).toUInt32 >>> ((2 : Int32).toUInt32 &&& Int32.toUInt32 31)).toInt32) &&& 858993459)) + (((((i0 - (((i0.toUInt32 >>> ((1 : Int32).toUInt32 &&& Int32.toUInt32 31)).toInt32) &&& 1431655765)) &&& 858993459) + ((((i0 - (((i0.toUInt32 >>> ((1 : Int32).toUInt32 &&& Int32.toUInt32 31)).toInt32) &&& 1431655765)).toUInt32 >>> ((2 : Int32).toUInt32 &&& Int32.toUInt32 31)).toInt32) &&& 858993459)).toUInt32 >>> ((4 : Int32).toUInt32 &&& Int32.toUInt32 31)).toInt32)) &&& 252645135) + (((((((i0 - (((i0.toUInt32 >>> ((1 : Int32).toUInt32 &&& Int32.toUInt32 31)).toInt32) &&& 1431655765)) &&& 858993459) + ((((i0 - (((i0.toUInt32 >>> ((1 : Int32).toUInt32 &&& Int32.toUInt32 31)).toInt32) &&& 1431655765)).toUInt32 >>> ((2 : Int32).toUInt32 &&& Int32.toUInt32 31)).toInt32) &&& 858993459)) + (((((i0 - (((i0.toUInt32 >>> ((1 : Int32).toUInt32 &&& Int32.toUInt32 31)).toInt32) &&& 1431655765)) &&& 858993459) + ((((i0 - (((i0.toUInt32 >>> ((1 : Int32).toUInt32 &&& Int32.toUInt32 31)).toInt32) &&& 1431655765)).toUInt32 >>> ((2 : Int32).toUInt32 &&& Int32.toUInt32 31)).toInt32) &&& 858993459)).toUInt32 >>> ((4 : Int32).toUInt32 &&& Int32.toUInt32 31)).toInt32)) &&& 252645135).toUInt32 >>> ((8 : Int32).toUInt32 &&& Int32.toUInt32 31)).toInt32)) + ((((((((i0 - (((i0.toUInt32 >>> ((1 : Int32).toUInt32 &&& Int32.toUInt32 31)).toInt32) &&& 1431655765)) &&& 858993459) + ((((i0 - (((i0.toUInt32 >>> ((1 : Int32).toUInt32 &&& Int32.toUInt32 31)).toInt32) &&& 1431655765)).toUInt32 >>> ((2 : Int32).toUInt32 &&& Int32.toUInt32 31)).toInt32) &&& 858993459)) + (((((i0 - (((i0.toUInt32 >>> ((1 : Int32).toUInt32 &&& Int32.toUInt32 31)).toInt32) &&& 1431655765)) &&& 858993459) + ((((i0 - (((i0.toUInt32 >>> ((1 : Int32).toUInt32 &&& Int32.toUInt32 31)).toInt32) &&& 1431655765)).toUInt32 >>> ((2 : Int32).toUInt32 &&& Int32.toUInt32 31)).toInt32) &&& 858993459)).toUInt32 >>> ((4 : Int32).toUInt32 &&& Int32.toUInt32 31)).toInt32)) &&& 252645135) + (((((((i0 - (((i0.toUInt32 >>> ((1 : Int32).toUInt32 &&& Int32.toUInt32 31)).toInt32) &&& 1431655765)) &&& 858993459) + ((((i0 - (((i0.toUInt32 >>> ((1 : Int32).toUInt32 &&& Int32.toUInt32 31)).toInt32) &&& 1431655765)).toUInt32 >>> ((2 : Int32).toUInt32 &&& Int32.toUInt32 31)).toInt32) &&& 858993459)) + (((((i0 - (((i0.toUInt32 >>> ((1 : Int32).toUInt32 &&& Int32.toUInt32 31)).toInt32) &&& 1431655765)) &&& 858993459) + ((((i0 - (((i0.toUInt32 >>> ((1 : Int32).toUInt32 &&& Int32.toUInt32 31)).toInt32) &&& 1431655765)).toUInt32 >>> ((2 : Int32).toUInt32 &&& Int32.toUInt32 31)).toInt32) &&& 858993459)).toUInt32 >>> ((4 : Int32).toUInt32 &&& Int32.toUInt32 31)).toInt32)) &&& 252645135).toUInt32 >>> ((8 : Int32).toUInt32 &&& Int32.toUInt32 31)).toInt32)).toUInt32 >>> ((16 : Int32).toUInt32 &&& Int32.toUInt32 31)).toInt32)) &&& 63)))) (G, I, J)) : q_W β xs L d 200 0 [.int i0] [] (G, I, J) Q := by
  refine w_il f_200_0 rfl ?_
  refine w_il f_200_1 rfl ?_
  refine w_ic f_200_2 ?_
  refine w_bin f_200_3 ?_
  refine w_ic f_200_4 ?_
  refine w_bin f_200_7 ?_
  refine w_bin f_200_8 ?_
  refine w_is (ls' := [.int (i0 - (((i0.toUInt32 >>> ((1 : Int32).toUInt32 &&& Int32.toUInt32 31)).toInt32) &&& 1431655765))]) f_200_9 rfl ?_
  refine w_il f_200_10 rfl ?_
  refine w_ic f_200_11 ?_
  refine w_bin f_200_14 ?_
  refine w_il f_200_15 rfl ?_
  refine w_ic f_200_16 ?_
  refine w_bin f_200_17 ?_
  refine w_ic f_200_18 ?_
  refine w_bin f_200_21 ?_
  refine w_bin f_200_22 ?_
  refine w_is (ls' := [.int (((i0 - (((i0.toUInt32 >>> ((1 : Int32).toUInt32 &&& Int32.toUInt32 31)).toInt32) &&& 1431655765)) &&& 858993459) + ((((i0 - (((i0.toUInt32 >>> ((1 : Int32).toUInt32 &&& Int32.toUInt32 31)).toInt32) &&& 1431655765)).toUInt32 >>> ((2 : Int32).toUInt32 &&& Int32.toUInt32 31)).toInt32) &&& 858993459))]) f_200_23 rfl ?_
  refine w_il f_200_24 rfl ?_
  refine w_il f_200_25 rfl ?_
  refine w_ic f_200_26 ?_
  refine w_bin f_200_27 ?_
  refine w_bin f_200_28 ?_
  refine w_ic f_200_29 ?_
  refine w_bin f_200_32 ?_
  refine w_is (ls' := [.int (((((i0 - (((i0.toUInt32 >>> ((1 : Int32).toUInt32 &&& Int32.toUInt32 31)).toInt32) &&& 1431655765)) &&& 858993459) + ((((i0 - (((i0.toUInt32 >>> ((1 : Int32).toUInt32 &&& Int32.toUInt32 31)).toInt32) &&& 1431655765)).toUInt32 >>> ((2 : Int32).toUInt32 &&& Int32.toUInt32 31)).toInt32) &&& 858993459)) + (((((i0 - (((i0.toUInt32 >>> ((1 : Int32).toUInt32 &&& Int32.toUInt32 31)).toInt32) &&& 1431655765)) &&& 858993459) + ((((i0 - (((i0.toUInt32 >>> ((1 : Int32).toUInt32 &&& Int32.toUInt32 31)).toInt32) &&& 1431655765)).toUInt32 >>> ((2 : Int32).toUInt32 &&& Int32.toUInt32 31)).toInt32) &&& 858993459)).toUInt32 >>> ((4 : Int32).toUInt32 &&& Int32.toUInt32 31)).toInt32)) &&& 252645135)]) f_200_33 rfl ?_
  refine w_il f_200_34 rfl ?_
  refine w_il f_200_35 rfl ?_
  refine w_ic f_200_36 ?_
  refine w_bin f_200_38 ?_
  refine w_bin f_200_39 ?_
  refine w_is (ls' := [.int ((((((i0 - (((i0.toUInt32 >>> ((1 : Int32).toUInt32 &&& Int32.toUInt32 31)).toInt32) &&& 1431655765)) &&& 858993459) + ((((i0 - (((i0.toUInt32 >>> ((1 : Int32).toUInt32 &&& Int32.toUInt32 31)).toInt32) &&& 1431655765)).toUInt32 >>> ((2 : Int32).toUInt32 &&& Int32.toUInt32 31)).toInt32) &&& 858993459)) + (((((i0 - (((i0.toUInt32 >>> ((1 : Int32).toUInt32 &&& Int32.toUInt32 31)).toInt32) &&& 1431655765)) &&& 858993459) + ((((i0 - (((i0.toUInt32 >>> ((1 : Int32).toUInt32 &&& Int32.toUInt32 31)).toInt32) &&& 1431655765)).toUInt32 >>> ((2 : Int32).toUInt32 &&& Int32.toUInt32 31)).toInt32) &&& 858993459)).toUInt32 >>> ((4 : Int32).toUInt32 &&& Int32.toUInt32 31)).toInt32)) &&& 252645135) + (((((((i0 - (((i0.toUInt32 >>> ((1 : Int32).toUInt32 &&& Int32.toUInt32 31)).toInt32) &&& 1431655765)) &&& 858993459) + ((((i0 - (((i0.toUInt32 >>> ((1 : Int32).toUInt32 &&& Int32.toUInt32 31)).toInt32) &&& 1431655765)).toUInt32 >>> ((2 : Int32).toUInt32 &&& Int32.toUInt32 31)).toInt32) &&& 858993459)) + (((((i0 - (((i0.toUInt32 >>> ((1 : Int32).toUInt32 &&& Int32.toUInt32 31)).toInt32) &&& 1431655765)) &&& 858993459) + ((((i0 - (((i0.toUInt32 >>> ((1 : Int32).toUInt32 &&& Int32.toUInt32 31)).toInt32) &&& 1431655765)).toUInt32 >>> ((2 : Int32).toUInt32 &&& Int32.toUInt32 31)).toInt32) &&& 858993459)).toUInt32 >>> ((4 : Int32).toUInt32 &&& Int32.toUInt32 31)).toInt32)) &&& 252645135).toUInt32 >>> ((8 : Int32).toUInt32 &&& Int32.toUInt32 31)).toInt32))]) f_200_40 rfl ?_
  refine w_il f_200_41 rfl ?_
  refine w_il f_200_42 rfl ?_
  refine w_ic f_200_43 ?_
  refine w_bin f_200_45 ?_
  refine w_bin f_200_46 ?_
  refine w_is (ls' := [.int (((((((i0 - (((i0.toUInt32 >>> ((1 : Int32).toUInt32 &&& Int32.toUInt32 31)).toInt32) &&& 1431655765)) &&& 858993459) + ((((i0 - (((i0.toUInt32 >>> ((1 : Int32).toUInt32 &&& Int32.toUInt32 31)).toInt32) &&& 1431655765)).toUInt32 >>> ((2 : Int32).toUInt32 &&& Int32.toUInt32 31)).toInt32) &&& 858993459)) + (((((i0 - (((i0.toUInt32 >>> ((1 : Int32).toUInt32 &&& Int32.toUInt32 31)).toInt32) &&& 1431655765)) &&& 858993459) + ((((i0 - (((i0.toUInt32 >>> ((1 : Int32).toUInt32 &&& Int32.toUInt32 31)).toInt32) &&& 1431655765)).toUInt32 >>> ((2 : Int32).toUInt32 &&& Int32.toUInt32 31)).toInt32) &&& 858993459)).toUInt32 >>> ((4 : Int32).toUInt32 &&& Int32.toUInt32 31)).toInt32)) &&& 252645135) + (((((((i0 - (((i0.toUInt32 >>> ((1 : Int32).toUInt32 &&& Int32.toUInt32 31)).toInt32) &&& 1431655765)) &&& 858993459) + ((((i0 - (((i0.toUInt32 >>> ((1 : Int32).toUInt32 &&& Int32.toUInt32 31)).toInt32) &&& 1431655765)).toUInt32 >>> ((2 : Int32).toUInt32 &&& Int32.toUInt32 31)).toInt32) &&& 858993459)) + (((((i0 - (((i0.toUInt32 >>> ((1 : Int32).toUInt32 &&& Int32.toUInt32 31)).toInt32) &&& 1431655765)) &&& 858993459) + ((((i0 - (((i0.toUInt32 >>> ((1 : Int32).toUInt32 &&& Int32.toUInt32 31)).toInt32) &&& 1431655765)).toUInt32 >>> ((2 : Int32).toUInt32 &&& Int32.toUInt32 31)).toInt32) &&& 858993459)).toUInt32 >>> ((4 : Int32).toUInt32 &&& Int32.toUInt32 31)).toInt32)) &&& 252645135).toUInt32 >>> ((8 : Int32).toUInt32 &&& Int32.toUInt32 31)).toInt32)) + ((((((((i0 - (((i0.toUInt32 >>> ((1 : Int32).toUInt32 &&& Int32.toUInt32 31)).toInt32) &&& 1431655765)) &&& 858993459) + ((((i0 - (((i0.toUInt32 >>> ((1 : Int32).toUInt32 &&& Int32.toUInt32 31)).toInt32) &&& 1431655765)).toUInt32 >>> ((2 : Int32).toUInt32 &&& Int32.toUInt32 31)).toInt32) &&& 858993459)) + (((((i0 - (((i0.toUInt32 >>> ((1 : Int32).toUInt32 &&& Int32.toUInt32 31)).toInt32) &&& 1431655765)) &&& 858993459) + ((((i0 - (((i0.toUInt32 >>> ((1 : Int32).toUInt32 &&& Int32.toUInt32 31)).toInt32) &&& 1431655765)).toUInt32 >>> ((2 : Int32).toUInt32 &&& Int32.toUInt32 31)).toInt32) &&& 858993459)).toUInt32 >>> ((4 : Int32).toUInt32 &&& Int32.toUInt32 31)).toInt32)) &&& 252645135) + (((((((i0 - (((i0.toUInt32 >>> ((1 : Int32).toUInt32 &&& Int32.toUInt32 31)).toInt32) &&& 1431655765)) &&& 858993459) + ((((i0 - (((i0.toUInt32 >>> ((1 : Int32).toUInt32 &&& Int32.toUInt32 31)).toInt32) &&& 1431655765)).toUInt32 >>> ((2 : Int32).toUInt32 &&& Int32.toUInt32 31)).toInt32) &&& 858993459)) + (((((i0 - (((i0.toUInt32 >>> ((1 : Int32).toUInt32 &&& Int32.toUInt32 31)).toInt32) &&& 1431655765)) &&& 858993459) + ((((i0 - (((i0.toUInt32 >>> ((1 : Int32).toUInt32 &&& Int32.toUInt32 31)).toInt32) &&& 1431655765)).toUInt32 >>> ((2 : Int32).toUInt32 &&& Int32.toUInt32 31)).toInt32) &&& 858993459)).toUInt32 >>> ((4 : Int32).toUInt32 &&& Int32.toUInt32 31)).toInt32)) &&& 252645135).toUInt32 >>> ((8 : Int32).toUInt32 &&& Int32.toUInt32 31)).toInt32)).toUInt32 >>> ((16 : Int32).toUInt32 &&& Int32.toUInt32 31)).toInt32))]) f_200_47 rfl ?_
  refine w_il f_200_48 rfl ?_
  refine w_ic f_200_49 ?_
  refine w_bin f_200_51 ?_
  exact w_reti f_200_52 H
theorem g_201_0 {d : Nat} {G : am_G} {I : Nat → Nat → Int32} {J : Nat → Nat → Int64} {Q : am_O → am_H → Prop} (hR : q_RT G) (r0 : Nat) (i1 : Int32) (H : (∃ N1 : Nat, q_SH r0 = .inl (.int, N1) ∧ q_W β xs L d 201 5 [.ref r0, .int i1, .int 0, .int (Int32.ofNat N1)] [] (G, I, J) Q)) : q_W β xs L d 201 0 [.ref r0, .int i1, .retAddr 0, .retAddr 0] [] (G, I, J) Q := by
  refine w_ic f_201_0 ?_
  refine w_is (ls' := [.ref r0, .int i1, .int 0, .retAddr 0]) f_201_1 rfl ?_
  refine w_al f_201_2 rfl ?_
  obtain ⟨N1, hs, H⟩ := H
  refine w_alen f_201_3 hs ?_
  refine w_is (ls' := [.ref r0, .int i1, .int 0, .int (Int32.ofNat N1)]) f_201_4 rfl ?_
  exact H
theorem g_201_5 {d : Nat} {G : am_G} {I : Nat → Nat → Int32} {J : Nat → Nat → Int64} {Q : am_O → am_H → Prop} (hR : q_RT G) (r0 : Nat) (i1 : Int32) (i2 : Int32) (i3 : Int32) (H : ((¬ i2 < i3 → Q (.inl none) (G, I, J)) ∧ (i2 < i3 → (∃ N1 : Nat, q_SH r0 = .inl (.int, N1) ∧ am_is i2 N1 = true ∧ q_W β xs L d 201 5 [.ref r0, .int i1, .int (i2 + 1), .int i3] [] (G, (am_u I r0 (i2).toNatClampNeg i1), J) Q)))) : q_W β xs L d 201 5 [.ref r0, .int i1, .int i2, .int i3] [] (G, I, J) Q := by
  refine w_il f_201_5 rfl ?_
  refine w_il f_201_6 rfl ?_
  refine w_icge f_201_7 (fun c => ?_) (fun c => ?_)
  · have H := H.1 c
    exact w_ret0 f_201_20 H
  · have H := H.2 c
    refine w_al f_201_10 rfl ?_
    refine w_il f_201_11 rfl ?_
    refine w_il f_201_12 rfl ?_
    obtain ⟨N1, hs, hb, H⟩ := H
    refine w_ast f_201_13 hs hb ?_
    refine w_iinc (ls' := [.ref r0, .int i1, .int (i2 + 1), .int i3]) f_201_14 rfl rfl ?_
    refine w_go f_201_17 ?_
    exact H
theorem g_202_0 {d : Nat} {G : am_G} {I : Nat → Nat → Int32} {J : Nat → Nat → Int64} {Q : am_O → am_H → Prop} (hR : q_RT G) (r0 : Nat) (i1 : Int32) (H : (∃ N1 : Nat, q_SH r0 = .inl (.int, N1) ∧ ((¬ i1 = (Int32.ofNat N1) → ((q_SH G.1 = .inl (.int, i1.toNatClampNeg) ∧ ¬ i1 < 0 ∧ i1.toNatClampNeg ≤ 1000000) ∧ (∃ N2 : Nat, q_SH r0 = .inl (.int, N2) ∧ (∃ N3 : Nat, q_SH r0 = .inl (.int, N3) ∧ (∃ N4 : Nat, q_SH G.1 = .inl (.int, N4) ∧ ((¬ (0 : Int32) < 0 ∧ ¬ (0 : Int32) < 0 ∧ ¬ (if i1 < (Int32.ofNat N2) then i1 else (Int32.ofNat N2)) < 0 ∧ (0 : Int32).toNatClampNeg + (if i1 < (Int32.ofNat N2) then i1 else (Int32.ofNat N2)).toNatClampNeg ≤ N3 ∧ (0 : Int32).toNatClampNeg + (if i1 < (Int32.ofNat N2) then i1 else (Int32.ofNat N2)).toNatClampNeg ≤ N4) ∧ Q (.inl (some (.ref G.1))) ((G.1 + 1, am_row G.2.1 G.1 (fun _ => none), G.2.2.1 + 1, G.2.2.2 + i1.toNatClampNeg), (am_row (am_row I G.1 (fun _ => 0)) G.1 (va_cpy ((am_row I G.1 (fun _ => 0)) r0) ((am_row I G.1 (fun _ => 0)) G.1) (0 : Int32).toNatClampNeg (0 : Int32).toNatClampNeg (if i1 < (Int32.ofNat N2) then i1 else (Int32.ofNat N2)).toNatClampNeg)), (am_row J G.1 (fun _ => 0))))))))) ∧ (i1 = (Int32.ofNat N1) → False)))) : q_W β xs L d 202 0 [.ref r0, .int i1, .retAddr 0] [] (G, I, J) Q := by
  refine w_il f_202_0 rfl ?_
  refine w_al f_202_1 rfl ?_
  obtain ⟨N1, hs, H⟩ := H
  refine w_alen f_202_2 hs ?_
  refine w_icne f_202_3 (fun c => ?_) (fun c => ?_)
  · have H := H.1 c
    refine w_il f_202_14 rfl ?_
    have hb := H.1
    have H := H.2
    refine w_newa f_202_15 hb ?_
    refine w_as (ls' := [.ref r0, .int i1, .ref G.1]) f_202_17 rfl ?_
    refine w_al f_202_18 rfl ?_
    refine w_ic f_202_19 ?_
    refine w_al f_202_20 rfl ?_
    refine w_ic f_202_21 ?_
    refine w_al f_202_22 rfl ?_
    obtain ⟨N2, hs, H⟩ := H
    refine w_alen f_202_23 hs ?_
    refine w_il f_202_24 rfl ?_
    refine w_mm f_202_25 rfl ?_
    obtain ⟨N3, hsN3, H⟩ := H
    obtain ⟨N4, hsN4, H⟩ := H
    have hb := H.1
    have H := H.2
    refine w_acopy f_202_28 hsN3 hsN4 hb rfl ?_
    refine w_al f_202_31 rfl ?_
    exact w_reta f_202_32 H
  · have H := H.2 c
    refine w_al f_202_6 rfl ?_
    exact H.elim
theorem g_203_0 {d : Nat} {G : am_G} {I : Nat → Nat → Int32} {J : Nat → Nat → Int64} {Q : am_O → am_H → Prop} (hR : q_RT G) (e0 : Nat) (H : ((e0 + 1 = 3 ∨ e0 + 1 = 4) ∧ ((e0 + 1 + 2 = 5 ∨ e0 + 1 + 2 = 6) ∧ ((e0 + 1 = 3 ∨ e0 + 1 = 4) ∧ q_W β xs L d 204 0 [.retAddr (e0 + 1)] [] (G, I, J) (q_Ri (fun y1 G1 I1 J1 => Q (.inl (some (.int ((Int32.ofNat (q_len.getD (e0 + 1 + 2 - 5) 0)) >>> (y1 &&& 31))))) (G1, I1, J1)) (fun x1 G1 I1 J1 => Q (.inr x1) (G1, I1, J1))))))) : q_W β xs L (d + 1) 203 0 [.retAddr (e0 + 1)] [] (G, I, J) Q := by
  refine w_ae f_203_0 rfl ?_
  have hb := H.1
  have H := H.2
  refine w_xr f_203_1 hb ?_
  have hb := H.1
  have H := H.2
  refine w_xl f_203_4 hb ?_
  refine w_ae f_203_5 rfl ?_
  have hb := H.1
  have H := H.2
  refine w_invx (as := [.retAddr (e0 + 1)]) (st' := [.int (Int32.ofNat (q_len.getD (e0 + 1 + 2 - 5) 0))]) f_203_6 rfl rfl rfl hb rfl rfl H (k_i (fun y1 G1 I1 J1 H => ?_)) (x_n (fun _ => rfl) rfl (fun x h' h => h))
  refine w_bin f_203_9 ?_
  exact w_reti f_203_10 H
theorem g_204_0 {d : Nat} {G : am_G} {I : Nat → Nat → Int32} {J : Nat → Nat → Int64} {Q : am_O → am_H → Prop} (hR : q_RT G) (e0 : Nat) (H : (((1 : Int32) = 0 → q_W β xs L d 204 14 [.retAddr (e0 + 1)] [.int 1] (G, I, J) Q) ∧ (¬ (1 : Int32) = 0 → ((e0 + 1 = 3 ∨ e0 + 1 = 4) ∧ q_W β xs L d 204 14 [.retAddr (e0 + 1)] [.int 0] (G, I, J) Q)))) : q_W β xs L d 204 0 [.retAddr (e0 + 1)] [] (G, I, J) Q := by
  refine w_ic f_204_0 ?_
  refine w_ifeq f_204_3 (fun c => ?_) (fun c => ?_)
  · have H := H.1 c
    refine w_ic f_204_13 ?_
    exact H
  · have H := H.2 c
    refine w_ae f_204_6 rfl ?_
    have hb := H.1
    have H := H.2
    refine w_xc f_204_7 hb ?_
    refine w_go f_204_10 ?_
    exact H
theorem g_204_14 {d : Nat} {G : am_G} {I : Nat → Nat → Int32} {J : Nat → Nat → Int64} {Q : am_O → am_H → Prop} (hR : q_RT G) (e0 : Nat) (is0 : Int32) (H : (narrow .byte (.int is0) = .int is0 ∧ Q (.inl (some (.int is0))) (G, I, J))) : q_W β xs L d 204 14 [.retAddr (e0 + 1)] [.int is0] (G, I, J) Q := by
  exact w_retn f_204_14 H.1 H.2
theorem g_205_0 {d : Nat} {G : am_G} {I : Nat → Nat → Int32} {J : Nat → Nat → Int64} {Q : am_O → am_H → Prop} (hR : q_RT G) (e0 : Nat) (i1 : Int32) (H : ((e0 + 1 = 3 ∨ e0 + 1 = 4) ∧ q_W β xs L d 206 0 [.retAddr (e0 + 1)] [] (G, I, J) (q_Ri (fun y1 G1 I1 J1 => ((y1 = 0 → False) ∧ (¬ y1 = 0 → ((e0 + 1 = 3 ∨ e0 + 1 = 4) ∧ q_W β xs L d 207 0 [.retAddr (e0 + 1 + 2), .int i1] [] (G1, I1, J1) (q_Ri (fun y2 G2 I2 J2 => (narrow .char (.int y2) = .int y2 ∧ Q (.inl (some (.int y2))) (G2, I2, J2))) (fun x2 G2 I2 J2 => Q (.inr x2) (G2, I2, J2))))))) (fun x1 G1 I1 J1 => Q (.inr x1) (G1, I1, J1))))) : q_W β xs L (d + 1) 205 0 [.retAddr (e0 + 1), .int i1] [] (G, I, J) Q := by
  refine w_ae f_205_0 rfl ?_
  have hb := H.1
  have H := H.2
  refine w_invx (as := [.retAddr (e0 + 1)]) (st' := []) f_205_1 rfl rfl rfl hb rfl rfl H (k_i (fun y1 G1 I1 J1 H => ?_)) (x_n (fun _ => rfl) rfl (fun x h' h => h))
  refine w_ifeq f_205_4 (fun c => ?_) (fun c => ?_)
  · have H := H.1 c
    exact H.elim
  · have H := H.2 c
    refine w_ae f_205_7 rfl ?_
    have hb := H.1
    have H := H.2
    refine w_xr f_205_8 hb ?_
    refine w_il f_205_11 rfl ?_
    refine w_invs (as := [.retAddr (e0 + 1 + 2), .int i1]) (st' := []) f_205_12 rfl rfl rfl rfl rfl H (k_i (fun y2 G2 I2 J2 H => ?_)) (x_n (fun _ => rfl) rfl (fun x h' h => h))
    exact w_retn f_205_15 H.1 H.2
theorem g_206_0 {d : Nat} {G : am_G} {I : Nat → Nat → Int32} {J : Nat → Nat → Int64} {Q : am_O → am_H → Prop} (hR : q_RT G) (e0 : Nat) (H : (((1 : Int32) = 0 → q_W β xs L d 206 17 [.retAddr (e0 + 1)] [] (G, I, J) Q) ∧ (¬ (1 : Int32) = 0 → ((e0 + 1 = 3 ∨ e0 + 1 = 4) ∧ ((¬ (0 : Int32) = 0 → q_W β xs L d 206 17 [.retAddr (e0 + 1)] [] (G, I, J) Q) ∧ ((0 : Int32) = 0 → q_W β xs L d 206 18 [.retAddr (e0 + 1)] [.int 1] (G, I, J) Q)))))) : q_W β xs L d 206 0 [.retAddr (e0 + 1)] [] (G, I, J) Q := by
  refine w_ic f_206_0 ?_
  refine w_ifeq f_206_3 (fun c => ?_) (fun c => ?_)
  · have H := H.1 c
    exact H
  · have H := H.2 c
    refine w_ae f_206_6 rfl ?_
    have hb := H.1
    have H := H.2
    refine w_xc f_206_7 hb ?_
    refine w_ifne f_206_10 (fun c => ?_) (fun c => ?_)
    · have H := H.1 c
      exact H
    · have H := H.2 c
      refine w_ic f_206_13 ?_
      refine w_go f_206_14 ?_
      exact H
theorem g_206_17 {d : Nat} {G : am_G} {I : Nat → Nat → Int32} {J : Nat → Nat → Int64} {Q : am_O → am_H → Prop} (hR : q_RT G) (e0 : Nat) (H : q_W β xs L d 206 18 [.retAddr (e0 + 1)] [.int 0] (G, I, J) Q) : q_W β xs L d 206 17 [.retAddr (e0 + 1)] [] (G, I, J) Q := by
  refine w_ic f_206_17 ?_
  exact H
theorem g_206_18 {d : Nat} {G : am_G} {I : Nat → Nat → Int32} {J : Nat → Nat → Int64} {Q : am_O → am_H → Prop} (hR : q_RT G) (e0 : Nat) (is0 : Int32) (H : (((is0 : Int32) = 0 ∨ (is0 : Int32) = 1) ∧ Q (.inl (some (.int is0))) (G, I, J))) : q_W β xs L d 206 18 [.retAddr (e0 + 1)] [.int is0] (G, I, J) Q := by
  exact w_retz f_206_18 H.1 H.2
theorem g_207_0 {d : Nat} {G : am_G} {I : Nat → Nat → Int32} {J : Nat → Nat → Int64} {Q : am_O → am_H → Prop} (hR : q_RT G) (e0 : Nat) (i1 : Int32) (H : ((e0 + 1 = 5 ∨ e0 + 1 = 6) ∧ q_W β xs L d 208 0 [.int i1, .int (Int32.ofNat (q_len.getD (e0 + 1 - 5) 0))] [] (G, I, J) (q_Rv (fun G1 I1 J1 => (((e0 + 1 = 5 ∨ e0 + 1 = 6) ∧ am_is i1 (q_len.getD (e0 + 1 - 5) 0) = true) ∧ (narrow .char (.int (((((q_byt.getD (e0 + 1 - 5) []).getD (i1).toNatClampNeg 0) &&& 255).toUInt32 % 65536).toInt32)) = .int (((((q_byt.getD (e0 + 1 - 5) []).getD (i1).toNatClampNeg 0) &&& 255).toUInt32 % 65536).toInt32) ∧ Q (.inl (some (.int (((((q_byt.getD (e0 + 1 - 5) []).getD (i1).toNatClampNeg 0) &&& 255).toUInt32 % 65536).toInt32)))) (G1, I1, J1)))) (fun x1 G1 I1 J1 => Q (.inr x1) (G1, I1, J1))))) : q_W β xs L (d + 1) 207 0 [.retAddr (e0 + 1), .int i1] [] (G, I, J) Q := by
  refine w_il f_207_0 rfl ?_
  refine w_ae f_207_1 rfl ?_
  have hb := H.1
  have H := H.2
  refine w_xl f_207_2 hb ?_
  refine w_invs (as := [.int i1, .int (Int32.ofNat (q_len.getD (e0 + 1 - 5) 0))]) (st' := []) f_207_3 rfl rfl rfl rfl rfl H (k_v (fun G1 I1 J1 H => ?_)) (x_n (fun _ => rfl) rfl (fun x h' h => h))
  refine w_ae f_207_6 rfl ?_
  refine w_il f_207_7 rfl ?_
  have hb := H.1
  have H := H.2
  refine w_xb f_207_8 hb ?_
  refine w_ic f_207_9 ?_
  refine w_bin f_207_12 ?_
  refine w_un f_207_13 ?_
  exact w_retn f_207_14 H.1 H.2
theorem g_209_0 {d : Nat} {G : am_G} {I : Nat → Nat → Int32} {J : Nat → Nat → Int64} {Q : am_O → am_H → Prop} (hR : q_RT G) (i0 : Int32) (i1 : Int32) (v2 : Value) (n2 : am_nl v2 = true) (H : ((i0 < 0 → False) ∧ (¬ i0 < 0 → ((i0 < i1 → Q (.inl (some (.int i0))) (G, I, J)) ∧ (¬ i0 < i1 → False))))) : q_W β xs L d 209 0 [.int i0, .int i1, v2] [] (G, I, J) Q := by
  refine w_il f_209_0 rfl ?_
  refine w_iflt f_209_1 (fun c => ?_) (fun c => ?_)
  · have H := H.1 c
    exact H.elim
  · have H := H.2 c
    refine w_il f_209_4 rfl ?_
    refine w_il f_209_5 rfl ?_
    refine w_iclt f_209_6 (fun c => ?_) (fun c => ?_)
    · have H := H.1 c
      refine w_il f_209_16 rfl ?_
      exact w_reti f_209_17 H
    · have H := H.2 c
      exact H.elim
theorem g_210_0 {d : Nat} {G : am_G} {I : Nat → Nat → Int32} {J : Nat → Nat → Int64} {Q : am_O → am_H → Prop} (hR : q_RT G) (e0 : Nat) (i1 : Int32) (H : ((e0 + 1 = 3 ∨ e0 + 1 = 4) ∧ q_W β xs L d 211 0 [.retAddr (e0 + 1), .int i1, .int 0] [] (G, I, J) (q_Ri (fun y1 G1 I1 J1 => Q (.inl (some (.int y1))) (G1, I1, J1)) (fun x1 G1 I1 J1 => Q (.inr x1) (G1, I1, J1))))) : q_W β xs L (d + 1) 210 0 [.retAddr (e0 + 1), .int i1] [] (G, I, J) Q := by
  refine w_ae f_210_0 rfl ?_
  refine w_il f_210_1 rfl ?_
  refine w_ic f_210_2 ?_
  have hb := H.1
  have H := H.2
  refine w_invx (as := [.retAddr (e0 + 1), .int i1, .int 0]) (st' := []) f_210_3 rfl rfl rfl hb rfl rfl H (k_i (fun y1 G1 I1 J1 H => ?_)) (x_n (fun _ => rfl) rfl (fun x h' h => h))
  exact w_reti f_210_6 H
theorem g_211_0 {d : Nat} {G : am_G} {I : Nat → Nat → Int32} {J : Nat → Nat → Int64} {Q : am_O → am_H → Prop} (hR : q_RT G) (e0 : Nat) (i1 : Int32) (i2 : Int32) (H : ((e0 + 1 = 3 ∨ e0 + 1 = 4) ∧ q_W β xs L d 206 0 [.retAddr (e0 + 1)] [] (G, I, J) (q_Ri (fun y1 G1 I1 J1 => ((y1 = 0 → False) ∧ (¬ y1 = 0 → ((e0 + 1 = 3 ∨ e0 + 1 = 4) ∧ ((e0 + 1 = 3 ∨ e0 + 1 = 4) ∧ q_W β xs L d 203 0 [.retAddr (e0 + 1)] [] (G1, I1, J1) (q_Ri (fun y2 G2 I2 J2 => q_W β xs L d 212 0 [.retAddr (e0 + 1 + 2), .int i1, .int i2, .int y2] [] (G2, I2, J2) (q_Ri (fun y3 G3 I3 J3 => Q (.inl (some (.int y3))) (G3, I3, J3)) (fun x3 G3 I3 J3 => Q (.inr x3) (G3, I3, J3)))) (fun x2 G2 I2 J2 => Q (.inr x2) (G2, I2, J2)))))))) (fun x1 G1 I1 J1 => Q (.inr x1) (G1, I1, J1))))) : q_W β xs L (d + 1) 211 0 [.retAddr (e0 + 1), .int i1, .int i2] [] (G, I, J) Q := by
  refine w_ae f_211_0 rfl ?_
  have hb := H.1
  have H := H.2
  refine w_invx (as := [.retAddr (e0 + 1)]) (st' := []) f_211_1 rfl rfl rfl hb rfl rfl H (k_i (fun y1 G1 I1 J1 H => ?_)) (x_n (fun _ => rfl) rfl (fun x h' h => h))
  refine w_ifeq f_211_4 (fun c => ?_) (fun c => ?_)
  · have H := H.1 c
    exact H.elim
  · have H := H.2 c
    refine w_ae f_211_7 rfl ?_
    have hb := H.1
    have H := H.2
    refine w_xr f_211_8 hb ?_
    refine w_il f_211_11 rfl ?_
    refine w_il f_211_12 rfl ?_
    refine w_ae f_211_13 rfl ?_
    have hb := H.1
    have H := H.2
    refine w_invx (as := [.retAddr (e0 + 1)]) (st' := [.int i2, .int i1, .retAddr (e0 + 1 + 2)]) f_211_14 rfl rfl rfl hb rfl rfl H (k_i (fun y2 G2 I2 J2 H => ?_)) (x_n (fun _ => rfl) rfl (fun x h' h => h))
    refine w_invs (as := [.retAddr (e0 + 1 + 2), .int i1, .int i2, .int y2]) (st' := []) f_211_17 rfl rfl rfl rfl rfl H (k_i (fun y3 G3 I3 J3 H => ?_)) (x_n (fun _ => rfl) rfl (fun x h' h => h))
    refine w_go f_211_20 ?_
    exact w_reti f_211_36 H
theorem g_212_0 {d : Nat} {G : am_G} {I : Nat → Nat → Int32} {J : Nat → Nat → Int64} {Q : am_O → am_H → Prop} (hR : q_RT G) (e0 : Nat) (i1 : Int32) (i2 : Int32) (i3 : Int32) (H : q_W β xs L d 213 0 [.int i1] [] (G, I, J) (q_Ri (fun y1 G1 I1 J1 => ((¬ y1 = 0 → ((e0 + 1 = 5 ∨ e0 + 1 = 6) ∧ (((if i2 < 0 then 0 else i2) < (if (Int32.ofNat (q_len.getD (e0 + 1 - 5) 0)) < i3 then (Int32.ofNat (q_len.getD (e0 + 1 - 5) 0)) else i3) → q_W β xs L d 214 0 [.retAddr (e0 + 1), .int i1, .int (if i2 < 0 then 0 else i2), .int (if (Int32.ofNat (q_len.getD (e0 + 1 - 5) 0)) < i3 then (Int32.ofNat (q_len.getD (e0 + 1 - 5) 0)) else i3), .retAddr 0, .retAddr 0] [] (G1, I1, J1) (q_Ri (fun y2 G2 I2 J2 => Q (.inl (some (.int y2))) (G2, I2, J2)) (fun x2 G2 I2 J2 => Q (.inr x2) (G2, I2, J2)))) ∧ (¬ (if i2 < 0 then 0 else i2) < (if (Int32.ofNat (q_len.getD (e0 + 1 - 5) 0)) < i3 then (Int32.ofNat (q_len.getD (e0 + 1 - 5) 0)) else i3) → Q (.inl (some (.int (-1)))) (G1, I1, J1))))) ∧ (y1 = 0 → Q (.inl (some (.int (-1)))) (G1, I1, J1)))) (fun x1 G1 I1 J1 => Q (.inr x1) (G1, I1, J1)))) : q_W β xs L (d + 1) 212 0 [.retAddr (e0 + 1), .int i1, .int i2, .int i3] [] (G, I, J) Q := by
  refine w_il f_212_0 rfl ?_
  refine w_invs (as := [.int i1]) (st' := []) f_212_1 rfl rfl rfl rfl rfl H (k_i (fun y1 G1 I1 J1 H => ?_)) (x_n (fun _ => rfl) rfl (fun x h' h => h))
  refine w_ifne f_212_4 (fun c => ?_) (fun c => ?_)
  · have H := H.1 c
    refine w_il f_212_9 rfl ?_
    refine w_ic f_212_10 ?_
    refine w_mm f_212_11 rfl ?_
    refine w_is (ls' := [.retAddr (e0 + 1), .int i1, .int (if i2 < 0 then 0 else i2), .int i3]) f_212_14 rfl ?_
    refine w_il f_212_15 rfl ?_
    refine w_ae f_212_16 rfl ?_
    have hb := H.1
    have H := H.2
    refine w_xl f_212_17 hb ?_
    refine w_mm f_212_18 rfl ?_
    refine w_is (ls' := [.retAddr (e0 + 1), .int i1, .int (if i2 < 0 then 0 else i2), .int (if (Int32.ofNat (q_len.getD (e0 + 1 - 5) 0)) < i3 then (Int32.ofNat (q_len.getD (e0 + 1 - 5) 0)) else i3)]) f_212_21 rfl ?_
    refine w_il f_212_22 rfl ?_
    refine w_il f_212_23 rfl ?_
    refine w_iclt f_212_24 (fun c => ?_) (fun c => ?_)
    · have H := H.1 c
      refine w_ae f_212_29 rfl ?_
      refine w_il f_212_30 rfl ?_
      refine w_il f_212_31 rfl ?_
      refine w_il f_212_32 rfl ?_
      refine w_invs (as := [.retAddr (e0 + 1), .int i1, .int (if i2 < 0 then 0 else i2), .int (if (Int32.ofNat (q_len.getD (e0 + 1 - 5) 0)) < i3 then (Int32.ofNat (q_len.getD (e0 + 1 - 5) 0)) else i3), .retAddr 0, .retAddr 0]) (st' := []) f_212_33 rfl rfl rfl rfl rfl H (k_i (fun y2 G2 I2 J2 H => ?_)) (x_n (fun _ => rfl) rfl (fun x h' h => h))
      exact w_reti f_212_36 H
    · have H := H.2 c
      refine w_ic f_212_27 ?_
      exact w_reti f_212_28 H
  · have H := H.2 c
    refine w_ic f_212_7 ?_
    exact w_reti f_212_8 H
theorem g_213_0 {d : Nat} {G : am_G} {I : Nat → Nat → Int32} {J : Nat → Nat → Int64} {Q : am_O → am_H → Prop} (hR : q_RT G) (i0 : Int32) (H : ((i0 < 0 → q_W β xs L d 213 15 [.int i0] [] (G, I, J) Q) ∧ (¬ i0 < 0 → ((255 < i0 → q_W β xs L d 213 15 [.int i0] [] (G, I, J) Q) ∧ (¬ 255 < i0 → q_W β xs L d 213 16 [.int i0] [.int 1] (G, I, J) Q))))) : q_W β xs L d 213 0 [.int i0] [] (G, I, J) Q := by
  refine w_il f_213_0 rfl ?_
  refine w_iflt f_213_1 (fun c => ?_) (fun c => ?_)
  · have H := H.1 c
    exact H
  · have H := H.2 c
    refine w_il f_213_4 rfl ?_
    refine w_ic f_213_5 ?_
    refine w_icgt f_213_8 (fun c => ?_) (fun c => ?_)
    · have H := H.1 c
      exact H
    · have H := H.2 c
      refine w_ic f_213_11 ?_
      refine w_go f_213_12 ?_
      exact H
theorem g_213_15 {d : Nat} {G : am_G} {I : Nat → Nat → Int32} {J : Nat → Nat → Int64} {Q : am_O → am_H → Prop} (hR : q_RT G) (i0 : Int32) (H : q_W β xs L d 213 16 [.int i0] [.int 0] (G, I, J) Q) : q_W β xs L d 213 15 [.int i0] [] (G, I, J) Q := by
  refine w_ic f_213_15 ?_
  exact H
theorem g_213_16 {d : Nat} {G : am_G} {I : Nat → Nat → Int32} {J : Nat → Nat → Int64} {Q : am_O → am_H → Prop} (hR : q_RT G) (i0 : Int32) (is0 : Int32) (H : (((is0 : Int32) = 0 ∨ (is0 : Int32) = 1) ∧ Q (.inl (some (.int is0))) (G, I, J))) : q_W β xs L d 213 16 [.int i0] [.int is0] (G, I, J) Q := by
  exact w_retz f_213_16 H.1 H.2
theorem g_214_0 {d : Nat} {G : am_G} {I : Nat → Nat → Int32} {J : Nat → Nat → Int64} {Q : am_O → am_H → Prop} (hR : q_RT G) (e0 : Nat) (i1 : Int32) (i2 : Int32) (i3 : Int32) (H : q_W β xs L d 214 7 [.retAddr (e0 + 1), .int i1, .int i2, .int i3, .int (i1.toInt8.toInt32), .int i2] [] (G, I, J) Q) : q_W β xs L d 214 0 [.retAddr (e0 + 1), .int i1, .int i2, .int i3, .retAddr 0, .retAddr 0] [] (G, I, J) Q := by
  refine w_il f_214_0 rfl ?_
  refine w_un f_214_1 ?_
  refine w_is (ls' := [.retAddr (e0 + 1), .int i1, .int i2, .int i3, .int (i1.toInt8.toInt32), .retAddr 0]) f_214_2 rfl ?_
  refine w_il f_214_4 rfl ?_
  refine w_is (ls' := [.retAddr (e0 + 1), .int i1, .int i2, .int i3, .int (i1.toInt8.toInt32), .int i2]) f_214_5 rfl ?_
  exact H
theorem g_214_7 {d : Nat} {G : am_G} {I : Nat → Nat → Int32} {J : Nat → Nat → Int64} {Q : am_O → am_H → Prop} (hR : q_RT G) (e0 : Nat) (i1 : Int32) (i2 : Int32) (i3 : Int32) (i4 : Int32) (i5 : Int32) (H : ((¬ i5 < i3 → Q (.inl (some (.int (-1)))) (G, I, J)) ∧ (i5 < i3 → (((e0 + 1 = 5 ∨ e0 + 1 = 6) ∧ am_is i5 (q_len.getD (e0 + 1 - 5) 0) = true) ∧ ((¬ ((q_byt.getD (e0 + 1 - 5) []).getD (i5).toNatClampNeg 0) = i4 → q_W β xs L d 214 7 [.retAddr (e0 + 1), .int i1, .int i2, .int i3, .int i4, .int (i5 + 1)] [] (G, I, J) Q) ∧ (((q_byt.getD (e0 + 1 - 5) []).getD (i5).toNatClampNeg 0) = i4 → Q (.inl (some (.int i5))) (G, I, J))))))) : q_W β xs L d 214 7 [.retAddr (e0 + 1), .int i1, .int i2, .int i3, .int i4, .int i5] [] (G, I, J) Q := by
  refine w_il f_214_7 rfl ?_
  refine w_il f_214_9 rfl ?_
  refine w_icge f_214_10 (fun c => ?_) (fun c => ?_)
  · have H := H.1 c
    refine w_ic f_214_31 ?_
    exact w_reti f_214_32 H
  · have H := H.2 c
    refine w_ae f_214_13 rfl ?_
    refine w_il f_214_14 rfl ?_
    have hb := H.1
    have H := H.2
    refine w_xb f_214_16 hb ?_
    refine w_il f_214_17 rfl ?_
    refine w_icne f_214_19 (fun c => ?_) (fun c => ?_)
    · have H := H.1 c
      refine w_iinc (ls' := [.retAddr (e0 + 1), .int i1, .int i2, .int i3, .int i4, .int (i5 + 1)]) f_214_25 rfl rfl ?_
      refine w_go f_214_28 ?_
      exact H
    · have H := H.2 c
      refine w_il f_214_22 rfl ?_
      exact w_reti f_214_24 H
end Re

/-! ===== regions ===== -/
section Re
variable {β : Bool} {xs : Nat → Int32} {L : Nat}
theorem g_102_0 {d : Nat} {G : am_G} {I : Nat → Nat → Int32} {J : Nat → Nat → Int64} {Q : am_O → am_H → Prop} (hR : q_RT G)  (H : Q (.inl (some (.int (I 59 0)))) (G, I, J)) : q_W β xs L d 102 0 [.ref 59] [] (G, I, J) Q := by
  refine w_al f_102_0 rfl ?_
  refine w_gi f_102_1 rfl ?_
  exact w_reti f_102_4 H
theorem g_103_0 {d : Nat} {G : am_G} {I : Nat → Nat → Int32} {J : Nat → Nat → Int64} {Q : am_O → am_H → Prop} (hR : q_RT G) (i1 : Int32) (i2 : Int32) (H : ((¬ (I 59 0) = 0 → q_W β xs L d 103 16 [.ref 59, .int i1, .int i2] [] (G, I, J) Q) ∧ ((I 59 0) = 0 → ((¬ i1 = 0 → q_W β xs L d 103 16 [.ref 59, .int i1, .int i2] [] (G, I, J) Q) ∧ (i1 = 0 → q_W β xs L d 103 16 [.ref 59, .int i1, .int i2] [] (G, (am_u I 59 0 i2), J) Q))))) : q_W β xs L d 103 0 [.ref 59, .int i1, .int i2] [] (G, I, J) Q := by
  refine w_al f_103_0 rfl ?_
  refine w_gi f_103_1 rfl ?_
  refine w_ifne f_103_4 (fun c => ?_) (fun c => ?_)
  · have H := H.1 c
    exact H
  · have H := H.2 c
    refine w_il f_103_7 rfl ?_
    refine w_ifne f_103_8 (fun c => ?_) (fun c => ?_)
    · have H := H.1 c
      exact H
    · have H := H.2 c
      refine w_al f_103_11 rfl ?_
      refine w_il f_103_12 rfl ?_
      refine w_pi f_103_13 rfl ?_
      exact H
theorem g_103_16 {d : Nat} {G : am_G} {I : Nat → Nat → Int32} {J : Nat → Nat → Int64} {Q : am_O → am_H → Prop} (hR : q_RT G) (i1 : Int32) (i2 : Int32) (H : ((¬ (I 59 0) = 0 → q_W β xs L d 103 28 [.ref 59, .int i1, .int i2] [.int 0] (G, I, J) Q) ∧ ((I 59 0) = 0 → q_W β xs L d 103 28 [.ref 59, .int i1, .int i2] [.int 1] (G, I, J) Q))) : q_W β xs L d 103 16 [.ref 59, .int i1, .int i2] [] (G, I, J) Q := by
  refine w_al f_103_16 rfl ?_
  refine w_gi f_103_17 rfl ?_
  refine w_ifne f_103_20 (fun c => ?_) (fun c => ?_)
  · have H := H.1 c
    refine w_ic f_103_27 ?_
    exact H
  · have H := H.2 c
    refine w_ic f_103_23 ?_
    refine w_go f_103_24 ?_
    exact H
theorem g_103_28 {d : Nat} {G : am_G} {I : Nat → Nat → Int32} {J : Nat → Nat → Int64} {Q : am_O → am_H → Prop} (hR : q_RT G) (i1 : Int32) (i2 : Int32) (is0 : Int32) (H : (((is0 : Int32) = 0 ∨ (is0 : Int32) = 1) ∧ Q (.inl (some (.int is0))) (G, I, J))) : q_W β xs L d 103 28 [.ref 59, .int i1, .int i2] [.int is0] (G, I, J) Q := by
  exact w_retz f_103_28 H.1 H.2
theorem g_104_0 {d : Nat} {G : am_G} {I : Nat → Nat → Int32} {J : Nat → Nat → Int64} {Q : am_O → am_H → Prop} (hR : q_RT G)  (H : ((¬ (I 59 3) = 5 → Q (.inl (some (.int (((I 59 3) + 1) - 1)))) (G, (am_u (am_u (am_u I 59 0 0) 59 3 ((I 59 3) + 1)) 59 2 ((I 59 2) + 1)), J)) ∧ ((I 59 3) = 5 → Q (.inl (some (.int (-1)))) (G, (am_u I 59 0 0), J)))) : q_W β xs L d 104 0 [.ref 59] [] (G, I, J) Q := by
  refine w_al f_104_0 rfl ?_
  refine w_ic f_104_1 ?_
  refine w_pi f_104_2 rfl ?_
  refine w_al f_104_5 rfl ?_
  refine w_gi' f_104_6 rfl (am_u_ne (Or.inr (by decide))) ?_
  refine w_ic f_104_9 ?_
  refine w_icne f_104_10 (fun c => ?_) (fun c => ?_)
  · have H := H.1 c
    refine w_al f_104_15 rfl ?_
    refine w_dupr f_104_16 ?_
    refine w_gi' f_104_17 rfl (am_u_ne (Or.inr (by decide))) ?_
    refine w_ic f_104_20 ?_
    refine w_bin f_104_21 ?_
    refine w_pi f_104_22 rfl ?_
    refine w_al f_104_25 rfl ?_
    refine w_dupr f_104_26 ?_
    refine w_gi' f_104_27 rfl ((am_u_ne (Or.inr (by decide))).trans (am_u_ne (Or.inr (by decide)))) ?_
    refine w_ic f_104_30 ?_
    refine w_bin f_104_31 ?_
    refine w_pi f_104_32 rfl ?_
    refine w_al f_104_35 rfl ?_
    refine w_gi' f_104_36 rfl ((am_u_ne (Or.inr (by decide))).trans (am_u_same)) ?_
    refine w_ic f_104_39 ?_
    refine w_bin f_104_40 ?_
    exact w_reti f_104_41 H
  · have H := H.2 c
    refine w_ic f_104_13 ?_
    exact w_reti f_104_14 H
theorem g_105_0 {d : Nat} {G : am_G} {I : Nat → Nat → Int32} {J : Nat → Nat → Int64} {Q : am_O → am_H → Prop} (hR : q_RT G) (i1 : Int32) (H : (((I 59 4) = 12 → q_W β xs L d 105 27 [.ref 59, .int i1] [] (G, (am_u I 59 0 0), J) Q) ∧ (¬ (I 59 4) = 12 → ((i1 < (-1) → q_W β xs L d 105 27 [.ref 59, .int i1] [] (G, (am_u I 59 0 0), J) Q) ∧ (¬ i1 < (-1) → ((i1 < (I 59 3) → (am_is (I 59 4) 12 = true ∧ Q (.inl (some (.int (((I 59 4) + 1) - 1)))) (G, (am_u (am_u (am_u I 59 0 0) 60 ((I 59 4)).toNatClampNeg i1) 59 4 ((I 59 4) + 1)), J))) ∧ (¬ i1 < (I 59 3) → q_W β xs L d 105 27 [.ref 59, .int i1] [] (G, (am_u I 59 0 0), J) Q))))))) : q_W β xs L d 105 0 [.ref 59, .int i1] [] (G, I, J) Q := by
  refine w_al f_105_0 rfl ?_
  refine w_ic f_105_1 ?_
  refine w_pi f_105_2 rfl ?_
  refine w_al f_105_5 rfl ?_
  refine w_gi' f_105_6 rfl (am_u_ne (Or.inr (by decide))) ?_
  refine w_ic f_105_9 ?_
  refine w_iceq f_105_11 (fun c => ?_) (fun c => ?_)
  · have H := H.1 c
    exact H
  · have H := H.2 c
    refine w_il f_105_14 rfl ?_
    refine w_ic f_105_15 ?_
    refine w_iclt f_105_16 (fun c => ?_) (fun c => ?_)
    · have H := H.1 c
      exact H
    · have H := H.2 c
      refine w_il f_105_19 rfl ?_
      refine w_al f_105_20 rfl ?_
      refine w_gi' f_105_21 rfl (am_u_ne (Or.inr (by decide))) ?_
      refine w_iclt f_105_24 (fun c => ?_) (fun c => ?_)
      · have H := H.1 c
        refine w_al f_105_29 rfl ?_
        refine w_gr f_105_30 rfl (hR _ _ _ rfl) ?_
        refine w_al f_105_33 rfl ?_
        refine w_gi' f_105_34 rfl (am_u_ne (Or.inr (by decide))) ?_
        refine w_il f_105_37 rfl ?_
        have hb := H.1
        have H := H.2
        refine w_ast f_105_38 rfl hb ?_
        refine w_al f_105_39 rfl ?_
        refine w_dupr f_105_40 ?_
        refine w_gi' f_105_41 rfl ((am_u_ne (Or.inl (by decide))).trans (am_u_ne (Or.inr (by decide)))) ?_
        refine w_ic f_105_44 ?_
        refine w_bin f_105_45 ?_
        refine w_pi f_105_46 rfl ?_
        refine w_al f_105_49 rfl ?_
        refine w_gi' f_105_50 rfl (am_u_same) ?_
        refine w_ic f_105_53 ?_
        refine w_bin f_105_54 ?_
        exact w_reti f_105_55 H
      · have H := H.2 c
        exact H
theorem g_105_27 {d : Nat} {G : am_G} {I : Nat → Nat → Int32} {J : Nat → Nat → Int64} {Q : am_O → am_H → Prop} (hR : q_RT G) (i1 : Int32) (H : Q (.inl (some (.int (-1)))) (G, I, J)) : q_W β xs L d 105 27 [.ref 59, .int i1] [] (G, I, J) Q := by
  refine w_ic f_105_27 ?_
  exact w_reti f_105_28 H
theorem g_106_0 {d : Nat} {G : am_G} {I : Nat → Nat → Int32} {J : Nat → Nat → Int64} {Q : am_O → am_H → Prop} (hR : q_RT G) (i1 : Int32) (i2 : Int32) (i3 : Int32) (H : (((I 59 5) = 20 → q_W β xs L d 106 49 [.ref 59, .int i1, .int i2, .int i3] [] (G, (am_u I 59 0 0), J) Q) ∧ (¬ (I 59 5) = 20 → ((i1 < 0 → q_W β xs L d 106 49 [.ref 59, .int i1, .int i2, .int i3] [] (G, (am_u I 59 0 0), J) Q) ∧ (¬ i1 < 0 → ((1 < i1 → q_W β xs L d 106 49 [.ref 59, .int i1, .int i2, .int i3] [] (G, (am_u I 59 0 0), J) Q) ∧ (¬ 1 < i1 → ((i2 < (-1) → q_W β xs L d 106 49 [.ref 59, .int i1, .int i2, .int i3] [] (G, (am_u I 59 0 0), J) Q) ∧ (¬ i2 < (-1) → ((¬ i2 < (I 59 5) → q_W β xs L d 106 49 [.ref 59, .int i1, .int i2, .int i3] [] (G, (am_u I 59 0 0), J) Q) ∧ (i2 < (I 59 5) → ((i3 < (-1) → q_W β xs L d 106 49 [.ref 59, .int i1, .int i2, .int i3] [] (G, (am_u I 59 0 0), J) Q) ∧ (¬ i3 < (-1) → ((i3 < (I 59 5) → (am_is (I 59 5) 20 = true ∧ (am_is (I 59 5) 20 = true ∧ (am_is (I 59 5) 20 = true ∧ Q (.inl (some (.int (((I 59 5) + 1) - 1)))) (G, (am_u (am_u (am_u (am_u (am_u (am_u I 59 0 0) 61 ((I 59 5)).toNatClampNeg i1) 62 ((I 59 5)).toNatClampNeg i2) 63 ((I 59 5)).toNatClampNeg i3) 59 5 ((I 59 5) + 1)) 59 2 ((I 59 2) + 1)), J))))) ∧ (¬ i3 < (I 59 5) → q_W β xs L d 106 49 [.ref 59, .int i1, .int i2, .int i3] [] (G, (am_u I 59 0 0), J) Q))))))))))))))) : q_W β xs L d 106 0 [.ref 59, .int i1, .int i2, .int i3] [] (G, I, J) Q := by
  refine w_al f_106_0 rfl ?_
  refine w_ic f_106_1 ?_
  refine w_pi f_106_2 rfl ?_
  refine w_al f_106_5 rfl ?_
  refine w_gi' f_106_6 rfl (am_u_ne (Or.inr (by decide))) ?_
  refine w_ic f_106_9 ?_
  refine w_iceq f_106_11 (fun c => ?_) (fun c => ?_)
  · have H := H.1 c
    exact H
  · have H := H.2 c
    refine w_il f_106_14 rfl ?_
    refine w_iflt f_106_15 (fun c => ?_) (fun c => ?_)
    · have H := H.1 c
      exact H
    · have H := H.2 c
      refine w_il f_106_18 rfl ?_
      refine w_ic f_106_19 ?_
      refine w_icgt f_106_20 (fun c => ?_) (fun c => ?_)
      · have H := H.1 c
        exact H
      · have H := H.2 c
        refine w_il f_106_23 rfl ?_
        refine w_ic f_106_24 ?_
        refine w_iclt f_106_25 (fun c => ?_) (fun c => ?_)
        · have H := H.1 c
          exact H
        · have H := H.2 c
          refine w_il f_106_28 rfl ?_
          refine w_al f_106_29 rfl ?_
          refine w_gi' f_106_30 rfl (am_u_ne (Or.inr (by decide))) ?_
          refine w_icge f_106_33 (fun c => ?_) (fun c => ?_)
          · have H := H.1 c
            exact H
          · have H := H.2 c
            refine w_il f_106_36 rfl ?_
            refine w_ic f_106_37 ?_
            refine w_iclt f_106_38 (fun c => ?_) (fun c => ?_)
            · have H := H.1 c
              exact H
            · have H := H.2 c
              refine w_il f_106_41 rfl ?_
              refine w_al f_106_42 rfl ?_
              refine w_gi' f_106_43 rfl (am_u_ne (Or.inr (by decide))) ?_
              refine w_iclt f_106_46 (fun c => ?_) (fun c => ?_)
              · have H := H.1 c
                refine w_al f_106_51 rfl ?_
                refine w_gr f_106_52 rfl (hR _ _ _ rfl) ?_
                refine w_al f_106_55 rfl ?_
                refine w_gi' f_106_56 rfl (am_u_ne (Or.inr (by decide))) ?_
                refine w_il f_106_59 rfl ?_
                have hb := H.1
                have H := H.2
                refine w_ast f_106_60 rfl hb ?_
                refine w_al f_106_61 rfl ?_
                refine w_gr f_106_62 rfl (hR _ _ _ rfl) ?_
                refine w_al f_106_65 rfl ?_
                refine w_gi' f_106_66 rfl ((am_u_ne (Or.inl (by decide))).trans (am_u_ne (Or.inr (by decide)))) ?_
                refine w_il f_106_69 rfl ?_
                have hb := H.1
                have H := H.2
                refine w_ast f_106_70 rfl hb ?_
                refine w_al f_106_71 rfl ?_
                refine w_gr f_106_72 rfl (hR _ _ _ rfl) ?_
                refine w_al f_106_75 rfl ?_
                refine w_gi' f_106_76 rfl ((am_u_ne (Or.inl (by decide))).trans ((am_u_ne (Or.inl (by decide))).trans (am_u_ne (Or.inr (by decide))))) ?_
                refine w_il f_106_79 rfl ?_
                have hb := H.1
                have H := H.2
                refine w_ast f_106_80 rfl hb ?_
                refine w_al f_106_81 rfl ?_
                refine w_dupr f_106_82 ?_
                refine w_gi' f_106_83 rfl ((am_u_ne (Or.inl (by decide))).trans ((am_u_ne (Or.inl (by decide))).trans ((am_u_ne (Or.inl (by decide))).trans (am_u_ne (Or.inr (by decide)))))) ?_
                refine w_ic f_106_86 ?_
                refine w_bin f_106_87 ?_
                refine w_pi f_106_88 rfl ?_
                refine w_al f_106_91 rfl ?_
                refine w_dupr f_106_92 ?_
                refine w_gi' f_106_93 rfl ((am_u_ne (Or.inr (by decide))).trans ((am_u_ne (Or.inl (by decide))).trans ((am_u_ne (Or.inl (by decide))).trans ((am_u_ne (Or.inl (by decide))).trans (am_u_ne (Or.inr (by decide))))))) ?_
                refine w_ic f_106_96 ?_
                refine w_bin f_106_97 ?_
                refine w_pi f_106_98 rfl ?_
                refine w_al f_106_101 rfl ?_
                refine w_gi' f_106_102 rfl ((am_u_ne (Or.inr (by decide))).trans (am_u_same)) ?_
                refine w_ic f_106_105 ?_
                refine w_bin f_106_106 ?_
                exact w_reti f_106_107 H
              · have H := H.2 c
                exact H
theorem g_106_49 {d : Nat} {G : am_G} {I : Nat → Nat → Int32} {J : Nat → Nat → Int64} {Q : am_O → am_H → Prop} (hR : q_RT G) (i1 : Int32) (i2 : Int32) (i3 : Int32) (H : Q (.inl (some (.int (-1)))) (G, I, J)) : q_W β xs L d 106 49 [.ref 59, .int i1, .int i2, .int i3] [] (G, I, J) Q := by
  refine w_ic f_106_49 ?_
  exact w_reti f_106_50 H
theorem g_107_0 {d : Nat} {G : am_G} {I : Nat → Nat → Int32} {J : Nat → Nat → Int64} {Q : am_O → am_H → Prop} (hR : q_RT G) (i1 : Int32) (H : ((i1 < 0 → q_W β xs L (d + 1) 107 17 [.ref 59, .int i1] [.ref 59] (G, I, J) Q) ∧ (¬ i1 < 0 → ((¬ i1 < (I 59 5) → q_W β xs L (d + 1) 107 17 [.ref 59, .int i1] [.ref 59] (G, I, J) Q) ∧ (i1 < (I 59 5) → q_W β xs L (d + 1) 107 18 [.ref 59, .int i1] [.int 1, .ref 59] (G, I, J) Q))))) : q_W β xs L (d + 1) 107 0 [.ref 59, .int i1] [] (G, I, J) Q := by
  refine w_al f_107_0 rfl ?_
  refine w_il f_107_1 rfl ?_
  refine w_iflt f_107_2 (fun c => ?_) (fun c => ?_)
  · have H := H.1 c
    exact H
  · have H := H.2 c
    refine w_il f_107_5 rfl ?_
    refine w_al f_107_6 rfl ?_
    refine w_gi f_107_7 rfl ?_
    refine w_icge f_107_10 (fun c => ?_) (fun c => ?_)
    · have H := H.1 c
      exact H
    · have H := H.2 c
      refine w_ic f_107_13 ?_
      refine w_go f_107_14 ?_
      exact H
theorem g_107_17 {d : Nat} {G : am_G} {I : Nat → Nat → Int32} {J : Nat → Nat → Int64} {Q : am_O → am_H → Prop} (hR : q_RT G) (i1 : Int32) (H : q_W β xs L (d + 1) 107 18 [.ref 59, .int i1] [.int 0, .ref 59] (G, I, J) Q) : q_W β xs L (d + 1) 107 17 [.ref 59, .int i1] [.ref 59] (G, I, J) Q := by
  refine w_ic f_107_17 ?_
  exact H
theorem g_107_18 {d : Nat} {G : am_G} {I : Nat → Nat → Int32} {J : Nat → Nat → Int64} {Q : am_O → am_H → Prop} (hR : q_RT G) (i1 : Int32) (is0 : Int32) (H : q_W β xs L d 103 0 [.ref 59, .int is0, .int 1] [] (G, I, J) (q_Ri (fun y1 G1 I1 J1 => (((y1 : Int32) = 0 ∨ (y1 : Int32) = 1) ∧ Q (.inl (some (.int y1))) (G1, I1, J1))) (fun x1 G1 I1 J1 => Q (.inr x1) (G1, I1, J1)))) : q_W β xs L (d + 1) 107 18 [.ref 59, .int i1] [.int is0, .ref 59] (G, I, J) Q := by
  refine w_ic f_107_18 ?_
  refine w_inv (as := [.ref 59, .int is0, .int 1]) (st' := []) f_107_19 rfl rfl rfl rfl rfl rfl H (k_i (fun y1 G1 I1 J1 H => ?_)) (x_n (fun _ => rfl) rfl (fun x h' h => h))
  exact w_retz f_107_22 H.1 H.2
theorem g_108_0 {d : Nat} {G : am_G} {I : Nat → Nat → Int32} {J : Nat → Nat → Int64} {Q : am_O → am_H → Prop} (hR : q_RT G) (i1 : Int32) (H : ((i1 < 0 → q_W β xs L (d + 1) 108 17 [.ref 59, .int i1] [.ref 59] (G, I, J) Q) ∧ (¬ i1 < 0 → ((¬ i1 < (I 59 3) → q_W β xs L (d + 1) 108 17 [.ref 59, .int i1] [.ref 59] (G, I, J) Q) ∧ (i1 < (I 59 3) → q_W β xs L (d + 1) 108 18 [.ref 59, .int i1] [.int 1, .ref 59] (G, I, J) Q))))) : q_W β xs L (d + 1) 108 0 [.ref 59, .int i1] [] (G, I, J) Q := by
  refine w_al f_108_0 rfl ?_
  refine w_il f_108_1 rfl ?_
  refine w_iflt f_108_2 (fun c => ?_) (fun c => ?_)
  · have H := H.1 c
    exact H
  · have H := H.2 c
    refine w_il f_108_5 rfl ?_
    refine w_al f_108_6 rfl ?_
    refine w_gi f_108_7 rfl ?_
    refine w_icge f_108_10 (fun c => ?_) (fun c => ?_)
    · have H := H.1 c
      exact H
    · have H := H.2 c
      refine w_ic f_108_13 ?_
      refine w_go f_108_14 ?_
      exact H
theorem g_108_17 {d : Nat} {G : am_G} {I : Nat → Nat → Int32} {J : Nat → Nat → Int64} {Q : am_O → am_H → Prop} (hR : q_RT G) (i1 : Int32) (H : q_W β xs L (d + 1) 108 18 [.ref 59, .int i1] [.int 0, .ref 59] (G, I, J) Q) : q_W β xs L (d + 1) 108 17 [.ref 59, .int i1] [.ref 59] (G, I, J) Q := by
  refine w_ic f_108_17 ?_
  exact H
theorem g_108_18 {d : Nat} {G : am_G} {I : Nat → Nat → Int32} {J : Nat → Nat → Int64} {Q : am_O → am_H → Prop} (hR : q_RT G) (i1 : Int32) (is0 : Int32) (H : q_W β xs L d 103 0 [.ref 59, .int is0, .int 1] [] (G, I, J) (q_Ri (fun y1 G1 I1 J1 => (((y1 : Int32) = 0 ∨ (y1 : Int32) = 1) ∧ Q (.inl (some (.int y1))) (G1, I1, J1))) (fun x1 G1 I1 J1 => Q (.inr x1) (G1, I1, J1)))) : q_W β xs L (d + 1) 108 18 [.ref 59, .int i1] [.int is0, .ref 59] (G, I, J) Q := by
  refine w_ic f_108_18 ?_
  refine w_inv (as := [.ref 59, .int is0, .int 1]) (st' := []) f_108_19 rfl rfl rfl rfl rfl rfl H (k_i (fun y1 G1 I1 J1 H => ?_)) (x_n (fun _ => rfl) rfl (fun x h' h => h))
  exact w_retz f_108_22 H.1 H.2
theorem g_109_0 {d : Nat} {G : am_G} {I : Nat → Nat → Int32} {J : Nat → Nat → Int64} {Q : am_O → am_H → Prop} (hR : q_RT G) (i0 : Int32) (H : ((i0 < 0 → q_W β xs L d 109 14 [.int i0] [] (G, I, J) Q) ∧ (¬ i0 < 0 → ((72999 < i0 → q_W β xs L d 109 14 [.int i0] [] (G, I, J) Q) ∧ (¬ 72999 < i0 → q_W β xs L d 109 15 [.int i0] [.int 1] (G, I, J) Q))))) : q_W β xs L d 109 0 [.int i0] [] (G, I, J) Q := by
  refine w_il f_109_0 rfl ?_
  refine w_iflt f_109_1 (fun c => ?_) (fun c => ?_)
  · have H := H.1 c
    exact H
  · have H := H.2 c
    refine w_il f_109_4 rfl ?_
    refine w_ic f_109_5 ?_
    refine w_icgt f_109_7 (fun c => ?_) (fun c => ?_)
    · have H := H.1 c
      exact H
    · have H := H.2 c
      refine w_ic f_109_10 ?_
      refine w_go f_109_11 ?_
      exact H
theorem g_109_14 {d : Nat} {G : am_G} {I : Nat → Nat → Int32} {J : Nat → Nat → Int64} {Q : am_O → am_H → Prop} (hR : q_RT G) (i0 : Int32) (H : q_W β xs L d 109 15 [.int i0] [.int 0] (G, I, J) Q) : q_W β xs L d 109 14 [.int i0] [] (G, I, J) Q := by
  refine w_ic f_109_14 ?_
  exact H
theorem g_109_15 {d : Nat} {G : am_G} {I : Nat → Nat → Int32} {J : Nat → Nat → Int64} {Q : am_O → am_H → Prop} (hR : q_RT G) (i0 : Int32) (is0 : Int32) (H : (((is0 : Int32) = 0 ∨ (is0 : Int32) = 1) ∧ Q (.inl (some (.int is0))) (G, I, J))) : q_W β xs L d 109 15 [.int i0] [.int is0] (G, I, J) Q := by
  exact w_retz f_109_15 H.1 H.2
theorem g_110_0 {d : Nat} {G : am_G} {I : Nat → Nat → Int32} {J : Nat → Nat → Int64} {Q : am_O → am_H → Prop} (hR : q_RT G) (i1 : Int32) (i2 : Int32) (i3 : Int32) (i4 : Int32) (i5 : Int32) (H : ((i1 < 0 → q_W β xs L (d + 1) 110 20 [.ref 59, .int i1, .int i2, .int i3, .int i4, .int i5] [.ref 59] (G, (am_u I 59 0 0), J) Q) ∧ (¬ i1 < 0 → ((6 < i1 → q_W β xs L (d + 1) 110 20 [.ref 59, .int i1, .int i2, .int i3, .int i4, .int i5] [.ref 59] (G, (am_u I 59 0 0), J) Q) ∧ (¬ 6 < i1 → q_W β xs L (d + 1) 110 21 [.ref 59, .int i1, .int i2, .int i3, .int i4, .int i5] [.int 1, .ref 59] (G, (am_u I 59 0 0), J) Q))))) : q_W β xs L (d + 1) 110 0 [.ref 59, .int i1, .int i2, .int i3, .int i4, .int i5] [] (G, I, J) Q := by
  refine w_al f_110_0 rfl ?_
  refine w_ic f_110_1 ?_
  refine w_pi f_110_2 rfl ?_
  refine w_al f_110_5 rfl ?_
  refine w_il f_110_6 rfl ?_
  refine w_iflt f_110_7 (fun c => ?_) (fun c => ?_)
  · have H := H.1 c
    exact H
  · have H := H.2 c
    refine w_il f_110_10 rfl ?_
    refine w_ic f_110_11 ?_
    refine w_icgt f_110_13 (fun c => ?_) (fun c => ?_)
    · have H := H.1 c
      exact H
    · have H := H.2 c
      refine w_ic f_110_16 ?_
      refine w_go f_110_17 ?_
      exact H
theorem g_110_20 {d : Nat} {G : am_G} {I : Nat → Nat → Int32} {J : Nat → Nat → Int64} {Q : am_O → am_H → Prop} (hR : q_RT G) (i1 : Int32) (i2 : Int32) (i3 : Int32) (i4 : Int32) (i5 : Int32) (H : q_W β xs L (d + 1) 110 21 [.ref 59, .int i1, .int i2, .int i3, .int i4, .int i5] [.int 0, .ref 59] (G, I, J) Q) : q_W β xs L (d + 1) 110 20 [.ref 59, .int i1, .int i2, .int i3, .int i4, .int i5] [.ref 59] (G, I, J) Q := by
  refine w_ic f_110_20 ?_
  exact H
theorem g_110_21 {d : Nat} {G : am_G} {I : Nat → Nat → Int32} {J : Nat → Nat → Int64} {Q : am_O → am_H → Prop} (hR : q_RT G) (i1 : Int32) (i2 : Int32) (i3 : Int32) (i4 : Int32) (i5 : Int32) (is0 : Int32) (H : q_W β xs L d 103 0 [.ref 59, .int is0, .int 1] [] (G, I, J) (q_Ri (fun y1 G1 I1 J1 => ((¬ y1 = 0 → ((i1 = 5 → q_W β xs L (d + 1) 110 45 [.ref 59, .int i1, .int i2, .int i3, .int i4, .int i5] [] (G1, I1, J1) Q) ∧ (¬ i1 = 5 → q_W β xs L d 107 0 [.ref 59, .int i2] [] (G1, I1, J1) (q_Ri (fun y2 G2 I2 J2 => ((¬ y2 = 0 → q_W β xs L (d + 1) 110 45 [.ref 59, .int i1, .int i2, .int i3, .int i4, .int i5] [] (G2, I2, J2) Q) ∧ (y2 = 0 → Q (.inl (some (.int 0))) (G2, I2, J2)))) (fun x2 G2 I2 J2 => Q (.inr x2) (G2, I2, J2)))))) ∧ (y1 = 0 → Q (.inl (some (.int 0))) (G1, I1, J1)))) (fun x1 G1 I1 J1 => Q (.inr x1) (G1, I1, J1)))) : q_W β xs L (d + 1) 110 21 [.ref 59, .int i1, .int i2, .int i3, .int i4, .int i5] [.int is0, .ref 59] (G, I, J) Q := by
  refine w_ic f_110_21 ?_
  refine w_inv (as := [.ref 59, .int is0, .int 1]) (st' := []) f_110_22 rfl rfl rfl rfl rfl rfl H (k_i (fun y1 G1 I1 J1 H => ?_)) (x_n (fun _ => rfl) rfl (fun x h' h => h))
  refine w_ifne f_110_25 (fun c => ?_) (fun c => ?_)
  · have H := H.1 c
    refine w_il f_110_30 rfl ?_
    refine w_ic f_110_31 ?_
    refine w_iceq f_110_32 (fun c => ?_) (fun c => ?_)
    · have H := H.1 c
      exact H
    · have H := H.2 c
      refine w_al f_110_35 rfl ?_
      refine w_il f_110_36 rfl ?_
      refine w_inv (as := [.ref 59, .int i2]) (st' := []) f_110_37 rfl rfl rfl rfl rfl rfl H (k_i (fun y2 G2 I2 J2 H => ?_)) (x_n (fun _ => rfl) rfl (fun x h' h => h))
      refine w_ifne f_110_40 (fun c => ?_) (fun c => ?_)
      · have H := H.1 c
        exact H
      · have H := H.2 c
        refine w_ic f_110_43 ?_
        exact w_reti f_110_44 H
  · have H := H.2 c
    refine w_ic f_110_28 ?_
    exact w_reti f_110_29 H
theorem g_110_45 {d : Nat} {G : am_G} {I : Nat → Nat → Int32} {J : Nat → Nat → Int64} {Q : am_O → am_H → Prop} (hR : q_RT G) (i1 : Int32) (i2 : Int32) (i3 : Int32) (i4 : Int32) (i5 : Int32) (H : ((¬ i1 = 1 → q_W β xs L (d + 1) 110 60 [.ref 59, .int i1, .int i2, .int i3, .int i4, .int i5] [] (G, I, J) Q) ∧ (i1 = 1 → q_W β xs L d 107 0 [.ref 59, .int i3] [] (G, I, J) (q_Ri (fun y1 G1 I1 J1 => ((¬ y1 = 0 → q_W β xs L (d + 1) 110 60 [.ref 59, .int i1, .int i2, .int i3, .int i4, .int i5] [] (G1, I1, J1) Q) ∧ (y1 = 0 → Q (.inl (some (.int 0))) (G1, I1, J1)))) (fun x1 G1 I1 J1 => Q (.inr x1) (G1, I1, J1)))))) : q_W β xs L (d + 1) 110 45 [.ref 59, .int i1, .int i2, .int i3, .int i4, .int i5] [] (G, I, J) Q := by
  refine w_il f_110_45 rfl ?_
  refine w_ic f_110_46 ?_
  refine w_icne f_110_47 (fun c => ?_) (fun c => ?_)
  · have H := H.1 c
    exact H
  · have H := H.2 c
    refine w_al f_110_50 rfl ?_
    refine w_il f_110_51 rfl ?_
    refine w_inv (as := [.ref 59, .int i3]) (st' := []) f_110_52 rfl rfl rfl rfl rfl rfl H (k_i (fun y1 G1 I1 J1 H => ?_)) (x_n (fun _ => rfl) rfl (fun x h' h => h))
    refine w_ifne f_110_55 (fun c => ?_) (fun c => ?_)
    · have H := H.1 c
      exact H
    · have H := H.2 c
      refine w_ic f_110_58 ?_
      exact w_reti f_110_59 H
theorem g_110_60 {d : Nat} {G : am_G} {I : Nat → Nat → Int32} {J : Nat → Nat → Int64} {Q : am_O → am_H → Prop} (hR : q_RT G) (i1 : Int32) (i2 : Int32) (i3 : Int32) (i4 : Int32) (i5 : Int32) (H : ((i1 < 2 → q_W β xs L (d + 1) 110 80 [.ref 59, .int i1, .int i2, .int i3, .int i4, .int i5] [] (G, I, J) Q) ∧ (¬ i1 < 2 → ((5 < i1 → q_W β xs L (d + 1) 110 80 [.ref 59, .int i1, .int i2, .int i3, .int i4, .int i5] [] (G, I, J) Q) ∧ (¬ 5 < i1 → q_W β xs L d 108 0 [.ref 59, .int i3] [] (G, I, J) (q_Ri (fun y1 G1 I1 J1 => ((¬ y1 = 0 → q_W β xs L (d + 1) 110 80 [.ref 59, .int i1, .int i2, .int i3, .int i4, .int i5] [] (G1, I1, J1) Q) ∧ (y1 = 0 → Q (.inl (some (.int 0))) (G1, I1, J1)))) (fun x1 G1 I1 J1 => Q (.inr x1) (G1, I1, J1)))))))) : q_W β xs L (d + 1) 110 60 [.ref 59, .int i1, .int i2, .int i3, .int i4, .int i5] [] (G, I, J) Q := by
  refine w_il f_110_60 rfl ?_
  refine w_ic f_110_61 ?_
  refine w_iclt f_110_62 (fun c => ?_) (fun c => ?_)
  · have H := H.1 c
    exact H
  · have H := H.2 c
    refine w_il f_110_65 rfl ?_
    refine w_ic f_110_66 ?_
    refine w_icgt f_110_67 (fun c => ?_) (fun c => ?_)
    · have H := H.1 c
      exact H
    · have H := H.2 c
      refine w_al f_110_70 rfl ?_
      refine w_il f_110_71 rfl ?_
      refine w_inv (as := [.ref 59, .int i3]) (st' := []) f_110_72 rfl rfl rfl rfl rfl rfl H (k_i (fun y1 G1 I1 J1 H => ?_)) (x_n (fun _ => rfl) rfl (fun x h' h => h))
      refine w_ifne f_110_75 (fun c => ?_) (fun c => ?_)
      · have H := H.1 c
        exact H
      · have H := H.2 c
        refine w_ic f_110_78 ?_
        exact w_reti f_110_79 H
theorem g_110_80 {d : Nat} {G : am_G} {I : Nat → Nat → Int32} {J : Nat → Nat → Int64} {Q : am_O → am_H → Prop} (hR : q_RT G) (i1 : Int32) (i2 : Int32) (i3 : Int32) (i4 : Int32) (i5 : Int32) (H : ((i1 < 2 → q_W β xs L (d + 1) 110 91 [.ref 59, .int i1, .int i2, .int i3, .int i4, .int i5] [.ref 59] (G, I, J) Q) ∧ (¬ i1 < 2 → ((¬ 4 < i1 → q_W β xs L (d + 1) 110 105 [.ref 59, .int i1, .int i2, .int i3, .int i4, .int i5] [.ref 59] (G, I, J) Q) ∧ (4 < i1 → q_W β xs L (d + 1) 110 91 [.ref 59, .int i1, .int i2, .int i3, .int i4, .int i5] [.ref 59] (G, I, J) Q))))) : q_W β xs L (d + 1) 110 80 [.ref 59, .int i1, .int i2, .int i3, .int i4, .int i5] [] (G, I, J) Q := by
  refine w_al f_110_80 rfl ?_
  refine w_il f_110_81 rfl ?_
  refine w_ic f_110_82 ?_
  refine w_iclt f_110_83 (fun c => ?_) (fun c => ?_)
  · have H := H.1 c
    exact H
  · have H := H.2 c
    refine w_il f_110_86 rfl ?_
    refine w_ic f_110_87 ?_
    refine w_icle f_110_88 (fun c => ?_) (fun c => ?_)
    · have H := H.1 c
      exact H
    · have H := H.2 c
      exact H
theorem g_110_91 {d : Nat} {G : am_G} {I : Nat → Nat → Int32} {J : Nat → Nat → Int64} {Q : am_O → am_H → Prop} (hR : q_RT G) (i1 : Int32) (i2 : Int32) (i3 : Int32) (i4 : Int32) (i5 : Int32) (H : ((i4 < 0 → q_W β xs L (d + 1) 110 109 [.ref 59, .int i1, .int i2, .int i3, .int i4, .int i5] [.ref 59] (G, I, J) Q) ∧ (¬ i4 < 0 → ((¬ i4 < (I 59 4) → q_W β xs L (d + 1) 110 109 [.ref 59, .int i1, .int i2, .int i3, .int i4, .int i5] [.ref 59] (G, I, J) Q) ∧ (i4 < (I 59 4) → q_W β xs L (d + 1) 110 105 [.ref 59, .int i1, .int i2, .int i3, .int i4, .int i5] [.ref 59] (G, I, J) Q))))) : q_W β xs L (d + 1) 110 91 [.ref 59, .int i1, .int i2, .int i3, .int i4, .int i5] [.ref 59] (G, I, J) Q := by
  refine w_il f_110_91 rfl ?_
  refine w_iflt f_110_93 (fun c => ?_) (fun c => ?_)
  · have H := H.1 c
    exact H
  · have H := H.2 c
    refine w_il f_110_96 rfl ?_
    refine w_al f_110_98 rfl ?_
    refine w_gi f_110_99 rfl ?_
    refine w_icge f_110_102 (fun c => ?_) (fun c => ?_)
    · have H := H.1 c
      exact H
    · have H := H.2 c
      exact H
theorem g_110_105 {d : Nat} {G : am_G} {I : Nat → Nat → Int32} {J : Nat → Nat → Int64} {Q : am_O → am_H → Prop} (hR : q_RT G) (i1 : Int32) (i2 : Int32) (i3 : Int32) (i4 : Int32) (i5 : Int32) (H : q_W β xs L (d + 1) 110 110 [.ref 59, .int i1, .int i2, .int i3, .int i4, .int i5] [.int 1, .ref 59] (G, I, J) Q) : q_W β xs L (d + 1) 110 105 [.ref 59, .int i1, .int i2, .int i3, .int i4, .int i5] [.ref 59] (G, I, J) Q := by
  refine w_ic f_110_105 ?_
  refine w_go f_110_106 ?_
  exact H
theorem g_110_109 {d : Nat} {G : am_G} {I : Nat → Nat → Int32} {J : Nat → Nat → Int64} {Q : am_O → am_H → Prop} (hR : q_RT G) (i1 : Int32) (i2 : Int32) (i3 : Int32) (i4 : Int32) (i5 : Int32) (H : q_W β xs L (d + 1) 110 110 [.ref 59, .int i1, .int i2, .int i3, .int i4, .int i5] [.int 0, .ref 59] (G, I, J) Q) : q_W β xs L (d + 1) 110 109 [.ref 59, .int i1, .int i2, .int i3, .int i4, .int i5] [.ref 59] (G, I, J) Q := by
  refine w_ic f_110_109 ?_
  exact H
theorem g_110_110 {d : Nat} {G : am_G} {I : Nat → Nat → Int32} {J : Nat → Nat → Int64} {Q : am_O → am_H → Prop} (hR : q_RT G) (i1 : Int32) (i2 : Int32) (i3 : Int32) (i4 : Int32) (i5 : Int32) (is0 : Int32) (H : q_W β xs L d 103 0 [.ref 59, .int is0, .int 1] [] (G, I, J) (q_Ri (fun y1 G1 I1 J1 => ((¬ y1 = 0 → (((I1 59 6) = 100 → q_W β xs L (d + 1) 110 146 [.ref 59, .int i1, .int i2, .int i3, .int i4, .int i5] [] (G1, I1, J1) Q) ∧ (¬ (I1 59 6) = 100 → q_W β xs L d 109 0 [.int i5] [] (G1, I1, J1) (q_Ri (fun y2 G2 I2 J2 => ((y2 = 0 → q_W β xs L (d + 1) 110 146 [.ref 59, .int i1, .int i2, .int i3, .int i4, .int i5] [] (G2, I2, J2) Q) ∧ (¬ y2 = 0 → ((¬ i1 = 1 → q_W β xs L (d + 1) 110 148 [.ref 59, .int i1, .int i2, .int i3, .int i4, .int i5] [] (G2, I2, J2) Q) ∧ (i1 = 1 → ((¬ i2 = i3 → q_W β xs L (d + 1) 110 148 [.ref 59, .int i1, .int i2, .int i3, .int i4, .int i5] [] (G2, I2, J2) Q) ∧ (i2 = i3 → q_W β xs L (d + 1) 110 146 [.ref 59, .int i1, .int i2, .int i3, .int i4, .int i5] [] (G2, I2, J2) Q))))))) (fun x2 G2 I2 J2 => Q (.inr x2) (G2, I2, J2)))))) ∧ (y1 = 0 → Q (.inl (some (.int 0))) (G1, I1, J1)))) (fun x1 G1 I1 J1 => Q (.inr x1) (G1, I1, J1)))) : q_W β xs L (d + 1) 110 110 [.ref 59, .int i1, .int i2, .int i3, .int i4, .int i5] [.int is0, .ref 59] (G, I, J) Q := by
  refine w_ic f_110_110 ?_
  refine w_inv (as := [.ref 59, .int is0, .int 1]) (st' := []) f_110_111 rfl rfl rfl rfl rfl rfl H (k_i (fun y1 G1 I1 J1 H => ?_)) (x_n (fun _ => rfl) rfl (fun x h' h => h))
  refine w_ifne f_110_114 (fun c => ?_) (fun c => ?_)
  · have H := H.1 c
    refine w_al f_110_119 rfl ?_
    refine w_gi f_110_120 rfl ?_
    refine w_ic f_110_123 ?_
    refine w_iceq f_110_125 (fun c => ?_) (fun c => ?_)
    · have H := H.1 c
      exact H
    · have H := H.2 c
      refine w_il f_110_128 rfl ?_
      refine w_invs (as := [.int i5]) (st' := []) f_110_130 rfl rfl rfl rfl rfl H (k_i (fun y2 G2 I2 J2 H => ?_)) (x_n (fun _ => rfl) rfl (fun x h' h => h))
      refine w_ifeq f_110_133 (fun c => ?_) (fun c => ?_)
      · have H := H.1 c
        exact H
      · have H := H.2 c
        refine w_il f_110_136 rfl ?_
        refine w_ic f_110_137 ?_
        refine w_icne f_110_138 (fun c => ?_) (fun c => ?_)
        · have H := H.1 c
          exact H
        · have H := H.2 c
          refine w_il f_110_141 rfl ?_
          refine w_il f_110_142 rfl ?_
          refine w_icne f_110_143 (fun c => ?_) (fun c => ?_)
          · have H := H.1 c
            exact H
          · have H := H.2 c
            exact H
  · have H := H.2 c
    refine w_ic f_110_117 ?_
    exact w_reti f_110_118 H
theorem g_110_146 {d : Nat} {G : am_G} {I : Nat → Nat → Int32} {J : Nat → Nat → Int64} {Q : am_O → am_H → Prop} (hR : q_RT G) (i1 : Int32) (i2 : Int32) (i3 : Int32) (i4 : Int32) (i5 : Int32) (H : Q (.inl (some (.int (-1)))) (G, I, J)) : q_W β xs L (d + 1) 110 146 [.ref 59, .int i1, .int i2, .int i3, .int i4, .int i5] [] (G, I, J) Q := by
  refine w_ic f_110_146 ?_
  exact w_reti f_110_147 H
theorem g_110_148 {d : Nat} {G : am_G} {I : Nat → Nat → Int32} {J : Nat → Nat → Int64} {Q : am_O → am_H → Prop} (hR : q_RT G) (i1 : Int32) (i2 : Int32) (i3 : Int32) (i4 : Int32) (i5 : Int32) (H : (am_is (I 59 6) 100 = true ∧ (am_is (I 59 6) 100 = true ∧ (am_is (I 59 6) 100 = true ∧ (am_is (I 59 6) 100 = true ∧ (am_is (I 59 6) 100 = true ∧ (am_is (I 59 6) 100 = true ∧ (am_is (I 59 6) 100 = true ∧ (am_is (3 * (I 59 6)) 300 = true ∧ Q (.inl (some (.int (((I 59 6) + 1) - 1)))) (G, (am_u (am_u (am_u (am_u (am_u (am_u (am_u (am_u (am_u (am_u I 64 ((I 59 6)).toNatClampNeg i1) 65 ((I 59 6)).toNatClampNeg i2) 66 ((I 59 6)).toNatClampNeg i3) 67 ((I 59 6)).toNatClampNeg i4) 68 ((I 59 6)).toNatClampNeg (I 59 1)) 69 ((I 59 6)).toNatClampNeg (-1)) 70 ((I 59 6)).toNatClampNeg 1) 71 ((3 * (I 59 6))).toNatClampNeg i5) 59 6 ((I 59 6) + 1)) 59 2 ((I 59 2) + 1)), J)))))))))) : q_W β xs L (d + 1) 110 148 [.ref 59, .int i1, .int i2, .int i3, .int i4, .int i5] [] (G, I, J) Q := by
  refine w_al f_110_148 rfl ?_
  refine w_gr f_110_149 rfl (hR _ _ _ rfl) ?_
  refine w_al f_110_152 rfl ?_
  refine w_gi f_110_153 rfl ?_
  refine w_il f_110_156 rfl ?_
  have hb := H.1
  have H := H.2
  refine w_ast f_110_157 rfl hb ?_
  refine w_al f_110_158 rfl ?_
  refine w_gr f_110_159 rfl (hR _ _ _ rfl) ?_
  refine w_al f_110_162 rfl ?_
  refine w_gi' f_110_163 rfl (am_u_ne (Or.inl (by decide))) ?_
  refine w_il f_110_166 rfl ?_
  have hb := H.1
  have H := H.2
  refine w_ast f_110_167 rfl hb ?_
  refine w_al f_110_168 rfl ?_
  refine w_gr f_110_169 rfl (hR _ _ _ rfl) ?_
  refine w_al f_110_172 rfl ?_
  refine w_gi' f_110_173 rfl ((am_u_ne (Or.inl (by decide))).trans (am_u_ne (Or.inl (by decide)))) ?_
  refine w_il f_110_176 rfl ?_
  have hb := H.1
  have H := H.2
  refine w_ast f_110_177 rfl hb ?_
  refine w_al f_110_178 rfl ?_
  refine w_gr f_110_179 rfl (hR _ _ _ rfl) ?_
  refine w_al f_110_182 rfl ?_
  refine w_gi' f_110_183 rfl ((am_u_ne (Or.inl (by decide))).trans ((am_u_ne (Or.inl (by decide))).trans (am_u_ne (Or.inl (by decide))))) ?_
  refine w_il f_110_186 rfl ?_
  have hb := H.1
  have H := H.2
  refine w_ast f_110_188 rfl hb ?_
  refine w_al f_110_189 rfl ?_
  refine w_gr f_110_190 rfl (hR _ _ _ rfl) ?_
  refine w_al f_110_193 rfl ?_
  refine w_gi' f_110_194 rfl ((am_u_ne (Or.inl (by decide))).trans ((am_u_ne (Or.inl (by decide))).trans ((am_u_ne (Or.inl (by decide))).trans (am_u_ne (Or.inl (by decide)))))) ?_
  refine w_al f_110_197 rfl ?_
  refine w_gi' f_110_198 rfl ((am_u_ne (Or.inl (by decide))).trans ((am_u_ne (Or.inl (by decide))).trans ((am_u_ne (Or.inl (by decide))).trans (am_u_ne (Or.inl (by decide)))))) ?_
  have hb := H.1
  have H := H.2
  refine w_ast f_110_201 rfl hb ?_
  refine w_al f_110_202 rfl ?_
  refine w_gr f_110_203 rfl (hR _ _ _ rfl) ?_
  refine w_al f_110_206 rfl ?_
  refine w_gi' f_110_207 rfl ((am_u_ne (Or.inl (by decide))).trans ((am_u_ne (Or.inl (by decide))).trans ((am_u_ne (Or.inl (by decide))).trans ((am_u_ne (Or.inl (by decide))).trans (am_u_ne (Or.inl (by decide))))))) ?_
  refine w_ic f_110_210 ?_
  have hb := H.1
  have H := H.2
  refine w_ast f_110_211 rfl hb ?_
  refine w_al f_110_212 rfl ?_
  refine w_gr f_110_213 rfl (hR _ _ _ rfl) ?_
  refine w_al f_110_216 rfl ?_
  refine w_gi' f_110_217 rfl ((am_u_ne (Or.inl (by decide))).trans ((am_u_ne (Or.inl (by decide))).trans ((am_u_ne (Or.inl (by decide))).trans ((am_u_ne (Or.inl (by decide))).trans ((am_u_ne (Or.inl (by decide))).trans (am_u_ne (Or.inl (by decide)))))))) ?_
  refine w_ic f_110_220 ?_
  have hb := H.1
  have H := H.2
  refine w_ast f_110_221 rfl hb ?_
  refine w_al f_110_222 rfl ?_
  refine w_gr f_110_223 rfl (hR _ _ _ rfl) ?_
  refine w_ic f_110_226 ?_
  refine w_al f_110_227 rfl ?_
  refine w_gi' f_110_228 rfl ((am_u_ne (Or.inl (by decide))).trans ((am_u_ne (Or.inl (by decide))).trans ((am_u_ne (Or.inl (by decide))).trans ((am_u_ne (Or.inl (by decide))).trans ((am_u_ne (Or.inl (by decide))).trans ((am_u_ne (Or.inl (by decide))).trans (am_u_ne (Or.inl (by decide))))))))) ?_
  refine w_bin f_110_231 ?_
  refine w_il f_110_232 rfl ?_
  have hb := H.1
  have H := H.2
  refine w_ast f_110_234 rfl hb ?_
  refine w_al f_110_235 rfl ?_
  refine w_dupr f_110_236 ?_
  refine w_gi' f_110_237 rfl ((am_u_ne (Or.inl (by decide))).trans ((am_u_ne (Or.inl (by decide))).trans ((am_u_ne (Or.inl (by decide))).trans ((am_u_ne (Or.inl (by decide))).trans ((am_u_ne (Or.inl (by decide))).trans ((am_u_ne (Or.inl (by decide))).trans ((am_u_ne (Or.inl (by decide))).trans (am_u_ne (Or.inl (by decide)))))))))) ?_
  refine w_ic f_110_240 ?_
  refine w_bin f_110_241 ?_
  refine w_pi f_110_242 rfl ?_
  refine w_al f_110_245 rfl ?_
  refine w_dupr f_110_246 ?_
  refine w_gi' f_110_247 rfl ((am_u_ne (Or.inr (by decide))).trans ((am_u_ne (Or.inl (by decide))).trans ((am_u_ne (Or.inl (by decide))).trans ((am_u_ne (Or.inl (by decide))).trans ((am_u_ne (Or.inl (by decide))).trans ((am_u_ne (Or.inl (by decide))).trans ((am_u_ne (Or.inl (by decide))).trans ((am_u_ne (Or.inl (by decide))).trans (am_u_ne (Or.inl (by decide))))))))))) ?_
  refine w_ic f_110_250 ?_
  refine w_bin f_110_251 ?_
  refine w_pi f_110_252 rfl ?_
  refine w_al f_110_255 rfl ?_
  refine w_gi' f_110_256 rfl ((am_u_ne (Or.inr (by decide))).trans (am_u_same)) ?_
  refine w_ic f_110_259 ?_
  refine w_bin f_110_260 ?_
  exact w_reti f_110_261 H
theorem g_111_0 {d : Nat} {G : am_G} {I : Nat → Nat → Int32} {J : Nat → Nat → Int64} {Q : am_O → am_H → Prop} (hR : q_RT G) (i1 : Int32) (i2 : Int32) (H : ((i1 < 0 → q_W β xs L (d + 1) 111 22 [.ref 59, .int i1, .int i2, .retAddr 0, .retAddr 0] [.ref 59] (G, (am_u I 59 0 0), J) Q) ∧ (¬ i1 < 0 → ((¬ i1 < (I 59 6) → q_W β xs L (d + 1) 111 22 [.ref 59, .int i1, .int i2, .retAddr 0, .retAddr 0] [.ref 59] (G, (am_u I 59 0 0), J) Q) ∧ (i1 < (I 59 6) → q_W β xs L (d + 1) 111 23 [.ref 59, .int i1, .int i2, .retAddr 0, .retAddr 0] [.int 1, .ref 59] (G, (am_u I 59 0 0), J) Q))))) : q_W β xs L (d + 1) 111 0 [.ref 59, .int i1, .int i2, .retAddr 0, .retAddr 0] [] (G, I, J) Q := by
  refine w_al f_111_0 rfl ?_
  refine w_ic f_111_1 ?_
  refine w_pi f_111_2 rfl ?_
  refine w_al f_111_5 rfl ?_
  refine w_il f_111_6 rfl ?_
  refine w_iflt f_111_7 (fun c => ?_) (fun c => ?_)
  · have H := H.1 c
    exact H
  · have H := H.2 c
    refine w_il f_111_10 rfl ?_
    refine w_al f_111_11 rfl ?_
    refine w_gi' f_111_12 rfl (am_u_ne (Or.inr (by decide))) ?_
    refine w_icge f_111_15 (fun c => ?_) (fun c => ?_)
    · have H := H.1 c
      exact H
    · have H := H.2 c
      refine w_ic f_111_18 ?_
      refine w_go f_111_19 ?_
      exact H
theorem g_111_22 {d : Nat} {G : am_G} {I : Nat → Nat → Int32} {J : Nat → Nat → Int64} {Q : am_O → am_H → Prop} (hR : q_RT G) (i1 : Int32) (i2 : Int32) (H : q_W β xs L (d + 1) 111 23 [.ref 59, .int i1, .int i2, .retAddr 0, .retAddr 0] [.int 0, .ref 59] (G, I, J) Q) : q_W β xs L (d + 1) 111 22 [.ref 59, .int i1, .int i2, .retAddr 0, .retAddr 0] [.ref 59] (G, I, J) Q := by
  refine w_ic f_111_22 ?_
  exact H
theorem g_111_23 {d : Nat} {G : am_G} {I : Nat → Nat → Int32} {J : Nat → Nat → Int64} {Q : am_O → am_H → Prop} (hR : q_RT G) (i1 : Int32) (i2 : Int32) (is0 : Int32) (H : q_W β xs L d 103 0 [.ref 59, .int is0, .int 1] [] (G, I, J) (q_Ri (fun y1 G1 I1 J1 => ((¬ y1 = 0 → q_W β xs L (d + 1) 111 37 [.ref 59, .int i1, .int i2, .int 0, .int 0] [] (G1, I1, J1) Q) ∧ (y1 = 0 → Q (.inl (some (.int 0))) (G1, I1, J1)))) (fun x1 G1 I1 J1 => Q (.inr x1) (G1, I1, J1)))) : q_W β xs L (d + 1) 111 23 [.ref 59, .int i1, .int i2, .retAddr 0, .retAddr 0] [.int is0, .ref 59] (G, I, J) Q := by
  refine w_ic f_111_23 ?_
  refine w_inv (as := [.ref 59, .int is0, .int 1]) (st' := []) f_111_24 rfl rfl rfl rfl rfl rfl H (k_i (fun y1 G1 I1 J1 H => ?_)) (x_n (fun _ => rfl) rfl (fun x h' h => h))
  refine w_ifne f_111_27 (fun c => ?_) (fun c => ?_)
  · have H := H.1 c
    refine w_ic f_111_32 ?_
    refine w_is (ls' := [.ref 59, .int i1, .int i2, .int 0, .retAddr 0]) f_111_33 rfl ?_
    refine w_ic f_111_34 ?_
    refine w_is (ls' := [.ref 59, .int i1, .int i2, .int 0, .int 0]) f_111_35 rfl ?_
    exact H
  · have H := H.2 c
    refine w_ic f_111_30 ?_
    exact w_reti f_111_31 H
theorem g_111_37 {d : Nat} {G : am_G} {I : Nat → Nat → Int32} {J : Nat → Nat → Int64} {Q : am_O → am_H → Prop} (hR : q_RT G) (i1 : Int32) (i2 : Int32) (i3 : Int32) (i4 : Int32) (H : (am_is i1 100 = true ∧ ((¬ i4 < (I 70 (i1).toNatClampNeg) → (am_is i1 100 = true ∧ (((I 70 (i1).toNatClampNeg) = 3 → q_W β xs L (d + 1) 111 100 [.ref 59, .int i1, .int i2, .int i3, .int i4] [] (G, I, J) Q) ∧ (¬ (I 70 (i1).toNatClampNeg) = 3 → ((¬ i3 = 0 → q_W β xs L (d + 1) 111 100 [.ref 59, .int i1, .int i2, .int i3, .int i4] [] (G, I, J) Q) ∧ (i3 = 0 → q_W β xs L d 109 0 [.int i2] [] (G, I, J) (q_Ri (fun y1 G1 I1 J1 => (q_RT G1 ∧ ((¬ y1 = 0 → (am_is i1 100 = true ∧ (am_is ((3 * i1) + (I1 70 (i1).toNatClampNeg)) 300 = true ∧ (am_is i1 100 = true ∧ (am_is i1 100 = true ∧ (am_is i1 100 = true ∧ Q (.inl (some (.int ((I1 70 (i1).toNatClampNeg) + 1)))) (G1, (am_u (am_u (am_u I1 71 (((3 * i1) + (I1 70 (i1).toNatClampNeg))).toNatClampNeg i2) 70 (i1).toNatClampNeg ((I1 70 (i1).toNatClampNeg) + 1)) 59 2 ((I1 59 2) + 1)), J1))))))) ∧ (y1 = 0 → q_W β xs L (d + 1) 111 100 [.ref 59, .int i1, .int i2, .int i3, .int i4] [] (G1, I1, J1) Q)))) (fun x1 G1 I1 J1 => Q (.inr x1) (G1, I1, J1))))))))) ∧ (i4 < (I 70 (i1).toNatClampNeg) → ((¬ i3 = 0 → q_W β xs L (d + 1) 111 67 [.ref 59, .int i1, .int i2, .int i3, .int i4] [] (G, I, J) Q) ∧ (i3 = 0 → (am_is ((3 * i1) + i4) 300 = true ∧ ((¬ (I 71 (((3 * i1) + i4)).toNatClampNeg) = i2 → q_W β xs L (d + 1) 111 72 [.ref 59, .int i1, .int i2, .int i3, .int i4] [.int 0] (G, I, J) Q) ∧ ((I 71 (((3 * i1) + i4)).toNatClampNeg) = i2 → q_W β xs L (d + 1) 111 67 [.ref 59, .int i1, .int i2, .int i3, .int i4] [] (G, I, J) Q))))))))) : q_W β xs L (d + 1) 111 37 [.ref 59, .int i1, .int i2, .int i3, .int i4] [] (G, I, J) Q := by
  refine w_il f_111_37 rfl ?_
  refine w_al f_111_39 rfl ?_
  refine w_gr f_111_40 rfl (hR _ _ _ rfl) ?_
  refine w_il f_111_43 rfl ?_
  have hb := H.1
  have H := H.2
  refine w_ald f_111_44 rfl hb ?_
  refine w_icge f_111_45 (fun c => ?_) (fun c => ?_)
  · have H := H.1 c
    refine w_al f_111_79 rfl ?_
    refine w_gr f_111_80 rfl (hR _ _ _ rfl) ?_
    refine w_il f_111_83 rfl ?_
    have hb := H.1
    have H := H.2
    refine w_ald f_111_84 rfl hb ?_
    refine w_ic f_111_85 ?_
    refine w_iceq f_111_86 (fun c => ?_) (fun c => ?_)
    · have H := H.1 c
      exact H
    · have H := H.2 c
      refine w_il f_111_89 rfl ?_
      refine w_ifne f_111_90 (fun c => ?_) (fun c => ?_)
      · have H := H.1 c
        exact H
      · have H := H.2 c
        refine w_il f_111_93 rfl ?_
        refine w_invs (as := [.int i2]) (st' := []) f_111_94 rfl rfl rfl rfl rfl H (k_i (fun y1 G1 I1 J1 H => ?_)) (x_n (fun _ => rfl) rfl (fun x h' h => h))
        have hR1 := H.1
        have H := H.2
        refine w_ifne f_111_97 (fun c => ?_) (fun c => ?_)
        · have H := H.1 c
          refine w_al f_111_102 rfl ?_
          refine w_gr f_111_103 rfl (hR1 _ _ _ rfl) ?_
          refine w_ic f_111_106 ?_
          refine w_il f_111_107 rfl ?_
          refine w_bin f_111_108 ?_
          refine w_al f_111_109 rfl ?_
          refine w_gr f_111_110 rfl (hR1 _ _ _ rfl) ?_
          refine w_il f_111_113 rfl ?_
          have hb := H.1
          have H := H.2
          refine w_ald f_111_114 rfl hb ?_
          refine w_bin f_111_115 ?_
          refine w_il f_111_116 rfl ?_
          have hb := H.1
          have H := H.2
          refine w_ast f_111_117 rfl hb ?_
          refine w_al f_111_118 rfl ?_
          refine w_gr f_111_119 rfl (hR1 _ _ _ rfl) ?_
          refine w_il f_111_122 rfl ?_
          refine w_dup2 f_111_123 ?_
          have hb := H.1
          have H := H.2
          refine w_ald' f_111_124 rfl hb (am_u_ne (Or.inl (by decide))) ?_
          refine w_ic f_111_125 ?_
          refine w_bin f_111_126 ?_
          have hb := H.1
          have H := H.2
          refine w_ast f_111_127 rfl hb ?_
          refine w_al f_111_128 rfl ?_
          refine w_dupr f_111_129 ?_
          refine w_gi' f_111_130 rfl ((am_u_ne (Or.inl (by decide))).trans (am_u_ne (Or.inl (by decide)))) ?_
          refine w_ic f_111_133 ?_
          refine w_bin f_111_134 ?_
          refine w_pi f_111_135 rfl ?_
          refine w_al f_111_138 rfl ?_
          refine w_gr f_111_139 rfl (hR1 _ _ _ rfl) ?_
          refine w_il f_111_142 rfl ?_
          have hb := H.1
          have H := H.2
          refine w_ald' f_111_143 rfl hb ((am_u_ne (Or.inl (by decide))).trans (am_u_same)) ?_
          exact w_reti f_111_144 H
        · have H := H.2 c
          exact H
  · have H := H.2 c
    refine w_il f_111_48 rfl ?_
    refine w_ifne f_111_49 (fun c => ?_) (fun c => ?_)
    · have H := H.1 c
      exact H
    · have H := H.2 c
      refine w_al f_111_52 rfl ?_
      refine w_gr f_111_53 rfl (hR _ _ _ rfl) ?_
      refine w_ic f_111_56 ?_
      refine w_il f_111_57 rfl ?_
      refine w_bin f_111_58 ?_
      refine w_il f_111_59 rfl ?_
      refine w_bin f_111_61 ?_
      have hb := H.1
      have H := H.2
      refine w_ald f_111_62 rfl hb ?_
      refine w_il f_111_63 rfl ?_
      refine w_icne f_111_64 (fun c => ?_) (fun c => ?_)
      · have H := H.1 c
        refine w_ic f_111_71 ?_
        exact H
      · have H := H.2 c
        exact H
theorem g_111_67 {d : Nat} {G : am_G} {I : Nat → Nat → Int32} {J : Nat → Nat → Int64} {Q : am_O → am_H → Prop} (hR : q_RT G) (i1 : Int32) (i2 : Int32) (i3 : Int32) (i4 : Int32) (H : q_W β xs L (d + 1) 111 72 [.ref 59, .int i1, .int i2, .int i3, .int i4] [.int 1] (G, I, J) Q) : q_W β xs L (d + 1) 111 67 [.ref 59, .int i1, .int i2, .int i3, .int i4] [] (G, I, J) Q := by
  refine w_ic f_111_67 ?_
  refine w_go f_111_68 ?_
  exact H
theorem g_111_72 {d : Nat} {G : am_G} {I : Nat → Nat → Int32} {J : Nat → Nat → Int64} {Q : am_O → am_H → Prop} (hR : q_RT G) (i1 : Int32) (i2 : Int32) (i3 : Int32) (i4 : Int32) (is0 : Int32) (H : q_W β xs L (d + 1) 111 37 [.ref 59, .int i1, .int i2, .int is0, .int (i4 + 1)] [] (G, I, J) Q) : q_W β xs L (d + 1) 111 72 [.ref 59, .int i1, .int i2, .int i3, .int i4] [.int is0] (G, I, J) Q := by
  refine w_is (ls' := [.ref 59, .int i1, .int i2, .int is0, .int i4]) f_111_72 rfl ?_
  refine w_iinc (ls' := [.ref 59, .int i1, .int i2, .int is0, .int (i4 + 1)]) f_111_73 rfl rfl ?_
  refine w_go f_111_76 ?_
  exact H
theorem g_111_100 {d : Nat} {G : am_G} {I : Nat → Nat → Int32} {J : Nat → Nat → Int64} {Q : am_O → am_H → Prop} (hR : q_RT G) (i1 : Int32) (i2 : Int32) (i3 : Int32) (i4 : Int32) (H : Q (.inl (some (.int (-1)))) (G, I, J)) : q_W β xs L (d + 1) 111 100 [.ref 59, .int i1, .int i2, .int i3, .int i4] [] (G, I, J) Q := by
  refine w_ic f_111_100 ?_
  exact w_reti f_111_101 H
theorem g_112_0 {d : Nat} {G : am_G} {I : Nat → Nat → Int32} {J : Nat → Nat → Int64} {Q : am_O → am_H → Prop} (hR : q_RT G) (i1 : Int32) (i2 : Int32) (H : ((i2 < 0 → q_W β xs L (d + 1) 112 33 [.ref 59, .int i1, .int i2] [.ref 59] (G, (am_u I 59 0 0), J) Q) ∧ (¬ i2 < 0 → ((i1 = 0 → q_W β xs L (d + 1) 112 26 [.ref 59, .int i1, .int i2] [.int (I 59 6), .int i2, .ref 59] (G, (am_u I 59 0 0), J) Q) ∧ (¬ i1 = 0 → q_W β xs L (d + 1) 112 26 [.ref 59, .int i1, .int i2] [.int (I 59 32), .int i2, .ref 59] (G, (am_u I 59 0 0), J) Q))))) : q_W β xs L (d + 1) 112 0 [.ref 59, .int i1, .int i2] [] (G, I, J) Q := by
  refine w_al f_112_0 rfl ?_
  refine w_ic f_112_1 ?_
  refine w_pi f_112_2 rfl ?_
  refine w_al f_112_5 rfl ?_
  refine w_il f_112_6 rfl ?_
  refine w_iflt f_112_7 (fun c => ?_) (fun c => ?_)
  · have H := H.1 c
    exact H
  · have H := H.2 c
    refine w_il f_112_10 rfl ?_
    refine w_il f_112_11 rfl ?_
    refine w_ifeq f_112_12 (fun c => ?_) (fun c => ?_)
    · have H := H.1 c
      refine w_al f_112_22 rfl ?_
      refine w_gi' f_112_23 rfl (am_u_ne (Or.inr (by decide))) ?_
      exact H
    · have H := H.2 c
      refine w_al f_112_15 rfl ?_
      refine w_gi' f_112_16 rfl (am_u_ne (Or.inr (by decide))) ?_
      refine w_go f_112_19 ?_
      exact H
theorem g_112_26 {d : Nat} {G : am_G} {I : Nat → Nat → Int32} {J : Nat → Nat → Int64} {Q : am_O → am_H → Prop} (hR : q_RT G) (i1 : Int32) (i2 : Int32) (is0 : Int32) (is1 : Int32) (H : ((¬ is1 < is0 → q_W β xs L (d + 1) 112 33 [.ref 59, .int i1, .int i2] [.ref 59] (G, I, J) Q) ∧ (is1 < is0 → q_W β xs L (d + 1) 112 34 [.ref 59, .int i1, .int i2] [.int 1, .ref 59] (G, I, J) Q))) : q_W β xs L (d + 1) 112 26 [.ref 59, .int i1, .int i2] [.int is0, .int is1, .ref 59] (G, I, J) Q := by
  refine w_icge f_112_26 (fun c => ?_) (fun c => ?_)
  · have H := H.1 c
    exact H
  · have H := H.2 c
    refine w_ic f_112_29 ?_
    refine w_go f_112_30 ?_
    exact H
theorem g_112_33 {d : Nat} {G : am_G} {I : Nat → Nat → Int32} {J : Nat → Nat → Int64} {Q : am_O → am_H → Prop} (hR : q_RT G) (i1 : Int32) (i2 : Int32) (H : q_W β xs L (d + 1) 112 34 [.ref 59, .int i1, .int i2] [.int 0, .ref 59] (G, I, J) Q) : q_W β xs L (d + 1) 112 33 [.ref 59, .int i1, .int i2] [.ref 59] (G, I, J) Q := by
  refine w_ic f_112_33 ?_
  exact H
theorem g_112_34 {d : Nat} {G : am_G} {I : Nat → Nat → Int32} {J : Nat → Nat → Int64} {Q : am_O → am_H → Prop} (hR : q_RT G) (i1 : Int32) (i2 : Int32) (is0 : Int32) (H : q_W β xs L d 103 0 [.ref 59, .int is0, .int 1] [] (G, I, J) (q_Ri (fun y1 G1 I1 J1 => (q_RT G1 ∧ ((¬ y1 = 0 → ((i1 = 0 → (am_is i2 100 = true ∧ q_W β xs L (d + 1) 112 62 [.ref 59, .int i1, .int i2] [.int (I1 69 (i2).toNatClampNeg)] (G1, I1, J1) Q)) ∧ (¬ i1 = 0 → (am_is i2 12 = true ∧ q_W β xs L (d + 1) 112 62 [.ref 59, .int i1, .int i2] [.int (I1 78 (i2).toNatClampNeg)] (G1, I1, J1) Q)))) ∧ (y1 = 0 → (((0 : Int32) = 0 ∨ (0 : Int32) = 1) ∧ Q (.inl (some (.int 0))) (G1, I1, J1)))))) (fun x1 G1 I1 J1 => Q (.inr x1) (G1, I1, J1)))) : q_W β xs L (d + 1) 112 34 [.ref 59, .int i1, .int i2] [.int is0, .ref 59] (G, I, J) Q := by
  refine w_ic f_112_34 ?_
  refine w_inv (as := [.ref 59, .int is0, .int 1]) (st' := []) f_112_35 rfl rfl rfl rfl rfl rfl H (k_i (fun y1 G1 I1 J1 H => ?_)) (x_n (fun _ => rfl) rfl (fun x h' h => h))
  have hR1 := H.1
  have H := H.2
  refine w_ifne f_112_38 (fun c => ?_) (fun c => ?_)
  · have H := H.1 c
    refine w_il f_112_43 rfl ?_
    refine w_ifeq f_112_44 (fun c => ?_) (fun c => ?_)
    · have H := H.1 c
      refine w_al f_112_56 rfl ?_
      refine w_gr f_112_57 rfl (hR1 _ _ _ rfl) ?_
      refine w_il f_112_60 rfl ?_
      have hb := H.1
      have H := H.2
      refine w_ald f_112_61 rfl hb ?_
      exact H
    · have H := H.2 c
      refine w_al f_112_47 rfl ?_
      refine w_gr f_112_48 rfl (hR1 _ _ _ rfl) ?_
      refine w_il f_112_51 rfl ?_
      have hb := H.1
      have H := H.2
      refine w_ald f_112_52 rfl hb ?_
      refine w_go f_112_53 ?_
      exact H
  · have H := H.2 c
    refine w_ic f_112_41 ?_
    exact w_retz f_112_42 H.1 H.2
theorem g_112_62 {d : Nat} {G : am_G} {I : Nat → Nat → Int32} {J : Nat → Nat → Int64} {Q : am_O → am_H → Prop} (hR : q_RT G) (i1 : Int32) (i2 : Int32) (is0 : Int32) (H : ((is0 = (-1) → ((i1 = 0 → (am_is i2 100 = true ∧ q_W β xs L (d + 1) 112 95 [.ref 59, .int i1, .int i2] [] (G, (am_u I 69 (i2).toNatClampNeg (I 59 1)), J) Q)) ∧ (¬ i1 = 0 → (am_is i2 12 = true ∧ q_W β xs L (d + 1) 112 95 [.ref 59, .int i1, .int i2] [] (G, (am_u I 78 (i2).toNatClampNeg (I 59 1)), J) Q)))) ∧ (¬ is0 = (-1) → (((0 : Int32) = 0 ∨ (0 : Int32) = 1) ∧ Q (.inl (some (.int 0))) (G, I, J))))) : q_W β xs L (d + 1) 112 62 [.ref 59, .int i1, .int i2] [.int is0] (G, I, J) Q := by
  refine w_ic f_112_62 ?_
  refine w_iceq f_112_63 (fun c => ?_) (fun c => ?_)
  · have H := H.1 c
    refine w_il f_112_68 rfl ?_
    refine w_ifeq f_112_69 (fun c => ?_) (fun c => ?_)
    · have H := H.1 c
      refine w_al f_112_85 rfl ?_
      refine w_gr f_112_86 rfl (hR _ _ _ rfl) ?_
      refine w_il f_112_89 rfl ?_
      refine w_al f_112_90 rfl ?_
      refine w_gi f_112_91 rfl ?_
      have hb := H.1
      have H := H.2
      refine w_ast f_112_94 rfl hb ?_
      exact H
    · have H := H.2 c
      refine w_al f_112_72 rfl ?_
      refine w_gr f_112_73 rfl (hR _ _ _ rfl) ?_
      refine w_il f_112_76 rfl ?_
      refine w_al f_112_77 rfl ?_
      refine w_gi f_112_78 rfl ?_
      have hb := H.1
      have H := H.2
      refine w_ast f_112_81 rfl hb ?_
      refine w_go f_112_82 ?_
      exact H
  · have H := H.2 c
    refine w_ic f_112_66 ?_
    exact w_retz f_112_67 H.1 H.2
theorem g_112_95 {d : Nat} {G : am_G} {I : Nat → Nat → Int32} {J : Nat → Nat → Int64} {Q : am_O → am_H → Prop} (hR : q_RT G) (i1 : Int32) (i2 : Int32) (H : (((1 : Int32) = 0 ∨ (1 : Int32) = 1) ∧ Q (.inl (some (.int 1))) (G, (am_u I 59 2 ((I 59 2) + 1)), J))) : q_W β xs L (d + 1) 112 95 [.ref 59, .int i1, .int i2] [] (G, I, J) Q := by
  refine w_al f_112_95 rfl ?_
  refine w_dupr f_112_96 ?_
  refine w_gi f_112_97 rfl ?_
  refine w_ic f_112_100 ?_
  refine w_bin f_112_101 ?_
  refine w_pi f_112_102 rfl ?_
  refine w_ic f_112_105 ?_
  exact w_retz f_112_106 H.1 H.2
theorem g_113_0 {d : Nat} {G : am_G} {I : Nat → Nat → Int32} {J : Nat → Nat → Int64} {Q : am_O → am_H → Prop} (hR : q_RT G) (i1 : Int32) (H : ((i1 < 0 → q_W β xs L (d + 1) 113 33 [.ref 59, .int i1] [.ref 59] (G, (am_u I 59 0 0), J) Q) ∧ (¬ i1 < 0 → ((999 < i1 → q_W β xs L (d + 1) 113 33 [.ref 59, .int i1] [.ref 59] (G, (am_u I 59 0 0), J) Q) ∧ (¬ 999 < i1 → (((999 - (I 59 1)) < i1 → q_W β xs L (d + 1) 113 33 [.ref 59, .int i1] [.ref 59] (G, (am_u I 59 0 0), J) Q) ∧ (¬ (999 - (I 59 1)) < i1 → q_W β xs L (d + 1) 113 34 [.ref 59, .int i1] [.int 1, .ref 59] (G, (am_u I 59 0 0), J) Q))))))) : q_W β xs L (d + 1) 113 0 [.ref 59, .int i1] [] (G, I, J) Q := by
  refine w_al f_113_0 rfl ?_
  refine w_ic f_113_1 ?_
  refine w_pi f_113_2 rfl ?_
  refine w_al f_113_5 rfl ?_
  refine w_il f_113_6 rfl ?_
  refine w_iflt f_113_7 (fun c => ?_) (fun c => ?_)
  · have H := H.1 c
    exact H
  · have H := H.2 c
    refine w_il f_113_10 rfl ?_
    refine w_ic f_113_11 ?_
    refine w_icgt f_113_14 (fun c => ?_) (fun c => ?_)
    · have H := H.1 c
      exact H
    · have H := H.2 c
      refine w_il f_113_17 rfl ?_
      refine w_ic f_113_18 ?_
      refine w_al f_113_21 rfl ?_
      refine w_gi' f_113_22 rfl (am_u_ne (Or.inr (by decide))) ?_
      refine w_bin f_113_25 ?_
      refine w_icgt f_113_26 (fun c => ?_) (fun c => ?_)
      · have H := H.1 c
        exact H
      · have H := H.2 c
        refine w_ic f_113_29 ?_
        refine w_go f_113_30 ?_
        exact H
theorem g_113_33 {d : Nat} {G : am_G} {I : Nat → Nat → Int32} {J : Nat → Nat → Int64} {Q : am_O → am_H → Prop} (hR : q_RT G) (i1 : Int32) (H : q_W β xs L (d + 1) 113 34 [.ref 59, .int i1] [.int 0, .ref 59] (G, I, J) Q) : q_W β xs L (d + 1) 113 33 [.ref 59, .int i1] [.ref 59] (G, I, J) Q := by
  refine w_ic f_113_33 ?_
  exact H
theorem g_113_34 {d : Nat} {G : am_G} {I : Nat → Nat → Int32} {J : Nat → Nat → Int64} {Q : am_O → am_H → Prop} (hR : q_RT G) (i1 : Int32) (is0 : Int32) (H : q_W β xs L d 103 0 [.ref 59, .int is0, .int 1] [] (G, I, J) (q_Ri (fun y1 G1 I1 J1 => ((¬ y1 = 0 → Q (.inl (some (.int ((I1 59 1) + i1)))) (G1, (am_u I1 59 1 ((I1 59 1) + i1)), J1)) ∧ (y1 = 0 → Q (.inl (some (.int 0))) (G1, I1, J1)))) (fun x1 G1 I1 J1 => Q (.inr x1) (G1, I1, J1)))) : q_W β xs L (d + 1) 113 34 [.ref 59, .int i1] [.int is0, .ref 59] (G, I, J) Q := by
  refine w_ic f_113_34 ?_
  refine w_inv (as := [.ref 59, .int is0, .int 1]) (st' := []) f_113_35 rfl rfl rfl rfl rfl rfl H (k_i (fun y1 G1 I1 J1 H => ?_)) (x_n (fun _ => rfl) rfl (fun x h' h => h))
  refine w_ifne f_113_38 (fun c => ?_) (fun c => ?_)
  · have H := H.1 c
    refine w_al f_113_43 rfl ?_
    refine w_dupr f_113_44 ?_
    refine w_gi f_113_45 rfl ?_
    refine w_il f_113_48 rfl ?_
    refine w_bin f_113_49 ?_
    refine w_pi f_113_50 rfl ?_
    refine w_al f_113_53 rfl ?_
    refine w_gi' f_113_54 rfl (am_u_same) ?_
    exact w_reti f_113_57 H
  · have H := H.2 c
    refine w_ic f_113_41 ?_
    exact w_reti f_113_42 H
theorem g_114_0 {d : Nat} {G : am_G} {I : Nat → Nat → Int32} {J : Nat → Nat → Int64} {Q : am_O → am_H → Prop} (hR : q_RT G) (i1 : Int32) (i2 : Int32) (i3 : Int32) (i4 : Int32) (i5 : Int32) (H : ((¬ 500 < ((I 59 20) + 20) → q_W β xs L d 115 0 [.ref 59, .int i1, .retAddr 0] [] (G, (am_u I 59 0 0), J) (q_Rv (fun G1 I1 J1 => q_W β xs L d 115 0 [.ref 59, .int i2, .retAddr 0] [] (G1, I1, J1) (q_Rv (fun G2 I2 J2 => q_W β xs L d 115 0 [.ref 59, .int i3, .retAddr 0] [] (G2, I2, J2) (q_Rv (fun G3 I3 J3 => q_W β xs L d 115 0 [.ref 59, .int i4, .retAddr 0] [] (G3, I3, J3) (q_Rv (fun G4 I4 J4 => q_W β xs L d 115 0 [.ref 59, .int i5, .retAddr 0] [] (G4, I4, J4) (q_Rv (fun G5 I5 J5 => Q (.inl (some (.int (I5 59 20)))) (G5, I5, J5)) (fun x5 G5 I5 J5 => Q (.inr x5) (G5, I5, J5)))) (fun x4 G4 I4 J4 => Q (.inr x4) (G4, I4, J4)))) (fun x3 G3 I3 J3 => Q (.inr x3) (G3, I3, J3)))) (fun x2 G2 I2 J2 => Q (.inr x2) (G2, I2, J2)))) (fun x1 G1 I1 J1 => Q (.inr x1) (G1, I1, J1)))) ∧ (500 < ((I 59 20) + 20) → Q (.inl (some (.int (-1)))) (G, (am_u I 59 0 0), J)))) : q_W β xs L (d + 1) 114 0 [.ref 59, .int i1, .int i2, .int i3, .int i4, .int i5] [] (G, I, J) Q := by
  refine w_al f_114_0 rfl ?_
  refine w_ic f_114_1 ?_
  refine w_pi f_114_2 rfl ?_
  refine w_al f_114_5 rfl ?_
  refine w_gi' f_114_6 rfl (am_u_ne (Or.inr (by decide))) ?_
  refine w_ic f_114_9 ?_
  refine w_bin f_114_11 ?_
  refine w_ic f_114_12 ?_
  refine w_icle f_114_15 (fun c => ?_) (fun c => ?_)
  · have H := H.1 c
    refine w_al f_114_20 rfl ?_
    refine w_il f_114_21 rfl ?_
    refine w_inv (as := [.ref 59, .int i1, .retAddr 0]) (st' := []) f_114_22 rfl rfl rfl rfl rfl rfl H (k_v (fun G1 I1 J1 H => ?_)) (x_n (fun _ => rfl) rfl (fun x h' h => h))
    refine w_al f_114_25 rfl ?_
    refine w_il f_114_26 rfl ?_
    refine w_inv (as := [.ref 59, .int i2, .retAddr 0]) (st' := []) f_114_27 rfl rfl rfl rfl rfl rfl H (k_v (fun G2 I2 J2 H => ?_)) (x_n (fun _ => rfl) rfl (fun x h' h => h))
    refine w_al f_114_30 rfl ?_
    refine w_il f_114_31 rfl ?_
    refine w_inv (as := [.ref 59, .int i3, .retAddr 0]) (st' := []) f_114_32 rfl rfl rfl rfl rfl rfl H (k_v (fun G3 I3 J3 H => ?_)) (x_n (fun _ => rfl) rfl (fun x h' h => h))
    refine w_al f_114_35 rfl ?_
    refine w_il f_114_36 rfl ?_
    refine w_inv (as := [.ref 59, .int i4, .retAddr 0]) (st' := []) f_114_38 rfl rfl rfl rfl rfl rfl H (k_v (fun G4 I4 J4 H => ?_)) (x_n (fun _ => rfl) rfl (fun x h' h => h))
    refine w_al f_114_41 rfl ?_
    refine w_il f_114_42 rfl ?_
    refine w_inv (as := [.ref 59, .int i5, .retAddr 0]) (st' := []) f_114_44 rfl rfl rfl rfl rfl rfl H (k_v (fun G5 I5 J5 H => ?_)) (x_n (fun _ => rfl) rfl (fun x h' h => h))
    refine w_al f_114_47 rfl ?_
    refine w_gi f_114_48 rfl ?_
    exact w_reti f_114_51 H
  · have H := H.2 c
    refine w_ic f_114_18 ?_
    exact w_reti f_114_19 H
theorem g_115_0 {d : Nat} {G : am_G} {I : Nat → Nat → Int32} {J : Nat → Nat → Int64} {Q : am_O → am_H → Prop} (hR : q_RT G) (i1 : Int32) (H : q_W β xs L d 115 3 [.ref 59, .int i1, .int 24] [] (G, I, J) Q) : q_W β xs L d 115 0 [.ref 59, .int i1, .retAddr 0] [] (G, I, J) Q := by
  refine w_ic f_115_0 ?_
  refine w_is (ls' := [.ref 59, .int i1, .int 24]) f_115_2 rfl ?_
  exact H
theorem g_115_3 {d : Nat} {G : am_G} {I : Nat → Nat → Int32} {J : Nat → Nat → Int64} {Q : am_O → am_H → Prop} (hR : q_RT G) (i1 : Int32) (i2 : Int32) (H : ((i2 < 0 → Q (.inl none) (G, I, J)) ∧ (¬ i2 < 0 → (am_is (I 59 20) 500 = true ∧ q_W β xs L d 115 3 [.ref 59, .int i1, .int (i2 + (-8))] [] (G, (am_u (am_u I 72 ((I 59 20)).toNatClampNeg ((i1 >>> (i2 &&& 31)) &&& 255)) 59 20 ((I 59 20) + 1)), J) Q)))) : q_W β xs L d 115 3 [.ref 59, .int i1, .int i2] [] (G, I, J) Q := by
  refine w_il f_115_3 rfl ?_
  refine w_iflt f_115_4 (fun c => ?_) (fun c => ?_)
  · have H := H.1 c
    exact w_ret0 f_115_39 H
  · have H := H.2 c
    refine w_al f_115_7 rfl ?_
    refine w_gr f_115_8 rfl (hR _ _ _ rfl) ?_
    refine w_al f_115_11 rfl ?_
    refine w_gi f_115_12 rfl ?_
    refine w_il f_115_15 rfl ?_
    refine w_il f_115_16 rfl ?_
    refine w_bin f_115_17 ?_
    refine w_ic f_115_18 ?_
    refine w_bin f_115_21 ?_
    have hb := H.1
    have H := H.2
    refine w_ast f_115_22 rfl hb ?_
    refine w_al f_115_23 rfl ?_
    refine w_dupr f_115_24 ?_
    refine w_gi' f_115_25 rfl (am_u_ne (Or.inl (by decide))) ?_
    refine w_ic f_115_28 ?_
    refine w_bin f_115_29 ?_
    refine w_pi f_115_30 rfl ?_
    refine w_iinc (ls' := [.ref 59, .int i1, .int (i2 + (-8))]) f_115_33 rfl rfl ?_
    refine w_go f_115_36 ?_
    exact H
theorem g_116_0 {d : Nat} {G : am_G} {I : Nat → Nat → Int32} {J : Nat → Nat → Int64} {Q : am_O → am_H → Prop} (hR : q_RT G) (i1 : Int32) (H : ((¬ i1 < (I 59 23) → q_W β xs L d 116 18 [.ref 59, .int i1] [.int 0] (G, I, J) Q) ∧ (i1 < (I 59 23) → (am_is i1 500 = true ∧ q_W β xs L d 116 18 [.ref 59, .int i1] [.int (I 72 (i1).toNatClampNeg)] (G, I, J) Q)))) : q_W β xs L d 116 0 [.ref 59, .int i1] [] (G, I, J) Q := by
  refine w_il f_116_0 rfl ?_
  refine w_al f_116_1 rfl ?_
  refine w_gi f_116_2 rfl ?_
  refine w_icge f_116_5 (fun c => ?_) (fun c => ?_)
  · have H := H.1 c
    refine w_ic f_116_17 ?_
    exact H
  · have H := H.2 c
    refine w_al f_116_8 rfl ?_
    refine w_gr f_116_9 rfl (hR _ _ _ rfl) ?_
    refine w_il f_116_12 rfl ?_
    have hb := H.1
    have H := H.2
    refine w_ald f_116_13 rfl hb ?_
    refine w_go f_116_14 ?_
    exact H
theorem g_116_18 {d : Nat} {G : am_G} {I : Nat → Nat → Int32} {J : Nat → Nat → Int64} {Q : am_O → am_H → Prop} (hR : q_RT G) (i1 : Int32) (is0 : Int32) (H : Q (.inl (some (.int is0))) (G, I, J)) : q_W β xs L d 116 18 [.ref 59, .int i1] [.int is0] (G, I, J) Q := by
  exact w_reti f_116_18 H
theorem g_117_0 {d : Nat} {G : am_G} {I : Nat → Nat → Int32} {J : Nat → Nat → Int64} {Q : am_O → am_H → Prop} (hR : q_RT G) (i0 : Int32) (H : ((i0 < 97 → q_W β xs L d 117 16 [.int i0] [] (G, I, J) Q) ∧ (¬ i0 < 97 → ((122 < i0 → q_W β xs L d 117 16 [.int i0] [] (G, I, J) Q) ∧ (¬ 122 < i0 → q_W β xs L d 117 17 [.int i0] [.int 1] (G, I, J) Q))))) : q_W β xs L d 117 0 [.int i0] [] (G, I, J) Q := by
  refine w_il f_117_0 rfl ?_
  refine w_ic f_117_1 ?_
  refine w_iclt f_117_3 (fun c => ?_) (fun c => ?_)
  · have H := H.1 c
    exact H
  · have H := H.2 c
    refine w_il f_117_6 rfl ?_
    refine w_ic f_117_7 ?_
    refine w_icgt f_117_9 (fun c => ?_) (fun c => ?_)
    · have H := H.1 c
      exact H
    · have H := H.2 c
      refine w_ic f_117_12 ?_
      refine w_go f_117_13 ?_
      exact H
theorem g_117_16 {d : Nat} {G : am_G} {I : Nat → Nat → Int32} {J : Nat → Nat → Int64} {Q : am_O → am_H → Prop} (hR : q_RT G) (i0 : Int32) (H : q_W β xs L d 117 17 [.int i0] [.int 0] (G, I, J) Q) : q_W β xs L d 117 16 [.int i0] [] (G, I, J) Q := by
  refine w_ic f_117_16 ?_
  exact H
theorem g_117_17 {d : Nat} {G : am_G} {I : Nat → Nat → Int32} {J : Nat → Nat → Int64} {Q : am_O → am_H → Prop} (hR : q_RT G) (i0 : Int32) (is0 : Int32) (H : (((is0 : Int32) = 0 ∨ (is0 : Int32) = 1) ∧ Q (.inl (some (.int is0))) (G, I, J))) : q_W β xs L d 117 17 [.int i0] [.int is0] (G, I, J) Q := by
  exact w_retz f_117_17 H.1 H.2
theorem g_118_0 {d : Nat} {G : am_G} {I : Nat → Nat → Int32} {J : Nat → Nat → Int64} {Q : am_O → am_H → Prop} (hR : q_RT G) (i0 : Int32) (H : ((i0 < 48 → q_W β xs L d 118 16 [.int i0] [] (G, I, J) Q) ∧ (¬ i0 < 48 → ((57 < i0 → q_W β xs L d 118 16 [.int i0] [] (G, I, J) Q) ∧ (¬ 57 < i0 → q_W β xs L d 118 17 [.int i0] [.int 1] (G, I, J) Q))))) : q_W β xs L d 118 0 [.int i0] [] (G, I, J) Q := by
  refine w_il f_118_0 rfl ?_
  refine w_ic f_118_1 ?_
  refine w_iclt f_118_3 (fun c => ?_) (fun c => ?_)
  · have H := H.1 c
    exact H
  · have H := H.2 c
    refine w_il f_118_6 rfl ?_
    refine w_ic f_118_7 ?_
    refine w_icgt f_118_9 (fun c => ?_) (fun c => ?_)
    · have H := H.1 c
      exact H
    · have H := H.2 c
      refine w_ic f_118_12 ?_
      refine w_go f_118_13 ?_
      exact H
theorem g_118_16 {d : Nat} {G : am_G} {I : Nat → Nat → Int32} {J : Nat → Nat → Int64} {Q : am_O → am_H → Prop} (hR : q_RT G) (i0 : Int32) (H : q_W β xs L d 118 17 [.int i0] [.int 0] (G, I, J) Q) : q_W β xs L d 118 16 [.int i0] [] (G, I, J) Q := by
  refine w_ic f_118_16 ?_
  exact H
theorem g_118_17 {d : Nat} {G : am_G} {I : Nat → Nat → Int32} {J : Nat → Nat → Int64} {Q : am_O → am_H → Prop} (hR : q_RT G) (i0 : Int32) (is0 : Int32) (H : (((is0 : Int32) = 0 ∨ (is0 : Int32) = 1) ∧ Q (.inl (some (.int is0))) (G, I, J))) : q_W β xs L d 118 17 [.int i0] [.int is0] (G, I, J) Q := by
  exact w_retz f_118_17 H.1 H.2
theorem g_119_0 {d : Nat} {G : am_G} {I : Nat → Nat → Int32} {J : Nat → Nat → Int64} {Q : am_O → am_H → Prop} (hR : q_RT G)  (H : ((¬ (I 59 24) < (I 59 23) → q_W β xs L (d + 1) 119 50 [.ref 59, .retAddr 0] [] (G, I, J) Q) ∧ ((I 59 24) < (I 59 23) → q_W β xs L d 116 0 [.ref 59, .int (I 59 24)] [] (G, I, J) (q_Ri (fun y1 G1 I1 J1 => ((y1 = 32 → q_W β xs L (d + 1) 119 37 [.ref 59, .retAddr 0] [] (G1, I1, J1) Q) ∧ (¬ y1 = 32 → q_W β xs L d 116 0 [.ref 59, .int (I1 59 24)] [] (G1, I1, J1) (q_Ri (fun y2 G2 I2 J2 => ((¬ y2 = 10 → q_W β xs L (d + 1) 119 50 [.ref 59, .retAddr 0] [] (G2, I2, J2) Q) ∧ (y2 = 10 → q_W β xs L (d + 1) 119 37 [.ref 59, .retAddr 0] [] (G2, I2, J2) Q))) (fun x2 G2 I2 J2 => Q (.inr x2) (G2, I2, J2)))))) (fun x1 G1 I1 J1 => Q (.inr x1) (G1, I1, J1)))))) : q_W β xs L (d + 1) 119 0 [.ref 59, .retAddr 0] [] (G, I, J) Q := by
  refine w_al f_119_0 rfl ?_
  refine w_gi f_119_1 rfl ?_
  refine w_al f_119_4 rfl ?_
  refine w_gi f_119_5 rfl ?_
  refine w_icge f_119_8 (fun c => ?_) (fun c => ?_)
  · have H := H.1 c
    exact H
  · have H := H.2 c
    refine w_al f_119_11 rfl ?_
    refine w_al f_119_12 rfl ?_
    refine w_gi f_119_13 rfl ?_
    refine w_inv (as := [.ref 59, .int (I 59 24)]) (st' := []) f_119_16 rfl rfl rfl rfl rfl rfl H (k_i (fun y1 G1 I1 J1 H => ?_)) (x_n (fun _ => rfl) rfl (fun x h' h => h))
    refine w_ic f_119_19 ?_
    refine w_iceq f_119_21 (fun c => ?_) (fun c => ?_)
    · have H := H.1 c
      exact H
    · have H := H.2 c
      refine w_al f_119_24 rfl ?_
      refine w_al f_119_25 rfl ?_
      refine w_gi f_119_26 rfl ?_
      refine w_inv (as := [.ref 59, .int (I1 59 24)]) (st' := []) f_119_29 rfl rfl rfl rfl rfl rfl H (k_i (fun y2 G2 I2 J2 H => ?_)) (x_n (fun _ => rfl) rfl (fun x h' h => h))
      refine w_ic f_119_32 ?_
      refine w_icne f_119_34 (fun c => ?_) (fun c => ?_)
      · have H := H.1 c
        exact H
      · have H := H.2 c
        exact H
theorem g_119_37 {d : Nat} {G : am_G} {I : Nat → Nat → Int32} {J : Nat → Nat → Int64} {Q : am_O → am_H → Prop} (hR : q_RT G)  (H : q_W β xs L (d + 1) 119 0 [.ref 59, .retAddr 0] [] (G, (am_u I 59 24 ((I 59 24) + 1)), J) Q) : q_W β xs L (d + 1) 119 37 [.ref 59, .retAddr 0] [] (G, I, J) Q := by
  refine w_al f_119_37 rfl ?_
  refine w_dupr f_119_38 ?_
  refine w_gi f_119_39 rfl ?_
  refine w_ic f_119_42 ?_
  refine w_bin f_119_43 ?_
  refine w_pi f_119_44 rfl ?_
  refine w_go f_119_47 ?_
  exact H
theorem g_119_50 {d : Nat} {G : am_G} {I : Nat → Nat → Int32} {J : Nat → Nat → Int64} {Q : am_O → am_H → Prop} (hR : q_RT G)  (H : q_W β xs L d 116 0 [.ref 59, .int (I 59 24)] [] (G, (am_u (am_u I 59 26 (I 59 24)) 59 28 0), (am_u J 59 30 0)) (q_Ri (fun y1 G1 I1 J1 => (((I1 59 24) < (I1 59 23) → q_W β xs L d 117 0 [.int y1] [] (G1, (am_u I1 59 29 y1), J1) (q_Ri (fun y2 G2 I2 J2 => ((y2 = 0 → q_W β xs L d 118 0 [.int y1] [] (G2, I2, J2) (q_Ri (fun y3 G3 I3 J3 => ((y3 = 0 → ((y1 = 59 → q_W β xs L (d + 1) 119 323 [.ref 59, .int y1] [.ref 59] (G3, (am_u I3 59 24 ((I3 59 24) + 1)), J3) Q) ∧ (¬ y1 = 59 → ((y1 = 40 → q_W β xs L (d + 1) 119 323 [.ref 59, .int y1] [.ref 59] (G3, (am_u I3 59 24 ((I3 59 24) + 1)), J3) Q) ∧ (¬ y1 = 40 → ((y1 = 41 → q_W β xs L (d + 1) 119 323 [.ref 59, .int y1] [.ref 59] (G3, (am_u I3 59 24 ((I3 59 24) + 1)), J3) Q) ∧ (¬ y1 = 41 → ((y1 = 43 → q_W β xs L (d + 1) 119 323 [.ref 59, .int y1] [.ref 59] (G3, (am_u I3 59 24 ((I3 59 24) + 1)), J3) Q) ∧ (¬ y1 = 43 → ((y1 = 45 → q_W β xs L (d + 1) 119 323 [.ref 59, .int y1] [.ref 59] (G3, (am_u I3 59 24 ((I3 59 24) + 1)), J3) Q) ∧ (¬ y1 = 45 → ((y1 = 42 → q_W β xs L (d + 1) 119 323 [.ref 59, .int y1] [.ref 59] (G3, (am_u I3 59 24 ((I3 59 24) + 1)), J3) Q) ∧ (¬ y1 = 42 → ((y1 = 47 → q_W β xs L (d + 1) 119 323 [.ref 59, .int y1] [.ref 59] (G3, (am_u I3 59 24 ((I3 59 24) + 1)), J3) Q) ∧ (¬ y1 = 47 → ((y1 = 60 → q_W β xs L (d + 1) 119 323 [.ref 59, .int y1] [.ref 59] (G3, (am_u I3 59 24 ((I3 59 24) + 1)), J3) Q) ∧ (¬ y1 = 60 → ((¬ y1 = 61 → q_W β xs L (d + 1) 119 328 [.ref 59, .int y1] [.int 4, .ref 59] (G3, (am_u I3 59 24 ((I3 59 24) + 1)), J3) Q) ∧ (y1 = 61 → q_W β xs L (d + 1) 119 323 [.ref 59, .int y1] [.ref 59] (G3, (am_u I3 59 24 ((I3 59 24) + 1)), J3) Q))))))))))))))))))) ∧ (¬ y3 = 0 → q_W β xs L (d + 1) 119 187 [.ref 59, .int y1] [] (G3, I3, J3) Q))) (fun x3 G3 I3 J3 => Q (.inr x3) (G3, I3, J3)))) ∧ (¬ y2 = 0 → q_W β xs L (d + 1) 119 108 [.ref 59, .int y1] [] (G2, I2, J2) Q))) (fun x2 G2 I2 J2 => Q (.inr x2) (G2, I2, J2)))) ∧ (¬ (I1 59 24) < (I1 59 23) → q_W β xs L (d + 1) 119 331 [.ref 59, .int y1] [] (G1, (am_u (am_u I1 59 29 y1) 59 25 0), J1) Q))) (fun x1 G1 I1 J1 => Q (.inr x1) (G1, I1, J1)))) : q_W β xs L (d + 1) 119 50 [.ref 59, .retAddr 0] [] (G, I, J) Q := by
  refine w_al f_119_50 rfl ?_
  refine w_al f_119_51 rfl ?_
  refine w_gi f_119_52 rfl ?_
  refine w_pi f_119_55 rfl ?_
  refine w_al f_119_58 rfl ?_
  refine w_lc f_119_59 ?_
  refine w_pl f_119_60 rfl ?_
  refine w_al f_119_63 rfl ?_
  refine w_ic f_119_64 ?_
  refine w_pi f_119_65 rfl ?_
  refine w_al f_119_68 rfl ?_
  refine w_al f_119_69 rfl ?_
  refine w_gi' f_119_70 rfl ((am_u_ne (Or.inr (by decide))).trans (am_u_ne (Or.inr (by decide)))) ?_
  refine w_inv (as := [.ref 59, .int (I 59 24)]) (st' := []) f_119_73 rfl rfl rfl rfl rfl rfl H (k_i (fun y1 G1 I1 J1 H => ?_)) (x_n (fun _ => rfl) rfl (fun x h' h => h))
  refine w_is (ls' := [.ref 59, .int y1]) f_119_76 rfl ?_
  refine w_al f_119_77 rfl ?_
  refine w_il f_119_78 rfl ?_
  refine w_pi f_119_79 rfl ?_
  refine w_al f_119_82 rfl ?_
  refine w_gi' f_119_83 rfl (am_u_ne (Or.inr (by decide))) ?_
  refine w_al f_119_86 rfl ?_
  refine w_gi' f_119_87 rfl (am_u_ne (Or.inr (by decide))) ?_
  refine w_iclt f_119_90 (fun c => ?_) (fun c => ?_)
  · have H := H.1 c
    refine w_il f_119_101 rfl ?_
    refine w_invs (as := [.int y1]) (st' := []) f_119_102 rfl rfl rfl rfl rfl H (k_i (fun y2 G2 I2 J2 H => ?_)) (x_n (fun _ => rfl) rfl (fun x h' h => h))
    refine w_ifeq f_119_105 (fun c => ?_) (fun c => ?_)
    · have H := H.1 c
      refine w_il f_119_180 rfl ?_
      refine w_invs (as := [.int y1]) (st' := []) f_119_181 rfl rfl rfl rfl rfl H (k_i (fun y3 G3 I3 J3 H => ?_)) (x_n (fun _ => rfl) rfl (fun x h' h => h))
      refine w_ifeq f_119_184 (fun c => ?_) (fun c => ?_)
      · have H := H.1 c
        refine w_al f_119_258 rfl ?_
        refine w_dupr f_119_259 ?_
        refine w_gi f_119_260 rfl ?_
        refine w_ic f_119_263 ?_
        refine w_bin f_119_264 ?_
        refine w_pi f_119_265 rfl ?_
        refine w_al f_119_268 rfl ?_
        refine w_il f_119_269 rfl ?_
        refine w_ic f_119_270 ?_
        refine w_iceq f_119_272 (fun c => ?_) (fun c => ?_)
        · have H := H.1 c
          exact H
        · have H := H.2 c
          refine w_il f_119_275 rfl ?_
          refine w_ic f_119_276 ?_
          refine w_iceq f_119_278 (fun c => ?_) (fun c => ?_)
          · have H := H.1 c
            exact H
          · have H := H.2 c
            refine w_il f_119_281 rfl ?_
            refine w_ic f_119_282 ?_
            refine w_iceq f_119_284 (fun c => ?_) (fun c => ?_)
            · have H := H.1 c
              exact H
            · have H := H.2 c
              refine w_il f_119_287 rfl ?_
              refine w_ic f_119_288 ?_
              refine w_iceq f_119_290 (fun c => ?_) (fun c => ?_)
              · have H := H.1 c
                exact H
              · have H := H.2 c
                refine w_il f_119_293 rfl ?_
                refine w_ic f_119_294 ?_
                refine w_iceq f_119_296 (fun c => ?_) (fun c => ?_)
                · have H := H.1 c
                  exact H
                · have H := H.2 c
                  refine w_il f_119_299 rfl ?_
                  refine w_ic f_119_300 ?_
                  refine w_iceq f_119_302 (fun c => ?_) (fun c => ?_)
                  · have H := H.1 c
                    exact H
                  · have H := H.2 c
                    refine w_il f_119_305 rfl ?_
                    refine w_ic f_119_306 ?_
                    refine w_iceq f_119_308 (fun c => ?_) (fun c => ?_)
                    · have H := H.1 c
                      exact H
                    · have H := H.2 c
                      refine w_il f_119_311 rfl ?_
                      refine w_ic f_119_312 ?_
                      refine w_iceq f_119_314 (fun c => ?_) (fun c => ?_)
                      · have H := H.1 c
                        exact H
                      · have H := H.2 c
                        refine w_il f_119_317 rfl ?_
                        refine w_ic f_119_318 ?_
                        refine w_icne f_119_320 (fun c => ?_) (fun c => ?_)
                        · have H := H.1 c
                          refine w_ic f_119_327 ?_
                          exact H
                        · have H := H.2 c
                          exact H
      · have H := H.2 c
        exact H
    · have H := H.2 c
      exact H
  · have H := H.2 c
    refine w_al f_119_93 rfl ?_
    refine w_ic f_119_94 ?_
    refine w_pi f_119_95 rfl ?_
    refine w_go f_119_98 ?_
    exact H
theorem g_119_108 {d : Nat} {G : am_G} {I : Nat → Nat → Int32} {J : Nat → Nat → Int64} {Q : am_O → am_H → Prop} (hR : q_RT G) (i1 : Int32) (H : q_W β xs L d 116 0 [.ref 59, .int (I 59 24)] [] (G, I, J) (q_Ri (fun y1 G1 I1 J1 => q_W β xs L d 117 0 [.int y1] [] (G1, I1, J1) (q_Ri (fun y2 G2 I2 J2 => ((y2 = 0 → q_W β xs L (d + 1) 119 331 [.ref 59, .int i1] [] (G2, (am_u I2 59 25 1), J2) Q) ∧ (¬ y2 = 0 → ((¬ ((I2 59 24) - (I2 59 26)) < 9 → q_W β xs L (d + 1) 119 159 [.ref 59, .int i1] [] (G2, I2, J2) Q) ∧ (((I2 59 24) - (I2 59 26)) < 9 → q_W β xs L d 116 0 [.ref 59, .int (I2 59 24)] [] (G2, I2, J2) (q_Ri (fun y3 G3 I3 J3 => q_W β xs L (d + 1) 119 159 [.ref 59, .int i1] [] (G3, I3, (am_u J3 59 30 (((J2 59 30) <<< ((5 : Int32).toInt64 &&& 63)) ||| (((y3 - 96)).toInt64)))) Q) (fun x3 G3 I3 J3 => Q (.inr x3) (G3, I3, J3)))))))) (fun x2 G2 I2 J2 => Q (.inr x2) (G2, I2, J2)))) (fun x1 G1 I1 J1 => Q (.inr x1) (G1, I1, J1)))) : q_W β xs L (d + 1) 119 108 [.ref 59, .int i1] [] (G, I, J) Q := by
  refine w_al f_119_108 rfl ?_
  refine w_al f_119_109 rfl ?_
  refine w_gi f_119_110 rfl ?_
  refine w_inv (as := [.ref 59, .int (I 59 24)]) (st' := []) f_119_113 rfl rfl rfl rfl rfl rfl H (k_i (fun y1 G1 I1 J1 H => ?_)) (x_n (fun _ => rfl) rfl (fun x h' h => h))
  refine w_invs (as := [.int y1]) (st' := []) f_119_116 rfl rfl rfl rfl rfl H (k_i (fun y2 G2 I2 J2 H => ?_)) (x_n (fun _ => rfl) rfl (fun x h' h => h))
  refine w_ifeq f_119_119 (fun c => ?_) (fun c => ?_)
  · have H := H.1 c
    refine w_al f_119_172 rfl ?_
    refine w_ic f_119_173 ?_
    refine w_pi f_119_174 rfl ?_
    refine w_go f_119_177 ?_
    exact H
  · have H := H.2 c
    refine w_al f_119_122 rfl ?_
    refine w_gi f_119_123 rfl ?_
    refine w_al f_119_126 rfl ?_
    refine w_gi f_119_127 rfl ?_
    refine w_bin f_119_130 ?_
    refine w_ic f_119_131 ?_
    refine w_icge f_119_133 (fun c => ?_) (fun c => ?_)
    · have H := H.1 c
      exact H
    · have H := H.2 c
      refine w_al f_119_136 rfl ?_
      refine w_al f_119_137 rfl ?_
      refine w_gl f_119_138 rfl ?_
      refine w_ic f_119_141 ?_
      refine w_lsh f_119_142 ?_
      refine w_al f_119_143 rfl ?_
      refine w_al f_119_144 rfl ?_
      refine w_gi f_119_145 rfl ?_
      refine w_inv (as := [.ref 59, .int (I2 59 24)]) (st' := [.long ((J2 59 30) <<< ((5 : Int32).toInt64 &&& 63)), .ref 59]) f_119_148 rfl rfl rfl rfl rfl rfl H (k_i (fun y3 G3 I3 J3 H => ?_)) (x_n (fun _ => rfl) rfl (fun x h' h => h))
      refine w_ic f_119_151 ?_
      refine w_bin f_119_153 ?_
      refine w_i2l f_119_154 ?_
      refine w_lbin f_119_155 ?_
      refine w_pl f_119_156 rfl ?_
      exact H
theorem g_119_159 {d : Nat} {G : am_G} {I : Nat → Nat → Int32} {J : Nat → Nat → Int64} {Q : am_O → am_H → Prop} (hR : q_RT G) (i1 : Int32) (H : q_W β xs L (d + 1) 119 108 [.ref 59, .int i1] [] (G, (am_u I 59 24 ((I 59 24) + 1)), J) Q) : q_W β xs L (d + 1) 119 159 [.ref 59, .int i1] [] (G, I, J) Q := by
  refine w_al f_119_159 rfl ?_
  refine w_dupr f_119_160 ?_
  refine w_gi f_119_161 rfl ?_
  refine w_ic f_119_164 ?_
  refine w_bin f_119_165 ?_
  refine w_pi f_119_166 rfl ?_
  refine w_go f_119_169 ?_
  exact H
theorem g_119_187 {d : Nat} {G : am_G} {I : Nat → Nat → Int32} {J : Nat → Nat → Int64} {Q : am_O → am_H → Prop} (hR : q_RT G) (i1 : Int32) (H : q_W β xs L d 116 0 [.ref 59, .int (I 59 24)] [] (G, I, J) (q_Ri (fun y1 G1 I1 J1 => q_W β xs L d 118 0 [.int y1] [] (G1, I1, J1) (q_Ri (fun y2 G2 I2 J2 => ((y2 = 0 → q_W β xs L (d + 1) 119 331 [.ref 59, .int i1] [] (G2, (am_u I2 59 25 2), J2) Q) ∧ (¬ y2 = 0 → ((¬ ((I2 59 24) - (I2 59 26)) < 5 → q_W β xs L (d + 1) 119 237 [.ref 59, .int i1] [] (G2, I2, J2) Q) ∧ (((I2 59 24) - (I2 59 26)) < 5 → q_W β xs L d 116 0 [.ref 59, .int (I2 59 24)] [] (G2, I2, J2) (q_Ri (fun y3 G3 I3 J3 => q_W β xs L (d + 1) 119 237 [.ref 59, .int i1] [] (G3, (am_u I3 59 28 (((10 * (I2 59 28)) + y3) - 48)), J3) Q) (fun x3 G3 I3 J3 => Q (.inr x3) (G3, I3, J3)))))))) (fun x2 G2 I2 J2 => Q (.inr x2) (G2, I2, J2)))) (fun x1 G1 I1 J1 => Q (.inr x1) (G1, I1, J1)))) : q_W β xs L (d + 1) 119 187 [.ref 59, .int i1] [] (G, I, J) Q := by
  refine w_al f_119_187 rfl ?_
  refine w_al f_119_188 rfl ?_
  refine w_gi f_119_189 rfl ?_
  refine w_inv (as := [.ref 59, .int (I 59 24)]) (st' := []) f_119_192 rfl rfl rfl rfl rfl rfl H (k_i (fun y1 G1 I1 J1 H => ?_)) (x_n (fun _ => rfl) rfl (fun x h' h => h))
  refine w_invs (as := [.int y1]) (st' := []) f_119_195 rfl rfl rfl rfl rfl H (k_i (fun y2 G2 I2 J2 H => ?_)) (x_n (fun _ => rfl) rfl (fun x h' h => h))
  refine w_ifeq f_119_198 (fun c => ?_) (fun c => ?_)
  · have H := H.1 c
    refine w_al f_119_250 rfl ?_
    refine w_ic f_119_251 ?_
    refine w_pi f_119_252 rfl ?_
    refine w_go f_119_255 ?_
    exact H
  · have H := H.2 c
    refine w_al f_119_201 rfl ?_
    refine w_gi f_119_202 rfl ?_
    refine w_al f_119_205 rfl ?_
    refine w_gi f_119_206 rfl ?_
    refine w_bin f_119_209 ?_
    refine w_ic f_119_210 ?_
    refine w_icge f_119_211 (fun c => ?_) (fun c => ?_)
    · have H := H.1 c
      exact H
    · have H := H.2 c
      refine w_al f_119_214 rfl ?_
      refine w_ic f_119_215 ?_
      refine w_al f_119_217 rfl ?_
      refine w_gi f_119_218 rfl ?_
      refine w_bin f_119_221 ?_
      refine w_al f_119_222 rfl ?_
      refine w_al f_119_223 rfl ?_
      refine w_gi f_119_224 rfl ?_
      refine w_inv (as := [.ref 59, .int (I2 59 24)]) (st' := [.int (10 * (I2 59 28)), .ref 59]) f_119_227 rfl rfl rfl rfl rfl rfl H (k_i (fun y3 G3 I3 J3 H => ?_)) (x_n (fun _ => rfl) rfl (fun x h' h => h))
      refine w_bin f_119_230 ?_
      refine w_ic f_119_231 ?_
      refine w_bin f_119_233 ?_
      refine w_pi f_119_234 rfl ?_
      exact H
theorem g_119_237 {d : Nat} {G : am_G} {I : Nat → Nat → Int32} {J : Nat → Nat → Int64} {Q : am_O → am_H → Prop} (hR : q_RT G) (i1 : Int32) (H : q_W β xs L (d + 1) 119 187 [.ref 59, .int i1] [] (G, (am_u I 59 24 ((I 59 24) + 1)), J) Q) : q_W β xs L (d + 1) 119 237 [.ref 59, .int i1] [] (G, I, J) Q := by
  refine w_al f_119_237 rfl ?_
  refine w_dupr f_119_238 ?_
  refine w_gi f_119_239 rfl ?_
  refine w_ic f_119_242 ?_
  refine w_bin f_119_243 ?_
  refine w_pi f_119_244 rfl ?_
  refine w_go f_119_247 ?_
  exact H
theorem g_119_323 {d : Nat} {G : am_G} {I : Nat → Nat → Int32} {J : Nat → Nat → Int64} {Q : am_O → am_H → Prop} (hR : q_RT G) (i1 : Int32) (H : q_W β xs L (d + 1) 119 328 [.ref 59, .int i1] [.int 3, .ref 59] (G, I, J) Q) : q_W β xs L (d + 1) 119 323 [.ref 59, .int i1] [.ref 59] (G, I, J) Q := by
  refine w_ic f_119_323 ?_
  refine w_go f_119_324 ?_
  exact H
theorem g_119_328 {d : Nat} {G : am_G} {I : Nat → Nat → Int32} {J : Nat → Nat → Int64} {Q : am_O → am_H → Prop} (hR : q_RT G) (i1 : Int32) (is0 : Int32) (H : q_W β xs L (d + 1) 119 331 [.ref 59, .int i1] [] (G, (am_u I 59 25 is0), J) Q) : q_W β xs L (d + 1) 119 328 [.ref 59, .int i1] [.int is0, .ref 59] (G, I, J) Q := by
  refine w_pi f_119_328 rfl ?_
  exact H
theorem g_119_331 {d : Nat} {G : am_G} {I : Nat → Nat → Int32} {J : Nat → Nat → Int64} {Q : am_O → am_H → Prop} (hR : q_RT G) (i1 : Int32) (H : Q (.inl none) (G, (am_u I 59 27 ((I 59 24) - (I 59 26))), J)) : q_W β xs L (d + 1) 119 331 [.ref 59, .int i1] [] (G, I, J) Q := by
  refine w_al f_119_331 rfl ?_
  refine w_al f_119_332 rfl ?_
  refine w_gi f_119_333 rfl ?_
  refine w_al f_119_336 rfl ?_
  refine w_gi f_119_337 rfl ?_
  refine w_bin f_119_340 ?_
  refine w_pi f_119_341 rfl ?_
  exact w_ret0 f_119_344 H
theorem g_120_0 {d : Nat} {G : am_G} {I : Nat → Nat → Int32} {J : Nat → Nat → Int64} {Q : am_O → am_H → Prop} (hR : q_RT G) (i0 : Int32) (i1 : Int32) (i2 : Int32) (i3 : Int32) (i4 : Int32) (i5 : Int32) (H : ((i1 = 0 → q_W β xs L d 120 23 [.int i0, .int i1, .int i2, .int i3, .int i4, .int i5, .long (((i0 - 96)).toInt64), .retAddr 0] [] (G, I, J) Q) ∧ (¬ i1 = 0 → q_W β xs L d 120 23 [.int i0, .int i1, .int i2, .int i3, .int i4, .int i5, .long (((((i0 - 96)).toInt64) <<< ((5 : Int32).toInt64 &&& 63)) ||| (((i1 - 96)).toInt64)), .retAddr 0] [] (G, I, J) Q))) : q_W β xs L d 120 0 [.int i0, .int i1, .int i2, .int i3, .int i4, .int i5, .retAddr 0, .retAddr 0] [] (G, I, J) Q := by
  refine w_il f_120_0 rfl ?_
  refine w_ic f_120_1 ?_
  refine w_bin f_120_3 ?_
  refine w_i2l f_120_4 ?_
  refine w_ls (ls' := [.int i0, .int i1, .int i2, .int i3, .int i4, .int i5, .long (((i0 - 96)).toInt64), .retAddr 0]) f_120_5 rfl ?_
  refine w_il f_120_7 rfl ?_
  refine w_ifeq f_120_8 (fun c => ?_) (fun c => ?_)
  · have H := H.1 c
    exact H
  · have H := H.2 c
    refine w_ll f_120_11 rfl ?_
    refine w_ic f_120_13 ?_
    refine w_lsh f_120_14 ?_
    refine w_il f_120_15 rfl ?_
    refine w_ic f_120_16 ?_
    refine w_bin f_120_18 ?_
    refine w_i2l f_120_19 ?_
    refine w_lbin f_120_20 ?_
    refine w_ls (ls' := [.int i0, .int i1, .int i2, .int i3, .int i4, .int i5, .long (((((i0 - 96)).toInt64) <<< ((5 : Int32).toInt64 &&& 63)) ||| (((i1 - 96)).toInt64)), .retAddr 0]) f_120_21 rfl ?_
    exact H
theorem g_120_23 {d : Nat} {G : am_G} {I : Nat → Nat → Int32} {J : Nat → Nat → Int64} {Q : am_O → am_H → Prop} (hR : q_RT G) (i0 : Int32) (i1 : Int32) (i2 : Int32) (i3 : Int32) (i4 : Int32) (i5 : Int32) (l6 : Int64) (H : ((i2 = 0 → q_W β xs L d 120 39 [.int i0, .int i1, .int i2, .int i3, .int i4, .int i5, .long l6, .retAddr 0] [] (G, I, J) Q) ∧ (¬ i2 = 0 → q_W β xs L d 120 39 [.int i0, .int i1, .int i2, .int i3, .int i4, .int i5, .long ((l6 <<< ((5 : Int32).toInt64 &&& 63)) ||| (((i2 - 96)).toInt64)), .retAddr 0] [] (G, I, J) Q))) : q_W β xs L d 120 23 [.int i0, .int i1, .int i2, .int i3, .int i4, .int i5, .long l6, .retAddr 0] [] (G, I, J) Q := by
  refine w_il f_120_23 rfl ?_
  refine w_ifeq f_120_24 (fun c => ?_) (fun c => ?_)
  · have H := H.1 c
    exact H
  · have H := H.2 c
    refine w_ll f_120_27 rfl ?_
    refine w_ic f_120_29 ?_
    refine w_lsh f_120_30 ?_
    refine w_il f_120_31 rfl ?_
    refine w_ic f_120_32 ?_
    refine w_bin f_120_34 ?_
    refine w_i2l f_120_35 ?_
    refine w_lbin f_120_36 ?_
    refine w_ls (ls' := [.int i0, .int i1, .int i2, .int i3, .int i4, .int i5, .long ((l6 <<< ((5 : Int32).toInt64 &&& 63)) ||| (((i2 - 96)).toInt64)), .retAddr 0]) f_120_37 rfl ?_
    exact H
theorem g_120_39 {d : Nat} {G : am_G} {I : Nat → Nat → Int32} {J : Nat → Nat → Int64} {Q : am_O → am_H → Prop} (hR : q_RT G) (i0 : Int32) (i1 : Int32) (i2 : Int32) (i3 : Int32) (i4 : Int32) (i5 : Int32) (l6 : Int64) (H : ((i3 = 0 → q_W β xs L d 120 55 [.int i0, .int i1, .int i2, .int i3, .int i4, .int i5, .long l6, .retAddr 0] [] (G, I, J) Q) ∧ (¬ i3 = 0 → q_W β xs L d 120 55 [.int i0, .int i1, .int i2, .int i3, .int i4, .int i5, .long ((l6 <<< ((5 : Int32).toInt64 &&& 63)) ||| (((i3 - 96)).toInt64)), .retAddr 0] [] (G, I, J) Q))) : q_W β xs L d 120 39 [.int i0, .int i1, .int i2, .int i3, .int i4, .int i5, .long l6, .retAddr 0] [] (G, I, J) Q := by
  refine w_il f_120_39 rfl ?_
  refine w_ifeq f_120_40 (fun c => ?_) (fun c => ?_)
  · have H := H.1 c
    exact H
  · have H := H.2 c
    refine w_ll f_120_43 rfl ?_
    refine w_ic f_120_45 ?_
    refine w_lsh f_120_46 ?_
    refine w_il f_120_47 rfl ?_
    refine w_ic f_120_48 ?_
    refine w_bin f_120_50 ?_
    refine w_i2l f_120_51 ?_
    refine w_lbin f_120_52 ?_
    refine w_ls (ls' := [.int i0, .int i1, .int i2, .int i3, .int i4, .int i5, .long ((l6 <<< ((5 : Int32).toInt64 &&& 63)) ||| (((i3 - 96)).toInt64)), .retAddr 0]) f_120_53 rfl ?_
    exact H
theorem g_120_55 {d : Nat} {G : am_G} {I : Nat → Nat → Int32} {J : Nat → Nat → Int64} {Q : am_O → am_H → Prop} (hR : q_RT G) (i0 : Int32) (i1 : Int32) (i2 : Int32) (i3 : Int32) (i4 : Int32) (i5 : Int32) (l6 : Int64) (H : ((i4 = 0 → q_W β xs L d 120 73 [.int i0, .int i1, .int i2, .int i3, .int i4, .int i5, .long l6, .retAddr 0] [] (G, I, J) Q) ∧ (¬ i4 = 0 → q_W β xs L d 120 73 [.int i0, .int i1, .int i2, .int i3, .int i4, .int i5, .long ((l6 <<< ((5 : Int32).toInt64 &&& 63)) ||| (((i4 - 96)).toInt64)), .retAddr 0] [] (G, I, J) Q))) : q_W β xs L d 120 55 [.int i0, .int i1, .int i2, .int i3, .int i4, .int i5, .long l6, .retAddr 0] [] (G, I, J) Q := by
  refine w_il f_120_55 rfl ?_
  refine w_ifeq f_120_57 (fun c => ?_) (fun c => ?_)
  · have H := H.1 c
    exact H
  · have H := H.2 c
    refine w_ll f_120_60 rfl ?_
    refine w_ic f_120_62 ?_
    refine w_lsh f_120_63 ?_
    refine w_il f_120_64 rfl ?_
    refine w_ic f_120_66 ?_
    refine w_bin f_120_68 ?_
    refine w_i2l f_120_69 ?_
    refine w_lbin f_120_70 ?_
    refine w_ls (ls' := [.int i0, .int i1, .int i2, .int i3, .int i4, .int i5, .long ((l6 <<< ((5 : Int32).toInt64 &&& 63)) ||| (((i4 - 96)).toInt64)), .retAddr 0]) f_120_71 rfl ?_
    exact H
theorem g_120_73 {d : Nat} {G : am_G} {I : Nat → Nat → Int32} {J : Nat → Nat → Int64} {Q : am_O → am_H → Prop} (hR : q_RT G) (i0 : Int32) (i1 : Int32) (i2 : Int32) (i3 : Int32) (i4 : Int32) (i5 : Int32) (l6 : Int64) (H : ((i5 = 0 → q_W β xs L d 120 91 [.int i0, .int i1, .int i2, .int i3, .int i4, .int i5, .long l6, .retAddr 0] [] (G, I, J) Q) ∧ (¬ i5 = 0 → q_W β xs L d 120 91 [.int i0, .int i1, .int i2, .int i3, .int i4, .int i5, .long ((l6 <<< ((5 : Int32).toInt64 &&& 63)) ||| (((i5 - 96)).toInt64)), .retAddr 0] [] (G, I, J) Q))) : q_W β xs L d 120 73 [.int i0, .int i1, .int i2, .int i3, .int i4, .int i5, .long l6, .retAddr 0] [] (G, I, J) Q := by
  refine w_il f_120_73 rfl ?_
  refine w_ifeq f_120_75 (fun c => ?_) (fun c => ?_)
  · have H := H.1 c
    exact H
  · have H := H.2 c
    refine w_ll f_120_78 rfl ?_
    refine w_ic f_120_80 ?_
    refine w_lsh f_120_81 ?_
    refine w_il f_120_82 rfl ?_
    refine w_ic f_120_84 ?_
    refine w_bin f_120_86 ?_
    refine w_i2l f_120_87 ?_
    refine w_lbin f_120_88 ?_
    refine w_ls (ls' := [.int i0, .int i1, .int i2, .int i3, .int i4, .int i5, .long ((l6 <<< ((5 : Int32).toInt64 &&& 63)) ||| (((i5 - 96)).toInt64)), .retAddr 0]) f_120_89 rfl ?_
    exact H
theorem g_120_91 {d : Nat} {G : am_G} {I : Nat → Nat → Int32} {J : Nat → Nat → Int64} {Q : am_O → am_H → Prop} (hR : q_RT G) (i0 : Int32) (i1 : Int32) (i2 : Int32) (i3 : Int32) (i4 : Int32) (i5 : Int32) (l6 : Int64) (H : Q (.inl (some (.long l6))) (G, I, J)) : q_W β xs L d 120 91 [.int i0, .int i1, .int i2, .int i3, .int i4, .int i5, .long l6, .retAddr 0] [] (G, I, J) Q := by
  refine w_ll f_120_91 rfl ?_
  exact w_retl f_120_93 H
theorem g_122_0 {d : Nat} {G : am_G} {I : Nat → Nat → Int32} {J : Nat → Nat → Int64} {Q : am_O → am_H → Prop} (hR : q_RT G)  (H : ((¬ (I 59 25) = 1 → q_W β xs L d 122 17 [.ref 59, .retAddr 0] [] (G, I, J) Q) ∧ ((I 59 25) = 1 → ((¬ 8 < (I 59 27) → q_W β xs L d 122 21 [.ref 59, .int 0] [] (G, I, J) Q) ∧ (8 < (I 59 27) → q_W β xs L d 122 17 [.ref 59, .retAddr 0] [] (G, I, J) Q))))) : q_W β xs L d 122 0 [.ref 59, .retAddr 0] [] (G, I, J) Q := by
  refine w_al f_122_0 rfl ?_
  refine w_gi f_122_1 rfl ?_
  refine w_ic f_122_4 ?_
  refine w_icne f_122_5 (fun c => ?_) (fun c => ?_)
  · have H := H.1 c
    exact H
  · have H := H.2 c
    refine w_al f_122_8 rfl ?_
    refine w_gi f_122_9 rfl ?_
    refine w_ic f_122_12 ?_
    refine w_icle f_122_14 (fun c => ?_) (fun c => ?_)
    · have H := H.1 c
      refine w_ic f_122_19 ?_
      refine w_is (ls' := [.ref 59, .int 0]) f_122_20 rfl ?_
      exact H
    · have H := H.2 c
      exact H
theorem g_122_17 {d : Nat} {G : am_G} {I : Nat → Nat → Int32} {J : Nat → Nat → Int64} {Q : am_O → am_H → Prop} (hR : q_RT G)  (H : Q (.inl (some (.int (-1)))) (G, I, J)) : q_W β xs L d 122 17 [.ref 59, .retAddr 0] [] (G, I, J) Q := by
  refine w_ic f_122_17 ?_
  exact w_reti f_122_18 H
theorem g_122_21 {d : Nat} {G : am_G} {I : Nat → Nat → Int32} {J : Nat → Nat → Int64} {Q : am_O → am_H → Prop} (hR : q_RT G) (i1 : Int32) (H : ((¬ i1 < 28 → Q (.inl (some (.int (-1)))) (G, I, J)) ∧ (i1 < 28 → (am_is i1 28 = true ∧ ((¬ (if (J 73 (i1).toNatClampNeg) > (J 59 30) then (1 : Int32) else if (J 73 (i1).toNatClampNeg) = (J 59 30) then 0 else -1) = 0 → q_W β xs L d 122 21 [.ref 59, .int (i1 + 1)] [] (G, I, J) Q) ∧ ((if (J 73 (i1).toNatClampNeg) > (J 59 30) then (1 : Int32) else if (J 73 (i1).toNatClampNeg) = (J 59 30) then 0 else -1) = 0 → Q (.inl (some (.int i1))) (G, I, J))))))) : q_W β xs L d 122 21 [.ref 59, .int i1] [] (G, I, J) Q := by
  refine w_il f_122_21 rfl ?_
  refine w_ic f_122_22 ?_
  refine w_icge f_122_24 (fun c => ?_) (fun c => ?_)
  · have H := H.1 c
    refine w_ic f_122_49 ?_
    exact w_reti f_122_50 H
  · have H := H.2 c
    refine w_al f_122_27 rfl ?_
    refine w_gr f_122_28 rfl (hR _ _ _ rfl) ?_
    refine w_il f_122_31 rfl ?_
    have hb := H.1
    have H := H.2
    refine w_lald f_122_32 rfl hb ?_
    refine w_al f_122_33 rfl ?_
    refine w_gl f_122_34 rfl ?_
    refine w_lcmp f_122_37 ?_
    refine w_ifne f_122_38 (fun c => ?_) (fun c => ?_)
    · have H := H.1 c
      refine w_iinc (ls' := [.ref 59, .int (i1 + 1)]) f_122_43 rfl rfl ?_
      refine w_go f_122_46 ?_
      exact H
    · have H := H.2 c
      refine w_il f_122_41 rfl ?_
      exact w_reti f_122_42 H
theorem g_123_0 {d : Nat} {G : am_G} {I : Nat → Nat → Int32} {J : Nat → Nat → Int64} {Q : am_O → am_H → Prop} (hR : q_RT G) (i1 : Int32) (H : (((I 59 21) = 0 → Q (.inl none) (G, (am_u (am_u I 59 21 i1) 59 22 (I 59 26)), J)) ∧ (¬ (I 59 21) = 0 → Q (.inl none) (G, I, J)))) : q_W β xs L d 123 0 [.ref 59, .int i1] [] (G, I, J) Q := by
  refine w_al f_123_0 rfl ?_
  refine w_gi f_123_1 rfl ?_
  refine w_ifeq f_123_4 (fun c => ?_) (fun c => ?_)
  · have H := H.1 c
    refine w_al f_123_8 rfl ?_
    refine w_il f_123_9 rfl ?_
    refine w_pi f_123_10 rfl ?_
    refine w_al f_123_13 rfl ?_
    refine w_al f_123_14 rfl ?_
    refine w_gi' f_123_15 rfl (am_u_ne (Or.inr (by decide))) ?_
    refine w_pi f_123_18 rfl ?_
    exact w_ret0 f_123_21 H
  · have H := H.2 c
    exact w_ret0 f_123_7 H
theorem g_124_0 {d : Nat} {G : am_G} {I : Nat → Nat → Int32} {J : Nat → Nat → Int64} {Q : am_O → am_H → Prop} (hR : q_RT G)  (H : ((¬ (I 59 21) = 0 → q_W β xs L d 124 12 [.ref 59] [.int 0] (G, I, J) Q) ∧ ((I 59 21) = 0 → q_W β xs L d 124 12 [.ref 59] [.int 1] (G, I, J) Q))) : q_W β xs L d 124 0 [.ref 59] [] (G, I, J) Q := by
  refine w_al f_124_0 rfl ?_
  refine w_gi f_124_1 rfl ?_
  refine w_ifne f_124_4 (fun c => ?_) (fun c => ?_)
  · have H := H.1 c
    refine w_ic f_124_11 ?_
    exact H
  · have H := H.2 c
    refine w_ic f_124_7 ?_
    refine w_go f_124_8 ?_
    exact H
theorem g_124_12 {d : Nat} {G : am_G} {I : Nat → Nat → Int32} {J : Nat → Nat → Int64} {Q : am_O → am_H → Prop} (hR : q_RT G) (is0 : Int32) (H : (((is0 : Int32) = 0 ∨ (is0 : Int32) = 1) ∧ Q (.inl (some (.int is0))) (G, I, J))) : q_W β xs L d 124 12 [.ref 59] [.int is0] (G, I, J) Q := by
  exact w_retz f_124_12 H.1 H.2
theorem g_125_0 {d : Nat} {G : am_G} {I : Nat → Nat → Int32} {J : Nat → Nat → Int64} {Q : am_O → am_H → Prop} (hR : q_RT G) (i1 : Int32) (H : ((¬ (I 59 25) = 3 → q_W β xs L d 125 20 [.ref 59, .int i1] [] (G, I, J) Q) ∧ ((I 59 25) = 3 → ((¬ (I 59 29) = i1 → q_W β xs L d 125 20 [.ref 59, .int i1] [] (G, I, J) Q) ∧ ((I 59 29) = i1 → q_W β xs L d 125 21 [.ref 59, .int i1] [.int 1] (G, I, J) Q))))) : q_W β xs L d 125 0 [.ref 59, .int i1] [] (G, I, J) Q := by
  refine w_al f_125_0 rfl ?_
  refine w_gi f_125_1 rfl ?_
  refine w_ic f_125_4 ?_
  refine w_icne f_125_5 (fun c => ?_) (fun c => ?_)
  · have H := H.1 c
    exact H
  · have H := H.2 c
    refine w_al f_125_8 rfl ?_
    refine w_gi f_125_9 rfl ?_
    refine w_il f_125_12 rfl ?_
    refine w_icne f_125_13 (fun c => ?_) (fun c => ?_)
    · have H := H.1 c
      exact H
    · have H := H.2 c
      refine w_ic f_125_16 ?_
      refine w_go f_125_17 ?_
      exact H
theorem g_125_20 {d : Nat} {G : am_G} {I : Nat → Nat → Int32} {J : Nat → Nat → Int64} {Q : am_O → am_H → Prop} (hR : q_RT G) (i1 : Int32) (H : q_W β xs L d 125 21 [.ref 59, .int i1] [.int 0] (G, I, J) Q) : q_W β xs L d 125 20 [.ref 59, .int i1] [] (G, I, J) Q := by
  refine w_ic f_125_20 ?_
  exact H
theorem g_125_21 {d : Nat} {G : am_G} {I : Nat → Nat → Int32} {J : Nat → Nat → Int64} {Q : am_O → am_H → Prop} (hR : q_RT G) (i1 : Int32) (is0 : Int32) (H : (((is0 : Int32) = 0 ∨ (is0 : Int32) = 1) ∧ Q (.inl (some (.int is0))) (G, I, J))) : q_W β xs L d 125 21 [.ref 59, .int i1] [.int is0] (G, I, J) Q := by
  exact w_retz f_125_21 H.1 H.2
theorem g_126_0 {d : Nat} {G : am_G} {I : Nat → Nat → Int32} {J : Nat → Nat → Int64} {Q : am_O → am_H → Prop} (hR : q_RT G) (i1 : Int32) (H : (am_is (I 59 33) 14600 = true ∧ Q (.inl none) (G, (am_u (am_u I 86 ((I 59 33)).toNatClampNeg i1) 59 33 ((I 59 33) + 1)), J))) : q_W β xs L d 126 0 [.ref 59, .int i1] [] (G, I, J) Q := by
  refine w_al f_126_0 rfl ?_
  refine w_gr f_126_1 rfl (hR _ _ _ rfl) ?_
  refine w_al f_126_4 rfl ?_
  refine w_gi f_126_5 rfl ?_
  refine w_il f_126_8 rfl ?_
  have hb := H.1
  have H := H.2
  refine w_ast f_126_9 rfl hb ?_
  refine w_al f_126_10 rfl ?_
  refine w_dupr f_126_11 ?_
  refine w_gi' f_126_12 rfl (am_u_ne (Or.inl (by decide))) ?_
  refine w_ic f_126_15 ?_
  refine w_bin f_126_16 ?_
  refine w_pi f_126_17 rfl ?_
  exact w_ret0 f_126_20 H
theorem g_127_0 {d : Nat} {G : am_G} {I : Nat → Nat → Int32} {J : Nat → Nat → Int64} {Q : am_O → am_H → Prop} (hR : q_RT G) (i0 : Int32) (H : ((¬ i0 = 12 → ((¬ i0 = 5 → ((¬ i0 = 4 → ((¬ i0 = 3 → ((i0 = 6 → q_W β xs L d 127 49 [.int i0] [] (G, I, J) Q) ∧ (¬ i0 = 6 → ((¬ i0 = 7 → ((i0 = 8 → q_W β xs L d 127 65 [.int i0] [] (G, I, J) Q) ∧ (¬ i0 = 8 → ((¬ i0 = 9 → q_W β xs L d 127 71 [.int i0] [.int 6] (G, I, J) Q) ∧ (i0 = 9 → q_W β xs L d 127 65 [.int i0] [] (G, I, J) Q))))) ∧ (i0 = 7 → q_W β xs L d 127 49 [.int i0] [] (G, I, J) Q))))) ∧ (i0 = 3 → q_W β xs L d 127 71 [.int i0] [.int 3] (G, I, J) Q))) ∧ (i0 = 4 → q_W β xs L d 127 71 [.int i0] [.int 2] (G, I, J) Q))) ∧ (i0 = 5 → q_W β xs L d 127 71 [.int i0] [.int 1] (G, I, J) Q))) ∧ (i0 = 12 → q_W β xs L d 127 71 [.int i0] [.int 0] (G, I, J) Q))) : q_W β xs L d 127 0 [.int i0] [] (G, I, J) Q := by
  refine w_il f_127_0 rfl ?_
  refine w_ic f_127_1 ?_
  refine w_icne f_127_3 (fun c => ?_) (fun c => ?_)
  · have H := H.1 c
    refine w_il f_127_10 rfl ?_
    refine w_ic f_127_11 ?_
    refine w_icne f_127_12 (fun c => ?_) (fun c => ?_)
    · have H := H.1 c
      refine w_il f_127_19 rfl ?_
      refine w_ic f_127_20 ?_
      refine w_icne f_127_21 (fun c => ?_) (fun c => ?_)
      · have H := H.1 c
        refine w_il f_127_28 rfl ?_
        refine w_ic f_127_29 ?_
        refine w_icne f_127_30 (fun c => ?_) (fun c => ?_)
        · have H := H.1 c
          refine w_il f_127_37 rfl ?_
          refine w_ic f_127_38 ?_
          refine w_iceq f_127_40 (fun c => ?_) (fun c => ?_)
          · have H := H.1 c
            exact H
          · have H := H.2 c
            refine w_il f_127_43 rfl ?_
            refine w_ic f_127_44 ?_
            refine w_icne f_127_46 (fun c => ?_) (fun c => ?_)
            · have H := H.1 c
              refine w_il f_127_53 rfl ?_
              refine w_ic f_127_54 ?_
              refine w_iceq f_127_56 (fun c => ?_) (fun c => ?_)
              · have H := H.1 c
                exact H
              · have H := H.2 c
                refine w_il f_127_59 rfl ?_
                refine w_ic f_127_60 ?_
                refine w_icne f_127_62 (fun c => ?_) (fun c => ?_)
                · have H := H.1 c
                  refine w_ic f_127_69 ?_
                  exact H
                · have H := H.2 c
                  exact H
            · have H := H.2 c
              exact H
        · have H := H.2 c
          refine w_ic f_127_33 ?_
          refine w_go f_127_34 ?_
          exact H
      · have H := H.2 c
        refine w_ic f_127_24 ?_
        refine w_go f_127_25 ?_
        exact H
    · have H := H.2 c
      refine w_ic f_127_15 ?_
      refine w_go f_127_16 ?_
      exact H
  · have H := H.2 c
    refine w_ic f_127_6 ?_
    refine w_go f_127_7 ?_
    exact H
theorem g_127_49 {d : Nat} {G : am_G} {I : Nat → Nat → Int32} {J : Nat → Nat → Int64} {Q : am_O → am_H → Prop} (hR : q_RT G) (i0 : Int32) (H : q_W β xs L d 127 71 [.int i0] [.int 4] (G, I, J) Q) : q_W β xs L d 127 49 [.int i0] [] (G, I, J) Q := by
  refine w_ic f_127_49 ?_
  refine w_go f_127_50 ?_
  exact H
theorem g_127_65 {d : Nat} {G : am_G} {I : Nat → Nat → Int32} {J : Nat → Nat → Int64} {Q : am_O → am_H → Prop} (hR : q_RT G) (i0 : Int32) (H : q_W β xs L d 127 71 [.int i0] [.int 5] (G, I, J) Q) : q_W β xs L d 127 65 [.int i0] [] (G, I, J) Q := by
  refine w_ic f_127_65 ?_
  refine w_go f_127_66 ?_
  exact H
theorem g_127_71 {d : Nat} {G : am_G} {I : Nat → Nat → Int32} {J : Nat → Nat → Int64} {Q : am_O → am_H → Prop} (hR : q_RT G) (i0 : Int32) (is0 : Int32) (H : Q (.inl (some (.int is0))) (G, I, J)) : q_W β xs L d 127 71 [.int i0] [.int is0] (G, I, J) Q := by
  exact w_reti f_127_71 H
theorem g_128_0 {d : Nat} {G : am_G} {I : Nat → Nat → Int32} {J : Nat → Nat → Int64} {Q : am_O → am_H → Prop} (hR : q_RT G) (i1 : Int32) (H : ((¬ 0 < (I 59 34) → q_W β xs L (d + 1) 128 67 [.ref 59, .int i1] [] (G, I, J) Q) ∧ (0 < (I 59 34) → (am_is ((I 59 34) - 1) 520 = true ∧ (((I 87 (((I 59 34) - 1)).toNatClampNeg) = 12 → q_W β xs L (d + 1) 128 67 [.ref 59, .int i1] [] (G, I, J) Q) ∧ (¬ (I 87 (((I 59 34) - 1)).toNatClampNeg) = 12 → (am_is ((I 59 34) - 1) 520 = true ∧ q_W β xs L d 127 0 [.int (I 87 (((I 59 34) - 1)).toNatClampNeg)] [] (G, I, J) (q_Ri (fun y1 G1 I1 J1 => (q_RT G1 ∧ ((y1 < i1 → q_W β xs L (d + 1) 128 67 [.ref 59, .int i1] [] (G1, I1, J1) Q) ∧ (¬ y1 < i1 → (am_is ((I1 59 34) - 1) 520 = true ∧ q_W β xs L d 126 0 [.ref 59, .int (I1 87 (((I1 59 34) - 1)).toNatClampNeg)] [] (G1, (am_u I1 59 34 ((I1 59 34) - 1)), J1) (q_Rv (fun G2 I2 J2 => q_W β xs L (d + 1) 128 0 [.ref 59, .int i1] [] (G2, I2, J2) Q) (fun x2 G2 I2 J2 => Q (.inr x2) (G2, I2, J2)))))))) (fun x1 G1 I1 J1 => Q (.inr x1) (G1, I1, J1)))))))))) : q_W β xs L (d + 1) 128 0 [.ref 59, .int i1] [] (G, I, J) Q := by
  refine w_al f_128_0 rfl ?_
  refine w_gi f_128_1 rfl ?_
  refine w_ifle f_128_4 (fun c => ?_) (fun c => ?_)
  · have H := H.1 c
    exact H
  · have H := H.2 c
    refine w_al f_128_7 rfl ?_
    refine w_gr f_128_8 rfl (hR _ _ _ rfl) ?_
    refine w_al f_128_11 rfl ?_
    refine w_gi f_128_12 rfl ?_
    refine w_ic f_128_15 ?_
    refine w_bin f_128_16 ?_
    have hb := H.1
    have H := H.2
    refine w_ald f_128_17 rfl hb ?_
    refine w_ic f_128_18 ?_
    refine w_iceq f_128_20 (fun c => ?_) (fun c => ?_)
    · have H := H.1 c
      exact H
    · have H := H.2 c
      refine w_al f_128_23 rfl ?_
      refine w_gr f_128_24 rfl (hR _ _ _ rfl) ?_
      refine w_al f_128_27 rfl ?_
      refine w_gi f_128_28 rfl ?_
      refine w_ic f_128_31 ?_
      refine w_bin f_128_32 ?_
      have hb := H.1
      have H := H.2
      refine w_ald f_128_33 rfl hb ?_
      refine w_invs (as := [.int (I 87 (((I 59 34) - 1)).toNatClampNeg)]) (st' := []) f_128_34 rfl rfl rfl rfl rfl H (k_i (fun y1 G1 I1 J1 H => ?_)) (x_n (fun _ => rfl) rfl (fun x h' h => h))
      have hR1 := H.1
      have H := H.2
      refine w_il f_128_37 rfl ?_
      refine w_iclt f_128_38 (fun c => ?_) (fun c => ?_)
      · have H := H.1 c
        exact H
      · have H := H.2 c
        refine w_al f_128_41 rfl ?_
        refine w_dupr f_128_42 ?_
        refine w_gi f_128_43 rfl ?_
        refine w_ic f_128_46 ?_
        refine w_bin f_128_47 ?_
        refine w_pi f_128_48 rfl ?_
        refine w_al f_128_51 rfl ?_
        refine w_al f_128_52 rfl ?_
        refine w_gr f_128_53 rfl (hR1 _ _ _ rfl) ?_
        refine w_al f_128_56 rfl ?_
        refine w_gi' f_128_57 rfl (am_u_same) ?_
        have hb := H.1
        have H := H.2
        refine w_ald' f_128_60 rfl hb (am_u_ne (Or.inl (by decide))) ?_
        refine w_inv (as := [.ref 59, .int (I1 87 (((I1 59 34) - 1)).toNatClampNeg)]) (st' := []) f_128_61 rfl rfl rfl rfl rfl rfl H (k_v (fun G2 I2 J2 H => ?_)) (x_n (fun _ => rfl) rfl (fun x h' h => h))
        refine w_go f_128_64 ?_
        exact H
theorem g_128_67 {d : Nat} {G : am_G} {I : Nat → Nat → Int32} {J : Nat → Nat → Int64} {Q : am_O → am_H → Prop} (hR : q_RT G) (i1 : Int32) (H : Q (.inl none) (G, I, J)) : q_W β xs L (d + 1) 128 67 [.ref 59, .int i1] [] (G, I, J) Q := by
  exact w_ret0 f_128_67 H
theorem g_129_0 {d : Nat} {G : am_G} {I : Nat → Nat → Int32} {J : Nat → Nat → Int64} {Q : am_O → am_H → Prop} (hR : q_RT G) (i1 : Int32) (H : (am_is (I 59 34) 520 = true ∧ Q (.inl none) (G, (am_u (am_u I 87 ((I 59 34)).toNatClampNeg i1) 59 34 ((I 59 34) + 1)), J))) : q_W β xs L d 129 0 [.ref 59, .int i1] [] (G, I, J) Q := by
  refine w_al f_129_0 rfl ?_
  refine w_gr f_129_1 rfl (hR _ _ _ rfl) ?_
  refine w_al f_129_4 rfl ?_
  refine w_gi f_129_5 rfl ?_
  refine w_il f_129_8 rfl ?_
  have hb := H.1
  have H := H.2
  refine w_ast f_129_9 rfl hb ?_
  refine w_al f_129_10 rfl ?_
  refine w_dupr f_129_11 ?_
  refine w_gi' f_129_12 rfl (am_u_ne (Or.inl (by decide))) ?_
  refine w_ic f_129_15 ?_
  refine w_bin f_129_16 ?_
  refine w_pi f_129_17 rfl ?_
  exact w_ret0 f_129_20 H
theorem g_130_0 {d : Nat} {G : am_G} {I : Nat → Nat → Int32} {J : Nat → Nat → Int64} {Q : am_O → am_H → Prop} (hR : q_RT G)  (H : q_W β xs L d 124 0 [.ref 59] [] (G, I, J) (q_Ri (fun y1 G1 I1 J1 => ((¬ y1 = 0 → ((¬ (I1 59 25) = 2 → ((¬ (I1 59 25) = 1 → q_W β xs L d 123 0 [.ref 59, .int 1] [] (G1, I1, J1) (q_Rv (fun G2 I2 J2 => q_W β xs L (d + 1) 130 90 [.ref 59, .retAddr 0] [] (G2, I2, J2) Q) (fun x2 G2 I2 J2 => Q (.inr x2) (G2, I2, J2)))) ∧ ((I1 59 25) = 1 → q_W β xs L d 122 0 [.ref 59, .retAddr 0] [] (G1, I1, J1) (q_Ri (fun y3 G3 I3 J3 => ((¬ y3 < 15 → q_W β xs L (d + 1) 130 69 [.ref 59, .int y3] [] (G3, I3, J3) Q) ∧ (y3 < 15 → q_W β xs L d 123 0 [.ref 59, .int 3] [] (G3, I3, J3) (q_Rv (fun G4 I4 J4 => q_W β xs L (d + 1) 130 69 [.ref 59, .int y3] [] (G4, I4, J4) Q) (fun x4 G4 I4 J4 => Q (.inr x4) (G4, I4, J4)))))) (fun x3 G3 I3 J3 => Q (.inr x3) (G3, I3, J3)))))) ∧ ((I1 59 25) = 2 → ((¬ 5 < (I1 59 27) → q_W β xs L (d + 1) 130 29 [.ref 59, .retAddr 0] [] (G1, I1, J1) Q) ∧ (5 < (I1 59 27) → q_W β xs L d 123 0 [.ref 59, .int 2] [] (G1, I1, J1) (q_Rv (fun G5 I5 J5 => q_W β xs L (d + 1) 130 29 [.ref 59, .retAddr 0] [] (G5, I5, J5) Q) (fun x5 G5 I5 J5 => Q (.inr x5) (G5, I5, J5)))))))) ∧ (y1 = 0 → Q (.inl none) (G1, I1, J1)))) (fun x1 G1 I1 J1 => Q (.inr x1) (G1, I1, J1)))) : q_W β xs L (d + 1) 130 0 [.ref 59, .retAddr 0] [] (G, I, J) Q := by
  refine w_al f_130_0 rfl ?_
  refine w_inv (as := [.ref 59]) (st' := []) f_130_1 rfl rfl rfl rfl rfl rfl H (k_i (fun y1 G1 I1 J1 H => ?_)) (x_n (fun _ => rfl) rfl (fun x h' h => h))
  refine w_ifne f_130_4 (fun c => ?_) (fun c => ?_)
  · have H := H.1 c
    refine w_al f_130_8 rfl ?_
    refine w_gi f_130_9 rfl ?_
    refine w_ic f_130_12 ?_
    refine w_icne f_130_13 (fun c => ?_) (fun c => ?_)
    · have H := H.1 c
      refine w_al f_130_45 rfl ?_
      refine w_gi f_130_46 rfl ?_
      refine w_ic f_130_49 ?_
      refine w_icne f_130_50 (fun c => ?_) (fun c => ?_)
      · have H := H.1 c
        refine w_al f_130_85 rfl ?_
        refine w_ic f_130_86 ?_
        refine w_inv (as := [.ref 59, .int 1]) (st' := []) f_130_87 rfl rfl rfl rfl rfl rfl H (k_v (fun G2 I2 J2 H => ?_)) (x_n (fun _ => rfl) rfl (fun x h' h => h))
        exact H
      · have H := H.2 c
        refine w_al f_130_53 rfl ?_
        refine w_inv (as := [.ref 59, .retAddr 0]) (st' := []) f_130_54 rfl rfl rfl rfl rfl rfl H (k_i (fun y3 G3 I3 J3 H => ?_)) (x_n (fun _ => rfl) rfl (fun x h' h => h))
        refine w_is (ls' := [.ref 59, .int y3]) f_130_57 rfl ?_
        refine w_il f_130_58 rfl ?_
        refine w_ic f_130_59 ?_
        refine w_icge f_130_61 (fun c => ?_) (fun c => ?_)
        · have H := H.1 c
          exact H
        · have H := H.2 c
          refine w_al f_130_64 rfl ?_
          refine w_ic f_130_65 ?_
          refine w_inv (as := [.ref 59, .int 3]) (st' := []) f_130_66 rfl rfl rfl rfl rfl rfl H (k_v (fun G4 I4 J4 H => ?_)) (x_n (fun _ => rfl) rfl (fun x h' h => h))
          exact H
    · have H := H.2 c
      refine w_al f_130_16 rfl ?_
      refine w_gi f_130_17 rfl ?_
      refine w_ic f_130_20 ?_
      refine w_icle f_130_21 (fun c => ?_) (fun c => ?_)
      · have H := H.1 c
        exact H
      · have H := H.2 c
        refine w_al f_130_24 rfl ?_
        refine w_ic f_130_25 ?_
        refine w_inv (as := [.ref 59, .int 2]) (st' := []) f_130_26 rfl rfl rfl rfl rfl rfl H (k_v (fun G5 I5 J5 H => ?_)) (x_n (fun _ => rfl) rfl (fun x h' h => h))
        exact H
  · have H := H.2 c
    exact w_ret0 f_130_7 H
theorem g_130_29 {d : Nat} {G : am_G} {I : Nat → Nat → Int32} {J : Nat → Nat → Int64} {Q : am_O → am_H → Prop} (hR : q_RT G)  (H : q_W β xs L d 126 0 [.ref 59, .int 1] [] (G, I, J) (q_Rv (fun G1 I1 J1 => q_W β xs L d 126 0 [.ref 59, .int (I1 59 28)] [] (G1, I1, J1) (q_Rv (fun G2 I2 J2 => q_W β xs L (d + 1) 130 90 [.ref 59, .retAddr 0] [] (G2, I2, J2) Q) (fun x2 G2 I2 J2 => Q (.inr x2) (G2, I2, J2)))) (fun x1 G1 I1 J1 => Q (.inr x1) (G1, I1, J1)))) : q_W β xs L (d + 1) 130 29 [.ref 59, .retAddr 0] [] (G, I, J) Q := by
  refine w_al f_130_29 rfl ?_
  refine w_ic f_130_30 ?_
  refine w_inv (as := [.ref 59, .int 1]) (st' := []) f_130_31 rfl rfl rfl rfl rfl rfl H (k_v (fun G1 I1 J1 H => ?_)) (x_n (fun _ => rfl) rfl (fun x h' h => h))
  refine w_al f_130_34 rfl ?_
  refine w_al f_130_35 rfl ?_
  refine w_gi f_130_36 rfl ?_
  refine w_inv (as := [.ref 59, .int (I1 59 28)]) (st' := []) f_130_39 rfl rfl rfl rfl rfl rfl H (k_v (fun G2 I2 J2 H => ?_)) (x_n (fun _ => rfl) rfl (fun x h' h => h))
  refine w_go f_130_42 ?_
  exact H
theorem g_130_69 {d : Nat} {G : am_G} {I : Nat → Nat → Int32} {J : Nat → Nat → Int64} {Q : am_O → am_H → Prop} (hR : q_RT G) (i1 : Int32) (H : q_W β xs L d 126 0 [.ref 59, .int 2] [] (G, I, J) (q_Rv (fun G1 I1 J1 => q_W β xs L d 126 0 [.ref 59, .int (i1 - 15)] [] (G1, I1, J1) (q_Rv (fun G2 I2 J2 => q_W β xs L (d + 1) 130 90 [.ref 59, .int i1] [] (G2, I2, J2) Q) (fun x2 G2 I2 J2 => Q (.inr x2) (G2, I2, J2)))) (fun x1 G1 I1 J1 => Q (.inr x1) (G1, I1, J1)))) : q_W β xs L (d + 1) 130 69 [.ref 59, .int i1] [] (G, I, J) Q := by
  refine w_al f_130_69 rfl ?_
  refine w_ic f_130_70 ?_
  refine w_inv (as := [.ref 59, .int 2]) (st' := []) f_130_71 rfl rfl rfl rfl rfl rfl H (k_v (fun G1 I1 J1 H => ?_)) (x_n (fun _ => rfl) rfl (fun x h' h => h))
  refine w_al f_130_74 rfl ?_
  refine w_il f_130_75 rfl ?_
  refine w_ic f_130_76 ?_
  refine w_bin f_130_78 ?_
  refine w_inv (as := [.ref 59, .int (i1 - 15)]) (st' := []) f_130_79 rfl rfl rfl rfl rfl rfl H (k_v (fun G2 I2 J2 H => ?_)) (x_n (fun _ => rfl) rfl (fun x h' h => h))
  refine w_go f_130_82 ?_
  exact H
theorem g_130_90 {d : Nat} {G : am_G} {I : Nat → Nat → Int32} {J : Nat → Nat → Int64} {Q : am_O → am_H → Prop} (hR : q_RT G) (v1 : Value) (n1 : am_nl v1 = true) (H : q_W β xs L d 124 0 [.ref 59] [] (G, I, J) (q_Ri (fun y1 G1 I1 J1 => ((y1 = 0 → q_W β xs L (d + 1) 130 101 [.ref 59, v1] [] (G1, I1, J1) Q) ∧ (¬ y1 = 0 → q_W β xs L d 119 0 [.ref 59, .retAddr 0] [] (G1, I1, J1) (q_Rv (fun G2 I2 J2 => q_W β xs L (d + 1) 130 101 [.ref 59, v1] [] (G2, I2, J2) Q) (fun x2 G2 I2 J2 => Q (.inr x2) (G2, I2, J2)))))) (fun x1 G1 I1 J1 => Q (.inr x1) (G1, I1, J1)))) : q_W β xs L (d + 1) 130 90 [.ref 59, v1] [] (G, I, J) Q := by
  refine w_al f_130_90 rfl ?_
  refine w_inv (as := [.ref 59]) (st' := []) f_130_91 rfl rfl rfl rfl rfl rfl H (k_i (fun y1 G1 I1 J1 H => ?_)) (x_n (fun _ => rfl) rfl (fun x h' h => h))
  refine w_ifeq f_130_94 (fun c => ?_) (fun c => ?_)
  · have H := H.1 c
    exact H
  · have H := H.2 c
    refine w_al f_130_97 rfl ?_
    refine w_inv (as := [.ref 59, .retAddr 0]) (st' := []) f_130_98 rfl rfl rfl rfl rfl rfl H (k_v (fun G2 I2 J2 H => ?_)) (x_n (fun _ => rfl) rfl (fun x h' h => h))
    exact H
theorem g_130_101 {d : Nat} {G : am_G} {I : Nat → Nat → Int32} {J : Nat → Nat → Int64} {Q : am_O → am_H → Prop} (hR : q_RT G) (v1 : Value) (n1 : am_nl v1 = true) (H : Q (.inl none) (G, I, J)) : q_W β xs L (d + 1) 130 101 [.ref 59, v1] [] (G, I, J) Q := by
  exact w_ret0 f_130_101 H
theorem g_131_0 {d : Nat} {G : am_G} {I : Nat → Nat → Int32} {J : Nat → Nat → Int64} {Q : am_O → am_H → Prop} (hR : q_RT G)  (H : ((¬ (I 59 35) < 6 → (((I 59 25) = 2 → q_W β xs L (d + 1) 131 56 [.ref 59] [.ref 59] (G, I, J) Q) ∧ (¬ (I 59 25) = 2 → (((I 59 25) = 1 → q_W β xs L (d + 1) 131 56 [.ref 59] [.ref 59] (G, I, J) Q) ∧ (¬ (I 59 25) = 1 → q_W β xs L d 125 0 [.ref 59, .int 40] [] (G, I, J) (q_Ri (fun y1 G1 I1 J1 => ((y1 = 0 → q_W β xs L (d + 1) 131 61 [.ref 59] [.int 1, .ref 59] (G1, I1, J1) Q) ∧ (¬ y1 = 0 → q_W β xs L (d + 1) 131 56 [.ref 59] [.ref 59] (G1, I1, J1) Q))) (fun x1 G1 I1 J1 => Q (.inr x1) (G1, I1, J1)))))))) ∧ ((I 59 35) < 6 → (am_is ((I 59 35) + 1) 9 = true ∧ Q (.inl none) (G, (am_u (am_u I 59 35 ((I 59 35) + 1)) 88 (((I 59 35) + 1)).toNatClampNeg ((vp_nar .boolean) 0)), J))))) : q_W β xs L (d + 1) 131 0 [.ref 59] [] (G, I, J) Q := by
  refine w_al f_131_0 rfl ?_
  refine w_gi f_131_1 rfl ?_
  refine w_ic f_131_4 ?_
  refine w_icge f_131_6 (fun c => ?_) (fun c => ?_)
  · have H := H.1 c
    refine w_al f_131_30 rfl ?_
    refine w_al f_131_31 rfl ?_
    refine w_gi f_131_32 rfl ?_
    refine w_ic f_131_35 ?_
    refine w_iceq f_131_36 (fun c => ?_) (fun c => ?_)
    · have H := H.1 c
      exact H
    · have H := H.2 c
      refine w_al f_131_39 rfl ?_
      refine w_gi f_131_40 rfl ?_
      refine w_ic f_131_43 ?_
      refine w_iceq f_131_44 (fun c => ?_) (fun c => ?_)
      · have H := H.1 c
        exact H
      · have H := H.2 c
        refine w_al f_131_47 rfl ?_
        refine w_ic f_131_48 ?_
        refine w_inv (as := [.ref 59, .int 40]) (st' := [.ref 59]) f_131_50 rfl rfl rfl rfl rfl rfl H (k_i (fun y1 G1 I1 J1 H => ?_)) (x_n (fun _ => rfl) rfl (fun x h' h => h))
        refine w_ifeq f_131_53 (fun c => ?_) (fun c => ?_)
        · have H := H.1 c
          refine w_ic f_131_60 ?_
          exact H
        · have H := H.2 c
          exact H
  · have H := H.2 c
    refine w_al f_131_9 rfl ?_
    refine w_dupr f_131_10 ?_
    refine w_gi f_131_11 rfl ?_
    refine w_ic f_131_14 ?_
    refine w_bin f_131_15 ?_
    refine w_pi f_131_16 rfl ?_
    refine w_al f_131_19 rfl ?_
    refine w_gr f_131_20 rfl (hR _ _ _ rfl) ?_
    refine w_al f_131_23 rfl ?_
    refine w_gi' f_131_24 rfl (am_u_same) ?_
    refine w_ic f_131_27 ?_
    have hb := H.1
    have H := H.2
    refine w_ast f_131_28 rfl hb ?_
    exact w_ret0 f_131_29 H
theorem g_131_56 {d : Nat} {G : am_G} {I : Nat → Nat → Int32} {J : Nat → Nat → Int64} {Q : am_O → am_H → Prop} (hR : q_RT G)  (H : q_W β xs L (d + 1) 131 61 [.ref 59] [.int 2, .ref 59] (G, I, J) Q) : q_W β xs L (d + 1) 131 56 [.ref 59] [.ref 59] (G, I, J) Q := by
  refine w_ic f_131_56 ?_
  refine w_go f_131_57 ?_
  exact H
theorem g_131_61 {d : Nat} {G : am_G} {I : Nat → Nat → Int32} {J : Nat → Nat → Int64} {Q : am_O → am_H → Prop} (hR : q_RT G) (is0 : Int32) (H : q_W β xs L d 123 0 [.ref 59, .int is0] [] (G, I, J) (q_Rv (fun G1 I1 J1 => Q (.inl none) (G1, I1, J1)) (fun x1 G1 I1 J1 => Q (.inr x1) (G1, I1, J1)))) : q_W β xs L (d + 1) 131 61 [.ref 59] [.int is0, .ref 59] (G, I, J) Q := by
  refine w_inv (as := [.ref 59, .int is0]) (st' := []) f_131_61 rfl rfl rfl rfl rfl rfl H (k_v (fun G1 I1 J1 H => ?_)) (x_n (fun _ => rfl) rfl (fun x h' h => h))
  exact w_ret0 f_131_64 H
theorem g_132_0 {d : Nat} {G : am_G} {I : Nat → Nat → Int32} {J : Nat → Nat → Int64} {Q : am_O → am_H → Prop} (hR : q_RT G) (i1 : Int32) (H : q_W β xs L (d + 1) 132 4 [.ref 59, .int i1, .int i1, .int 1, .retAddr 0] [] (G, I, J) Q) : q_W β xs L (d + 1) 132 0 [.ref 59, .int i1, .retAddr 0, .retAddr 0, .retAddr 0] [] (G, I, J) Q := by
  refine w_il f_132_0 rfl ?_
  refine w_is (ls' := [.ref 59, .int i1, .int i1, .retAddr 0, .retAddr 0]) f_132_1 rfl ?_
  refine w_ic f_132_2 ?_
  refine w_is (ls' := [.ref 59, .int i1, .int i1, .int 1, .retAddr 0]) f_132_3 rfl ?_
  exact H
theorem g_132_4 {d : Nat} {G : am_G} {I : Nat → Nat → Int32} {J : Nat → Nat → Int64} {Q : am_O → am_H → Prop} (hR : q_RT G) (i1 : Int32) (i2 : Int32) (i3 : Int32) (v4 : Value) (n4 : am_nl v4 = true) (H : ((i3 = 0 → q_W β xs L (d + 1) 132 120 [.ref 59, .int i1, .int i2, .int i3, v4] [] (G, I, J) Q) ∧ (¬ i3 = 0 → q_W β xs L d 124 0 [.ref 59] [] (G, I, J) (q_Ri (fun y1 G1 I1 J1 => ((y1 = 0 → q_W β xs L (d + 1) 132 120 [.ref 59, .int i1, .int i2, .int i3, v4] [] (G1, I1, J1) Q) ∧ (¬ y1 = 0 → q_W β xs L (d + 1) 132 18 [.ref 59, .int i1, .int i2, .int i3, .int 0] [] (G1, I1, J1) Q))) (fun x1 G1 I1 J1 => Q (.inr x1) (G1, I1, J1)))))) : q_W β xs L (d + 1) 132 4 [.ref 59, .int i1, .int i2, .int i3, v4] [] (G, I, J) Q := by
  refine w_il f_132_4 rfl ?_
  refine w_ifeq f_132_5 (fun c => ?_) (fun c => ?_)
  · have H := H.1 c
    exact H
  · have H := H.2 c
    refine w_al f_132_8 rfl ?_
    refine w_inv (as := [.ref 59]) (st' := []) f_132_9 rfl rfl rfl rfl rfl rfl H (k_i (fun y1 G1 I1 J1 H => ?_)) (x_n (fun _ => rfl) rfl (fun x h' h => h))
    refine w_ifeq f_132_12 (fun c => ?_) (fun c => ?_)
    · have H := H.1 c
      exact H
    · have H := H.2 c
      refine w_ic f_132_15 ?_
      refine w_is (ls' := [.ref 59, .int i1, .int i2, .int i3, .int 0]) f_132_16 rfl ?_
      exact H
theorem g_132_18 {d : Nat} {G : am_G} {I : Nat → Nat → Int32} {J : Nat → Nat → Int64} {Q : am_O → am_H → Prop} (hR : q_RT G) (i1 : Int32) (i2 : Int32) (i3 : Int32) (i4 : Int32) (H : q_W β xs L d 124 0 [.ref 59] [] (G, I, J) (q_Ri (fun y1 G1 I1 J1 => ((y1 = 0 → q_W β xs L (d + 1) 132 75 [.ref 59, .int i1, .int i2, .int i3, .int i4] [] (G1, I1, J1) Q) ∧ (¬ y1 = 0 → ((i2 = 0 → q_W β xs L (d + 1) 132 75 [.ref 59, .int i1, .int i2, .int i3, .int i4] [] (G1, I1, J1) Q) ∧ (¬ i2 = 0 → q_W β xs L d 122 0 [.ref 59, .retAddr 0] [] (G1, I1, J1) (q_Ri (fun y2 G2 I2 J2 => ((¬ y2 = 7 → q_W β xs L (d + 1) 132 75 [.ref 59, .int i1, .int i2, .int i3, .int i4] [] (G2, I2, J2) Q) ∧ (y2 = 7 → ((¬ i4 = 6 → q_W β xs L (d + 1) 132 50 [.ref 59, .int i1, .int i2, .int i3, .int i4] [] (G2, I2, J2) Q) ∧ (i4 = 6 → q_W β xs L d 123 0 [.ref 59, .int 2] [] (G2, I2, J2) (q_Rv (fun G3 I3 J3 => q_W β xs L (d + 1) 132 50 [.ref 59, .int i1, .int i2, .int i3, .int i4] [] (G3, I3, J3) Q) (fun x3 G3 I3 J3 => Q (.inr x3) (G3, I3, J3)))))))) (fun x2 G2 I2 J2 => Q (.inr x2) (G2, I2, J2)))))))) (fun x1 G1 I1 J1 => Q (.inr x1) (G1, I1, J1)))) : q_W β xs L (d + 1) 132 18 [.ref 59, .int i1, .int i2, .int i3, .int i4] [] (G, I, J) Q := by
  refine w_al f_132_18 rfl ?_
  refine w_inv (as := [.ref 59]) (st' := []) f_132_19 rfl rfl rfl rfl rfl rfl H (k_i (fun y1 G1 I1 J1 H => ?_)) (x_n (fun _ => rfl) rfl (fun x h' h => h))
  refine w_ifeq f_132_22 (fun c => ?_) (fun c => ?_)
  · have H := H.1 c
    exact H
  · have H := H.2 c
    refine w_il f_132_25 rfl ?_
    refine w_ifeq f_132_26 (fun c => ?_) (fun c => ?_)
    · have H := H.1 c
      exact H
    · have H := H.2 c
      refine w_al f_132_29 rfl ?_
      refine w_inv (as := [.ref 59, .retAddr 0]) (st' := []) f_132_30 rfl rfl rfl rfl rfl rfl H (k_i (fun y2 G2 I2 J2 H => ?_)) (x_n (fun _ => rfl) rfl (fun x h' h => h))
      refine w_ic f_132_33 ?_
      refine w_icne f_132_35 (fun c => ?_) (fun c => ?_)
      · have H := H.1 c
        exact H
      · have H := H.2 c
        refine w_il f_132_38 rfl ?_
        refine w_ic f_132_40 ?_
        refine w_icne f_132_42 (fun c => ?_) (fun c => ?_)
        · have H := H.1 c
          exact H
        · have H := H.2 c
          refine w_al f_132_45 rfl ?_
          refine w_ic f_132_46 ?_
          refine w_inv (as := [.ref 59, .int 2]) (st' := []) f_132_47 rfl rfl rfl rfl rfl rfl H (k_v (fun G3 I3 J3 H => ?_)) (x_n (fun _ => rfl) rfl (fun x h' h => h))
          exact H
theorem g_132_50 {d : Nat} {G : am_G} {I : Nat → Nat → Int32} {J : Nat → Nat → Int64} {Q : am_O → am_H → Prop} (hR : q_RT G) (i1 : Int32) (i2 : Int32) (i3 : Int32) (i4 : Int32) (H : q_W β xs L d 124 0 [.ref 59] [] (G, I, J) (q_Ri (fun y1 G1 I1 J1 => ((¬ y1 = 0 → q_W β xs L d 129 0 [.ref 59, .int 3] [] (G1, I1, J1) (q_Rv (fun G2 I2 J2 => q_W β xs L d 119 0 [.ref 59, .retAddr 0] [] (G2, I2, J2) (q_Rv (fun G3 I3 J3 => q_W β xs L (d + 1) 132 18 [.ref 59, .int i1, .int i2, .int i3, .int (i4 + 1)] [] (G3, I3, J3) Q) (fun x3 G3 I3 J3 => Q (.inr x3) (G3, I3, J3)))) (fun x2 G2 I2 J2 => Q (.inr x2) (G2, I2, J2)))) ∧ (y1 = 0 → q_W β xs L (d + 1) 132 18 [.ref 59, .int i1, .int i2, .int i3, .int (i4 + 1)] [] (G1, I1, J1) Q))) (fun x1 G1 I1 J1 => Q (.inr x1) (G1, I1, J1)))) : q_W β xs L (d + 1) 132 50 [.ref 59, .int i1, .int i2, .int i3, .int i4] [] (G, I, J) Q := by
  refine w_iinc (ls' := [.ref 59, .int i1, .int i2, .int i3, .int (i4 + 1)]) f_132_50 rfl rfl ?_
  refine w_al f_132_53 rfl ?_
  refine w_inv (as := [.ref 59]) (st' := []) f_132_54 rfl rfl rfl rfl rfl rfl H (k_i (fun y1 G1 I1 J1 H => ?_)) (x_n (fun _ => rfl) rfl (fun x h' h => h))
  refine w_ifne f_132_57 (fun c => ?_) (fun c => ?_)
  · have H := H.1 c
    refine w_al f_132_63 rfl ?_
    refine w_ic f_132_64 ?_
    refine w_inv (as := [.ref 59, .int 3]) (st' := []) f_132_65 rfl rfl rfl rfl rfl rfl H (k_v (fun G2 I2 J2 H => ?_)) (x_n (fun _ => rfl) rfl (fun x h' h => h))
    refine w_al f_132_68 rfl ?_
    refine w_inv (as := [.ref 59, .retAddr 0]) (st' := []) f_132_69 rfl rfl rfl rfl rfl rfl H (k_v (fun G3 I3 J3 H => ?_)) (x_n (fun _ => rfl) rfl (fun x h' h => h))
    refine w_go f_132_72 ?_
    exact H
  · have H := H.2 c
    refine w_go f_132_60 ?_
    exact H
theorem g_132_75 {d : Nat} {G : am_G} {I : Nat → Nat → Int32} {J : Nat → Nat → Int64} {Q : am_O → am_H → Prop} (hR : q_RT G) (i1 : Int32) (i2 : Int32) (i3 : Int32) (i4 : Int32) (H : q_W β xs L d 124 0 [.ref 59] [] (G, I, J) (q_Ri (fun y1 G1 I1 J1 => ((y1 = 0 → q_W β xs L (d + 1) 132 95 [.ref 59, .int i1, .int i2, .int i3, .int i4] [] (G1, I1, J1) Q) ∧ (¬ y1 = 0 → q_W β xs L d 125 0 [.ref 59, .int 40] [] (G1, I1, J1) (q_Ri (fun y2 G2 I2 J2 => ((y2 = 0 → q_W β xs L (d + 1) 132 95 [.ref 59, .int i1, .int i2, .int i3, .int i4] [] (G2, I2, J2) Q) ∧ (¬ y2 = 0 → q_W β xs L (d + 1) 132 96 [.ref 59, .int i1, .int i2, .int i3, .int i4] [.int 1] (G2, I2, J2) Q))) (fun x2 G2 I2 J2 => Q (.inr x2) (G2, I2, J2)))))) (fun x1 G1 I1 J1 => Q (.inr x1) (G1, I1, J1)))) : q_W β xs L (d + 1) 132 75 [.ref 59, .int i1, .int i2, .int i3, .int i4] [] (G, I, J) Q := by
  refine w_al f_132_75 rfl ?_
  refine w_inv (as := [.ref 59]) (st' := []) f_132_76 rfl rfl rfl rfl rfl rfl H (k_i (fun y1 G1 I1 J1 H => ?_)) (x_n (fun _ => rfl) rfl (fun x h' h => h))
  refine w_ifeq f_132_79 (fun c => ?_) (fun c => ?_)
  · have H := H.1 c
    exact H
  · have H := H.2 c
    refine w_al f_132_82 rfl ?_
    refine w_ic f_132_83 ?_
    refine w_inv (as := [.ref 59, .int 40]) (st' := []) f_132_85 rfl rfl rfl rfl rfl rfl H (k_i (fun y2 G2 I2 J2 H => ?_)) (x_n (fun _ => rfl) rfl (fun x h' h => h))
    refine w_ifeq f_132_88 (fun c => ?_) (fun c => ?_)
    · have H := H.1 c
      exact H
    · have H := H.2 c
      refine w_ic f_132_91 ?_
      refine w_go f_132_92 ?_
      exact H
theorem g_132_95 {d : Nat} {G : am_G} {I : Nat → Nat → Int32} {J : Nat → Nat → Int64} {Q : am_O → am_H → Prop} (hR : q_RT G) (i1 : Int32) (i2 : Int32) (i3 : Int32) (i4 : Int32) (H : q_W β xs L (d + 1) 132 96 [.ref 59, .int i1, .int i2, .int i3, .int i4] [.int 0] (G, I, J) Q) : q_W β xs L (d + 1) 132 95 [.ref 59, .int i1, .int i2, .int i3, .int i4] [] (G, I, J) Q := by
  refine w_ic f_132_95 ?_
  exact H
theorem g_132_96 {d : Nat} {G : am_G} {I : Nat → Nat → Int32} {J : Nat → Nat → Int64} {Q : am_O → am_H → Prop} (hR : q_RT G) (i1 : Int32) (i2 : Int32) (i3 : Int32) (i4 : Int32) (is0 : Int32) (H : ((is0 = 0 → q_W β xs L (d + 1) 132 117 [.ref 59, .int i1, .int i2, .int is0, .int i4] [] (G, I, J) Q) ∧ (¬ is0 = 0 → q_W β xs L d 129 0 [.ref 59, .int 12] [] (G, I, J) (q_Rv (fun G1 I1 J1 => q_W β xs L d 119 0 [.ref 59, .retAddr 0] [] (G1, I1, J1) (q_Rv (fun G2 I2 J2 => q_W β xs L d 131 0 [.ref 59] [] (G2, I2, J2) (q_Rv (fun G3 I3 J3 => q_W β xs L (d + 1) 132 117 [.ref 59, .int i1, .int 1, .int is0, .int i4] [] (G3, I3, J3) Q) (fun x3 G3 I3 J3 => Q (.inr x3) (G3, I3, J3)))) (fun x2 G2 I2 J2 => Q (.inr x2) (G2, I2, J2)))) (fun x1 G1 I1 J1 => Q (.inr x1) (G1, I1, J1)))))) : q_W β xs L (d + 1) 132 96 [.ref 59, .int i1, .int i2, .int i3, .int i4] [.int is0] (G, I, J) Q := by
  refine w_is (ls' := [.ref 59, .int i1, .int i2, .int is0, .int i4]) f_132_96 rfl ?_
  refine w_il f_132_97 rfl ?_
  refine w_ifeq f_132_98 (fun c => ?_) (fun c => ?_)
  · have H := H.1 c
    exact H
  · have H := H.2 c
    refine w_al f_132_101 rfl ?_
    refine w_ic f_132_102 ?_
    refine w_inv (as := [.ref 59, .int 12]) (st' := []) f_132_104 rfl rfl rfl rfl rfl rfl H (k_v (fun G1 I1 J1 H => ?_)) (x_n (fun _ => rfl) rfl (fun x h' h => h))
    refine w_al f_132_107 rfl ?_
    refine w_inv (as := [.ref 59, .retAddr 0]) (st' := []) f_132_108 rfl rfl rfl rfl rfl rfl H (k_v (fun G2 I2 J2 H => ?_)) (x_n (fun _ => rfl) rfl (fun x h' h => h))
    refine w_al f_132_111 rfl ?_
    refine w_inv (as := [.ref 59]) (st' := []) f_132_112 rfl rfl rfl rfl rfl rfl H (k_v (fun G3 I3 J3 H => ?_)) (x_n (fun _ => rfl) rfl (fun x h' h => h))
    refine w_ic f_132_115 ?_
    refine w_is (ls' := [.ref 59, .int i1, .int 1, .int is0, .int i4]) f_132_116 rfl ?_
    exact H
theorem g_132_117 {d : Nat} {G : am_G} {I : Nat → Nat → Int32} {J : Nat → Nat → Int64} {Q : am_O → am_H → Prop} (hR : q_RT G) (i1 : Int32) (i2 : Int32) (i3 : Int32) (i4 : Int32) (H : q_W β xs L (d + 1) 132 4 [.ref 59, .int i1, .int i2, .int i3, .int i4] [] (G, I, J) Q) : q_W β xs L (d + 1) 132 117 [.ref 59, .int i1, .int i2, .int i3, .int i4] [] (G, I, J) Q := by
  refine w_go f_132_117 ?_
  exact H
theorem g_132_120 {d : Nat} {G : am_G} {I : Nat → Nat → Int32} {J : Nat → Nat → Int64} {Q : am_O → am_H → Prop} (hR : q_RT G) (i1 : Int32) (i2 : Int32) (i3 : Int32) (v4 : Value) (n4 : am_nl v4 = true) (H : q_W β xs L d 130 0 [.ref 59, .retAddr 0] [] (G, I, J) (q_Rv (fun G1 I1 J1 => Q (.inl none) (G1, I1, J1)) (fun x1 G1 I1 J1 => Q (.inr x1) (G1, I1, J1)))) : q_W β xs L (d + 1) 132 120 [.ref 59, .int i1, .int i2, .int i3, v4] [] (G, I, J) Q := by
  refine w_al f_132_120 rfl ?_
  refine w_inv (as := [.ref 59, .retAddr 0]) (st' := []) f_132_121 rfl rfl rfl rfl rfl rfl H (k_v (fun G1 I1 J1 H => ?_)) (x_n (fun _ => rfl) rfl (fun x h' h => h))
  exact w_ret0 f_132_124 H
theorem g_133_0 {d : Nat} {G : am_G} {I : Nat → Nat → Int32} {J : Nat → Nat → Int64} {Q : am_O → am_H → Prop} (hR : q_RT G)  (H : q_W β xs L d 124 0 [.ref 59] [] (G, I, J) (q_Ri (fun y1 G1 I1 J1 => ((¬ y1 = 0 → q_W β xs L d 131 0 [.ref 59] [] (G1, (am_u (am_u I1 59 34 0) 59 35 0), J1) (q_Rv (fun G2 I2 J2 => q_W β xs L d 132 0 [.ref 59, .int 1, .retAddr 0, .retAddr 0, .retAddr 0] [] (G2, I2, J2) (q_Rv (fun G3 I3 J3 => q_W β xs L (d + 1) 133 35 [.ref 59, .int (I 59 33), .int 1, .retAddr 0] [] (G3, I3, J3) Q) (fun x3 G3 I3 J3 => Q (.inr x3) (G3, I3, J3)))) (fun x2 G2 I2 J2 => Q (.inr x2) (G2, I2, J2)))) ∧ (y1 = 0 → Q (.inl (some (.int (I 59 33)))) (G1, I1, J1)))) (fun x1 G1 I1 J1 => Q (.inr x1) (G1, I1, J1)))) : q_W β xs L (d + 1) 133 0 [.ref 59, .retAddr 0, .retAddr 0, .retAddr 0] [] (G, I, J) Q := by
  refine w_al f_133_0 rfl ?_
  refine w_gi f_133_1 rfl ?_
  refine w_is (ls' := [.ref 59, .int (I 59 33), .retAddr 0, .retAddr 0]) f_133_4 rfl ?_
  refine w_al f_133_5 rfl ?_
  refine w_inv (as := [.ref 59]) (st' := []) f_133_6 rfl rfl rfl rfl rfl rfl H (k_i (fun y1 G1 I1 J1 H => ?_)) (x_n (fun _ => rfl) rfl (fun x h' h => h))
  refine w_ifne f_133_9 (fun c => ?_) (fun c => ?_)
  · have H := H.1 c
    refine w_al f_133_14 rfl ?_
    refine w_ic f_133_15 ?_
    refine w_pi f_133_16 rfl ?_
    refine w_al f_133_19 rfl ?_
    refine w_ic f_133_20 ?_
    refine w_pi f_133_21 rfl ?_
    refine w_al f_133_24 rfl ?_
    refine w_inv (as := [.ref 59]) (st' := []) f_133_25 rfl rfl rfl rfl rfl rfl H (k_v (fun G2 I2 J2 H => ?_)) (x_n (fun _ => rfl) rfl (fun x h' h => h))
    refine w_al f_133_28 rfl ?_
    refine w_ic f_133_29 ?_
    refine w_inv (as := [.ref 59, .int 1, .retAddr 0, .retAddr 0, .retAddr 0]) (st' := []) f_133_30 rfl rfl rfl rfl rfl rfl H (k_v (fun G3 I3 J3 H => ?_)) (x_n (fun _ => rfl) rfl (fun x h' h => h))
    refine w_ic f_133_33 ?_
    refine w_is (ls' := [.ref 59, .int (I 59 33), .int 1, .retAddr 0]) f_133_34 rfl ?_
    exact H
  · have H := H.2 c
    refine w_il f_133_12 rfl ?_
    exact w_reti f_133_13 H
theorem g_133_35 {d : Nat} {G : am_G} {I : Nat → Nat → Int32} {J : Nat → Nat → Int64} {Q : am_O → am_H → Prop} (hR : q_RT G) (i1 : Int32) (i2 : Int32) (v3 : Value) (n3 : am_nl v3 = true) (H : ((i2 = 0 → q_W β xs L (d + 1) 133 354 [.ref 59, .int i1, .int i2, v3] [] (G, I, J) Q) ∧ (¬ i2 = 0 → q_W β xs L d 124 0 [.ref 59] [] (G, I, J) (q_Ri (fun y1 G1 I1 J1 => ((y1 = 0 → q_W β xs L (d + 1) 133 354 [.ref 59, .int i1, .int i2, v3] [] (G1, I1, J1) Q) ∧ (¬ y1 = 0 → q_W β xs L d 122 0 [.ref 59, .retAddr 0] [] (G1, I1, J1) (q_Ri (fun y2 G2 I2 J2 => ((y2 = 5 → q_W β xs L (d + 1) 133 62 [.ref 59, .int i1, .int i2, .int y2] [] (G2, I2, J2) Q) ∧ (¬ y2 = 5 → ((¬ y2 = 6 → q_W β xs L d 125 0 [.ref 59, .int 60] [] (G2, I2, J2) (q_Ri (fun y3 G3 I3 J3 => ((¬ y3 = 0 → q_W β xs L (d + 1) 133 130 [.ref 59, .int i1, .int i2, .int y2] [] (G3, I3, J3) Q) ∧ (y3 = 0 → q_W β xs L d 125 0 [.ref 59, .int 61] [] (G3, I3, J3) (q_Ri (fun y4 G4 I4 J4 => ((y4 = 0 → q_W β xs L (d + 1) 133 189 [.ref 59, .int i1, .int i2, .int y2] [] (G4, I4, J4) Q) ∧ (¬ y4 = 0 → q_W β xs L (d + 1) 133 130 [.ref 59, .int i1, .int i2, .int y2] [] (G4, I4, J4) Q))) (fun x4 G4 I4 J4 => Q (.inr x4) (G4, I4, J4)))))) (fun x3 G3 I3 J3 => Q (.inr x3) (G3, I3, J3)))) ∧ (y2 = 6 → q_W β xs L (d + 1) 133 62 [.ref 59, .int i1, .int i2, .int y2] [] (G2, I2, J2) Q))))) (fun x2 G2 I2 J2 => Q (.inr x2) (G2, I2, J2)))))) (fun x1 G1 I1 J1 => Q (.inr x1) (G1, I1, J1)))))) : q_W β xs L (d + 1) 133 35 [.ref 59, .int i1, .int i2, v3] [] (G, I, J) Q := by
  refine w_il f_133_35 rfl ?_
  refine w_ifeq f_133_36 (fun c => ?_) (fun c => ?_)
  · have H := H.1 c
    exact H
  · have H := H.2 c
    refine w_al f_133_39 rfl ?_
    refine w_inv (as := [.ref 59]) (st' := []) f_133_40 rfl rfl rfl rfl rfl rfl H (k_i (fun y1 G1 I1 J1 H => ?_)) (x_n (fun _ => rfl) rfl (fun x h' h => h))
    refine w_ifeq f_133_43 (fun c => ?_) (fun c => ?_)
    · have H := H.1 c
      exact H
    · have H := H.2 c
      refine w_al f_133_46 rfl ?_
      refine w_inv (as := [.ref 59, .retAddr 0]) (st' := []) f_133_47 rfl rfl rfl rfl rfl rfl H (k_i (fun y2 G2 I2 J2 H => ?_)) (x_n (fun _ => rfl) rfl (fun x h' h => h))
      refine w_is (ls' := [.ref 59, .int i1, .int i2, .int y2]) f_133_50 rfl ?_
      refine w_il f_133_51 rfl ?_
      refine w_ic f_133_52 ?_
      refine w_iceq f_133_53 (fun c => ?_) (fun c => ?_)
      · have H := H.1 c
        exact H
      · have H := H.2 c
        refine w_il f_133_56 rfl ?_
        refine w_ic f_133_57 ?_
        refine w_icne f_133_59 (fun c => ?_) (fun c => ?_)
        · have H := H.1 c
          refine w_al f_133_112 rfl ?_
          refine w_ic f_133_113 ?_
          refine w_inv (as := [.ref 59, .int 60]) (st' := []) f_133_115 rfl rfl rfl rfl rfl rfl H (k_i (fun y3 G3 I3 J3 H => ?_)) (x_n (fun _ => rfl) rfl (fun x h' h => h))
          refine w_ifne f_133_118 (fun c => ?_) (fun c => ?_)
          · have H := H.1 c
            exact H
          · have H := H.2 c
            refine w_al f_133_121 rfl ?_
            refine w_ic f_133_122 ?_
            refine w_inv (as := [.ref 59, .int 61]) (st' := []) f_133_124 rfl rfl rfl rfl rfl rfl H (k_i (fun y4 G4 I4 J4 H => ?_)) (x_n (fun _ => rfl) rfl (fun x h' h => h))
            refine w_ifeq f_133_127 (fun c => ?_) (fun c => ?_)
            · have H := H.1 c
              exact H
            · have H := H.2 c
              exact H
        · have H := H.2 c
          exact H
theorem g_133_62 {d : Nat} {G : am_G} {I : Nat → Nat → Int32} {J : Nat → Nat → Int64} {Q : am_O → am_H → Prop} (hR : q_RT G) (i1 : Int32) (i2 : Int32) (i3 : Int32) (H : ((¬ i3 = 5 → q_W β xs L (d + 1) 133 73 [.ref 59, .int i1, .int i2, .int i3] [.int 1, .ref 59] (G, I, J) Q) ∧ (i3 = 5 → q_W β xs L (d + 1) 133 73 [.ref 59, .int i1, .int i2, .int i3] [.int 2, .ref 59] (G, I, J) Q))) : q_W β xs L (d + 1) 133 62 [.ref 59, .int i1, .int i2, .int i3] [] (G, I, J) Q := by
  refine w_al f_133_62 rfl ?_
  refine w_il f_133_63 rfl ?_
  refine w_ic f_133_64 ?_
  refine w_icne f_133_65 (fun c => ?_) (fun c => ?_)
  · have H := H.1 c
    refine w_ic f_133_72 ?_
    exact H
  · have H := H.2 c
    refine w_ic f_133_68 ?_
    refine w_go f_133_69 ?_
    exact H
theorem g_133_73 {d : Nat} {G : am_G} {I : Nat → Nat → Int32} {J : Nat → Nat → Int64} {Q : am_O → am_H → Prop} (hR : q_RT G) (i1 : Int32) (i2 : Int32) (i3 : Int32) (is0 : Int32) (H : q_W β xs L d 128 0 [.ref 59, .int is0] [] (G, I, J) (q_Rv (fun G1 I1 J1 => ((¬ i3 = 5 → q_W β xs L (d + 1) 133 87 [.ref 59, .int i1, .int i2, .int i3] [.int 5, .ref 59] (G1, I1, J1) Q) ∧ (i3 = 5 → q_W β xs L (d + 1) 133 87 [.ref 59, .int i1, .int i2, .int i3] [.int 4, .ref 59] (G1, I1, J1) Q))) (fun x1 G1 I1 J1 => Q (.inr x1) (G1, I1, J1)))) : q_W β xs L (d + 1) 133 73 [.ref 59, .int i1, .int i2, .int i3] [.int is0, .ref 59] (G, I, J) Q := by
  refine w_inv (as := [.ref 59, .int is0]) (st' := []) f_133_73 rfl rfl rfl rfl rfl rfl H (k_v (fun G1 I1 J1 H => ?_)) (x_n (fun _ => rfl) rfl (fun x h' h => h))
  refine w_al f_133_76 rfl ?_
  refine w_il f_133_77 rfl ?_
  refine w_ic f_133_78 ?_
  refine w_icne f_133_79 (fun c => ?_) (fun c => ?_)
  · have H := H.1 c
    refine w_ic f_133_86 ?_
    exact H
  · have H := H.2 c
    refine w_ic f_133_82 ?_
    refine w_go f_133_83 ?_
    exact H
theorem g_133_87 {d : Nat} {G : am_G} {I : Nat → Nat → Int32} {J : Nat → Nat → Int64} {Q : am_O → am_H → Prop} (hR : q_RT G) (i1 : Int32) (i2 : Int32) (i3 : Int32) (is0 : Int32) (H : q_W β xs L d 129 0 [.ref 59, .int is0] [] (G, I, J) (q_Rv (fun G1 I1 J1 => (q_RT G1 ∧ (am_is (I1 59 35) 9 = true ∧ q_W β xs L d 119 0 [.ref 59, .retAddr 0] [] (G1, (am_u I1 88 ((I1 59 35)).toNatClampNeg ((vp_nar .boolean) 0)), J1) (q_Rv (fun G2 I2 J2 => q_W β xs L d 132 0 [.ref 59, .int 1, .retAddr 0, .retAddr 0, .retAddr 0] [] (G2, I2, J2) (q_Rv (fun G3 I3 J3 => q_W β xs L (d + 1) 133 351 [.ref 59, .int i1, .int i2, .int i3] [] (G3, I3, J3) Q) (fun x3 G3 I3 J3 => Q (.inr x3) (G3, I3, J3)))) (fun x2 G2 I2 J2 => Q (.inr x2) (G2, I2, J2)))))) (fun x1 G1 I1 J1 => Q (.inr x1) (G1, I1, J1)))) : q_W β xs L (d + 1) 133 87 [.ref 59, .int i1, .int i2, .int i3] [.int is0, .ref 59] (G, I, J) Q := by
  refine w_inv (as := [.ref 59, .int is0]) (st' := []) f_133_87 rfl rfl rfl rfl rfl rfl H (k_v (fun G1 I1 J1 H => ?_)) (x_n (fun _ => rfl) rfl (fun x h' h => h))
  have hR1 := H.1
  have H := H.2
  refine w_al f_133_90 rfl ?_
  refine w_gr f_133_91 rfl (hR1 _ _ _ rfl) ?_
  refine w_al f_133_94 rfl ?_
  refine w_gi f_133_95 rfl ?_
  refine w_ic f_133_98 ?_
  have hb := H.1
  have H := H.2
  refine w_ast f_133_99 rfl hb ?_
  refine w_al f_133_100 rfl ?_
  refine w_inv (as := [.ref 59, .retAddr 0]) (st' := []) f_133_101 rfl rfl rfl rfl rfl rfl H (k_v (fun G2 I2 J2 H => ?_)) (x_n (fun _ => rfl) rfl (fun x h' h => h))
  refine w_al f_133_104 rfl ?_
  refine w_ic f_133_105 ?_
  refine w_inv (as := [.ref 59, .int 1, .retAddr 0, .retAddr 0, .retAddr 0]) (st' := []) f_133_106 rfl rfl rfl rfl rfl rfl H (k_v (fun G3 I3 J3 H => ?_)) (x_n (fun _ => rfl) rfl (fun x h' h => h))
  refine w_go f_133_109 ?_
  exact H
theorem g_133_130 {d : Nat} {G : am_G} {I : Nat → Nat → Int32} {J : Nat → Nat → Int64} {Q : am_O → am_H → Prop} (hR : q_RT G) (i1 : Int32) (i2 : Int32) (i3 : Int32) (H : (am_is (I 59 35) 9 = true ∧ ((¬ (I 88 ((I 59 35)).toNatClampNeg) = 0 → q_W β xs L (d + 1) 133 189 [.ref 59, .int i1, .int i2, .int i3] [] (G, I, J) Q) ∧ ((I 88 ((I 59 35)).toNatClampNeg) = 0 → q_W β xs L d 128 0 [.ref 59, .int 4] [] (G, I, J) (q_Rv (fun G1 I1 J1 => q_W β xs L d 125 0 [.ref 59, .int 60] [] (G1, I1, J1) (q_Ri (fun y2 G2 I2 J2 => ((y2 = 0 → q_W β xs L (d + 1) 133 164 [.ref 59, .int i1, .int i2, .int i3] [.int 7, .ref 59] (G2, I2, J2) Q) ∧ (¬ y2 = 0 → q_W β xs L (d + 1) 133 164 [.ref 59, .int i1, .int i2, .int i3] [.int 6, .ref 59] (G2, I2, J2) Q))) (fun x2 G2 I2 J2 => Q (.inr x2) (G2, I2, J2)))) (fun x1 G1 I1 J1 => Q (.inr x1) (G1, I1, J1))))))) : q_W β xs L (d + 1) 133 130 [.ref 59, .int i1, .int i2, .int i3] [] (G, I, J) Q := by
  refine w_al f_133_130 rfl ?_
  refine w_gr f_133_131 rfl (hR _ _ _ rfl) ?_
  refine w_al f_133_134 rfl ?_
  refine w_gi f_133_135 rfl ?_
  have hb := H.1
  have H := H.2
  refine w_ald f_133_138 rfl hb ?_
  refine w_ifne f_133_139 (fun c => ?_) (fun c => ?_)
  · have H := H.1 c
    exact H
  · have H := H.2 c
    refine w_al f_133_142 rfl ?_
    refine w_ic f_133_143 ?_
    refine w_inv (as := [.ref 59, .int 4]) (st' := []) f_133_144 rfl rfl rfl rfl rfl rfl H (k_v (fun G1 I1 J1 H => ?_)) (x_n (fun _ => rfl) rfl (fun x h' h => h))
    refine w_al f_133_147 rfl ?_
    refine w_al f_133_148 rfl ?_
    refine w_ic f_133_149 ?_
    refine w_inv (as := [.ref 59, .int 60]) (st' := [.ref 59]) f_133_151 rfl rfl rfl rfl rfl rfl H (k_i (fun y2 G2 I2 J2 H => ?_)) (x_n (fun _ => rfl) rfl (fun x h' h => h))
    refine w_ifeq f_133_154 (fun c => ?_) (fun c => ?_)
    · have H := H.1 c
      refine w_ic f_133_162 ?_
      exact H
    · have H := H.2 c
      refine w_ic f_133_157 ?_
      refine w_go f_133_159 ?_
      exact H
theorem g_133_164 {d : Nat} {G : am_G} {I : Nat → Nat → Int32} {J : Nat → Nat → Int64} {Q : am_O → am_H → Prop} (hR : q_RT G) (i1 : Int32) (i2 : Int32) (i3 : Int32) (is0 : Int32) (H : q_W β xs L d 129 0 [.ref 59, .int is0] [] (G, I, J) (q_Rv (fun G1 I1 J1 => (q_RT G1 ∧ (am_is (I1 59 35) 9 = true ∧ q_W β xs L d 119 0 [.ref 59, .retAddr 0] [] (G1, (am_u I1 88 ((I1 59 35)).toNatClampNeg ((vp_nar .boolean) 1)), J1) (q_Rv (fun G2 I2 J2 => q_W β xs L d 132 0 [.ref 59, .int 0, .retAddr 0, .retAddr 0, .retAddr 0] [] (G2, I2, J2) (q_Rv (fun G3 I3 J3 => q_W β xs L (d + 1) 133 351 [.ref 59, .int i1, .int i2, .int i3] [] (G3, I3, J3) Q) (fun x3 G3 I3 J3 => Q (.inr x3) (G3, I3, J3)))) (fun x2 G2 I2 J2 => Q (.inr x2) (G2, I2, J2)))))) (fun x1 G1 I1 J1 => Q (.inr x1) (G1, I1, J1)))) : q_W β xs L (d + 1) 133 164 [.ref 59, .int i1, .int i2, .int i3] [.int is0, .ref 59] (G, I, J) Q := by
  refine w_inv (as := [.ref 59, .int is0]) (st' := []) f_133_164 rfl rfl rfl rfl rfl rfl H (k_v (fun G1 I1 J1 H => ?_)) (x_n (fun _ => rfl) rfl (fun x h' h => h))
  have hR1 := H.1
  have H := H.2
  refine w_al f_133_167 rfl ?_
  refine w_gr f_133_168 rfl (hR1 _ _ _ rfl) ?_
  refine w_al f_133_171 rfl ?_
  refine w_gi f_133_172 rfl ?_
  refine w_ic f_133_175 ?_
  have hb := H.1
  have H := H.2
  refine w_ast f_133_176 rfl hb ?_
  refine w_al f_133_177 rfl ?_
  refine w_inv (as := [.ref 59, .retAddr 0]) (st' := []) f_133_178 rfl rfl rfl rfl rfl rfl H (k_v (fun G2 I2 J2 H => ?_)) (x_n (fun _ => rfl) rfl (fun x h' h => h))
  refine w_al f_133_181 rfl ?_
  refine w_ic f_133_182 ?_
  refine w_inv (as := [.ref 59, .int 0, .retAddr 0, .retAddr 0, .retAddr 0]) (st' := []) f_133_183 rfl rfl rfl rfl rfl rfl H (k_v (fun G3 I3 J3 H => ?_)) (x_n (fun _ => rfl) rfl (fun x h' h => h))
  refine w_go f_133_186 ?_
  exact H
theorem g_133_189 {d : Nat} {G : am_G} {I : Nat → Nat → Int32} {J : Nat → Nat → Int64} {Q : am_O → am_H → Prop} (hR : q_RT G) (i1 : Int32) (i2 : Int32) (i3 : Int32) (H : q_W β xs L d 125 0 [.ref 59, .int 43] [] (G, I, J) (q_Ri (fun y1 G1 I1 J1 => ((¬ y1 = 0 → q_W β xs L (d + 1) 133 207 [.ref 59, .int i1, .int i2, .int i3] [] (G1, I1, J1) Q) ∧ (y1 = 0 → q_W β xs L d 125 0 [.ref 59, .int 45] [] (G1, I1, J1) (q_Ri (fun y2 G2 I2 J2 => ((y2 = 0 → q_W β xs L d 125 0 [.ref 59, .int 42] [] (G2, I2, J2) (q_Ri (fun y3 G3 I3 J3 => ((¬ y3 = 0 → q_W β xs L (d + 1) 133 262 [.ref 59, .int i1, .int i2, .int i3] [] (G3, I3, J3) Q) ∧ (y3 = 0 → q_W β xs L d 125 0 [.ref 59, .int 47] [] (G3, I3, J3) (q_Ri (fun y4 G4 I4 J4 => ((y4 = 0 → q_W β xs L d 125 0 [.ref 59, .int 41] [] (G4, I4, J4) (q_Ri (fun y5 G5 I5 J5 => ((y5 = 0 → q_W β xs L (d + 1) 133 349 [.ref 59, .int i1, .int i2, .int i3] [] (G5, I5, J5) Q) ∧ (¬ y5 = 0 → ((¬ 1 < (I5 59 35) → q_W β xs L (d + 1) 133 349 [.ref 59, .int i1, .int i2, .int i3] [] (G5, I5, J5) Q) ∧ (1 < (I5 59 35) → q_W β xs L d 128 0 [.ref 59, .int 0] [] (G5, I5, J5) (q_Rv (fun G6 I6 J6 => q_W β xs L d 119 0 [.ref 59, .retAddr 0] [] (G6, (am_u (am_u I6 59 34 ((I6 59 34) - 1)) 59 35 ((I6 59 35) - 1)), J6) (q_Rv (fun G7 I7 J7 => q_W β xs L (d + 1) 133 351 [.ref 59, .int i1, .int i2, .int i3] [] (G7, I7, J7) Q) (fun x7 G7 I7 J7 => Q (.inr x7) (G7, I7, J7)))) (fun x6 G6 I6 J6 => Q (.inr x6) (G6, I6, J6)))))))) (fun x5 G5 I5 J5 => Q (.inr x5) (G5, I5, J5)))) ∧ (¬ y4 = 0 → q_W β xs L (d + 1) 133 262 [.ref 59, .int i1, .int i2, .int i3] [] (G4, I4, J4) Q))) (fun x4 G4 I4 J4 => Q (.inr x4) (G4, I4, J4)))))) (fun x3 G3 I3 J3 => Q (.inr x3) (G3, I3, J3)))) ∧ (¬ y2 = 0 → q_W β xs L (d + 1) 133 207 [.ref 59, .int i1, .int i2, .int i3] [] (G2, I2, J2) Q))) (fun x2 G2 I2 J2 => Q (.inr x2) (G2, I2, J2)))))) (fun x1 G1 I1 J1 => Q (.inr x1) (G1, I1, J1)))) : q_W β xs L (d + 1) 133 189 [.ref 59, .int i1, .int i2, .int i3] [] (G, I, J) Q := by
  refine w_al f_133_189 rfl ?_
  refine w_ic f_133_190 ?_
  refine w_inv (as := [.ref 59, .int 43]) (st' := []) f_133_192 rfl rfl rfl rfl rfl rfl H (k_i (fun y1 G1 I1 J1 H => ?_)) (x_n (fun _ => rfl) rfl (fun x h' h => h))
  refine w_ifne f_133_195 (fun c => ?_) (fun c => ?_)
  · have H := H.1 c
    exact H
  · have H := H.2 c
    refine w_al f_133_198 rfl ?_
    refine w_ic f_133_199 ?_
    refine w_inv (as := [.ref 59, .int 45]) (st' := []) f_133_201 rfl rfl rfl rfl rfl rfl H (k_i (fun y2 G2 I2 J2 H => ?_)) (x_n (fun _ => rfl) rfl (fun x h' h => h))
    refine w_ifeq f_133_204 (fun c => ?_) (fun c => ?_)
    · have H := H.1 c
      refine w_al f_133_244 rfl ?_
      refine w_ic f_133_245 ?_
      refine w_inv (as := [.ref 59, .int 42]) (st' := []) f_133_247 rfl rfl rfl rfl rfl rfl H (k_i (fun y3 G3 I3 J3 H => ?_)) (x_n (fun _ => rfl) rfl (fun x h' h => h))
      refine w_ifne f_133_250 (fun c => ?_) (fun c => ?_)
      · have H := H.1 c
        exact H
      · have H := H.2 c
        refine w_al f_133_253 rfl ?_
        refine w_ic f_133_254 ?_
        refine w_inv (as := [.ref 59, .int 47]) (st' := []) f_133_256 rfl rfl rfl rfl rfl rfl H (k_i (fun y4 G4 I4 J4 H => ?_)) (x_n (fun _ => rfl) rfl (fun x h' h => h))
        refine w_ifeq f_133_259 (fun c => ?_) (fun c => ?_)
        · have H := H.1 c
          refine w_al f_133_300 rfl ?_
          refine w_ic f_133_301 ?_
          refine w_inv (as := [.ref 59, .int 41]) (st' := []) f_133_303 rfl rfl rfl rfl rfl rfl H (k_i (fun y5 G5 I5 J5 H => ?_)) (x_n (fun _ => rfl) rfl (fun x h' h => h))
          refine w_ifeq f_133_306 (fun c => ?_) (fun c => ?_)
          · have H := H.1 c
            exact H
          · have H := H.2 c
            refine w_al f_133_309 rfl ?_
            refine w_gi f_133_310 rfl ?_
            refine w_ic f_133_313 ?_
            refine w_icle f_133_314 (fun c => ?_) (fun c => ?_)
            · have H := H.1 c
              exact H
            · have H := H.2 c
              refine w_al f_133_317 rfl ?_
              refine w_ic f_133_318 ?_
              refine w_inv (as := [.ref 59, .int 0]) (st' := []) f_133_319 rfl rfl rfl rfl rfl rfl H (k_v (fun G6 I6 J6 H => ?_)) (x_n (fun _ => rfl) rfl (fun x h' h => h))
              refine w_al f_133_322 rfl ?_
              refine w_dupr f_133_323 ?_
              refine w_gi f_133_324 rfl ?_
              refine w_ic f_133_327 ?_
              refine w_bin f_133_328 ?_
              refine w_pi f_133_329 rfl ?_
              refine w_al f_133_332 rfl ?_
              refine w_dupr f_133_333 ?_
              refine w_gi' f_133_334 rfl (am_u_ne (Or.inr (by decide))) ?_
              refine w_ic f_133_337 ?_
              refine w_bin f_133_338 ?_
              refine w_pi f_133_339 rfl ?_
              refine w_al f_133_342 rfl ?_
              refine w_inv (as := [.ref 59, .retAddr 0]) (st' := []) f_133_343 rfl rfl rfl rfl rfl rfl H (k_v (fun G7 I7 J7 H => ?_)) (x_n (fun _ => rfl) rfl (fun x h' h => h))
              refine w_go f_133_346 ?_
              exact H
        · have H := H.2 c
          exact H
    · have H := H.2 c
      exact H
theorem g_133_207 {d : Nat} {G : am_G} {I : Nat → Nat → Int32} {J : Nat → Nat → Int64} {Q : am_O → am_H → Prop} (hR : q_RT G) (i1 : Int32) (i2 : Int32) (i3 : Int32) (H : q_W β xs L d 128 0 [.ref 59, .int 5] [] (G, I, J) (q_Rv (fun G1 I1 J1 => q_W β xs L d 125 0 [.ref 59, .int 43] [] (G1, I1, J1) (q_Ri (fun y2 G2 I2 J2 => ((y2 = 0 → q_W β xs L (d + 1) 133 229 [.ref 59, .int i1, .int i2, .int i3] [.int 9, .ref 59] (G2, I2, J2) Q) ∧ (¬ y2 = 0 → q_W β xs L (d + 1) 133 229 [.ref 59, .int i1, .int i2, .int i3] [.int 8, .ref 59] (G2, I2, J2) Q))) (fun x2 G2 I2 J2 => Q (.inr x2) (G2, I2, J2)))) (fun x1 G1 I1 J1 => Q (.inr x1) (G1, I1, J1)))) : q_W β xs L (d + 1) 133 207 [.ref 59, .int i1, .int i2, .int i3] [] (G, I, J) Q := by
  refine w_al f_133_207 rfl ?_
  refine w_ic f_133_208 ?_
  refine w_inv (as := [.ref 59, .int 5]) (st' := []) f_133_209 rfl rfl rfl rfl rfl rfl H (k_v (fun G1 I1 J1 H => ?_)) (x_n (fun _ => rfl) rfl (fun x h' h => h))
  refine w_al f_133_212 rfl ?_
  refine w_al f_133_213 rfl ?_
  refine w_ic f_133_214 ?_
  refine w_inv (as := [.ref 59, .int 43]) (st' := [.ref 59]) f_133_216 rfl rfl rfl rfl rfl rfl H (k_i (fun y2 G2 I2 J2 H => ?_)) (x_n (fun _ => rfl) rfl (fun x h' h => h))
  refine w_ifeq f_133_219 (fun c => ?_) (fun c => ?_)
  · have H := H.1 c
    refine w_ic f_133_227 ?_
    exact H
  · have H := H.2 c
    refine w_ic f_133_222 ?_
    refine w_go f_133_224 ?_
    exact H
theorem g_133_229 {d : Nat} {G : am_G} {I : Nat → Nat → Int32} {J : Nat → Nat → Int64} {Q : am_O → am_H → Prop} (hR : q_RT G) (i1 : Int32) (i2 : Int32) (i3 : Int32) (is0 : Int32) (H : q_W β xs L d 129 0 [.ref 59, .int is0] [] (G, I, J) (q_Rv (fun G1 I1 J1 => q_W β xs L d 119 0 [.ref 59, .retAddr 0] [] (G1, I1, J1) (q_Rv (fun G2 I2 J2 => q_W β xs L d 132 0 [.ref 59, .int 0, .retAddr 0, .retAddr 0, .retAddr 0] [] (G2, I2, J2) (q_Rv (fun G3 I3 J3 => q_W β xs L (d + 1) 133 351 [.ref 59, .int i1, .int i2, .int i3] [] (G3, I3, J3) Q) (fun x3 G3 I3 J3 => Q (.inr x3) (G3, I3, J3)))) (fun x2 G2 I2 J2 => Q (.inr x2) (G2, I2, J2)))) (fun x1 G1 I1 J1 => Q (.inr x1) (G1, I1, J1)))) : q_W β xs L (d + 1) 133 229 [.ref 59, .int i1, .int i2, .int i3] [.int is0, .ref 59] (G, I, J) Q := by
  refine w_inv (as := [.ref 59, .int is0]) (st' := []) f_133_229 rfl rfl rfl rfl rfl rfl H (k_v (fun G1 I1 J1 H => ?_)) (x_n (fun _ => rfl) rfl (fun x h' h => h))
  refine w_al f_133_232 rfl ?_
  refine w_inv (as := [.ref 59, .retAddr 0]) (st' := []) f_133_233 rfl rfl rfl rfl rfl rfl H (k_v (fun G2 I2 J2 H => ?_)) (x_n (fun _ => rfl) rfl (fun x h' h => h))
  refine w_al f_133_236 rfl ?_
  refine w_ic f_133_237 ?_
  refine w_inv (as := [.ref 59, .int 0, .retAddr 0, .retAddr 0, .retAddr 0]) (st' := []) f_133_238 rfl rfl rfl rfl rfl rfl H (k_v (fun G3 I3 J3 H => ?_)) (x_n (fun _ => rfl) rfl (fun x h' h => h))
  refine w_go f_133_241 ?_
  exact H
theorem g_133_262 {d : Nat} {G : am_G} {I : Nat → Nat → Int32} {J : Nat → Nat → Int64} {Q : am_O → am_H → Prop} (hR : q_RT G) (i1 : Int32) (i2 : Int32) (i3 : Int32) (H : q_W β xs L d 128 0 [.ref 59, .int 6] [] (G, I, J) (q_Rv (fun G1 I1 J1 => q_W β xs L d 125 0 [.ref 59, .int 42] [] (G1, I1, J1) (q_Ri (fun y2 G2 I2 J2 => ((y2 = 0 → q_W β xs L (d + 1) 133 285 [.ref 59, .int i1, .int i2, .int i3] [.int 11, .ref 59] (G2, I2, J2) Q) ∧ (¬ y2 = 0 → q_W β xs L (d + 1) 133 285 [.ref 59, .int i1, .int i2, .int i3] [.int 10, .ref 59] (G2, I2, J2) Q))) (fun x2 G2 I2 J2 => Q (.inr x2) (G2, I2, J2)))) (fun x1 G1 I1 J1 => Q (.inr x1) (G1, I1, J1)))) : q_W β xs L (d + 1) 133 262 [.ref 59, .int i1, .int i2, .int i3] [] (G, I, J) Q := by
  refine w_al f_133_262 rfl ?_
  refine w_ic f_133_263 ?_
  refine w_inv (as := [.ref 59, .int 6]) (st' := []) f_133_265 rfl rfl rfl rfl rfl rfl H (k_v (fun G1 I1 J1 H => ?_)) (x_n (fun _ => rfl) rfl (fun x h' h => h))
  refine w_al f_133_268 rfl ?_
  refine w_al f_133_269 rfl ?_
  refine w_ic f_133_270 ?_
  refine w_inv (as := [.ref 59, .int 42]) (st' := [.ref 59]) f_133_272 rfl rfl rfl rfl rfl rfl H (k_i (fun y2 G2 I2 J2 H => ?_)) (x_n (fun _ => rfl) rfl (fun x h' h => h))
  refine w_ifeq f_133_275 (fun c => ?_) (fun c => ?_)
  · have H := H.1 c
    refine w_ic f_133_283 ?_
    exact H
  · have H := H.2 c
    refine w_ic f_133_278 ?_
    refine w_go f_133_280 ?_
    exact H
theorem g_133_285 {d : Nat} {G : am_G} {I : Nat → Nat → Int32} {J : Nat → Nat → Int64} {Q : am_O → am_H → Prop} (hR : q_RT G) (i1 : Int32) (i2 : Int32) (i3 : Int32) (is0 : Int32) (H : q_W β xs L d 129 0 [.ref 59, .int is0] [] (G, I, J) (q_Rv (fun G1 I1 J1 => q_W β xs L d 119 0 [.ref 59, .retAddr 0] [] (G1, I1, J1) (q_Rv (fun G2 I2 J2 => q_W β xs L d 132 0 [.ref 59, .int 0, .retAddr 0, .retAddr 0, .retAddr 0] [] (G2, I2, J2) (q_Rv (fun G3 I3 J3 => q_W β xs L (d + 1) 133 351 [.ref 59, .int i1, .int i2, .int i3] [] (G3, I3, J3) Q) (fun x3 G3 I3 J3 => Q (.inr x3) (G3, I3, J3)))) (fun x2 G2 I2 J2 => Q (.inr x2) (G2, I2, J2)))) (fun x1 G1 I1 J1 => Q (.inr x1) (G1, I1, J1)))) : q_W β xs L (d + 1) 133 285 [.ref 59, .int i1, .int i2, .int i3] [.int is0, .ref 59] (G, I, J) Q := by
  refine w_inv (as := [.ref 59, .int is0]) (st' := []) f_133_285 rfl rfl rfl rfl rfl rfl H (k_v (fun G1 I1 J1 H => ?_)) (x_n (fun _ => rfl) rfl (fun x h' h => h))
  refine w_al f_133_288 rfl ?_
  refine w_inv (as := [.ref 59, .retAddr 0]) (st' := []) f_133_289 rfl rfl rfl rfl rfl rfl H (k_v (fun G2 I2 J2 H => ?_)) (x_n (fun _ => rfl) rfl (fun x h' h => h))
  refine w_al f_133_292 rfl ?_
  refine w_ic f_133_293 ?_
  refine w_inv (as := [.ref 59, .int 0, .retAddr 0, .retAddr 0, .retAddr 0]) (st' := []) f_133_294 rfl rfl rfl rfl rfl rfl H (k_v (fun G3 I3 J3 H => ?_)) (x_n (fun _ => rfl) rfl (fun x h' h => h))
  refine w_go f_133_297 ?_
  exact H
theorem g_133_349 {d : Nat} {G : am_G} {I : Nat → Nat → Int32} {J : Nat → Nat → Int64} {Q : am_O → am_H → Prop} (hR : q_RT G) (i1 : Int32) (i2 : Int32) (i3 : Int32) (H : q_W β xs L (d + 1) 133 351 [.ref 59, .int i1, .int 0, .int i3] [] (G, I, J) Q) : q_W β xs L (d + 1) 133 349 [.ref 59, .int i1, .int i2, .int i3] [] (G, I, J) Q := by
  refine w_ic f_133_349 ?_
  refine w_is (ls' := [.ref 59, .int i1, .int 0, .int i3]) f_133_350 rfl ?_
  exact H
theorem g_133_351 {d : Nat} {G : am_G} {I : Nat → Nat → Int32} {J : Nat → Nat → Int64} {Q : am_O → am_H → Prop} (hR : q_RT G) (i1 : Int32) (i2 : Int32) (i3 : Int32) (H : q_W β xs L (d + 1) 133 35 [.ref 59, .int i1, .int i2, .int i3] [] (G, I, J) Q) : q_W β xs L (d + 1) 133 351 [.ref 59, .int i1, .int i2, .int i3] [] (G, I, J) Q := by
  refine w_go f_133_351 ?_
  exact H
theorem g_133_354 {d : Nat} {G : am_G} {I : Nat → Nat → Int32} {J : Nat → Nat → Int64} {Q : am_O → am_H → Prop} (hR : q_RT G) (i1 : Int32) (i2 : Int32) (v3 : Value) (n3 : am_nl v3 = true) (H : q_W β xs L d 124 0 [.ref 59] [] (G, I, J) (q_Ri (fun y1 G1 I1 J1 => ((y1 = 0 → q_W β xs L (d + 1) 133 374 [.ref 59, .int i1, .int i2, v3] [] (G1, I1, J1) Q) ∧ (¬ y1 = 0 → ((¬ 1 < (I1 59 35) → q_W β xs L (d + 1) 133 374 [.ref 59, .int i1, .int i2, v3] [] (G1, I1, J1) Q) ∧ (1 < (I1 59 35) → q_W β xs L d 123 0 [.ref 59, .int 1] [] (G1, I1, J1) (q_Rv (fun G2 I2 J2 => q_W β xs L (d + 1) 133 374 [.ref 59, .int i1, .int i2, v3] [] (G2, I2, J2) Q) (fun x2 G2 I2 J2 => Q (.inr x2) (G2, I2, J2)))))))) (fun x1 G1 I1 J1 => Q (.inr x1) (G1, I1, J1)))) : q_W β xs L (d + 1) 133 354 [.ref 59, .int i1, .int i2, v3] [] (G, I, J) Q := by
  refine w_al f_133_354 rfl ?_
  refine w_inv (as := [.ref 59]) (st' := []) f_133_355 rfl rfl rfl rfl rfl rfl H (k_i (fun y1 G1 I1 J1 H => ?_)) (x_n (fun _ => rfl) rfl (fun x h' h => h))
  refine w_ifeq f_133_358 (fun c => ?_) (fun c => ?_)
  · have H := H.1 c
    exact H
  · have H := H.2 c
    refine w_al f_133_361 rfl ?_
    refine w_gi f_133_362 rfl ?_
    refine w_ic f_133_365 ?_
    refine w_icle f_133_366 (fun c => ?_) (fun c => ?_)
    · have H := H.1 c
      exact H
    · have H := H.2 c
      refine w_al f_133_369 rfl ?_
      refine w_ic f_133_370 ?_
      refine w_inv (as := [.ref 59, .int 1]) (st' := []) f_133_371 rfl rfl rfl rfl rfl rfl H (k_v (fun G2 I2 J2 H => ?_)) (x_n (fun _ => rfl) rfl (fun x h' h => h))
      exact H
theorem g_133_374 {d : Nat} {G : am_G} {I : Nat → Nat → Int32} {J : Nat → Nat → Int64} {Q : am_O → am_H → Prop} (hR : q_RT G) (i1 : Int32) (i2 : Int32) (v3 : Value) (n3 : am_nl v3 = true) (H : q_W β xs L d 128 0 [.ref 59, .int 0] [] (G, I, J) (q_Rv (fun G1 I1 J1 => q_W β xs L d 126 0 [.ref 59, .int 0] [] (G1, I1, J1) (q_Rv (fun G2 I2 J2 => Q (.inl (some (.int i1))) (G2, I2, J2)) (fun x2 G2 I2 J2 => Q (.inr x2) (G2, I2, J2)))) (fun x1 G1 I1 J1 => Q (.inr x1) (G1, I1, J1)))) : q_W β xs L (d + 1) 133 374 [.ref 59, .int i1, .int i2, v3] [] (G, I, J) Q := by
  refine w_al f_133_374 rfl ?_
  refine w_ic f_133_375 ?_
  refine w_inv (as := [.ref 59, .int 0]) (st' := []) f_133_376 rfl rfl rfl rfl rfl rfl H (k_v (fun G1 I1 J1 H => ?_)) (x_n (fun _ => rfl) rfl (fun x h' h => h))
  refine w_al f_133_379 rfl ?_
  refine w_ic f_133_380 ?_
  refine w_inv (as := [.ref 59, .int 0]) (st' := []) f_133_381 rfl rfl rfl rfl rfl rfl H (k_v (fun G2 I2 J2 H => ?_)) (x_n (fun _ => rfl) rfl (fun x h' h => h))
  refine w_il f_133_384 rfl ?_
  exact w_reti f_133_385 H
theorem g_134_0 {d : Nat} {G : am_G} {I : Nat → Nat → Int32} {J : Nat → Nat → Int64} {Q : am_O → am_H → Prop} (hR : q_RT G)  (H : q_W β xs L d 124 0 [.ref 59] [] (G, I, J) (q_Ri (fun y1 G1 I1 J1 => ((¬ y1 = 0 → (((I1 59 25) = 2 → ((¬ 5 < (I1 59 27) → q_W β xs L (d + 1) 134 38 [.ref 59, .retAddr 0] [] (G1, I1, J1) Q) ∧ (5 < (I1 59 27) → q_W β xs L d 123 0 [.ref 59, .int 2] [] (G1, I1, J1) (q_Rv (fun G2 I2 J2 => q_W β xs L (d + 1) 134 38 [.ref 59, .retAddr 0] [] (G2, I2, J2) Q) (fun x2 G2 I2 J2 => Q (.inr x2) (G2, I2, J2)))))) ∧ (¬ (I1 59 25) = 2 → q_W β xs L d 123 0 [.ref 59, .int 1] [] (G1, I1, J1) (q_Rv (fun G3 I3 J3 => q_W β xs L (d + 1) 134 38 [.ref 59, .retAddr 0] [] (G3, I3, J3) Q) (fun x3 G3 I3 J3 => Q (.inr x3) (G3, I3, J3)))))) ∧ (y1 = 0 → Q (.inl (some (.int 0))) (G1, I1, J1)))) (fun x1 G1 I1 J1 => Q (.inr x1) (G1, I1, J1)))) : q_W β xs L (d + 1) 134 0 [.ref 59, .retAddr 0] [] (G, I, J) Q := by
  refine w_al f_134_0 rfl ?_
  refine w_inv (as := [.ref 59]) (st' := []) f_134_1 rfl rfl rfl rfl rfl rfl H (k_i (fun y1 G1 I1 J1 H => ?_)) (x_n (fun _ => rfl) rfl (fun x h' h => h))
  refine w_ifne f_134_4 (fun c => ?_) (fun c => ?_)
  · have H := H.1 c
    refine w_al f_134_9 rfl ?_
    refine w_gi f_134_10 rfl ?_
    refine w_ic f_134_13 ?_
    refine w_iceq f_134_14 (fun c => ?_) (fun c => ?_)
    · have H := H.1 c
      refine w_al f_134_25 rfl ?_
      refine w_gi f_134_26 rfl ?_
      refine w_ic f_134_29 ?_
      refine w_icle f_134_30 (fun c => ?_) (fun c => ?_)
      · have H := H.1 c
        exact H
      · have H := H.2 c
        refine w_al f_134_33 rfl ?_
        refine w_ic f_134_34 ?_
        refine w_inv (as := [.ref 59, .int 2]) (st' := []) f_134_35 rfl rfl rfl rfl rfl rfl H (k_v (fun G2 I2 J2 H => ?_)) (x_n (fun _ => rfl) rfl (fun x h' h => h))
        exact H
    · have H := H.2 c
      refine w_al f_134_17 rfl ?_
      refine w_ic f_134_18 ?_
      refine w_inv (as := [.ref 59, .int 1]) (st' := []) f_134_19 rfl rfl rfl rfl rfl rfl H (k_v (fun G3 I3 J3 H => ?_)) (x_n (fun _ => rfl) rfl (fun x h' h => h))
      refine w_go f_134_22 ?_
      exact H
  · have H := H.2 c
    refine w_ic f_134_7 ?_
    exact w_reti f_134_8 H
theorem g_134_38 {d : Nat} {G : am_G} {I : Nat → Nat → Int32} {J : Nat → Nat → Int64} {Q : am_O → am_H → Prop} (hR : q_RT G)  (H : q_W β xs L d 124 0 [.ref 59] [] (G, I, J) (q_Ri (fun y1 G1 I1 J1 => ((y1 = 0 → q_W β xs L (d + 1) 134 54 [.ref 59, .int (I 59 28)] [] (G1, I1, J1) Q) ∧ (¬ y1 = 0 → q_W β xs L d 119 0 [.ref 59, .retAddr 0] [] (G1, I1, J1) (q_Rv (fun G2 I2 J2 => q_W β xs L (d + 1) 134 54 [.ref 59, .int (I 59 28)] [] (G2, I2, J2) Q) (fun x2 G2 I2 J2 => Q (.inr x2) (G2, I2, J2)))))) (fun x1 G1 I1 J1 => Q (.inr x1) (G1, I1, J1)))) : q_W β xs L (d + 1) 134 38 [.ref 59, .retAddr 0] [] (G, I, J) Q := by
  refine w_al f_134_38 rfl ?_
  refine w_gi f_134_39 rfl ?_
  refine w_is (ls' := [.ref 59, .int (I 59 28)]) f_134_42 rfl ?_
  refine w_al f_134_43 rfl ?_
  refine w_inv (as := [.ref 59]) (st' := []) f_134_44 rfl rfl rfl rfl rfl rfl H (k_i (fun y1 G1 I1 J1 H => ?_)) (x_n (fun _ => rfl) rfl (fun x h' h => h))
  refine w_ifeq f_134_47 (fun c => ?_) (fun c => ?_)
  · have H := H.1 c
    exact H
  · have H := H.2 c
    refine w_al f_134_50 rfl ?_
    refine w_inv (as := [.ref 59, .retAddr 0]) (st' := []) f_134_51 rfl rfl rfl rfl rfl rfl H (k_v (fun G2 I2 J2 H => ?_)) (x_n (fun _ => rfl) rfl (fun x h' h => h))
    exact H
theorem g_134_54 {d : Nat} {G : am_G} {I : Nat → Nat → Int32} {J : Nat → Nat → Int64} {Q : am_O → am_H → Prop} (hR : q_RT G) (i1 : Int32) (H : Q (.inl (some (.int i1))) (G, I, J)) : q_W β xs L (d + 1) 134 54 [.ref 59, .int i1] [] (G, I, J) Q := by
  refine w_il f_134_54 rfl ?_
  exact w_reti f_134_55 H
theorem g_135_0 {d : Nat} {G : am_G} {I : Nat → Nat → Int32} {J : Nat → Nat → Int64} {Q : am_O → am_H → Prop} (hR : q_RT G) (i1 : Int32) (H : q_W β xs L d 122 0 [.ref 59, .retAddr 0] [] (G, I, J) (q_Ri (fun y1 G1 I1 J1 => ((y1 = 0 → q_W β xs L (d + 1) 135 24 [.ref 59, .int i1, .int y1, .retAddr 0] [] (G1, I1, J1) Q) ∧ (¬ y1 = 0 → ((y1 = 1 → q_W β xs L (d + 1) 135 24 [.ref 59, .int i1, .int y1, .retAddr 0] [] (G1, I1, J1) Q) ∧ (¬ y1 = 1 → ((y1 = 4 → q_W β xs L (d + 1) 135 24 [.ref 59, .int i1, .int y1, .retAddr 0] [] (G1, I1, J1) Q) ∧ (¬ y1 = 4 → q_W β xs L d 123 0 [.ref 59, .int 1] [] (G1, I1, J1) (q_Rv (fun G2 I2 J2 => q_W β xs L (d + 1) 135 24 [.ref 59, .int i1, .int y1, .retAddr 0] [] (G2, I2, J2) Q) (fun x2 G2 I2 J2 => Q (.inr x2) (G2, I2, J2)))))))))) (fun x1 G1 I1 J1 => Q (.inr x1) (G1, I1, J1)))) : q_W β xs L (d + 1) 135 0 [.ref 59, .int i1, .retAddr 0, .retAddr 0] [] (G, I, J) Q := by
  refine w_al f_135_0 rfl ?_
  refine w_inv (as := [.ref 59, .retAddr 0]) (st' := []) f_135_1 rfl rfl rfl rfl rfl rfl H (k_i (fun y1 G1 I1 J1 H => ?_)) (x_n (fun _ => rfl) rfl (fun x h' h => h))
  refine w_is (ls' := [.ref 59, .int i1, .int y1, .retAddr 0]) f_135_4 rfl ?_
  refine w_il f_135_5 rfl ?_
  refine w_ifeq f_135_6 (fun c => ?_) (fun c => ?_)
  · have H := H.1 c
    exact H
  · have H := H.2 c
    refine w_il f_135_9 rfl ?_
    refine w_ic f_135_10 ?_
    refine w_iceq f_135_11 (fun c => ?_) (fun c => ?_)
    · have H := H.1 c
      exact H
    · have H := H.2 c
      refine w_il f_135_14 rfl ?_
      refine w_ic f_135_15 ?_
      refine w_iceq f_135_16 (fun c => ?_) (fun c => ?_)
      · have H := H.1 c
        exact H
      · have H := H.2 c
        refine w_al f_135_19 rfl ?_
        refine w_ic f_135_20 ?_
        refine w_inv (as := [.ref 59, .int 1]) (st' := []) f_135_21 rfl rfl rfl rfl rfl rfl H (k_v (fun G2 I2 J2 H => ?_)) (x_n (fun _ => rfl) rfl (fun x h' h => h))
        exact H
theorem g_135_24 {d : Nat} {G : am_G} {I : Nat → Nat → Int32} {J : Nat → Nat → Int64} {Q : am_O → am_H → Prop} (hR : q_RT G) (i1 : Int32) (i2 : Int32) (H : (am_is i1 12 = true ∧ ((¬ (I 79 (i1).toNatClampNeg) = 12 → q_W β xs L (d + 1) 135 40 [.ref 59, .int i1, .int i2, .retAddr 0] [] (G, I, J) Q) ∧ ((I 79 (i1).toNatClampNeg) = 12 → q_W β xs L d 123 0 [.ref 59, .int 2] [] (G, I, J) (q_Rv (fun G1 I1 J1 => q_W β xs L (d + 1) 135 40 [.ref 59, .int i1, .int i2, .retAddr 0] [] (G1, I1, J1) Q) (fun x1 G1 I1 J1 => Q (.inr x1) (G1, I1, J1))))))) : q_W β xs L (d + 1) 135 24 [.ref 59, .int i1, .int i2, .retAddr 0] [] (G, I, J) Q := by
  refine w_al f_135_24 rfl ?_
  refine w_gr f_135_25 rfl (hR _ _ _ rfl) ?_
  refine w_il f_135_28 rfl ?_
  have hb := H.1
  have H := H.2
  refine w_ald f_135_29 rfl hb ?_
  refine w_ic f_135_30 ?_
  refine w_icne f_135_32 (fun c => ?_) (fun c => ?_)
  · have H := H.1 c
    exact H
  · have H := H.2 c
    refine w_al f_135_35 rfl ?_
    refine w_ic f_135_36 ?_
    refine w_inv (as := [.ref 59, .int 2]) (st' := []) f_135_37 rfl rfl rfl rfl rfl rfl H (k_v (fun G1 I1 J1 H => ?_)) (x_n (fun _ => rfl) rfl (fun x h' h => h))
    exact H
theorem g_135_40 {d : Nat} {G : am_G} {I : Nat → Nat → Int32} {J : Nat → Nat → Int64} {Q : am_O → am_H → Prop} (hR : q_RT G) (i1 : Int32) (i2 : Int32) (H : q_W β xs L d 124 0 [.ref 59] [] (G, I, J) (q_Ri (fun y1 G1 I1 J1 => (q_RT G1 ∧ ((¬ y1 = 0 → (am_is i1 12 = true ∧ (am_is i1 12 = true ∧ (am_is i1 12 = true ∧ (am_is ((12 * i1) + (I1 79 (i1).toNatClampNeg)) 144 = true ∧ q_W β xs L d 119 0 [.ref 59, .retAddr 0] [] (G1, (am_u (am_u I1 79 (i1).toNatClampNeg ((I1 79 (i1).toNatClampNeg) + 1)) 81 (((12 * i1) + (I1 79 (i1).toNatClampNeg))).toNatClampNeg i2), J1) (q_Rv (fun G2 I2 J2 => ((¬ i2 = 4 → q_W β xs L d 137 0 [.ref 59, .int ((12 * i1) + (I1 79 (i1).toNatClampNeg)), .retAddr 0] [] (G2, I2, J2) (q_Rv (fun G3 I3 J3 => q_W β xs L (d + 1) 135 99 [.ref 59, .int i1, .int i2, .int ((12 * i1) + (I1 79 (i1).toNatClampNeg))] [] (G3, I3, J3) Q) (fun x3 G3 I3 J3 => Q (.inr x3) (G3, I3, J3)))) ∧ (i2 = 4 → q_W β xs L d 136 0 [.ref 59, .int i1, .retAddr 0] [] (G2, I2, J2) (q_Rv (fun G4 I4 J4 => q_W β xs L (d + 1) 135 99 [.ref 59, .int i1, .int i2, .int ((12 * i1) + (I1 79 (i1).toNatClampNeg))] [] (G4, I4, J4) Q) (fun x4 G4 I4 J4 => Q (.inr x4) (G4, I4, J4)))))) (fun x2 G2 I2 J2 => Q (.inr x2) (G2, I2, J2)))))))) ∧ (y1 = 0 → Q (.inl none) (G1, I1, J1))))) (fun x1 G1 I1 J1 => Q (.inr x1) (G1, I1, J1)))) : q_W β xs L (d + 1) 135 40 [.ref 59, .int i1, .int i2, .retAddr 0] [] (G, I, J) Q := by
  refine w_al f_135_40 rfl ?_
  refine w_inv (as := [.ref 59]) (st' := []) f_135_41 rfl rfl rfl rfl rfl rfl H (k_i (fun y1 G1 I1 J1 H => ?_)) (x_n (fun _ => rfl) rfl (fun x h' h => h))
  have hR1 := H.1
  have H := H.2
  refine w_ifne f_135_44 (fun c => ?_) (fun c => ?_)
  · have H := H.1 c
    refine w_ic f_135_48 ?_
    refine w_il f_135_50 rfl ?_
    refine w_bin f_135_51 ?_
    refine w_al f_135_52 rfl ?_
    refine w_gr f_135_53 rfl (hR1 _ _ _ rfl) ?_
    refine w_il f_135_56 rfl ?_
    have hb := H.1
    have H := H.2
    refine w_ald f_135_57 rfl hb ?_
    refine w_bin f_135_58 ?_
    refine w_is (ls' := [.ref 59, .int i1, .int i2, .int ((12 * i1) + (I1 79 (i1).toNatClampNeg))]) f_135_59 rfl ?_
    refine w_al f_135_60 rfl ?_
    refine w_gr f_135_61 rfl (hR1 _ _ _ rfl) ?_
    refine w_il f_135_64 rfl ?_
    refine w_dup2 f_135_65 ?_
    have hb := H.1
    have H := H.2
    refine w_ald f_135_66 rfl hb ?_
    refine w_ic f_135_67 ?_
    refine w_bin f_135_68 ?_
    have hb := H.1
    have H := H.2
    refine w_ast f_135_69 rfl hb ?_
    refine w_al f_135_70 rfl ?_
    refine w_gr f_135_71 rfl (hR1 _ _ _ rfl) ?_
    refine w_il f_135_74 rfl ?_
    refine w_il f_135_75 rfl ?_
    have hb := H.1
    have H := H.2
    refine w_ast f_135_76 rfl hb ?_
    refine w_al f_135_77 rfl ?_
    refine w_inv (as := [.ref 59, .retAddr 0]) (st' := []) f_135_78 rfl rfl rfl rfl rfl rfl H (k_v (fun G2 I2 J2 H => ?_)) (x_n (fun _ => rfl) rfl (fun x h' h => h))
    refine w_il f_135_81 rfl ?_
    refine w_ic f_135_82 ?_
    refine w_icne f_135_83 (fun c => ?_) (fun c => ?_)
    · have H := H.1 c
      refine w_al f_135_94 rfl ?_
      refine w_il f_135_95 rfl ?_
      refine w_inv (as := [.ref 59, .int ((12 * i1) + (I1 79 (i1).toNatClampNeg)), .retAddr 0]) (st' := []) f_135_96 rfl rfl rfl rfl rfl rfl H (k_v (fun G3 I3 J3 H => ?_)) (x_n (fun _ => rfl) rfl (fun x h' h => h))
      exact H
    · have H := H.2 c
      refine w_al f_135_86 rfl ?_
      refine w_il f_135_87 rfl ?_
      refine w_inv (as := [.ref 59, .int i1, .retAddr 0]) (st' := []) f_135_88 rfl rfl rfl rfl rfl rfl H (k_v (fun G4 I4 J4 H => ?_)) (x_n (fun _ => rfl) rfl (fun x h' h => h))
      refine w_go f_135_91 ?_
      exact H
  · have H := H.2 c
    exact w_ret0 f_135_47 H
theorem g_135_99 {d : Nat} {G : am_G} {I : Nat → Nat → Int32} {J : Nat → Nat → Int64} {Q : am_O → am_H → Prop} (hR : q_RT G) (i1 : Int32) (i2 : Int32) (i3 : Int32) (H : q_W β xs L d 124 0 [.ref 59] [] (G, I, J) (q_Ri (fun y1 G1 I1 J1 => ((¬ y1 = 0 → q_W β xs L d 125 0 [.ref 59, .int 59] [] (G1, I1, J1) (q_Ri (fun y2 G2 I2 J2 => ((y2 = 0 → q_W β xs L d 123 0 [.ref 59, .int 1] [] (G2, I2, J2) (q_Rv (fun G3 I3 J3 => q_W β xs L (d + 1) 135 128 [.ref 59, .int i1, .int i2, .int i3] [] (G3, I3, J3) Q) (fun x3 G3 I3 J3 => Q (.inr x3) (G3, I3, J3)))) ∧ (¬ y2 = 0 → q_W β xs L d 119 0 [.ref 59, .retAddr 0] [] (G2, I2, J2) (q_Rv (fun G4 I4 J4 => q_W β xs L (d + 1) 135 128 [.ref 59, .int i1, .int i2, .int i3] [] (G4, I4, J4) Q) (fun x4 G4 I4 J4 => Q (.inr x4) (G4, I4, J4)))))) (fun x2 G2 I2 J2 => Q (.inr x2) (G2, I2, J2)))) ∧ (y1 = 0 → Q (.inl none) (G1, I1, J1)))) (fun x1 G1 I1 J1 => Q (.inr x1) (G1, I1, J1)))) : q_W β xs L (d + 1) 135 99 [.ref 59, .int i1, .int i2, .int i3] [] (G, I, J) Q := by
  refine w_al f_135_99 rfl ?_
  refine w_inv (as := [.ref 59]) (st' := []) f_135_100 rfl rfl rfl rfl rfl rfl H (k_i (fun y1 G1 I1 J1 H => ?_)) (x_n (fun _ => rfl) rfl (fun x h' h => h))
  refine w_ifne f_135_103 (fun c => ?_) (fun c => ?_)
  · have H := H.1 c
    refine w_al f_135_107 rfl ?_
    refine w_ic f_135_108 ?_
    refine w_inv (as := [.ref 59, .int 59]) (st' := []) f_135_110 rfl rfl rfl rfl rfl rfl H (k_i (fun y2 G2 I2 J2 H => ?_)) (x_n (fun _ => rfl) rfl (fun x h' h => h))
    refine w_ifeq f_135_113 (fun c => ?_) (fun c => ?_)
    · have H := H.1 c
      refine w_al f_135_123 rfl ?_
      refine w_ic f_135_124 ?_
      refine w_inv (as := [.ref 59, .int 1]) (st' := []) f_135_125 rfl rfl rfl rfl rfl rfl H (k_v (fun G3 I3 J3 H => ?_)) (x_n (fun _ => rfl) rfl (fun x h' h => h))
      exact H
    · have H := H.2 c
      refine w_al f_135_116 rfl ?_
      refine w_inv (as := [.ref 59, .retAddr 0]) (st' := []) f_135_117 rfl rfl rfl rfl rfl rfl H (k_v (fun G4 I4 J4 H => ?_)) (x_n (fun _ => rfl) rfl (fun x h' h => h))
      refine w_go f_135_120 ?_
      exact H
  · have H := H.2 c
    exact w_ret0 f_135_106 H
theorem g_135_128 {d : Nat} {G : am_G} {I : Nat → Nat → Int32} {J : Nat → Nat → Int64} {Q : am_O → am_H → Prop} (hR : q_RT G) (i1 : Int32) (i2 : Int32) (i3 : Int32) (H : Q (.inl none) (G, I, J)) : q_W β xs L (d + 1) 135 128 [.ref 59, .int i1, .int i2, .int i3] [] (G, I, J) Q := by
  exact w_ret0 f_135_128 H
theorem g_136_0 {d : Nat} {G : am_G} {I : Nat → Nat → Int32} {J : Nat → Nat → Int64} {Q : am_O → am_H → Prop} (hR : q_RT G) (i1 : Int32) (H : ((¬ (I 59 25) = 2 → q_W β xs L (d + 1) 136 50 [.ref 59, .int i1, .retAddr 0] [] (G, I, J) Q) ∧ ((I 59 25) = 2 → ((5 < (I 59 27) → q_W β xs L (d + 1) 136 50 [.ref 59, .int i1, .retAddr 0] [] (G, I, J) Q) ∧ (¬ 5 < (I 59 27) → ((¬ (I 59 28) < (I 59 32) → q_W β xs L (d + 1) 136 45 [.ref 59, .int i1, .retAddr 0] [] (G, I, J) Q) ∧ ((I 59 28) < (I 59 32) → (am_is (I 59 28) 12 = true ∧ (am_is i1 12 = true ∧ (((I 74 ((I 59 28)).toNatClampNeg) = (I 74 (i1).toNatClampNeg) → q_W β xs L (d + 1) 136 50 [.ref 59, .int i1, .retAddr 0] [] (G, I, J) Q) ∧ (¬ (I 74 ((I 59 28)).toNatClampNeg) = (I 74 (i1).toNatClampNeg) → q_W β xs L (d + 1) 136 45 [.ref 59, .int i1, .retAddr 0] [] (G, I, J) Q))))))))))) : q_W β xs L (d + 1) 136 0 [.ref 59, .int i1, .retAddr 0] [] (G, I, J) Q := by
  refine w_al f_136_0 rfl ?_
  refine w_gi f_136_1 rfl ?_
  refine w_ic f_136_4 ?_
  refine w_icne f_136_5 (fun c => ?_) (fun c => ?_)
  · have H := H.1 c
    exact H
  · have H := H.2 c
    refine w_al f_136_8 rfl ?_
    refine w_gi f_136_9 rfl ?_
    refine w_ic f_136_12 ?_
    refine w_icgt f_136_13 (fun c => ?_) (fun c => ?_)
    · have H := H.1 c
      exact H
    · have H := H.2 c
      refine w_al f_136_16 rfl ?_
      refine w_gi f_136_17 rfl ?_
      refine w_al f_136_20 rfl ?_
      refine w_gi f_136_21 rfl ?_
      refine w_icge f_136_24 (fun c => ?_) (fun c => ?_)
      · have H := H.1 c
        exact H
      · have H := H.2 c
        refine w_al f_136_27 rfl ?_
        refine w_gr f_136_28 rfl (hR _ _ _ rfl) ?_
        refine w_al f_136_31 rfl ?_
        refine w_gi f_136_32 rfl ?_
        have hb := H.1
        have H := H.2
        refine w_ald f_136_35 rfl hb ?_
        refine w_al f_136_36 rfl ?_
        refine w_gr f_136_37 rfl (hR _ _ _ rfl) ?_
        refine w_il f_136_40 rfl ?_
        have hb := H.1
        have H := H.2
        refine w_ald f_136_41 rfl hb ?_
        refine w_iceq f_136_42 (fun c => ?_) (fun c => ?_)
        · have H := H.1 c
          exact H
        · have H := H.2 c
          exact H
theorem g_136_45 {d : Nat} {G : am_G} {I : Nat → Nat → Int32} {J : Nat → Nat → Int64} {Q : am_O → am_H → Prop} (hR : q_RT G) (i1 : Int32) (H : q_W β xs L d 123 0 [.ref 59, .int 4] [] (G, I, J) (q_Rv (fun G1 I1 J1 => q_W β xs L (d + 1) 136 50 [.ref 59, .int i1, .retAddr 0] [] (G1, I1, J1) Q) (fun x1 G1 I1 J1 => Q (.inr x1) (G1, I1, J1)))) : q_W β xs L (d + 1) 136 45 [.ref 59, .int i1, .retAddr 0] [] (G, I, J) Q := by
  refine w_al f_136_45 rfl ?_
  refine w_ic f_136_46 ?_
  refine w_inv (as := [.ref 59, .int 4]) (st' := []) f_136_47 rfl rfl rfl rfl rfl rfl H (k_v (fun G1 I1 J1 H => ?_)) (x_n (fun _ => rfl) rfl (fun x h' h => h))
  exact H
theorem g_136_50 {d : Nat} {G : am_G} {I : Nat → Nat → Int32} {J : Nat → Nat → Int64} {Q : am_O → am_H → Prop} (hR : q_RT G) (i1 : Int32) (H : q_W β xs L d 134 0 [.ref 59, .retAddr 0] [] (G, I, J) (q_Ri (fun y1 G1 I1 J1 => q_W β xs L d 124 0 [.ref 59] [] (G1, I1, J1) (q_Ri (fun y2 G2 I2 J2 => (q_RT G2 ∧ ((y2 = 0 → q_W β xs L (d + 1) 136 74 [.ref 59, .int i1, .int y1] [] (G2, I2, J2) Q) ∧ (¬ y2 = 0 → (am_is i1 12 = true ∧ (am_is i1 12 = true ∧ q_W β xs L (d + 1) 136 74 [.ref 59, .int i1, .int y1] [] (G2, (am_u I2 80 (i1).toNatClampNeg ((I2 80 (i1).toNatClampNeg) ||| (1 <<< (y1 &&& 31)))), J2) Q)))))) (fun x2 G2 I2 J2 => Q (.inr x2) (G2, I2, J2)))) (fun x1 G1 I1 J1 => Q (.inr x1) (G1, I1, J1)))) : q_W β xs L (d + 1) 136 50 [.ref 59, .int i1, .retAddr 0] [] (G, I, J) Q := by
  refine w_al f_136_50 rfl ?_
  refine w_inv (as := [.ref 59, .retAddr 0]) (st' := []) f_136_51 rfl rfl rfl rfl rfl rfl H (k_i (fun y1 G1 I1 J1 H => ?_)) (x_n (fun _ => rfl) rfl (fun x h' h => h))
  refine w_is (ls' := [.ref 59, .int i1, .int y1]) f_136_54 rfl ?_
  refine w_al f_136_55 rfl ?_
  refine w_inv (as := [.ref 59]) (st' := []) f_136_56 rfl rfl rfl rfl rfl rfl H (k_i (fun y2 G2 I2 J2 H => ?_)) (x_n (fun _ => rfl) rfl (fun x h' h => h))
  have hR2 := H.1
  have H := H.2
  refine w_ifeq f_136_59 (fun c => ?_) (fun c => ?_)
  · have H := H.1 c
    exact H
  · have H := H.2 c
    refine w_al f_136_62 rfl ?_
    refine w_gr f_136_63 rfl (hR2 _ _ _ rfl) ?_
    refine w_il f_136_66 rfl ?_
    refine w_dup2 f_136_67 ?_
    have hb := H.1
    have H := H.2
    refine w_ald f_136_68 rfl hb ?_
    refine w_ic f_136_69 ?_
    refine w_il f_136_70 rfl ?_
    refine w_bin f_136_71 ?_
    refine w_bin f_136_72 ?_
    have hb := H.1
    have H := H.2
    refine w_ast f_136_73 rfl hb ?_
    exact H
theorem g_136_74 {d : Nat} {G : am_G} {I : Nat → Nat → Int32} {J : Nat → Nat → Int64} {Q : am_O → am_H → Prop} (hR : q_RT G) (i1 : Int32) (i2 : Int32) (H : Q (.inl none) (G, I, J)) : q_W β xs L (d + 1) 136 74 [.ref 59, .int i1, .int i2] [] (G, I, J) Q := by
  exact w_ret0 f_136_74 H
theorem g_137_0 {d : Nat} {G : am_G} {I : Nat → Nat → Int32} {J : Nat → Nat → Int64} {Q : am_O → am_H → Prop} (hR : q_RT G) (i1 : Int32) (H : q_W β xs L d 122 0 [.ref 59, .retAddr 0] [] (G, I, J) (q_Ri (fun y1 G1 I1 J1 => ((y1 < 8 → q_W β xs L (d + 1) 137 17 [.ref 59, .int i1, .int y1] [] (G1, I1, J1) Q) ∧ (¬ y1 < 8 → ((¬ 14 < y1 → q_W β xs L (d + 1) 137 22 [.ref 59, .int i1, .int y1] [] (G1, I1, J1) Q) ∧ (14 < y1 → q_W β xs L (d + 1) 137 17 [.ref 59, .int i1, .int y1] [] (G1, I1, J1) Q))))) (fun x1 G1 I1 J1 => Q (.inr x1) (G1, I1, J1)))) : q_W β xs L (d + 1) 137 0 [.ref 59, .int i1, .retAddr 0] [] (G, I, J) Q := by
  refine w_al f_137_0 rfl ?_
  refine w_inv (as := [.ref 59, .retAddr 0]) (st' := []) f_137_1 rfl rfl rfl rfl rfl rfl H (k_i (fun y1 G1 I1 J1 H => ?_)) (x_n (fun _ => rfl) rfl (fun x h' h => h))
  refine w_is (ls' := [.ref 59, .int i1, .int y1]) f_137_4 rfl ?_
  refine w_il f_137_5 rfl ?_
  refine w_ic f_137_6 ?_
  refine w_iclt f_137_8 (fun c => ?_) (fun c => ?_)
  · have H := H.1 c
    exact H
  · have H := H.2 c
    refine w_il f_137_11 rfl ?_
    refine w_ic f_137_12 ?_
    refine w_icle f_137_14 (fun c => ?_) (fun c => ?_)
    · have H := H.1 c
      exact H
    · have H := H.2 c
      exact H
theorem g_137_17 {d : Nat} {G : am_G} {I : Nat → Nat → Int32} {J : Nat → Nat → Int64} {Q : am_O → am_H → Prop} (hR : q_RT G) (i1 : Int32) (i2 : Int32) (H : q_W β xs L d 123 0 [.ref 59, .int 1] [] (G, I, J) (q_Rv (fun G1 I1 J1 => q_W β xs L (d + 1) 137 22 [.ref 59, .int i1, .int i2] [] (G1, I1, J1) Q) (fun x1 G1 I1 J1 => Q (.inr x1) (G1, I1, J1)))) : q_W β xs L (d + 1) 137 17 [.ref 59, .int i1, .int i2] [] (G, I, J) Q := by
  refine w_al f_137_17 rfl ?_
  refine w_ic f_137_18 ?_
  refine w_inv (as := [.ref 59, .int 1]) (st' := []) f_137_19 rfl rfl rfl rfl rfl rfl H (k_v (fun G1 I1 J1 H => ?_)) (x_n (fun _ => rfl) rfl (fun x h' h => h))
  exact H
theorem g_137_22 {d : Nat} {G : am_G} {I : Nat → Nat → Int32} {J : Nat → Nat → Int64} {Q : am_O → am_H → Prop} (hR : q_RT G) (i1 : Int32) (i2 : Int32) (H : q_W β xs L d 124 0 [.ref 59] [] (G, I, J) (q_Ri (fun y1 G1 I1 J1 => (q_RT G1 ∧ ((¬ y1 = 0 → (am_is i1 144 = true ∧ q_W β xs L d 119 0 [.ref 59, .retAddr 0] [] (G1, (am_u I1 82 (i1).toNatClampNeg i2), J1) (q_Rv (fun G2 I2 J2 => (q_RT G2 ∧ q_W β xs L d 133 0 [.ref 59, .retAddr 0, .retAddr 0, .retAddr 0] [] (G2, I2, J2) (q_Ri (fun y3 G3 I3 J3 => (q_RT G3 ∧ (am_is i1 144 = true ∧ (am_is i1 144 = true ∧ (am_is i1 144 = true ∧ q_W β xs L d 124 0 [.ref 59] [] (G3, (am_u (am_u (am_u I3 83 (i1).toNatClampNeg y3) 84 (i1).toNatClampNeg (-1)) 85 (i1).toNatClampNeg (-1)), J3) (q_Ri (fun y4 G4 I4 J4 => ((y4 = 0 → q_W β xs L (d + 1) 137 94 [.ref 59, .int i1, .int i2] [] (G4, I4, J4) Q) ∧ (¬ y4 = 0 → q_W β xs L d 122 0 [.ref 59, .retAddr 0] [] (G4, I4, J4) (q_Ri (fun y5 G5 I5 J5 => ((¬ y5 = 2 → q_W β xs L (d + 1) 137 94 [.ref 59, .int i1, .int i2] [] (G5, I5, J5) Q) ∧ (y5 = 2 → q_W β xs L d 119 0 [.ref 59, .retAddr 0] [] (G5, I5, J5) (q_Rv (fun G6 I6 J6 => (q_RT G6 ∧ q_W β xs L d 133 0 [.ref 59, .retAddr 0, .retAddr 0, .retAddr 0] [] (G6, I6, J6) (q_Ri (fun y7 G7 I7 J7 => (am_is i1 144 = true ∧ q_W β xs L (d + 1) 137 94 [.ref 59, .int i1, .int i2] [] (G7, (am_u I7 84 (i1).toNatClampNeg y7), J7) Q)) (fun x7 G7 I7 J7 => Q (.inr x7) (G7, I7, J7))))) (fun x6 G6 I6 J6 => Q (.inr x6) (G6, I6, J6)))))) (fun x5 G5 I5 J5 => Q (.inr x5) (G5, I5, J5)))))) (fun x4 G4 I4 J4 => Q (.inr x4) (G4, I4, J4)))))))) (fun x3 G3 I3 J3 => Q (.inr x3) (G3, I3, J3))))) (fun x2 G2 I2 J2 => Q (.inr x2) (G2, I2, J2))))) ∧ (y1 = 0 → Q (.inl none) (G1, I1, J1))))) (fun x1 G1 I1 J1 => Q (.inr x1) (G1, I1, J1)))) : q_W β xs L (d + 1) 137 22 [.ref 59, .int i1, .int i2] [] (G, I, J) Q := by
  refine w_al f_137_22 rfl ?_
  refine w_inv (as := [.ref 59]) (st' := []) f_137_23 rfl rfl rfl rfl rfl rfl H (k_i (fun y1 G1 I1 J1 H => ?_)) (x_n (fun _ => rfl) rfl (fun x h' h => h))
  have hR1 := H.1
  have H := H.2
  refine w_ifne f_137_26 (fun c => ?_) (fun c => ?_)
  · have H := H.1 c
    refine w_al f_137_30 rfl ?_
    refine w_gr f_137_31 rfl (hR1 _ _ _ rfl) ?_
    refine w_il f_137_34 rfl ?_
    refine w_il f_137_35 rfl ?_
    have hb := H.1
    have H := H.2
    refine w_ast f_137_36 rfl hb ?_
    refine w_al f_137_37 rfl ?_
    refine w_inv (as := [.ref 59, .retAddr 0]) (st' := []) f_137_38 rfl rfl rfl rfl rfl rfl H (k_v (fun G2 I2 J2 H => ?_)) (x_n (fun _ => rfl) rfl (fun x h' h => h))
    have hR2 := H.1
    have H := H.2
    refine w_al f_137_41 rfl ?_
    refine w_gr f_137_42 rfl (hR2 _ _ _ rfl) ?_
    refine w_il f_137_45 rfl ?_
    refine w_al f_137_46 rfl ?_
    refine w_inv (as := [.ref 59, .retAddr 0, .retAddr 0, .retAddr 0]) (st' := [.int i1, .ref 83]) f_137_47 rfl rfl rfl rfl rfl rfl H (k_i (fun y3 G3 I3 J3 H => ?_)) (x_n (fun _ => rfl) rfl (fun x h' h => h))
    have hR3 := H.1
    have H := H.2
    have hb := H.1
    have H := H.2
    refine w_ast f_137_50 rfl hb ?_
    refine w_al f_137_51 rfl ?_
    refine w_gr f_137_52 rfl (hR3 _ _ _ rfl) ?_
    refine w_il f_137_55 rfl ?_
    refine w_ic f_137_56 ?_
    have hb := H.1
    have H := H.2
    refine w_ast f_137_57 rfl hb ?_
    refine w_al f_137_58 rfl ?_
    refine w_gr f_137_59 rfl (hR3 _ _ _ rfl) ?_
    refine w_il f_137_62 rfl ?_
    refine w_ic f_137_63 ?_
    have hb := H.1
    have H := H.2
    refine w_ast f_137_64 rfl hb ?_
    refine w_al f_137_65 rfl ?_
    refine w_inv (as := [.ref 59]) (st' := []) f_137_66 rfl rfl rfl rfl rfl rfl H (k_i (fun y4 G4 I4 J4 H => ?_)) (x_n (fun _ => rfl) rfl (fun x h' h => h))
    refine w_ifeq f_137_69 (fun c => ?_) (fun c => ?_)
    · have H := H.1 c
      exact H
    · have H := H.2 c
      refine w_al f_137_72 rfl ?_
      refine w_inv (as := [.ref 59, .retAddr 0]) (st' := []) f_137_73 rfl rfl rfl rfl rfl rfl H (k_i (fun y5 G5 I5 J5 H => ?_)) (x_n (fun _ => rfl) rfl (fun x h' h => h))
      refine w_ic f_137_76 ?_
      refine w_icne f_137_77 (fun c => ?_) (fun c => ?_)
      · have H := H.1 c
        exact H
      · have H := H.2 c
        refine w_al f_137_80 rfl ?_
        refine w_inv (as := [.ref 59, .retAddr 0]) (st' := []) f_137_81 rfl rfl rfl rfl rfl rfl H (k_v (fun G6 I6 J6 H => ?_)) (x_n (fun _ => rfl) rfl (fun x h' h => h))
        have hR6 := H.1
        have H := H.2
        refine w_al f_137_84 rfl ?_
        refine w_gr f_137_85 rfl (hR6 _ _ _ rfl) ?_
        refine w_il f_137_88 rfl ?_
        refine w_al f_137_89 rfl ?_
        refine w_inv (as := [.ref 59, .retAddr 0, .retAddr 0, .retAddr 0]) (st' := [.int i1, .ref 84]) f_137_90 rfl rfl rfl rfl rfl rfl H (k_i (fun y7 G7 I7 J7 H => ?_)) (x_n (fun _ => rfl) rfl (fun x h' h => h))
        have hb := H.1
        have H := H.2
        refine w_ast f_137_93 rfl hb ?_
        exact H
  · have H := H.2 c
    exact w_ret0 f_137_29 H
theorem g_137_94 {d : Nat} {G : am_G} {I : Nat → Nat → Int32} {J : Nat → Nat → Int64} {Q : am_O → am_H → Prop} (hR : q_RT G) (i1 : Int32) (i2 : Int32) (H : q_W β xs L d 124 0 [.ref 59] [] (G, I, J) (q_Ri (fun y1 G1 I1 J1 => ((y1 = 0 → q_W β xs L (d + 1) 137 123 [.ref 59, .int i1, .int i2] [] (G1, I1, J1) Q) ∧ (¬ y1 = 0 → q_W β xs L d 122 0 [.ref 59, .retAddr 0] [] (G1, I1, J1) (q_Ri (fun y2 G2 I2 J2 => ((¬ y2 = 3 → q_W β xs L (d + 1) 137 123 [.ref 59, .int i1, .int i2] [] (G2, I2, J2) Q) ∧ (y2 = 3 → q_W β xs L d 119 0 [.ref 59, .retAddr 0] [] (G2, I2, J2) (q_Rv (fun G3 I3 J3 => (q_RT G3 ∧ q_W β xs L d 134 0 [.ref 59, .retAddr 0] [] (G3, I3, J3) (q_Ri (fun y4 G4 I4 J4 => (am_is i1 144 = true ∧ q_W β xs L (d + 1) 137 123 [.ref 59, .int i1, .int i2] [] (G4, (am_u I4 85 (i1).toNatClampNeg y4), J4) Q)) (fun x4 G4 I4 J4 => Q (.inr x4) (G4, I4, J4))))) (fun x3 G3 I3 J3 => Q (.inr x3) (G3, I3, J3)))))) (fun x2 G2 I2 J2 => Q (.inr x2) (G2, I2, J2)))))) (fun x1 G1 I1 J1 => Q (.inr x1) (G1, I1, J1)))) : q_W β xs L (d + 1) 137 94 [.ref 59, .int i1, .int i2] [] (G, I, J) Q := by
  refine w_al f_137_94 rfl ?_
  refine w_inv (as := [.ref 59]) (st' := []) f_137_95 rfl rfl rfl rfl rfl rfl H (k_i (fun y1 G1 I1 J1 H => ?_)) (x_n (fun _ => rfl) rfl (fun x h' h => h))
  refine w_ifeq f_137_98 (fun c => ?_) (fun c => ?_)
  · have H := H.1 c
    exact H
  · have H := H.2 c
    refine w_al f_137_101 rfl ?_
    refine w_inv (as := [.ref 59, .retAddr 0]) (st' := []) f_137_102 rfl rfl rfl rfl rfl rfl H (k_i (fun y2 G2 I2 J2 H => ?_)) (x_n (fun _ => rfl) rfl (fun x h' h => h))
    refine w_ic f_137_105 ?_
    refine w_icne f_137_106 (fun c => ?_) (fun c => ?_)
    · have H := H.1 c
      exact H
    · have H := H.2 c
      refine w_al f_137_109 rfl ?_
      refine w_inv (as := [.ref 59, .retAddr 0]) (st' := []) f_137_110 rfl rfl rfl rfl rfl rfl H (k_v (fun G3 I3 J3 H => ?_)) (x_n (fun _ => rfl) rfl (fun x h' h => h))
      have hR3 := H.1
      have H := H.2
      refine w_al f_137_113 rfl ?_
      refine w_gr f_137_114 rfl (hR3 _ _ _ rfl) ?_
      refine w_il f_137_117 rfl ?_
      refine w_al f_137_118 rfl ?_
      refine w_inv (as := [.ref 59, .retAddr 0]) (st' := [.int i1, .ref 85]) f_137_119 rfl rfl rfl rfl rfl rfl H (k_i (fun y4 G4 I4 J4 H => ?_)) (x_n (fun _ => rfl) rfl (fun x h' h => h))
      have hb := H.1
      have H := H.2
      refine w_ast f_137_122 rfl hb ?_
      exact H
theorem g_137_123 {d : Nat} {G : am_G} {I : Nat → Nat → Int32} {J : Nat → Nat → Int64} {Q : am_O → am_H → Prop} (hR : q_RT G) (i1 : Int32) (i2 : Int32) (H : Q (.inl none) (G, I, J)) : q_W β xs L (d + 1) 137 123 [.ref 59, .int i1, .int i2] [] (G, I, J) Q := by
  exact w_ret0 f_137_123 H
theorem g_138_0 {d : Nat} {G : am_G} {I : Nat → Nat → Int32} {J : Nat → Nat → Int64} {Q : am_O → am_H → Prop} (hR : q_RT G) (i1 : Int32) (i2 : Int32) (i3 : Int32) (i4 : Int32) (H : q_W β xs L d 108 0 [.ref 59, .int i1] [] (G, (am_u I 59 0 0), J) (q_Ri (fun y1 G1 I1 J1 => ((y1 = 0 → q_W β xs L (d + 1) 138 38 [.ref 59, .int i1, .int i2, .int i3, .int i4, .retAddr 0] [] (G1, I1, J1) Q) ∧ (¬ y1 = 0 → ((i2 < 0 → q_W β xs L (d + 1) 138 30 [.ref 59, .int i1, .int i2, .int i3, .int i4, .retAddr 0] [.ref 59] (G1, I1, J1) Q) ∧ (¬ i2 < 0 → (((I1 59 20) < i2 → q_W β xs L (d + 1) 138 30 [.ref 59, .int i1, .int i2, .int i3, .int i4, .retAddr 0] [.ref 59] (G1, I1, J1) Q) ∧ (¬ (I1 59 20) < i2 → q_W β xs L (d + 1) 138 31 [.ref 59, .int i1, .int i2, .int i3, .int i4, .retAddr 0] [.int 1, .ref 59] (G1, I1, J1) Q))))))) (fun x1 G1 I1 J1 => Q (.inr x1) (G1, I1, J1)))) : q_W β xs L (d + 1) 138 0 [.ref 59, .int i1, .int i2, .int i3, .int i4, .retAddr 0] [] (G, I, J) Q := by
  refine w_al f_138_0 rfl ?_
  refine w_ic f_138_1 ?_
  refine w_pi f_138_2 rfl ?_
  refine w_al f_138_5 rfl ?_
  refine w_il f_138_6 rfl ?_
  refine w_inv (as := [.ref 59, .int i1]) (st' := []) f_138_7 rfl rfl rfl rfl rfl rfl H (k_i (fun y1 G1 I1 J1 H => ?_)) (x_n (fun _ => rfl) rfl (fun x h' h => h))
  refine w_ifeq f_138_10 (fun c => ?_) (fun c => ?_)
  · have H := H.1 c
    exact H
  · have H := H.2 c
    refine w_al f_138_13 rfl ?_
    refine w_il f_138_14 rfl ?_
    refine w_iflt f_138_15 (fun c => ?_) (fun c => ?_)
    · have H := H.1 c
      exact H
    · have H := H.2 c
      refine w_il f_138_18 rfl ?_
      refine w_al f_138_19 rfl ?_
      refine w_gi f_138_20 rfl ?_
      refine w_icgt f_138_23 (fun c => ?_) (fun c => ?_)
      · have H := H.1 c
        exact H
      · have H := H.2 c
        refine w_ic f_138_26 ?_
        refine w_go f_138_27 ?_
        exact H
theorem g_138_30 {d : Nat} {G : am_G} {I : Nat → Nat → Int32} {J : Nat → Nat → Int64} {Q : am_O → am_H → Prop} (hR : q_RT G) (i1 : Int32) (i2 : Int32) (i3 : Int32) (i4 : Int32) (H : q_W β xs L (d + 1) 138 31 [.ref 59, .int i1, .int i2, .int i3, .int i4, .retAddr 0] [.int 0, .ref 59] (G, I, J) Q) : q_W β xs L (d + 1) 138 30 [.ref 59, .int i1, .int i2, .int i3, .int i4, .retAddr 0] [.ref 59] (G, I, J) Q := by
  refine w_ic f_138_30 ?_
  exact H
theorem g_138_31 {d : Nat} {G : am_G} {I : Nat → Nat → Int32} {J : Nat → Nat → Int64} {Q : am_O → am_H → Prop} (hR : q_RT G) (i1 : Int32) (i2 : Int32) (i3 : Int32) (i4 : Int32) (is0 : Int32) (H : q_W β xs L d 103 0 [.ref 59, .int is0, .int 2] [] (G, I, J) (q_Ri (fun y1 G1 I1 J1 => ((¬ y1 = 0 → (((I1 59 32) = 12 → q_W β xs L (d + 1) 138 79 [.ref 59, .int i1, .int i2, .int i3, .int i4, .retAddr 0] [] (G1, (am_u (am_u (am_u I1 59 20 0) 59 22 (-1)) 59 21 0), J1) Q) ∧ (¬ (I1 59 32) = 12 → q_W β xs L d 109 0 [.int i3] [] (G1, (am_u (am_u (am_u I1 59 20 0) 59 22 (-1)) 59 21 0), J1) (q_Ri (fun y2 G2 I2 J2 => ((y2 = 0 → q_W β xs L (d + 1) 138 79 [.ref 59, .int i1, .int i2, .int i3, .int i4, .retAddr 0] [] (G2, I2, J2) Q) ∧ (¬ y2 = 0 → q_W β xs L d 109 0 [.int i4] [] (G2, I2, J2) (q_Ri (fun y3 G3 I3 J3 => (q_RT G3 ∧ ((¬ y3 = 0 → (am_is (I3 59 32) 12 = true ∧ (am_is (I3 59 32) 12 = true ∧ (am_is (I3 59 32) 12 = true ∧ q_W β xs L d 119 0 [.ref 59, .retAddr 0] [] (G3, (am_u (am_u (am_u (am_u (am_u (am_u I3 59 23 i2) 59 24 0) 59 33 (1210 * (I3 59 32))) 74 ((I3 59 32)).toNatClampNeg i1) 79 ((I3 59 32)).toNatClampNeg 0) 80 ((I3 59 32)).toNatClampNeg 0), J3) (q_Rv (fun G4 I4 J4 => q_W β xs L (d + 1) 138 136 [.ref 59, .int i1, .int i2, .int i3, .int i4, .int (I3 59 32)] [] (G4, I4, J4) Q) (fun x4 G4 I4 J4 => Q (.inr x4) (G4, I4, J4))))))) ∧ (y3 = 0 → q_W β xs L (d + 1) 138 79 [.ref 59, .int i1, .int i2, .int i3, .int i4, .retAddr 0] [] (G3, I3, J3) Q)))) (fun x3 G3 I3 J3 => Q (.inr x3) (G3, I3, J3)))))) (fun x2 G2 I2 J2 => Q (.inr x2) (G2, I2, J2)))))) ∧ (y1 = 0 → q_W β xs L (d + 1) 138 38 [.ref 59, .int i1, .int i2, .int i3, .int i4, .retAddr 0] [] (G1, I1, J1) Q))) (fun x1 G1 I1 J1 => Q (.inr x1) (G1, I1, J1)))) : q_W β xs L (d + 1) 138 31 [.ref 59, .int i1, .int i2, .int i3, .int i4, .retAddr 0] [.int is0, .ref 59] (G, I, J) Q := by
  refine w_ic f_138_31 ?_
  refine w_inv (as := [.ref 59, .int is0, .int 2]) (st' := []) f_138_32 rfl rfl rfl rfl rfl rfl H (k_i (fun y1 G1 I1 J1 H => ?_)) (x_n (fun _ => rfl) rfl (fun x h' h => h))
  refine w_ifne f_138_35 (fun c => ?_) (fun c => ?_)
  · have H := H.1 c
    refine w_al f_138_40 rfl ?_
    refine w_ic f_138_41 ?_
    refine w_pi f_138_42 rfl ?_
    refine w_al f_138_45 rfl ?_
    refine w_ic f_138_46 ?_
    refine w_pi f_138_47 rfl ?_
    refine w_al f_138_50 rfl ?_
    refine w_ic f_138_51 ?_
    refine w_pi f_138_52 rfl ?_
    refine w_al f_138_55 rfl ?_
    refine w_gi' f_138_56 rfl ((am_u_ne (Or.inr (by decide))).trans ((am_u_ne (Or.inr (by decide))).trans (am_u_ne (Or.inr (by decide))))) ?_
    refine w_ic f_138_59 ?_
    refine w_iceq f_138_61 (fun c => ?_) (fun c => ?_)
    · have H := H.1 c
      exact H
    · have H := H.2 c
      refine w_il f_138_64 rfl ?_
      refine w_invs (as := [.int i3]) (st' := []) f_138_65 rfl rfl rfl rfl rfl H (k_i (fun y2 G2 I2 J2 H => ?_)) (x_n (fun _ => rfl) rfl (fun x h' h => h))
      refine w_ifeq f_138_68 (fun c => ?_) (fun c => ?_)
      · have H := H.1 c
        exact H
      · have H := H.2 c
        refine w_il f_138_71 rfl ?_
        refine w_invs (as := [.int i4]) (st' := []) f_138_73 rfl rfl rfl rfl rfl H (k_i (fun y3 G3 I3 J3 H => ?_)) (x_n (fun _ => rfl) rfl (fun x h' h => h))
        have hR3 := H.1
        have H := H.2
        refine w_ifne f_138_76 (fun c => ?_) (fun c => ?_)
        · have H := H.1 c
          refine w_al f_138_82 rfl ?_
          refine w_gi f_138_83 rfl ?_
          refine w_is (ls' := [.ref 59, .int i1, .int i2, .int i3, .int i4, .int (I3 59 32)]) f_138_86 rfl ?_
          refine w_al f_138_88 rfl ?_
          refine w_il f_138_89 rfl ?_
          refine w_pi f_138_90 rfl ?_
          refine w_al f_138_93 rfl ?_
          refine w_ic f_138_94 ?_
          refine w_pi f_138_95 rfl ?_
          refine w_al f_138_98 rfl ?_
          refine w_ic f_138_99 ?_
          refine w_il f_138_102 rfl ?_
          refine w_bin f_138_104 ?_
          refine w_pi f_138_105 rfl ?_
          refine w_al f_138_108 rfl ?_
          refine w_gr f_138_109 rfl (hR3 _ _ _ rfl) ?_
          refine w_il f_138_112 rfl ?_
          refine w_il f_138_114 rfl ?_
          have hb := H.1
          have H := H.2
          refine w_ast f_138_115 rfl hb ?_
          refine w_al f_138_116 rfl ?_
          refine w_gr f_138_117 rfl (hR3 _ _ _ rfl) ?_
          refine w_il f_138_120 rfl ?_
          refine w_ic f_138_122 ?_
          have hb := H.1
          have H := H.2
          refine w_ast f_138_123 rfl hb ?_
          refine w_al f_138_124 rfl ?_
          refine w_gr f_138_125 rfl (hR3 _ _ _ rfl) ?_
          refine w_il f_138_128 rfl ?_
          refine w_ic f_138_130 ?_
          have hb := H.1
          have H := H.2
          refine w_ast f_138_131 rfl hb ?_
          refine w_al f_138_132 rfl ?_
          refine w_inv (as := [.ref 59, .retAddr 0]) (st' := []) f_138_133 rfl rfl rfl rfl rfl rfl H (k_v (fun G4 I4 J4 H => ?_)) (x_n (fun _ => rfl) rfl (fun x h' h => h))
          exact H
        · have H := H.2 c
          exact H
  · have H := H.2 c
    exact H
theorem g_138_38 {d : Nat} {G : am_G} {I : Nat → Nat → Int32} {J : Nat → Nat → Int64} {Q : am_O → am_H → Prop} (hR : q_RT G) (i1 : Int32) (i2 : Int32) (i3 : Int32) (i4 : Int32) (H : Q (.inl (some (.int 0))) (G, I, J)) : q_W β xs L (d + 1) 138 38 [.ref 59, .int i1, .int i2, .int i3, .int i4, .retAddr 0] [] (G, I, J) Q := by
  refine w_ic f_138_38 ?_
  exact w_reti f_138_39 H
theorem g_138_79 {d : Nat} {G : am_G} {I : Nat → Nat → Int32} {J : Nat → Nat → Int64} {Q : am_O → am_H → Prop} (hR : q_RT G) (i1 : Int32) (i2 : Int32) (i3 : Int32) (i4 : Int32) (H : Q (.inl (some (.int (-9)))) (G, I, J)) : q_W β xs L (d + 1) 138 79 [.ref 59, .int i1, .int i2, .int i3, .int i4, .retAddr 0] [] (G, I, J) Q := by
  refine w_ic f_138_79 ?_
  exact w_reti f_138_81 H
theorem g_138_136 {d : Nat} {G : am_G} {I : Nat → Nat → Int32} {J : Nat → Nat → Int64} {Q : am_O → am_H → Prop} (hR : q_RT G) (i1 : Int32) (i2 : Int32) (i3 : Int32) (i4 : Int32) (i5 : Int32) (H : q_W β xs L d 124 0 [.ref 59] [] (G, I, J) (q_Ri (fun y1 G1 I1 J1 => ((y1 = 0 → q_W β xs L (d + 1) 138 159 [.ref 59, .int i1, .int i2, .int i3, .int i4, .int i5] [] (G1, I1, J1) Q) ∧ (¬ y1 = 0 → (((I1 59 25) = 0 → q_W β xs L (d + 1) 138 159 [.ref 59, .int i1, .int i2, .int i3, .int i4, .int i5] [] (G1, I1, J1) Q) ∧ (¬ (I1 59 25) = 0 → q_W β xs L d 135 0 [.ref 59, .int i5, .retAddr 0, .retAddr 0] [] (G1, I1, J1) (q_Rv (fun G2 I2 J2 => q_W β xs L (d + 1) 138 136 [.ref 59, .int i1, .int i2, .int i3, .int i4, .int i5] [] (G2, I2, J2) Q) (fun x2 G2 I2 J2 => Q (.inr x2) (G2, I2, J2)))))))) (fun x1 G1 I1 J1 => Q (.inr x1) (G1, I1, J1)))) : q_W β xs L (d + 1) 138 136 [.ref 59, .int i1, .int i2, .int i3, .int i4, .int i5] [] (G, I, J) Q := by
  refine w_al f_138_136 rfl ?_
  refine w_inv (as := [.ref 59]) (st' := []) f_138_137 rfl rfl rfl rfl rfl rfl H (k_i (fun y1 G1 I1 J1 H => ?_)) (x_n (fun _ => rfl) rfl (fun x h' h => h))
  refine w_ifeq f_138_140 (fun c => ?_) (fun c => ?_)
  · have H := H.1 c
    exact H
  · have H := H.2 c
    refine w_al f_138_143 rfl ?_
    refine w_gi f_138_144 rfl ?_
    refine w_ifeq f_138_147 (fun c => ?_) (fun c => ?_)
    · have H := H.1 c
      exact H
    · have H := H.2 c
      refine w_al f_138_150 rfl ?_
      refine w_il f_138_151 rfl ?_
      refine w_inv (as := [.ref 59, .int i5, .retAddr 0, .retAddr 0]) (st' := []) f_138_153 rfl rfl rfl rfl rfl rfl H (k_v (fun G2 I2 J2 H => ?_)) (x_n (fun _ => rfl) rfl (fun x h' h => h))
      refine w_go f_138_156 ?_
      exact H
theorem g_138_159 {d : Nat} {G : am_G} {I : Nat → Nat → Int32} {J : Nat → Nat → Int64} {Q : am_O → am_H → Prop} (hR : q_RT G) (i1 : Int32) (i2 : Int32) (i3 : Int32) (i4 : Int32) (i5 : Int32) (H : q_W β xs L d 124 0 [.ref 59] [] (G, I, J) (q_Ri (fun y1 G1 I1 J1 => (q_RT G1 ∧ ((¬ y1 = 0 → (am_is i5 12 = true ∧ (am_is i5 12 = true ∧ (am_is i5 12 = true ∧ (am_is i5 12 = true ∧ Q (.inl (some (.int i5))) (G1, (am_u (am_u (am_u (am_u (am_u (am_u I1 75 (i5).toNatClampNeg i3) 76 (i5).toNatClampNeg i4) 77 (i5).toNatClampNeg (I1 59 1)) 78 (i5).toNatClampNeg (-1)) 59 32 ((I1 59 32) + 1)) 59 2 ((I1 59 2) + 1)), J1)))))) ∧ (y1 = 0 → Q (.inl (some (.int ((-1) - (I1 59 21))))) (G1, I1, J1))))) (fun x1 G1 I1 J1 => Q (.inr x1) (G1, I1, J1)))) : q_W β xs L (d + 1) 138 159 [.ref 59, .int i1, .int i2, .int i3, .int i4, .int i5] [] (G, I, J) Q := by
  refine w_al f_138_159 rfl ?_
  refine w_inv (as := [.ref 59]) (st' := []) f_138_160 rfl rfl rfl rfl rfl rfl H (k_i (fun y1 G1 I1 J1 H => ?_)) (x_n (fun _ => rfl) rfl (fun x h' h => h))
  have hR1 := H.1
  have H := H.2
  refine w_ifne f_138_163 (fun c => ?_) (fun c => ?_)
  · have H := H.1 c
    refine w_al f_138_173 rfl ?_
    refine w_gr f_138_174 rfl (hR1 _ _ _ rfl) ?_
    refine w_il f_138_177 rfl ?_
    refine w_il f_138_179 rfl ?_
    have hb := H.1
    have H := H.2
    refine w_ast f_138_180 rfl hb ?_
    refine w_al f_138_181 rfl ?_
    refine w_gr f_138_182 rfl (hR1 _ _ _ rfl) ?_
    refine w_il f_138_185 rfl ?_
    refine w_il f_138_187 rfl ?_
    have hb := H.1
    have H := H.2
    refine w_ast f_138_189 rfl hb ?_
    refine w_al f_138_190 rfl ?_
    refine w_gr f_138_191 rfl (hR1 _ _ _ rfl) ?_
    refine w_il f_138_194 rfl ?_
    refine w_al f_138_196 rfl ?_
    refine w_gi' f_138_197 rfl ((am_u_ne (Or.inl (by decide))).trans (am_u_ne (Or.inl (by decide)))) ?_
    have hb := H.1
    have H := H.2
    refine w_ast f_138_200 rfl hb ?_
    refine w_al f_138_201 rfl ?_
    refine w_gr f_138_202 rfl (hR1 _ _ _ rfl) ?_
    refine w_il f_138_205 rfl ?_
    refine w_ic f_138_207 ?_
    have hb := H.1
    have H := H.2
    refine w_ast f_138_208 rfl hb ?_
    refine w_al f_138_209 rfl ?_
    refine w_dupr f_138_210 ?_
    refine w_gi' f_138_211 rfl ((am_u_ne (Or.inl (by decide))).trans ((am_u_ne (Or.inl (by decide))).trans ((am_u_ne (Or.inl (by decide))).trans (am_u_ne (Or.inl (by decide)))))) ?_
    refine w_ic f_138_214 ?_
    refine w_bin f_138_215 ?_
    refine w_pi f_138_216 rfl ?_
    refine w_al f_138_219 rfl ?_
    refine w_dupr f_138_220 ?_
    refine w_gi' f_138_221 rfl ((am_u_ne (Or.inr (by decide))).trans ((am_u_ne (Or.inl (by decide))).trans ((am_u_ne (Or.inl (by decide))).trans ((am_u_ne (Or.inl (by decide))).trans (am_u_ne (Or.inl (by decide))))))) ?_
    refine w_ic f_138_224 ?_
    refine w_bin f_138_225 ?_
    refine w_pi f_138_226 rfl ?_
    refine w_il f_138_229 rfl ?_
    exact w_reti f_138_231 H
  · have H := H.2 c
    refine w_ic f_138_166 ?_
    refine w_al f_138_167 rfl ?_
    refine w_gi f_138_168 rfl ?_
    refine w_bin f_138_171 ?_
    exact w_reti f_138_172 H
theorem g_139_0 {d : Nat} {G : am_G} {I : Nat → Nat → Int32} {J : Nat → Nat → Int64} {Q : am_O → am_H → Prop} (hR : q_RT G)  (H : Q (.inl (some (.int (I 59 22)))) (G, (am_u I 59 0 0), J)) : q_W β xs L d 139 0 [.ref 59] [] (G, I, J) Q := by
  refine w_al f_139_0 rfl ?_
  refine w_ic f_139_1 ?_
  refine w_pi f_139_2 rfl ?_
  refine w_al f_139_5 rfl ?_
  refine w_gi' f_139_6 rfl (am_u_ne (Or.inr (by decide))) ?_
  exact w_reti f_139_9 H
theorem g_140_0 {d : Nat} {G : am_G} {I : Nat → Nat → Int32} {J : Nat → Nat → Int64} {Q : am_O → am_H → Prop} (hR : q_RT G) (i1 : Int32) (i2 : Int32) (H : (am_is i1 12 = true ∧ ((i2 < (I 77 (i1).toNatClampNeg) → q_W β xs L d 140 34 [.ref 59, .int i1, .int i2] [] (G, I, J) Q) ∧ (¬ i2 < (I 77 (i1).toNatClampNeg) → (am_is i1 12 = true ∧ (((I 78 (i1).toNatClampNeg) = (-1) → q_W β xs L d 140 30 [.ref 59, .int i1, .int i2] [] (G, I, J) Q) ∧ (¬ (I 78 (i1).toNatClampNeg) = (-1) → (am_is i1 12 = true ∧ ((¬ i2 < (I 78 (i1).toNatClampNeg) → q_W β xs L d 140 34 [.ref 59, .int i1, .int i2] [] (G, I, J) Q) ∧ (i2 < (I 78 (i1).toNatClampNeg) → q_W β xs L d 140 30 [.ref 59, .int i1, .int i2] [] (G, I, J) Q)))))))))) : q_W β xs L d 140 0 [.ref 59, .int i1, .int i2] [] (G, I, J) Q := by
  refine w_al f_140_0 rfl ?_
  refine w_gr f_140_1 rfl (hR _ _ _ rfl) ?_
  refine w_il f_140_4 rfl ?_
  have hb := H.1
  have H := H.2
  refine w_ald f_140_5 rfl hb ?_
  refine w_il f_140_6 rfl ?_
  refine w_icgt f_140_7 (fun c => ?_) (fun c => ?_)
  · have H := H.1 c
    exact H
  · have H := H.2 c
    refine w_al f_140_10 rfl ?_
    refine w_gr f_140_11 rfl (hR _ _ _ rfl) ?_
    refine w_il f_140_14 rfl ?_
    have hb := H.1
    have H := H.2
    refine w_ald f_140_15 rfl hb ?_
    refine w_ic f_140_16 ?_
    refine w_iceq f_140_17 (fun c => ?_) (fun c => ?_)
    · have H := H.1 c
      exact H
    · have H := H.2 c
      refine w_al f_140_20 rfl ?_
      refine w_gr f_140_21 rfl (hR _ _ _ rfl) ?_
      refine w_il f_140_24 rfl ?_
      have hb := H.1
      have H := H.2
      refine w_ald f_140_25 rfl hb ?_
      refine w_il f_140_26 rfl ?_
      refine w_icle f_140_27 (fun c => ?_) (fun c => ?_)
      · have H := H.1 c
        exact H
      · have H := H.2 c
        exact H
theorem g_140_30 {d : Nat} {G : am_G} {I : Nat → Nat → Int32} {J : Nat → Nat → Int64} {Q : am_O → am_H → Prop} (hR : q_RT G) (i1 : Int32) (i2 : Int32) (H : q_W β xs L d 140 35 [.ref 59, .int i1, .int i2] [.int 1] (G, I, J) Q) : q_W β xs L d 140 30 [.ref 59, .int i1, .int i2] [] (G, I, J) Q := by
  refine w_ic f_140_30 ?_
  refine w_go f_140_31 ?_
  exact H
theorem g_140_34 {d : Nat} {G : am_G} {I : Nat → Nat → Int32} {J : Nat → Nat → Int64} {Q : am_O → am_H → Prop} (hR : q_RT G) (i1 : Int32) (i2 : Int32) (H : q_W β xs L d 140 35 [.ref 59, .int i1, .int i2] [.int 0] (G, I, J) Q) : q_W β xs L d 140 34 [.ref 59, .int i1, .int i2] [] (G, I, J) Q := by
  refine w_ic f_140_34 ?_
  exact H
theorem g_140_35 {d : Nat} {G : am_G} {I : Nat → Nat → Int32} {J : Nat → Nat → Int64} {Q : am_O → am_H → Prop} (hR : q_RT G) (i1 : Int32) (i2 : Int32) (is0 : Int32) (H : (((is0 : Int32) = 0 ∨ (is0 : Int32) = 1) ∧ Q (.inl (some (.int is0))) (G, I, J))) : q_W β xs L d 140 35 [.ref 59, .int i1, .int i2] [.int is0] (G, I, J) Q := by
  exact w_retz f_140_35 H.1 H.2
theorem g_141_0 {d : Nat} {G : am_G} {I : Nat → Nat → Int32} {J : Nat → Nat → Int64} {Q : am_O → am_H → Prop} (hR : q_RT G) (i1 : Int32) (i2 : Int32) (H : (am_is i1 100 = true ∧ ((i2 < (I 68 (i1).toNatClampNeg) → q_W β xs L d 141 34 [.ref 59, .int i1, .int i2] [] (G, I, J) Q) ∧ (¬ i2 < (I 68 (i1).toNatClampNeg) → (am_is i1 100 = true ∧ (((I 69 (i1).toNatClampNeg) = (-1) → q_W β xs L d 141 30 [.ref 59, .int i1, .int i2] [] (G, I, J) Q) ∧ (¬ (I 69 (i1).toNatClampNeg) = (-1) → (am_is i1 100 = true ∧ ((¬ i2 < (I 69 (i1).toNatClampNeg) → q_W β xs L d 141 34 [.ref 59, .int i1, .int i2] [] (G, I, J) Q) ∧ (i2 < (I 69 (i1).toNatClampNeg) → q_W β xs L d 141 30 [.ref 59, .int i1, .int i2] [] (G, I, J) Q)))))))))) : q_W β xs L d 141 0 [.ref 59, .int i1, .int i2] [] (G, I, J) Q := by
  refine w_al f_141_0 rfl ?_
  refine w_gr f_141_1 rfl (hR _ _ _ rfl) ?_
  refine w_il f_141_4 rfl ?_
  have hb := H.1
  have H := H.2
  refine w_ald f_141_5 rfl hb ?_
  refine w_il f_141_6 rfl ?_
  refine w_icgt f_141_7 (fun c => ?_) (fun c => ?_)
  · have H := H.1 c
    exact H
  · have H := H.2 c
    refine w_al f_141_10 rfl ?_
    refine w_gr f_141_11 rfl (hR _ _ _ rfl) ?_
    refine w_il f_141_14 rfl ?_
    have hb := H.1
    have H := H.2
    refine w_ald f_141_15 rfl hb ?_
    refine w_ic f_141_16 ?_
    refine w_iceq f_141_17 (fun c => ?_) (fun c => ?_)
    · have H := H.1 c
      exact H
    · have H := H.2 c
      refine w_al f_141_20 rfl ?_
      refine w_gr f_141_21 rfl (hR _ _ _ rfl) ?_
      refine w_il f_141_24 rfl ?_
      have hb := H.1
      have H := H.2
      refine w_ald f_141_25 rfl hb ?_
      refine w_il f_141_26 rfl ?_
      refine w_icle f_141_27 (fun c => ?_) (fun c => ?_)
      · have H := H.1 c
        exact H
      · have H := H.2 c
        exact H
theorem g_141_30 {d : Nat} {G : am_G} {I : Nat → Nat → Int32} {J : Nat → Nat → Int64} {Q : am_O → am_H → Prop} (hR : q_RT G) (i1 : Int32) (i2 : Int32) (H : q_W β xs L d 141 35 [.ref 59, .int i1, .int i2] [.int 1] (G, I, J) Q) : q_W β xs L d 141 30 [.ref 59, .int i1, .int i2] [] (G, I, J) Q := by
  refine w_ic f_141_30 ?_
  refine w_go f_141_31 ?_
  exact H
theorem g_141_34 {d : Nat} {G : am_G} {I : Nat → Nat → Int32} {J : Nat → Nat → Int64} {Q : am_O → am_H → Prop} (hR : q_RT G) (i1 : Int32) (i2 : Int32) (H : q_W β xs L d 141 35 [.ref 59, .int i1, .int i2] [.int 0] (G, I, J) Q) : q_W β xs L d 141 34 [.ref 59, .int i1, .int i2] [] (G, I, J) Q := by
  refine w_ic f_141_34 ?_
  exact H
theorem g_141_35 {d : Nat} {G : am_G} {I : Nat → Nat → Int32} {J : Nat → Nat → Int64} {Q : am_O → am_H → Prop} (hR : q_RT G) (i1 : Int32) (i2 : Int32) (is0 : Int32) (H : (((is0 : Int32) = 0 ∨ (is0 : Int32) = 1) ∧ Q (.inl (some (.int is0))) (G, I, J))) : q_W β xs L d 141 35 [.ref 59, .int i1, .int i2] [.int is0] (G, I, J) Q := by
  exact w_retz f_141_35 H.1 H.2
theorem g_142_0 {d : Nat} {G : am_G} {I : Nat → Nat → Int32} {J : Nat → Nat → Int64} {Q : am_O → am_H → Prop} (hR : q_RT G) (i1 : Int32) (i2 : Int32) (i3 : Int32) (H : q_W β xs L (d + 1) 142 14 [.ref 59, .int i1, .int i2, .int i3, .int 0, .int 0, .int ((I 59 32) - 1)] [] (G, I, J) Q) : q_W β xs L (d + 1) 142 0 [.ref 59, .int i1, .int i2, .int i3, .retAddr 0, .retAddr 0, .retAddr 0] [] (G, I, J) Q := by
  refine w_ic f_142_0 ?_
  refine w_is (ls' := [.ref 59, .int i1, .int i2, .int i3, .int 0, .retAddr 0, .retAddr 0]) f_142_1 rfl ?_
  refine w_ic f_142_3 ?_
  refine w_is (ls' := [.ref 59, .int i1, .int i2, .int i3, .int 0, .int 0, .retAddr 0]) f_142_4 rfl ?_
  refine w_al f_142_6 rfl ?_
  refine w_gi f_142_7 rfl ?_
  refine w_ic f_142_10 ?_
  refine w_bin f_142_11 ?_
  refine w_is (ls' := [.ref 59, .int i1, .int i2, .int i3, .int 0, .int 0, .int ((I 59 32) - 1)]) f_142_12 rfl ?_
  exact H
theorem g_142_14 {d : Nat} {G : am_G} {I : Nat → Nat → Int32} {J : Nat → Nat → Int64} {Q : am_O → am_H → Prop} (hR : q_RT G) (i1 : Int32) (i2 : Int32) (i3 : Int32) (i4 : Int32) (i5 : Int32) (i6 : Int32) (H : ((i6 < 0 → Q (.inl (some (.int i5))) (G, I, J)) ∧ (¬ i6 < 0 → ((i6 = i3 → q_W β xs L (d + 1) 142 92 [.ref 59, .int i1, .int i2, .int i3, .int i4, .int i5, .int i6] [] (G, I, J) Q) ∧ (¬ i6 = i3 → q_W β xs L d 140 0 [.ref 59, .int i6, .int i2] [] (G, I, J) (q_Ri (fun y1 G1 I1 J1 => (q_RT G1 ∧ ((y1 = 0 → q_W β xs L (d + 1) 142 92 [.ref 59, .int i1, .int i2, .int i3, .int i4, .int i5, .int i6] [] (G1, I1, J1) Q) ∧ (¬ y1 = 0 → (am_is i6 12 = true ∧ ((i1 < (I1 75 (i6).toNatClampNeg) → q_W β xs L (d + 1) 142 92 [.ref 59, .int i1, .int i2, .int i3, .int i4, .int i5, .int i6] [] (G1, I1, J1) Q) ∧ (¬ i1 < (I1 75 (i6).toNatClampNeg) → (am_is i6 12 = true ∧ ((¬ i1 < (I1 76 (i6).toNatClampNeg) → q_W β xs L (d + 1) 142 92 [.ref 59, .int i1, .int i2, .int i3, .int i4, .int i5, .int i6] [] (G1, I1, J1) Q) ∧ (i1 < (I1 76 (i6).toNatClampNeg) → ((¬ ((i4 >>> (i6 &&& 31)) &&& 1) = 1 → (am_is i6 12 = true ∧ q_W β xs L (d + 1) 142 92 [.ref 59, .int i1, .int i2, .int i3, .int (i4 ||| (I1 80 (i6).toNatClampNeg)), .int (i5 ||| (1 <<< (i6 &&& 31))), .int i6] [] (G1, I1, J1) Q)) ∧ (((i4 >>> (i6 &&& 31)) &&& 1) = 1 → q_W β xs L (d + 1) 142 92 [.ref 59, .int i1, .int i2, .int i3, .int i4, .int i5, .int i6] [] (G1, I1, J1) Q)))))))))))) (fun x1 G1 I1 J1 => Q (.inr x1) (G1, I1, J1)))))))) : q_W β xs L (d + 1) 142 14 [.ref 59, .int i1, .int i2, .int i3, .int i4, .int i5, .int i6] [] (G, I, J) Q := by
  refine w_il f_142_14 rfl ?_
  refine w_iflt f_142_16 (fun c => ?_) (fun c => ?_)
  · have H := H.1 c
    refine w_il f_142_98 rfl ?_
    exact w_reti f_142_100 H
  · have H := H.2 c
    refine w_il f_142_19 rfl ?_
    refine w_il f_142_21 rfl ?_
    refine w_iceq f_142_22 (fun c => ?_) (fun c => ?_)
    · have H := H.1 c
      exact H
    · have H := H.2 c
      refine w_al f_142_25 rfl ?_
      refine w_il f_142_26 rfl ?_
      refine w_il f_142_28 rfl ?_
      refine w_inv (as := [.ref 59, .int i6, .int i2]) (st' := []) f_142_29 rfl rfl rfl rfl rfl rfl H (k_i (fun y1 G1 I1 J1 H => ?_)) (x_n (fun _ => rfl) rfl (fun x h' h => h))
      have hR1 := H.1
      have H := H.2
      refine w_ifeq f_142_32 (fun c => ?_) (fun c => ?_)
      · have H := H.1 c
        exact H
      · have H := H.2 c
        refine w_il f_142_35 rfl ?_
        refine w_al f_142_36 rfl ?_
        refine w_gr f_142_37 rfl (hR1 _ _ _ rfl) ?_
        refine w_il f_142_40 rfl ?_
        have hb := H.1
        have H := H.2
        refine w_ald f_142_42 rfl hb ?_
        refine w_iclt f_142_43 (fun c => ?_) (fun c => ?_)
        · have H := H.1 c
          exact H
        · have H := H.2 c
          refine w_il f_142_46 rfl ?_
          refine w_al f_142_47 rfl ?_
          refine w_gr f_142_48 rfl (hR1 _ _ _ rfl) ?_
          refine w_il f_142_51 rfl ?_
          have hb := H.1
          have H := H.2
          refine w_ald f_142_53 rfl hb ?_
          refine w_icge f_142_54 (fun c => ?_) (fun c => ?_)
          · have H := H.1 c
            exact H
          · have H := H.2 c
            refine w_il f_142_57 rfl ?_
            refine w_il f_142_59 rfl ?_
            refine w_bin f_142_61 ?_
            refine w_ic f_142_62 ?_
            refine w_bin f_142_63 ?_
            refine w_ic f_142_64 ?_
            refine w_icne f_142_65 (fun c => ?_) (fun c => ?_)
            · have H := H.1 c
              refine w_il f_142_71 rfl ?_
              refine w_ic f_142_73 ?_
              refine w_il f_142_74 rfl ?_
              refine w_bin f_142_76 ?_
              refine w_bin f_142_77 ?_
              refine w_is (ls' := [.ref 59, .int i1, .int i2, .int i3, .int i4, .int (i5 ||| (1 <<< (i6 &&& 31))), .int i6]) f_142_78 rfl ?_
              refine w_il f_142_80 rfl ?_
              refine w_al f_142_82 rfl ?_
              refine w_gr f_142_83 rfl (hR1 _ _ _ rfl) ?_
              refine w_il f_142_86 rfl ?_
              have hb := H.1
              have H := H.2
              refine w_ald f_142_88 rfl hb ?_
              refine w_bin f_142_89 ?_
              refine w_is (ls' := [.ref 59, .int i1, .int i2, .int i3, .int (i4 ||| (I1 80 (i6).toNatClampNeg)), .int (i5 ||| (1 <<< (i6 &&& 31))), .int i6]) f_142_90 rfl ?_
              exact H
            · have H := H.2 c
              refine w_go f_142_68 ?_
              exact H
theorem g_142_92 {d : Nat} {G : am_G} {I : Nat → Nat → Int32} {J : Nat → Nat → Int64} {Q : am_O → am_H → Prop} (hR : q_RT G) (i1 : Int32) (i2 : Int32) (i3 : Int32) (i4 : Int32) (i5 : Int32) (i6 : Int32) (H : q_W β xs L (d + 1) 142 14 [.ref 59, .int i1, .int i2, .int i3, .int i4, .int i5, .int (i6 + (-1))] [] (G, I, J) Q) : q_W β xs L (d + 1) 142 92 [.ref 59, .int i1, .int i2, .int i3, .int i4, .int i5, .int i6] [] (G, I, J) Q := by
  refine w_iinc (ls' := [.ref 59, .int i1, .int i2, .int i3, .int i4, .int i5, .int (i6 + (-1))]) f_142_92 rfl rfl ?_
  refine w_go f_142_95 ?_
  exact H
theorem g_143_0 {d : Nat} {G : am_G} {I : Nat → Nat → Int32} {J : Nat → Nat → Int64} {Q : am_O → am_H → Prop} (hR : q_RT G) (i1 : Int32) (H : q_W β xs L (d + 1) 143 12 [.ref 59, .int i1, .int 0] [] (G, (am_u (am_u I 59 51 0) 59 52 1), J) Q) : q_W β xs L (d + 1) 143 0 [.ref 59, .int i1, .retAddr 0] [] (G, I, J) Q := by
  refine w_al f_143_0 rfl ?_
  refine w_ic f_143_1 ?_
  refine w_pi f_143_2 rfl ?_
  refine w_al f_143_5 rfl ?_
  refine w_ic f_143_6 ?_
  refine w_pi f_143_7 rfl ?_
  refine w_ic f_143_10 ?_
  refine w_is (ls' := [.ref 59, .int i1, .int 0]) f_143_11 rfl ?_
  exact H
theorem g_143_12 {d : Nat} {G : am_G} {I : Nat → Nat → Int32} {J : Nat → Nat → Int64} {Q : am_O → am_H → Prop} (hR : q_RT G) (i1 : Int32) (i2 : Int32) (H : ((¬ i2 < (I 59 6) → q_W β xs L (d + 1) 143 91 [.ref 59, .int i1, .int i2] [] (G, I, J) Q) ∧ (i2 < (I 59 6) → ((¬ (I 59 51) < 3 → q_W β xs L (d + 1) 143 91 [.ref 59, .int i1, .int i2] [] (G, I, J) Q) ∧ ((I 59 51) < 3 → q_W β xs L d 141 0 [.ref 59, .int i2, .int i1] [] (G, I, J) (q_Ri (fun y1 G1 I1 J1 => (q_RT G1 ∧ ((y1 = 0 → q_W β xs L (d + 1) 143 85 [.ref 59, .int i1, .int i2] [] (G1, I1, J1) Q) ∧ (¬ y1 = 0 → (am_is i2 100 = true ∧ ((¬ (I1 70 (i2).toNatClampNeg) < 2 → (am_is (I1 59 51) 3 = true ∧ (am_is i2 100 = true ∧ q_W β xs L (d + 1) 143 85 [.ref 59, .int i1, .int i2] [] (G1, (am_u (am_u (am_u I1 89 ((I1 59 51)).toNatClampNeg i2) 59 51 ((I1 59 51) + 1)) 59 52 ((I1 59 52) * (I1 70 (i2).toNatClampNeg))), J1) Q))) ∧ ((I1 70 (i2).toNatClampNeg) < 2 → q_W β xs L (d + 1) 143 85 [.ref 59, .int i1, .int i2] [] (G1, I1, J1) Q))))))) (fun x1 G1 I1 J1 => Q (.inr x1) (G1, I1, J1)))))))) : q_W β xs L (d + 1) 143 12 [.ref 59, .int i1, .int i2] [] (G, I, J) Q := by
  refine w_il f_143_12 rfl ?_
  refine w_al f_143_13 rfl ?_
  refine w_gi f_143_14 rfl ?_
  refine w_icge f_143_17 (fun c => ?_) (fun c => ?_)
  · have H := H.1 c
    exact H
  · have H := H.2 c
    refine w_al f_143_20 rfl ?_
    refine w_gi f_143_21 rfl ?_
    refine w_ic f_143_24 ?_
    refine w_icge f_143_25 (fun c => ?_) (fun c => ?_)
    · have H := H.1 c
      exact H
    · have H := H.2 c
      refine w_al f_143_28 rfl ?_
      refine w_il f_143_29 rfl ?_
      refine w_il f_143_30 rfl ?_
      refine w_inv (as := [.ref 59, .int i2, .int i1]) (st' := []) f_143_31 rfl rfl rfl rfl rfl rfl H (k_i (fun y1 G1 I1 J1 H => ?_)) (x_n (fun _ => rfl) rfl (fun x h' h => h))
      have hR1 := H.1
      have H := H.2
      refine w_ifeq f_143_34 (fun c => ?_) (fun c => ?_)
      · have H := H.1 c
        exact H
      · have H := H.2 c
        refine w_al f_143_37 rfl ?_
        refine w_gr f_143_38 rfl (hR1 _ _ _ rfl) ?_
        refine w_il f_143_41 rfl ?_
        have hb := H.1
        have H := H.2
        refine w_ald f_143_42 rfl hb ?_
        refine w_ic f_143_43 ?_
        refine w_icge f_143_44 (fun c => ?_) (fun c => ?_)
        · have H := H.1 c
          refine w_al f_143_50 rfl ?_
          refine w_gr f_143_51 rfl (hR1 _ _ _ rfl) ?_
          refine w_al f_143_54 rfl ?_
          refine w_gi f_143_55 rfl ?_
          refine w_il f_143_58 rfl ?_
          have hb := H.1
          have H := H.2
          refine w_ast f_143_59 rfl hb ?_
          refine w_al f_143_60 rfl ?_
          refine w_dupr f_143_61 ?_
          refine w_gi' f_143_62 rfl (am_u_ne (Or.inl (by decide))) ?_
          refine w_ic f_143_65 ?_
          refine w_bin f_143_66 ?_
          refine w_pi f_143_67 rfl ?_
          refine w_al f_143_70 rfl ?_
          refine w_dupr f_143_71 ?_
          refine w_gi' f_143_72 rfl ((am_u_ne (Or.inr (by decide))).trans (am_u_ne (Or.inl (by decide)))) ?_
          refine w_al f_143_75 rfl ?_
          refine w_gr f_143_76 rfl (hR1 _ _ _ rfl) ?_
          refine w_il f_143_79 rfl ?_
          have hb := H.1
          have H := H.2
          refine w_ald' f_143_80 rfl hb ((am_u_ne (Or.inl (by decide))).trans (am_u_ne (Or.inl (by decide)))) ?_
          refine w_bin f_143_81 ?_
          refine w_pi f_143_82 rfl ?_
          exact H
        · have H := H.2 c
          refine w_go f_143_47 ?_
          exact H
theorem g_143_85 {d : Nat} {G : am_G} {I : Nat → Nat → Int32} {J : Nat → Nat → Int64} {Q : am_O → am_H → Prop} (hR : q_RT G) (i1 : Int32) (i2 : Int32) (H : q_W β xs L (d + 1) 143 12 [.ref 59, .int i1, .int (i2 + 1)] [] (G, I, J) Q) : q_W β xs L (d + 1) 143 85 [.ref 59, .int i1, .int i2] [] (G, I, J) Q := by
  refine w_iinc (ls' := [.ref 59, .int i1, .int (i2 + 1)]) f_143_85 rfl rfl ?_
  refine w_go f_143_88 ?_
  exact H
theorem g_143_91 {d : Nat} {G : am_G} {I : Nat → Nat → Int32} {J : Nat → Nat → Int64} {Q : am_O → am_H → Prop} (hR : q_RT G) (i1 : Int32) (i2 : Int32) (H : Q (.inl none) (G, I, J)) : q_W β xs L (d + 1) 143 91 [.ref 59, .int i1, .int i2] [] (G, I, J) Q := by
  exact w_ret0 f_143_91 H
theorem g_144_0 {d : Nat} {G : am_G} {I : Nat → Nat → Int32} {J : Nat → Nat → Int64} {Q : am_O → am_H → Prop} (hR : q_RT G) (i1 : Int32) (i2 : Int32) (H : q_W β xs L d 144 10 [.ref 59, .int i1, .int i2, .int i1, .int ((I 59 51) - 1)] [] (G, I, J) Q) : q_W β xs L d 144 0 [.ref 59, .int i1, .int i2, .retAddr 0, .retAddr 0] [] (G, I, J) Q := by
  refine w_il f_144_0 rfl ?_
  refine w_is (ls' := [.ref 59, .int i1, .int i2, .int i1, .retAddr 0]) f_144_1 rfl ?_
  refine w_al f_144_2 rfl ?_
  refine w_gi f_144_3 rfl ?_
  refine w_ic f_144_6 ?_
  refine w_bin f_144_7 ?_
  refine w_is (ls' := [.ref 59, .int i1, .int i2, .int i1, .int ((I 59 51) - 1)]) f_144_8 rfl ?_
  exact H
theorem g_144_10 {d : Nat} {G : am_G} {I : Nat → Nat → Int32} {J : Nat → Nat → Int64} {Q : am_O → am_H → Prop} (hR : q_RT G) (i1 : Int32) (i2 : Int32) (i3 : Int32) (i4 : Int32) (H : ((¬ i2 < i4 → (am_is i2 3 = true ∧ (am_is (I 89 (i2).toNatClampNeg) 100 = true ∧ (((I 70 ((I 89 (i2).toNatClampNeg)).toNatClampNeg) : Int32) ≠ 0 ∧ Q (.inl (some (.int (i3 - i3 / (I 70 ((I 89 (i2).toNatClampNeg)).toNatClampNeg) * (I 70 ((I 89 (i2).toNatClampNeg)).toNatClampNeg))))) (G, I, J))))) ∧ (i2 < i4 → (am_is i4 3 = true ∧ (am_is (I 89 (i4).toNatClampNeg) 100 = true ∧ (((I 70 ((I 89 (i4).toNatClampNeg)).toNatClampNeg) : Int32) ≠ 0 ∧ q_W β xs L d 144 10 [.ref 59, .int i1, .int i2, .int (i3 / (I 70 ((I 89 (i4).toNatClampNeg)).toNatClampNeg)), .int (i4 + (-1))] [] (G, I, J) Q)))))) : q_W β xs L d 144 10 [.ref 59, .int i1, .int i2, .int i3, .int i4] [] (G, I, J) Q := by
  refine w_il f_144_10 rfl ?_
  refine w_il f_144_12 rfl ?_
  refine w_icle f_144_13 (fun c => ?_) (fun c => ?_)
  · have H := H.1 c
    refine w_il f_144_37 rfl ?_
    refine w_al f_144_38 rfl ?_
    refine w_gr f_144_39 rfl (hR _ _ _ rfl) ?_
    refine w_al f_144_42 rfl ?_
    refine w_gr f_144_43 rfl (hR _ _ _ rfl) ?_
    refine w_il f_144_46 rfl ?_
    have hb := H.1
    have H := H.2
    refine w_ald f_144_47 rfl hb ?_
    have hb := H.1
    have H := H.2
    refine w_ald f_144_48 rfl hb ?_
    have hb := H.1
    have H := H.2
    refine w_div f_144_49 hb ?_
    exact w_reti f_144_50 H
  · have H := H.2 c
    refine w_il f_144_16 rfl ?_
    refine w_al f_144_17 rfl ?_
    refine w_gr f_144_18 rfl (hR _ _ _ rfl) ?_
    refine w_al f_144_21 rfl ?_
    refine w_gr f_144_22 rfl (hR _ _ _ rfl) ?_
    refine w_il f_144_25 rfl ?_
    have hb := H.1
    have H := H.2
    refine w_ald f_144_27 rfl hb ?_
    have hb := H.1
    have H := H.2
    refine w_ald f_144_28 rfl hb ?_
    have hb := H.1
    have H := H.2
    refine w_div f_144_29 hb ?_
    refine w_is (ls' := [.ref 59, .int i1, .int i2, .int (i3 / (I 70 ((I 89 (i4).toNatClampNeg)).toNatClampNeg)), .int i4]) f_144_30 rfl ?_
    refine w_iinc (ls' := [.ref 59, .int i1, .int i2, .int (i3 / (I 70 ((I 89 (i4).toNatClampNeg)).toNatClampNeg)), .int (i4 + (-1))]) f_144_31 rfl rfl ?_
    refine w_go f_144_34 ?_
    exact H
theorem g_145_0 {d : Nat} {G : am_G} {I : Nat → Nat → Int32} {J : Nat → Nat → Int64} {Q : am_O → am_H → Prop} (hR : q_RT G) (i1 : Int32) (i2 : Int32) (i3 : Int32) (i4 : Int32) (H : q_W β xs L (d + 1) 145 3 [.ref 59, .int i1, .int i2, .int i3, .int i4, .int 0] [] (G, I, J) Q) : q_W β xs L (d + 1) 145 0 [.ref 59, .int i1, .int i2, .int i3, .int i4, .retAddr 0] [] (G, I, J) Q := by
  refine w_ic f_145_0 ?_
  refine w_is (ls' := [.ref 59, .int i1, .int i2, .int i3, .int i4, .int 0]) f_145_1 rfl ?_
  exact H
theorem g_145_3 {d : Nat} {G : am_G} {I : Nat → Nat → Int32} {J : Nat → Nat → Int64} {Q : am_O → am_H → Prop} (hR : q_RT G) (i1 : Int32) (i2 : Int32) (i3 : Int32) (i4 : Int32) (i5 : Int32) (H : ((¬ i5 < 20 → q_W β xs L (d + 1) 145 51 [.ref 59, .int i1, .int i2, .int i3, .int i4, .int 0] [] (G, I, J) Q) ∧ (i5 < 20 → (am_is i5 20 = true ∧ (am_is i5 20 = true ∧ (am_is i5 20 = true ∧ (am_is i5 20 = true ∧ q_W β xs L (d + 1) 145 3 [.ref 59, .int i1, .int i2, .int i3, .int i4, .int (i5 + 1)] [] (G, (am_u (am_u (am_u (am_u I 91 (i5).toNatClampNeg 0) 92 (i5).toNatClampNeg (-1)) 94 (i5).toNatClampNeg (-1)) 95 (i5).toNatClampNeg (-1)), J) Q))))))) : q_W β xs L (d + 1) 145 3 [.ref 59, .int i1, .int i2, .int i3, .int i4, .int i5] [] (G, I, J) Q := by
  refine w_il f_145_3 rfl ?_
  refine w_ic f_145_5 ?_
  refine w_icge f_145_7 (fun c => ?_) (fun c => ?_)
  · have H := H.1 c
    refine w_ic f_145_48 ?_
    refine w_is (ls' := [.ref 59, .int i1, .int i2, .int i3, .int i4, .int 0]) f_145_49 rfl ?_
    exact H
  · have H := H.2 c
    refine w_al f_145_10 rfl ?_
    refine w_gr f_145_11 rfl (hR _ _ _ rfl) ?_
    refine w_il f_145_14 rfl ?_
    refine w_ic f_145_16 ?_
    have hb := H.1
    have H := H.2
    refine w_ast f_145_17 rfl hb ?_
    refine w_al f_145_18 rfl ?_
    refine w_gr f_145_19 rfl (hR _ _ _ rfl) ?_
    refine w_il f_145_22 rfl ?_
    refine w_ic f_145_24 ?_
    have hb := H.1
    have H := H.2
    refine w_ast f_145_25 rfl hb ?_
    refine w_al f_145_26 rfl ?_
    refine w_gr f_145_27 rfl (hR _ _ _ rfl) ?_
    refine w_il f_145_30 rfl ?_
    refine w_ic f_145_32 ?_
    have hb := H.1
    have H := H.2
    refine w_ast f_145_33 rfl hb ?_
    refine w_al f_145_34 rfl ?_
    refine w_gr f_145_35 rfl (hR _ _ _ rfl) ?_
    refine w_il f_145_38 rfl ?_
    refine w_ic f_145_40 ?_
    have hb := H.1
    have H := H.2
    refine w_ast f_145_41 rfl hb ?_
    refine w_iinc (ls' := [.ref 59, .int i1, .int i2, .int i3, .int i4, .int (i5 + 1)]) f_145_42 rfl rfl ?_
    refine w_go f_145_45 ?_
    exact H
theorem g_145_51 {d : Nat} {G : am_G} {I : Nat → Nat → Int32} {J : Nat → Nat → Int64} {Q : am_O → am_H → Prop} (hR : q_RT G) (i1 : Int32) (i2 : Int32) (i3 : Int32) (i4 : Int32) (i5 : Int32) (H : ((¬ i5 < 100 → q_W β xs L (d + 1) 145 91 [.ref 59, .int i1, .int i2, .int i3, .int i4, .int 0] [] (G, I, J) Q) ∧ (i5 < 100 → (am_is i5 100 = true ∧ (am_is i5 100 = true ∧ (am_is i5 100 = true ∧ q_W β xs L (d + 1) 145 51 [.ref 59, .int i1, .int i2, .int i3, .int i4, .int (i5 + 1)] [] (G, (am_u (am_u (am_u I 99 (i5).toNatClampNeg (-1)) 100 (i5).toNatClampNeg 0) 101 (i5).toNatClampNeg 0), J) Q)))))) : q_W β xs L (d + 1) 145 51 [.ref 59, .int i1, .int i2, .int i3, .int i4, .int i5] [] (G, I, J) Q := by
  refine w_il f_145_51 rfl ?_
  refine w_ic f_145_53 ?_
  refine w_icge f_145_55 (fun c => ?_) (fun c => ?_)
  · have H := H.1 c
    refine w_ic f_145_88 ?_
    refine w_is (ls' := [.ref 59, .int i1, .int i2, .int i3, .int i4, .int 0]) f_145_89 rfl ?_
    exact H
  · have H := H.2 c
    refine w_al f_145_58 rfl ?_
    refine w_gr f_145_59 rfl (hR _ _ _ rfl) ?_
    refine w_il f_145_62 rfl ?_
    refine w_ic f_145_64 ?_
    have hb := H.1
    have H := H.2
    refine w_ast f_145_65 rfl hb ?_
    refine w_al f_145_66 rfl ?_
    refine w_gr f_145_67 rfl (hR _ _ _ rfl) ?_
    refine w_il f_145_70 rfl ?_
    refine w_ic f_145_72 ?_
    have hb := H.1
    have H := H.2
    refine w_ast f_145_73 rfl hb ?_
    refine w_al f_145_74 rfl ?_
    refine w_gr f_145_75 rfl (hR _ _ _ rfl) ?_
    refine w_il f_145_78 rfl ?_
    refine w_ic f_145_80 ?_
    have hb := H.1
    have H := H.2
    refine w_ast f_145_81 rfl hb ?_
    refine w_iinc (ls' := [.ref 59, .int i1, .int i2, .int i3, .int i4, .int (i5 + 1)]) f_145_82 rfl rfl ?_
    refine w_go f_145_85 ?_
    exact H
theorem g_145_91 {d : Nat} {G : am_G} {I : Nat → Nat → Int32} {J : Nat → Nat → Int64} {Q : am_O → am_H → Prop} (hR : q_RT G) (i1 : Int32) (i2 : Int32) (i3 : Int32) (i4 : Int32) (i5 : Int32) (H : ((¬ i5 < (I 59 4) → q_W β xs L (d + 1) 145 141 [.ref 59, .int i1, .int i2, .int i3, .int i4, .int 0] [] (G, (am_u (am_u I 59 66 0) 59 73 0), J) Q) ∧ (i5 < (I 59 4) → (am_is i5 12 = true ∧ (am_is i5 12 = true ∧ (am_is i5 12 = true ∧ q_W β xs L (d + 1) 145 91 [.ref 59, .int i1, .int i2, .int i3, .int i4, .int (i5 + 1)] [] (G, (am_u (am_u I 97 (i5).toNatClampNeg (I 60 (i5).toNatClampNeg)) 98 (i5).toNatClampNeg (-1)), J) Q)))))) : q_W β xs L (d + 1) 145 91 [.ref 59, .int i1, .int i2, .int i3, .int i4, .int i5] [] (G, I, J) Q := by
  refine w_il f_145_91 rfl ?_
  refine w_al f_145_93 rfl ?_
  refine w_gi f_145_94 rfl ?_
  refine w_icge f_145_97 (fun c => ?_) (fun c => ?_)
  · have H := H.1 c
    refine w_al f_145_128 rfl ?_
    refine w_ic f_145_129 ?_
    refine w_pi f_145_130 rfl ?_
    refine w_al f_145_133 rfl ?_
    refine w_ic f_145_134 ?_
    refine w_pi f_145_135 rfl ?_
    refine w_ic f_145_138 ?_
    refine w_is (ls' := [.ref 59, .int i1, .int i2, .int i3, .int i4, .int 0]) f_145_139 rfl ?_
    exact H
  · have H := H.2 c
    refine w_al f_145_100 rfl ?_
    refine w_gr f_145_101 rfl (hR _ _ _ rfl) ?_
    refine w_il f_145_104 rfl ?_
    refine w_al f_145_106 rfl ?_
    refine w_gr f_145_107 rfl (hR _ _ _ rfl) ?_
    refine w_il f_145_110 rfl ?_
    have hb := H.1
    have H := H.2
    refine w_ald f_145_112 rfl hb ?_
    have hb := H.1
    have H := H.2
    refine w_ast f_145_113 rfl hb ?_
    refine w_al f_145_114 rfl ?_
    refine w_gr f_145_115 rfl (hR _ _ _ rfl) ?_
    refine w_il f_145_118 rfl ?_
    refine w_ic f_145_120 ?_
    have hb := H.1
    have H := H.2
    refine w_ast f_145_121 rfl hb ?_
    refine w_iinc (ls' := [.ref 59, .int i1, .int i2, .int i3, .int i4, .int (i5 + 1)]) f_145_122 rfl rfl ?_
    refine w_go f_145_125 ?_
    exact H
theorem g_145_141 {d : Nat} {G : am_G} {I : Nat → Nat → Int32} {J : Nat → Nat → Int64} {Q : am_O → am_H → Prop} (hR : q_RT G) (i1 : Int32) (i2 : Int32) (i3 : Int32) (i4 : Int32) (i5 : Int32) (H : ((¬ i5 < (I 59 32) → q_W β xs L (d + 1) 145 207 [.ref 59, .int i1, .int i2, .int i3, .int i4, .int 0] [] (G, I, J) Q) ∧ (i5 < (I 59 32) → ((i5 = i4 → q_W β xs L (d + 1) 145 198 [.ref 59, .int i1, .int i2, .int i3, .int i4, .int i5] [] (G, I, J) Q) ∧ (¬ i5 = i4 → q_W β xs L d 140 0 [.ref 59, .int i5, .int i3] [] (G, I, J) (q_Ri (fun y1 G1 I1 J1 => (q_RT G1 ∧ ((y1 = 0 → q_W β xs L (d + 1) 145 198 [.ref 59, .int i1, .int i2, .int i3, .int i4, .int i5] [] (G1, I1, J1) Q) ∧ (¬ y1 = 0 → (am_is i5 12 = true ∧ (am_is i5 12 = true ∧ ((¬ (I1 75 (i5).toNatClampNeg) < (I1 76 (i5).toNatClampNeg) → q_W β xs L (d + 1) 145 198 [.ref 59, .int i1, .int i2, .int i3, .int i4, .int i5] [] (G1, I1, J1) Q) ∧ ((I1 75 (i5).toNatClampNeg) < (I1 76 (i5).toNatClampNeg) → (am_is i5 12 = true ∧ q_W β xs L d 146 0 [.ref 59, .int i5, .int (I1 75 (i5).toNatClampNeg), .int i2, .retAddr 0] [] (G1, I1, J1) (q_Rv (fun G2 I2 J2 => q_W β xs L (d + 1) 145 198 [.ref 59, .int i1, .int i2, .int i3, .int i4, .int i5] [] (G2, I2, J2) Q) (fun x2 G2 I2 J2 => Q (.inr x2) (G2, I2, J2)))))))))))) (fun x1 G1 I1 J1 => Q (.inr x1) (G1, I1, J1)))))))) : q_W β xs L (d + 1) 145 141 [.ref 59, .int i1, .int i2, .int i3, .int i4, .int i5] [] (G, I, J) Q := by
  refine w_il f_145_141 rfl ?_
  refine w_al f_145_143 rfl ?_
  refine w_gi f_145_144 rfl ?_
  refine w_icge f_145_147 (fun c => ?_) (fun c => ?_)
  · have H := H.1 c
    refine w_ic f_145_204 ?_
    refine w_is (ls' := [.ref 59, .int i1, .int i2, .int i3, .int i4, .int 0]) f_145_205 rfl ?_
    exact H
  · have H := H.2 c
    refine w_il f_145_150 rfl ?_
    refine w_il f_145_152 rfl ?_
    refine w_iceq f_145_154 (fun c => ?_) (fun c => ?_)
    · have H := H.1 c
      exact H
    · have H := H.2 c
      refine w_al f_145_157 rfl ?_
      refine w_il f_145_158 rfl ?_
      refine w_il f_145_160 rfl ?_
      refine w_inv (as := [.ref 59, .int i5, .int i3]) (st' := []) f_145_161 rfl rfl rfl rfl rfl rfl H (k_i (fun y1 G1 I1 J1 H => ?_)) (x_n (fun _ => rfl) rfl (fun x h' h => h))
      have hR1 := H.1
      have H := H.2
      refine w_ifeq f_145_164 (fun c => ?_) (fun c => ?_)
      · have H := H.1 c
        exact H
      · have H := H.2 c
        refine w_al f_145_167 rfl ?_
        refine w_gr f_145_168 rfl (hR1 _ _ _ rfl) ?_
        refine w_il f_145_171 rfl ?_
        have hb := H.1
        have H := H.2
        refine w_ald f_145_173 rfl hb ?_
        refine w_al f_145_174 rfl ?_
        refine w_gr f_145_175 rfl (hR1 _ _ _ rfl) ?_
        refine w_il f_145_178 rfl ?_
        have hb := H.1
        have H := H.2
        refine w_ald f_145_180 rfl hb ?_
        refine w_icge f_145_181 (fun c => ?_) (fun c => ?_)
        · have H := H.1 c
          exact H
        · have H := H.2 c
          refine w_al f_145_184 rfl ?_
          refine w_il f_145_185 rfl ?_
          refine w_al f_145_187 rfl ?_
          refine w_gr f_145_188 rfl (hR1 _ _ _ rfl) ?_
          refine w_il f_145_191 rfl ?_
          have hb := H.1
          have H := H.2
          refine w_ald f_145_193 rfl hb ?_
          refine w_il f_145_194 rfl ?_
          refine w_inv (as := [.ref 59, .int i5, .int (I1 75 (i5).toNatClampNeg), .int i2, .retAddr 0]) (st' := []) f_145_195 rfl rfl rfl rfl rfl rfl H (k_v (fun G2 I2 J2 H => ?_)) (x_n (fun _ => rfl) rfl (fun x h' h => h))
          exact H
theorem g_145_198 {d : Nat} {G : am_G} {I : Nat → Nat → Int32} {J : Nat → Nat → Int64} {Q : am_O → am_H → Prop} (hR : q_RT G) (i1 : Int32) (i2 : Int32) (i3 : Int32) (i4 : Int32) (i5 : Int32) (H : q_W β xs L (d + 1) 145 141 [.ref 59, .int i1, .int i2, .int i3, .int i4, .int (i5 + 1)] [] (G, I, J) Q) : q_W β xs L (d + 1) 145 198 [.ref 59, .int i1, .int i2, .int i3, .int i4, .int i5] [] (G, I, J) Q := by
  refine w_iinc (ls' := [.ref 59, .int i1, .int i2, .int i3, .int i4, .int (i5 + 1)]) f_145_198 rfl rfl ?_
  refine w_go f_145_201 ?_
  exact H
theorem g_145_207 {d : Nat} {G : am_G} {I : Nat → Nat → Int32} {J : Nat → Nat → Int64} {Q : am_O → am_H → Prop} (hR : q_RT G) (i1 : Int32) (i2 : Int32) (i3 : Int32) (i4 : Int32) (i5 : Int32) (H : ((¬ i5 < (I 59 6) → q_W β xs L (d + 1) 145 241 [.ref 59, .int i1, .int i2, .int i3, .int i4, .int 0] [] (G, I, J) Q) ∧ (i5 < (I 59 6) → (am_is (3 * i5) 300 = true ∧ (am_is i5 100 = true ∧ q_W β xs L (d + 1) 145 207 [.ref 59, .int i1, .int i2, .int i3, .int i4, .int (i5 + 1)] [] (G, (am_u I 90 (i5).toNatClampNeg (I 71 ((3 * i5)).toNatClampNeg)), J) Q))))) : q_W β xs L (d + 1) 145 207 [.ref 59, .int i1, .int i2, .int i3, .int i4, .int i5] [] (G, I, J) Q := by
  refine w_il f_145_207 rfl ?_
  refine w_al f_145_209 rfl ?_
  refine w_gi f_145_210 rfl ?_
  refine w_icge f_145_213 (fun c => ?_) (fun c => ?_)
  · have H := H.1 c
    refine w_ic f_145_238 ?_
    refine w_is (ls' := [.ref 59, .int i1, .int i2, .int i3, .int i4, .int 0]) f_145_239 rfl ?_
    exact H
  · have H := H.2 c
    refine w_al f_145_216 rfl ?_
    refine w_gr f_145_217 rfl (hR _ _ _ rfl) ?_
    refine w_il f_145_220 rfl ?_
    refine w_al f_145_222 rfl ?_
    refine w_gr f_145_223 rfl (hR _ _ _ rfl) ?_
    refine w_ic f_145_226 ?_
    refine w_il f_145_227 rfl ?_
    refine w_bin f_145_229 ?_
    have hb := H.1
    have H := H.2
    refine w_ald f_145_230 rfl hb ?_
    have hb := H.1
    have H := H.2
    refine w_ast f_145_231 rfl hb ?_
    refine w_iinc (ls' := [.ref 59, .int i1, .int i2, .int i3, .int i4, .int (i5 + 1)]) f_145_232 rfl rfl ?_
    refine w_go f_145_235 ?_
    exact H
theorem g_145_241 {d : Nat} {G : am_G} {I : Nat → Nat → Int32} {J : Nat → Nat → Int64} {Q : am_O → am_H → Prop} (hR : q_RT G) (i1 : Int32) (i2 : Int32) (i3 : Int32) (i4 : Int32) (i5 : Int32) (H : ((¬ i5 < (I 59 51) → q_W β xs L (d + 1) 145 293 [.ref 59, .int i1, .int i2, .int i3, .int i4, .int 0] [] (G, I, J) Q) ∧ (i5 < (I 59 51) → (am_is i5 3 = true ∧ (am_is i5 3 = true ∧ q_W β xs L d 144 0 [.ref 59, .int i1, .int i5, .retAddr 0, .retAddr 0] [] (G, I, J) (q_Ri (fun y1 G1 I1 J1 => (am_is ((3 * (I 89 (i5).toNatClampNeg)) + y1) 300 = true ∧ (am_is (I 89 (i5).toNatClampNeg) 100 = true ∧ q_W β xs L (d + 1) 145 241 [.ref 59, .int i1, .int i2, .int i3, .int i4, .int (i5 + 1)] [] (G1, (am_u I1 90 ((I 89 (i5).toNatClampNeg)).toNatClampNeg (I1 71 (((3 * (I 89 (i5).toNatClampNeg)) + y1)).toNatClampNeg)), J1) Q))) (fun x1 G1 I1 J1 => Q (.inr x1) (G1, I1, J1)))))))) : q_W β xs L (d + 1) 145 241 [.ref 59, .int i1, .int i2, .int i3, .int i4, .int i5] [] (G, I, J) Q := by
  refine w_il f_145_241 rfl ?_
  refine w_al f_145_243 rfl ?_
  refine w_gi f_145_244 rfl ?_
  refine w_icge f_145_247 (fun c => ?_) (fun c => ?_)
  · have H := H.1 c
    refine w_ic f_145_290 ?_
    refine w_is (ls' := [.ref 59, .int i1, .int i2, .int i3, .int i4, .int 0]) f_145_291 rfl ?_
    exact H
  · have H := H.2 c
    refine w_al f_145_250 rfl ?_
    refine w_gr f_145_251 rfl (hR _ _ _ rfl) ?_
    refine w_al f_145_254 rfl ?_
    refine w_gr f_145_255 rfl (hR _ _ _ rfl) ?_
    refine w_il f_145_258 rfl ?_
    have hb := H.1
    have H := H.2
    refine w_ald f_145_260 rfl hb ?_
    refine w_al f_145_261 rfl ?_
    refine w_gr f_145_262 rfl (hR _ _ _ rfl) ?_
    refine w_ic f_145_265 ?_
    refine w_al f_145_266 rfl ?_
    refine w_gr f_145_267 rfl (hR _ _ _ rfl) ?_
    refine w_il f_145_270 rfl ?_
    have hb := H.1
    have H := H.2
    refine w_ald f_145_272 rfl hb ?_
    refine w_bin f_145_273 ?_
    refine w_al f_145_274 rfl ?_
    refine w_il f_145_275 rfl ?_
    refine w_il f_145_276 rfl ?_
    refine w_inv (as := [.ref 59, .int i1, .int i5, .retAddr 0, .retAddr 0]) (st' := [.int (3 * (I 89 (i5).toNatClampNeg)), .ref 71, .int (I 89 (i5).toNatClampNeg), .ref 90]) f_145_278 rfl rfl rfl rfl rfl rfl H (k_i (fun y1 G1 I1 J1 H => ?_)) (x_n (fun _ => rfl) rfl (fun x h' h => h))
    refine w_bin f_145_281 ?_
    have hb := H.1
    have H := H.2
    refine w_ald f_145_282 rfl hb ?_
    have hb := H.1
    have H := H.2
    refine w_ast f_145_283 rfl hb ?_
    refine w_iinc (ls' := [.ref 59, .int i1, .int i2, .int i3, .int i4, .int (i5 + 1)]) f_145_284 rfl rfl ?_
    refine w_go f_145_287 ?_
    exact H
theorem g_145_293 {d : Nat} {G : am_G} {I : Nat → Nat → Int32} {J : Nat → Nat → Int64} {Q : am_O → am_H → Prop} (hR : q_RT G) (i1 : Int32) (i2 : Int32) (i3 : Int32) (i4 : Int32) (i5 : Int32) (H : ((¬ i5 < (I 59 6) → Q (.inl none) (G, I, J)) ∧ (i5 < (I 59 6) → q_W β xs L d 141 0 [.ref 59, .int i5, .int i3] [] (G, I, J) (q_Ri (fun y1 G1 I1 J1 => (q_RT G1 ∧ ((y1 = 0 → q_W β xs L (d + 1) 145 329 [.ref 59, .int i1, .int i2, .int i3, .int i4, .int i5] [] (G1, I1, J1) Q) ∧ (¬ y1 = 0 → (am_is i5 100 = true ∧ q_W β xs L d 146 0 [.ref 59, .int (12 + i5), .int (I1 90 (i5).toNatClampNeg), .int i2, .retAddr 0] [] (G1, I1, J1) (q_Rv (fun G2 I2 J2 => q_W β xs L (d + 1) 145 329 [.ref 59, .int i1, .int i2, .int i3, .int i4, .int i5] [] (G2, I2, J2) Q) (fun x2 G2 I2 J2 => Q (.inr x2) (G2, I2, J2)))))))) (fun x1 G1 I1 J1 => Q (.inr x1) (G1, I1, J1)))))) : q_W β xs L (d + 1) 145 293 [.ref 59, .int i1, .int i2, .int i3, .int i4, .int i5] [] (G, I, J) Q := by
  refine w_il f_145_293 rfl ?_
  refine w_al f_145_295 rfl ?_
  refine w_gi f_145_296 rfl ?_
  refine w_icge f_145_299 (fun c => ?_) (fun c => ?_)
  · have H := H.1 c
    exact w_ret0 f_145_335 H
  · have H := H.2 c
    refine w_al f_145_302 rfl ?_
    refine w_il f_145_303 rfl ?_
    refine w_il f_145_305 rfl ?_
    refine w_inv (as := [.ref 59, .int i5, .int i3]) (st' := []) f_145_306 rfl rfl rfl rfl rfl rfl H (k_i (fun y1 G1 I1 J1 H => ?_)) (x_n (fun _ => rfl) rfl (fun x h' h => h))
    have hR1 := H.1
    have H := H.2
    refine w_ifeq f_145_309 (fun c => ?_) (fun c => ?_)
    · have H := H.1 c
      exact H
    · have H := H.2 c
      refine w_al f_145_312 rfl ?_
      refine w_ic f_145_313 ?_
      refine w_il f_145_315 rfl ?_
      refine w_bin f_145_317 ?_
      refine w_al f_145_318 rfl ?_
      refine w_gr f_145_319 rfl (hR1 _ _ _ rfl) ?_
      refine w_il f_145_322 rfl ?_
      have hb := H.1
      have H := H.2
      refine w_ald f_145_324 rfl hb ?_
      refine w_il f_145_325 rfl ?_
      refine w_inv (as := [.ref 59, .int (12 + i5), .int (I1 90 (i5).toNatClampNeg), .int i2, .retAddr 0]) (st' := []) f_145_326 rfl rfl rfl rfl rfl rfl H (k_v (fun G2 I2 J2 H => ?_)) (x_n (fun _ => rfl) rfl (fun x h' h => h))
      exact H
theorem g_145_329 {d : Nat} {G : am_G} {I : Nat → Nat → Int32} {J : Nat → Nat → Int64} {Q : am_O → am_H → Prop} (hR : q_RT G) (i1 : Int32) (i2 : Int32) (i3 : Int32) (i4 : Int32) (i5 : Int32) (H : q_W β xs L (d + 1) 145 293 [.ref 59, .int i1, .int i2, .int i3, .int i4, .int (i5 + 1)] [] (G, I, J) Q) : q_W β xs L (d + 1) 145 329 [.ref 59, .int i1, .int i2, .int i3, .int i4, .int i5] [] (G, I, J) Q := by
  refine w_iinc (ls' := [.ref 59, .int i1, .int i2, .int i3, .int i4, .int (i5 + 1)]) f_145_329 rfl rfl ?_
  refine w_go f_145_332 ?_
  exact H
theorem g_146_0 {d : Nat} {G : am_G} {I : Nat → Nat → Int32} {J : Nat → Nat → Int64} {Q : am_O → am_H → Prop} (hR : q_RT G) (i1 : Int32) (i2 : Int32) (i3 : Int32) (H : ((¬ i3 < i2 → q_W β xs L d 146 12 [.ref 59, .int i1, .int i2, .int i3, .int (I 59 73)] [] (G, I, J) Q) ∧ (i3 < i2 → Q (.inl none) (G, I, J)))) : q_W β xs L d 146 0 [.ref 59, .int i1, .int i2, .int i3, .retAddr 0] [] (G, I, J) Q := by
  refine w_il f_146_0 rfl ?_
  refine w_il f_146_1 rfl ?_
  refine w_icle f_146_2 (fun c => ?_) (fun c => ?_)
  · have H := H.1 c
    refine w_al f_146_6 rfl ?_
    refine w_gi f_146_7 rfl ?_
    refine w_is (ls' := [.ref 59, .int i1, .int i2, .int i3, .int (I 59 73)]) f_146_10 rfl ?_
    exact H
  · have H := H.2 c
    exact w_ret0 f_146_5 H
theorem g_146_12 {d : Nat} {G : am_G} {I : Nat → Nat → Int32} {J : Nat → Nat → Int64} {Q : am_O → am_H → Prop} (hR : q_RT G) (i1 : Int32) (i2 : Int32) (i3 : Int32) (i4 : Int32) (H : ((¬ 0 < i4 → q_W β xs L d 146 94 [.ref 59, .int i1, .int i2, .int i3, .int i4] [] (G, I, J) Q) ∧ (0 < i4 → (am_is (i4 - 1) 112 = true ∧ ((i2 < (I 109 ((i4 - 1)).toNatClampNeg) → q_W β xs L d 146 56 [.ref 59, .int i1, .int i2, .int i3, .int i4] [] (G, I, J) Q) ∧ (¬ i2 < (I 109 ((i4 - 1)).toNatClampNeg) → (am_is (i4 - 1) 112 = true ∧ ((¬ (I 109 ((i4 - 1)).toNatClampNeg) = i2 → q_W β xs L d 146 94 [.ref 59, .int i1, .int i2, .int i3, .int i4] [] (G, I, J) Q) ∧ ((I 109 ((i4 - 1)).toNatClampNeg) = i2 → (am_is (i4 - 1) 112 = true ∧ ((¬ i1 < (I 108 ((i4 - 1)).toNatClampNeg) → q_W β xs L d 146 94 [.ref 59, .int i1, .int i2, .int i3, .int i4] [] (G, I, J) Q) ∧ (i1 < (I 108 ((i4 - 1)).toNatClampNeg) → q_W β xs L d 146 56 [.ref 59, .int i1, .int i2, .int i3, .int i4] [] (G, I, J) Q)))))))))))) : q_W β xs L d 146 12 [.ref 59, .int i1, .int i2, .int i3, .int i4] [] (G, I, J) Q := by
  refine w_il f_146_12 rfl ?_
  refine w_ifle f_146_14 (fun c => ?_) (fun c => ?_)
  · have H := H.1 c
    exact H
  · have H := H.2 c
    refine w_al f_146_17 rfl ?_
    refine w_gr f_146_18 rfl (hR _ _ _ rfl) ?_
    refine w_il f_146_21 rfl ?_
    refine w_ic f_146_23 ?_
    refine w_bin f_146_24 ?_
    have hb := H.1
    have H := H.2
    refine w_ald f_146_25 rfl hb ?_
    refine w_il f_146_26 rfl ?_
    refine w_icgt f_146_27 (fun c => ?_) (fun c => ?_)
    · have H := H.1 c
      exact H
    · have H := H.2 c
      refine w_al f_146_30 rfl ?_
      refine w_gr f_146_31 rfl (hR _ _ _ rfl) ?_
      refine w_il f_146_34 rfl ?_
      refine w_ic f_146_36 ?_
      refine w_bin f_146_37 ?_
      have hb := H.1
      have H := H.2
      refine w_ald f_146_38 rfl hb ?_
      refine w_il f_146_39 rfl ?_
      refine w_icne f_146_40 (fun c => ?_) (fun c => ?_)
      · have H := H.1 c
        exact H
      · have H := H.2 c
        refine w_al f_146_43 rfl ?_
        refine w_gr f_146_44 rfl (hR _ _ _ rfl) ?_
        refine w_il f_146_47 rfl ?_
        refine w_ic f_146_49 ?_
        refine w_bin f_146_50 ?_
        have hb := H.1
        have H := H.2
        refine w_ald f_146_51 rfl hb ?_
        refine w_il f_146_52 rfl ?_
        refine w_icle f_146_53 (fun c => ?_) (fun c => ?_)
        · have H := H.1 c
          exact H
        · have H := H.2 c
          exact H
theorem g_146_56 {d : Nat} {G : am_G} {I : Nat → Nat → Int32} {J : Nat → Nat → Int64} {Q : am_O → am_H → Prop} (hR : q_RT G) (i1 : Int32) (i2 : Int32) (i3 : Int32) (i4 : Int32) (H : (am_is (i4 - 1) 112 = true ∧ (am_is i4 112 = true ∧ (am_is (i4 - 1) 112 = true ∧ (am_is i4 112 = true ∧ q_W β xs L d 146 12 [.ref 59, .int i1, .int i2, .int i3, .int (i4 + (-1))] [] (G, (am_u (am_u I 108 (i4).toNatClampNeg (I 108 ((i4 - 1)).toNatClampNeg)) 109 (i4).toNatClampNeg (I 109 ((i4 - 1)).toNatClampNeg)), J) Q))))) : q_W β xs L d 146 56 [.ref 59, .int i1, .int i2, .int i3, .int i4] [] (G, I, J) Q := by
  refine w_al f_146_56 rfl ?_
  refine w_gr f_146_57 rfl (hR _ _ _ rfl) ?_
  refine w_il f_146_60 rfl ?_
  refine w_al f_146_62 rfl ?_
  refine w_gr f_146_63 rfl (hR _ _ _ rfl) ?_
  refine w_il f_146_66 rfl ?_
  refine w_ic f_146_68 ?_
  refine w_bin f_146_69 ?_
  have hb := H.1
  have H := H.2
  refine w_ald f_146_70 rfl hb ?_
  have hb := H.1
  have H := H.2
  refine w_ast f_146_71 rfl hb ?_
  refine w_al f_146_72 rfl ?_
  refine w_gr f_146_73 rfl (hR _ _ _ rfl) ?_
  refine w_il f_146_76 rfl ?_
  refine w_al f_146_78 rfl ?_
  refine w_gr f_146_79 rfl (hR _ _ _ rfl) ?_
  refine w_il f_146_82 rfl ?_
  refine w_ic f_146_84 ?_
  refine w_bin f_146_85 ?_
  have hb := H.1
  have H := H.2
  refine w_ald' f_146_86 rfl hb (am_u_ne (Or.inl (by decide))) ?_
  have hb := H.1
  have H := H.2
  refine w_ast f_146_87 rfl hb ?_
  refine w_iinc (ls' := [.ref 59, .int i1, .int i2, .int i3, .int (i4 + (-1))]) f_146_88 rfl rfl ?_
  refine w_go f_146_91 ?_
  exact H
theorem g_146_94 {d : Nat} {G : am_G} {I : Nat → Nat → Int32} {J : Nat → Nat → Int64} {Q : am_O → am_H → Prop} (hR : q_RT G) (i1 : Int32) (i2 : Int32) (i3 : Int32) (i4 : Int32) (H : (am_is i4 112 = true ∧ (am_is i4 112 = true ∧ Q (.inl none) (G, (am_u (am_u (am_u I 108 (i4).toNatClampNeg i1) 109 (i4).toNatClampNeg i2) 59 73 ((I 59 73) + 1)), J)))) : q_W β xs L d 146 94 [.ref 59, .int i1, .int i2, .int i3, .int i4] [] (G, I, J) Q := by
  refine w_al f_146_94 rfl ?_
  refine w_gr f_146_95 rfl (hR _ _ _ rfl) ?_
  refine w_il f_146_98 rfl ?_
  refine w_il f_146_100 rfl ?_
  have hb := H.1
  have H := H.2
  refine w_ast f_146_101 rfl hb ?_
  refine w_al f_146_102 rfl ?_
  refine w_gr f_146_103 rfl (hR _ _ _ rfl) ?_
  refine w_il f_146_106 rfl ?_
  refine w_il f_146_108 rfl ?_
  have hb := H.1
  have H := H.2
  refine w_ast f_146_109 rfl hb ?_
  refine w_al f_146_110 rfl ?_
  refine w_dupr f_146_111 ?_
  refine w_gi' f_146_112 rfl ((am_u_ne (Or.inl (by decide))).trans (am_u_ne (Or.inl (by decide)))) ?_
  refine w_ic f_146_115 ?_
  refine w_bin f_146_116 ?_
  refine w_pi f_146_117 rfl ?_
  exact w_ret0 f_146_120 H
theorem g_147_0 {d : Nat} {G : am_G} {I : Nat → Nat → Int32} {J : Nat → Nat → Int64} {Q : am_O → am_H → Prop} (hR : q_RT G) (i1 : Int32) (i2 : Int32) (i3 : Int32) (i4 : Int32) (H : q_W β xs L d 145 0 [.ref 59, .int i1, .int i2, .int i3, .int i4, .retAddr 0] [] (G, I, J) (q_Rv (fun G1 I1 J1 => q_W β xs L (d + 1) 147 12 [.ref 59, .int i1, .int i2, .int i3, .int i4, .int 0, .retAddr 0] [] (G1, I1, J1) Q) (fun x1 G1 I1 J1 => Q (.inr x1) (G1, I1, J1)))) : q_W β xs L (d + 1) 147 0 [.ref 59, .int i1, .int i2, .int i3, .int i4, .retAddr 0, .retAddr 0] [] (G, I, J) Q := by
  refine w_al f_147_0 rfl ?_
  refine w_il f_147_1 rfl ?_
  refine w_il f_147_2 rfl ?_
  refine w_il f_147_3 rfl ?_
  refine w_il f_147_4 rfl ?_
  refine w_inv (as := [.ref 59, .int i1, .int i2, .int i3, .int i4, .retAddr 0]) (st' := []) f_147_6 rfl rfl rfl rfl rfl rfl H (k_v (fun G1 I1 J1 H => ?_)) (x_n (fun _ => rfl) rfl (fun x h' h => h))
  refine w_ic f_147_9 ?_
  refine w_is (ls' := [.ref 59, .int i1, .int i2, .int i3, .int i4, .int 0, .retAddr 0]) f_147_10 rfl ?_
  exact H
theorem g_147_12 {d : Nat} {G : am_G} {I : Nat → Nat → Int32} {J : Nat → Nat → Int64} {Q : am_O → am_H → Prop} (hR : q_RT G) (i1 : Int32) (i2 : Int32) (i3 : Int32) (i4 : Int32) (i5 : Int32) (v6 : Value) (n6 : am_nl v6 = true) (H : ((¬ i5 < (I 59 73) → Q (.inl none) (G, I, J)) ∧ (i5 < (I 59 73) → (am_is i5 112 = true ∧ q_W β xs L d 142 0 [.ref 59, .int (I 109 (i5).toNatClampNeg), .int i3, .int i4, .retAddr 0, .retAddr 0, .retAddr 0] [] (G, (am_u I 59 76 (I 109 (i5).toNatClampNeg)), J) (q_Ri (fun y1 G1 I1 J1 => (q_RT G1 ∧ (am_is i5 112 = true ∧ (((I1 108 (i5).toNatClampNeg) < 12 → ((¬ ((y1 >>> ((I1 108 (i5).toNatClampNeg) &&& 31)) &&& 1) = 1 → q_W β xs L (d + 1) 147 94 [.ref 59, .int i1, .int i2, .int i3, .int i4, .int i5, .int (I1 108 (i5).toNatClampNeg)] [] (G1, (am_u I1 59 77 y1), J1) Q) ∧ (((y1 >>> ((I1 108 (i5).toNatClampNeg) &&& 31)) &&& 1) = 1 → q_W β xs L d 148 0 [.ref 59, .int (I1 108 (i5).toNatClampNeg), .retAddr 0] [] (G1, (am_u I1 59 77 y1), J1) (q_Rv (fun G2 I2 J2 => q_W β xs L (d + 1) 147 94 [.ref 59, .int i1, .int i2, .int i3, .int i4, .int i5, .int (I1 108 (i5).toNatClampNeg)] [] (G2, I2, J2) Q) (fun x2 G2 I2 J2 => Q (.inr x2) (G2, I2, J2)))))) ∧ (¬ (I1 108 (i5).toNatClampNeg) < 12 → q_W β xs L d 149 0 [.ref 59, .int ((I1 108 (i5).toNatClampNeg) - 12), .retAddr 0, .retAddr 0] [] (G1, (am_u I1 59 77 y1), J1) (q_Rv (fun G3 I3 J3 => q_W β xs L (d + 1) 147 94 [.ref 59, .int i1, .int i2, .int i3, .int i4, .int i5, .int (I1 108 (i5).toNatClampNeg)] [] (G3, I3, J3) Q) (fun x3 G3 I3 J3 => Q (.inr x3) (G3, I3, J3)))))))) (fun x1 G1 I1 J1 => Q (.inr x1) (G1, I1, J1))))))) : q_W β xs L (d + 1) 147 12 [.ref 59, .int i1, .int i2, .int i3, .int i4, .int i5, v6] [] (G, I, J) Q := by
  refine w_il f_147_12 rfl ?_
  refine w_al f_147_14 rfl ?_
  refine w_gi f_147_15 rfl ?_
  refine w_icge f_147_18 (fun c => ?_) (fun c => ?_)
  · have H := H.1 c
    exact w_ret0 f_147_100 H
  · have H := H.2 c
    refine w_al f_147_21 rfl ?_
    refine w_al f_147_22 rfl ?_
    refine w_gr f_147_23 rfl (hR _ _ _ rfl) ?_
    refine w_il f_147_26 rfl ?_
    have hb := H.1
    have H := H.2
    refine w_ald f_147_28 rfl hb ?_
    refine w_pi f_147_29 rfl ?_
    refine w_al f_147_32 rfl ?_
    refine w_al f_147_33 rfl ?_
    refine w_al f_147_34 rfl ?_
    refine w_gi' f_147_35 rfl (am_u_same) ?_
    refine w_il f_147_38 rfl ?_
    refine w_il f_147_39 rfl ?_
    refine w_inv (as := [.ref 59, .int (I 109 (i5).toNatClampNeg), .int i3, .int i4, .retAddr 0, .retAddr 0, .retAddr 0]) (st' := [.ref 59]) f_147_41 rfl rfl rfl rfl rfl rfl H (k_i (fun y1 G1 I1 J1 H => ?_)) (x_n (fun _ => rfl) rfl (fun x h' h => h))
    have hR1 := H.1
    have H := H.2
    refine w_pi f_147_44 rfl ?_
    refine w_al f_147_47 rfl ?_
    refine w_gr f_147_48 rfl (hR1 _ _ _ rfl) ?_
    refine w_il f_147_51 rfl ?_
    have hb := H.1
    have H := H.2
    refine w_ald' f_147_53 rfl hb (am_u_ne (Or.inl (by decide))) ?_
    refine w_is (ls' := [.ref 59, .int i1, .int i2, .int i3, .int i4, .int i5, .int (I1 108 (i5).toNatClampNeg)]) f_147_54 rfl ?_
    refine w_il f_147_56 rfl ?_
    refine w_ic f_147_58 ?_
    refine w_iclt f_147_60 (fun c => ?_) (fun c => ?_)
    · have H := H.1 c
      refine w_al f_147_75 rfl ?_
      refine w_gi' f_147_76 rfl (am_u_same) ?_
      refine w_il f_147_79 rfl ?_
      refine w_bin f_147_81 ?_
      refine w_ic f_147_82 ?_
      refine w_bin f_147_83 ?_
      refine w_ic f_147_84 ?_
      refine w_icne f_147_85 (fun c => ?_) (fun c => ?_)
      · have H := H.1 c
        exact H
      · have H := H.2 c
        refine w_al f_147_88 rfl ?_
        refine w_il f_147_89 rfl ?_
        refine w_inv (as := [.ref 59, .int (I1 108 (i5).toNatClampNeg), .retAddr 0]) (st' := []) f_147_91 rfl rfl rfl rfl rfl rfl H (k_v (fun G2 I2 J2 H => ?_)) (x_n (fun _ => rfl) rfl (fun x h' h => h))
        exact H
    · have H := H.2 c
      refine w_al f_147_63 rfl ?_
      refine w_il f_147_64 rfl ?_
      refine w_ic f_147_66 ?_
      refine w_bin f_147_68 ?_
      refine w_inv (as := [.ref 59, .int ((I1 108 (i5).toNatClampNeg) - 12), .retAddr 0, .retAddr 0]) (st' := []) f_147_69 rfl rfl rfl rfl rfl rfl H (k_v (fun G3 I3 J3 H => ?_)) (x_n (fun _ => rfl) rfl (fun x h' h => h))
      refine w_go f_147_72 ?_
      exact H
theorem g_147_94 {d : Nat} {G : am_G} {I : Nat → Nat → Int32} {J : Nat → Nat → Int64} {Q : am_O → am_H → Prop} (hR : q_RT G) (i1 : Int32) (i2 : Int32) (i3 : Int32) (i4 : Int32) (i5 : Int32) (i6 : Int32) (H : q_W β xs L (d + 1) 147 12 [.ref 59, .int i1, .int i2, .int i3, .int i4, .int (i5 + 1), .int i6] [] (G, I, J) Q) : q_W β xs L (d + 1) 147 94 [.ref 59, .int i1, .int i2, .int i3, .int i4, .int i5, .int i6] [] (G, I, J) Q := by
  refine w_iinc (ls' := [.ref 59, .int i1, .int i2, .int i3, .int i4, .int (i5 + 1), .int i6]) f_147_94 rfl rfl ?_
  refine w_go f_147_97 ?_
  exact H
theorem g_148_0 {d : Nat} {G : am_G} {I : Nat → Nat → Int32} {J : Nat → Nat → Int64} {Q : am_O → am_H → Prop} (hR : q_RT G) (i1 : Int32) (H : (am_is i1 12 = true ∧ q_W β xs L (d + 1) 148 28 [.ref 59, .int i1, .int 0] [] (G, (am_u (am_u (am_u (am_u I 59 78 14) 59 79 (-1)) 59 80 (I 74 (i1).toNatClampNeg)) 59 81 (-1)), J) Q)) : q_W β xs L (d + 1) 148 0 [.ref 59, .int i1, .retAddr 0] [] (G, I, J) Q := by
  refine w_al f_148_0 rfl ?_
  refine w_ic f_148_1 ?_
  refine w_pi f_148_3 rfl ?_
  refine w_al f_148_6 rfl ?_
  refine w_ic f_148_7 ?_
  refine w_pi f_148_8 rfl ?_
  refine w_al f_148_11 rfl ?_
  refine w_al f_148_12 rfl ?_
  refine w_gr f_148_13 rfl (hR _ _ _ rfl) ?_
  refine w_il f_148_16 rfl ?_
  have hb := H.1
  have H := H.2
  refine w_ald' f_148_17 rfl hb ((am_u_ne (Or.inl (by decide))).trans (am_u_ne (Or.inl (by decide)))) ?_
  refine w_pi f_148_18 rfl ?_
  refine w_al f_148_21 rfl ?_
  refine w_ic f_148_22 ?_
  refine w_pi f_148_23 rfl ?_
  refine w_ic f_148_26 ?_
  refine w_is (ls' := [.ref 59, .int i1, .int 0]) f_148_27 rfl ?_
  exact H
theorem g_148_28 {d : Nat} {G : am_G} {I : Nat → Nat → Int32} {J : Nat → Nat → Int64} {Q : am_O → am_H → Prop} (hR : q_RT G) (i1 : Int32) (i2 : Int32) (H : ((¬ i2 < (I 59 5) → Q (.inl none) (G, I, J)) ∧ (i2 < (I 59 5) → (am_is i1 12 = true ∧ (am_is i1 12 = true ∧ q_W β xs L d 158 0 [.ref 59, .int i2, .int (I 74 (i1).toNatClampNeg), .int (I 74 (i1).toNatClampNeg), .retAddr 0, .retAddr 0, .retAddr 0] [] (G, I, J) (q_Rv (fun G1 I1 J1 => q_W β xs L (d + 1) 148 28 [.ref 59, .int i1, .int (i2 + 1)] [] (G1, I1, J1) Q) (fun x1 G1 I1 J1 => Q (.inr x1) (G1, I1, J1)))))))) : q_W β xs L (d + 1) 148 28 [.ref 59, .int i1, .int i2] [] (G, I, J) Q := by
  refine w_il f_148_28 rfl ?_
  refine w_al f_148_29 rfl ?_
  refine w_gi f_148_30 rfl ?_
  refine w_icge f_148_33 (fun c => ?_) (fun c => ?_)
  · have H := H.1 c
    exact w_ret0 f_148_59 H
  · have H := H.2 c
    refine w_al f_148_36 rfl ?_
    refine w_il f_148_37 rfl ?_
    refine w_al f_148_38 rfl ?_
    refine w_gr f_148_39 rfl (hR _ _ _ rfl) ?_
    refine w_il f_148_42 rfl ?_
    have hb := H.1
    have H := H.2
    refine w_ald f_148_43 rfl hb ?_
    refine w_al f_148_44 rfl ?_
    refine w_gr f_148_45 rfl (hR _ _ _ rfl) ?_
    refine w_il f_148_48 rfl ?_
    have hb := H.1
    have H := H.2
    refine w_ald f_148_49 rfl hb ?_
    refine w_inv (as := [.ref 59, .int i2, .int (I 74 (i1).toNatClampNeg), .int (I 74 (i1).toNatClampNeg), .retAddr 0, .retAddr 0, .retAddr 0]) (st' := []) f_148_50 rfl rfl rfl rfl rfl rfl H (k_v (fun G1 I1 J1 H => ?_)) (x_n (fun _ => rfl) rfl (fun x h' h => h))
    refine w_iinc (ls' := [.ref 59, .int i1, .int (i2 + 1)]) f_148_53 rfl rfl ?_
    refine w_go f_148_56 ?_
    exact H
theorem g_149_0 {d : Nat} {G : am_G} {I : Nat → Nat → Int32} {J : Nat → Nat → Int64} {Q : am_O → am_H → Prop} (hR : q_RT G) (i1 : Int32) (H : (am_is i1 100 = true ∧ (am_is i1 100 = true ∧ (((I 64 (i1).toNatClampNeg) < 2 → q_W β xs L (d + 1) 149 39 [.ref 59, .int i1, .int (I 65 (i1).toNatClampNeg), .int (I 64 (i1).toNatClampNeg)] [.ref 59] (G, (am_u I 59 81 i1), J) Q) ∧ (¬ (I 64 (i1).toNatClampNeg) < 2 → ((5 < (I 64 (i1).toNatClampNeg) → q_W β xs L (d + 1) 149 39 [.ref 59, .int i1, .int (I 65 (i1).toNatClampNeg), .int (I 64 (i1).toNatClampNeg)] [.ref 59] (G, (am_u I 59 81 i1), J) Q) ∧ (¬ 5 < (I 64 (i1).toNatClampNeg) → (am_is i1 100 = true ∧ q_W β xs L (d + 1) 149 40 [.ref 59, .int i1, .int (I 65 (i1).toNatClampNeg), .int (I 64 (i1).toNatClampNeg)] [.int (I 66 (i1).toNatClampNeg), .ref 59] (G, (am_u I 59 81 i1), J) Q)))))))) : q_W β xs L (d + 1) 149 0 [.ref 59, .int i1, .retAddr 0, .retAddr 0] [] (G, I, J) Q := by
  refine w_al f_149_0 rfl ?_
  refine w_il f_149_1 rfl ?_
  refine w_pi f_149_2 rfl ?_
  refine w_al f_149_5 rfl ?_
  refine w_gr f_149_6 rfl (hR _ _ _ rfl) ?_
  refine w_il f_149_9 rfl ?_
  have hb := H.1
  have H := H.2
  refine w_ald' f_149_10 rfl hb (am_u_ne (Or.inl (by decide))) ?_
  refine w_is (ls' := [.ref 59, .int i1, .int (I 65 (i1).toNatClampNeg), .retAddr 0]) f_149_11 rfl ?_
  refine w_al f_149_12 rfl ?_
  refine w_gr f_149_13 rfl (hR _ _ _ rfl) ?_
  refine w_il f_149_16 rfl ?_
  have hb := H.1
  have H := H.2
  refine w_ald' f_149_17 rfl hb (am_u_ne (Or.inl (by decide))) ?_
  refine w_is (ls' := [.ref 59, .int i1, .int (I 65 (i1).toNatClampNeg), .int (I 64 (i1).toNatClampNeg)]) f_149_18 rfl ?_
  refine w_al f_149_19 rfl ?_
  refine w_il f_149_20 rfl ?_
  refine w_ic f_149_21 ?_
  refine w_iclt f_149_22 (fun c => ?_) (fun c => ?_)
  · have H := H.1 c
    exact H
  · have H := H.2 c
    refine w_il f_149_25 rfl ?_
    refine w_ic f_149_26 ?_
    refine w_icgt f_149_27 (fun c => ?_) (fun c => ?_)
    · have H := H.1 c
      exact H
    · have H := H.2 c
      refine w_al f_149_30 rfl ?_
      refine w_gr f_149_31 rfl (hR _ _ _ rfl) ?_
      refine w_il f_149_34 rfl ?_
      have hb := H.1
      have H := H.2
      refine w_ald' f_149_35 rfl hb (am_u_ne (Or.inl (by decide))) ?_
      refine w_go f_149_36 ?_
      exact H
theorem g_149_39 {d : Nat} {G : am_G} {I : Nat → Nat → Int32} {J : Nat → Nat → Int64} {Q : am_O → am_H → Prop} (hR : q_RT G) (i1 : Int32) (i2 : Int32) (i3 : Int32) (H : q_W β xs L (d + 1) 149 40 [.ref 59, .int i1, .int i2, .int i3] [.int (-1), .ref 59] (G, I, J) Q) : q_W β xs L (d + 1) 149 39 [.ref 59, .int i1, .int i2, .int i3] [.ref 59] (G, I, J) Q := by
  refine w_ic f_149_39 ?_
  exact H
theorem g_149_40 {d : Nat} {G : am_G} {I : Nat → Nat → Int32} {J : Nat → Nat → Int64} {Q : am_O → am_H → Prop} (hR : q_RT G) (i1 : Int32) (i2 : Int32) (i3 : Int32) (is0 : Int32) (H : ((i3 < 2 → q_W β xs L (d + 1) 149 54 [.ref 59, .int i1, .int i2, .int i3] [.ref 59] (G, (am_u I 59 80 is0), J) Q) ∧ (¬ i3 < 2 → ((¬ i3 = 5 → q_W β xs L (d + 1) 149 64 [.ref 59, .int i1, .int i2, .int i3] [.int (-1), .ref 59] (G, (am_u I 59 80 is0), J) Q) ∧ (i3 = 5 → q_W β xs L (d + 1) 149 54 [.ref 59, .int i1, .int i2, .int i3] [.ref 59] (G, (am_u I 59 80 is0), J) Q))))) : q_W β xs L (d + 1) 149 40 [.ref 59, .int i1, .int i2, .int i3] [.int is0, .ref 59] (G, I, J) Q := by
  refine w_pi f_149_40 rfl ?_
  refine w_al f_149_43 rfl ?_
  refine w_il f_149_44 rfl ?_
  refine w_ic f_149_45 ?_
  refine w_iclt f_149_46 (fun c => ?_) (fun c => ?_)
  · have H := H.1 c
    exact H
  · have H := H.2 c
    refine w_il f_149_49 rfl ?_
    refine w_ic f_149_50 ?_
    refine w_icne f_149_51 (fun c => ?_) (fun c => ?_)
    · have H := H.1 c
      refine w_ic f_149_63 ?_
      exact H
    · have H := H.2 c
      exact H
theorem g_149_54 {d : Nat} {G : am_G} {I : Nat → Nat → Int32} {J : Nat → Nat → Int64} {Q : am_O → am_H → Prop} (hR : q_RT G) (i1 : Int32) (i2 : Int32) (i3 : Int32) (H : (am_is i1 100 = true ∧ q_W β xs L (d + 1) 149 64 [.ref 59, .int i1, .int i2, .int i3] [.int (I 67 (i1).toNatClampNeg), .ref 59] (G, I, J) Q)) : q_W β xs L (d + 1) 149 54 [.ref 59, .int i1, .int i2, .int i3] [.ref 59] (G, I, J) Q := by
  refine w_al f_149_54 rfl ?_
  refine w_gr f_149_55 rfl (hR _ _ _ rfl) ?_
  refine w_il f_149_58 rfl ?_
  have hb := H.1
  have H := H.2
  refine w_ald f_149_59 rfl hb ?_
  refine w_go f_149_60 ?_
  exact H
theorem g_149_64 {d : Nat} {G : am_G} {I : Nat → Nat → Int32} {J : Nat → Nat → Int64} {Q : am_O → am_H → Prop} (hR : q_RT G) (i1 : Int32) (i2 : Int32) (i3 : Int32) (is0 : Int32) (H : ((¬ i3 = 0 → ((¬ i3 = 1 → ((¬ i3 < 5 → ((¬ i3 = 5 → (am_is i1 100 = true ∧ q_W β xs L d 154 0 [.ref 59, .int i2, .int (I 67 (i1).toNatClampNeg)] [] (G, (am_u I 59 79 is0), J) (q_Rv (fun G1 I1 J1 => q_W β xs L (d + 1) 149 147 [.ref 59, .int i1, .int i2, .int i3] [] (G1, I1, J1) Q) (fun x1 G1 I1 J1 => Q (.inr x1) (G1, I1, J1))))) ∧ (i3 = 5 → (am_is i1 100 = true ∧ q_W β xs L d 153 0 [.ref 59, .int (I 67 (i1).toNatClampNeg), .retAddr 0] [] (G, (am_u I 59 79 is0), J) (q_Rv (fun G2 I2 J2 => q_W β xs L (d + 1) 149 147 [.ref 59, .int i1, .int i2, .int i3] [] (G2, I2, J2) Q) (fun x2 G2 I2 J2 => Q (.inr x2) (G2, I2, J2))))))) ∧ (i3 < 5 → q_W β xs L d 150 0 [.ref 59, .int ((10 + i3) - 2), .int i2] [] (G, (am_u I 59 79 is0), J) (q_Rv (fun G3 I3 J3 => q_W β xs L (d + 1) 149 147 [.ref 59, .int i1, .int i2, .int i3] [] (G3, I3, J3) Q) (fun x3 G3 I3 J3 => Q (.inr x3) (G3, I3, J3)))))) ∧ (i3 = 1 → (am_is i1 100 = true ∧ q_W β xs L d 152 0 [.ref 59, .int i2, .int (I 66 (i1).toNatClampNeg), .retAddr 0, .retAddr 0, .retAddr 0] [] (G, (am_u I 59 79 is0), J) (q_Rv (fun G4 I4 J4 => q_W β xs L (d + 1) 149 147 [.ref 59, .int i1, .int i2, .int i3] [] (G4, I4, J4) Q) (fun x4 G4 I4 J4 => Q (.inr x4) (G4, I4, J4))))))) ∧ (i3 = 0 → q_W β xs L d 151 0 [.ref 59, .int i2, .int i1] [] (G, (am_u I 59 79 is0), J) (q_Rv (fun G5 I5 J5 => q_W β xs L (d + 1) 149 147 [.ref 59, .int i1, .int i2, .int i3] [] (G5, I5, J5) Q) (fun x5 G5 I5 J5 => Q (.inr x5) (G5, I5, J5)))))) : q_W β xs L (d + 1) 149 64 [.ref 59, .int i1, .int i2, .int i3] [.int is0, .ref 59] (G, I, J) Q := by
  refine w_pi f_149_64 rfl ?_
  refine w_il f_149_67 rfl ?_
  refine w_ifne f_149_68 (fun c => ?_) (fun c => ?_)
  · have H := H.1 c
    refine w_il f_149_80 rfl ?_
    refine w_ic f_149_81 ?_
    refine w_icne f_149_82 (fun c => ?_) (fun c => ?_)
    · have H := H.1 c
      refine w_il f_149_99 rfl ?_
      refine w_ic f_149_100 ?_
      refine w_icge f_149_101 (fun c => ?_) (fun c => ?_)
      · have H := H.1 c
        refine w_il f_149_118 rfl ?_
        refine w_ic f_149_119 ?_
        refine w_icne f_149_120 (fun c => ?_) (fun c => ?_)
        · have H := H.1 c
          refine w_al f_149_136 rfl ?_
          refine w_il f_149_137 rfl ?_
          refine w_al f_149_138 rfl ?_
          refine w_gr f_149_139 rfl (hR _ _ _ rfl) ?_
          refine w_il f_149_142 rfl ?_
          have hb := H.1
          have H := H.2
          refine w_ald' f_149_143 rfl hb (am_u_ne (Or.inl (by decide))) ?_
          refine w_inv (as := [.ref 59, .int i2, .int (I 67 (i1).toNatClampNeg)]) (st' := []) f_149_144 rfl rfl rfl rfl rfl rfl H (k_v (fun G1 I1 J1 H => ?_)) (x_n (fun _ => rfl) rfl (fun x h' h => h))
          exact H
        · have H := H.2 c
          refine w_al f_149_123 rfl ?_
          refine w_al f_149_124 rfl ?_
          refine w_gr f_149_125 rfl (hR _ _ _ rfl) ?_
          refine w_il f_149_128 rfl ?_
          have hb := H.1
          have H := H.2
          refine w_ald' f_149_129 rfl hb (am_u_ne (Or.inl (by decide))) ?_
          refine w_inv (as := [.ref 59, .int (I 67 (i1).toNatClampNeg), .retAddr 0]) (st' := []) f_149_130 rfl rfl rfl rfl rfl rfl H (k_v (fun G2 I2 J2 H => ?_)) (x_n (fun _ => rfl) rfl (fun x h' h => h))
          refine w_go f_149_133 ?_
          exact H
      · have H := H.2 c
        refine w_al f_149_104 rfl ?_
        refine w_ic f_149_105 ?_
        refine w_il f_149_107 rfl ?_
        refine w_bin f_149_108 ?_
        refine w_ic f_149_109 ?_
        refine w_bin f_149_110 ?_
        refine w_il f_149_111 rfl ?_
        refine w_inv (as := [.ref 59, .int ((10 + i3) - 2), .int i2]) (st' := []) f_149_112 rfl rfl rfl rfl rfl rfl H (k_v (fun G3 I3 J3 H => ?_)) (x_n (fun _ => rfl) rfl (fun x h' h => h))
        refine w_go f_149_115 ?_
        exact H
    · have H := H.2 c
      refine w_al f_149_85 rfl ?_
      refine w_il f_149_86 rfl ?_
      refine w_al f_149_87 rfl ?_
      refine w_gr f_149_88 rfl (hR _ _ _ rfl) ?_
      refine w_il f_149_91 rfl ?_
      have hb := H.1
      have H := H.2
      refine w_ald' f_149_92 rfl hb (am_u_ne (Or.inl (by decide))) ?_
      refine w_inv (as := [.ref 59, .int i2, .int (I 66 (i1).toNatClampNeg), .retAddr 0, .retAddr 0, .retAddr 0]) (st' := []) f_149_93 rfl rfl rfl rfl rfl rfl H (k_v (fun G4 I4 J4 H => ?_)) (x_n (fun _ => rfl) rfl (fun x h' h => h))
      refine w_go f_149_96 ?_
      exact H
  · have H := H.2 c
    refine w_al f_149_71 rfl ?_
    refine w_il f_149_72 rfl ?_
    refine w_il f_149_73 rfl ?_
    refine w_inv (as := [.ref 59, .int i2, .int i1]) (st' := []) f_149_74 rfl rfl rfl rfl rfl rfl H (k_v (fun G5 I5 J5 H => ?_)) (x_n (fun _ => rfl) rfl (fun x h' h => h))
    refine w_go f_149_77 ?_
    exact H
theorem g_149_147 {d : Nat} {G : am_G} {I : Nat → Nat → Int32} {J : Nat → Nat → Int64} {Q : am_O → am_H → Prop} (hR : q_RT G) (i1 : Int32) (i2 : Int32) (i3 : Int32) (H : Q (.inl none) (G, I, J)) : q_W β xs L (d + 1) 149 147 [.ref 59, .int i1, .int i2, .int i3] [] (G, I, J) Q := by
  exact w_ret0 f_149_147 H
theorem g_150_0 {d : Nat} {G : am_G} {I : Nat → Nat → Int32} {J : Nat → Nat → Int64} {Q : am_O → am_H → Prop} (hR : q_RT G) (i1 : Int32) (i2 : Int32) (H : q_W β xs L d 158 0 [.ref 59, .int i2, .int 0, .int ((I 59 3) - 1), .retAddr 0, .retAddr 0, .retAddr 0] [] (G, (am_u I 59 78 i1), J) (q_Rv (fun G1 I1 J1 => Q (.inl none) (G1, I1, J1)) (fun x1 G1 I1 J1 => Q (.inr x1) (G1, I1, J1)))) : q_W β xs L (d + 1) 150 0 [.ref 59, .int i1, .int i2] [] (G, I, J) Q := by
  refine w_al f_150_0 rfl ?_
  refine w_il f_150_1 rfl ?_
  refine w_pi f_150_2 rfl ?_
  refine w_al f_150_5 rfl ?_
  refine w_il f_150_6 rfl ?_
  refine w_ic f_150_7 ?_
  refine w_al f_150_8 rfl ?_
  refine w_gi' f_150_9 rfl (am_u_ne (Or.inr (by decide))) ?_
  refine w_ic f_150_12 ?_
  refine w_bin f_150_13 ?_
  refine w_inv (as := [.ref 59, .int i2, .int 0, .int ((I 59 3) - 1), .retAddr 0, .retAddr 0, .retAddr 0]) (st' := []) f_150_14 rfl rfl rfl rfl rfl rfl H (k_v (fun G1 I1 J1 H => ?_)) (x_n (fun _ => rfl) rfl (fun x h' h => h))
  exact w_ret0 f_150_17 H
theorem g_151_0 {d : Nat} {G : am_G} {I : Nat → Nat → Int32} {J : Nat → Nat → Int64} {Q : am_O → am_H → Prop} (hR : q_RT G) (i1 : Int32) (i2 : Int32) (H : (am_is i1 20 = true ∧ (((I 92 (i1).toNatClampNeg) = (-1) → (am_is i1 20 = true ∧ (am_is i2 100 = true ∧ (am_is i1 20 = true ∧ q_W β xs L d 150 0 [.ref 59, .int 8, .int i1] [] (G, (am_u (am_u I 92 (i1).toNatClampNeg (I 59 76)) 93 (i1).toNatClampNeg (I 67 (i2).toNatClampNeg)), J) (q_Rv (fun G1 I1 J1 => Q (.inl none) (G1, I1, J1)) (fun x1 G1 I1 J1 => Q (.inr x1) (G1, I1, J1))))))) ∧ (¬ (I 92 (i1).toNatClampNeg) = (-1) → Q (.inl none) (G, I, J))))) : q_W β xs L (d + 1) 151 0 [.ref 59, .int i1, .int i2] [] (G, I, J) Q := by
  refine w_al f_151_0 rfl ?_
  refine w_gr f_151_1 rfl (hR _ _ _ rfl) ?_
  refine w_il f_151_4 rfl ?_
  have hb := H.1
  have H := H.2
  refine w_ald f_151_5 rfl hb ?_
  refine w_ic f_151_6 ?_
  refine w_iceq f_151_7 (fun c => ?_) (fun c => ?_)
  · have H := H.1 c
    refine w_al f_151_11 rfl ?_
    refine w_gr f_151_12 rfl (hR _ _ _ rfl) ?_
    refine w_il f_151_15 rfl ?_
    refine w_al f_151_16 rfl ?_
    refine w_gi f_151_17 rfl ?_
    have hb := H.1
    have H := H.2
    refine w_ast f_151_20 rfl hb ?_
    refine w_al f_151_21 rfl ?_
    refine w_gr f_151_22 rfl (hR _ _ _ rfl) ?_
    refine w_il f_151_25 rfl ?_
    refine w_al f_151_26 rfl ?_
    refine w_gr f_151_27 rfl (hR _ _ _ rfl) ?_
    refine w_il f_151_30 rfl ?_
    have hb := H.1
    have H := H.2
    refine w_ald' f_151_31 rfl hb (am_u_ne (Or.inl (by decide))) ?_
    have hb := H.1
    have H := H.2
    refine w_ast f_151_32 rfl hb ?_
    refine w_al f_151_33 rfl ?_
    refine w_ic f_151_34 ?_
    refine w_il f_151_36 rfl ?_
    refine w_inv (as := [.ref 59, .int 8, .int i1]) (st' := []) f_151_37 rfl rfl rfl rfl rfl rfl H (k_v (fun G1 I1 J1 H => ?_)) (x_n (fun _ => rfl) rfl (fun x h' h => h))
    exact w_ret0 f_151_40 H
  · have H := H.2 c
    exact w_ret0 f_151_10 H
theorem g_152_0 {d : Nat} {G : am_G} {I : Nat → Nat → Int32} {J : Nat → Nat → Int64} {Q : am_O → am_H → Prop} (hR : q_RT G) (i1 : Int32) (i2 : Int32) (H : (am_is i1 20 = true ∧ (am_is i2 20 = true ∧ (am_is i1 20 = true ∧ (am_is i2 20 = true ∧ q_W β xs L (d + 1) 152 38 [.ref 59, .int i1, .int i2, .int (I 91 (i1).toNatClampNeg), .int (I 91 (i2).toNatClampNeg), .int 0] [] (G, (am_u (am_u (am_u I 94 (i1).toNatClampNeg i2) 94 (i2).toNatClampNeg i1) 59 78 9), J) Q))))) : q_W β xs L (d + 1) 152 0 [.ref 59, .int i1, .int i2, .retAddr 0, .retAddr 0, .retAddr 0] [] (G, I, J) Q := by
  refine w_al f_152_0 rfl ?_
  refine w_gr f_152_1 rfl (hR _ _ _ rfl) ?_
  refine w_il f_152_4 rfl ?_
  have hb := H.1
  have H := H.2
  refine w_ald f_152_5 rfl hb ?_
  refine w_is (ls' := [.ref 59, .int i1, .int i2, .int (I 91 (i1).toNatClampNeg), .retAddr 0, .retAddr 0]) f_152_6 rfl ?_
  refine w_al f_152_7 rfl ?_
  refine w_gr f_152_8 rfl (hR _ _ _ rfl) ?_
  refine w_il f_152_11 rfl ?_
  have hb := H.1
  have H := H.2
  refine w_ald f_152_12 rfl hb ?_
  refine w_is (ls' := [.ref 59, .int i1, .int i2, .int (I 91 (i1).toNatClampNeg), .int (I 91 (i2).toNatClampNeg), .retAddr 0]) f_152_13 rfl ?_
  refine w_al f_152_15 rfl ?_
  refine w_gr f_152_16 rfl (hR _ _ _ rfl) ?_
  refine w_il f_152_19 rfl ?_
  refine w_il f_152_20 rfl ?_
  have hb := H.1
  have H := H.2
  refine w_ast f_152_21 rfl hb ?_
  refine w_al f_152_22 rfl ?_
  refine w_gr f_152_23 rfl (hR _ _ _ rfl) ?_
  refine w_il f_152_26 rfl ?_
  refine w_il f_152_27 rfl ?_
  have hb := H.1
  have H := H.2
  refine w_ast f_152_28 rfl hb ?_
  refine w_al f_152_29 rfl ?_
  refine w_ic f_152_30 ?_
  refine w_pi f_152_32 rfl ?_
  refine w_ic f_152_35 ?_
  refine w_is (ls' := [.ref 59, .int i1, .int i2, .int (I 91 (i1).toNatClampNeg), .int (I 91 (i2).toNatClampNeg), .int 0]) f_152_36 rfl ?_
  exact H
theorem g_152_38 {d : Nat} {G : am_G} {I : Nat → Nat → Int32} {J : Nat → Nat → Int64} {Q : am_O → am_H → Prop} (hR : q_RT G) (i1 : Int32) (i2 : Int32) (i3 : Int32) (i4 : Int32) (i5 : Int32) (H : ((¬ i5 < 5 → q_W β xs L (d + 1) 152 77 [.ref 59, .int i1, .int i2, .int i3, .int i4, .int 0] [] (G, (am_u I 59 82 i4), J) Q) ∧ (i5 < 5 → (am_is ((5 * i2) + i5) 100 = true ∧ (am_is i5 5 = true ∧ q_W β xs L (d + 1) 152 38 [.ref 59, .int i1, .int i2, .int i3, .int i4, .int (i5 + 1)] [] (G, (am_u I 113 (i5).toNatClampNeg (I 99 (((5 * i2) + i5)).toNatClampNeg)), J) Q))))) : q_W β xs L (d + 1) 152 38 [.ref 59, .int i1, .int i2, .int i3, .int i4, .int i5] [] (G, I, J) Q := by
  refine w_il f_152_38 rfl ?_
  refine w_ic f_152_40 ?_
  refine w_icge f_152_41 (fun c => ?_) (fun c => ?_)
  · have H := H.1 c
    refine w_al f_152_68 rfl ?_
    refine w_il f_152_69 rfl ?_
    refine w_pi f_152_71 rfl ?_
    refine w_ic f_152_74 ?_
    refine w_is (ls' := [.ref 59, .int i1, .int i2, .int i3, .int i4, .int 0]) f_152_75 rfl ?_
    exact H
  · have H := H.2 c
    refine w_al f_152_44 rfl ?_
    refine w_gr f_152_45 rfl (hR _ _ _ rfl) ?_
    refine w_il f_152_48 rfl ?_
    refine w_al f_152_50 rfl ?_
    refine w_gr f_152_51 rfl (hR _ _ _ rfl) ?_
    refine w_ic f_152_54 ?_
    refine w_il f_152_55 rfl ?_
    refine w_bin f_152_56 ?_
    refine w_il f_152_57 rfl ?_
    refine w_bin f_152_59 ?_
    have hb := H.1
    have H := H.2
    refine w_ald f_152_60 rfl hb ?_
    have hb := H.1
    have H := H.2
    refine w_ast f_152_61 rfl hb ?_
    refine w_iinc (ls' := [.ref 59, .int i1, .int i2, .int i3, .int i4, .int (i5 + 1)]) f_152_62 rfl rfl ?_
    refine w_go f_152_65 ?_
    exact H
theorem g_152_77 {d : Nat} {G : am_G} {I : Nat → Nat → Int32} {J : Nat → Nat → Int64} {Q : am_O → am_H → Prop} (hR : q_RT G) (i1 : Int32) (i2 : Int32) (i3 : Int32) (i4 : Int32) (i5 : Int32) (H : ((¬ i5 < 5 → q_W β xs L d 158 0 [.ref 59, .int i1, .int 0, .int ((I 59 3) - 1), .retAddr 0, .retAddr 0, .retAddr 0] [] (G, I, J) (q_Rv (fun G1 I1 J1 => q_W β xs L (d + 1) 152 127 [.ref 59, .int i1, .int i2, .int i3, .int i4, .int 0] [] (G1, (am_u I1 59 82 i3), J1) Q) (fun x1 G1 I1 J1 => Q (.inr x1) (G1, I1, J1)))) ∧ (i5 < 5 → (am_is ((5 * i1) + i5) 100 = true ∧ (am_is i5 5 = true ∧ q_W β xs L (d + 1) 152 77 [.ref 59, .int i1, .int i2, .int i3, .int i4, .int (i5 + 1)] [] (G, (am_u I 114 (i5).toNatClampNeg (I 99 (((5 * i1) + i5)).toNatClampNeg)), J) Q))))) : q_W β xs L (d + 1) 152 77 [.ref 59, .int i1, .int i2, .int i3, .int i4, .int i5] [] (G, I, J) Q := by
  refine w_il f_152_77 rfl ?_
  refine w_ic f_152_79 ?_
  refine w_icge f_152_80 (fun c => ?_) (fun c => ?_)
  · have H := H.1 c
    refine w_al f_152_107 rfl ?_
    refine w_il f_152_108 rfl ?_
    refine w_ic f_152_109 ?_
    refine w_al f_152_110 rfl ?_
    refine w_gi f_152_111 rfl ?_
    refine w_ic f_152_114 ?_
    refine w_bin f_152_115 ?_
    refine w_inv (as := [.ref 59, .int i1, .int 0, .int ((I 59 3) - 1), .retAddr 0, .retAddr 0, .retAddr 0]) (st' := []) f_152_116 rfl rfl rfl rfl rfl rfl H (k_v (fun G1 I1 J1 H => ?_)) (x_n (fun _ => rfl) rfl (fun x h' h => h))
    refine w_al f_152_119 rfl ?_
    refine w_il f_152_120 rfl ?_
    refine w_pi f_152_121 rfl ?_
    refine w_ic f_152_124 ?_
    refine w_is (ls' := [.ref 59, .int i1, .int i2, .int i3, .int i4, .int 0]) f_152_125 rfl ?_
    exact H
  · have H := H.2 c
    refine w_al f_152_83 rfl ?_
    refine w_gr f_152_84 rfl (hR _ _ _ rfl) ?_
    refine w_il f_152_87 rfl ?_
    refine w_al f_152_89 rfl ?_
    refine w_gr f_152_90 rfl (hR _ _ _ rfl) ?_
    refine w_ic f_152_93 ?_
    refine w_il f_152_94 rfl ?_
    refine w_bin f_152_95 ?_
    refine w_il f_152_96 rfl ?_
    refine w_bin f_152_98 ?_
    have hb := H.1
    have H := H.2
    refine w_ald f_152_99 rfl hb ?_
    have hb := H.1
    have H := H.2
    refine w_ast f_152_100 rfl hb ?_
    refine w_iinc (ls' := [.ref 59, .int i1, .int i2, .int i3, .int i4, .int (i5 + 1)]) f_152_101 rfl rfl ?_
    refine w_go f_152_104 ?_
    exact H
theorem g_152_127 {d : Nat} {G : am_G} {I : Nat → Nat → Int32} {J : Nat → Nat → Int64} {Q : am_O → am_H → Prop} (hR : q_RT G) (i1 : Int32) (i2 : Int32) (i3 : Int32) (i4 : Int32) (i5 : Int32) (H : ((¬ i5 < 5 → q_W β xs L d 158 0 [.ref 59, .int i2, .int 0, .int ((I 59 3) - 1), .retAddr 0, .retAddr 0, .retAddr 0] [] (G, I, J) (q_Rv (fun G1 I1 J1 => Q (.inl none) (G1, I1, J1)) (fun x1 G1 I1 J1 => Q (.inr x1) (G1, I1, J1)))) ∧ (i5 < 5 → (am_is i5 5 = true ∧ (am_is i5 5 = true ∧ q_W β xs L (d + 1) 152 127 [.ref 59, .int i1, .int i2, .int i3, .int i4, .int (i5 + 1)] [] (G, (am_u I 113 (i5).toNatClampNeg (I 114 (i5).toNatClampNeg)), J) Q))))) : q_W β xs L (d + 1) 152 127 [.ref 59, .int i1, .int i2, .int i3, .int i4, .int i5] [] (G, I, J) Q := by
  refine w_il f_152_127 rfl ?_
  refine w_ic f_152_129 ?_
  refine w_icge f_152_130 (fun c => ?_) (fun c => ?_)
  · have H := H.1 c
    refine w_al f_152_153 rfl ?_
    refine w_il f_152_154 rfl ?_
    refine w_ic f_152_155 ?_
    refine w_al f_152_156 rfl ?_
    refine w_gi f_152_157 rfl ?_
    refine w_ic f_152_160 ?_
    refine w_bin f_152_161 ?_
    refine w_inv (as := [.ref 59, .int i2, .int 0, .int ((I 59 3) - 1), .retAddr 0, .retAddr 0, .retAddr 0]) (st' := []) f_152_162 rfl rfl rfl rfl rfl rfl H (k_v (fun G1 I1 J1 H => ?_)) (x_n (fun _ => rfl) rfl (fun x h' h => h))
    exact w_ret0 f_152_165 H
  · have H := H.2 c
    refine w_al f_152_133 rfl ?_
    refine w_gr f_152_134 rfl (hR _ _ _ rfl) ?_
    refine w_il f_152_137 rfl ?_
    refine w_al f_152_139 rfl ?_
    refine w_gr f_152_140 rfl (hR _ _ _ rfl) ?_
    refine w_il f_152_143 rfl ?_
    have hb := H.1
    have H := H.2
    refine w_ald f_152_145 rfl hb ?_
    have hb := H.1
    have H := H.2
    refine w_ast f_152_146 rfl hb ?_
    refine w_iinc (ls' := [.ref 59, .int i1, .int i2, .int i3, .int i4, .int (i5 + 1)]) f_152_147 rfl rfl ?_
    refine w_go f_152_150 ?_
    exact H
theorem g_153_0 {d : Nat} {G : am_G} {I : Nat → Nat → Int32} {J : Nat → Nat → Int64} {Q : am_O → am_H → Prop} (hR : q_RT G) (i1 : Int32) (H : (am_is i1 12 = true ∧ (am_is i1 12 = true ∧ q_W β xs L (d + 1) 153 28 [.ref 59, .int i1, .int 0] [] (G, (am_u (am_u (am_u I 97 (i1).toNatClampNeg (I 59 80)) 98 (i1).toNatClampNeg (I 59 76)) 59 78 13), J) Q))) : q_W β xs L (d + 1) 153 0 [.ref 59, .int i1, .retAddr 0] [] (G, I, J) Q := by
  refine w_al f_153_0 rfl ?_
  refine w_gr f_153_1 rfl (hR _ _ _ rfl) ?_
  refine w_il f_153_4 rfl ?_
  refine w_al f_153_5 rfl ?_
  refine w_gi f_153_6 rfl ?_
  have hb := H.1
  have H := H.2
  refine w_ast f_153_9 rfl hb ?_
  refine w_al f_153_10 rfl ?_
  refine w_gr f_153_11 rfl (hR _ _ _ rfl) ?_
  refine w_il f_153_14 rfl ?_
  refine w_al f_153_15 rfl ?_
  refine w_gi' f_153_16 rfl (am_u_ne (Or.inl (by decide))) ?_
  have hb := H.1
  have H := H.2
  refine w_ast f_153_19 rfl hb ?_
  refine w_al f_153_20 rfl ?_
  refine w_ic f_153_21 ?_
  refine w_pi f_153_23 rfl ?_
  refine w_ic f_153_26 ?_
  refine w_is (ls' := [.ref 59, .int i1, .int 0]) f_153_27 rfl ?_
  exact H
theorem g_153_28 {d : Nat} {G : am_G} {I : Nat → Nat → Int32} {J : Nat → Nat → Int64} {Q : am_O → am_H → Prop} (hR : q_RT G) (i1 : Int32) (i2 : Int32) (H : ((¬ i2 < (I 59 5) → Q (.inl none) (G, I, J)) ∧ (i2 < (I 59 5) → q_W β xs L d 158 0 [.ref 59, .int i2, .int 0, .int ((I 59 3) - 1), .retAddr 0, .retAddr 0, .retAddr 0] [] (G, I, J) (q_Rv (fun G1 I1 J1 => q_W β xs L (d + 1) 153 28 [.ref 59, .int i1, .int (i2 + 1)] [] (G1, I1, J1) Q) (fun x1 G1 I1 J1 => Q (.inr x1) (G1, I1, J1)))))) : q_W β xs L (d + 1) 153 28 [.ref 59, .int i1, .int i2] [] (G, I, J) Q := by
  refine w_il f_153_28 rfl ?_
  refine w_al f_153_29 rfl ?_
  refine w_gi f_153_30 rfl ?_
  refine w_icge f_153_33 (fun c => ?_) (fun c => ?_)
  · have H := H.1 c
    exact w_ret0 f_153_54 H
  · have H := H.2 c
    refine w_al f_153_36 rfl ?_
    refine w_il f_153_37 rfl ?_
    refine w_ic f_153_38 ?_
    refine w_al f_153_39 rfl ?_
    refine w_gi f_153_40 rfl ?_
    refine w_ic f_153_43 ?_
    refine w_bin f_153_44 ?_
    refine w_inv (as := [.ref 59, .int i2, .int 0, .int ((I 59 3) - 1), .retAddr 0, .retAddr 0, .retAddr 0]) (st' := []) f_153_45 rfl rfl rfl rfl rfl rfl H (k_v (fun G1 I1 J1 H => ?_)) (x_n (fun _ => rfl) rfl (fun x h' h => h))
    refine w_iinc (ls' := [.ref 59, .int i1, .int (i2 + 1)]) f_153_48 rfl rfl ?_
    refine w_go f_153_51 ?_
    exact H
theorem g_154_0 {d : Nat} {G : am_G} {I : Nat → Nat → Int32} {J : Nat → Nat → Int64} {Q : am_O → am_H → Prop} (hR : q_RT G) (i1 : Int32) (i2 : Int32) (H : (am_is i1 20 = true ∧ (am_is i1 20 = true ∧ Q (.inl none) (G, (am_u (am_u I 95 (i1).toNatClampNeg i2) 96 (i1).toNatClampNeg (I 59 76)), J)))) : q_W β xs L d 154 0 [.ref 59, .int i1, .int i2] [] (G, I, J) Q := by
  refine w_al f_154_0 rfl ?_
  refine w_gr f_154_1 rfl (hR _ _ _ rfl) ?_
  refine w_il f_154_4 rfl ?_
  refine w_il f_154_5 rfl ?_
  have hb := H.1
  have H := H.2
  refine w_ast f_154_6 rfl hb ?_
  refine w_al f_154_7 rfl ?_
  refine w_gr f_154_8 rfl (hR _ _ _ rfl) ?_
  refine w_il f_154_11 rfl ?_
  refine w_al f_154_12 rfl ?_
  refine w_gi' f_154_13 rfl (am_u_ne (Or.inl (by decide))) ?_
  have hb := H.1
  have H := H.2
  refine w_ast f_154_16 rfl hb ?_
  exact w_ret0 f_154_17 H
theorem g_155_0 {d : Nat} {G : am_G} {I : Nat → Nat → Int32} {J : Nat → Nat → Int64} {Q : am_O → am_H → Prop} (hR : q_RT G) (i0 : Int32) (H : ((i0 = 0 → q_W β xs L d 155 9 [.int i0] [.int 0] (G, I, J) Q) ∧ (¬ i0 = 0 → q_W β xs L d 155 9 [.int i0] [.int 1] (G, I, J) Q))) : q_W β xs L d 155 0 [.int i0] [] (G, I, J) Q := by
  refine w_il f_155_0 rfl ?_
  refine w_ifeq f_155_1 (fun c => ?_) (fun c => ?_)
  · have H := H.1 c
    refine w_ic f_155_8 ?_
    exact H
  · have H := H.2 c
    refine w_ic f_155_4 ?_
    refine w_go f_155_5 ?_
    exact H
theorem g_155_9 {d : Nat} {G : am_G} {I : Nat → Nat → Int32} {J : Nat → Nat → Int64} {Q : am_O → am_H → Prop} (hR : q_RT G) (i0 : Int32) (is0 : Int32) (H : Q (.inl (some (.int is0))) (G, I, J)) : q_W β xs L d 155 9 [.int i0] [.int is0] (G, I, J) Q := by
  exact w_reti f_155_9 H
theorem g_156_0 {d : Nat} {G : am_G} {I : Nat → Nat → Int32} {J : Nat → Nat → Int64} {Q : am_O → am_H → Prop} (hR : q_RT G) (i1 : Int32) (i2 : Int32) (H : ((i1 = (-1) → q_W β xs L d 156 23 [.ref 59, .int i1, .int i2] [] (G, I, J) Q) ∧ (¬ i1 = (-1) → (am_is i1 20 = true ∧ ((¬ (((I 91 (i1).toNatClampNeg) >>> (i2 &&& 31)) &&& 1) = 1 → q_W β xs L d 156 23 [.ref 59, .int i1, .int i2] [] (G, I, J) Q) ∧ ((((I 91 (i1).toNatClampNeg) >>> (i2 &&& 31)) &&& 1) = 1 → q_W β xs L d 156 24 [.ref 59, .int i1, .int i2] [.int 1] (G, I, J) Q)))))) : q_W β xs L d 156 0 [.ref 59, .int i1, .int i2] [] (G, I, J) Q := by
  refine w_il f_156_0 rfl ?_
  refine w_ic f_156_1 ?_
  refine w_iceq f_156_2 (fun c => ?_) (fun c => ?_)
  · have H := H.1 c
    exact H
  · have H := H.2 c
    refine w_al f_156_5 rfl ?_
    refine w_gr f_156_6 rfl (hR _ _ _ rfl) ?_
    refine w_il f_156_9 rfl ?_
    have hb := H.1
    have H := H.2
    refine w_ald f_156_10 rfl hb ?_
    refine w_il f_156_11 rfl ?_
    refine w_bin f_156_12 ?_
    refine w_ic f_156_13 ?_
    refine w_bin f_156_14 ?_
    refine w_ic f_156_15 ?_
    refine w_icne f_156_16 (fun c => ?_) (fun c => ?_)
    · have H := H.1 c
      exact H
    · have H := H.2 c
      refine w_ic f_156_19 ?_
      refine w_go f_156_20 ?_
      exact H
theorem g_156_23 {d : Nat} {G : am_G} {I : Nat → Nat → Int32} {J : Nat → Nat → Int64} {Q : am_O → am_H → Prop} (hR : q_RT G) (i1 : Int32) (i2 : Int32) (H : q_W β xs L d 156 24 [.ref 59, .int i1, .int i2] [.int 0] (G, I, J) Q) : q_W β xs L d 156 23 [.ref 59, .int i1, .int i2] [] (G, I, J) Q := by
  refine w_ic f_156_23 ?_
  exact H
theorem g_156_24 {d : Nat} {G : am_G} {I : Nat → Nat → Int32} {J : Nat → Nat → Int64} {Q : am_O → am_H → Prop} (hR : q_RT G) (i1 : Int32) (i2 : Int32) (is0 : Int32) (H : (((is0 : Int32) = 0 ∨ (is0 : Int32) = 1) ∧ Q (.inl (some (.int is0))) (G, I, J))) : q_W β xs L d 156 24 [.ref 59, .int i1, .int i2] [.int is0] (G, I, J) Q := by
  exact w_retz f_156_24 H.1 H.2
theorem g_157_0 {d : Nat} {G : am_G} {I : Nat → Nat → Int32} {J : Nat → Nat → Int64} {Q : am_O → am_H → Prop} (hR : q_RT G) (i1 : Int32) (i2 : Int32) (H : (((I 59 79) = (-1) → (am_is i1 20 = true ∧ q_W β xs L (d + 1) 157 21 [.ref 59, .int i1, .int i2, .retAddr 0, .retAddr 0, .retAddr 0, .retAddr 0] [.int (I 95 (i1).toNatClampNeg)] (G, I, J) Q)) ∧ (¬ (I 59 79) = (-1) → q_W β xs L (d + 1) 157 21 [.ref 59, .int i1, .int i2, .retAddr 0, .retAddr 0, .retAddr 0, .retAddr 0] [.int (I 59 79)] (G, I, J) Q))) : q_W β xs L (d + 1) 157 0 [.ref 59, .int i1, .int i2, .retAddr 0, .retAddr 0, .retAddr 0, .retAddr 0] [] (G, I, J) Q := by
  refine w_al f_157_0 rfl ?_
  refine w_gi f_157_1 rfl ?_
  refine w_ic f_157_4 ?_
  refine w_iceq f_157_5 (fun c => ?_) (fun c => ?_)
  · have H := H.1 c
    refine w_al f_157_15 rfl ?_
    refine w_gr f_157_16 rfl (hR _ _ _ rfl) ?_
    refine w_il f_157_19 rfl ?_
    have hb := H.1
    have H := H.2
    refine w_ald f_157_20 rfl hb ?_
    exact H
  · have H := H.2 c
    refine w_al f_157_8 rfl ?_
    refine w_gi f_157_9 rfl ?_
    refine w_go f_157_12 ?_
    exact H
theorem g_157_21 {d : Nat} {G : am_G} {I : Nat → Nat → Int32} {J : Nat → Nat → Int64} {Q : am_O → am_H → Prop} (hR : q_RT G) (i1 : Int32) (i2 : Int32) (is0 : Int32) (H : ((is0 = (-1) → q_W β xs L (d + 1) 157 46 [.ref 59, .int i1, .int i2, .int is0, .retAddr 0, .retAddr 0, .retAddr 0] [.int 0, .ref 110] (G, I, J) Q) ∧ (¬ is0 = (-1) → (am_is is0 12 = true ∧ ((¬ (I 97 (is0).toNatClampNeg) = i2 → q_W β xs L (d + 1) 157 46 [.ref 59, .int i1, .int i2, .int is0, .retAddr 0, .retAddr 0, .retAddr 0] [.int 0, .ref 110] (G, I, J) Q) ∧ ((I 97 (is0).toNatClampNeg) = i2 → q_W β xs L (d + 1) 157 47 [.ref 59, .int i1, .int i2, .int is0, .retAddr 0, .retAddr 0, .retAddr 0] [.int 1, .int 0, .ref 110] (G, I, J) Q)))))) : q_W β xs L (d + 1) 157 21 [.ref 59, .int i1, .int i2, .retAddr 0, .retAddr 0, .retAddr 0, .retAddr 0] [.int is0] (G, I, J) Q := by
  refine w_is (ls' := [.ref 59, .int i1, .int i2, .int is0, .retAddr 0, .retAddr 0, .retAddr 0]) f_157_21 rfl ?_
  refine w_al f_157_22 rfl ?_
  refine w_gr f_157_23 rfl (hR _ _ _ rfl) ?_
  refine w_ic f_157_26 ?_
  refine w_il f_157_27 rfl ?_
  refine w_ic f_157_28 ?_
  refine w_iceq f_157_29 (fun c => ?_) (fun c => ?_)
  · have H := H.1 c
    exact H
  · have H := H.2 c
    refine w_al f_157_32 rfl ?_
    refine w_gr f_157_33 rfl (hR _ _ _ rfl) ?_
    refine w_il f_157_36 rfl ?_
    have hb := H.1
    have H := H.2
    refine w_ald f_157_37 rfl hb ?_
    refine w_il f_157_38 rfl ?_
    refine w_icne f_157_39 (fun c => ?_) (fun c => ?_)
    · have H := H.1 c
      exact H
    · have H := H.2 c
      refine w_ic f_157_42 ?_
      refine w_go f_157_43 ?_
      exact H
theorem g_157_46 {d : Nat} {G : am_G} {I : Nat → Nat → Int32} {J : Nat → Nat → Int64} {Q : am_O → am_H → Prop} (hR : q_RT G) (i1 : Int32) (i2 : Int32) (i3 : Int32) (is0 : Int32) (H : q_W β xs L (d + 1) 157 47 [.ref 59, .int i1, .int i2, .int i3, .retAddr 0, .retAddr 0, .retAddr 0] [.int 0, .int is0, .ref 110] (G, I, J) Q) : q_W β xs L (d + 1) 157 46 [.ref 59, .int i1, .int i2, .int i3, .retAddr 0, .retAddr 0, .retAddr 0] [.int is0, .ref 110] (G, I, J) Q := by
  refine w_ic f_157_46 ?_
  exact H
theorem g_157_47 {d : Nat} {G : am_G} {I : Nat → Nat → Int32} {J : Nat → Nat → Int64} {Q : am_O → am_H → Prop} (hR : q_RT G) (i1 : Int32) (i2 : Int32) (i3 : Int32) (is0 : Int32) (is1 : Int32) (H : q_W β xs L d 155 0 [.int is0] [] (G, I, J) (q_Ri (fun y1 G1 I1 J1 => (q_RT G1 ∧ (am_is is1 13 = true ∧ (am_is i1 20 = true ∧ q_W β xs L d 156 0 [.ref 59, .int (I1 62 (i1).toNatClampNeg), .int i2] [] (G1, (am_u I1 110 (is1).toNatClampNeg y1), J1) (q_Ri (fun y2 G2 I2 J2 => q_W β xs L d 155 0 [.int y2] [] (G2, I2, J2) (q_Ri (fun y3 G3 I3 J3 => (q_RT G3 ∧ (am_is 1 13 = true ∧ (am_is i1 20 = true ∧ q_W β xs L d 156 0 [.ref 59, .int (I3 63 (i1).toNatClampNeg), .int i2] [] (G3, (am_u I3 110 (1 : Int32).toNatClampNeg y3), J3) (q_Ri (fun y4 G4 I4 J4 => q_W β xs L d 155 0 [.int y4] [] (G4, I4, J4) (q_Ri (fun y5 G5 I5 J5 => (q_RT G5 ∧ (am_is 2 13 = true ∧ (am_is i1 20 = true ∧ (((I5 62 (i1).toNatClampNeg) = (-1) → q_W β xs L (d + 1) 157 155 [.ref 59, .int i1, .int i2, .int i3, .retAddr 0, .retAddr 0, .retAddr 0] [] (G5, (am_u I5 110 (2 : Int32).toNatClampNeg y5), J5) Q) ∧ (¬ (I5 62 (i1).toNatClampNeg) = (-1) → (am_is i1 20 = true ∧ (((I5 63 (i1).toNatClampNeg) = (-1) → q_W β xs L (d + 1) 157 155 [.ref 59, .int i1, .int i2, .int i3, .retAddr 0, .retAddr 0, .retAddr 0] [] (G5, (am_u I5 110 (2 : Int32).toNatClampNeg y5), J5) Q) ∧ (¬ (I5 63 (i1).toNatClampNeg) = (-1) → (am_is i1 20 = true ∧ (am_is (I5 62 (i1).toNatClampNeg) 20 = true ∧ (am_is i1 20 = true ∧ ((¬ (I5 94 ((I5 62 (i1).toNatClampNeg)).toNatClampNeg) = (I5 63 (i1).toNatClampNeg) → q_W β xs L (d + 1) 157 155 [.ref 59, .int i1, .int i2, .int i3, .retAddr 0, .retAddr 0, .retAddr 0] [] (G5, (am_u I5 110 (2 : Int32).toNatClampNeg y5), J5) Q) ∧ ((I5 94 ((I5 62 (i1).toNatClampNeg)).toNatClampNeg) = (I5 63 (i1).toNatClampNeg) → (am_is i1 20 = true ∧ (am_is (I5 63 (i1).toNatClampNeg) 20 = true ∧ (am_is i1 20 = true ∧ ((¬ (I5 94 ((I5 63 (i1).toNatClampNeg)).toNatClampNeg) = (I5 62 (i1).toNatClampNeg) → q_W β xs L (d + 1) 157 155 [.ref 59, .int i1, .int i2, .int i3, .retAddr 0, .retAddr 0, .retAddr 0] [] (G5, (am_u I5 110 (2 : Int32).toNatClampNeg y5), J5) Q) ∧ ((I5 94 ((I5 63 (i1).toNatClampNeg)).toNatClampNeg) = (I5 62 (i1).toNatClampNeg) → q_W β xs L (d + 1) 157 156 [.ref 59, .int i1, .int i2, .int i3, .retAddr 0, .retAddr 0, .retAddr 0] [.int 1] (G5, (am_u I5 110 (2 : Int32).toNatClampNeg y5), J5) Q))))))))))))))))))) (fun x5 G5 I5 J5 => Q (.inr x5) (G5, I5, J5)))) (fun x4 G4 I4 J4 => Q (.inr x4) (G4, I4, J4))))))) (fun x3 G3 I3 J3 => Q (.inr x3) (G3, I3, J3)))) (fun x2 G2 I2 J2 => Q (.inr x2) (G2, I2, J2))))))) (fun x1 G1 I1 J1 => Q (.inr x1) (G1, I1, J1)))) : q_W β xs L (d + 1) 157 47 [.ref 59, .int i1, .int i2, .int i3, .retAddr 0, .retAddr 0, .retAddr 0] [.int is0, .int is1, .ref 110] (G, I, J) Q := by
  refine w_invs (as := [.int is0]) (st' := [.int is1, .ref 110]) f_157_47 rfl rfl rfl rfl rfl H (k_i (fun y1 G1 I1 J1 H => ?_)) (x_n (fun _ => rfl) rfl (fun x h' h => h))
  have hR1 := H.1
  have H := H.2
  have hb := H.1
  have H := H.2
  refine w_ast f_157_50 rfl hb ?_
  refine w_al f_157_51 rfl ?_
  refine w_gr f_157_52 rfl (hR1 _ _ _ rfl) ?_
  refine w_ic f_157_55 ?_
  refine w_al f_157_56 rfl ?_
  refine w_al f_157_57 rfl ?_
  refine w_gr f_157_58 rfl (hR1 _ _ _ rfl) ?_
  refine w_il f_157_61 rfl ?_
  have hb := H.1
  have H := H.2
  refine w_ald' f_157_62 rfl hb (am_u_ne (Or.inl (by decide))) ?_
  refine w_il f_157_63 rfl ?_
  refine w_inv (as := [.ref 59, .int (I1 62 (i1).toNatClampNeg), .int i2]) (st' := [.int 1, .ref 110]) f_157_64 rfl rfl rfl rfl rfl rfl H (k_i (fun y2 G2 I2 J2 H => ?_)) (x_n (fun _ => rfl) rfl (fun x h' h => h))
  refine w_invs (as := [.int y2]) (st' := [.int 1, .ref 110]) f_157_67 rfl rfl rfl rfl rfl H (k_i (fun y3 G3 I3 J3 H => ?_)) (x_n (fun _ => rfl) rfl (fun x h' h => h))
  have hR3 := H.1
  have H := H.2
  have hb := H.1
  have H := H.2
  refine w_ast f_157_70 rfl hb ?_
  refine w_al f_157_71 rfl ?_
  refine w_gr f_157_72 rfl (hR3 _ _ _ rfl) ?_
  refine w_ic f_157_75 ?_
  refine w_al f_157_76 rfl ?_
  refine w_al f_157_77 rfl ?_
  refine w_gr f_157_78 rfl (hR3 _ _ _ rfl) ?_
  refine w_il f_157_81 rfl ?_
  have hb := H.1
  have H := H.2
  refine w_ald' f_157_82 rfl hb (am_u_ne (Or.inl (by decide))) ?_
  refine w_il f_157_83 rfl ?_
  refine w_inv (as := [.ref 59, .int (I3 63 (i1).toNatClampNeg), .int i2]) (st' := [.int 2, .ref 110]) f_157_84 rfl rfl rfl rfl rfl rfl H (k_i (fun y4 G4 I4 J4 H => ?_)) (x_n (fun _ => rfl) rfl (fun x h' h => h))
  refine w_invs (as := [.int y4]) (st' := [.int 2, .ref 110]) f_157_87 rfl rfl rfl rfl rfl H (k_i (fun y5 G5 I5 J5 H => ?_)) (x_n (fun _ => rfl) rfl (fun x h' h => h))
  have hR5 := H.1
  have H := H.2
  have hb := H.1
  have H := H.2
  refine w_ast f_157_90 rfl hb ?_
  refine w_al f_157_91 rfl ?_
  refine w_gr f_157_92 rfl (hR5 _ _ _ rfl) ?_
  refine w_il f_157_95 rfl ?_
  have hb := H.1
  have H := H.2
  refine w_ald' f_157_96 rfl hb (am_u_ne (Or.inl (by decide))) ?_
  refine w_ic f_157_97 ?_
  refine w_iceq f_157_98 (fun c => ?_) (fun c => ?_)
  · have H := H.1 c
    exact H
  · have H := H.2 c
    refine w_al f_157_101 rfl ?_
    refine w_gr f_157_102 rfl (hR5 _ _ _ rfl) ?_
    refine w_il f_157_105 rfl ?_
    have hb := H.1
    have H := H.2
    refine w_ald' f_157_106 rfl hb (am_u_ne (Or.inl (by decide))) ?_
    refine w_ic f_157_107 ?_
    refine w_iceq f_157_108 (fun c => ?_) (fun c => ?_)
    · have H := H.1 c
      exact H
    · have H := H.2 c
      refine w_al f_157_111 rfl ?_
      refine w_gr f_157_112 rfl (hR5 _ _ _ rfl) ?_
      refine w_al f_157_115 rfl ?_
      refine w_gr f_157_116 rfl (hR5 _ _ _ rfl) ?_
      refine w_il f_157_119 rfl ?_
      have hb := H.1
      have H := H.2
      refine w_ald' f_157_120 rfl hb (am_u_ne (Or.inl (by decide))) ?_
      have hb := H.1
      have H := H.2
      refine w_ald' f_157_121 rfl hb (am_u_ne (Or.inl (by decide))) ?_
      refine w_al f_157_122 rfl ?_
      refine w_gr f_157_123 rfl (hR5 _ _ _ rfl) ?_
      refine w_il f_157_126 rfl ?_
      have hb := H.1
      have H := H.2
      refine w_ald' f_157_127 rfl hb (am_u_ne (Or.inl (by decide))) ?_
      refine w_icne f_157_128 (fun c => ?_) (fun c => ?_)
      · have H := H.1 c
        exact H
      · have H := H.2 c
        refine w_al f_157_131 rfl ?_
        refine w_gr f_157_132 rfl (hR5 _ _ _ rfl) ?_
        refine w_al f_157_135 rfl ?_
        refine w_gr f_157_136 rfl (hR5 _ _ _ rfl) ?_
        refine w_il f_157_139 rfl ?_
        have hb := H.1
        have H := H.2
        refine w_ald' f_157_140 rfl hb (am_u_ne (Or.inl (by decide))) ?_
        have hb := H.1
        have H := H.2
        refine w_ald' f_157_141 rfl hb (am_u_ne (Or.inl (by decide))) ?_
        refine w_al f_157_142 rfl ?_
        refine w_gr f_157_143 rfl (hR5 _ _ _ rfl) ?_
        refine w_il f_157_146 rfl ?_
        have hb := H.1
        have H := H.2
        refine w_ald' f_157_147 rfl hb (am_u_ne (Or.inl (by decide))) ?_
        refine w_icne f_157_148 (fun c => ?_) (fun c => ?_)
        · have H := H.1 c
          exact H
        · have H := H.2 c
          refine w_ic f_157_151 ?_
          refine w_go f_157_152 ?_
          exact H
theorem g_157_155 {d : Nat} {G : am_G} {I : Nat → Nat → Int32} {J : Nat → Nat → Int64} {Q : am_O → am_H → Prop} (hR : q_RT G) (i1 : Int32) (i2 : Int32) (i3 : Int32) (H : q_W β xs L (d + 1) 157 156 [.ref 59, .int i1, .int i2, .int i3, .retAddr 0, .retAddr 0, .retAddr 0] [.int 0] (G, I, J) Q) : q_W β xs L (d + 1) 157 155 [.ref 59, .int i1, .int i2, .int i3, .retAddr 0, .retAddr 0, .retAddr 0] [] (G, I, J) Q := by
  refine w_ic f_157_155 ?_
  exact H
theorem g_157_156 {d : Nat} {G : am_G} {I : Nat → Nat → Int32} {J : Nat → Nat → Int64} {Q : am_O → am_H → Prop} (hR : q_RT G) (i1 : Int32) (i2 : Int32) (i3 : Int32) (is0 : Int32) (H : ((¬ (I 59 78) = 8 → (am_is i1 20 = true ∧ (((I 94 (i1).toNatClampNeg) = (-1) → q_W β xs L (d + 1) 157 192 [.ref 59, .int i1, .int i2, .int i3, .int is0, .retAddr 0, .retAddr 0] [.int 0, .int 3, .ref 110] (G, I, J) Q) ∧ (¬ (I 94 (i1).toNatClampNeg) = (-1) → q_W β xs L (d + 1) 157 192 [.ref 59, .int i1, .int i2, .int i3, .int is0, .retAddr 0, .retAddr 0] [.int 1, .int 3, .ref 110] (G, I, J) Q)))) ∧ ((I 59 78) = 8 → q_W β xs L (d + 1) 157 192 [.ref 59, .int i1, .int i2, .int i3, .int is0, .retAddr 0, .retAddr 0] [.int is0, .int 3, .ref 110] (G, I, J) Q))) : q_W β xs L (d + 1) 157 156 [.ref 59, .int i1, .int i2, .int i3, .retAddr 0, .retAddr 0, .retAddr 0] [.int is0] (G, I, J) Q := by
  refine w_is (ls' := [.ref 59, .int i1, .int i2, .int i3, .int is0, .retAddr 0, .retAddr 0]) f_157_156 rfl ?_
  refine w_al f_157_158 rfl ?_
  refine w_gr f_157_159 rfl (hR _ _ _ rfl) ?_
  refine w_ic f_157_162 ?_
  refine w_al f_157_163 rfl ?_
  refine w_gi f_157_164 rfl ?_
  refine w_ic f_157_167 ?_
  refine w_icne f_157_169 (fun c => ?_) (fun c => ?_)
  · have H := H.1 c
    refine w_al f_157_177 rfl ?_
    refine w_gr f_157_178 rfl (hR _ _ _ rfl) ?_
    refine w_il f_157_181 rfl ?_
    have hb := H.1
    have H := H.2
    refine w_ald f_157_182 rfl hb ?_
    refine w_ic f_157_183 ?_
    refine w_iceq f_157_184 (fun c => ?_) (fun c => ?_)
    · have H := H.1 c
      refine w_ic f_157_191 ?_
      exact H
    · have H := H.2 c
      refine w_ic f_157_187 ?_
      refine w_go f_157_188 ?_
      exact H
  · have H := H.2 c
    refine w_il f_157_172 rfl ?_
    refine w_go f_157_174 ?_
    exact H
theorem g_157_192 {d : Nat} {G : am_G} {I : Nat → Nat → Int32} {J : Nat → Nat → Int64} {Q : am_O → am_H → Prop} (hR : q_RT G) (i1 : Int32) (i2 : Int32) (i3 : Int32) (i4 : Int32) (is0 : Int32) (is1 : Int32) (H : q_W β xs L d 155 0 [.int is0] [] (G, I, J) (q_Ri (fun y1 G1 I1 J1 => (q_RT G1 ∧ (am_is is1 13 = true ∧ ((¬ (I1 59 78) = 9 → (am_is i1 20 = true ∧ q_W β xs L d 156 0 [.ref 59, .int (I1 94 (i1).toNatClampNeg), .int i2] [] (G1, (am_u I1 110 (is1).toNatClampNeg y1), J1) (q_Ri (fun y2 G2 I2 J2 => q_W β xs L d 155 0 [.int y2] [] (G2, I2, J2) (q_Ri (fun y3 G3 I3 J3 => q_W β xs L (d + 1) 157 235 [.ref 59, .int i1, .int i2, .int i3, .int i4, .retAddr 0, .retAddr 0] [.int y3, .int 4, .ref 110] (G3, I3, J3) Q) (fun x3 G3 I3 J3 => Q (.inr x3) (G3, I3, J3)))) (fun x2 G2 I2 J2 => Q (.inr x2) (G2, I2, J2))))) ∧ ((I1 59 78) = 9 → q_W β xs L (d + 1) 157 235 [.ref 59, .int i1, .int i2, .int i3, .int i4, .retAddr 0, .retAddr 0] [.int (((I1 59 82) >>> (i2 &&& 31)) &&& 1), .int 4, .ref 110] (G1, (am_u I1 110 (is1).toNatClampNeg y1), J1) Q))))) (fun x1 G1 I1 J1 => Q (.inr x1) (G1, I1, J1)))) : q_W β xs L (d + 1) 157 192 [.ref 59, .int i1, .int i2, .int i3, .int i4, .retAddr 0, .retAddr 0] [.int is0, .int is1, .ref 110] (G, I, J) Q := by
  refine w_invs (as := [.int is0]) (st' := [.int is1, .ref 110]) f_157_192 rfl rfl rfl rfl rfl H (k_i (fun y1 G1 I1 J1 H => ?_)) (x_n (fun _ => rfl) rfl (fun x h' h => h))
  have hR1 := H.1
  have H := H.2
  have hb := H.1
  have H := H.2
  refine w_ast f_157_195 rfl hb ?_
  refine w_al f_157_196 rfl ?_
  refine w_gr f_157_197 rfl (hR1 _ _ _ rfl) ?_
  refine w_ic f_157_200 ?_
  refine w_al f_157_201 rfl ?_
  refine w_gi' f_157_202 rfl (am_u_ne (Or.inl (by decide))) ?_
  refine w_ic f_157_205 ?_
  refine w_icne f_157_207 (fun c => ?_) (fun c => ?_)
  · have H := H.1 c
    refine w_al f_157_221 rfl ?_
    refine w_al f_157_222 rfl ?_
    refine w_gr f_157_223 rfl (hR1 _ _ _ rfl) ?_
    refine w_il f_157_226 rfl ?_
    have hb := H.1
    have H := H.2
    refine w_ald' f_157_227 rfl hb (am_u_ne (Or.inl (by decide))) ?_
    refine w_il f_157_228 rfl ?_
    refine w_inv (as := [.ref 59, .int (I1 94 (i1).toNatClampNeg), .int i2]) (st' := [.int 4, .ref 110]) f_157_229 rfl rfl rfl rfl rfl rfl H (k_i (fun y2 G2 I2 J2 H => ?_)) (x_n (fun _ => rfl) rfl (fun x h' h => h))
    refine w_invs (as := [.int y2]) (st' := [.int 4, .ref 110]) f_157_232 rfl rfl rfl rfl rfl H (k_i (fun y3 G3 I3 J3 H => ?_)) (x_n (fun _ => rfl) rfl (fun x h' h => h))
    exact H
  · have H := H.2 c
    refine w_al f_157_210 rfl ?_
    refine w_gi' f_157_211 rfl (am_u_ne (Or.inl (by decide))) ?_
    refine w_il f_157_214 rfl ?_
    refine w_bin f_157_215 ?_
    refine w_ic f_157_216 ?_
    refine w_bin f_157_217 ?_
    refine w_go f_157_218 ?_
    exact H
theorem g_157_235 {d : Nat} {G : am_G} {I : Nat → Nat → Int32} {J : Nat → Nat → Int64} {Q : am_O → am_H → Prop} (hR : q_RT G) (i1 : Int32) (i2 : Int32) (i3 : Int32) (i4 : Int32) (is0 : Int32) (is1 : Int32) (H : (am_is is1 13 = true ∧ (am_is i1 20 = true ∧ (am_is 5 13 = true ∧ (am_is i1 20 = true ∧ ((¬ (I 92 (i1).toNatClampNeg) = (-1) → (am_is i1 20 = true ∧ ((365 : Int32) ≠ 0 ∧ q_W β xs L (d + 1) 157 283 [.ref 59, .int i1, .int i2, .int i3, .int i4, .retAddr 0, .retAddr 0] [.int (((I 59 76) - (I 92 (i1).toNatClampNeg)) / 365), .int 6, .ref 110] (G, (am_u (am_u I 110 (is1).toNatClampNeg is0) 110 (5 : Int32).toNatClampNeg (I 61 (i1).toNatClampNeg)), J) Q))) ∧ ((I 92 (i1).toNatClampNeg) = (-1) → q_W β xs L (d + 1) 157 283 [.ref 59, .int i1, .int i2, .int i3, .int i4, .retAddr 0, .retAddr 0] [.int 0, .int 6, .ref 110] (G, (am_u (am_u I 110 (is1).toNatClampNeg is0) 110 (5 : Int32).toNatClampNeg (I 61 (i1).toNatClampNeg)), J) Q))))))) : q_W β xs L (d + 1) 157 235 [.ref 59, .int i1, .int i2, .int i3, .int i4, .retAddr 0, .retAddr 0] [.int is0, .int is1, .ref 110] (G, I, J) Q := by
  have hb := H.1
  have H := H.2
  refine w_ast f_157_235 rfl hb ?_
  refine w_al f_157_236 rfl ?_
  refine w_gr f_157_237 rfl (hR _ _ _ rfl) ?_
  refine w_ic f_157_240 ?_
  refine w_al f_157_241 rfl ?_
  refine w_gr f_157_242 rfl (hR _ _ _ rfl) ?_
  refine w_il f_157_245 rfl ?_
  have hb := H.1
  have H := H.2
  refine w_ald' f_157_246 rfl hb (am_u_ne (Or.inl (by decide))) ?_
  have hb := H.1
  have H := H.2
  refine w_ast f_157_247 rfl hb ?_
  refine w_al f_157_248 rfl ?_
  refine w_gr f_157_249 rfl (hR _ _ _ rfl) ?_
  refine w_ic f_157_252 ?_
  refine w_al f_157_254 rfl ?_
  refine w_gr f_157_255 rfl (hR _ _ _ rfl) ?_
  refine w_il f_157_258 rfl ?_
  have hb := H.1
  have H := H.2
  refine w_ald' f_157_259 rfl hb ((am_u_ne (Or.inl (by decide))).trans (am_u_ne (Or.inl (by decide)))) ?_
  refine w_ic f_157_260 ?_
  refine w_icne f_157_261 (fun c => ?_) (fun c => ?_)
  · have H := H.1 c
    refine w_al f_157_268 rfl ?_
    refine w_gi' f_157_269 rfl ((am_u_ne (Or.inl (by decide))).trans (am_u_ne (Or.inl (by decide)))) ?_
    refine w_al f_157_272 rfl ?_
    refine w_gr f_157_273 rfl (hR _ _ _ rfl) ?_
    refine w_il f_157_276 rfl ?_
    have hb := H.1
    have H := H.2
    refine w_ald' f_157_277 rfl hb ((am_u_ne (Or.inl (by decide))).trans (am_u_ne (Or.inl (by decide)))) ?_
    refine w_bin f_157_278 ?_
    refine w_ic f_157_279 ?_
    have hb := H.1
    have H := H.2
    refine w_div f_157_282 hb ?_
    exact H
  · have H := H.2 c
    refine w_ic f_157_264 ?_
    refine w_go f_157_265 ?_
    exact H
theorem g_157_283 {d : Nat} {G : am_G} {I : Nat → Nat → Int32} {J : Nat → Nat → Int64} {Q : am_O → am_H → Prop} (hR : q_RT G) (i1 : Int32) (i2 : Int32) (i3 : Int32) (i4 : Int32) (is0 : Int32) (is1 : Int32) (H : (am_is is1 13 = true ∧ (am_is i1 20 = true ∧ (((I 95 (i1).toNatClampNeg) = (-1) → q_W β xs L (d + 1) 157 329 [.ref 59, .int i1, .int i2, .int i3, .int i4, .retAddr 0, .retAddr 0] [.int 7, .ref 110] (G, (am_u I 110 (is1).toNatClampNeg is0), J) Q) ∧ (¬ (I 95 (i1).toNatClampNeg) = (-1) → (am_is i1 20 = true ∧ (am_is (I 95 (i1).toNatClampNeg) 12 = true ∧ ((¬ (I 97 ((I 95 (i1).toNatClampNeg)).toNatClampNeg) = i2 → q_W β xs L (d + 1) 157 329 [.ref 59, .int i1, .int i2, .int i3, .int i4, .retAddr 0, .retAddr 0] [.int 7, .ref 110] (G, (am_u I 110 (is1).toNatClampNeg is0), J) Q) ∧ ((I 97 ((I 95 (i1).toNatClampNeg)).toNatClampNeg) = i2 → (am_is i1 20 = true ∧ q_W β xs L (d + 1) 157 330 [.ref 59, .int i1, .int i2, .int i3, .int i4, .retAddr 0, .retAddr 0] [.int ((I 59 76) - (I 96 (i1).toNatClampNeg)), .int 7, .ref 110] (G, (am_u I 110 (is1).toNatClampNeg is0), J) Q)))))))))) : q_W β xs L (d + 1) 157 283 [.ref 59, .int i1, .int i2, .int i3, .int i4, .retAddr 0, .retAddr 0] [.int is0, .int is1, .ref 110] (G, I, J) Q := by
  have hb := H.1
  have H := H.2
  refine w_ast f_157_283 rfl hb ?_
  refine w_al f_157_284 rfl ?_
  refine w_gr f_157_285 rfl (hR _ _ _ rfl) ?_
  refine w_ic f_157_288 ?_
  refine w_al f_157_290 rfl ?_
  refine w_gr f_157_291 rfl (hR _ _ _ rfl) ?_
  refine w_il f_157_294 rfl ?_
  have hb := H.1
  have H := H.2
  refine w_ald' f_157_295 rfl hb (am_u_ne (Or.inl (by decide))) ?_
  refine w_ic f_157_296 ?_
  refine w_iceq f_157_297 (fun c => ?_) (fun c => ?_)
  · have H := H.1 c
    exact H
  · have H := H.2 c
    refine w_al f_157_300 rfl ?_
    refine w_gr f_157_301 rfl (hR _ _ _ rfl) ?_
    refine w_al f_157_304 rfl ?_
    refine w_gr f_157_305 rfl (hR _ _ _ rfl) ?_
    refine w_il f_157_308 rfl ?_
    have hb := H.1
    have H := H.2
    refine w_ald' f_157_309 rfl hb (am_u_ne (Or.inl (by decide))) ?_
    have hb := H.1
    have H := H.2
    refine w_ald' f_157_310 rfl hb (am_u_ne (Or.inl (by decide))) ?_
    refine w_il f_157_311 rfl ?_
    refine w_icne f_157_312 (fun c => ?_) (fun c => ?_)
    · have H := H.1 c
      exact H
    · have H := H.2 c
      refine w_al f_157_315 rfl ?_
      refine w_gi' f_157_316 rfl (am_u_ne (Or.inl (by decide))) ?_
      refine w_al f_157_319 rfl ?_
      refine w_gr f_157_320 rfl (hR _ _ _ rfl) ?_
      refine w_il f_157_323 rfl ?_
      have hb := H.1
      have H := H.2
      refine w_ald' f_157_324 rfl hb (am_u_ne (Or.inl (by decide))) ?_
      refine w_bin f_157_325 ?_
      refine w_go f_157_326 ?_
      exact H
theorem g_157_329 {d : Nat} {G : am_G} {I : Nat → Nat → Int32} {J : Nat → Nat → Int64} {Q : am_O → am_H → Prop} (hR : q_RT G) (i1 : Int32) (i2 : Int32) (i3 : Int32) (i4 : Int32) (is0 : Int32) (H : q_W β xs L (d + 1) 157 330 [.ref 59, .int i1, .int i2, .int i3, .int i4, .retAddr 0, .retAddr 0] [.int 0, .int is0, .ref 110] (G, I, J) Q) : q_W β xs L (d + 1) 157 329 [.ref 59, .int i1, .int i2, .int i3, .int i4, .retAddr 0, .retAddr 0] [.int is0, .ref 110] (G, I, J) Q := by
  refine w_ic f_157_329 ?_
  exact H
theorem g_157_330 {d : Nat} {G : am_G} {I : Nat → Nat → Int32} {J : Nat → Nat → Int64} {Q : am_O → am_H → Prop} (hR : q_RT G) (i1 : Int32) (i2 : Int32) (i3 : Int32) (i4 : Int32) (is0 : Int32) (is1 : Int32) (H : (am_is is1 13 = true ∧ q_W β xs L d 156 0 [.ref 59, .int i1, .int i2] [] (G, (am_u I 110 (is1).toNatClampNeg is0), J) (q_Ri (fun y1 G1 I1 J1 => q_W β xs L d 155 0 [.int y1] [] (G1, I1, J1) (q_Ri (fun y2 G2 I2 J2 => (am_is 8 13 = true ∧ q_W β xs L (d + 1) 157 353 [.ref 59, .int i1, .int i2, .int i3, .int i4, .int 0, .int 0] [] (G2, (am_u I2 110 (8 : Int32).toNatClampNeg y2), J2) Q)) (fun x2 G2 I2 J2 => Q (.inr x2) (G2, I2, J2)))) (fun x1 G1 I1 J1 => Q (.inr x1) (G1, I1, J1))))) : q_W β xs L (d + 1) 157 330 [.ref 59, .int i1, .int i2, .int i3, .int i4, .retAddr 0, .retAddr 0] [.int is0, .int is1, .ref 110] (G, I, J) Q := by
  have hb := H.1
  have H := H.2
  refine w_ast f_157_330 rfl hb ?_
  refine w_al f_157_331 rfl ?_
  refine w_gr f_157_332 rfl (hR _ _ _ rfl) ?_
  refine w_ic f_157_335 ?_
  refine w_al f_157_337 rfl ?_
  refine w_il f_157_338 rfl ?_
  refine w_il f_157_339 rfl ?_
  refine w_inv (as := [.ref 59, .int i1, .int i2]) (st' := [.int 8, .ref 110]) f_157_340 rfl rfl rfl rfl rfl rfl H (k_i (fun y1 G1 I1 J1 H => ?_)) (x_n (fun _ => rfl) rfl (fun x h' h => h))
  refine w_invs (as := [.int y1]) (st' := [.int 8, .ref 110]) f_157_343 rfl rfl rfl rfl rfl H (k_i (fun y2 G2 I2 J2 H => ?_)) (x_n (fun _ => rfl) rfl (fun x h' h => h))
  have hb := H.1
  have H := H.2
  refine w_ast f_157_346 rfl hb ?_
  refine w_ic f_157_347 ?_
  refine w_is (ls' := [.ref 59, .int i1, .int i2, .int i3, .int i4, .int 0, .retAddr 0]) f_157_348 rfl ?_
  refine w_ic f_157_350 ?_
  refine w_is (ls' := [.ref 59, .int i1, .int i2, .int i3, .int i4, .int 0, .int 0]) f_157_351 rfl ?_
  exact H
theorem g_157_353 {d : Nat} {G : am_G} {I : Nat → Nat → Int32} {J : Nat → Nat → Int64} {Q : am_O → am_H → Prop} (hR : q_RT G) (i1 : Int32) (i2 : Int32) (i3 : Int32) (i4 : Int32) (i5 : Int32) (i6 : Int32) (H : ((¬ i6 < (I 59 3) → (am_is 9 13 = true ∧ (((I 59 78) = 14 → q_W β xs L (d + 1) 157 425 [.ref 59, .int i1, .int i2, .int i3, .int i4, .int i5, .int i6] [.int 10, .ref 110] (G, (am_u I 110 (9 : Int32).toNatClampNeg i5), J) Q) ∧ (¬ (I 59 78) = 14 → ((¬ (I 59 80) = i2 → q_W β xs L (d + 1) 157 430 [.ref 59, .int i1, .int i2, .int i3, .int i4, .int i5, .int i6] [.int 0, .int 10, .ref 110] (G, (am_u I 110 (9 : Int32).toNatClampNeg i5), J) Q) ∧ ((I 59 80) = i2 → q_W β xs L (d + 1) 157 425 [.ref 59, .int i1, .int i2, .int i3, .int i4, .int i5, .int i6] [.int 10, .ref 110] (G, (am_u I 110 (9 : Int32).toNatClampNeg i5), J) Q)))))) ∧ (i6 < (I 59 3) → ((i6 = i2 → q_W β xs L (d + 1) 157 384 [.ref 59, .int i1, .int i2, .int i3, .int i4, .int i5, .int i6] [.int 0, .int i5] (G, I, J) Q) ∧ (¬ i6 = i2 → q_W β xs L d 156 0 [.ref 59, .int i1, .int i6] [] (G, I, J) (q_Ri (fun y1 G1 I1 J1 => q_W β xs L d 155 0 [.int y1] [] (G1, I1, J1) (q_Ri (fun y2 G2 I2 J2 => q_W β xs L (d + 1) 157 384 [.ref 59, .int i1, .int i2, .int i3, .int i4, .int i5, .int i6] [.int y2, .int i5] (G2, I2, J2) Q) (fun x2 G2 I2 J2 => Q (.inr x2) (G2, I2, J2)))) (fun x1 G1 I1 J1 => Q (.inr x1) (G1, I1, J1)))))))) : q_W β xs L (d + 1) 157 353 [.ref 59, .int i1, .int i2, .int i3, .int i4, .int i5, .int i6] [] (G, I, J) Q := by
  refine w_il f_157_353 rfl ?_
  refine w_al f_157_355 rfl ?_
  refine w_gi f_157_356 rfl ?_
  refine w_icge f_157_359 (fun c => ?_) (fun c => ?_)
  · have H := H.1 c
    refine w_al f_157_393 rfl ?_
    refine w_gr f_157_394 rfl (hR _ _ _ rfl) ?_
    refine w_ic f_157_397 ?_
    refine w_il f_157_399 rfl ?_
    have hb := H.1
    have H := H.2
    refine w_ast f_157_401 rfl hb ?_
    refine w_al f_157_402 rfl ?_
    refine w_gr f_157_403 rfl (hR _ _ _ rfl) ?_
    refine w_ic f_157_406 ?_
    refine w_al f_157_408 rfl ?_
    refine w_gi' f_157_409 rfl (am_u_ne (Or.inl (by decide))) ?_
    refine w_ic f_157_412 ?_
    refine w_iceq f_157_414 (fun c => ?_) (fun c => ?_)
    · have H := H.1 c
      exact H
    · have H := H.2 c
      refine w_al f_157_417 rfl ?_
      refine w_gi' f_157_418 rfl (am_u_ne (Or.inl (by decide))) ?_
      refine w_il f_157_421 rfl ?_
      refine w_icne f_157_422 (fun c => ?_) (fun c => ?_)
      · have H := H.1 c
        refine w_ic f_157_429 ?_
        exact H
      · have H := H.2 c
        exact H
  · have H := H.2 c
    refine w_il f_157_362 rfl ?_
    refine w_il f_157_364 rfl ?_
    refine w_il f_157_366 rfl ?_
    refine w_iceq f_157_367 (fun c => ?_) (fun c => ?_)
    · have H := H.1 c
      refine w_ic f_157_383 ?_
      exact H
    · have H := H.2 c
      refine w_al f_157_370 rfl ?_
      refine w_il f_157_371 rfl ?_
      refine w_il f_157_372 rfl ?_
      refine w_inv (as := [.ref 59, .int i1, .int i6]) (st' := [.int i5]) f_157_374 rfl rfl rfl rfl rfl rfl H (k_i (fun y1 G1 I1 J1 H => ?_)) (x_n (fun _ => rfl) rfl (fun x h' h => h))
      refine w_invs (as := [.int y1]) (st' := [.int i5]) f_157_377 rfl rfl rfl rfl rfl H (k_i (fun y2 G2 I2 J2 H => ?_)) (x_n (fun _ => rfl) rfl (fun x h' h => h))
      refine w_go f_157_380 ?_
      exact H
theorem g_157_384 {d : Nat} {G : am_G} {I : Nat → Nat → Int32} {J : Nat → Nat → Int64} {Q : am_O → am_H → Prop} (hR : q_RT G) (i1 : Int32) (i2 : Int32) (i3 : Int32) (i4 : Int32) (i5 : Int32) (i6 : Int32) (is0 : Int32) (is1 : Int32) (H : q_W β xs L (d + 1) 157 353 [.ref 59, .int i1, .int i2, .int i3, .int i4, .int (is1 + is0), .int (i6 + 1)] [] (G, I, J) Q) : q_W β xs L (d + 1) 157 384 [.ref 59, .int i1, .int i2, .int i3, .int i4, .int i5, .int i6] [.int is0, .int is1] (G, I, J) Q := by
  refine w_bin f_157_384 ?_
  refine w_is (ls' := [.ref 59, .int i1, .int i2, .int i3, .int i4, .int (is1 + is0), .int i6]) f_157_385 rfl ?_
  refine w_iinc (ls' := [.ref 59, .int i1, .int i2, .int i3, .int i4, .int (is1 + is0), .int (i6 + 1)]) f_157_387 rfl rfl ?_
  refine w_go f_157_390 ?_
  exact H
theorem g_157_425 {d : Nat} {G : am_G} {I : Nat → Nat → Int32} {J : Nat → Nat → Int64} {Q : am_O → am_H → Prop} (hR : q_RT G) (i1 : Int32) (i2 : Int32) (i3 : Int32) (i4 : Int32) (i5 : Int32) (i6 : Int32) (is0 : Int32) (H : q_W β xs L (d + 1) 157 430 [.ref 59, .int i1, .int i2, .int i3, .int i4, .int i5, .int i6] [.int 1, .int is0, .ref 110] (G, I, J) Q) : q_W β xs L (d + 1) 157 425 [.ref 59, .int i1, .int i2, .int i3, .int i4, .int i5, .int i6] [.int is0, .ref 110] (G, I, J) Q := by
  refine w_ic f_157_425 ?_
  refine w_go f_157_426 ?_
  exact H
theorem g_157_430 {d : Nat} {G : am_G} {I : Nat → Nat → Int32} {J : Nat → Nat → Int64} {Q : am_O → am_H → Prop} (hR : q_RT G) (i1 : Int32) (i2 : Int32) (i3 : Int32) (i4 : Int32) (i5 : Int32) (i6 : Int32) (is0 : Int32) (is1 : Int32) (H : q_W β xs L d 155 0 [.int is0] [] (G, I, J) (q_Ri (fun y1 G1 I1 J1 => (q_RT G1 ∧ (am_is is1 13 = true ∧ ((365 : Int32) ≠ 0 ∧ (am_is 11 13 = true ∧ (am_is i1 20 = true ∧ (((I1 92 (i1).toNatClampNeg) = (-1) → q_W β xs L (d + 1) 157 480 [.ref 59, .int i1, .int i2, .int i3, .int i4, .int i5, .int i6] [.int 12, .ref 110] (G1, (am_u (am_u I1 110 (is1).toNatClampNeg y1) 110 (11 : Int32).toNatClampNeg ((I1 59 76) / 365)), J1) Q) ∧ (¬ (I1 92 (i1).toNatClampNeg) = (-1) → (am_is i1 20 = true ∧ (am_is (I1 93 (i1).toNatClampNeg) 12 = true ∧ ((¬ (I1 98 ((I1 93 (i1).toNatClampNeg)).toNatClampNeg) = (-1) → (am_is i1 20 = true ∧ (am_is (I1 93 (i1).toNatClampNeg) 12 = true ∧ q_W β xs L (d + 1) 157 502 [.ref 59, .int i1, .int i2, .int i3, .int i4, .int i5, .int i6] [.int ((I1 59 76) - (I1 98 ((I1 93 (i1).toNatClampNeg)).toNatClampNeg)), .int 12, .ref 110] (G1, (am_u (am_u I1 110 (is1).toNatClampNeg y1) 110 (11 : Int32).toNatClampNeg ((I1 59 76) / 365)), J1) Q))) ∧ ((I1 98 ((I1 93 (i1).toNatClampNeg)).toNatClampNeg) = (-1) → q_W β xs L (d + 1) 157 480 [.ref 59, .int i1, .int i2, .int i3, .int i4, .int i5, .int i6] [.int 12, .ref 110] (G1, (am_u (am_u I1 110 (is1).toNatClampNeg y1) 110 (11 : Int32).toNatClampNeg ((I1 59 76) / 365)), J1) Q)))))))))))) (fun x1 G1 I1 J1 => Q (.inr x1) (G1, I1, J1)))) : q_W β xs L (d + 1) 157 430 [.ref 59, .int i1, .int i2, .int i3, .int i4, .int i5, .int i6] [.int is0, .int is1, .ref 110] (G, I, J) Q := by
  refine w_invs (as := [.int is0]) (st' := [.int is1, .ref 110]) f_157_430 rfl rfl rfl rfl rfl H (k_i (fun y1 G1 I1 J1 H => ?_)) (x_n (fun _ => rfl) rfl (fun x h' h => h))
  have hR1 := H.1
  have H := H.2
  have hb := H.1
  have H := H.2
  refine w_ast f_157_433 rfl hb ?_
  refine w_al f_157_434 rfl ?_
  refine w_gr f_157_435 rfl (hR1 _ _ _ rfl) ?_
  refine w_ic f_157_438 ?_
  refine w_al f_157_440 rfl ?_
  refine w_gi' f_157_441 rfl (am_u_ne (Or.inl (by decide))) ?_
  refine w_ic f_157_444 ?_
  have hb := H.1
  have H := H.2
  refine w_div f_157_447 hb ?_
  have hb := H.1
  have H := H.2
  refine w_ast f_157_448 rfl hb ?_
  refine w_al f_157_449 rfl ?_
  refine w_gr f_157_450 rfl (hR1 _ _ _ rfl) ?_
  refine w_ic f_157_453 ?_
  refine w_al f_157_455 rfl ?_
  refine w_gr f_157_456 rfl (hR1 _ _ _ rfl) ?_
  refine w_il f_157_459 rfl ?_
  have hb := H.1
  have H := H.2
  refine w_ald' f_157_460 rfl hb ((am_u_ne (Or.inl (by decide))).trans (am_u_ne (Or.inl (by decide)))) ?_
  refine w_ic f_157_461 ?_
  refine w_iceq f_157_462 (fun c => ?_) (fun c => ?_)
  · have H := H.1 c
    exact H
  · have H := H.2 c
    refine w_al f_157_465 rfl ?_
    refine w_gr f_157_466 rfl (hR1 _ _ _ rfl) ?_
    refine w_al f_157_469 rfl ?_
    refine w_gr f_157_470 rfl (hR1 _ _ _ rfl) ?_
    refine w_il f_157_473 rfl ?_
    have hb := H.1
    have H := H.2
    refine w_ald' f_157_474 rfl hb ((am_u_ne (Or.inl (by decide))).trans (am_u_ne (Or.inl (by decide)))) ?_
    have hb := H.1
    have H := H.2
    refine w_ald' f_157_475 rfl hb ((am_u_ne (Or.inl (by decide))).trans (am_u_ne (Or.inl (by decide)))) ?_
    refine w_ic f_157_476 ?_
    refine w_icne f_157_477 (fun c => ?_) (fun c => ?_)
    · have H := H.1 c
      refine w_al f_157_486 rfl ?_
      refine w_gi' f_157_487 rfl ((am_u_ne (Or.inl (by decide))).trans (am_u_ne (Or.inl (by decide)))) ?_
      refine w_al f_157_490 rfl ?_
      refine w_gr f_157_491 rfl (hR1 _ _ _ rfl) ?_
      refine w_al f_157_494 rfl ?_
      refine w_gr f_157_495 rfl (hR1 _ _ _ rfl) ?_
      refine w_il f_157_498 rfl ?_
      have hb := H.1
      have H := H.2
      refine w_ald' f_157_499 rfl hb ((am_u_ne (Or.inl (by decide))).trans (am_u_ne (Or.inl (by decide)))) ?_
      have hb := H.1
      have H := H.2
      refine w_ald' f_157_500 rfl hb ((am_u_ne (Or.inl (by decide))).trans (am_u_ne (Or.inl (by decide)))) ?_
      refine w_bin f_157_501 ?_
      exact H
    · have H := H.2 c
      exact H
theorem g_157_480 {d : Nat} {G : am_G} {I : Nat → Nat → Int32} {J : Nat → Nat → Int64} {Q : am_O → am_H → Prop} (hR : q_RT G) (i1 : Int32) (i2 : Int32) (i3 : Int32) (i4 : Int32) (i5 : Int32) (i6 : Int32) (is0 : Int32) (H : q_W β xs L (d + 1) 157 502 [.ref 59, .int i1, .int i2, .int i3, .int i4, .int i5, .int i6] [.int 99999, .int is0, .ref 110] (G, I, J) Q) : q_W β xs L (d + 1) 157 480 [.ref 59, .int i1, .int i2, .int i3, .int i4, .int i5, .int i6] [.int is0, .ref 110] (G, I, J) Q := by
  refine w_ic f_157_480 ?_
  refine w_go f_157_483 ?_
  exact H
theorem g_157_502 {d : Nat} {G : am_G} {I : Nat → Nat → Int32} {J : Nat → Nat → Int64} {Q : am_O → am_H → Prop} (hR : q_RT G) (i1 : Int32) (i2 : Int32) (i3 : Int32) (i4 : Int32) (i5 : Int32) (i6 : Int32) (is0 : Int32) (is1 : Int32) (H : (am_is is1 13 = true ∧ Q (.inl none) (G, (am_u I 110 (is1).toNatClampNeg is0), J))) : q_W β xs L (d + 1) 157 502 [.ref 59, .int i1, .int i2, .int i3, .int i4, .int i5, .int i6] [.int is0, .int is1, .ref 110] (G, I, J) Q := by
  have hb := H.1
  have H := H.2
  refine w_ast f_157_502 rfl hb ?_
  exact w_ret0 f_157_503 H
theorem g_158_0 {d : Nat} {G : am_G} {I : Nat → Nat → Int32} {J : Nat → Nat → Int64} {Q : am_O → am_H → Prop} (hR : q_RT G) (i1 : Int32) (i2 : Int32) (i3 : Int32) (H : q_W β xs L (d + 1) 158 3 [.ref 59, .int i1, .int i2, .int i3, .int i2, .retAddr 0, .retAddr 0] [] (G, I, J) Q) : q_W β xs L (d + 1) 158 0 [.ref 59, .int i1, .int i2, .int i3, .retAddr 0, .retAddr 0, .retAddr 0] [] (G, I, J) Q := by
  refine w_il f_158_0 rfl ?_
  refine w_is (ls' := [.ref 59, .int i1, .int i2, .int i3, .int i2, .retAddr 0, .retAddr 0]) f_158_1 rfl ?_
  exact H
theorem g_158_3 {d : Nat} {G : am_G} {I : Nat → Nat → Int32} {J : Nat → Nat → Int64} {Q : am_O → am_H → Prop} (hR : q_RT G) (i1 : Int32) (i2 : Int32) (i3 : Int32) (i4 : Int32) (v5 : Value) (v6 : Value) (n5 : am_nl v5 = true) (n6 : am_nl v6 = true) (H : ((i3 < i4 → q_W β xs L (d + 1) 158 119 [.ref 59, .int i1, .int i2, .int i3, .int i2, v5, v6] [] (G, I, J) Q) ∧ (¬ i3 < i4 → (am_is i4 5 = true ∧ q_W β xs L d 157 0 [.ref 59, .int i1, .int i4, .retAddr 0, .retAddr 0, .retAddr 0, .retAddr 0] [] (G, (am_u I 112 (i4).toNatClampNeg (-1)), J) (q_Rv (fun G1 I1 J1 => q_W β xs L d 156 0 [.ref 59, .int i1, .int i4] [] (G1, I1, J1) (q_Ri (fun y2 G2 I2 J2 => ((y2 = 0 → q_W β xs L (d + 1) 158 39 [.ref 59, .int i1, .int i2, .int i3, .int i4, v5, v6] [.int 0] (G2, I2, J2) Q) ∧ (¬ y2 = 0 → q_W β xs L (d + 1) 158 39 [.ref 59, .int i1, .int i2, .int i3, .int i4, v5, v6] [.int 1] (G2, I2, J2) Q))) (fun x2 G2 I2 J2 => Q (.inr x2) (G2, I2, J2)))) (fun x1 G1 I1 J1 => Q (.inr x1) (G1, I1, J1))))))) : q_W β xs L (d + 1) 158 3 [.ref 59, .int i1, .int i2, .int i3, .int i4, v5, v6] [] (G, I, J) Q := by
  refine w_il f_158_3 rfl ?_
  refine w_il f_158_5 rfl ?_
  refine w_icgt f_158_6 (fun c => ?_) (fun c => ?_)
  · have H := H.1 c
    refine w_il f_158_116 rfl ?_
    refine w_is (ls' := [.ref 59, .int i1, .int i2, .int i3, .int i2, v5, v6]) f_158_117 rfl ?_
    exact H
  · have H := H.2 c
    refine w_al f_158_9 rfl ?_
    refine w_gr f_158_10 rfl (hR _ _ _ rfl) ?_
    refine w_il f_158_13 rfl ?_
    refine w_ic f_158_15 ?_
    have hb := H.1
    have H := H.2
    refine w_ast f_158_16 rfl hb ?_
    refine w_al f_158_17 rfl ?_
    refine w_il f_158_18 rfl ?_
    refine w_il f_158_19 rfl ?_
    refine w_inv (as := [.ref 59, .int i1, .int i4, .retAddr 0, .retAddr 0, .retAddr 0, .retAddr 0]) (st' := []) f_158_21 rfl rfl rfl rfl rfl rfl H (k_v (fun G1 I1 J1 H => ?_)) (x_n (fun _ => rfl) rfl (fun x h' h => h))
    refine w_al f_158_24 rfl ?_
    refine w_il f_158_25 rfl ?_
    refine w_il f_158_26 rfl ?_
    refine w_inv (as := [.ref 59, .int i1, .int i4]) (st' := []) f_158_28 rfl rfl rfl rfl rfl rfl H (k_i (fun y2 G2 I2 J2 H => ?_)) (x_n (fun _ => rfl) rfl (fun x h' h => h))
    refine w_ifeq f_158_31 (fun c => ?_) (fun c => ?_)
    · have H := H.1 c
      refine w_ic f_158_38 ?_
      exact H
    · have H := H.2 c
      refine w_ic f_158_34 ?_
      refine w_go f_158_35 ?_
      exact H
theorem g_158_39 {d : Nat} {G : am_G} {I : Nat → Nat → Int32} {J : Nat → Nat → Int64} {Q : am_O → am_H → Prop} (hR : q_RT G) (i1 : Int32) (i2 : Int32) (i3 : Int32) (i4 : Int32) (v5 : Value) (v6 : Value) (is0 : Int32) (n5 : am_nl v5 = true) (n6 : am_nl v6 = true) (H : q_W β xs L (d + 1) 158 44 [.ref 59, .int i1, .int i2, .int i3, .int i4, .int is0, .int 0] [] (G, I, J) Q) : q_W β xs L (d + 1) 158 39 [.ref 59, .int i1, .int i2, .int i3, .int i4, v5, v6] [.int is0] (G, I, J) Q := by
  refine w_is (ls' := [.ref 59, .int i1, .int i2, .int i3, .int i4, .int is0, v6]) f_158_39 rfl ?_
  refine w_ic f_158_41 ?_
  refine w_is (ls' := [.ref 59, .int i1, .int i2, .int i3, .int i4, .int is0, .int 0]) f_158_42 rfl ?_
  exact H
theorem g_158_44 {d : Nat} {G : am_G} {I : Nat → Nat → Int32} {J : Nat → Nat → Int64} {Q : am_O → am_H → Prop} (hR : q_RT G) (i1 : Int32) (i2 : Int32) (i3 : Int32) (i4 : Int32) (i5 : Int32) (i6 : Int32) (H : ((¬ i6 < (I 59 32) → q_W β xs L (d + 1) 158 110 [.ref 59, .int i1, .int i2, .int i3, .int i4, .int i5, .int i6] [] (G, I, J) Q) ∧ (i6 < (I 59 32) → (am_is i4 5 = true ∧ ((¬ (I 112 (i4).toNatClampNeg) = (-1) → q_W β xs L (d + 1) 158 110 [.ref 59, .int i1, .int i2, .int i3, .int i4, .int i5, .int i6] [] (G, I, J) Q) ∧ ((I 112 (i4).toNatClampNeg) = (-1) → ((¬ (((I 59 77) >>> (i6 &&& 31)) &&& 1) = 1 → q_W β xs L (d + 1) 158 104 [.ref 59, .int i1, .int i2, .int i3, .int i4, .int i5, .int i6] [] (G, I, J) Q) ∧ ((((I 59 77) >>> (i6 &&& 31)) &&& 1) = 1 → (am_is i6 12 = true ∧ ((¬ (I 74 (i6).toNatClampNeg) = i4 → q_W β xs L (d + 1) 158 104 [.ref 59, .int i1, .int i2, .int i3, .int i4, .int i5, .int i6] [] (G, I, J) Q) ∧ ((I 74 (i6).toNatClampNeg) = i4 → q_W β xs L d 159 0 [.ref 59, .int i6, .int i5, .retAddr 0, .retAddr 0] [] (G, I, J) (q_Ri (fun y1 G1 I1 J1 => (am_is i4 5 = true ∧ q_W β xs L (d + 1) 158 104 [.ref 59, .int i1, .int i2, .int i3, .int i4, .int i5, .int i6] [] (G1, (am_u I1 112 (i4).toNatClampNeg y1), J1) Q)) (fun x1 G1 I1 J1 => Q (.inr x1) (G1, I1, J1)))))))))))))) : q_W β xs L (d + 1) 158 44 [.ref 59, .int i1, .int i2, .int i3, .int i4, .int i5, .int i6] [] (G, I, J) Q := by
  refine w_il f_158_44 rfl ?_
  refine w_al f_158_46 rfl ?_
  refine w_gi f_158_47 rfl ?_
  refine w_icge f_158_50 (fun c => ?_) (fun c => ?_)
  · have H := H.1 c
    exact H
  · have H := H.2 c
    refine w_al f_158_53 rfl ?_
    refine w_gr f_158_54 rfl (hR _ _ _ rfl) ?_
    refine w_il f_158_57 rfl ?_
    have hb := H.1
    have H := H.2
    refine w_ald f_158_59 rfl hb ?_
    refine w_ic f_158_60 ?_
    refine w_icne f_158_61 (fun c => ?_) (fun c => ?_)
    · have H := H.1 c
      exact H
    · have H := H.2 c
      refine w_al f_158_64 rfl ?_
      refine w_gi f_158_65 rfl ?_
      refine w_il f_158_68 rfl ?_
      refine w_bin f_158_70 ?_
      refine w_ic f_158_71 ?_
      refine w_bin f_158_72 ?_
      refine w_ic f_158_73 ?_
      refine w_icne f_158_74 (fun c => ?_) (fun c => ?_)
      · have H := H.1 c
        exact H
      · have H := H.2 c
        refine w_al f_158_77 rfl ?_
        refine w_gr f_158_78 rfl (hR _ _ _ rfl) ?_
        refine w_il f_158_81 rfl ?_
        have hb := H.1
        have H := H.2
        refine w_ald f_158_83 rfl hb ?_
        refine w_il f_158_84 rfl ?_
        refine w_icne f_158_86 (fun c => ?_) (fun c => ?_)
        · have H := H.1 c
          exact H
        · have H := H.2 c
          refine w_al f_158_89 rfl ?_
          refine w_gr f_158_90 rfl (hR _ _ _ rfl) ?_
          refine w_il f_158_93 rfl ?_
          refine w_al f_158_95 rfl ?_
          refine w_il f_158_96 rfl ?_
          refine w_il f_158_98 rfl ?_
          refine w_inv (as := [.ref 59, .int i6, .int i5, .retAddr 0, .retAddr 0]) (st' := [.int i4, .ref 112]) f_158_100 rfl rfl rfl rfl rfl rfl H (k_i (fun y1 G1 I1 J1 H => ?_)) (x_n (fun _ => rfl) rfl (fun x h' h => h))
          have hb := H.1
          have H := H.2
          refine w_ast f_158_103 rfl hb ?_
          exact H
theorem g_158_104 {d : Nat} {G : am_G} {I : Nat → Nat → Int32} {J : Nat → Nat → Int64} {Q : am_O → am_H → Prop} (hR : q_RT G) (i1 : Int32) (i2 : Int32) (i3 : Int32) (i4 : Int32) (i5 : Int32) (i6 : Int32) (H : q_W β xs L (d + 1) 158 44 [.ref 59, .int i1, .int i2, .int i3, .int i4, .int i5, .int (i6 + 1)] [] (G, I, J) Q) : q_W β xs L (d + 1) 158 104 [.ref 59, .int i1, .int i2, .int i3, .int i4, .int i5, .int i6] [] (G, I, J) Q := by
  refine w_iinc (ls' := [.ref 59, .int i1, .int i2, .int i3, .int i4, .int i5, .int (i6 + 1)]) f_158_104 rfl rfl ?_
  refine w_go f_158_107 ?_
  exact H
theorem g_158_110 {d : Nat} {G : am_G} {I : Nat → Nat → Int32} {J : Nat → Nat → Int64} {Q : am_O → am_H → Prop} (hR : q_RT G) (i1 : Int32) (i2 : Int32) (i3 : Int32) (i4 : Int32) (i5 : Int32) (i6 : Int32) (H : q_W β xs L (d + 1) 158 3 [.ref 59, .int i1, .int i2, .int i3, .int (i4 + 1), .int i5, .int i6] [] (G, I, J) Q) : q_W β xs L (d + 1) 158 110 [.ref 59, .int i1, .int i2, .int i3, .int i4, .int i5, .int i6] [] (G, I, J) Q := by
  refine w_iinc (ls' := [.ref 59, .int i1, .int i2, .int i3, .int (i4 + 1), .int i5, .int i6]) f_158_110 rfl rfl ?_
  refine w_go f_158_113 ?_
  exact H
theorem g_158_119 {d : Nat} {G : am_G} {I : Nat → Nat → Int32} {J : Nat → Nat → Int64} {Q : am_O → am_H → Prop} (hR : q_RT G) (i1 : Int32) (i2 : Int32) (i3 : Int32) (i4 : Int32) (v5 : Value) (v6 : Value) (n5 : am_nl v5 = true) (n6 : am_nl v6 = true) (H : ((i3 < i4 → Q (.inl none) (G, I, J)) ∧ (¬ i3 < i4 → (am_is i4 5 = true ∧ (((I 112 (i4).toNatClampNeg) = (-1) → q_W β xs L (d + 1) 158 150 [.ref 59, .int i1, .int i2, .int i3, .int i4, v5, v6] [] (G, I, J) Q) ∧ (¬ (I 112 (i4).toNatClampNeg) = (-1) → (am_is i4 5 = true ∧ q_W β xs L d 162 0 [.ref 59, .int i1, .int i4, .int (I 112 (i4).toNatClampNeg), .retAddr 0, .retAddr 0, .retAddr 0] [] (G, I, J) (q_Rv (fun G1 I1 J1 => q_W β xs L (d + 1) 158 150 [.ref 59, .int i1, .int i2, .int i3, .int i4, v5, v6] [] (G1, I1, J1) Q) (fun x1 G1 I1 J1 => Q (.inr x1) (G1, I1, J1)))))))))) : q_W β xs L (d + 1) 158 119 [.ref 59, .int i1, .int i2, .int i3, .int i4, v5, v6] [] (G, I, J) Q := by
  refine w_il f_158_119 rfl ?_
  refine w_il f_158_121 rfl ?_
  refine w_icgt f_158_122 (fun c => ?_) (fun c => ?_)
  · have H := H.1 c
    exact w_ret0 f_158_156 H
  · have H := H.2 c
    refine w_al f_158_125 rfl ?_
    refine w_gr f_158_126 rfl (hR _ _ _ rfl) ?_
    refine w_il f_158_129 rfl ?_
    have hb := H.1
    have H := H.2
    refine w_ald f_158_131 rfl hb ?_
    refine w_ic f_158_132 ?_
    refine w_iceq f_158_133 (fun c => ?_) (fun c => ?_)
    · have H := H.1 c
      exact H
    · have H := H.2 c
      refine w_al f_158_136 rfl ?_
      refine w_il f_158_137 rfl ?_
      refine w_il f_158_138 rfl ?_
      refine w_al f_158_140 rfl ?_
      refine w_gr f_158_141 rfl (hR _ _ _ rfl) ?_
      refine w_il f_158_144 rfl ?_
      have hb := H.1
      have H := H.2
      refine w_ald f_158_146 rfl hb ?_
      refine w_inv (as := [.ref 59, .int i1, .int i4, .int (I 112 (i4).toNatClampNeg), .retAddr 0, .retAddr 0, .retAddr 0]) (st' := []) f_158_147 rfl rfl rfl rfl rfl rfl H (k_v (fun G1 I1 J1 H => ?_)) (x_n (fun _ => rfl) rfl (fun x h' h => h))
      exact H
theorem g_158_150 {d : Nat} {G : am_G} {I : Nat → Nat → Int32} {J : Nat → Nat → Int64} {Q : am_O → am_H → Prop} (hR : q_RT G) (i1 : Int32) (i2 : Int32) (i3 : Int32) (i4 : Int32) (v5 : Value) (v6 : Value) (n5 : am_nl v5 = true) (n6 : am_nl v6 = true) (H : q_W β xs L (d + 1) 158 119 [.ref 59, .int i1, .int i2, .int i3, .int (i4 + 1), v5, v6] [] (G, I, J) Q) : q_W β xs L (d + 1) 158 150 [.ref 59, .int i1, .int i2, .int i3, .int i4, v5, v6] [] (G, I, J) Q := by
  refine w_iinc (ls' := [.ref 59, .int i1, .int i2, .int i3, .int (i4 + 1), v5, v6]) f_158_150 rfl rfl ?_
  refine w_go f_158_153 ?_
  exact H
theorem g_159_0 {d : Nat} {G : am_G} {I : Nat → Nat → Int32} {J : Nat → Nat → Int64} {Q : am_O → am_H → Prop} (hR : q_RT G) (i1 : Int32) (i2 : Int32) (H : q_W β xs L (d + 1) 159 2 [.ref 59, .int i1, .int i2, .int 0, .retAddr 0] [] (G, I, J) Q) : q_W β xs L (d + 1) 159 0 [.ref 59, .int i1, .int i2, .retAddr 0, .retAddr 0] [] (G, I, J) Q := by
  refine w_ic f_159_0 ?_
  refine w_is (ls' := [.ref 59, .int i1, .int i2, .int 0, .retAddr 0]) f_159_1 rfl ?_
  exact H
theorem g_159_2 {d : Nat} {G : am_G} {I : Nat → Nat → Int32} {J : Nat → Nat → Int64} {Q : am_O → am_H → Prop} (hR : q_RT G) (i1 : Int32) (i2 : Int32) (i3 : Int32) (v4 : Value) (n4 : am_nl v4 = true) (H : (am_is i1 12 = true ∧ ((¬ i3 < (I 79 (i1).toNatClampNeg) → Q (.inl (some (.int (-1)))) (G, I, J)) ∧ (i3 < (I 79 (i1).toNatClampNeg) → (am_is ((12 * i1) + i3) 144 = true ∧ ((¬ (I 81 (((12 * i1) + i3)).toNatClampNeg) = i2 → q_W β xs L (d + 1) 159 90 [.ref 59, .int i1, .int i2, .int i3, .int ((12 * i1) + i3)] [] (G, I, J) Q) ∧ ((I 81 (((12 * i1) + i3)).toNatClampNeg) = i2 → (am_is ((12 * i1) + i3) 144 = true ∧ (((I 82 (((12 * i1) + i3)).toNatClampNeg) = (I 59 78) → (am_is ((12 * i1) + i3) 144 = true ∧ (((I 84 (((12 * i1) + i3)).toNatClampNeg) = (-1) → q_W β xs L (d + 1) 159 73 [.ref 59, .int i1, .int i2, .int i3, .int ((12 * i1) + i3)] [] (G, I, J) Q) ∧ (¬ (I 84 (((12 * i1) + i3)).toNatClampNeg) = (-1) → (am_is ((12 * i1) + i3) 144 = true ∧ q_W β xs L d 161 0 [.ref 59, .int (I 84 (((12 * i1) + i3)).toNatClampNeg), .retAddr 0, .retAddr 0, .retAddr 0] [] (G, I, J) (q_Ri (fun y1 G1 I1 J1 => ((¬ y1 = 0 → q_W β xs L (d + 1) 159 90 [.ref 59, .int i1, .int i2, .int i3, .int ((12 * i1) + i3)] [] (G1, I1, J1) Q) ∧ (y1 = 0 → q_W β xs L (d + 1) 159 73 [.ref 59, .int i1, .int i2, .int i3, .int ((12 * i1) + i3)] [] (G1, I1, J1) Q))) (fun x1 G1 I1 J1 => Q (.inr x1) (G1, I1, J1)))))))) ∧ (¬ (I 82 (((12 * i1) + i3)).toNatClampNeg) = (I 59 78) → q_W β xs L (d + 1) 159 90 [.ref 59, .int i1, .int i2, .int i3, .int ((12 * i1) + i3)] [] (G, I, J) Q)))))))))) : q_W β xs L (d + 1) 159 2 [.ref 59, .int i1, .int i2, .int i3, v4] [] (G, I, J) Q := by
  refine w_il f_159_2 rfl ?_
  refine w_al f_159_3 rfl ?_
  refine w_gr f_159_4 rfl (hR _ _ _ rfl) ?_
  refine w_il f_159_7 rfl ?_
  have hb := H.1
  have H := H.2
  refine w_ald f_159_8 rfl hb ?_
  refine w_icge f_159_9 (fun c => ?_) (fun c => ?_)
  · have H := H.1 c
    refine w_ic f_159_96 ?_
    exact w_reti f_159_97 H
  · have H := H.2 c
    refine w_ic f_159_12 ?_
    refine w_il f_159_14 rfl ?_
    refine w_bin f_159_15 ?_
    refine w_il f_159_16 rfl ?_
    refine w_bin f_159_17 ?_
    refine w_is (ls' := [.ref 59, .int i1, .int i2, .int i3, .int ((12 * i1) + i3)]) f_159_18 rfl ?_
    refine w_al f_159_20 rfl ?_
    refine w_gr f_159_21 rfl (hR _ _ _ rfl) ?_
    refine w_il f_159_24 rfl ?_
    have hb := H.1
    have H := H.2
    refine w_ald f_159_26 rfl hb ?_
    refine w_il f_159_27 rfl ?_
    refine w_icne f_159_28 (fun c => ?_) (fun c => ?_)
    · have H := H.1 c
      exact H
    · have H := H.2 c
      refine w_al f_159_31 rfl ?_
      refine w_gr f_159_32 rfl (hR _ _ _ rfl) ?_
      refine w_il f_159_35 rfl ?_
      have hb := H.1
      have H := H.2
      refine w_ald f_159_37 rfl hb ?_
      refine w_al f_159_38 rfl ?_
      refine w_gi f_159_39 rfl ?_
      refine w_iceq f_159_42 (fun c => ?_) (fun c => ?_)
      · have H := H.1 c
        refine w_al f_159_48 rfl ?_
        refine w_gr f_159_49 rfl (hR _ _ _ rfl) ?_
        refine w_il f_159_52 rfl ?_
        have hb := H.1
        have H := H.2
        refine w_ald f_159_54 rfl hb ?_
        refine w_ic f_159_55 ?_
        refine w_iceq f_159_56 (fun c => ?_) (fun c => ?_)
        · have H := H.1 c
          exact H
        · have H := H.2 c
          refine w_al f_159_59 rfl ?_
          refine w_al f_159_60 rfl ?_
          refine w_gr f_159_61 rfl (hR _ _ _ rfl) ?_
          refine w_il f_159_64 rfl ?_
          have hb := H.1
          have H := H.2
          refine w_ald f_159_66 rfl hb ?_
          refine w_inv (as := [.ref 59, .int (I 84 (((12 * i1) + i3)).toNatClampNeg), .retAddr 0, .retAddr 0, .retAddr 0]) (st' := []) f_159_67 rfl rfl rfl rfl rfl rfl H (k_i (fun y1 G1 I1 J1 H => ?_)) (x_n (fun _ => rfl) rfl (fun x h' h => h))
          refine w_ifne f_159_70 (fun c => ?_) (fun c => ?_)
          · have H := H.1 c
            exact H
          · have H := H.2 c
            exact H
      · have H := H.2 c
        refine w_go f_159_45 ?_
        exact H
theorem g_159_73 {d : Nat} {G : am_G} {I : Nat → Nat → Int32} {J : Nat → Nat → Int64} {Q : am_O → am_H → Prop} (hR : q_RT G) (i1 : Int32) (i2 : Int32) (i3 : Int32) (i4 : Int32) (H : (am_is i4 144 = true ∧ q_W β xs L d 161 0 [.ref 59, .int (I 83 (i4).toNatClampNeg), .retAddr 0, .retAddr 0, .retAddr 0] [] (G, I, J) (q_Ri (fun y1 G1 I1 J1 => ((y1 = 0 → q_W β xs L (d + 1) 159 90 [.ref 59, .int i1, .int i2, .int i3, .int i4] [] (G1, I1, J1) Q) ∧ (¬ y1 = 0 → Q (.inl (some (.int i4))) (G1, I1, J1)))) (fun x1 G1 I1 J1 => Q (.inr x1) (G1, I1, J1))))) : q_W β xs L (d + 1) 159 73 [.ref 59, .int i1, .int i2, .int i3, .int i4] [] (G, I, J) Q := by
  refine w_al f_159_73 rfl ?_
  refine w_al f_159_74 rfl ?_
  refine w_gr f_159_75 rfl (hR _ _ _ rfl) ?_
  refine w_il f_159_78 rfl ?_
  have hb := H.1
  have H := H.2
  refine w_ald f_159_80 rfl hb ?_
  refine w_inv (as := [.ref 59, .int (I 83 (i4).toNatClampNeg), .retAddr 0, .retAddr 0, .retAddr 0]) (st' := []) f_159_81 rfl rfl rfl rfl rfl rfl H (k_i (fun y1 G1 I1 J1 H => ?_)) (x_n (fun _ => rfl) rfl (fun x h' h => h))
  refine w_ifeq f_159_84 (fun c => ?_) (fun c => ?_)
  · have H := H.1 c
    exact H
  · have H := H.2 c
    refine w_il f_159_87 rfl ?_
    exact w_reti f_159_89 H
theorem g_159_90 {d : Nat} {G : am_G} {I : Nat → Nat → Int32} {J : Nat → Nat → Int64} {Q : am_O → am_H → Prop} (hR : q_RT G) (i1 : Int32) (i2 : Int32) (i3 : Int32) (i4 : Int32) (H : q_W β xs L (d + 1) 159 2 [.ref 59, .int i1, .int i2, .int (i3 + 1), .int i4] [] (G, I, J) Q) : q_W β xs L (d + 1) 159 90 [.ref 59, .int i1, .int i2, .int i3, .int i4] [] (G, I, J) Q := by
  refine w_iinc (ls' := [.ref 59, .int i1, .int i2, .int (i3 + 1), .int i4]) f_159_90 rfl rfl ?_
  refine w_go f_159_93 ?_
  exact H
theorem g_160_0 {d : Nat} {G : am_G} {I : Nat → Nat → Int32} {J : Nat → Nat → Int64} {Q : am_O → am_H → Prop} (hR : q_RT G) (i0 : Int32) (i1 : Int32) (i2 : Int32) (H : (∃ v : Nat, (q_sw 4 10 [44, 58, 72, 83, 94, 98, 102] 106) i0 = some v ∧ q_W β xs L d 160 v [.int i0, .int i1, .int i2] [] (G, I, J) Q)) : q_W β xs L d 160 0 [.int i0, .int i1, .int i2] [] (G, I, J) Q := by
  refine w_il f_160_0 rfl ?_
  obtain ⟨v, hg, H⟩ := H
  exact w_sw f_160_1 hg H
theorem g_160_44 {d : Nat} {G : am_G} {I : Nat → Nat → Int32} {J : Nat → Nat → Int64} {Q : am_O → am_H → Prop} (hR : q_RT G) (i0 : Int32) (i1 : Int32) (i2 : Int32) (H : ((i1 = 0 → q_W β xs L d 160 56 [.int i0, .int i1, .int i2] [] (G, I, J) Q) ∧ (¬ i1 = 0 → ((i2 = 0 → q_W β xs L d 160 56 [.int i0, .int i1, .int i2] [] (G, I, J) Q) ∧ (¬ i2 = 0 → q_W β xs L d 160 57 [.int i0, .int i1, .int i2] [.int 1] (G, I, J) Q))))) : q_W β xs L d 160 44 [.int i0, .int i1, .int i2] [] (G, I, J) Q := by
  refine w_il f_160_44 rfl ?_
  refine w_ifeq f_160_45 (fun c => ?_) (fun c => ?_)
  · have H := H.1 c
    exact H
  · have H := H.2 c
    refine w_il f_160_48 rfl ?_
    refine w_ifeq f_160_49 (fun c => ?_) (fun c => ?_)
    · have H := H.1 c
      exact H
    · have H := H.2 c
      refine w_ic f_160_52 ?_
      refine w_go f_160_53 ?_
      exact H
theorem g_160_56 {d : Nat} {G : am_G} {I : Nat → Nat → Int32} {J : Nat → Nat → Int64} {Q : am_O → am_H → Prop} (hR : q_RT G) (i0 : Int32) (i1 : Int32) (i2 : Int32) (H : q_W β xs L d 160 57 [.int i0, .int i1, .int i2] [.int 0] (G, I, J) Q) : q_W β xs L d 160 56 [.int i0, .int i1, .int i2] [] (G, I, J) Q := by
  refine w_ic f_160_56 ?_
  exact H
theorem g_160_57 {d : Nat} {G : am_G} {I : Nat → Nat → Int32} {J : Nat → Nat → Int64} {Q : am_O → am_H → Prop} (hR : q_RT G) (i0 : Int32) (i1 : Int32) (i2 : Int32) (is0 : Int32) (H : Q (.inl (some (.int is0))) (G, I, J)) : q_W β xs L d 160 57 [.int i0, .int i1, .int i2] [.int is0] (G, I, J) Q := by
  exact w_reti f_160_57 H
theorem g_160_58 {d : Nat} {G : am_G} {I : Nat → Nat → Int32} {J : Nat → Nat → Int64} {Q : am_O → am_H → Prop} (hR : q_RT G) (i0 : Int32) (i1 : Int32) (i2 : Int32) (H : ((¬ i1 = 0 → q_W β xs L d 160 66 [.int i0, .int i1, .int i2] [] (G, I, J) Q) ∧ (i1 = 0 → ((i2 = 0 → q_W β xs L d 160 71 [.int i0, .int i1, .int i2] [.int 0] (G, I, J) Q) ∧ (¬ i2 = 0 → q_W β xs L d 160 66 [.int i0, .int i1, .int i2] [] (G, I, J) Q))))) : q_W β xs L d 160 58 [.int i0, .int i1, .int i2] [] (G, I, J) Q := by
  refine w_il f_160_58 rfl ?_
  refine w_ifne f_160_59 (fun c => ?_) (fun c => ?_)
  · have H := H.1 c
    exact H
  · have H := H.2 c
    refine w_il f_160_62 rfl ?_
    refine w_ifeq f_160_63 (fun c => ?_) (fun c => ?_)
    · have H := H.1 c
      refine w_ic f_160_70 ?_
      exact H
    · have H := H.2 c
      exact H
theorem g_160_66 {d : Nat} {G : am_G} {I : Nat → Nat → Int32} {J : Nat → Nat → Int64} {Q : am_O → am_H → Prop} (hR : q_RT G) (i0 : Int32) (i1 : Int32) (i2 : Int32) (H : q_W β xs L d 160 71 [.int i0, .int i1, .int i2] [.int 1] (G, I, J) Q) : q_W β xs L d 160 66 [.int i0, .int i1, .int i2] [] (G, I, J) Q := by
  refine w_ic f_160_66 ?_
  refine w_go f_160_67 ?_
  exact H
theorem g_160_71 {d : Nat} {G : am_G} {I : Nat → Nat → Int32} {J : Nat → Nat → Int64} {Q : am_O → am_H → Prop} (hR : q_RT G) (i0 : Int32) (i1 : Int32) (i2 : Int32) (is0 : Int32) (H : Q (.inl (some (.int is0))) (G, I, J)) : q_W β xs L d 160 71 [.int i0, .int i1, .int i2] [.int is0] (G, I, J) Q := by
  exact w_reti f_160_71 H
theorem g_160_72 {d : Nat} {G : am_G} {I : Nat → Nat → Int32} {J : Nat → Nat → Int64} {Q : am_O → am_H → Prop} (hR : q_RT G) (i0 : Int32) (i1 : Int32) (i2 : Int32) (H : ((¬ i1 < i2 → q_W β xs L d 160 82 [.int i0, .int i1, .int i2] [.int 0] (G, I, J) Q) ∧ (i1 < i2 → q_W β xs L d 160 82 [.int i0, .int i1, .int i2] [.int 1] (G, I, J) Q))) : q_W β xs L d 160 72 [.int i0, .int i1, .int i2] [] (G, I, J) Q := by
  refine w_il f_160_72 rfl ?_
  refine w_il f_160_73 rfl ?_
  refine w_icge f_160_74 (fun c => ?_) (fun c => ?_)
  · have H := H.1 c
    refine w_ic f_160_81 ?_
    exact H
  · have H := H.2 c
    refine w_ic f_160_77 ?_
    refine w_go f_160_78 ?_
    exact H
theorem g_160_82 {d : Nat} {G : am_G} {I : Nat → Nat → Int32} {J : Nat → Nat → Int64} {Q : am_O → am_H → Prop} (hR : q_RT G) (i0 : Int32) (i1 : Int32) (i2 : Int32) (is0 : Int32) (H : Q (.inl (some (.int is0))) (G, I, J)) : q_W β xs L d 160 82 [.int i0, .int i1, .int i2] [.int is0] (G, I, J) Q := by
  exact w_reti f_160_82 H
theorem g_160_83 {d : Nat} {G : am_G} {I : Nat → Nat → Int32} {J : Nat → Nat → Int64} {Q : am_O → am_H → Prop} (hR : q_RT G) (i0 : Int32) (i1 : Int32) (i2 : Int32) (H : ((¬ i1 = i2 → q_W β xs L d 160 93 [.int i0, .int i1, .int i2] [.int 0] (G, I, J) Q) ∧ (i1 = i2 → q_W β xs L d 160 93 [.int i0, .int i1, .int i2] [.int 1] (G, I, J) Q))) : q_W β xs L d 160 83 [.int i0, .int i1, .int i2] [] (G, I, J) Q := by
  refine w_il f_160_83 rfl ?_
  refine w_il f_160_84 rfl ?_
  refine w_icne f_160_85 (fun c => ?_) (fun c => ?_)
  · have H := H.1 c
    refine w_ic f_160_92 ?_
    exact H
  · have H := H.2 c
    refine w_ic f_160_88 ?_
    refine w_go f_160_89 ?_
    exact H
theorem g_160_93 {d : Nat} {G : am_G} {I : Nat → Nat → Int32} {J : Nat → Nat → Int64} {Q : am_O → am_H → Prop} (hR : q_RT G) (i0 : Int32) (i1 : Int32) (i2 : Int32) (is0 : Int32) (H : Q (.inl (some (.int is0))) (G, I, J)) : q_W β xs L d 160 93 [.int i0, .int i1, .int i2] [.int is0] (G, I, J) Q := by
  exact w_reti f_160_93 H
theorem g_160_94 {d : Nat} {G : am_G} {I : Nat → Nat → Int32} {J : Nat → Nat → Int64} {Q : am_O → am_H → Prop} (hR : q_RT G) (i0 : Int32) (i1 : Int32) (i2 : Int32) (H : Q (.inl (some (.int (i1 + i2)))) (G, I, J)) : q_W β xs L d 160 94 [.int i0, .int i1, .int i2] [] (G, I, J) Q := by
  refine w_il f_160_94 rfl ?_
  refine w_il f_160_95 rfl ?_
  refine w_bin f_160_96 ?_
  exact w_reti f_160_97 H
theorem g_160_98 {d : Nat} {G : am_G} {I : Nat → Nat → Int32} {J : Nat → Nat → Int64} {Q : am_O → am_H → Prop} (hR : q_RT G) (i0 : Int32) (i1 : Int32) (i2 : Int32) (H : Q (.inl (some (.int (i1 - i2)))) (G, I, J)) : q_W β xs L d 160 98 [.int i0, .int i1, .int i2] [] (G, I, J) Q := by
  refine w_il f_160_98 rfl ?_
  refine w_il f_160_99 rfl ?_
  refine w_bin f_160_100 ?_
  exact w_reti f_160_101 H
theorem g_160_102 {d : Nat} {G : am_G} {I : Nat → Nat → Int32} {J : Nat → Nat → Int64} {Q : am_O → am_H → Prop} (hR : q_RT G) (i0 : Int32) (i1 : Int32) (i2 : Int32) (H : Q (.inl (some (.int (i1 * i2)))) (G, I, J)) : q_W β xs L d 160 102 [.int i0, .int i1, .int i2] [] (G, I, J) Q := by
  refine w_il f_160_102 rfl ?_
  refine w_il f_160_103 rfl ?_
  refine w_bin f_160_104 ?_
  exact w_reti f_160_105 H
theorem g_160_106 {d : Nat} {G : am_G} {I : Nat → Nat → Int32} {J : Nat → Nat → Int64} {Q : am_O → am_H → Prop} (hR : q_RT G) (i0 : Int32) (i1 : Int32) (i2 : Int32) (H : ((¬ i2 = 0 → ((i2 : Int32) ≠ 0 ∧ q_W β xs L d 160 117 [.int i0, .int i1, .int i2] [.int (i1 / i2)] (G, I, J) Q)) ∧ (i2 = 0 → q_W β xs L d 160 117 [.int i0, .int i1, .int i2] [.int 0] (G, I, J) Q))) : q_W β xs L d 160 106 [.int i0, .int i1, .int i2] [] (G, I, J) Q := by
  refine w_il f_160_106 rfl ?_
  refine w_ifne f_160_107 (fun c => ?_) (fun c => ?_)
  · have H := H.1 c
    refine w_il f_160_114 rfl ?_
    refine w_il f_160_115 rfl ?_
    have hb := H.1
    have H := H.2
    refine w_div f_160_116 hb ?_
    exact H
  · have H := H.2 c
    refine w_ic f_160_110 ?_
    refine w_go f_160_111 ?_
    exact H
theorem g_160_117 {d : Nat} {G : am_G} {I : Nat → Nat → Int32} {J : Nat → Nat → Int64} {Q : am_O → am_H → Prop} (hR : q_RT G) (i0 : Int32) (i1 : Int32) (i2 : Int32) (is0 : Int32) (H : Q (.inl (some (.int is0))) (G, I, J)) : q_W β xs L d 160 117 [.int i0, .int i1, .int i2] [.int is0] (G, I, J) Q := by
  exact w_reti f_160_117 H
theorem g_161_0 {d : Nat} {G : am_G} {I : Nat → Nat → Int32} {J : Nat → Nat → Int64} {Q : am_O → am_H → Prop} (hR : q_RT G) (i1 : Int32) (H : q_W β xs L (d + 1) 161 4 [.ref 59, .int i1, .int 0, .int i1, .retAddr 0] [] (G, I, J) Q) : q_W β xs L (d + 1) 161 0 [.ref 59, .int i1, .retAddr 0, .retAddr 0, .retAddr 0] [] (G, I, J) Q := by
  refine w_ic f_161_0 ?_
  refine w_is (ls' := [.ref 59, .int i1, .int 0, .retAddr 0, .retAddr 0]) f_161_1 rfl ?_
  refine w_il f_161_2 rfl ?_
  refine w_is (ls' := [.ref 59, .int i1, .int 0, .int i1, .retAddr 0]) f_161_3 rfl ?_
  exact H
theorem g_161_4 {d : Nat} {G : am_G} {I : Nat → Nat → Int32} {J : Nat → Nat → Int64} {Q : am_O → am_H → Prop} (hR : q_RT G) (i1 : Int32) (i2 : Int32) (i3 : Int32) (v4 : Value) (n4 : am_nl v4 = true) (H : (am_is i3 14600 = true ∧ (((I 86 (i3).toNatClampNeg) = 0 → (am_is 0 520 = true ∧ Q (.inl (some (.int (I 111 (0 : Int32).toNatClampNeg)))) (G, I, J))) ∧ (¬ (I 86 (i3).toNatClampNeg) = 0 → (am_is i3 14600 = true ∧ (((I 86 (i3).toNatClampNeg) = 1 → q_W β xs L (d + 1) 161 36 [.ref 59, .int i1, .int i2, .int (i3 + 1), .int (I 86 (i3).toNatClampNeg)] [] (G, I, J) Q) ∧ (¬ (I 86 (i3).toNatClampNeg) = 1 → ((¬ (I 86 (i3).toNatClampNeg) = 2 → ((¬ (I 86 (i3).toNatClampNeg) = 3 → (am_is ((i2 + (-1)) - 1) 520 = true ∧ (am_is (i2 + (-1)) 520 = true ∧ q_W β xs L d 160 0 [.int (I 86 (i3).toNatClampNeg), .int (I 111 (((i2 + (-1)) - 1)).toNatClampNeg), .int (I 111 (i2 + (-1)).toNatClampNeg)] [] (G, I, J) (q_Ri (fun y1 G1 I1 J1 => (am_is ((i2 + (-1)) - 1) 520 = true ∧ q_W β xs L (d + 1) 161 140 [.ref 59, .int i1, .int (i2 + (-1)), .int (i3 + 1), .int (I 86 (i3).toNatClampNeg)] [] (G1, (am_u I1 111 (((i2 + (-1)) - 1)).toNatClampNeg y1), J1) Q)) (fun x1 G1 I1 J1 => Q (.inr x1) (G1, I1, J1)))))) ∧ ((I 86 (i3).toNatClampNeg) = 3 → (am_is (i2 - 1) 520 = true ∧ ((¬ (I 111 ((i2 - 1)).toNatClampNeg) = 0 → q_W β xs L (d + 1) 161 106 [.ref 59, .int i1, .int i2, .int (i3 + 1), .int (I 86 (i3).toNatClampNeg)] [.int 0, .int (i2 - 1), .ref 111] (G, I, J) Q) ∧ ((I 111 ((i2 - 1)).toNatClampNeg) = 0 → q_W β xs L (d + 1) 161 106 [.ref 59, .int i1, .int i2, .int (i3 + 1), .int (I 86 (i3).toNatClampNeg)] [.int 1, .int (i2 - 1), .ref 111] (G, I, J) Q)))))) ∧ ((I 86 (i3).toNatClampNeg) = 2 → q_W β xs L (d + 1) 161 36 [.ref 59, .int i1, .int i2, .int (i3 + 1), .int (I 86 (i3).toNatClampNeg)] [] (G, I, J) Q))))))))) : q_W β xs L (d + 1) 161 4 [.ref 59, .int i1, .int i2, .int i3, v4] [] (G, I, J) Q := by
  refine w_al f_161_4 rfl ?_
  refine w_gr f_161_5 rfl (hR _ _ _ rfl) ?_
  refine w_il f_161_8 rfl ?_
  have hb := H.1
  have H := H.2
  refine w_ald f_161_9 rfl hb ?_
  refine w_ifeq f_161_10 (fun c => ?_) (fun c => ?_)
  · have H := H.1 c
    refine w_al f_161_143 rfl ?_
    refine w_gr f_161_144 rfl (hR _ _ _ rfl) ?_
    refine w_ic f_161_147 ?_
    have hb := H.1
    have H := H.2
    refine w_ald f_161_148 rfl hb ?_
    exact w_reti f_161_149 H
  · have H := H.2 c
    refine w_al f_161_13 rfl ?_
    refine w_gr f_161_14 rfl (hR _ _ _ rfl) ?_
    refine w_il f_161_17 rfl ?_
    have hb := H.1
    have H := H.2
    refine w_ald f_161_18 rfl hb ?_
    refine w_is (ls' := [.ref 59, .int i1, .int i2, .int i3, .int (I 86 (i3).toNatClampNeg)]) f_161_19 rfl ?_
    refine w_iinc (ls' := [.ref 59, .int i1, .int i2, .int (i3 + 1), .int (I 86 (i3).toNatClampNeg)]) f_161_21 rfl rfl ?_
    refine w_il f_161_24 rfl ?_
    refine w_ic f_161_26 ?_
    refine w_iceq f_161_27 (fun c => ?_) (fun c => ?_)
    · have H := H.1 c
      exact H
    · have H := H.2 c
      refine w_il f_161_30 rfl ?_
      refine w_ic f_161_32 ?_
      refine w_icne f_161_33 (fun c => ?_) (fun c => ?_)
      · have H := H.1 c
        refine w_il f_161_77 rfl ?_
        refine w_ic f_161_79 ?_
        refine w_icne f_161_80 (fun c => ?_) (fun c => ?_)
        · have H := H.1 c
          refine w_iinc (ls' := [.ref 59, .int i1, .int (i2 + (-1)), .int (i3 + 1), .int (I 86 (i3).toNatClampNeg)]) f_161_110 rfl rfl ?_
          refine w_al f_161_113 rfl ?_
          refine w_gr f_161_114 rfl (hR _ _ _ rfl) ?_
          refine w_il f_161_117 rfl ?_
          refine w_ic f_161_118 ?_
          refine w_bin f_161_119 ?_
          refine w_il f_161_120 rfl ?_
          refine w_al f_161_122 rfl ?_
          refine w_gr f_161_123 rfl (hR _ _ _ rfl) ?_
          refine w_il f_161_126 rfl ?_
          refine w_ic f_161_127 ?_
          refine w_bin f_161_128 ?_
          have hb := H.1
          have H := H.2
          refine w_ald f_161_129 rfl hb ?_
          refine w_al f_161_130 rfl ?_
          refine w_gr f_161_131 rfl (hR _ _ _ rfl) ?_
          refine w_il f_161_134 rfl ?_
          have hb := H.1
          have H := H.2
          refine w_ald f_161_135 rfl hb ?_
          refine w_invs (as := [.int (I 86 (i3).toNatClampNeg), .int (I 111 (((i2 + (-1)) - 1)).toNatClampNeg), .int (I 111 (i2 + (-1)).toNatClampNeg)]) (st' := [.int ((i2 + (-1)) - 1), .ref 111]) f_161_136 rfl rfl rfl rfl rfl H (k_i (fun y1 G1 I1 J1 H => ?_)) (x_n (fun _ => rfl) rfl (fun x h' h => h))
          have hb := H.1
          have H := H.2
          refine w_ast f_161_139 rfl hb ?_
          exact H
        · have H := H.2 c
          refine w_al f_161_83 rfl ?_
          refine w_gr f_161_84 rfl (hR _ _ _ rfl) ?_
          refine w_il f_161_87 rfl ?_
          refine w_ic f_161_88 ?_
          refine w_bin f_161_89 ?_
          refine w_al f_161_90 rfl ?_
          refine w_gr f_161_91 rfl (hR _ _ _ rfl) ?_
          refine w_il f_161_94 rfl ?_
          refine w_ic f_161_95 ?_
          refine w_bin f_161_96 ?_
          have hb := H.1
          have H := H.2
          refine w_ald f_161_97 rfl hb ?_
          refine w_ifne f_161_98 (fun c => ?_) (fun c => ?_)
          · have H := H.1 c
            refine w_ic f_161_105 ?_
            exact H
          · have H := H.2 c
            refine w_ic f_161_101 ?_
            refine w_go f_161_102 ?_
            exact H
      · have H := H.2 c
        exact H
theorem g_161_36 {d : Nat} {G : am_G} {I : Nat → Nat → Int32} {J : Nat → Nat → Int64} {Q : am_O → am_H → Prop} (hR : q_RT G) (i1 : Int32) (i2 : Int32) (i3 : Int32) (i4 : Int32) (H : ((¬ i4 = 1 → (am_is i3 14600 = true ∧ (am_is (I 86 (i3).toNatClampNeg) 13 = true ∧ q_W β xs L (d + 1) 161 67 [.ref 59, .int i1, .int i2, .int i3, .int i4] [.int (I 110 ((I 86 (i3).toNatClampNeg)).toNatClampNeg), .int i2, .ref 111] (G, I, J) Q))) ∧ (i4 = 1 → (am_is i3 14600 = true ∧ q_W β xs L (d + 1) 161 67 [.ref 59, .int i1, .int i2, .int i3, .int i4] [.int (I 86 (i3).toNatClampNeg), .int i2, .ref 111] (G, I, J) Q)))) : q_W β xs L (d + 1) 161 36 [.ref 59, .int i1, .int i2, .int i3, .int i4] [] (G, I, J) Q := by
  refine w_al f_161_36 rfl ?_
  refine w_gr f_161_37 rfl (hR _ _ _ rfl) ?_
  refine w_il f_161_40 rfl ?_
  refine w_il f_161_41 rfl ?_
  refine w_ic f_161_43 ?_
  refine w_icne f_161_44 (fun c => ?_) (fun c => ?_)
  · have H := H.1 c
    refine w_al f_161_56 rfl ?_
    refine w_gr f_161_57 rfl (hR _ _ _ rfl) ?_
    refine w_al f_161_60 rfl ?_
    refine w_gr f_161_61 rfl (hR _ _ _ rfl) ?_
    refine w_il f_161_64 rfl ?_
    have hb := H.1
    have H := H.2
    refine w_ald f_161_65 rfl hb ?_
    have hb := H.1
    have H := H.2
    refine w_ald f_161_66 rfl hb ?_
    exact H
  · have H := H.2 c
    refine w_al f_161_47 rfl ?_
    refine w_gr f_161_48 rfl (hR _ _ _ rfl) ?_
    refine w_il f_161_51 rfl ?_
    have hb := H.1
    have H := H.2
    refine w_ald f_161_52 rfl hb ?_
    refine w_go f_161_53 ?_
    exact H
theorem g_161_67 {d : Nat} {G : am_G} {I : Nat → Nat → Int32} {J : Nat → Nat → Int64} {Q : am_O → am_H → Prop} (hR : q_RT G) (i1 : Int32) (i2 : Int32) (i3 : Int32) (i4 : Int32) (is0 : Int32) (is1 : Int32) (H : (am_is is1 520 = true ∧ q_W β xs L (d + 1) 161 140 [.ref 59, .int i1, .int (i2 + 1), .int (i3 + 1), .int i4] [] (G, (am_u I 111 (is1).toNatClampNeg is0), J) Q)) : q_W β xs L (d + 1) 161 67 [.ref 59, .int i1, .int i2, .int i3, .int i4] [.int is0, .int is1, .ref 111] (G, I, J) Q := by
  have hb := H.1
  have H := H.2
  refine w_ast f_161_67 rfl hb ?_
  refine w_iinc (ls' := [.ref 59, .int i1, .int i2, .int (i3 + 1), .int i4]) f_161_68 rfl rfl ?_
  refine w_iinc (ls' := [.ref 59, .int i1, .int (i2 + 1), .int (i3 + 1), .int i4]) f_161_71 rfl rfl ?_
  refine w_go f_161_74 ?_
  exact H
theorem g_161_106 {d : Nat} {G : am_G} {I : Nat → Nat → Int32} {J : Nat → Nat → Int64} {Q : am_O → am_H → Prop} (hR : q_RT G) (i1 : Int32) (i2 : Int32) (i3 : Int32) (i4 : Int32) (is0 : Int32) (is1 : Int32) (H : (am_is is1 520 = true ∧ q_W β xs L (d + 1) 161 140 [.ref 59, .int i1, .int i2, .int i3, .int i4] [] (G, (am_u I 111 (is1).toNatClampNeg is0), J) Q)) : q_W β xs L (d + 1) 161 106 [.ref 59, .int i1, .int i2, .int i3, .int i4] [.int is0, .int is1, .ref 111] (G, I, J) Q := by
  have hb := H.1
  have H := H.2
  refine w_ast f_161_106 rfl hb ?_
  refine w_go f_161_107 ?_
  exact H
theorem g_161_140 {d : Nat} {G : am_G} {I : Nat → Nat → Int32} {J : Nat → Nat → Int64} {Q : am_O → am_H → Prop} (hR : q_RT G) (i1 : Int32) (i2 : Int32) (i3 : Int32) (i4 : Int32) (H : q_W β xs L (d + 1) 161 4 [.ref 59, .int i1, .int i2, .int i3, .int i4] [] (G, I, J) Q) : q_W β xs L (d + 1) 161 140 [.ref 59, .int i1, .int i2, .int i3, .int i4] [] (G, I, J) Q := by
  refine w_go f_161_140 ?_
  exact H
theorem g_162_0 {d : Nat} {G : am_G} {I : Nat → Nat → Int32} {J : Nat → Nat → Int64} {Q : am_O → am_H → Prop} (hR : q_RT G) (i1 : Int32) (i2 : Int32) (i3 : Int32) (H : (am_is i3 144 = true ∧ ((¬ (I 81 (i3).toNatClampNeg) = 0 → q_W β xs L (d + 1) 162 14 [.ref 59, .int i1, .int i2, .int i3, .retAddr 0, .retAddr 0, .retAddr 0] [.int 0] (G, I, J) Q) ∧ ((I 81 (i3).toNatClampNeg) = 0 → q_W β xs L (d + 1) 162 14 [.ref 59, .int i1, .int i2, .int i3, .retAddr 0, .retAddr 0, .retAddr 0] [.int 1] (G, I, J) Q)))) : q_W β xs L (d + 1) 162 0 [.ref 59, .int i1, .int i2, .int i3, .retAddr 0, .retAddr 0, .retAddr 0] [] (G, I, J) Q := by
  refine w_al f_162_0 rfl ?_
  refine w_gr f_162_1 rfl (hR _ _ _ rfl) ?_
  refine w_il f_162_4 rfl ?_
  have hb := H.1
  have H := H.2
  refine w_ald f_162_5 rfl hb ?_
  refine w_ifne f_162_6 (fun c => ?_) (fun c => ?_)
  · have H := H.1 c
    refine w_ic f_162_13 ?_
    exact H
  · have H := H.2 c
    refine w_ic f_162_9 ?_
    refine w_go f_162_10 ?_
    exact H
theorem g_162_14 {d : Nat} {G : am_G} {I : Nat → Nat → Int32} {J : Nat → Nat → Int64} {Q : am_O → am_H → Prop} (hR : q_RT G) (i1 : Int32) (i2 : Int32) (i3 : Int32) (is0 : Int32) (H : ((is0 = 0 → q_W β xs L d 165 0 [.ref 59, .int i1, .int i2] [] (G, I, J) (q_Rv (fun G1 I1 J1 => q_W β xs L (d + 1) 162 44 [.ref 59, .int i1, .int i2, .int i3, .int is0, .retAddr 0, .retAddr 0] [] (G1, I1, J1) Q) (fun x1 G1 I1 J1 => Q (.inr x1) (G1, I1, J1)))) ∧ (¬ is0 = 0 → q_W β xs L d 163 0 [.ref 59, .int i1, .int i2] [] (G, I, J) (q_Ri (fun y2 G2 I2 J2 => q_W β xs L d 164 0 [.ref 59, .int i1, .int i2, .int i3, .int y2, .int 0] [] (G2, I2, J2) (q_Rv (fun G3 I3 J3 => q_W β xs L (d + 1) 162 44 [.ref 59, .int i1, .int i2, .int i3, .int is0, .retAddr 0, .retAddr 0] [] (G3, I3, J3) Q) (fun x3 G3 I3 J3 => Q (.inr x3) (G3, I3, J3)))) (fun x2 G2 I2 J2 => Q (.inr x2) (G2, I2, J2)))))) : q_W β xs L (d + 1) 162 14 [.ref 59, .int i1, .int i2, .int i3, .retAddr 0, .retAddr 0, .retAddr 0] [.int is0] (G, I, J) Q := by
  refine w_is (ls' := [.ref 59, .int i1, .int i2, .int i3, .int is0, .retAddr 0, .retAddr 0]) f_162_14 rfl ?_
  refine w_il f_162_16 rfl ?_
  refine w_ifeq f_162_18 (fun c => ?_) (fun c => ?_)
  · have H := H.1 c
    refine w_al f_162_38 rfl ?_
    refine w_il f_162_39 rfl ?_
    refine w_il f_162_40 rfl ?_
    refine w_inv (as := [.ref 59, .int i1, .int i2]) (st' := []) f_162_41 rfl rfl rfl rfl rfl rfl H (k_v (fun G1 I1 J1 H => ?_)) (x_n (fun _ => rfl) rfl (fun x h' h => h))
    exact H
  · have H := H.2 c
    refine w_al f_162_21 rfl ?_
    refine w_il f_162_22 rfl ?_
    refine w_il f_162_23 rfl ?_
    refine w_il f_162_24 rfl ?_
    refine w_al f_162_25 rfl ?_
    refine w_il f_162_26 rfl ?_
    refine w_il f_162_27 rfl ?_
    refine w_inv (as := [.ref 59, .int i1, .int i2]) (st' := [.int i3, .int i2, .int i1, .ref 59]) f_162_28 rfl rfl rfl rfl rfl rfl H (k_i (fun y2 G2 I2 J2 H => ?_)) (x_n (fun _ => rfl) rfl (fun x h' h => h))
    refine w_ic f_162_31 ?_
    refine w_inv (as := [.ref 59, .int i1, .int i2, .int i3, .int y2, .int 0]) (st' := []) f_162_32 rfl rfl rfl rfl rfl rfl H (k_v (fun G3 I3 J3 H => ?_)) (x_n (fun _ => rfl) rfl (fun x h' h => h))
    refine w_go f_162_35 ?_
    exact H
theorem g_162_44 {d : Nat} {G : am_G} {I : Nat → Nat → Int32} {J : Nat → Nat → Int64} {Q : am_O → am_H → Prop} (hR : q_RT G) (i1 : Int32) (i2 : Int32) (i3 : Int32) (i4 : Int32) (H : q_W β xs L (d + 1) 162 47 [.ref 59, .int i1, .int i2, .int i3, .int i4, .int 0, .retAddr 0] [] (G, I, J) Q) : q_W β xs L (d + 1) 162 44 [.ref 59, .int i1, .int i2, .int i3, .int i4, .retAddr 0, .retAddr 0] [] (G, I, J) Q := by
  refine w_ic f_162_44 ?_
  refine w_is (ls' := [.ref 59, .int i1, .int i2, .int i3, .int i4, .int 0, .retAddr 0]) f_162_45 rfl ?_
  exact H
theorem g_162_47 {d : Nat} {G : am_G} {I : Nat → Nat → Int32} {J : Nat → Nat → Int64} {Q : am_O → am_H → Prop} (hR : q_RT G) (i1 : Int32) (i2 : Int32) (i3 : Int32) (i4 : Int32) (i5 : Int32) (v6 : Value) (n6 : am_nl v6 = true) (H : ((¬ i5 < (I 59 5) → q_W β xs L (d + 1) 162 202 [.ref 59, .int i1, .int i2, .int i3, .int i4, .int i5, v6] [] (G, I, J) Q) ∧ (i5 < (I 59 5) → (am_is i3 144 = true ∧ (((I 85 (i3).toNatClampNeg) = (-1) → q_W β xs L (d + 1) 162 202 [.ref 59, .int i1, .int i2, .int i3, .int i4, .int i5, v6] [] (G, I, J) Q) ∧ (¬ (I 85 (i3).toNatClampNeg) = (-1) → (am_is i5 20 = true ∧ (((I 62 (i5).toNatClampNeg) = i1 → q_W β xs L (d + 1) 162 99 [.ref 59, .int i1, .int i2, .int i3, .int i4, .int i5, v6] [] (G, I, J) Q) ∧ (¬ (I 62 (i5).toNatClampNeg) = i1 → (am_is i5 20 = true ∧ ((¬ (I 62 (i5).toNatClampNeg) = (-1) → q_W β xs L (d + 1) 162 103 [.ref 59, .int i1, .int i2, .int i3, .int i4, .int i5, v6] [] (G, I, J) Q) ∧ ((I 62 (i5).toNatClampNeg) = (-1) → (am_is i5 20 = true ∧ ((¬ (I 63 (i5).toNatClampNeg) = i1 → q_W β xs L (d + 1) 162 103 [.ref 59, .int i1, .int i2, .int i3, .int i4, .int i5, v6] [] (G, I, J) Q) ∧ ((I 63 (i5).toNatClampNeg) = i1 → q_W β xs L (d + 1) 162 99 [.ref 59, .int i1, .int i2, .int i3, .int i4, .int i5, v6] [] (G, I, J) Q))))))))))))))) : q_W β xs L (d + 1) 162 47 [.ref 59, .int i1, .int i2, .int i3, .int i4, .int i5, v6] [] (G, I, J) Q := by
  refine w_il f_162_47 rfl ?_
  refine w_al f_162_49 rfl ?_
  refine w_gi f_162_50 rfl ?_
  refine w_icge f_162_53 (fun c => ?_) (fun c => ?_)
  · have H := H.1 c
    exact H
  · have H := H.2 c
    refine w_al f_162_56 rfl ?_
    refine w_gr f_162_57 rfl (hR _ _ _ rfl) ?_
    refine w_il f_162_60 rfl ?_
    have hb := H.1
    have H := H.2
    refine w_ald f_162_61 rfl hb ?_
    refine w_ic f_162_62 ?_
    refine w_iceq f_162_63 (fun c => ?_) (fun c => ?_)
    · have H := H.1 c
      exact H
    · have H := H.2 c
      refine w_al f_162_66 rfl ?_
      refine w_gr f_162_67 rfl (hR _ _ _ rfl) ?_
      refine w_il f_162_70 rfl ?_
      have hb := H.1
      have H := H.2
      refine w_ald f_162_72 rfl hb ?_
      refine w_il f_162_73 rfl ?_
      refine w_iceq f_162_74 (fun c => ?_) (fun c => ?_)
      · have H := H.1 c
        exact H
      · have H := H.2 c
        refine w_al f_162_77 rfl ?_
        refine w_gr f_162_78 rfl (hR _ _ _ rfl) ?_
        refine w_il f_162_81 rfl ?_
        have hb := H.1
        have H := H.2
        refine w_ald f_162_83 rfl hb ?_
        refine w_ic f_162_84 ?_
        refine w_icne f_162_85 (fun c => ?_) (fun c => ?_)
        · have H := H.1 c
          exact H
        · have H := H.2 c
          refine w_al f_162_88 rfl ?_
          refine w_gr f_162_89 rfl (hR _ _ _ rfl) ?_
          refine w_il f_162_92 rfl ?_
          have hb := H.1
          have H := H.2
          refine w_ald f_162_94 rfl hb ?_
          refine w_il f_162_95 rfl ?_
          refine w_icne f_162_96 (fun c => ?_) (fun c => ?_)
          · have H := H.1 c
            exact H
          · have H := H.2 c
            exact H
theorem g_162_99 {d : Nat} {G : am_G} {I : Nat → Nat → Int32} {J : Nat → Nat → Int64} {Q : am_O → am_H → Prop} (hR : q_RT G) (i1 : Int32) (i2 : Int32) (i3 : Int32) (i4 : Int32) (i5 : Int32) (v6 : Value) (n6 : am_nl v6 = true) (H : q_W β xs L (d + 1) 162 104 [.ref 59, .int i1, .int i2, .int i3, .int i4, .int i5, v6] [.int 1] (G, I, J) Q) : q_W β xs L (d + 1) 162 99 [.ref 59, .int i1, .int i2, .int i3, .int i4, .int i5, v6] [] (G, I, J) Q := by
  refine w_ic f_162_99 ?_
  refine w_go f_162_100 ?_
  exact H
theorem g_162_103 {d : Nat} {G : am_G} {I : Nat → Nat → Int32} {J : Nat → Nat → Int64} {Q : am_O → am_H → Prop} (hR : q_RT G) (i1 : Int32) (i2 : Int32) (i3 : Int32) (i4 : Int32) (i5 : Int32) (v6 : Value) (n6 : am_nl v6 = true) (H : q_W β xs L (d + 1) 162 104 [.ref 59, .int i1, .int i2, .int i3, .int i4, .int i5, v6] [.int 0] (G, I, J) Q) : q_W β xs L (d + 1) 162 103 [.ref 59, .int i1, .int i2, .int i3, .int i4, .int i5, v6] [] (G, I, J) Q := by
  refine w_ic f_162_103 ?_
  exact H
theorem g_162_104 {d : Nat} {G : am_G} {I : Nat → Nat → Int32} {J : Nat → Nat → Int64} {Q : am_O → am_H → Prop} (hR : q_RT G) (i1 : Int32) (i2 : Int32) (i3 : Int32) (i4 : Int32) (i5 : Int32) (v6 : Value) (is0 : Int32) (n6 : am_nl v6 = true) (H : ((is0 = 0 → q_W β xs L (d + 1) 162 196 [.ref 59, .int i1, .int i2, .int i3, .int i4, .int i5, .int is0] [] (G, I, J) Q) ∧ (¬ is0 = 0 → (am_is i5 20 = true ∧ (((I 92 (i5).toNatClampNeg) = (-1) → q_W β xs L (d + 1) 162 196 [.ref 59, .int i1, .int i2, .int i3, .int i4, .int i5, .int is0] [] (G, I, J) Q) ∧ (¬ (I 92 (i5).toNatClampNeg) = (-1) → (am_is i5 20 = true ∧ ((365 : Int32) ≠ 0 ∧ (am_is i3 144 = true ∧ ((¬ (((I 59 76) - (I 92 (i5).toNatClampNeg)) / 365) < (I 85 (i3).toNatClampNeg) → q_W β xs L (d + 1) 162 196 [.ref 59, .int i1, .int i2, .int i3, .int i4, .int i5, .int is0] [] (G, I, J) Q) ∧ ((((I 59 76) - (I 92 (i5).toNatClampNeg)) / 365) < (I 85 (i3).toNatClampNeg) → q_W β xs L d 156 0 [.ref 59, .int i5, .int i2] [] (G, I, J) (q_Ri (fun y1 G1 I1 J1 => (q_RT G1 ∧ ((¬ y1 = i4 → ((i4 = 0 → q_W β xs L d 165 0 [.ref 59, .int i5, .int i2] [] (G1, I1, J1) (q_Rv (fun G2 I2 J2 => q_W β xs L (d + 1) 162 196 [.ref 59, .int i1, .int i2, .int i3, .int i4, .int i5, .int is0] [] (G2, I2, J2) Q) (fun x2 G2 I2 J2 => Q (.inr x2) (G2, I2, J2)))) ∧ (¬ i4 = 0 → (am_is ((5 * i1) + i2) 100 = true ∧ q_W β xs L d 164 0 [.ref 59, .int i5, .int i2, .int i3, .int (I1 99 (((5 * i1) + i2)).toNatClampNeg), .int 1] [] (G1, I1, J1) (q_Rv (fun G3 I3 J3 => q_W β xs L (d + 1) 162 196 [.ref 59, .int i1, .int i2, .int i3, .int i4, .int i5, .int is0] [] (G3, I3, J3) Q) (fun x3 G3 I3 J3 => Q (.inr x3) (G3, I3, J3))))))) ∧ (y1 = i4 → q_W β xs L (d + 1) 162 196 [.ref 59, .int i1, .int i2, .int i3, .int i4, .int i5, .int is0] [] (G1, I1, J1) Q)))) (fun x1 G1 I1 J1 => Q (.inr x1) (G1, I1, J1)))))))))))))) : q_W β xs L (d + 1) 162 104 [.ref 59, .int i1, .int i2, .int i3, .int i4, .int i5, v6] [.int is0] (G, I, J) Q := by
  refine w_is (ls' := [.ref 59, .int i1, .int i2, .int i3, .int i4, .int i5, .int is0]) f_162_104 rfl ?_
  refine w_il f_162_106 rfl ?_
  refine w_ifeq f_162_108 (fun c => ?_) (fun c => ?_)
  · have H := H.1 c
    exact H
  · have H := H.2 c
    refine w_al f_162_111 rfl ?_
    refine w_gr f_162_112 rfl (hR _ _ _ rfl) ?_
    refine w_il f_162_115 rfl ?_
    have hb := H.1
    have H := H.2
    refine w_ald f_162_117 rfl hb ?_
    refine w_ic f_162_118 ?_
    refine w_iceq f_162_119 (fun c => ?_) (fun c => ?_)
    · have H := H.1 c
      exact H
    · have H := H.2 c
      refine w_al f_162_122 rfl ?_
      refine w_gi f_162_123 rfl ?_
      refine w_al f_162_126 rfl ?_
      refine w_gr f_162_127 rfl (hR _ _ _ rfl) ?_
      refine w_il f_162_130 rfl ?_
      have hb := H.1
      have H := H.2
      refine w_ald f_162_132 rfl hb ?_
      refine w_bin f_162_133 ?_
      refine w_ic f_162_134 ?_
      have hb := H.1
      have H := H.2
      refine w_div f_162_137 hb ?_
      refine w_al f_162_138 rfl ?_
      refine w_gr f_162_139 rfl (hR _ _ _ rfl) ?_
      refine w_il f_162_142 rfl ?_
      have hb := H.1
      have H := H.2
      refine w_ald f_162_143 rfl hb ?_
      refine w_icge f_162_144 (fun c => ?_) (fun c => ?_)
      · have H := H.1 c
        exact H
      · have H := H.2 c
        refine w_al f_162_147 rfl ?_
        refine w_il f_162_148 rfl ?_
        refine w_il f_162_150 rfl ?_
        refine w_inv (as := [.ref 59, .int i5, .int i2]) (st' := []) f_162_151 rfl rfl rfl rfl rfl rfl H (k_i (fun y1 G1 I1 J1 H => ?_)) (x_n (fun _ => rfl) rfl (fun x h' h => h))
        have hR1 := H.1
        have H := H.2
        refine w_il f_162_154 rfl ?_
        refine w_icne f_162_156 (fun c => ?_) (fun c => ?_)
        · have H := H.1 c
          refine w_il f_162_162 rfl ?_
          refine w_ifeq f_162_164 (fun c => ?_) (fun c => ?_)
          · have H := H.1 c
            refine w_al f_162_189 rfl ?_
            refine w_il f_162_190 rfl ?_
            refine w_il f_162_192 rfl ?_
            refine w_inv (as := [.ref 59, .int i5, .int i2]) (st' := []) f_162_193 rfl rfl rfl rfl rfl rfl H (k_v (fun G2 I2 J2 H => ?_)) (x_n (fun _ => rfl) rfl (fun x h' h => h))
            exact H
          · have H := H.2 c
            refine w_al f_162_167 rfl ?_
            refine w_il f_162_168 rfl ?_
            refine w_il f_162_170 rfl ?_
            refine w_il f_162_171 rfl ?_
            refine w_al f_162_172 rfl ?_
            refine w_gr f_162_173 rfl (hR1 _ _ _ rfl) ?_
            refine w_ic f_162_176 ?_
            refine w_il f_162_177 rfl ?_
            refine w_bin f_162_178 ?_
            refine w_il f_162_179 rfl ?_
            refine w_bin f_162_180 ?_
            have hb := H.1
            have H := H.2
            refine w_ald f_162_181 rfl hb ?_
            refine w_ic f_162_182 ?_
            refine w_inv (as := [.ref 59, .int i5, .int i2, .int i3, .int (I1 99 (((5 * i1) + i2)).toNatClampNeg), .int 1]) (st' := []) f_162_183 rfl rfl rfl rfl rfl rfl H (k_v (fun G3 I3 J3 H => ?_)) (x_n (fun _ => rfl) rfl (fun x h' h => h))
            refine w_go f_162_186 ?_
            exact H
        · have H := H.2 c
          refine w_go f_162_159 ?_
          exact H
theorem g_162_196 {d : Nat} {G : am_G} {I : Nat → Nat → Int32} {J : Nat → Nat → Int64} {Q : am_O → am_H → Prop} (hR : q_RT G) (i1 : Int32) (i2 : Int32) (i3 : Int32) (i4 : Int32) (i5 : Int32) (i6 : Int32) (H : q_W β xs L (d + 1) 162 47 [.ref 59, .int i1, .int i2, .int i3, .int i4, .int (i5 + 1), .int i6] [] (G, I, J) Q) : q_W β xs L (d + 1) 162 196 [.ref 59, .int i1, .int i2, .int i3, .int i4, .int i5, .int i6] [] (G, I, J) Q := by
  refine w_iinc (ls' := [.ref 59, .int i1, .int i2, .int i3, .int i4, .int (i5 + 1), .int i6]) f_162_196 rfl rfl ?_
  refine w_go f_162_199 ?_
  exact H
theorem g_162_202 {d : Nat} {G : am_G} {I : Nat → Nat → Int32} {J : Nat → Nat → Int64} {Q : am_O → am_H → Prop} (hR : q_RT G) (i1 : Int32) (i2 : Int32) (i3 : Int32) (i4 : Int32) (i5 : Int32) (v6 : Value) (n6 : am_nl v6 = true) (H : Q (.inl none) (G, I, J)) : q_W β xs L (d + 1) 162 202 [.ref 59, .int i1, .int i2, .int i3, .int i4, .int i5, v6] [] (G, I, J) Q := by
  exact w_ret0 f_162_202 H
theorem g_163_0 {d : Nat} {G : am_G} {I : Nat → Nat → Int32} {J : Nat → Nat → Int64} {Q : am_O → am_H → Prop} (hR : q_RT G) (i1 : Int32) (i2 : Int32) (H : ((¬ (I 59 78) = 8 → ((¬ (I 59 78) = 9 → q_W β xs L (d + 1) 163 105 [.ref 59, .int i1, .int i2] [] (G, I, J) Q) ∧ ((I 59 78) = 9 → ((¬ (((I 59 82) >>> (i2 &&& 31)) &&& 1) = 1 → q_W β xs L (d + 1) 163 105 [.ref 59, .int i1, .int i2] [] (G, I, J) Q) ∧ ((((I 59 82) >>> (i2 &&& 31)) &&& 1) = 1 → (am_is i2 5 = true ∧ q_W β xs L (d + 1) 163 106 [.ref 59, .int i1, .int i2] [.int (I 113 (i2).toNatClampNeg)] (G, I, J) Q)))))) ∧ ((I 59 78) = 8 → (am_is i1 20 = true ∧ q_W β xs L d 156 0 [.ref 59, .int (I 62 (i1).toNatClampNeg), .int i2] [] (G, I, J) (q_Ri (fun y1 G1 I1 J1 => (q_RT G1 ∧ ((y1 = 0 → (am_is i1 20 = true ∧ q_W β xs L d 156 0 [.ref 59, .int (I1 63 (i1).toNatClampNeg), .int i2] [] (G1, I1, J1) (q_Ri (fun y2 G2 I2 J2 => (q_RT G2 ∧ ((y2 = 0 → q_W β xs L (d + 1) 163 74 [.ref 59, .int i1, .int i2] [.int (-1)] (G2, I2, J2) Q) ∧ (¬ y2 = 0 → (am_is i1 20 = true ∧ (am_is ((5 * (I2 63 (i1).toNatClampNeg)) + i2) 100 = true ∧ q_W β xs L (d + 1) 163 74 [.ref 59, .int i1, .int i2] [.int (I2 99 (((5 * (I2 63 (i1).toNatClampNeg)) + i2)).toNatClampNeg)] (G2, I2, J2) Q)))))) (fun x2 G2 I2 J2 => Q (.inr x2) (G2, I2, J2))))) ∧ (¬ y1 = 0 → (am_is i1 20 = true ∧ (am_is ((5 * (I1 62 (i1).toNatClampNeg)) + i2) 100 = true ∧ q_W β xs L (d + 1) 163 74 [.ref 59, .int i1, .int i2] [.int (I1 99 (((5 * (I1 62 (i1).toNatClampNeg)) + i2)).toNatClampNeg)] (G1, I1, J1) Q)))))) (fun x1 G1 I1 J1 => Q (.inr x1) (G1, I1, J1))))))) : q_W β xs L (d + 1) 163 0 [.ref 59, .int i1, .int i2] [] (G, I, J) Q := by
  refine w_al f_163_0 rfl ?_
  refine w_gi f_163_1 rfl ?_
  refine w_ic f_163_4 ?_
  refine w_icne f_163_6 (fun c => ?_) (fun c => ?_)
  · have H := H.1 c
    refine w_al f_163_75 rfl ?_
    refine w_gi f_163_76 rfl ?_
    refine w_ic f_163_79 ?_
    refine w_icne f_163_81 (fun c => ?_) (fun c => ?_)
    · have H := H.1 c
      exact H
    · have H := H.2 c
      refine w_al f_163_84 rfl ?_
      refine w_gi f_163_85 rfl ?_
      refine w_il f_163_88 rfl ?_
      refine w_bin f_163_89 ?_
      refine w_ic f_163_90 ?_
      refine w_bin f_163_91 ?_
      refine w_ic f_163_92 ?_
      refine w_icne f_163_93 (fun c => ?_) (fun c => ?_)
      · have H := H.1 c
        exact H
      · have H := H.2 c
        refine w_al f_163_96 rfl ?_
        refine w_gr f_163_97 rfl (hR _ _ _ rfl) ?_
        refine w_il f_163_100 rfl ?_
        have hb := H.1
        have H := H.2
        refine w_ald f_163_101 rfl hb ?_
        refine w_go f_163_102 ?_
        exact H
  · have H := H.2 c
    refine w_al f_163_9 rfl ?_
    refine w_al f_163_10 rfl ?_
    refine w_gr f_163_11 rfl (hR _ _ _ rfl) ?_
    refine w_il f_163_14 rfl ?_
    have hb := H.1
    have H := H.2
    refine w_ald f_163_15 rfl hb ?_
    refine w_il f_163_16 rfl ?_
    refine w_inv (as := [.ref 59, .int (I 62 (i1).toNatClampNeg), .int i2]) (st' := []) f_163_17 rfl rfl rfl rfl rfl rfl H (k_i (fun y1 G1 I1 J1 H => ?_)) (x_n (fun _ => rfl) rfl (fun x h' h => h))
    have hR1 := H.1
    have H := H.2
    refine w_ifeq f_163_20 (fun c => ?_) (fun c => ?_)
    · have H := H.1 c
      refine w_al f_163_41 rfl ?_
      refine w_al f_163_42 rfl ?_
      refine w_gr f_163_43 rfl (hR1 _ _ _ rfl) ?_
      refine w_il f_163_46 rfl ?_
      have hb := H.1
      have H := H.2
      refine w_ald f_163_47 rfl hb ?_
      refine w_il f_163_48 rfl ?_
      refine w_inv (as := [.ref 59, .int (I1 63 (i1).toNatClampNeg), .int i2]) (st' := []) f_163_49 rfl rfl rfl rfl rfl rfl H (k_i (fun y2 G2 I2 J2 H => ?_)) (x_n (fun _ => rfl) rfl (fun x h' h => h))
      have hR2 := H.1
      have H := H.2
      refine w_ifeq f_163_52 (fun c => ?_) (fun c => ?_)
      · have H := H.1 c
        refine w_ic f_163_73 ?_
        exact H
      · have H := H.2 c
        refine w_al f_163_55 rfl ?_
        refine w_gr f_163_56 rfl (hR2 _ _ _ rfl) ?_
        refine w_ic f_163_59 ?_
        refine w_al f_163_60 rfl ?_
        refine w_gr f_163_61 rfl (hR2 _ _ _ rfl) ?_
        refine w_il f_163_64 rfl ?_
        have hb := H.1
        have H := H.2
        refine w_ald f_163_65 rfl hb ?_
        refine w_bin f_163_66 ?_
        refine w_il f_163_67 rfl ?_
        refine w_bin f_163_68 ?_
        have hb := H.1
        have H := H.2
        refine w_ald f_163_69 rfl hb ?_
        refine w_go f_163_70 ?_
        exact H
    · have H := H.2 c
      refine w_al f_163_23 rfl ?_
      refine w_gr f_163_24 rfl (hR1 _ _ _ rfl) ?_
      refine w_ic f_163_27 ?_
      refine w_al f_163_28 rfl ?_
      refine w_gr f_163_29 rfl (hR1 _ _ _ rfl) ?_
      refine w_il f_163_32 rfl ?_
      have hb := H.1
      have H := H.2
      refine w_ald f_163_33 rfl hb ?_
      refine w_bin f_163_34 ?_
      refine w_il f_163_35 rfl ?_
      refine w_bin f_163_36 ?_
      have hb := H.1
      have H := H.2
      refine w_ald f_163_37 rfl hb ?_
      refine w_go f_163_38 ?_
      exact H
theorem g_163_74 {d : Nat} {G : am_G} {I : Nat → Nat → Int32} {J : Nat → Nat → Int64} {Q : am_O → am_H → Prop} (hR : q_RT G) (i1 : Int32) (i2 : Int32) (is0 : Int32) (H : Q (.inl (some (.int is0))) (G, I, J)) : q_W β xs L (d + 1) 163 74 [.ref 59, .int i1, .int i2] [.int is0] (G, I, J) Q := by
  exact w_reti f_163_74 H
theorem g_163_105 {d : Nat} {G : am_G} {I : Nat → Nat → Int32} {J : Nat → Nat → Int64} {Q : am_O → am_H → Prop} (hR : q_RT G) (i1 : Int32) (i2 : Int32) (H : q_W β xs L (d + 1) 163 106 [.ref 59, .int i1, .int i2] [.int (-1)] (G, I, J) Q) : q_W β xs L (d + 1) 163 105 [.ref 59, .int i1, .int i2] [] (G, I, J) Q := by
  refine w_ic f_163_105 ?_
  exact H
theorem g_163_106 {d : Nat} {G : am_G} {I : Nat → Nat → Int32} {J : Nat → Nat → Int64} {Q : am_O → am_H → Prop} (hR : q_RT G) (i1 : Int32) (i2 : Int32) (is0 : Int32) (H : Q (.inl (some (.int is0))) (G, I, J)) : q_W β xs L (d + 1) 163 106 [.ref 59, .int i1, .int i2] [.int is0] (G, I, J) Q := by
  exact w_reti f_163_106 H
theorem g_164_0 {d : Nat} {G : am_G} {I : Nat → Nat → Int32} {J : Nat → Nat → Int64} {Q : am_O → am_H → Prop} (hR : q_RT G) (i1 : Int32) (i2 : Int32) (i3 : Int32) (i4 : Int32) (i5 : Int32) (H : (am_is i1 20 = true ∧ (am_is i1 20 = true ∧ (am_is ((5 * i1) + i2) 100 = true ∧ (am_is ((5 * i1) + i2) 100 = true ∧ (am_is ((5 * i1) + i2) 100 = true ∧ (am_is (I 59 66) 23000 = true ∧ (am_is (I 59 66) 23000 = true ∧ (am_is (I 59 66) 23000 = true ∧ (am_is (I 59 66) 23000 = true ∧ (am_is (I 59 66) 23000 = true ∧ (am_is (I 59 66) 23000 = true ∧ Q (.inl none) (G, (am_u (am_u (am_u (am_u (am_u (am_u (am_u (am_u (am_u (am_u I 91 (i1).toNatClampNeg ((I 91 (i1).toNatClampNeg) ||| (1 <<< (i2 &&& 31)))) 100 (((5 * i1) + i2)).toNatClampNeg ((I 100 (((5 * i1) + i2)).toNatClampNeg) + 1)) 99 (((5 * i1) + i2)).toNatClampNeg (I 59 66)) 102 ((I 59 66)).toNatClampNeg i1) 103 ((I 59 66)).toNatClampNeg (I 59 76)) 104 ((I 59 66)).toNatClampNeg i3) 105 ((I 59 66)).toNatClampNeg (I 59 81)) 106 ((I 59 66)).toNatClampNeg i4) 107 ((I 59 66)).toNatClampNeg ((vp_nar .boolean) i5)) 59 66 ((I 59 66) + 1)), J))))))))))))) : q_W β xs L d 164 0 [.ref 59, .int i1, .int i2, .int i3, .int i4, .int i5] [] (G, I, J) Q := by
  refine w_al f_164_0 rfl ?_
  refine w_gr f_164_1 rfl (hR _ _ _ rfl) ?_
  refine w_il f_164_4 rfl ?_
  refine w_dup2 f_164_5 ?_
  have hb := H.1
  have H := H.2
  refine w_ald f_164_6 rfl hb ?_
  refine w_ic f_164_7 ?_
  refine w_il f_164_8 rfl ?_
  refine w_bin f_164_9 ?_
  refine w_bin f_164_10 ?_
  have hb := H.1
  have H := H.2
  refine w_ast f_164_11 rfl hb ?_
  refine w_al f_164_12 rfl ?_
  refine w_gr f_164_13 rfl (hR _ _ _ rfl) ?_
  refine w_ic f_164_16 ?_
  refine w_il f_164_17 rfl ?_
  refine w_bin f_164_18 ?_
  refine w_il f_164_19 rfl ?_
  refine w_bin f_164_20 ?_
  refine w_dup2 f_164_21 ?_
  have hb := H.1
  have H := H.2
  refine w_ald' f_164_22 rfl hb (am_u_ne (Or.inl (by decide))) ?_
  refine w_ic f_164_23 ?_
  refine w_bin f_164_24 ?_
  have hb := H.1
  have H := H.2
  refine w_ast f_164_25 rfl hb ?_
  refine w_al f_164_26 rfl ?_
  refine w_gr f_164_27 rfl (hR _ _ _ rfl) ?_
  refine w_ic f_164_30 ?_
  refine w_il f_164_31 rfl ?_
  refine w_bin f_164_32 ?_
  refine w_il f_164_33 rfl ?_
  refine w_bin f_164_34 ?_
  refine w_al f_164_35 rfl ?_
  refine w_gi' f_164_36 rfl ((am_u_ne (Or.inl (by decide))).trans (am_u_ne (Or.inl (by decide)))) ?_
  have hb := H.1
  have H := H.2
  refine w_ast f_164_39 rfl hb ?_
  refine w_al f_164_40 rfl ?_
  refine w_gr f_164_41 rfl (hR _ _ _ rfl) ?_
  refine w_al f_164_44 rfl ?_
  refine w_gi' f_164_45 rfl ((am_u_ne (Or.inl (by decide))).trans ((am_u_ne (Or.inl (by decide))).trans (am_u_ne (Or.inl (by decide))))) ?_
  refine w_il f_164_48 rfl ?_
  have hb := H.1
  have H := H.2
  refine w_ast f_164_49 rfl hb ?_
  refine w_al f_164_50 rfl ?_
  refine w_gr f_164_51 rfl (hR _ _ _ rfl) ?_
  refine w_al f_164_54 rfl ?_
  refine w_gi' f_164_55 rfl ((am_u_ne (Or.inl (by decide))).trans ((am_u_ne (Or.inl (by decide))).trans ((am_u_ne (Or.inl (by decide))).trans (am_u_ne (Or.inl (by decide)))))) ?_
  refine w_al f_164_58 rfl ?_
  refine w_gi' f_164_59 rfl ((am_u_ne (Or.inl (by decide))).trans ((am_u_ne (Or.inl (by decide))).trans ((am_u_ne (Or.inl (by decide))).trans (am_u_ne (Or.inl (by decide)))))) ?_
  have hb := H.1
  have H := H.2
  refine w_ast f_164_62 rfl hb ?_
  refine w_al f_164_63 rfl ?_
  refine w_gr f_164_64 rfl (hR _ _ _ rfl) ?_
  refine w_al f_164_67 rfl ?_
  refine w_gi' f_164_68 rfl ((am_u_ne (Or.inl (by decide))).trans ((am_u_ne (Or.inl (by decide))).trans ((am_u_ne (Or.inl (by decide))).trans ((am_u_ne (Or.inl (by decide))).trans (am_u_ne (Or.inl (by decide))))))) ?_
  refine w_il f_164_71 rfl ?_
  have hb := H.1
  have H := H.2
  refine w_ast f_164_72 rfl hb ?_
  refine w_al f_164_73 rfl ?_
  refine w_gr f_164_74 rfl (hR _ _ _ rfl) ?_
  refine w_al f_164_77 rfl ?_
  refine w_gi' f_164_78 rfl ((am_u_ne (Or.inl (by decide))).trans ((am_u_ne (Or.inl (by decide))).trans ((am_u_ne (Or.inl (by decide))).trans ((am_u_ne (Or.inl (by decide))).trans ((am_u_ne (Or.inl (by decide))).trans (am_u_ne (Or.inl (by decide)))))))) ?_
  refine w_al f_164_81 rfl ?_
  refine w_gi' f_164_82 rfl ((am_u_ne (Or.inl (by decide))).trans ((am_u_ne (Or.inl (by decide))).trans ((am_u_ne (Or.inl (by decide))).trans ((am_u_ne (Or.inl (by decide))).trans ((am_u_ne (Or.inl (by decide))).trans (am_u_ne (Or.inl (by decide)))))))) ?_
  have hb := H.1
  have H := H.2
  refine w_ast f_164_85 rfl hb ?_
  refine w_al f_164_86 rfl ?_
  refine w_gr f_164_87 rfl (hR _ _ _ rfl) ?_
  refine w_al f_164_90 rfl ?_
  refine w_gi' f_164_91 rfl ((am_u_ne (Or.inl (by decide))).trans ((am_u_ne (Or.inl (by decide))).trans ((am_u_ne (Or.inl (by decide))).trans ((am_u_ne (Or.inl (by decide))).trans ((am_u_ne (Or.inl (by decide))).trans ((am_u_ne (Or.inl (by decide))).trans (am_u_ne (Or.inl (by decide))))))))) ?_
  refine w_il f_164_94 rfl ?_
  have hb := H.1
  have H := H.2
  refine w_ast f_164_96 rfl hb ?_
  refine w_al f_164_97 rfl ?_
  refine w_gr f_164_98 rfl (hR _ _ _ rfl) ?_
  refine w_al f_164_101 rfl ?_
  refine w_gi' f_164_102 rfl ((am_u_ne (Or.inl (by decide))).trans ((am_u_ne (Or.inl (by decide))).trans ((am_u_ne (Or.inl (by decide))).trans ((am_u_ne (Or.inl (by decide))).trans ((am_u_ne (Or.inl (by decide))).trans ((am_u_ne (Or.inl (by decide))).trans ((am_u_ne (Or.inl (by decide))).trans (am_u_ne (Or.inl (by decide)))))))))) ?_
  refine w_il f_164_105 rfl ?_
  have hb := H.1
  have H := H.2
  refine w_ast f_164_107 rfl hb ?_
  refine w_al f_164_108 rfl ?_
  refine w_dupr f_164_109 ?_
  refine w_gi' f_164_110 rfl ((am_u_ne (Or.inl (by decide))).trans ((am_u_ne (Or.inl (by decide))).trans ((am_u_ne (Or.inl (by decide))).trans ((am_u_ne (Or.inl (by decide))).trans ((am_u_ne (Or.inl (by decide))).trans ((am_u_ne (Or.inl (by decide))).trans ((am_u_ne (Or.inl (by decide))).trans ((am_u_ne (Or.inl (by decide))).trans (am_u_ne (Or.inl (by decide))))))))))) ?_
  refine w_ic f_164_113 ?_
  refine w_bin f_164_114 ?_
  refine w_pi f_164_115 rfl ?_
  exact w_ret0 f_164_118 H
theorem g_165_0 {d : Nat} {G : am_G} {I : Nat → Nat → Int32} {J : Nat → Nat → Int64} {Q : am_O → am_H → Prop} (hR : q_RT G) (i1 : Int32) (i2 : Int32) (H : (am_is i1 20 = true ∧ (am_is i1 20 = true ∧ (am_is ((5 * i1) + i2) 100 = true ∧ (am_is ((5 * i1) + i2) 100 = true ∧ (am_is ((5 * i1) + i2) 100 = true ∧ Q (.inl none) (G, (am_u (am_u (am_u I 91 (i1).toNatClampNeg ((I 91 (i1).toNatClampNeg) &&& ((1 <<< (i2 &&& 31)) ^^^ (-1)))) 101 (((5 * i1) + i2)).toNatClampNeg ((I 101 (((5 * i1) + i2)).toNatClampNeg) + 1)) 99 (((5 * i1) + i2)).toNatClampNeg (-1)), J))))))) : q_W β xs L d 165 0 [.ref 59, .int i1, .int i2] [] (G, I, J) Q := by
  refine w_al f_165_0 rfl ?_
  refine w_gr f_165_1 rfl (hR _ _ _ rfl) ?_
  refine w_il f_165_4 rfl ?_
  refine w_dup2 f_165_5 ?_
  have hb := H.1
  have H := H.2
  refine w_ald f_165_6 rfl hb ?_
  refine w_ic f_165_7 ?_
  refine w_il f_165_8 rfl ?_
  refine w_bin f_165_9 ?_
  refine w_ic f_165_10 ?_
  refine w_bin f_165_11 ?_
  refine w_bin f_165_12 ?_
  have hb := H.1
  have H := H.2
  refine w_ast f_165_13 rfl hb ?_
  refine w_al f_165_14 rfl ?_
  refine w_gr f_165_15 rfl (hR _ _ _ rfl) ?_
  refine w_ic f_165_18 ?_
  refine w_il f_165_19 rfl ?_
  refine w_bin f_165_20 ?_
  refine w_il f_165_21 rfl ?_
  refine w_bin f_165_22 ?_
  refine w_dup2 f_165_23 ?_
  have hb := H.1
  have H := H.2
  refine w_ald' f_165_24 rfl hb (am_u_ne (Or.inl (by decide))) ?_
  refine w_ic f_165_25 ?_
  refine w_bin f_165_26 ?_
  have hb := H.1
  have H := H.2
  refine w_ast f_165_27 rfl hb ?_
  refine w_al f_165_28 rfl ?_
  refine w_gr f_165_29 rfl (hR _ _ _ rfl) ?_
  refine w_ic f_165_32 ?_
  refine w_il f_165_33 rfl ?_
  refine w_bin f_165_34 ?_
  refine w_il f_165_35 rfl ?_
  refine w_bin f_165_36 ?_
  refine w_ic f_165_37 ?_
  have hb := H.1
  have H := H.2
  refine w_ast f_165_38 rfl hb ?_
  exact w_ret0 f_165_39 H
theorem g_166_0 {d : Nat} {G : am_G} {I : Nat → Nat → Int32} {J : Nat → Nat → Int64} {Q : am_O → am_H → Prop} (hR : q_RT G) (i1 : Int32) (i2 : Int32) (H : q_W β xs L d 143 0 [.ref 59, .int i2, .retAddr 0] [] (G, I, J) (q_Rv (fun G1 I1 J1 => ((¬ (I1 59 88) = (I1 59 2) → q_W β xs L (d + 1) 166 33 [.ref 59, .int i1, .int i2, .retAddr 0, .retAddr 0] [] (G1, I1, J1) Q) ∧ ((I1 59 88) = (I1 59 2) → ((¬ (I1 59 89) = i1 → q_W β xs L (d + 1) 166 33 [.ref 59, .int i1, .int i2, .retAddr 0, .retAddr 0] [] (G1, I1, J1) Q) ∧ ((I1 59 89) = i1 → ((¬ (I1 59 90) = i2 → q_W β xs L (d + 1) 166 33 [.ref 59, .int i1, .int i2, .retAddr 0, .retAddr 0] [] (G1, I1, J1) Q) ∧ ((I1 59 90) = i2 → Q (.inl none) (G1, I1, J1)))))))) (fun x1 G1 I1 J1 => Q (.inr x1) (G1, I1, J1)))) : q_W β xs L (d + 1) 166 0 [.ref 59, .int i1, .int i2, .retAddr 0, .retAddr 0] [] (G, I, J) Q := by
  refine w_al f_166_0 rfl ?_
  refine w_il f_166_1 rfl ?_
  refine w_inv (as := [.ref 59, .int i2, .retAddr 0]) (st' := []) f_166_2 rfl rfl rfl rfl rfl rfl H (k_v (fun G1 I1 J1 H => ?_)) (x_n (fun _ => rfl) rfl (fun x h' h => h))
  refine w_al f_166_5 rfl ?_
  refine w_gi f_166_6 rfl ?_
  refine w_al f_166_9 rfl ?_
  refine w_gi f_166_10 rfl ?_
  refine w_icne f_166_13 (fun c => ?_) (fun c => ?_)
  · have H := H.1 c
    exact H
  · have H := H.2 c
    refine w_al f_166_16 rfl ?_
    refine w_gi f_166_17 rfl ?_
    refine w_il f_166_20 rfl ?_
    refine w_icne f_166_21 (fun c => ?_) (fun c => ?_)
    · have H := H.1 c
      exact H
    · have H := H.2 c
      refine w_al f_166_24 rfl ?_
      refine w_gi f_166_25 rfl ?_
      refine w_il f_166_28 rfl ?_
      refine w_icne f_166_29 (fun c => ?_) (fun c => ?_)
      · have H := H.1 c
        exact H
      · have H := H.2 c
        exact w_ret0 f_166_32 H
theorem g_166_33 {d : Nat} {G : am_G} {I : Nat → Nat → Int32} {J : Nat → Nat → Int64} {Q : am_O → am_H → Prop} (hR : q_RT G) (i1 : Int32) (i2 : Int32) (H : q_W β xs L (d + 1) 166 53 [.ref 59, .int i1, .int i2, .int 0, .retAddr 0] [] (G, (am_u (am_u (am_u I 59 88 (I 59 2)) 59 89 i1) 59 90 i2), J) Q) : q_W β xs L (d + 1) 166 33 [.ref 59, .int i1, .int i2, .retAddr 0, .retAddr 0] [] (G, I, J) Q := by
  refine w_al f_166_33 rfl ?_
  refine w_al f_166_34 rfl ?_
  refine w_gi f_166_35 rfl ?_
  refine w_pi f_166_38 rfl ?_
  refine w_al f_166_41 rfl ?_
  refine w_il f_166_42 rfl ?_
  refine w_pi f_166_43 rfl ?_
  refine w_al f_166_46 rfl ?_
  refine w_il f_166_47 rfl ?_
  refine w_pi f_166_48 rfl ?_
  refine w_ic f_166_51 ?_
  refine w_is (ls' := [.ref 59, .int i1, .int i2, .int 0, .retAddr 0]) f_166_52 rfl ?_
  exact H
theorem g_166_53 {d : Nat} {G : am_G} {I : Nat → Nat → Int32} {J : Nat → Nat → Int64} {Q : am_O → am_H → Prop} (hR : q_RT G) (i1 : Int32) (i2 : Int32) (i3 : Int32) (v4 : Value) (n4 : am_nl v4 = true) (H : ((¬ i3 < (I 59 52) → Q (.inl none) (G, I, J)) ∧ (i3 < (I 59 52) → q_W β xs L d 147 0 [.ref 59, .int i3, .int i1, .int i2, .int (-1), .retAddr 0, .retAddr 0] [] (G, I, J) (q_Rv (fun G1 I1 J1 => q_W β xs L (d + 1) 166 72 [.ref 59, .int i1, .int i2, .int i3, .int 0] [] (G1, I1, J1) Q) (fun x1 G1 I1 J1 => Q (.inr x1) (G1, I1, J1)))))) : q_W β xs L (d + 1) 166 53 [.ref 59, .int i1, .int i2, .int i3, v4] [] (G, I, J) Q := by
  refine w_il f_166_53 rfl ?_
  refine w_al f_166_54 rfl ?_
  refine w_gi f_166_55 rfl ?_
  refine w_icge f_166_58 (fun c => ?_) (fun c => ?_)
  · have H := H.1 c
    exact w_ret0 f_166_110 H
  · have H := H.2 c
    refine w_al f_166_61 rfl ?_
    refine w_il f_166_62 rfl ?_
    refine w_il f_166_63 rfl ?_
    refine w_il f_166_64 rfl ?_
    refine w_ic f_166_65 ?_
    refine w_inv (as := [.ref 59, .int i3, .int i1, .int i2, .int (-1), .retAddr 0, .retAddr 0]) (st' := []) f_166_66 rfl rfl rfl rfl rfl rfl H (k_v (fun G1 I1 J1 H => ?_)) (x_n (fun _ => rfl) rfl (fun x h' h => h))
    refine w_ic f_166_69 ?_
    refine w_is (ls' := [.ref 59, .int i1, .int i2, .int i3, .int 0]) f_166_70 rfl ?_
    exact H
theorem g_166_72 {d : Nat} {G : am_G} {I : Nat → Nat → Int32} {J : Nat → Nat → Int64} {Q : am_O → am_H → Prop} (hR : q_RT G) (i1 : Int32) (i2 : Int32) (i3 : Int32) (i4 : Int32) (H : ((¬ i4 < 20 → q_W β xs L (d + 1) 166 53 [.ref 59, .int i1, .int i2, .int (i3 + 1), .int i4] [] (G, I, J) Q) ∧ (i4 < 20 → (am_is i4 20 = true ∧ (am_is ((20 * i3) + i4) 540 = true ∧ q_W β xs L (d + 1) 166 72 [.ref 59, .int i1, .int i2, .int i3, .int (i4 + 1)] [] (G, (am_u I 115 (((20 * i3) + i4)).toNatClampNeg (I 91 (i4).toNatClampNeg)), J) Q))))) : q_W β xs L (d + 1) 166 72 [.ref 59, .int i1, .int i2, .int i3, .int i4] [] (G, I, J) Q := by
  refine w_il f_166_72 rfl ?_
  refine w_ic f_166_74 ?_
  refine w_icge f_166_76 (fun c => ?_) (fun c => ?_)
  · have H := H.1 c
    refine w_iinc (ls' := [.ref 59, .int i1, .int i2, .int (i3 + 1), .int i4]) f_166_104 rfl rfl ?_
    refine w_go f_166_107 ?_
    exact H
  · have H := H.2 c
    refine w_al f_166_79 rfl ?_
    refine w_gr f_166_80 rfl (hR _ _ _ rfl) ?_
    refine w_ic f_166_83 ?_
    refine w_il f_166_85 rfl ?_
    refine w_bin f_166_86 ?_
    refine w_il f_166_87 rfl ?_
    refine w_bin f_166_89 ?_
    refine w_al f_166_90 rfl ?_
    refine w_gr f_166_91 rfl (hR _ _ _ rfl) ?_
    refine w_il f_166_94 rfl ?_
    have hb := H.1
    have H := H.2
    refine w_ald f_166_96 rfl hb ?_
    have hb := H.1
    have H := H.2
    refine w_ast f_166_97 rfl hb ?_
    refine w_iinc (ls' := [.ref 59, .int i1, .int i2, .int i3, .int (i4 + 1)]) f_166_98 rfl rfl ?_
    refine w_go f_166_101 ?_
    exact H
theorem g_167_0 {d : Nat} {G : am_G} {I : Nat → Nat → Int32} {J : Nat → Nat → Int64} {Q : am_O → am_H → Prop} (hR : q_RT G) (i1 : Int32) (H : ((i1 < 0 → q_W β xs L (d + 1) 167 17 [.ref 59, .int i1] [.ref 59] (G, I, J) Q) ∧ (¬ i1 < 0 → (((I 59 1) < i1 → q_W β xs L (d + 1) 167 17 [.ref 59, .int i1] [.ref 59] (G, I, J) Q) ∧ (¬ (I 59 1) < i1 → q_W β xs L (d + 1) 167 18 [.ref 59, .int i1] [.int 1, .ref 59] (G, I, J) Q))))) : q_W β xs L (d + 1) 167 0 [.ref 59, .int i1] [] (G, I, J) Q := by
  refine w_al f_167_0 rfl ?_
  refine w_il f_167_1 rfl ?_
  refine w_iflt f_167_2 (fun c => ?_) (fun c => ?_)
  · have H := H.1 c
    exact H
  · have H := H.2 c
    refine w_il f_167_5 rfl ?_
    refine w_al f_167_6 rfl ?_
    refine w_gi f_167_7 rfl ?_
    refine w_icgt f_167_10 (fun c => ?_) (fun c => ?_)
    · have H := H.1 c
      exact H
    · have H := H.2 c
      refine w_ic f_167_13 ?_
      refine w_go f_167_14 ?_
      exact H
theorem g_167_17 {d : Nat} {G : am_G} {I : Nat → Nat → Int32} {J : Nat → Nat → Int64} {Q : am_O → am_H → Prop} (hR : q_RT G) (i1 : Int32) (H : q_W β xs L (d + 1) 167 18 [.ref 59, .int i1] [.int 0, .ref 59] (G, I, J) Q) : q_W β xs L (d + 1) 167 17 [.ref 59, .int i1] [.ref 59] (G, I, J) Q := by
  refine w_ic f_167_17 ?_
  exact H
theorem g_167_18 {d : Nat} {G : am_G} {I : Nat → Nat → Int32} {J : Nat → Nat → Int64} {Q : am_O → am_H → Prop} (hR : q_RT G) (i1 : Int32) (is0 : Int32) (H : q_W β xs L d 103 0 [.ref 59, .int is0, .int 2] [] (G, I, J) (q_Ri (fun y1 G1 I1 J1 => (((y1 : Int32) = 0 ∨ (y1 : Int32) = 1) ∧ Q (.inl (some (.int y1))) (G1, I1, J1))) (fun x1 G1 I1 J1 => Q (.inr x1) (G1, I1, J1)))) : q_W β xs L (d + 1) 167 18 [.ref 59, .int i1] [.int is0, .ref 59] (G, I, J) Q := by
  refine w_ic f_167_18 ?_
  refine w_inv (as := [.ref 59, .int is0, .int 2]) (st' := []) f_167_19 rfl rfl rfl rfl rfl rfl H (k_i (fun y1 G1 I1 J1 H => ?_)) (x_n (fun _ => rfl) rfl (fun x h' h => h))
  exact w_retz f_167_22 H.1 H.2
theorem g_168_0 {d : Nat} {G : am_G} {I : Nat → Nat → Int32} {J : Nat → Nat → Int64} {Q : am_O → am_H → Prop} (hR : q_RT G) (i1 : Int32) (i2 : Int32) (i3 : Int32) (H : ((i1 < 0 → q_W β xs L (d + 1) 168 29 [.ref 59, .int i1, .int i2, .int i3] [.ref 59] (G, (am_u I 59 0 0), J) Q) ∧ (¬ i1 < 0 → ((¬ i1 < (I 59 32) → q_W β xs L (d + 1) 168 29 [.ref 59, .int i1, .int i2, .int i3] [.ref 59] (G, (am_u I 59 0 0), J) Q) ∧ (i1 < (I 59 32) → q_W β xs L d 109 0 [.int i2] [] (G, (am_u I 59 0 0), J) (q_Ri (fun y1 G1 I1 J1 => ((y1 = 0 → q_W β xs L (d + 1) 168 29 [.ref 59, .int i1, .int i2, .int i3] [.ref 59] (G1, I1, J1) Q) ∧ (¬ y1 = 0 → q_W β xs L (d + 1) 168 30 [.ref 59, .int i1, .int i2, .int i3] [.int 1, .ref 59] (G1, I1, J1) Q))) (fun x1 G1 I1 J1 => Q (.inr x1) (G1, I1, J1)))))))) : q_W β xs L (d + 1) 168 0 [.ref 59, .int i1, .int i2, .int i3] [] (G, I, J) Q := by
  refine w_al f_168_0 rfl ?_
  refine w_ic f_168_1 ?_
  refine w_pi f_168_2 rfl ?_
  refine w_al f_168_5 rfl ?_
  refine w_il f_168_6 rfl ?_
  refine w_iflt f_168_7 (fun c => ?_) (fun c => ?_)
  · have H := H.1 c
    exact H
  · have H := H.2 c
    refine w_il f_168_10 rfl ?_
    refine w_al f_168_11 rfl ?_
    refine w_gi' f_168_12 rfl (am_u_ne (Or.inr (by decide))) ?_
    refine w_icge f_168_15 (fun c => ?_) (fun c => ?_)
    · have H := H.1 c
      exact H
    · have H := H.2 c
      refine w_il f_168_18 rfl ?_
      refine w_invs (as := [.int i2]) (st' := [.ref 59]) f_168_19 rfl rfl rfl rfl rfl H (k_i (fun y1 G1 I1 J1 H => ?_)) (x_n (fun _ => rfl) rfl (fun x h' h => h))
      refine w_ifeq f_168_22 (fun c => ?_) (fun c => ?_)
      · have H := H.1 c
        exact H
      · have H := H.2 c
        refine w_ic f_168_25 ?_
        refine w_go f_168_26 ?_
        exact H
theorem g_168_29 {d : Nat} {G : am_G} {I : Nat → Nat → Int32} {J : Nat → Nat → Int64} {Q : am_O → am_H → Prop} (hR : q_RT G) (i1 : Int32) (i2 : Int32) (i3 : Int32) (H : q_W β xs L (d + 1) 168 30 [.ref 59, .int i1, .int i2, .int i3] [.int 0, .ref 59] (G, I, J) Q) : q_W β xs L (d + 1) 168 29 [.ref 59, .int i1, .int i2, .int i3] [.ref 59] (G, I, J) Q := by
  refine w_ic f_168_29 ?_
  exact H
theorem g_168_30 {d : Nat} {G : am_G} {I : Nat → Nat → Int32} {J : Nat → Nat → Int64} {Q : am_O → am_H → Prop} (hR : q_RT G) (i1 : Int32) (i2 : Int32) (i3 : Int32) (is0 : Int32) (H : q_W β xs L d 103 0 [.ref 59, .int is0, .int 1] [] (G, I, J) (q_Ri (fun y1 G1 I1 J1 => ((y1 = 0 → q_W β xs L (d + 1) 168 64 [.ref 59, .int i1, .int i2, .int i3] [] (G1, I1, J1) Q) ∧ (¬ y1 = 0 → q_W β xs L d 167 0 [.ref 59, .int i3] [] (G1, I1, J1) (q_Ri (fun y2 G2 I2 J2 => ((y2 = 0 → q_W β xs L (d + 1) 168 64 [.ref 59, .int i1, .int i2, .int i3] [] (G2, I2, J2) Q) ∧ (¬ y2 = 0 → q_W β xs L d 142 0 [.ref 59, .int i2, .int i3, .int (-1), .retAddr 0, .retAddr 0, .retAddr 0] [] (G2, I2, J2) (q_Ri (fun y3 G3 I3 J3 => ((¬ ((y3 >>> (i1 &&& 31)) &&& 1) = 1 → q_W β xs L (d + 1) 168 64 [.ref 59, .int i1, .int i2, .int i3] [] (G3, I3, J3) Q) ∧ (((y3 >>> (i1 &&& 31)) &&& 1) = 1 → q_W β xs L (d + 1) 168 65 [.ref 59, .int i1, .int i2, .int i3] [.int 1] (G3, I3, J3) Q))) (fun x3 G3 I3 J3 => Q (.inr x3) (G3, I3, J3)))))) (fun x2 G2 I2 J2 => Q (.inr x2) (G2, I2, J2)))))) (fun x1 G1 I1 J1 => Q (.inr x1) (G1, I1, J1)))) : q_W β xs L (d + 1) 168 30 [.ref 59, .int i1, .int i2, .int i3] [.int is0, .ref 59] (G, I, J) Q := by
  refine w_ic f_168_30 ?_
  refine w_inv (as := [.ref 59, .int is0, .int 1]) (st' := []) f_168_31 rfl rfl rfl rfl rfl rfl H (k_i (fun y1 G1 I1 J1 H => ?_)) (x_n (fun _ => rfl) rfl (fun x h' h => h))
  refine w_ifeq f_168_34 (fun c => ?_) (fun c => ?_)
  · have H := H.1 c
    exact H
  · have H := H.2 c
    refine w_al f_168_37 rfl ?_
    refine w_il f_168_38 rfl ?_
    refine w_inv (as := [.ref 59, .int i3]) (st' := []) f_168_39 rfl rfl rfl rfl rfl rfl H (k_i (fun y2 G2 I2 J2 H => ?_)) (x_n (fun _ => rfl) rfl (fun x h' h => h))
    refine w_ifeq f_168_42 (fun c => ?_) (fun c => ?_)
    · have H := H.1 c
      exact H
    · have H := H.2 c
      refine w_al f_168_45 rfl ?_
      refine w_il f_168_46 rfl ?_
      refine w_il f_168_47 rfl ?_
      refine w_ic f_168_48 ?_
      refine w_inv (as := [.ref 59, .int i2, .int i3, .int (-1), .retAddr 0, .retAddr 0, .retAddr 0]) (st' := []) f_168_49 rfl rfl rfl rfl rfl rfl H (k_i (fun y3 G3 I3 J3 H => ?_)) (x_n (fun _ => rfl) rfl (fun x h' h => h))
      refine w_il f_168_52 rfl ?_
      refine w_bin f_168_53 ?_
      refine w_ic f_168_54 ?_
      refine w_bin f_168_55 ?_
      refine w_ic f_168_56 ?_
      refine w_icne f_168_57 (fun c => ?_) (fun c => ?_)
      · have H := H.1 c
        exact H
      · have H := H.2 c
        refine w_ic f_168_60 ?_
        refine w_go f_168_61 ?_
        exact H
theorem g_168_64 {d : Nat} {G : am_G} {I : Nat → Nat → Int32} {J : Nat → Nat → Int64} {Q : am_O → am_H → Prop} (hR : q_RT G) (i1 : Int32) (i2 : Int32) (i3 : Int32) (H : q_W β xs L (d + 1) 168 65 [.ref 59, .int i1, .int i2, .int i3] [.int 0] (G, I, J) Q) : q_W β xs L (d + 1) 168 64 [.ref 59, .int i1, .int i2, .int i3] [] (G, I, J) Q := by
  refine w_ic f_168_64 ?_
  exact H
theorem g_168_65 {d : Nat} {G : am_G} {I : Nat → Nat → Int32} {J : Nat → Nat → Int64} {Q : am_O → am_H → Prop} (hR : q_RT G) (i1 : Int32) (i2 : Int32) (i3 : Int32) (is0 : Int32) (H : (((is0 : Int32) = 0 ∨ (is0 : Int32) = 1) ∧ Q (.inl (some (.int is0))) (G, I, J))) : q_W β xs L (d + 1) 168 65 [.ref 59, .int i1, .int i2, .int i3] [.int is0] (G, I, J) Q := by
  exact w_retz f_168_65 H.1 H.2
theorem g_169_0 {d : Nat} {G : am_G} {I : Nat → Nat → Int32} {J : Nat → Nat → Int64} {Q : am_O → am_H → Prop} (hR : q_RT G) (i1 : Int32) (i2 : Int32) (i3 : Int32) (H : ((i1 < 0 → q_W β xs L (d + 1) 169 29 [.ref 59, .int i1, .int i2, .int i3] [.ref 59] (G, (am_u I 59 0 0), J) Q) ∧ (¬ i1 < 0 → ((¬ i1 < (I 59 4) → q_W β xs L (d + 1) 169 29 [.ref 59, .int i1, .int i2, .int i3] [.ref 59] (G, (am_u I 59 0 0), J) Q) ∧ (i1 < (I 59 4) → q_W β xs L d 109 0 [.int i2] [] (G, (am_u I 59 0 0), J) (q_Ri (fun y1 G1 I1 J1 => ((y1 = 0 → q_W β xs L (d + 1) 169 29 [.ref 59, .int i1, .int i2, .int i3] [.ref 59] (G1, I1, J1) Q) ∧ (¬ y1 = 0 → q_W β xs L (d + 1) 169 30 [.ref 59, .int i1, .int i2, .int i3] [.int 1, .ref 59] (G1, I1, J1) Q))) (fun x1 G1 I1 J1 => Q (.inr x1) (G1, I1, J1)))))))) : q_W β xs L (d + 1) 169 0 [.ref 59, .int i1, .int i2, .int i3] [] (G, I, J) Q := by
  refine w_al f_169_0 rfl ?_
  refine w_ic f_169_1 ?_
  refine w_pi f_169_2 rfl ?_
  refine w_al f_169_5 rfl ?_
  refine w_il f_169_6 rfl ?_
  refine w_iflt f_169_7 (fun c => ?_) (fun c => ?_)
  · have H := H.1 c
    exact H
  · have H := H.2 c
    refine w_il f_169_10 rfl ?_
    refine w_al f_169_11 rfl ?_
    refine w_gi' f_169_12 rfl (am_u_ne (Or.inr (by decide))) ?_
    refine w_icge f_169_15 (fun c => ?_) (fun c => ?_)
    · have H := H.1 c
      exact H
    · have H := H.2 c
      refine w_il f_169_18 rfl ?_
      refine w_invs (as := [.int i2]) (st' := [.ref 59]) f_169_19 rfl rfl rfl rfl rfl H (k_i (fun y1 G1 I1 J1 H => ?_)) (x_n (fun _ => rfl) rfl (fun x h' h => h))
      refine w_ifeq f_169_22 (fun c => ?_) (fun c => ?_)
      · have H := H.1 c
        exact H
      · have H := H.2 c
        refine w_ic f_169_25 ?_
        refine w_go f_169_26 ?_
        exact H
theorem g_169_29 {d : Nat} {G : am_G} {I : Nat → Nat → Int32} {J : Nat → Nat → Int64} {Q : am_O → am_H → Prop} (hR : q_RT G) (i1 : Int32) (i2 : Int32) (i3 : Int32) (H : q_W β xs L (d + 1) 169 30 [.ref 59, .int i1, .int i2, .int i3] [.int 0, .ref 59] (G, I, J) Q) : q_W β xs L (d + 1) 169 29 [.ref 59, .int i1, .int i2, .int i3] [.ref 59] (G, I, J) Q := by
  refine w_ic f_169_29 ?_
  exact H
theorem g_169_30 {d : Nat} {G : am_G} {I : Nat → Nat → Int32} {J : Nat → Nat → Int64} {Q : am_O → am_H → Prop} (hR : q_RT G) (i1 : Int32) (i2 : Int32) (i3 : Int32) (is0 : Int32) (H : q_W β xs L d 103 0 [.ref 59, .int is0, .int 1] [] (G, I, J) (q_Ri (fun y1 G1 I1 J1 => ((y1 = 0 → q_W β xs L (d + 1) 169 45 [.ref 59, .int i1, .int i2, .int i3] [] (G1, I1, J1) Q) ∧ (¬ y1 = 0 → q_W β xs L d 167 0 [.ref 59, .int i3] [] (G1, I1, J1) (q_Ri (fun y2 G2 I2 J2 => ((¬ y2 = 0 → q_W β xs L d 143 0 [.ref 59, .int i3, .retAddr 0] [] (G2, I2, J2) (q_Rv (fun G3 I3 J3 => q_W β xs L d 147 0 [.ref 59, .int 0, .int i2, .int i3, .int (-1), .retAddr 0, .retAddr 0] [] (G3, I3, J3) (q_Rv (fun G4 I4 J4 => (q_RT G4 ∧ (am_is i1 12 = true ∧ Q (.inl (some (.int (I4 97 (i1).toNatClampNeg)))) (G4, I4, J4)))) (fun x4 G4 I4 J4 => Q (.inr x4) (G4, I4, J4)))) (fun x3 G3 I3 J3 => Q (.inr x3) (G3, I3, J3)))) ∧ (y2 = 0 → q_W β xs L (d + 1) 169 45 [.ref 59, .int i1, .int i2, .int i3] [] (G2, I2, J2) Q))) (fun x2 G2 I2 J2 => Q (.inr x2) (G2, I2, J2)))))) (fun x1 G1 I1 J1 => Q (.inr x1) (G1, I1, J1)))) : q_W β xs L (d + 1) 169 30 [.ref 59, .int i1, .int i2, .int i3] [.int is0, .ref 59] (G, I, J) Q := by
  refine w_ic f_169_30 ?_
  refine w_inv (as := [.ref 59, .int is0, .int 1]) (st' := []) f_169_31 rfl rfl rfl rfl rfl rfl H (k_i (fun y1 G1 I1 J1 H => ?_)) (x_n (fun _ => rfl) rfl (fun x h' h => h))
  refine w_ifeq f_169_34 (fun c => ?_) (fun c => ?_)
  · have H := H.1 c
    exact H
  · have H := H.2 c
    refine w_al f_169_37 rfl ?_
    refine w_il f_169_38 rfl ?_
    refine w_inv (as := [.ref 59, .int i3]) (st' := []) f_169_39 rfl rfl rfl rfl rfl rfl H (k_i (fun y2 G2 I2 J2 H => ?_)) (x_n (fun _ => rfl) rfl (fun x h' h => h))
    refine w_ifne f_169_42 (fun c => ?_) (fun c => ?_)
    · have H := H.1 c
      refine w_al f_169_47 rfl ?_
      refine w_il f_169_48 rfl ?_
      refine w_inv (as := [.ref 59, .int i3, .retAddr 0]) (st' := []) f_169_49 rfl rfl rfl rfl rfl rfl H (k_v (fun G3 I3 J3 H => ?_)) (x_n (fun _ => rfl) rfl (fun x h' h => h))
      refine w_al f_169_52 rfl ?_
      refine w_ic f_169_53 ?_
      refine w_il f_169_54 rfl ?_
      refine w_il f_169_55 rfl ?_
      refine w_ic f_169_56 ?_
      refine w_inv (as := [.ref 59, .int 0, .int i2, .int i3, .int (-1), .retAddr 0, .retAddr 0]) (st' := []) f_169_57 rfl rfl rfl rfl rfl rfl H (k_v (fun G4 I4 J4 H => ?_)) (x_n (fun _ => rfl) rfl (fun x h' h => h))
      have hR4 := H.1
      have H := H.2
      refine w_al f_169_60 rfl ?_
      refine w_gr f_169_61 rfl (hR4 _ _ _ rfl) ?_
      refine w_il f_169_64 rfl ?_
      have hb := H.1
      have H := H.2
      refine w_ald f_169_65 rfl hb ?_
      exact w_reti f_169_66 H
    · have H := H.2 c
      exact H
theorem g_169_45 {d : Nat} {G : am_G} {I : Nat → Nat → Int32} {J : Nat → Nat → Int64} {Q : am_O → am_H → Prop} (hR : q_RT G) (i1 : Int32) (i2 : Int32) (i3 : Int32) (H : Q (.inl (some (.int 0))) (G, I, J)) : q_W β xs L (d + 1) 169 45 [.ref 59, .int i1, .int i2, .int i3] [] (G, I, J) Q := by
  refine w_ic f_169_45 ?_
  exact w_reti f_169_46 H
theorem g_170_0 {d : Nat} {G : am_G} {I : Nat → Nat → Int32} {J : Nat → Nat → Int64} {Q : am_O → am_H → Prop} (hR : q_RT G) (i1 : Int32) (i2 : Int32) (H : ((i1 < 0 → q_W β xs L (d + 1) 170 19 [.ref 59, .int i1, .int i2] [.ref 59] (G, (am_u I 59 0 0), J) Q) ∧ (¬ i1 < 0 → ((4 < i1 → q_W β xs L (d + 1) 170 19 [.ref 59, .int i1, .int i2] [.ref 59] (G, (am_u I 59 0 0), J) Q) ∧ (¬ 4 < i1 → q_W β xs L (d + 1) 170 20 [.ref 59, .int i1, .int i2] [.int 1, .ref 59] (G, (am_u I 59 0 0), J) Q))))) : q_W β xs L (d + 1) 170 0 [.ref 59, .int i1, .int i2] [] (G, I, J) Q := by
  refine w_al f_170_0 rfl ?_
  refine w_ic f_170_1 ?_
  refine w_pi f_170_2 rfl ?_
  refine w_al f_170_5 rfl ?_
  refine w_il f_170_6 rfl ?_
  refine w_iflt f_170_7 (fun c => ?_) (fun c => ?_)
  · have H := H.1 c
    exact H
  · have H := H.2 c
    refine w_il f_170_10 rfl ?_
    refine w_ic f_170_11 ?_
    refine w_icgt f_170_12 (fun c => ?_) (fun c => ?_)
    · have H := H.1 c
      exact H
    · have H := H.2 c
      refine w_ic f_170_15 ?_
      refine w_go f_170_16 ?_
      exact H
theorem g_170_19 {d : Nat} {G : am_G} {I : Nat → Nat → Int32} {J : Nat → Nat → Int64} {Q : am_O → am_H → Prop} (hR : q_RT G) (i1 : Int32) (i2 : Int32) (H : q_W β xs L (d + 1) 170 20 [.ref 59, .int i1, .int i2] [.int 0, .ref 59] (G, I, J) Q) : q_W β xs L (d + 1) 170 19 [.ref 59, .int i1, .int i2] [.ref 59] (G, I, J) Q := by
  refine w_ic f_170_19 ?_
  exact H
theorem g_170_20 {d : Nat} {G : am_G} {I : Nat → Nat → Int32} {J : Nat → Nat → Int64} {Q : am_O → am_H → Prop} (hR : q_RT G) (i1 : Int32) (i2 : Int32) (is0 : Int32) (H : q_W β xs L d 103 0 [.ref 59, .int is0, .int 1] [] (G, I, J) (q_Ri (fun y1 G1 I1 J1 => ((y1 = 0 → q_W β xs L (d + 1) 170 35 [.ref 59, .int i1, .int i2] [] (G1, I1, J1) Q) ∧ (¬ y1 = 0 → q_W β xs L d 167 0 [.ref 59, .int i2] [] (G1, I1, J1) (q_Ri (fun y2 G2 I2 J2 => ((¬ y2 = 0 → q_W β xs L d 143 0 [.ref 59, .int i2, .retAddr 0] [] (G2, I2, J2) (q_Rv (fun G3 I3 J3 => (q_RT G3 ∧ ((¬ i1 = 0 → ((¬ i1 = 1 → ((¬ (i1 - 2) < (I3 59 51) → q_W β xs L (d + 1) 170 87 [.ref 59, .int i1, .int i2] [.int (-1)] (G3, I3, J3) Q) ∧ ((i1 - 2) < (I3 59 51) → (am_is (i1 - 2) 3 = true ∧ q_W β xs L (d + 1) 170 87 [.ref 59, .int i1, .int i2] [.int (I3 89 ((i1 - 2)).toNatClampNeg)] (G3, I3, J3) Q)))) ∧ (i1 = 1 → q_W β xs L (d + 1) 170 87 [.ref 59, .int i1, .int i2] [.int (I3 59 51)] (G3, I3, J3) Q))) ∧ (i1 = 0 → q_W β xs L (d + 1) 170 87 [.ref 59, .int i1, .int i2] [.int (I3 59 52)] (G3, I3, J3) Q)))) (fun x3 G3 I3 J3 => Q (.inr x3) (G3, I3, J3)))) ∧ (y2 = 0 → q_W β xs L (d + 1) 170 35 [.ref 59, .int i1, .int i2] [] (G2, I2, J2) Q))) (fun x2 G2 I2 J2 => Q (.inr x2) (G2, I2, J2)))))) (fun x1 G1 I1 J1 => Q (.inr x1) (G1, I1, J1)))) : q_W β xs L (d + 1) 170 20 [.ref 59, .int i1, .int i2] [.int is0, .ref 59] (G, I, J) Q := by
  refine w_ic f_170_20 ?_
  refine w_inv (as := [.ref 59, .int is0, .int 1]) (st' := []) f_170_21 rfl rfl rfl rfl rfl rfl H (k_i (fun y1 G1 I1 J1 H => ?_)) (x_n (fun _ => rfl) rfl (fun x h' h => h))
  refine w_ifeq f_170_24 (fun c => ?_) (fun c => ?_)
  · have H := H.1 c
    exact H
  · have H := H.2 c
    refine w_al f_170_27 rfl ?_
    refine w_il f_170_28 rfl ?_
    refine w_inv (as := [.ref 59, .int i2]) (st' := []) f_170_29 rfl rfl rfl rfl rfl rfl H (k_i (fun y2 G2 I2 J2 H => ?_)) (x_n (fun _ => rfl) rfl (fun x h' h => h))
    refine w_ifne f_170_32 (fun c => ?_) (fun c => ?_)
    · have H := H.1 c
      refine w_al f_170_37 rfl ?_
      refine w_il f_170_38 rfl ?_
      refine w_inv (as := [.ref 59, .int i2, .retAddr 0]) (st' := []) f_170_39 rfl rfl rfl rfl rfl rfl H (k_v (fun G3 I3 J3 H => ?_)) (x_n (fun _ => rfl) rfl (fun x h' h => h))
      have hR3 := H.1
      have H := H.2
      refine w_il f_170_42 rfl ?_
      refine w_ifne f_170_43 (fun c => ?_) (fun c => ?_)
      · have H := H.1 c
        refine w_il f_170_53 rfl ?_
        refine w_ic f_170_54 ?_
        refine w_icne f_170_55 (fun c => ?_) (fun c => ?_)
        · have H := H.1 c
          refine w_il f_170_65 rfl ?_
          refine w_ic f_170_66 ?_
          refine w_bin f_170_67 ?_
          refine w_al f_170_68 rfl ?_
          refine w_gi f_170_69 rfl ?_
          refine w_icge f_170_72 (fun c => ?_) (fun c => ?_)
          · have H := H.1 c
            refine w_ic f_170_86 ?_
            exact H
          · have H := H.2 c
            refine w_al f_170_75 rfl ?_
            refine w_gr f_170_76 rfl (hR3 _ _ _ rfl) ?_
            refine w_il f_170_79 rfl ?_
            refine w_ic f_170_80 ?_
            refine w_bin f_170_81 ?_
            have hb := H.1
            have H := H.2
            refine w_ald f_170_82 rfl hb ?_
            refine w_go f_170_83 ?_
            exact H
        · have H := H.2 c
          refine w_al f_170_58 rfl ?_
          refine w_gi f_170_59 rfl ?_
          refine w_go f_170_62 ?_
          exact H
      · have H := H.2 c
        refine w_al f_170_46 rfl ?_
        refine w_gi f_170_47 rfl ?_
        refine w_go f_170_50 ?_
        exact H
    · have H := H.2 c
      exact H
theorem g_170_35 {d : Nat} {G : am_G} {I : Nat → Nat → Int32} {J : Nat → Nat → Int64} {Q : am_O → am_H → Prop} (hR : q_RT G) (i1 : Int32) (i2 : Int32) (H : Q (.inl (some (.int 0))) (G, I, J)) : q_W β xs L (d + 1) 170 35 [.ref 59, .int i1, .int i2] [] (G, I, J) Q := by
  refine w_ic f_170_35 ?_
  exact w_reti f_170_36 H
theorem g_170_87 {d : Nat} {G : am_G} {I : Nat → Nat → Int32} {J : Nat → Nat → Int64} {Q : am_O → am_H → Prop} (hR : q_RT G) (i1 : Int32) (i2 : Int32) (is0 : Int32) (H : Q (.inl (some (.int is0))) (G, I, J)) : q_W β xs L (d + 1) 170 87 [.ref 59, .int i1, .int i2] [.int is0] (G, I, J) Q := by
  exact w_reti f_170_87 H
theorem g_171_0 {d : Nat} {G : am_G} {I : Nat → Nat → Int32} {J : Nat → Nat → Int64} {Q : am_O → am_H → Prop} (hR : q_RT G) (i1 : Int32) (i2 : Int32) (i3 : Int32) (i4 : Int32) (H : q_W β xs L d 107 0 [.ref 59, .int i1] [] (G, (am_u I 59 0 0), J) (q_Ri (fun y1 G1 I1 J1 => ((y1 = 0 → q_W β xs L (d + 1) 171 46 [.ref 59, .int i1, .int i2, .int i3, .int i4] [] (G1, I1, J1) Q) ∧ (¬ y1 = 0 → q_W β xs L d 108 0 [.ref 59, .int i2] [] (G1, I1, J1) (q_Ri (fun y2 G2 I2 J2 => ((y2 = 0 → q_W β xs L (d + 1) 171 46 [.ref 59, .int i1, .int i2, .int i3, .int i4] [] (G2, I2, J2) Q) ∧ (¬ y2 = 0 → q_W β xs L d 109 0 [.int i3] [] (G2, I2, J2) (q_Ri (fun y3 G3 I3 J3 => q_W β xs L d 103 0 [.ref 59, .int y3, .int 1] [] (G3, I3, J3) (q_Ri (fun y4 G4 I4 J4 => ((y4 = 0 → q_W β xs L (d + 1) 171 46 [.ref 59, .int i1, .int i2, .int i3, .int i4] [] (G4, I4, J4) Q) ∧ (¬ y4 = 0 → q_W β xs L d 167 0 [.ref 59, .int i4] [] (G4, I4, J4) (q_Ri (fun y5 G5 I5 J5 => ((y5 = 0 → q_W β xs L (d + 1) 171 46 [.ref 59, .int i1, .int i2, .int i3, .int i4] [] (G5, I5, J5) Q) ∧ (¬ y5 = 0 → q_W β xs L (d + 1) 171 47 [.ref 59, .int i1, .int i2, .int i3, .int i4] [.int 1] (G5, I5, J5) Q))) (fun x5 G5 I5 J5 => Q (.inr x5) (G5, I5, J5)))))) (fun x4 G4 I4 J4 => Q (.inr x4) (G4, I4, J4)))) (fun x3 G3 I3 J3 => Q (.inr x3) (G3, I3, J3)))))) (fun x2 G2 I2 J2 => Q (.inr x2) (G2, I2, J2)))))) (fun x1 G1 I1 J1 => Q (.inr x1) (G1, I1, J1)))) : q_W β xs L (d + 1) 171 0 [.ref 59, .int i1, .int i2, .int i3, .int i4] [] (G, I, J) Q := by
  refine w_al f_171_0 rfl ?_
  refine w_ic f_171_1 ?_
  refine w_pi f_171_2 rfl ?_
  refine w_al f_171_5 rfl ?_
  refine w_il f_171_6 rfl ?_
  refine w_inv (as := [.ref 59, .int i1]) (st' := []) f_171_7 rfl rfl rfl rfl rfl rfl H (k_i (fun y1 G1 I1 J1 H => ?_)) (x_n (fun _ => rfl) rfl (fun x h' h => h))
  refine w_ifeq f_171_10 (fun c => ?_) (fun c => ?_)
  · have H := H.1 c
    exact H
  · have H := H.2 c
    refine w_al f_171_13 rfl ?_
    refine w_il f_171_14 rfl ?_
    refine w_inv (as := [.ref 59, .int i2]) (st' := []) f_171_15 rfl rfl rfl rfl rfl rfl H (k_i (fun y2 G2 I2 J2 H => ?_)) (x_n (fun _ => rfl) rfl (fun x h' h => h))
    refine w_ifeq f_171_18 (fun c => ?_) (fun c => ?_)
    · have H := H.1 c
      exact H
    · have H := H.2 c
      refine w_al f_171_21 rfl ?_
      refine w_il f_171_22 rfl ?_
      refine w_invs (as := [.int i3]) (st' := [.ref 59]) f_171_23 rfl rfl rfl rfl rfl H (k_i (fun y3 G3 I3 J3 H => ?_)) (x_n (fun _ => rfl) rfl (fun x h' h => h))
      refine w_ic f_171_26 ?_
      refine w_inv (as := [.ref 59, .int y3, .int 1]) (st' := []) f_171_27 rfl rfl rfl rfl rfl rfl H (k_i (fun y4 G4 I4 J4 H => ?_)) (x_n (fun _ => rfl) rfl (fun x h' h => h))
      refine w_ifeq f_171_30 (fun c => ?_) (fun c => ?_)
      · have H := H.1 c
        exact H
      · have H := H.2 c
        refine w_al f_171_33 rfl ?_
        refine w_il f_171_34 rfl ?_
        refine w_inv (as := [.ref 59, .int i4]) (st' := []) f_171_36 rfl rfl rfl rfl rfl rfl H (k_i (fun y5 G5 I5 J5 H => ?_)) (x_n (fun _ => rfl) rfl (fun x h' h => h))
        refine w_ifeq f_171_39 (fun c => ?_) (fun c => ?_)
        · have H := H.1 c
          exact H
        · have H := H.2 c
          refine w_ic f_171_42 ?_
          refine w_go f_171_43 ?_
          exact H
theorem g_171_46 {d : Nat} {G : am_G} {I : Nat → Nat → Int32} {J : Nat → Nat → Int64} {Q : am_O → am_H → Prop} (hR : q_RT G) (i1 : Int32) (i2 : Int32) (i3 : Int32) (i4 : Int32) (H : q_W β xs L (d + 1) 171 47 [.ref 59, .int i1, .int i2, .int i3, .int i4] [.int 0] (G, I, J) Q) : q_W β xs L (d + 1) 171 46 [.ref 59, .int i1, .int i2, .int i3, .int i4] [] (G, I, J) Q := by
  refine w_ic f_171_46 ?_
  exact H
theorem g_171_47 {d : Nat} {G : am_G} {I : Nat → Nat → Int32} {J : Nat → Nat → Int64} {Q : am_O → am_H → Prop} (hR : q_RT G) (i1 : Int32) (i2 : Int32) (i3 : Int32) (i4 : Int32) (is0 : Int32) (H : (((is0 : Int32) = 0 ∨ (is0 : Int32) = 1) ∧ Q (.inl (some (.int is0))) (G, I, J))) : q_W β xs L (d + 1) 171 47 [.ref 59, .int i1, .int i2, .int i3, .int i4] [.int is0] (G, I, J) Q := by
  exact w_retz f_171_47 H.1 H.2
theorem g_172_0 {d : Nat} {G : am_G} {I : Nat → Nat → Int32} {J : Nat → Nat → Int64} {Q : am_O → am_H → Prop} (hR : q_RT G) (i1 : Int32) (i2 : Int32) (H : q_W β xs L d 172 5 [.ref 59, .int i1, .int i2, .int 0, .int 0] [] (G, I, J) Q) : q_W β xs L d 172 0 [.ref 59, .int i1, .int i2, .retAddr 0, .retAddr 0] [] (G, I, J) Q := by
  refine w_ic f_172_0 ?_
  refine w_is (ls' := [.ref 59, .int i1, .int i2, .int 0, .retAddr 0]) f_172_1 rfl ?_
  refine w_ic f_172_2 ?_
  refine w_is (ls' := [.ref 59, .int i1, .int i2, .int 0, .int 0]) f_172_3 rfl ?_
  exact H
theorem g_172_5 {d : Nat} {G : am_G} {I : Nat → Nat → Int32} {J : Nat → Nat → Int64} {Q : am_O → am_H → Prop} (hR : q_RT G) (i1 : Int32) (i2 : Int32) (i3 : Int32) (i4 : Int32) (H : ((¬ i4 < (I 59 52) → Q (.inl (some (.int i3))) (G, I, J)) ∧ (i4 < (I 59 52) → (am_is ((20 * i4) + i1) 540 = true ∧ q_W β xs L d 172 5 [.ref 59, .int i1, .int i2, .int (i3 + (((I 115 (((20 * i4) + i1)).toNatClampNeg) >>> (i2 &&& 31)) &&& 1)), .int (i4 + 1)] [] (G, I, J) Q)))) : q_W β xs L d 172 5 [.ref 59, .int i1, .int i2, .int i3, .int i4] [] (G, I, J) Q := by
  refine w_il f_172_5 rfl ?_
  refine w_al f_172_7 rfl ?_
  refine w_gi f_172_8 rfl ?_
  refine w_icge f_172_11 (fun c => ?_) (fun c => ?_)
  · have H := H.1 c
    refine w_il f_172_39 rfl ?_
    exact w_reti f_172_40 H
  · have H := H.2 c
    refine w_il f_172_14 rfl ?_
    refine w_al f_172_15 rfl ?_
    refine w_gr f_172_16 rfl (hR _ _ _ rfl) ?_
    refine w_ic f_172_19 ?_
    refine w_il f_172_21 rfl ?_
    refine w_bin f_172_23 ?_
    refine w_il f_172_24 rfl ?_
    refine w_bin f_172_25 ?_
    have hb := H.1
    have H := H.2
    refine w_ald f_172_26 rfl hb ?_
    refine w_il f_172_27 rfl ?_
    refine w_bin f_172_28 ?_
    refine w_ic f_172_29 ?_
    refine w_bin f_172_30 ?_
    refine w_bin f_172_31 ?_
    refine w_is (ls' := [.ref 59, .int i1, .int i2, .int (i3 + (((I 115 (((20 * i4) + i1)).toNatClampNeg) >>> (i2 &&& 31)) &&& 1)), .int i4]) f_172_32 rfl ?_
    refine w_iinc (ls' := [.ref 59, .int i1, .int i2, .int (i3 + (((I 115 (((20 * i4) + i1)).toNatClampNeg) >>> (i2 &&& 31)) &&& 1)), .int (i4 + 1)]) f_172_33 rfl rfl ?_
    refine w_go f_172_36 ?_
    exact H
theorem g_173_0 {d : Nat} {G : am_G} {I : Nat → Nat → Int32} {J : Nat → Nat → Int64} {Q : am_O → am_H → Prop} (hR : q_RT G) (i1 : Int32) (i2 : Int32) (i3 : Int32) (i4 : Int32) (H : q_W β xs L d 171 0 [.ref 59, .int i1, .int i2, .int i3, .int i4] [] (G, I, J) (q_Ri (fun y1 G1 I1 J1 => ((¬ y1 = 0 → q_W β xs L d 166 0 [.ref 59, .int i3, .int i4, .retAddr 0, .retAddr 0] [] (G1, I1, J1) (q_Rv (fun G2 I2 J2 => q_W β xs L d 172 0 [.ref 59, .int i1, .int i2, .retAddr 0, .retAddr 0] [] (G2, I2, J2) (q_Ri (fun y3 G3 I3 J3 => ((¬ y3 = 0 → ((¬ y3 = (I3 59 52) → q_W β xs L (d + 1) 173 52 [.ref 59, .int i1, .int i2, .int i3, .int i4, .int y3] [.int 2] (G3, I3, J3) Q) ∧ (y3 = (I3 59 52) → q_W β xs L (d + 1) 173 52 [.ref 59, .int i1, .int i2, .int i3, .int i4, .int y3] [.int 1] (G3, I3, J3) Q))) ∧ (y3 = 0 → q_W β xs L (d + 1) 173 52 [.ref 59, .int i1, .int i2, .int i3, .int i4, .int y3] [.int 0] (G3, I3, J3) Q))) (fun x3 G3 I3 J3 => Q (.inr x3) (G3, I3, J3)))) (fun x2 G2 I2 J2 => Q (.inr x2) (G2, I2, J2)))) ∧ (y1 = 0 → Q (.inl (some (.int 0))) (G1, I1, J1)))) (fun x1 G1 I1 J1 => Q (.inr x1) (G1, I1, J1)))) : q_W β xs L (d + 1) 173 0 [.ref 59, .int i1, .int i2, .int i3, .int i4, .retAddr 0] [] (G, I, J) Q := by
  refine w_al f_173_0 rfl ?_
  refine w_il f_173_1 rfl ?_
  refine w_il f_173_2 rfl ?_
  refine w_il f_173_3 rfl ?_
  refine w_il f_173_4 rfl ?_
  refine w_inv (as := [.ref 59, .int i1, .int i2, .int i3, .int i4]) (st' := []) f_173_6 rfl rfl rfl rfl rfl rfl H (k_i (fun y1 G1 I1 J1 H => ?_)) (x_n (fun _ => rfl) rfl (fun x h' h => h))
  refine w_ifne f_173_9 (fun c => ?_) (fun c => ?_)
  · have H := H.1 c
    refine w_al f_173_14 rfl ?_
    refine w_il f_173_15 rfl ?_
    refine w_il f_173_16 rfl ?_
    refine w_inv (as := [.ref 59, .int i3, .int i4, .retAddr 0, .retAddr 0]) (st' := []) f_173_18 rfl rfl rfl rfl rfl rfl H (k_v (fun G2 I2 J2 H => ?_)) (x_n (fun _ => rfl) rfl (fun x h' h => h))
    refine w_al f_173_21 rfl ?_
    refine w_il f_173_22 rfl ?_
    refine w_il f_173_23 rfl ?_
    refine w_inv (as := [.ref 59, .int i1, .int i2, .retAddr 0, .retAddr 0]) (st' := []) f_173_24 rfl rfl rfl rfl rfl rfl H (k_i (fun y3 G3 I3 J3 H => ?_)) (x_n (fun _ => rfl) rfl (fun x h' h => h))
    refine w_is (ls' := [.ref 59, .int i1, .int i2, .int i3, .int i4, .int y3]) f_173_27 rfl ?_
    refine w_il f_173_29 rfl ?_
    refine w_ifne f_173_31 (fun c => ?_) (fun c => ?_)
    · have H := H.1 c
      refine w_il f_173_38 rfl ?_
      refine w_al f_173_40 rfl ?_
      refine w_gi f_173_41 rfl ?_
      refine w_icne f_173_44 (fun c => ?_) (fun c => ?_)
      · have H := H.1 c
        refine w_ic f_173_51 ?_
        exact H
      · have H := H.2 c
        refine w_ic f_173_47 ?_
        refine w_go f_173_48 ?_
        exact H
    · have H := H.2 c
      refine w_ic f_173_34 ?_
      refine w_go f_173_35 ?_
      exact H
  · have H := H.2 c
    refine w_ic f_173_12 ?_
    exact w_reti f_173_13 H
theorem g_173_52 {d : Nat} {G : am_G} {I : Nat → Nat → Int32} {J : Nat → Nat → Int64} {Q : am_O → am_H → Prop} (hR : q_RT G) (i1 : Int32) (i2 : Int32) (i3 : Int32) (i4 : Int32) (i5 : Int32) (is0 : Int32) (H : Q (.inl (some (.int is0))) (G, I, J)) : q_W β xs L (d + 1) 173 52 [.ref 59, .int i1, .int i2, .int i3, .int i4, .int i5] [.int is0] (G, I, J) Q := by
  exact w_reti f_173_52 H
theorem g_174_0 {d : Nat} {G : am_G} {I : Nat → Nat → Int32} {J : Nat → Nat → Int64} {Q : am_O → am_H → Prop} (hR : q_RT G) (i1 : Int32) (i2 : Int32) (i3 : Int32) (i4 : Int32) (H : q_W β xs L d 171 0 [.ref 59, .int i1, .int i2, .int i3, .int i4] [] (G, I, J) (q_Ri (fun y1 G1 I1 J1 => ((¬ y1 = 0 → q_W β xs L d 166 0 [.ref 59, .int i3, .int i4, .retAddr 0, .retAddr 0] [] (G1, I1, J1) (q_Rv (fun G2 I2 J2 => q_W β xs L d 172 0 [.ref 59, .int i1, .int i2, .retAddr 0, .retAddr 0] [] (G2, I2, J2) (q_Ri (fun y3 G3 I3 J3 => Q (.inl (some (.int y3))) (G3, I3, J3)) (fun x3 G3 I3 J3 => Q (.inr x3) (G3, I3, J3)))) (fun x2 G2 I2 J2 => Q (.inr x2) (G2, I2, J2)))) ∧ (y1 = 0 → Q (.inl (some (.int 0))) (G1, I1, J1)))) (fun x1 G1 I1 J1 => Q (.inr x1) (G1, I1, J1)))) : q_W β xs L (d + 1) 174 0 [.ref 59, .int i1, .int i2, .int i3, .int i4] [] (G, I, J) Q := by
  refine w_al f_174_0 rfl ?_
  refine w_il f_174_1 rfl ?_
  refine w_il f_174_2 rfl ?_
  refine w_il f_174_3 rfl ?_
  refine w_il f_174_4 rfl ?_
  refine w_inv (as := [.ref 59, .int i1, .int i2, .int i3, .int i4]) (st' := []) f_174_6 rfl rfl rfl rfl rfl rfl H (k_i (fun y1 G1 I1 J1 H => ?_)) (x_n (fun _ => rfl) rfl (fun x h' h => h))
  refine w_ifne f_174_9 (fun c => ?_) (fun c => ?_)
  · have H := H.1 c
    refine w_al f_174_14 rfl ?_
    refine w_il f_174_15 rfl ?_
    refine w_il f_174_16 rfl ?_
    refine w_inv (as := [.ref 59, .int i3, .int i4, .retAddr 0, .retAddr 0]) (st' := []) f_174_18 rfl rfl rfl rfl rfl rfl H (k_v (fun G2 I2 J2 H => ?_)) (x_n (fun _ => rfl) rfl (fun x h' h => h))
    refine w_al f_174_21 rfl ?_
    refine w_il f_174_22 rfl ?_
    refine w_il f_174_23 rfl ?_
    refine w_inv (as := [.ref 59, .int i1, .int i2, .retAddr 0, .retAddr 0]) (st' := []) f_174_24 rfl rfl rfl rfl rfl rfl H (k_i (fun y3 G3 I3 J3 H => ?_)) (x_n (fun _ => rfl) rfl (fun x h' h => h))
    exact w_reti f_174_27 H
  · have H := H.2 c
    refine w_ic f_174_12 ?_
    exact w_reti f_174_13 H
theorem g_175_0 {d : Nat} {G : am_G} {I : Nat → Nat → Int32} {J : Nat → Nat → Int64} {Q : am_O → am_H → Prop} (hR : q_RT G) (i1 : Int32) (i2 : Int32) (i3 : Int32) (H : q_W β xs L (d + 1) 175 3 [.ref 59, .int i1, .int i2, .int i3, .int 0, .retAddr 0, .retAddr 0, .retAddr 0] [] (G, I, J) Q) : q_W β xs L (d + 1) 175 0 [.ref 59, .int i1, .int i2, .int i3, .retAddr 0, .retAddr 0, .retAddr 0, .retAddr 0] [] (G, I, J) Q := by
  refine w_ic f_175_0 ?_
  refine w_is (ls' := [.ref 59, .int i1, .int i2, .int i3, .int 0, .retAddr 0, .retAddr 0, .retAddr 0]) f_175_1 rfl ?_
  exact H
theorem g_175_3 {d : Nat} {G : am_G} {I : Nat → Nat → Int32} {J : Nat → Nat → Int64} {Q : am_O → am_H → Prop} (hR : q_RT G) (i1 : Int32) (i2 : Int32) (i3 : Int32) (i4 : Int32) (v5 : Value) (v6 : Value) (v7 : Value) (n5 : am_nl v5 = true) (n6 : am_nl v6 = true) (n7 : am_nl v7 = true) (H : ((¬ i4 < (I 59 52) → (((1 : Int32) = 0 ∨ (1 : Int32) = 1) ∧ Q (.inl (some (.int 1))) (G, I, J))) ∧ (i4 < (I 59 52) → q_W β xs L (d + 1) 175 15 [.ref 59, .int i1, .int i2, .int i3, .int i4, .int 0, v6, v7] [] (G, I, J) Q))) : q_W β xs L (d + 1) 175 3 [.ref 59, .int i1, .int i2, .int i3, .int i4, v5, v6, v7] [] (G, I, J) Q := by
  refine w_il f_175_3 rfl ?_
  refine w_al f_175_5 rfl ?_
  refine w_gi f_175_6 rfl ?_
  refine w_icge f_175_9 (fun c => ?_) (fun c => ?_)
  · have H := H.1 c
    refine w_ic f_175_137 ?_
    exact w_retz f_175_138 H.1 H.2
  · have H := H.2 c
    refine w_ic f_175_12 ?_
    refine w_is (ls' := [.ref 59, .int i1, .int i2, .int i3, .int i4, .int 0, v6, v7]) f_175_13 rfl ?_
    exact H
theorem g_175_15 {d : Nat} {G : am_G} {I : Nat → Nat → Int32} {J : Nat → Nat → Int64} {Q : am_O → am_H → Prop} (hR : q_RT G) (i1 : Int32) (i2 : Int32) (i3 : Int32) (i4 : Int32) (i5 : Int32) (v6 : Value) (v7 : Value) (n6 : am_nl v6 = true) (n7 : am_nl v7 = true) (H : ((¬ i5 < i4 → q_W β xs L (d + 1) 175 3 [.ref 59, .int i1, .int i2, .int i3, .int (i4 + 1), .int i5, v6, v7] [] (G, I, J) Q) ∧ (i5 < i4 → q_W β xs L (d + 1) 175 28 [.ref 59, .int i1, .int i2, .int i3, .int i4, .int i5, .int 1, .int 0] [] (G, I, J) Q))) : q_W β xs L (d + 1) 175 15 [.ref 59, .int i1, .int i2, .int i3, .int i4, .int i5, v6, v7] [] (G, I, J) Q := by
  refine w_il f_175_15 rfl ?_
  refine w_il f_175_17 rfl ?_
  refine w_icge f_175_19 (fun c => ?_) (fun c => ?_)
  · have H := H.1 c
    refine w_iinc (ls' := [.ref 59, .int i1, .int i2, .int i3, .int (i4 + 1), .int i5, v6, v7]) f_175_131 rfl rfl ?_
    refine w_go f_175_134 ?_
    exact H
  · have H := H.2 c
    refine w_ic f_175_22 ?_
    refine w_is (ls' := [.ref 59, .int i1, .int i2, .int i3, .int i4, .int i5, .int 1, v7]) f_175_23 rfl ?_
    refine w_ic f_175_25 ?_
    refine w_is (ls' := [.ref 59, .int i1, .int i2, .int i3, .int i4, .int i5, .int 1, .int 0]) f_175_26 rfl ?_
    exact H
theorem g_175_28 {d : Nat} {G : am_G} {I : Nat → Nat → Int32} {J : Nat → Nat → Int64} {Q : am_O → am_H → Prop} (hR : q_RT G) (i1 : Int32) (i2 : Int32) (i3 : Int32) (i4 : Int32) (i5 : Int32) (i6 : Int32) (i7 : Int32) (H : ((¬ i7 < (I 59 51) → ((i6 = 0 → q_W β xs L (d + 1) 175 125 [.ref 59, .int i1, .int i2, .int i3, .int i4, .int i5, .int i6, .int i7] [] (G, I, J) Q) ∧ (¬ i6 = 0 → (am_is ((20 * i4) + i2) 540 = true ∧ (am_is ((20 * i5) + i2) 540 = true ∧ (((((I 115 (((20 * i4) + i2)).toNatClampNeg) >>> (i3 &&& 31)) &&& 1) = (((I 115 (((20 * i5) + i2)).toNatClampNeg) >>> (i3 &&& 31)) &&& 1) → q_W β xs L (d + 1) 175 125 [.ref 59, .int i1, .int i2, .int i3, .int i4, .int i5, .int i6, .int i7] [] (G, I, J) Q) ∧ (¬ (((I 115 (((20 * i4) + i2)).toNatClampNeg) >>> (i3 &&& 31)) &&& 1) = (((I 115 (((20 * i5) + i2)).toNatClampNeg) >>> (i3 &&& 31)) &&& 1) → (((0 : Int32) = 0 ∨ (0 : Int32) = 1) ∧ Q (.inl (some (.int 0))) (G, I, J))))))))) ∧ (i7 < (I 59 51) → ((i6 = 0 → q_W β xs L (d + 1) 175 74 [.ref 59, .int i1, .int i2, .int i3, .int i4, .int i5, .int i6, .int i7] [] (G, I, J) Q) ∧ (¬ i6 = 0 → ((((i1 >>> (i7 &&& 31)) &&& 1) = 0 → q_W β xs L (d + 1) 175 70 [.ref 59, .int i1, .int i2, .int i3, .int i4, .int i5, .int i6, .int i7] [] (G, I, J) Q) ∧ (¬ ((i1 >>> (i7 &&& 31)) &&& 1) = 0 → q_W β xs L d 144 0 [.ref 59, .int i4, .int i7, .retAddr 0, .retAddr 0] [] (G, I, J) (q_Ri (fun y1 G1 I1 J1 => q_W β xs L d 144 0 [.ref 59, .int i5, .int i7, .retAddr 0, .retAddr 0] [] (G1, I1, J1) (q_Ri (fun y2 G2 I2 J2 => ((¬ y1 = y2 → q_W β xs L (d + 1) 175 74 [.ref 59, .int i1, .int i2, .int i3, .int i4, .int i5, .int i6, .int i7] [] (G2, I2, J2) Q) ∧ (y1 = y2 → q_W β xs L (d + 1) 175 70 [.ref 59, .int i1, .int i2, .int i3, .int i4, .int i5, .int i6, .int i7] [] (G2, I2, J2) Q))) (fun x2 G2 I2 J2 => Q (.inr x2) (G2, I2, J2)))) (fun x1 G1 I1 J1 => Q (.inr x1) (G1, I1, J1)))))))))) : q_W β xs L (d + 1) 175 28 [.ref 59, .int i1, .int i2, .int i3, .int i4, .int i5, .int i6, .int i7] [] (G, I, J) Q := by
  refine w_il f_175_28 rfl ?_
  refine w_al f_175_30 rfl ?_
  refine w_gi f_175_31 rfl ?_
  refine w_icge f_175_34 (fun c => ?_) (fun c => ?_)
  · have H := H.1 c
    refine w_il f_175_83 rfl ?_
    refine w_ifeq f_175_85 (fun c => ?_) (fun c => ?_)
    · have H := H.1 c
      exact H
    · have H := H.2 c
      refine w_al f_175_88 rfl ?_
      refine w_gr f_175_89 rfl (hR _ _ _ rfl) ?_
      refine w_ic f_175_92 ?_
      refine w_il f_175_94 rfl ?_
      refine w_bin f_175_96 ?_
      refine w_il f_175_97 rfl ?_
      refine w_bin f_175_98 ?_
      have hb := H.1
      have H := H.2
      refine w_ald f_175_99 rfl hb ?_
      refine w_il f_175_100 rfl ?_
      refine w_bin f_175_101 ?_
      refine w_ic f_175_102 ?_
      refine w_bin f_175_103 ?_
      refine w_al f_175_104 rfl ?_
      refine w_gr f_175_105 rfl (hR _ _ _ rfl) ?_
      refine w_ic f_175_108 ?_
      refine w_il f_175_110 rfl ?_
      refine w_bin f_175_112 ?_
      refine w_il f_175_113 rfl ?_
      refine w_bin f_175_114 ?_
      have hb := H.1
      have H := H.2
      refine w_ald f_175_115 rfl hb ?_
      refine w_il f_175_116 rfl ?_
      refine w_bin f_175_117 ?_
      refine w_ic f_175_118 ?_
      refine w_bin f_175_119 ?_
      refine w_iceq f_175_120 (fun c => ?_) (fun c => ?_)
      · have H := H.1 c
        exact H
      · have H := H.2 c
        refine w_ic f_175_123 ?_
        exact w_retz f_175_124 H.1 H.2
  · have H := H.2 c
    refine w_il f_175_37 rfl ?_
    refine w_ifeq f_175_39 (fun c => ?_) (fun c => ?_)
    · have H := H.1 c
      exact H
    · have H := H.2 c
      refine w_il f_175_42 rfl ?_
      refine w_il f_175_43 rfl ?_
      refine w_bin f_175_45 ?_
      refine w_ic f_175_46 ?_
      refine w_bin f_175_47 ?_
      refine w_ifeq f_175_48 (fun c => ?_) (fun c => ?_)
      · have H := H.1 c
        exact H
      · have H := H.2 c
        refine w_al f_175_51 rfl ?_
        refine w_il f_175_52 rfl ?_
        refine w_il f_175_54 rfl ?_
        refine w_inv (as := [.ref 59, .int i4, .int i7, .retAddr 0, .retAddr 0]) (st' := []) f_175_56 rfl rfl rfl rfl rfl rfl H (k_i (fun y1 G1 I1 J1 H => ?_)) (x_n (fun _ => rfl) rfl (fun x h' h => h))
        refine w_al f_175_59 rfl ?_
        refine w_il f_175_60 rfl ?_
        refine w_il f_175_62 rfl ?_
        refine w_inv (as := [.ref 59, .int i5, .int i7, .retAddr 0, .retAddr 0]) (st' := [.int y1]) f_175_64 rfl rfl rfl rfl rfl rfl H (k_i (fun y2 G2 I2 J2 H => ?_)) (x_n (fun _ => rfl) rfl (fun x h' h => h))
        refine w_icne f_175_67 (fun c => ?_) (fun c => ?_)
        · have H := H.1 c
          exact H
        · have H := H.2 c
          exact H
theorem g_175_70 {d : Nat} {G : am_G} {I : Nat → Nat → Int32} {J : Nat → Nat → Int64} {Q : am_O → am_H → Prop} (hR : q_RT G) (i1 : Int32) (i2 : Int32) (i3 : Int32) (i4 : Int32) (i5 : Int32) (i6 : Int32) (i7 : Int32) (H : q_W β xs L (d + 1) 175 75 [.ref 59, .int i1, .int i2, .int i3, .int i4, .int i5, .int i6, .int i7] [.int 1] (G, I, J) Q) : q_W β xs L (d + 1) 175 70 [.ref 59, .int i1, .int i2, .int i3, .int i4, .int i5, .int i6, .int i7] [] (G, I, J) Q := by
  refine w_ic f_175_70 ?_
  refine w_go f_175_71 ?_
  exact H
theorem g_175_74 {d : Nat} {G : am_G} {I : Nat → Nat → Int32} {J : Nat → Nat → Int64} {Q : am_O → am_H → Prop} (hR : q_RT G) (i1 : Int32) (i2 : Int32) (i3 : Int32) (i4 : Int32) (i5 : Int32) (i6 : Int32) (i7 : Int32) (H : q_W β xs L (d + 1) 175 75 [.ref 59, .int i1, .int i2, .int i3, .int i4, .int i5, .int i6, .int i7] [.int 0] (G, I, J) Q) : q_W β xs L (d + 1) 175 74 [.ref 59, .int i1, .int i2, .int i3, .int i4, .int i5, .int i6, .int i7] [] (G, I, J) Q := by
  refine w_ic f_175_74 ?_
  exact H
theorem g_175_75 {d : Nat} {G : am_G} {I : Nat → Nat → Int32} {J : Nat → Nat → Int64} {Q : am_O → am_H → Prop} (hR : q_RT G) (i1 : Int32) (i2 : Int32) (i3 : Int32) (i4 : Int32) (i5 : Int32) (i6 : Int32) (i7 : Int32) (is0 : Int32) (H : q_W β xs L (d + 1) 175 28 [.ref 59, .int i1, .int i2, .int i3, .int i4, .int i5, .int is0, .int (i7 + 1)] [] (G, I, J) Q) : q_W β xs L (d + 1) 175 75 [.ref 59, .int i1, .int i2, .int i3, .int i4, .int i5, .int i6, .int i7] [.int is0] (G, I, J) Q := by
  refine w_is (ls' := [.ref 59, .int i1, .int i2, .int i3, .int i4, .int i5, .int is0, .int i7]) f_175_75 rfl ?_
  refine w_iinc (ls' := [.ref 59, .int i1, .int i2, .int i3, .int i4, .int i5, .int is0, .int (i7 + 1)]) f_175_77 rfl rfl ?_
  refine w_go f_175_80 ?_
  exact H
theorem g_175_125 {d : Nat} {G : am_G} {I : Nat → Nat → Int32} {J : Nat → Nat → Int64} {Q : am_O → am_H → Prop} (hR : q_RT G) (i1 : Int32) (i2 : Int32) (i3 : Int32) (i4 : Int32) (i5 : Int32) (i6 : Int32) (i7 : Int32) (H : q_W β xs L (d + 1) 175 15 [.ref 59, .int i1, .int i2, .int i3, .int i4, .int (i5 + 1), .int i6, .int i7] [] (G, I, J) Q) : q_W β xs L (d + 1) 175 125 [.ref 59, .int i1, .int i2, .int i3, .int i4, .int i5, .int i6, .int i7] [] (G, I, J) Q := by
  refine w_iinc (ls' := [.ref 59, .int i1, .int i2, .int i3, .int i4, .int (i5 + 1), .int i6, .int i7]) f_175_125 rfl rfl ?_
  refine w_go f_175_128 ?_
  exact H
theorem g_176_0 {d : Nat} {G : am_G} {I : Nat → Nat → Int32} {J : Nat → Nat → Int64} {Q : am_O → am_H → Prop} (hR : q_RT G) (i0 : Int32) (H : q_W β xs L d 176 4 [.int i0, .int 0, .int 0] [] (G, I, J) Q) : q_W β xs L d 176 0 [.int i0, .retAddr 0, .retAddr 0] [] (G, I, J) Q := by
  refine w_ic f_176_0 ?_
  refine w_is (ls' := [.int i0, .int 0, .retAddr 0]) f_176_1 rfl ?_
  refine w_ic f_176_2 ?_
  refine w_is (ls' := [.int i0, .int 0, .int 0]) f_176_3 rfl ?_
  exact H
theorem g_176_4 {d : Nat} {G : am_G} {I : Nat → Nat → Int32} {J : Nat → Nat → Int64} {Q : am_O → am_H → Prop} (hR : q_RT G) (i0 : Int32) (i1 : Int32) (i2 : Int32) (H : ((¬ i2 < 5 → Q (.inl (some (.int i1))) (G, I, J)) ∧ (i2 < 5 → q_W β xs L d 176 4 [.int i0, .int (i1 + ((i0 >>> (i2 &&& 31)) &&& 1)), .int (i2 + 1)] [] (G, I, J) Q))) : q_W β xs L d 176 4 [.int i0, .int i1, .int i2] [] (G, I, J) Q := by
  refine w_il f_176_4 rfl ?_
  refine w_ic f_176_5 ?_
  refine w_icge f_176_6 (fun c => ?_) (fun c => ?_)
  · have H := H.1 c
    refine w_il f_176_23 rfl ?_
    exact w_reti f_176_24 H
  · have H := H.2 c
    refine w_il f_176_9 rfl ?_
    refine w_il f_176_10 rfl ?_
    refine w_il f_176_11 rfl ?_
    refine w_bin f_176_12 ?_
    refine w_ic f_176_13 ?_
    refine w_bin f_176_14 ?_
    refine w_bin f_176_15 ?_
    refine w_is (ls' := [.int i0, .int (i1 + ((i0 >>> (i2 &&& 31)) &&& 1)), .int i2]) f_176_16 rfl ?_
    refine w_iinc (ls' := [.int i0, .int (i1 + ((i0 >>> (i2 &&& 31)) &&& 1)), .int (i2 + 1)]) f_176_17 rfl rfl ?_
    refine w_go f_176_20 ?_
    exact H
theorem g_177_0 {d : Nat} {G : am_G} {I : Nat → Nat → Int32} {J : Nat → Nat → Int64} {Q : am_O → am_H → Prop} (hR : q_RT G) (i1 : Int32) (i2 : Int32) (i3 : Int32) (i4 : Int32) (H : q_W β xs L d 171 0 [.ref 59, .int i1, .int i2, .int i3, .int i4] [] (G, I, J) (q_Ri (fun y1 G1 I1 J1 => ((¬ y1 = 0 → q_W β xs L d 166 0 [.ref 59, .int i3, .int i4, .retAddr 0, .retAddr 0] [] (G1, I1, J1) (q_Rv (fun G2 I2 J2 => q_W β xs L (d + 1) 177 27 [.ref 59, .int i1, .int i2, .int i3, .int i4, .int (-1), .int 0, .retAddr 0, .retAddr 0] [] (G2, I2, J2) Q) (fun x2 G2 I2 J2 => Q (.inr x2) (G2, I2, J2)))) ∧ (y1 = 0 → Q (.inl (some (.int 0))) (G1, I1, J1)))) (fun x1 G1 I1 J1 => Q (.inr x1) (G1, I1, J1)))) : q_W β xs L (d + 1) 177 0 [.ref 59, .int i1, .int i2, .int i3, .int i4, .retAddr 0, .retAddr 0, .retAddr 0, .retAddr 0] [] (G, I, J) Q := by
  refine w_al f_177_0 rfl ?_
  refine w_il f_177_1 rfl ?_
  refine w_il f_177_2 rfl ?_
  refine w_il f_177_3 rfl ?_
  refine w_il f_177_4 rfl ?_
  refine w_inv (as := [.ref 59, .int i1, .int i2, .int i3, .int i4]) (st' := []) f_177_6 rfl rfl rfl rfl rfl rfl H (k_i (fun y1 G1 I1 J1 H => ?_)) (x_n (fun _ => rfl) rfl (fun x h' h => h))
  refine w_ifne f_177_9 (fun c => ?_) (fun c => ?_)
  · have H := H.1 c
    refine w_al f_177_14 rfl ?_
    refine w_il f_177_15 rfl ?_
    refine w_il f_177_16 rfl ?_
    refine w_inv (as := [.ref 59, .int i3, .int i4, .retAddr 0, .retAddr 0]) (st' := []) f_177_18 rfl rfl rfl rfl rfl rfl H (k_v (fun G2 I2 J2 H => ?_)) (x_n (fun _ => rfl) rfl (fun x h' h => h))
    refine w_ic f_177_21 ?_
    refine w_is (ls' := [.ref 59, .int i1, .int i2, .int i3, .int i4, .int (-1), .retAddr 0, .retAddr 0, .retAddr 0]) f_177_22 rfl ?_
    refine w_ic f_177_24 ?_
    refine w_is (ls' := [.ref 59, .int i1, .int i2, .int i3, .int i4, .int (-1), .int 0, .retAddr 0, .retAddr 0]) f_177_25 rfl ?_
    exact H
  · have H := H.2 c
    refine w_ic f_177_12 ?_
    exact w_reti f_177_13 H
theorem g_177_27 {d : Nat} {G : am_G} {I : Nat → Nat → Int32} {J : Nat → Nat → Int64} {Q : am_O → am_H → Prop} (hR : q_RT G) (i1 : Int32) (i2 : Int32) (i3 : Int32) (i4 : Int32) (i5 : Int32) (i6 : Int32) (v7 : Value) (v8 : Value) (n7 : am_nl v7 = true) (n8 : am_nl v8 = true) (H : ((¬ i6 < (1 <<< ((I 59 51) &&& 31)) → Q (.inl (some (.int i5))) (G, I, J)) ∧ (i6 < (1 <<< ((I 59 51) &&& 31)) → ((i5 = (-1) → q_W β xs L (d + 1) 177 60 [.ref 59, .int i1, .int i2, .int i3, .int i4, .int i5, .int i6, v7, v8] [] (G, I, J) Q) ∧ (¬ i5 = (-1) → q_W β xs L d 176 0 [.int i6, .retAddr 0, .retAddr 0] [] (G, I, J) (q_Ri (fun y1 G1 I1 J1 => q_W β xs L d 176 0 [.int i5, .retAddr 0, .retAddr 0] [] (G1, I1, J1) (q_Ri (fun y2 G2 I2 J2 => ((¬ y2 < y1 → q_W β xs L (d + 1) 177 60 [.ref 59, .int i1, .int i2, .int i3, .int i4, .int i5, .int i6, v7, v8] [] (G2, I2, J2) Q) ∧ (y2 < y1 → q_W β xs L (d + 1) 177 125 [.ref 59, .int i1, .int i2, .int i3, .int i4, .int i5, .int i6, v7, v8] [] (G2, I2, J2) Q))) (fun x2 G2 I2 J2 => Q (.inr x2) (G2, I2, J2)))) (fun x1 G1 I1 J1 => Q (.inr x1) (G1, I1, J1)))))))) : q_W β xs L (d + 1) 177 27 [.ref 59, .int i1, .int i2, .int i3, .int i4, .int i5, .int i6, v7, v8] [] (G, I, J) Q := by
  refine w_il f_177_27 rfl ?_
  refine w_ic f_177_29 ?_
  refine w_al f_177_30 rfl ?_
  refine w_gi f_177_31 rfl ?_
  refine w_bin f_177_34 ?_
  refine w_icge f_177_35 (fun c => ?_) (fun c => ?_)
  · have H := H.1 c
    refine w_il f_177_131 rfl ?_
    exact w_reti f_177_133 H
  · have H := H.2 c
    refine w_il f_177_38 rfl ?_
    refine w_ic f_177_40 ?_
    refine w_iceq f_177_41 (fun c => ?_) (fun c => ?_)
    · have H := H.1 c
      exact H
    · have H := H.2 c
      refine w_il f_177_44 rfl ?_
      refine w_invs (as := [.int i6, .retAddr 0, .retAddr 0]) (st' := []) f_177_46 rfl rfl rfl rfl rfl H (k_i (fun y1 G1 I1 J1 H => ?_)) (x_n (fun _ => rfl) rfl (fun x h' h => h))
      refine w_il f_177_49 rfl ?_
      refine w_invs (as := [.int i5, .retAddr 0, .retAddr 0]) (st' := [.int y1]) f_177_51 rfl rfl rfl rfl rfl H (k_i (fun y2 G2 I2 J2 H => ?_)) (x_n (fun _ => rfl) rfl (fun x h' h => h))
      refine w_icle f_177_54 (fun c => ?_) (fun c => ?_)
      · have H := H.1 c
        exact H
      · have H := H.2 c
        refine w_go f_177_57 ?_
        exact H
theorem g_177_60 {d : Nat} {G : am_G} {I : Nat → Nat → Int32} {J : Nat → Nat → Int64} {Q : am_O → am_H → Prop} (hR : q_RT G) (i1 : Int32) (i2 : Int32) (i3 : Int32) (i4 : Int32) (i5 : Int32) (i6 : Int32) (v7 : Value) (v8 : Value) (n7 : am_nl v7 = true) (n8 : am_nl v8 = true) (H : ((i5 = (-1) → q_W β xs L (d + 1) 177 98 [.ref 59, .int i1, .int i2, .int i3, .int i4, .int i5, .int i6, .int (i6 ^^^ i5), v8] [] (G, I, J) Q) ∧ (¬ i5 = (-1) → q_W β xs L d 176 0 [.int i6, .retAddr 0, .retAddr 0] [] (G, I, J) (q_Ri (fun y1 G1 I1 J1 => q_W β xs L d 176 0 [.int i5, .retAddr 0, .retAddr 0] [] (G1, I1, J1) (q_Ri (fun y2 G2 I2 J2 => ((y1 < y2 → q_W β xs L (d + 1) 177 98 [.ref 59, .int i1, .int i2, .int i3, .int i4, .int i5, .int i6, .int (i6 ^^^ i5), v8] [] (G2, I2, J2) Q) ∧ (¬ y1 < y2 → (((i6 &&& ((i6 ^^^ i5) &&& (-(i6 ^^^ i5)))) = 0 → q_W β xs L (d + 1) 177 103 [.ref 59, .int i1, .int i2, .int i3, .int i4, .int i5, .int i6, .int (i6 ^^^ i5), v8] [.int 0] (G2, I2, J2) Q) ∧ (¬ (i6 &&& ((i6 ^^^ i5) &&& (-(i6 ^^^ i5)))) = 0 → q_W β xs L (d + 1) 177 98 [.ref 59, .int i1, .int i2, .int i3, .int i4, .int i5, .int i6, .int (i6 ^^^ i5), v8] [] (G2, I2, J2) Q))))) (fun x2 G2 I2 J2 => Q (.inr x2) (G2, I2, J2)))) (fun x1 G1 I1 J1 => Q (.inr x1) (G1, I1, J1)))))) : q_W β xs L (d + 1) 177 60 [.ref 59, .int i1, .int i2, .int i3, .int i4, .int i5, .int i6, v7, v8] [] (G, I, J) Q := by
  refine w_il f_177_60 rfl ?_
  refine w_il f_177_62 rfl ?_
  refine w_bin f_177_64 ?_
  refine w_is (ls' := [.ref 59, .int i1, .int i2, .int i3, .int i4, .int i5, .int i6, .int (i6 ^^^ i5), v8]) f_177_65 rfl ?_
  refine w_il f_177_67 rfl ?_
  refine w_ic f_177_69 ?_
  refine w_iceq f_177_70 (fun c => ?_) (fun c => ?_)
  · have H := H.1 c
    exact H
  · have H := H.2 c
    refine w_il f_177_73 rfl ?_
    refine w_invs (as := [.int i6, .retAddr 0, .retAddr 0]) (st' := []) f_177_75 rfl rfl rfl rfl rfl H (k_i (fun y1 G1 I1 J1 H => ?_)) (x_n (fun _ => rfl) rfl (fun x h' h => h))
    refine w_il f_177_78 rfl ?_
    refine w_invs (as := [.int i5, .retAddr 0, .retAddr 0]) (st' := [.int y1]) f_177_80 rfl rfl rfl rfl rfl H (k_i (fun y2 G2 I2 J2 H => ?_)) (x_n (fun _ => rfl) rfl (fun x h' h => h))
    refine w_iclt f_177_83 (fun c => ?_) (fun c => ?_)
    · have H := H.1 c
      exact H
    · have H := H.2 c
      refine w_il f_177_86 rfl ?_
      refine w_il f_177_88 rfl ?_
      refine w_il f_177_90 rfl ?_
      refine w_un f_177_92 ?_
      refine w_bin f_177_93 ?_
      refine w_bin f_177_94 ?_
      refine w_ifeq f_177_95 (fun c => ?_) (fun c => ?_)
      · have H := H.1 c
        refine w_ic f_177_102 ?_
        exact H
      · have H := H.2 c
        exact H
theorem g_177_98 {d : Nat} {G : am_G} {I : Nat → Nat → Int32} {J : Nat → Nat → Int64} {Q : am_O → am_H → Prop} (hR : q_RT G) (i1 : Int32) (i2 : Int32) (i3 : Int32) (i4 : Int32) (i5 : Int32) (i6 : Int32) (i7 : Int32) (v8 : Value) (n8 : am_nl v8 = true) (H : q_W β xs L (d + 1) 177 103 [.ref 59, .int i1, .int i2, .int i3, .int i4, .int i5, .int i6, .int i7, v8] [.int 1] (G, I, J) Q) : q_W β xs L (d + 1) 177 98 [.ref 59, .int i1, .int i2, .int i3, .int i4, .int i5, .int i6, .int i7, v8] [] (G, I, J) Q := by
  refine w_ic f_177_98 ?_
  refine w_go f_177_99 ?_
  exact H
theorem g_177_103 {d : Nat} {G : am_G} {I : Nat → Nat → Int32} {J : Nat → Nat → Int64} {Q : am_O → am_H → Prop} (hR : q_RT G) (i1 : Int32) (i2 : Int32) (i3 : Int32) (i4 : Int32) (i5 : Int32) (i6 : Int32) (i7 : Int32) (v8 : Value) (is0 : Int32) (n8 : am_nl v8 = true) (H : ((is0 = 0 → q_W β xs L (d + 1) 177 125 [.ref 59, .int i1, .int i2, .int i3, .int i4, .int i5, .int i6, .int i7, .int is0] [] (G, I, J) Q) ∧ (¬ is0 = 0 → q_W β xs L d 175 0 [.ref 59, .int i6, .int i1, .int i2, .retAddr 0, .retAddr 0, .retAddr 0, .retAddr 0] [] (G, I, J) (q_Ri (fun y1 G1 I1 J1 => ((y1 = 0 → q_W β xs L (d + 1) 177 125 [.ref 59, .int i1, .int i2, .int i3, .int i4, .int i5, .int i6, .int i7, .int is0] [] (G1, I1, J1) Q) ∧ (¬ y1 = 0 → q_W β xs L (d + 1) 177 125 [.ref 59, .int i1, .int i2, .int i3, .int i4, .int i6, .int i6, .int i7, .int is0] [] (G1, I1, J1) Q))) (fun x1 G1 I1 J1 => Q (.inr x1) (G1, I1, J1)))))) : q_W β xs L (d + 1) 177 103 [.ref 59, .int i1, .int i2, .int i3, .int i4, .int i5, .int i6, .int i7, v8] [.int is0] (G, I, J) Q := by
  refine w_is (ls' := [.ref 59, .int i1, .int i2, .int i3, .int i4, .int i5, .int i6, .int i7, .int is0]) f_177_103 rfl ?_
  refine w_il f_177_105 rfl ?_
  refine w_ifeq f_177_107 (fun c => ?_) (fun c => ?_)
  · have H := H.1 c
    exact H
  · have H := H.2 c
    refine w_al f_177_110 rfl ?_
    refine w_il f_177_111 rfl ?_
    refine w_il f_177_113 rfl ?_
    refine w_il f_177_114 rfl ?_
    refine w_inv (as := [.ref 59, .int i6, .int i1, .int i2, .retAddr 0, .retAddr 0, .retAddr 0, .retAddr 0]) (st' := []) f_177_115 rfl rfl rfl rfl rfl rfl H (k_i (fun y1 G1 I1 J1 H => ?_)) (x_n (fun _ => rfl) rfl (fun x h' h => h))
    refine w_ifeq f_177_118 (fun c => ?_) (fun c => ?_)
    · have H := H.1 c
      exact H
    · have H := H.2 c
      refine w_il f_177_121 rfl ?_
      refine w_is (ls' := [.ref 59, .int i1, .int i2, .int i3, .int i4, .int i6, .int i6, .int i7, .int is0]) f_177_123 rfl ?_
      exact H
theorem g_177_125 {d : Nat} {G : am_G} {I : Nat → Nat → Int32} {J : Nat → Nat → Int64} {Q : am_O → am_H → Prop} (hR : q_RT G) (i1 : Int32) (i2 : Int32) (i3 : Int32) (i4 : Int32) (i5 : Int32) (i6 : Int32) (v7 : Value) (v8 : Value) (n7 : am_nl v7 = true) (n8 : am_nl v8 = true) (H : q_W β xs L (d + 1) 177 27 [.ref 59, .int i1, .int i2, .int i3, .int i4, .int i5, .int (i6 + 1), v7, v8] [] (G, I, J) Q) : q_W β xs L (d + 1) 177 125 [.ref 59, .int i1, .int i2, .int i3, .int i4, .int i5, .int i6, v7, v8] [] (G, I, J) Q := by
  refine w_iinc (ls' := [.ref 59, .int i1, .int i2, .int i3, .int i4, .int i5, .int (i6 + 1), v7, v8]) f_177_125 rfl rfl ?_
  refine w_go f_177_128 ?_
  exact H
theorem g_178_0 {d : Nat} {G : am_G} {I : Nat → Nat → Int32} {J : Nat → Nat → Int64} {Q : am_O → am_H → Prop} (hR : q_RT G) (i1 : Int32) (i2 : Int32) (i3 : Int32) (i4 : Int32) (H : q_W β xs L d 107 0 [.ref 59, .int i1] [] (G, (am_u I 59 0 0), J) (q_Ri (fun y1 G1 I1 J1 => ((y1 = 0 → q_W β xs L (d + 1) 178 34 [.ref 59, .int i1, .int i2, .int i3, .int i4] [] (G1, I1, J1) Q) ∧ (¬ y1 = 0 → q_W β xs L d 109 0 [.int i2] [] (G1, I1, J1) (q_Ri (fun y2 G2 I2 J2 => q_W β xs L d 103 0 [.ref 59, .int y2, .int 1] [] (G2, I2, J2) (q_Ri (fun y3 G3 I3 J3 => ((y3 = 0 → q_W β xs L (d + 1) 178 34 [.ref 59, .int i1, .int i2, .int i3, .int i4] [] (G3, I3, J3) Q) ∧ (¬ y3 = 0 → q_W β xs L d 167 0 [.ref 59, .int i4] [] (G3, I3, J3) (q_Ri (fun y4 G4 I4 J4 => ((¬ y4 = 0 → q_W β xs L d 143 0 [.ref 59, .int i4, .retAddr 0] [] (G4, I4, J4) (q_Rv (fun G5 I5 J5 => ((i3 < 0 → q_W β xs L (d + 1) 178 59 [.ref 59, .int i1, .int i2, .int i3, .int i4] [.ref 59] (G5, I5, J5) Q) ∧ (¬ i3 < 0 → ((¬ i3 < (I5 59 52) → q_W β xs L (d + 1) 178 59 [.ref 59, .int i1, .int i2, .int i3, .int i4] [.ref 59] (G5, I5, J5) Q) ∧ (i3 < (I5 59 52) → q_W β xs L (d + 1) 178 60 [.ref 59, .int i1, .int i2, .int i3, .int i4] [.int 1, .ref 59] (G5, I5, J5) Q))))) (fun x5 G5 I5 J5 => Q (.inr x5) (G5, I5, J5)))) ∧ (y4 = 0 → q_W β xs L (d + 1) 178 34 [.ref 59, .int i1, .int i2, .int i3, .int i4] [] (G4, I4, J4) Q))) (fun x4 G4 I4 J4 => Q (.inr x4) (G4, I4, J4)))))) (fun x3 G3 I3 J3 => Q (.inr x3) (G3, I3, J3)))) (fun x2 G2 I2 J2 => Q (.inr x2) (G2, I2, J2)))))) (fun x1 G1 I1 J1 => Q (.inr x1) (G1, I1, J1)))) : q_W β xs L (d + 1) 178 0 [.ref 59, .int i1, .int i2, .int i3, .int i4] [] (G, I, J) Q := by
  refine w_al f_178_0 rfl ?_
  refine w_ic f_178_1 ?_
  refine w_pi f_178_2 rfl ?_
  refine w_al f_178_5 rfl ?_
  refine w_il f_178_6 rfl ?_
  refine w_inv (as := [.ref 59, .int i1]) (st' := []) f_178_7 rfl rfl rfl rfl rfl rfl H (k_i (fun y1 G1 I1 J1 H => ?_)) (x_n (fun _ => rfl) rfl (fun x h' h => h))
  refine w_ifeq f_178_10 (fun c => ?_) (fun c => ?_)
  · have H := H.1 c
    exact H
  · have H := H.2 c
    refine w_al f_178_13 rfl ?_
    refine w_il f_178_14 rfl ?_
    refine w_invs (as := [.int i2]) (st' := [.ref 59]) f_178_15 rfl rfl rfl rfl rfl H (k_i (fun y2 G2 I2 J2 H => ?_)) (x_n (fun _ => rfl) rfl (fun x h' h => h))
    refine w_ic f_178_18 ?_
    refine w_inv (as := [.ref 59, .int y2, .int 1]) (st' := []) f_178_19 rfl rfl rfl rfl rfl rfl H (k_i (fun y3 G3 I3 J3 H => ?_)) (x_n (fun _ => rfl) rfl (fun x h' h => h))
    refine w_ifeq f_178_22 (fun c => ?_) (fun c => ?_)
    · have H := H.1 c
      exact H
    · have H := H.2 c
      refine w_al f_178_25 rfl ?_
      refine w_il f_178_26 rfl ?_
      refine w_inv (as := [.ref 59, .int i4]) (st' := []) f_178_28 rfl rfl rfl rfl rfl rfl H (k_i (fun y4 G4 I4 J4 H => ?_)) (x_n (fun _ => rfl) rfl (fun x h' h => h))
      refine w_ifne f_178_31 (fun c => ?_) (fun c => ?_)
      · have H := H.1 c
        refine w_al f_178_36 rfl ?_
        refine w_il f_178_37 rfl ?_
        refine w_inv (as := [.ref 59, .int i4, .retAddr 0]) (st' := []) f_178_39 rfl rfl rfl rfl rfl rfl H (k_v (fun G5 I5 J5 H => ?_)) (x_n (fun _ => rfl) rfl (fun x h' h => h))
        refine w_al f_178_42 rfl ?_
        refine w_il f_178_43 rfl ?_
        refine w_iflt f_178_44 (fun c => ?_) (fun c => ?_)
        · have H := H.1 c
          exact H
        · have H := H.2 c
          refine w_il f_178_47 rfl ?_
          refine w_al f_178_48 rfl ?_
          refine w_gi f_178_49 rfl ?_
          refine w_icge f_178_52 (fun c => ?_) (fun c => ?_)
          · have H := H.1 c
            exact H
          · have H := H.2 c
            refine w_ic f_178_55 ?_
            refine w_go f_178_56 ?_
            exact H
      · have H := H.2 c
        exact H
theorem g_178_34 {d : Nat} {G : am_G} {I : Nat → Nat → Int32} {J : Nat → Nat → Int64} {Q : am_O → am_H → Prop} (hR : q_RT G) (i1 : Int32) (i2 : Int32) (i3 : Int32) (i4 : Int32) (H : Q (.inl (some (.int 0))) (G, I, J)) : q_W β xs L (d + 1) 178 34 [.ref 59, .int i1, .int i2, .int i3, .int i4] [] (G, I, J) Q := by
  refine w_ic f_178_34 ?_
  exact w_reti f_178_35 H
theorem g_178_59 {d : Nat} {G : am_G} {I : Nat → Nat → Int32} {J : Nat → Nat → Int64} {Q : am_O → am_H → Prop} (hR : q_RT G) (i1 : Int32) (i2 : Int32) (i3 : Int32) (i4 : Int32) (H : q_W β xs L (d + 1) 178 60 [.ref 59, .int i1, .int i2, .int i3, .int i4] [.int 0, .ref 59] (G, I, J) Q) : q_W β xs L (d + 1) 178 59 [.ref 59, .int i1, .int i2, .int i3, .int i4] [.ref 59] (G, I, J) Q := by
  refine w_ic f_178_59 ?_
  exact H
theorem g_178_60 {d : Nat} {G : am_G} {I : Nat → Nat → Int32} {J : Nat → Nat → Int64} {Q : am_O → am_H → Prop} (hR : q_RT G) (i1 : Int32) (i2 : Int32) (i3 : Int32) (i4 : Int32) (is0 : Int32) (H : q_W β xs L d 103 0 [.ref 59, .int is0, .int 1] [] (G, I, J) (q_Ri (fun y1 G1 I1 J1 => ((¬ y1 = 0 → q_W β xs L d 166 0 [.ref 59, .int i2, .int i4, .retAddr 0, .retAddr 0] [] (G1, I1, J1) (q_Rv (fun G2 I2 J2 => (q_RT G2 ∧ (am_is ((20 * i3) + i1) 540 = true ∧ Q (.inl (some (.int (I2 115 (((20 * i3) + i1)).toNatClampNeg)))) (G2, I2, J2)))) (fun x2 G2 I2 J2 => Q (.inr x2) (G2, I2, J2)))) ∧ (y1 = 0 → Q (.inl (some (.int 0))) (G1, I1, J1)))) (fun x1 G1 I1 J1 => Q (.inr x1) (G1, I1, J1)))) : q_W β xs L (d + 1) 178 60 [.ref 59, .int i1, .int i2, .int i3, .int i4] [.int is0, .ref 59] (G, I, J) Q := by
  refine w_ic f_178_60 ?_
  refine w_inv (as := [.ref 59, .int is0, .int 1]) (st' := []) f_178_61 rfl rfl rfl rfl rfl rfl H (k_i (fun y1 G1 I1 J1 H => ?_)) (x_n (fun _ => rfl) rfl (fun x h' h => h))
  refine w_ifne f_178_64 (fun c => ?_) (fun c => ?_)
  · have H := H.1 c
    refine w_al f_178_69 rfl ?_
    refine w_il f_178_70 rfl ?_
    refine w_il f_178_71 rfl ?_
    refine w_inv (as := [.ref 59, .int i2, .int i4, .retAddr 0, .retAddr 0]) (st' := []) f_178_73 rfl rfl rfl rfl rfl rfl H (k_v (fun G2 I2 J2 H => ?_)) (x_n (fun _ => rfl) rfl (fun x h' h => h))
    have hR2 := H.1
    have H := H.2
    refine w_al f_178_76 rfl ?_
    refine w_gr f_178_77 rfl (hR2 _ _ _ rfl) ?_
    refine w_ic f_178_80 ?_
    refine w_il f_178_82 rfl ?_
    refine w_bin f_178_83 ?_
    refine w_il f_178_84 rfl ?_
    refine w_bin f_178_85 ?_
    have hb := H.1
    have H := H.2
    refine w_ald f_178_86 rfl hb ?_
    exact w_reti f_178_87 H
  · have H := H.2 c
    refine w_ic f_178_67 ?_
    exact w_reti f_178_68 H
theorem g_179_0 {d : Nat} {G : am_G} {I : Nat → Nat → Int32} {J : Nat → Nat → Int64} {Q : am_O → am_H → Prop} (hR : q_RT G) (i1 : Int32) (i2 : Int32) (i3 : Int32) (i4 : Int32) (i5 : Int32) (i6 : Int32) (H : q_W β xs L d 107 0 [.ref 59, .int i1] [] (G, (am_u I 59 0 0), J) (q_Ri (fun y1 G1 I1 J1 => ((y1 = 0 → q_W β xs L (d + 1) 179 61 [.ref 59, .int i1, .int i2, .int i3, .int i4, .int i5, .int i6, .retAddr 0, .retAddr 0, .retAddr 0] [] (G1, I1, J1) Q) ∧ (¬ y1 = 0 → q_W β xs L d 108 0 [.ref 59, .int i2] [] (G1, I1, J1) (q_Ri (fun y2 G2 I2 J2 => ((y2 = 0 → q_W β xs L (d + 1) 179 61 [.ref 59, .int i1, .int i2, .int i3, .int i4, .int i5, .int i6, .retAddr 0, .retAddr 0, .retAddr 0] [] (G2, I2, J2) Q) ∧ (¬ y2 = 0 → q_W β xs L d 109 0 [.int i3] [] (G2, I2, J2) (q_Ri (fun y3 G3 I3 J3 => ((y3 = 0 → q_W β xs L (d + 1) 179 44 [.ref 59, .int i1, .int i2, .int i3, .int i4, .int i5, .int i6, .retAddr 0, .retAddr 0, .retAddr 0] [.ref 59] (G3, I3, J3) Q) ∧ (¬ y3 = 0 → ((i5 < 0 → q_W β xs L (d + 1) 179 44 [.ref 59, .int i1, .int i2, .int i3, .int i4, .int i5, .int i6, .retAddr 0, .retAddr 0, .retAddr 0] [.ref 59] (G3, I3, J3) Q) ∧ (¬ i5 < 0 → ((5 < i5 → q_W β xs L (d + 1) 179 44 [.ref 59, .int i1, .int i2, .int i3, .int i4, .int i5, .int i6, .retAddr 0, .retAddr 0, .retAddr 0] [.ref 59] (G3, I3, J3) Q) ∧ (¬ 5 < i5 → q_W β xs L (d + 1) 179 45 [.ref 59, .int i1, .int i2, .int i3, .int i4, .int i5, .int i6, .retAddr 0, .retAddr 0, .retAddr 0] [.int 1, .ref 59] (G3, I3, J3) Q))))))) (fun x3 G3 I3 J3 => Q (.inr x3) (G3, I3, J3)))))) (fun x2 G2 I2 J2 => Q (.inr x2) (G2, I2, J2)))))) (fun x1 G1 I1 J1 => Q (.inr x1) (G1, I1, J1)))) : q_W β xs L (d + 1) 179 0 [.ref 59, .int i1, .int i2, .int i3, .int i4, .int i5, .int i6, .retAddr 0, .retAddr 0, .retAddr 0] [] (G, I, J) Q := by
  refine w_al f_179_0 rfl ?_
  refine w_ic f_179_1 ?_
  refine w_pi f_179_2 rfl ?_
  refine w_al f_179_5 rfl ?_
  refine w_il f_179_6 rfl ?_
  refine w_inv (as := [.ref 59, .int i1]) (st' := []) f_179_7 rfl rfl rfl rfl rfl rfl H (k_i (fun y1 G1 I1 J1 H => ?_)) (x_n (fun _ => rfl) rfl (fun x h' h => h))
  refine w_ifeq f_179_10 (fun c => ?_) (fun c => ?_)
  · have H := H.1 c
    exact H
  · have H := H.2 c
    refine w_al f_179_13 rfl ?_
    refine w_il f_179_14 rfl ?_
    refine w_inv (as := [.ref 59, .int i2]) (st' := []) f_179_15 rfl rfl rfl rfl rfl rfl H (k_i (fun y2 G2 I2 J2 H => ?_)) (x_n (fun _ => rfl) rfl (fun x h' h => h))
    refine w_ifeq f_179_18 (fun c => ?_) (fun c => ?_)
    · have H := H.1 c
      exact H
    · have H := H.2 c
      refine w_al f_179_21 rfl ?_
      refine w_il f_179_22 rfl ?_
      refine w_invs (as := [.int i3]) (st' := [.ref 59]) f_179_23 rfl rfl rfl rfl rfl H (k_i (fun y3 G3 I3 J3 H => ?_)) (x_n (fun _ => rfl) rfl (fun x h' h => h))
      refine w_ifeq f_179_26 (fun c => ?_) (fun c => ?_)
      · have H := H.1 c
        exact H
      · have H := H.2 c
        refine w_il f_179_29 rfl ?_
        refine w_iflt f_179_31 (fun c => ?_) (fun c => ?_)
        · have H := H.1 c
          exact H
        · have H := H.2 c
          refine w_il f_179_34 rfl ?_
          refine w_ic f_179_36 ?_
          refine w_icgt f_179_37 (fun c => ?_) (fun c => ?_)
          · have H := H.1 c
            exact H
          · have H := H.2 c
            refine w_ic f_179_40 ?_
            refine w_go f_179_41 ?_
            exact H
theorem g_179_44 {d : Nat} {G : am_G} {I : Nat → Nat → Int32} {J : Nat → Nat → Int64} {Q : am_O → am_H → Prop} (hR : q_RT G) (i1 : Int32) (i2 : Int32) (i3 : Int32) (i4 : Int32) (i5 : Int32) (i6 : Int32) (H : q_W β xs L (d + 1) 179 45 [.ref 59, .int i1, .int i2, .int i3, .int i4, .int i5, .int i6, .retAddr 0, .retAddr 0, .retAddr 0] [.int 0, .ref 59] (G, I, J) Q) : q_W β xs L (d + 1) 179 44 [.ref 59, .int i1, .int i2, .int i3, .int i4, .int i5, .int i6, .retAddr 0, .retAddr 0, .retAddr 0] [.ref 59] (G, I, J) Q := by
  refine w_ic f_179_44 ?_
  exact H
theorem g_179_45 {d : Nat} {G : am_G} {I : Nat → Nat → Int32} {J : Nat → Nat → Int64} {Q : am_O → am_H → Prop} (hR : q_RT G) (i1 : Int32) (i2 : Int32) (i3 : Int32) (i4 : Int32) (i5 : Int32) (i6 : Int32) (is0 : Int32) (H : q_W β xs L d 103 0 [.ref 59, .int is0, .int 1] [] (G, I, J) (q_Ri (fun y1 G1 I1 J1 => ((y1 = 0 → q_W β xs L (d + 1) 179 61 [.ref 59, .int i1, .int i2, .int i3, .int i4, .int i5, .int i6, .retAddr 0, .retAddr 0, .retAddr 0] [] (G1, I1, J1) Q) ∧ (¬ y1 = 0 → q_W β xs L d 167 0 [.ref 59, .int i6] [] (G1, I1, J1) (q_Ri (fun y2 G2 I2 J2 => ((¬ y2 = 0 → q_W β xs L d 143 0 [.ref 59, .int i6, .retAddr 0] [] (G2, I2, J2) (q_Rv (fun G3 I3 J3 => q_W β xs L d 147 0 [.ref 59, .int 0, .int i3, .int i6, .int (-1), .retAddr 0, .retAddr 0] [] (G3, I3, J3) (q_Rv (fun G4 I4 J4 => (q_RT G4 ∧ (am_is ((5 * i1) + i2) 100 = true ∧ q_W β xs L (d + 1) 179 96 [.ref 59, .int i1, .int i2, .int i3, .int i4, .int i5, .int i6, .int 0, .int (-1), .int (I4 99 (((5 * i1) + i2)).toNatClampNeg)] [] (G4, I4, J4) Q))) (fun x4 G4 I4 J4 => Q (.inr x4) (G4, I4, J4)))) (fun x3 G3 I3 J3 => Q (.inr x3) (G3, I3, J3)))) ∧ (y2 = 0 → q_W β xs L (d + 1) 179 61 [.ref 59, .int i1, .int i2, .int i3, .int i4, .int i5, .int i6, .retAddr 0, .retAddr 0, .retAddr 0] [] (G2, I2, J2) Q))) (fun x2 G2 I2 J2 => Q (.inr x2) (G2, I2, J2)))))) (fun x1 G1 I1 J1 => Q (.inr x1) (G1, I1, J1)))) : q_W β xs L (d + 1) 179 45 [.ref 59, .int i1, .int i2, .int i3, .int i4, .int i5, .int i6, .retAddr 0, .retAddr 0, .retAddr 0] [.int is0, .ref 59] (G, I, J) Q := by
  refine w_ic f_179_45 ?_
  refine w_inv (as := [.ref 59, .int is0, .int 1]) (st' := []) f_179_46 rfl rfl rfl rfl rfl rfl H (k_i (fun y1 G1 I1 J1 H => ?_)) (x_n (fun _ => rfl) rfl (fun x h' h => h))
  refine w_ifeq f_179_49 (fun c => ?_) (fun c => ?_)
  · have H := H.1 c
    exact H
  · have H := H.2 c
    refine w_al f_179_52 rfl ?_
    refine w_il f_179_53 rfl ?_
    refine w_inv (as := [.ref 59, .int i6]) (st' := []) f_179_55 rfl rfl rfl rfl rfl rfl H (k_i (fun y2 G2 I2 J2 H => ?_)) (x_n (fun _ => rfl) rfl (fun x h' h => h))
    refine w_ifne f_179_58 (fun c => ?_) (fun c => ?_)
    · have H := H.1 c
      refine w_al f_179_63 rfl ?_
      refine w_il f_179_64 rfl ?_
      refine w_inv (as := [.ref 59, .int i6, .retAddr 0]) (st' := []) f_179_66 rfl rfl rfl rfl rfl rfl H (k_v (fun G3 I3 J3 H => ?_)) (x_n (fun _ => rfl) rfl (fun x h' h => h))
      refine w_al f_179_69 rfl ?_
      refine w_ic f_179_70 ?_
      refine w_il f_179_71 rfl ?_
      refine w_il f_179_72 rfl ?_
      refine w_ic f_179_74 ?_
      refine w_inv (as := [.ref 59, .int 0, .int i3, .int i6, .int (-1), .retAddr 0, .retAddr 0]) (st' := []) f_179_75 rfl rfl rfl rfl rfl rfl H (k_v (fun G4 I4 J4 H => ?_)) (x_n (fun _ => rfl) rfl (fun x h' h => h))
      have hR4 := H.1
      have H := H.2
      refine w_ic f_179_78 ?_
      refine w_is (ls' := [.ref 59, .int i1, .int i2, .int i3, .int i4, .int i5, .int i6, .int 0, .retAddr 0, .retAddr 0]) f_179_79 rfl ?_
      refine w_ic f_179_81 ?_
      refine w_is (ls' := [.ref 59, .int i1, .int i2, .int i3, .int i4, .int i5, .int i6, .int 0, .int (-1), .retAddr 0]) f_179_82 rfl ?_
      refine w_al f_179_84 rfl ?_
      refine w_gr f_179_85 rfl (hR4 _ _ _ rfl) ?_
      refine w_ic f_179_88 ?_
      refine w_il f_179_89 rfl ?_
      refine w_bin f_179_90 ?_
      refine w_il f_179_91 rfl ?_
      refine w_bin f_179_92 ?_
      have hb := H.1
      have H := H.2
      refine w_ald f_179_93 rfl hb ?_
      refine w_is (ls' := [.ref 59, .int i1, .int i2, .int i3, .int i4, .int i5, .int i6, .int 0, .int (-1), .int (I4 99 (((5 * i1) + i2)).toNatClampNeg)]) f_179_94 rfl ?_
      exact H
    · have H := H.2 c
      exact H
theorem g_179_61 {d : Nat} {G : am_G} {I : Nat → Nat → Int32} {J : Nat → Nat → Int64} {Q : am_O → am_H → Prop} (hR : q_RT G) (i1 : Int32) (i2 : Int32) (i3 : Int32) (i4 : Int32) (i5 : Int32) (i6 : Int32) (H : Q (.inl (some (.int 0))) (G, I, J)) : q_W β xs L (d + 1) 179 61 [.ref 59, .int i1, .int i2, .int i3, .int i4, .int i5, .int i6, .retAddr 0, .retAddr 0, .retAddr 0] [] (G, I, J) Q := by
  refine w_ic f_179_61 ?_
  exact w_reti f_179_62 H
theorem g_179_96 {d : Nat} {G : am_G} {I : Nat → Nat → Int32} {J : Nat → Nat → Int64} {Q : am_O → am_H → Prop} (hR : q_RT G) (i1 : Int32) (i2 : Int32) (i3 : Int32) (i4 : Int32) (i5 : Int32) (i6 : Int32) (i7 : Int32) (i8 : Int32) (i9 : Int32) (H : ((i9 = (-1) → q_W β xs L (d + 1) 179 135 [.ref 59, .int i1, .int i2, .int i3, .int i4, .int i5, .int i6, .int i7, .int i8, .int i9] [] (G, I, J) Q) ∧ (¬ i9 = (-1) → ((¬ i7 < 40 → q_W β xs L (d + 1) 179 135 [.ref 59, .int i1, .int i2, .int i3, .int i4, .int i5, .int i6, .int i7, .int i8, .int i9] [] (G, I, J) Q) ∧ (i7 < 40 → ((¬ i7 = i4 → q_W β xs L (d + 1) 179 120 [.ref 59, .int i1, .int i2, .int i3, .int i4, .int i5, .int i6, .int i7, .int i8, .int i9] [] (G, I, J) Q) ∧ (i7 = i4 → q_W β xs L (d + 1) 179 120 [.ref 59, .int i1, .int i2, .int i3, .int i4, .int i5, .int i6, .int i7, .int i9, .int i9] [] (G, I, J) Q))))))) : q_W β xs L (d + 1) 179 96 [.ref 59, .int i1, .int i2, .int i3, .int i4, .int i5, .int i6, .int i7, .int i8, .int i9] [] (G, I, J) Q := by
  refine w_il f_179_96 rfl ?_
  refine w_ic f_179_98 ?_
  refine w_iceq f_179_99 (fun c => ?_) (fun c => ?_)
  · have H := H.1 c
    exact H
  · have H := H.2 c
    refine w_il f_179_102 rfl ?_
    refine w_ic f_179_104 ?_
    refine w_icge f_179_106 (fun c => ?_) (fun c => ?_)
    · have H := H.1 c
      exact H
    · have H := H.2 c
      refine w_il f_179_109 rfl ?_
      refine w_il f_179_111 rfl ?_
      refine w_icne f_179_113 (fun c => ?_) (fun c => ?_)
      · have H := H.1 c
        exact H
      · have H := H.2 c
        refine w_il f_179_116 rfl ?_
        refine w_is (ls' := [.ref 59, .int i1, .int i2, .int i3, .int i4, .int i5, .int i6, .int i7, .int i9, .int i9]) f_179_118 rfl ?_
        exact H
theorem g_179_120 {d : Nat} {G : am_G} {I : Nat → Nat → Int32} {J : Nat → Nat → Int64} {Q : am_O → am_H → Prop} (hR : q_RT G) (i1 : Int32) (i2 : Int32) (i3 : Int32) (i4 : Int32) (i5 : Int32) (i6 : Int32) (i7 : Int32) (i8 : Int32) (i9 : Int32) (H : (am_is i9 23000 = true ∧ q_W β xs L (d + 1) 179 96 [.ref 59, .int i1, .int i2, .int i3, .int i4, .int i5, .int i6, .int (i7 + 1), .int i8, .int (I 106 (i9).toNatClampNeg)] [] (G, I, J) Q)) : q_W β xs L (d + 1) 179 120 [.ref 59, .int i1, .int i2, .int i3, .int i4, .int i5, .int i6, .int i7, .int i8, .int i9] [] (G, I, J) Q := by
  refine w_iinc (ls' := [.ref 59, .int i1, .int i2, .int i3, .int i4, .int i5, .int i6, .int (i7 + 1), .int i8, .int i9]) f_179_120 rfl rfl ?_
  refine w_al f_179_123 rfl ?_
  refine w_gr f_179_124 rfl (hR _ _ _ rfl) ?_
  refine w_il f_179_127 rfl ?_
  have hb := H.1
  have H := H.2
  refine w_ald f_179_129 rfl hb ?_
  refine w_is (ls' := [.ref 59, .int i1, .int i2, .int i3, .int i4, .int i5, .int i6, .int (i7 + 1), .int i8, .int (I 106 (i9).toNatClampNeg)]) f_179_130 rfl ?_
  refine w_go f_179_132 ?_
  exact H
theorem g_179_135 {d : Nat} {G : am_G} {I : Nat → Nat → Int32} {J : Nat → Nat → Int64} {Q : am_O → am_H → Prop} (hR : q_RT G) (i1 : Int32) (i2 : Int32) (i3 : Int32) (i4 : Int32) (i5 : Int32) (i6 : Int32) (i7 : Int32) (i8 : Int32) (i9 : Int32) (H : ((¬ i4 = (-1) → ((i4 < 0 → q_W β xs L (d + 1) 179 160 [.ref 59, .int i1, .int i2, .int i3, .int i4, .int i5, .int i6, .int i7, .int i8, .int i9] [.ref 59] (G, I, J) Q) ∧ (¬ i4 < 0 → ((i8 = (-1) → q_W β xs L (d + 1) 179 160 [.ref 59, .int i1, .int i2, .int i3, .int i4, .int i5, .int i6, .int i7, .int i8, .int i9] [.ref 59] (G, I, J) Q) ∧ (¬ i8 = (-1) → q_W β xs L (d + 1) 179 161 [.ref 59, .int i1, .int i2, .int i3, .int i4, .int i5, .int i6, .int i7, .int i8, .int i9] [.int 1, .ref 59] (G, I, J) Q))))) ∧ (i4 = (-1) → Q (.inl (some (.int i7))) (G, I, J)))) : q_W β xs L (d + 1) 179 135 [.ref 59, .int i1, .int i2, .int i3, .int i4, .int i5, .int i6, .int i7, .int i8, .int i9] [] (G, I, J) Q := by
  refine w_il f_179_135 rfl ?_
  refine w_ic f_179_137 ?_
  refine w_icne f_179_138 (fun c => ?_) (fun c => ?_)
  · have H := H.1 c
    refine w_al f_179_144 rfl ?_
    refine w_il f_179_145 rfl ?_
    refine w_iflt f_179_147 (fun c => ?_) (fun c => ?_)
    · have H := H.1 c
      exact H
    · have H := H.2 c
      refine w_il f_179_150 rfl ?_
      refine w_ic f_179_152 ?_
      refine w_iceq f_179_153 (fun c => ?_) (fun c => ?_)
      · have H := H.1 c
        exact H
      · have H := H.2 c
        refine w_ic f_179_156 ?_
        refine w_go f_179_157 ?_
        exact H
  · have H := H.2 c
    refine w_il f_179_141 rfl ?_
    exact w_reti f_179_143 H
theorem g_179_160 {d : Nat} {G : am_G} {I : Nat → Nat → Int32} {J : Nat → Nat → Int64} {Q : am_O → am_H → Prop} (hR : q_RT G) (i1 : Int32) (i2 : Int32) (i3 : Int32) (i4 : Int32) (i5 : Int32) (i6 : Int32) (i7 : Int32) (i8 : Int32) (i9 : Int32) (H : q_W β xs L (d + 1) 179 161 [.ref 59, .int i1, .int i2, .int i3, .int i4, .int i5, .int i6, .int i7, .int i8, .int i9] [.int 0, .ref 59] (G, I, J) Q) : q_W β xs L (d + 1) 179 160 [.ref 59, .int i1, .int i2, .int i3, .int i4, .int i5, .int i6, .int i7, .int i8, .int i9] [.ref 59] (G, I, J) Q := by
  refine w_ic f_179_160 ?_
  exact H
theorem g_179_161 {d : Nat} {G : am_G} {I : Nat → Nat → Int32} {J : Nat → Nat → Int64} {Q : am_O → am_H → Prop} (hR : q_RT G) (i1 : Int32) (i2 : Int32) (i3 : Int32) (i4 : Int32) (i5 : Int32) (i6 : Int32) (i7 : Int32) (i8 : Int32) (i9 : Int32) (is0 : Int32) (H : q_W β xs L d 103 0 [.ref 59, .int is0, .int 1] [] (G, I, J) (q_Ri (fun y1 G1 I1 J1 => ((¬ y1 = 0 → (∃ v : Nat, (q_sw 0 4 [208, 216, 224, 235, 246] 254) i5 = some v ∧ q_W β xs L (d + 1) 179 v [.ref 59, .int i1, .int i2, .int i3, .int i4, .int i5, .int i6, .int i7, .int i8, .int i9] [] (G1, I1, J1) Q)) ∧ (y1 = 0 → Q (.inl (some (.int 0))) (G1, I1, J1)))) (fun x1 G1 I1 J1 => Q (.inr x1) (G1, I1, J1)))) : q_W β xs L (d + 1) 179 161 [.ref 59, .int i1, .int i2, .int i3, .int i4, .int i5, .int i6, .int i7, .int i8, .int i9] [.int is0, .ref 59] (G, I, J) Q := by
  refine w_ic f_179_161 ?_
  refine w_inv (as := [.ref 59, .int is0, .int 1]) (st' := []) f_179_162 rfl rfl rfl rfl rfl rfl H (k_i (fun y1 G1 I1 J1 H => ?_)) (x_n (fun _ => rfl) rfl (fun x h' h => h))
  refine w_ifne f_179_165 (fun c => ?_) (fun c => ?_)
  · have H := H.1 c
    refine w_il f_179_170 rfl ?_
    obtain ⟨v, hg, H⟩ := H
    exact w_sw f_179_172 hg H
  · have H := H.2 c
    refine w_ic f_179_168 ?_
    exact w_reti f_179_169 H
theorem g_179_208 {d : Nat} {G : am_G} {I : Nat → Nat → Int32} {J : Nat → Nat → Int64} {Q : am_O → am_H → Prop} (hR : q_RT G) (i1 : Int32) (i2 : Int32) (i3 : Int32) (i4 : Int32) (i5 : Int32) (i6 : Int32) (i7 : Int32) (i8 : Int32) (i9 : Int32) (H : (am_is i8 23000 = true ∧ Q (.inl (some (.int (I 102 (i8).toNatClampNeg)))) (G, I, J))) : q_W β xs L (d + 1) 179 208 [.ref 59, .int i1, .int i2, .int i3, .int i4, .int i5, .int i6, .int i7, .int i8, .int i9] [] (G, I, J) Q := by
  refine w_al f_179_208 rfl ?_
  refine w_gr f_179_209 rfl (hR _ _ _ rfl) ?_
  refine w_il f_179_212 rfl ?_
  have hb := H.1
  have H := H.2
  refine w_ald f_179_214 rfl hb ?_
  exact w_reti f_179_215 H
theorem g_179_216 {d : Nat} {G : am_G} {I : Nat → Nat → Int32} {J : Nat → Nat → Int64} {Q : am_O → am_H → Prop} (hR : q_RT G) (i1 : Int32) (i2 : Int32) (i3 : Int32) (i4 : Int32) (i5 : Int32) (i6 : Int32) (i7 : Int32) (i8 : Int32) (i9 : Int32) (H : (am_is i8 23000 = true ∧ Q (.inl (some (.int (I 103 (i8).toNatClampNeg)))) (G, I, J))) : q_W β xs L (d + 1) 179 216 [.ref 59, .int i1, .int i2, .int i3, .int i4, .int i5, .int i6, .int i7, .int i8, .int i9] [] (G, I, J) Q := by
  refine w_al f_179_216 rfl ?_
  refine w_gr f_179_217 rfl (hR _ _ _ rfl) ?_
  refine w_il f_179_220 rfl ?_
  have hb := H.1
  have H := H.2
  refine w_ald f_179_222 rfl hb ?_
  exact w_reti f_179_223 H
theorem g_179_224 {d : Nat} {G : am_G} {I : Nat → Nat → Int32} {J : Nat → Nat → Int64} {Q : am_O → am_H → Prop} (hR : q_RT G) (i1 : Int32) (i2 : Int32) (i3 : Int32) (i4 : Int32) (i5 : Int32) (i6 : Int32) (i7 : Int32) (i8 : Int32) (i9 : Int32) (H : (am_is i8 23000 = true ∧ ((12 : Int32) ≠ 0 ∧ Q (.inl (some (.int ((I 104 (i8).toNatClampNeg) / 12)))) (G, I, J)))) : q_W β xs L (d + 1) 179 224 [.ref 59, .int i1, .int i2, .int i3, .int i4, .int i5, .int i6, .int i7, .int i8, .int i9] [] (G, I, J) Q := by
  refine w_al f_179_224 rfl ?_
  refine w_gr f_179_225 rfl (hR _ _ _ rfl) ?_
  refine w_il f_179_228 rfl ?_
  have hb := H.1
  have H := H.2
  refine w_ald f_179_230 rfl hb ?_
  refine w_ic f_179_231 ?_
  have hb := H.1
  have H := H.2
  refine w_div f_179_233 hb ?_
  exact w_reti f_179_234 H
theorem g_179_235 {d : Nat} {G : am_G} {I : Nat → Nat → Int32} {J : Nat → Nat → Int64} {Q : am_O → am_H → Prop} (hR : q_RT G) (i1 : Int32) (i2 : Int32) (i3 : Int32) (i4 : Int32) (i5 : Int32) (i6 : Int32) (i7 : Int32) (i8 : Int32) (i9 : Int32) (H : (am_is i8 23000 = true ∧ ((12 : Int32) ≠ 0 ∧ Q (.inl (some (.int ((I 104 (i8).toNatClampNeg) - (I 104 (i8).toNatClampNeg) / 12 * 12)))) (G, I, J)))) : q_W β xs L (d + 1) 179 235 [.ref 59, .int i1, .int i2, .int i3, .int i4, .int i5, .int i6, .int i7, .int i8, .int i9] [] (G, I, J) Q := by
  refine w_al f_179_235 rfl ?_
  refine w_gr f_179_236 rfl (hR _ _ _ rfl) ?_
  refine w_il f_179_239 rfl ?_
  have hb := H.1
  have H := H.2
  refine w_ald f_179_241 rfl hb ?_
  refine w_ic f_179_242 ?_
  have hb := H.1
  have H := H.2
  refine w_div f_179_244 hb ?_
  exact w_reti f_179_245 H
theorem g_179_246 {d : Nat} {G : am_G} {I : Nat → Nat → Int32} {J : Nat → Nat → Int64} {Q : am_O → am_H → Prop} (hR : q_RT G) (i1 : Int32) (i2 : Int32) (i3 : Int32) (i4 : Int32) (i5 : Int32) (i6 : Int32) (i7 : Int32) (i8 : Int32) (i9 : Int32) (H : (am_is i8 23000 = true ∧ Q (.inl (some (.int (I 105 (i8).toNatClampNeg)))) (G, I, J))) : q_W β xs L (d + 1) 179 246 [.ref 59, .int i1, .int i2, .int i3, .int i4, .int i5, .int i6, .int i7, .int i8, .int i9] [] (G, I, J) Q := by
  refine w_al f_179_246 rfl ?_
  refine w_gr f_179_247 rfl (hR _ _ _ rfl) ?_
  refine w_il f_179_250 rfl ?_
  have hb := H.1
  have H := H.2
  refine w_ald f_179_252 rfl hb ?_
  exact w_reti f_179_253 H
theorem g_179_254 {d : Nat} {G : am_G} {I : Nat → Nat → Int32} {J : Nat → Nat → Int64} {Q : am_O → am_H → Prop} (hR : q_RT G) (i1 : Int32) (i2 : Int32) (i3 : Int32) (i4 : Int32) (i5 : Int32) (i6 : Int32) (i7 : Int32) (i8 : Int32) (i9 : Int32) (H : (am_is i8 23000 = true ∧ q_W β xs L d 155 0 [.int (I 107 (i8).toNatClampNeg)] [] (G, I, J) (q_Ri (fun y1 G1 I1 J1 => Q (.inl (some (.int y1))) (G1, I1, J1)) (fun x1 G1 I1 J1 => Q (.inr x1) (G1, I1, J1))))) : q_W β xs L (d + 1) 179 254 [.ref 59, .int i1, .int i2, .int i3, .int i4, .int i5, .int i6, .int i7, .int i8, .int i9] [] (G, I, J) Q := by
  refine w_al f_179_254 rfl ?_
  refine w_gr f_179_255 rfl (hR _ _ _ rfl) ?_
  refine w_il f_179_258 rfl ?_
  have hb := H.1
  have H := H.2
  refine w_ald f_179_260 rfl hb ?_
  refine w_invs (as := [.int (I 107 (i8).toNatClampNeg)]) (st' := []) f_179_261 rfl rfl rfl rfl rfl H (k_i (fun y1 G1 I1 J1 H => ?_)) (x_n (fun _ => rfl) rfl (fun x h' h => h))
  exact w_reti f_179_264 H
theorem g_180_0 {d : Nat} {G : am_G} {I : Nat → Nat → Int32} {J : Nat → Nat → Int64} {Q : am_O → am_H → Prop} (hR : q_RT G) (i1 : Int32) (i2 : Int32) (i3 : Int32) (i4 : Int32) (i5 : Int32) (H : q_W β xs L d 107 0 [.ref 59, .int i1] [] (G, (am_u I 59 0 0), J) (q_Ri (fun y1 G1 I1 J1 => ((y1 = 0 → q_W β xs L (d + 1) 180 61 [.ref 59, .int i1, .int i2, .int i3, .int i4, .int i5] [] (G1, I1, J1) Q) ∧ (¬ y1 = 0 → q_W β xs L d 108 0 [.ref 59, .int i2] [] (G1, I1, J1) (q_Ri (fun y2 G2 I2 J2 => ((y2 = 0 → q_W β xs L (d + 1) 180 61 [.ref 59, .int i1, .int i2, .int i3, .int i4, .int i5] [] (G2, I2, J2) Q) ∧ (¬ y2 = 0 → q_W β xs L d 109 0 [.int i3] [] (G2, I2, J2) (q_Ri (fun y3 G3 I3 J3 => ((y3 = 0 → q_W β xs L (d + 1) 180 44 [.ref 59, .int i1, .int i2, .int i3, .int i4, .int i5] [.ref 59] (G3, I3, J3) Q) ∧ (¬ y3 = 0 → ((i4 = 0 → q_W β xs L (d + 1) 180 40 [.ref 59, .int i1, .int i2, .int i3, .int i4, .int i5] [.ref 59] (G3, I3, J3) Q) ∧ (¬ i4 = 0 → ((¬ i4 = 1 → q_W β xs L (d + 1) 180 44 [.ref 59, .int i1, .int i2, .int i3, .int i4, .int i5] [.ref 59] (G3, I3, J3) Q) ∧ (i4 = 1 → q_W β xs L (d + 1) 180 40 [.ref 59, .int i1, .int i2, .int i3, .int i4, .int i5] [.ref 59] (G3, I3, J3) Q))))))) (fun x3 G3 I3 J3 => Q (.inr x3) (G3, I3, J3)))))) (fun x2 G2 I2 J2 => Q (.inr x2) (G2, I2, J2)))))) (fun x1 G1 I1 J1 => Q (.inr x1) (G1, I1, J1)))) : q_W β xs L (d + 1) 180 0 [.ref 59, .int i1, .int i2, .int i3, .int i4, .int i5] [] (G, I, J) Q := by
  refine w_al f_180_0 rfl ?_
  refine w_ic f_180_1 ?_
  refine w_pi f_180_2 rfl ?_
  refine w_al f_180_5 rfl ?_
  refine w_il f_180_6 rfl ?_
  refine w_inv (as := [.ref 59, .int i1]) (st' := []) f_180_7 rfl rfl rfl rfl rfl rfl H (k_i (fun y1 G1 I1 J1 H => ?_)) (x_n (fun _ => rfl) rfl (fun x h' h => h))
  refine w_ifeq f_180_10 (fun c => ?_) (fun c => ?_)
  · have H := H.1 c
    exact H
  · have H := H.2 c
    refine w_al f_180_13 rfl ?_
    refine w_il f_180_14 rfl ?_
    refine w_inv (as := [.ref 59, .int i2]) (st' := []) f_180_15 rfl rfl rfl rfl rfl rfl H (k_i (fun y2 G2 I2 J2 H => ?_)) (x_n (fun _ => rfl) rfl (fun x h' h => h))
    refine w_ifeq f_180_18 (fun c => ?_) (fun c => ?_)
    · have H := H.1 c
      exact H
    · have H := H.2 c
      refine w_al f_180_21 rfl ?_
      refine w_il f_180_22 rfl ?_
      refine w_invs (as := [.int i3]) (st' := [.ref 59]) f_180_23 rfl rfl rfl rfl rfl H (k_i (fun y3 G3 I3 J3 H => ?_)) (x_n (fun _ => rfl) rfl (fun x h' h => h))
      refine w_ifeq f_180_26 (fun c => ?_) (fun c => ?_)
      · have H := H.1 c
        exact H
      · have H := H.2 c
        refine w_il f_180_29 rfl ?_
        refine w_ifeq f_180_31 (fun c => ?_) (fun c => ?_)
        · have H := H.1 c
          exact H
        · have H := H.2 c
          refine w_il f_180_34 rfl ?_
          refine w_ic f_180_36 ?_
          refine w_icne f_180_37 (fun c => ?_) (fun c => ?_)
          · have H := H.1 c
            exact H
          · have H := H.2 c
            exact H
theorem g_180_40 {d : Nat} {G : am_G} {I : Nat → Nat → Int32} {J : Nat → Nat → Int64} {Q : am_O → am_H → Prop} (hR : q_RT G) (i1 : Int32) (i2 : Int32) (i3 : Int32) (i4 : Int32) (i5 : Int32) (H : q_W β xs L (d + 1) 180 45 [.ref 59, .int i1, .int i2, .int i3, .int i4, .int i5] [.int 1, .ref 59] (G, I, J) Q) : q_W β xs L (d + 1) 180 40 [.ref 59, .int i1, .int i2, .int i3, .int i4, .int i5] [.ref 59] (G, I, J) Q := by
  refine w_ic f_180_40 ?_
  refine w_go f_180_41 ?_
  exact H
theorem g_180_44 {d : Nat} {G : am_G} {I : Nat → Nat → Int32} {J : Nat → Nat → Int64} {Q : am_O → am_H → Prop} (hR : q_RT G) (i1 : Int32) (i2 : Int32) (i3 : Int32) (i4 : Int32) (i5 : Int32) (H : q_W β xs L (d + 1) 180 45 [.ref 59, .int i1, .int i2, .int i3, .int i4, .int i5] [.int 0, .ref 59] (G, I, J) Q) : q_W β xs L (d + 1) 180 44 [.ref 59, .int i1, .int i2, .int i3, .int i4, .int i5] [.ref 59] (G, I, J) Q := by
  refine w_ic f_180_44 ?_
  exact H
theorem g_180_45 {d : Nat} {G : am_G} {I : Nat → Nat → Int32} {J : Nat → Nat → Int64} {Q : am_O → am_H → Prop} (hR : q_RT G) (i1 : Int32) (i2 : Int32) (i3 : Int32) (i4 : Int32) (i5 : Int32) (is0 : Int32) (H : q_W β xs L d 103 0 [.ref 59, .int is0, .int 1] [] (G, I, J) (q_Ri (fun y1 G1 I1 J1 => ((y1 = 0 → q_W β xs L (d + 1) 180 61 [.ref 59, .int i1, .int i2, .int i3, .int i4, .int i5] [] (G1, I1, J1) Q) ∧ (¬ y1 = 0 → q_W β xs L d 167 0 [.ref 59, .int i5] [] (G1, I1, J1) (q_Ri (fun y2 G2 I2 J2 => ((¬ y2 = 0 → q_W β xs L d 143 0 [.ref 59, .int i5, .retAddr 0] [] (G2, I2, J2) (q_Rv (fun G3 I3 J3 => q_W β xs L d 147 0 [.ref 59, .int 0, .int i3, .int i5, .int (-1), .retAddr 0, .retAddr 0] [] (G3, I3, J3) (q_Rv (fun G4 I4 J4 => (q_RT G4 ∧ ((¬ i4 = 0 → (am_is ((5 * i1) + i2) 100 = true ∧ q_W β xs L (d + 1) 180 106 [.ref 59, .int i1, .int i2, .int i3, .int i4, .int i5] [.int (I4 101 (((5 * i1) + i2)).toNatClampNeg)] (G4, I4, J4) Q)) ∧ (i4 = 0 → (am_is ((5 * i1) + i2) 100 = true ∧ q_W β xs L (d + 1) 180 106 [.ref 59, .int i1, .int i2, .int i3, .int i4, .int i5] [.int (I4 100 (((5 * i1) + i2)).toNatClampNeg)] (G4, I4, J4) Q))))) (fun x4 G4 I4 J4 => Q (.inr x4) (G4, I4, J4)))) (fun x3 G3 I3 J3 => Q (.inr x3) (G3, I3, J3)))) ∧ (y2 = 0 → q_W β xs L (d + 1) 180 61 [.ref 59, .int i1, .int i2, .int i3, .int i4, .int i5] [] (G2, I2, J2) Q))) (fun x2 G2 I2 J2 => Q (.inr x2) (G2, I2, J2)))))) (fun x1 G1 I1 J1 => Q (.inr x1) (G1, I1, J1)))) : q_W β xs L (d + 1) 180 45 [.ref 59, .int i1, .int i2, .int i3, .int i4, .int i5] [.int is0, .ref 59] (G, I, J) Q := by
  refine w_ic f_180_45 ?_
  refine w_inv (as := [.ref 59, .int is0, .int 1]) (st' := []) f_180_46 rfl rfl rfl rfl rfl rfl H (k_i (fun y1 G1 I1 J1 H => ?_)) (x_n (fun _ => rfl) rfl (fun x h' h => h))
  refine w_ifeq f_180_49 (fun c => ?_) (fun c => ?_)
  · have H := H.1 c
    exact H
  · have H := H.2 c
    refine w_al f_180_52 rfl ?_
    refine w_il f_180_53 rfl ?_
    refine w_inv (as := [.ref 59, .int i5]) (st' := []) f_180_55 rfl rfl rfl rfl rfl rfl H (k_i (fun y2 G2 I2 J2 H => ?_)) (x_n (fun _ => rfl) rfl (fun x h' h => h))
    refine w_ifne f_180_58 (fun c => ?_) (fun c => ?_)
    · have H := H.1 c
      refine w_al f_180_63 rfl ?_
      refine w_il f_180_64 rfl ?_
      refine w_inv (as := [.ref 59, .int i5, .retAddr 0]) (st' := []) f_180_66 rfl rfl rfl rfl rfl rfl H (k_v (fun G3 I3 J3 H => ?_)) (x_n (fun _ => rfl) rfl (fun x h' h => h))
      refine w_al f_180_69 rfl ?_
      refine w_ic f_180_70 ?_
      refine w_il f_180_71 rfl ?_
      refine w_il f_180_72 rfl ?_
      refine w_ic f_180_74 ?_
      refine w_inv (as := [.ref 59, .int 0, .int i3, .int i5, .int (-1), .retAddr 0, .retAddr 0]) (st' := []) f_180_75 rfl rfl rfl rfl rfl rfl H (k_v (fun G4 I4 J4 H => ?_)) (x_n (fun _ => rfl) rfl (fun x h' h => h))
      have hR4 := H.1
      have H := H.2
      refine w_il f_180_78 rfl ?_
      refine w_ifne f_180_80 (fun c => ?_) (fun c => ?_)
      · have H := H.1 c
        refine w_al f_180_96 rfl ?_
        refine w_gr f_180_97 rfl (hR4 _ _ _ rfl) ?_
        refine w_ic f_180_100 ?_
        refine w_il f_180_101 rfl ?_
        refine w_bin f_180_102 ?_
        refine w_il f_180_103 rfl ?_
        refine w_bin f_180_104 ?_
        have hb := H.1
        have H := H.2
        refine w_ald f_180_105 rfl hb ?_
        exact H
      · have H := H.2 c
        refine w_al f_180_83 rfl ?_
        refine w_gr f_180_84 rfl (hR4 _ _ _ rfl) ?_
        refine w_ic f_180_87 ?_
        refine w_il f_180_88 rfl ?_
        refine w_bin f_180_89 ?_
        refine w_il f_180_90 rfl ?_
        refine w_bin f_180_91 ?_
        have hb := H.1
        have H := H.2
        refine w_ald f_180_92 rfl hb ?_
        refine w_go f_180_93 ?_
        exact H
    · have H := H.2 c
      exact H
theorem g_180_61 {d : Nat} {G : am_G} {I : Nat → Nat → Int32} {J : Nat → Nat → Int64} {Q : am_O → am_H → Prop} (hR : q_RT G) (i1 : Int32) (i2 : Int32) (i3 : Int32) (i4 : Int32) (i5 : Int32) (H : Q (.inl (some (.int 0))) (G, I, J)) : q_W β xs L (d + 1) 180 61 [.ref 59, .int i1, .int i2, .int i3, .int i4, .int i5] [] (G, I, J) Q := by
  refine w_ic f_180_61 ?_
  exact w_reti f_180_62 H
theorem g_180_106 {d : Nat} {G : am_G} {I : Nat → Nat → Int32} {J : Nat → Nat → Int64} {Q : am_O → am_H → Prop} (hR : q_RT G) (i1 : Int32) (i2 : Int32) (i3 : Int32) (i4 : Int32) (i5 : Int32) (is0 : Int32) (H : Q (.inl (some (.int is0))) (G, I, J)) : q_W β xs L (d + 1) 180 106 [.ref 59, .int i1, .int i2, .int i3, .int i4, .int i5] [.int is0] (G, I, J) Q := by
  exact w_reti f_180_106 H
theorem g_181_0 {d : Nat} {G : am_G} {I : Nat → Nat → Int32} {J : Nat → Nat → Int64} {Q : am_O → am_H → Prop} (hR : q_RT G) (i1 : Int32) (i2 : Int32) (i3 : Int32) (i4 : Int32) (H : ((i1 < 0 → q_W β xs L (d + 1) 181 38 [.ref 59, .int i1, .int i2, .int i3, .int i4, .retAddr 0, .retAddr 0, .retAddr 0, .retAddr 0] [.ref 59] (G, (am_u I 59 0 0), J) Q) ∧ (¬ i1 < 0 → ((¬ i1 < (I 59 32) → q_W β xs L (d + 1) 181 38 [.ref 59, .int i1, .int i2, .int i3, .int i4, .retAddr 0, .retAddr 0, .retAddr 0, .retAddr 0] [.ref 59] (G, (am_u I 59 0 0), J) Q) ∧ (i1 < (I 59 32) → q_W β xs L d 109 0 [.int i2] [] (G, (am_u I 59 0 0), J) (q_Ri (fun y1 G1 I1 J1 => ((y1 = 0 → q_W β xs L (d + 1) 181 38 [.ref 59, .int i1, .int i2, .int i3, .int i4, .retAddr 0, .retAddr 0, .retAddr 0, .retAddr 0] [.ref 59] (G1, I1, J1) Q) ∧ (¬ y1 = 0 → ((i3 = 0 → q_W β xs L (d + 1) 181 34 [.ref 59, .int i1, .int i2, .int i3, .int i4, .retAddr 0, .retAddr 0, .retAddr 0, .retAddr 0] [.ref 59] (G1, I1, J1) Q) ∧ (¬ i3 = 0 → ((¬ i3 = 1 → q_W β xs L (d + 1) 181 38 [.ref 59, .int i1, .int i2, .int i3, .int i4, .retAddr 0, .retAddr 0, .retAddr 0, .retAddr 0] [.ref 59] (G1, I1, J1) Q) ∧ (i3 = 1 → q_W β xs L (d + 1) 181 34 [.ref 59, .int i1, .int i2, .int i3, .int i4, .retAddr 0, .retAddr 0, .retAddr 0, .retAddr 0] [.ref 59] (G1, I1, J1) Q))))))) (fun x1 G1 I1 J1 => Q (.inr x1) (G1, I1, J1)))))))) : q_W β xs L (d + 1) 181 0 [.ref 59, .int i1, .int i2, .int i3, .int i4, .retAddr 0, .retAddr 0, .retAddr 0, .retAddr 0] [] (G, I, J) Q := by
  refine w_al f_181_0 rfl ?_
  refine w_ic f_181_1 ?_
  refine w_pi f_181_2 rfl ?_
  refine w_al f_181_5 rfl ?_
  refine w_il f_181_6 rfl ?_
  refine w_iflt f_181_7 (fun c => ?_) (fun c => ?_)
  · have H := H.1 c
    exact H
  · have H := H.2 c
    refine w_il f_181_10 rfl ?_
    refine w_al f_181_11 rfl ?_
    refine w_gi' f_181_12 rfl (am_u_ne (Or.inr (by decide))) ?_
    refine w_icge f_181_15 (fun c => ?_) (fun c => ?_)
    · have H := H.1 c
      exact H
    · have H := H.2 c
      refine w_il f_181_18 rfl ?_
      refine w_invs (as := [.int i2]) (st' := [.ref 59]) f_181_19 rfl rfl rfl rfl rfl H (k_i (fun y1 G1 I1 J1 H => ?_)) (x_n (fun _ => rfl) rfl (fun x h' h => h))
      refine w_ifeq f_181_22 (fun c => ?_) (fun c => ?_)
      · have H := H.1 c
        exact H
      · have H := H.2 c
        refine w_il f_181_25 rfl ?_
        refine w_ifeq f_181_26 (fun c => ?_) (fun c => ?_)
        · have H := H.1 c
          exact H
        · have H := H.2 c
          refine w_il f_181_29 rfl ?_
          refine w_ic f_181_30 ?_
          refine w_icne f_181_31 (fun c => ?_) (fun c => ?_)
          · have H := H.1 c
            exact H
          · have H := H.2 c
            exact H
theorem g_181_34 {d : Nat} {G : am_G} {I : Nat → Nat → Int32} {J : Nat → Nat → Int64} {Q : am_O → am_H → Prop} (hR : q_RT G) (i1 : Int32) (i2 : Int32) (i3 : Int32) (i4 : Int32) (H : q_W β xs L (d + 1) 181 39 [.ref 59, .int i1, .int i2, .int i3, .int i4, .retAddr 0, .retAddr 0, .retAddr 0, .retAddr 0] [.int 1, .ref 59] (G, I, J) Q) : q_W β xs L (d + 1) 181 34 [.ref 59, .int i1, .int i2, .int i3, .int i4, .retAddr 0, .retAddr 0, .retAddr 0, .retAddr 0] [.ref 59] (G, I, J) Q := by
  refine w_ic f_181_34 ?_
  refine w_go f_181_35 ?_
  exact H
theorem g_181_38 {d : Nat} {G : am_G} {I : Nat → Nat → Int32} {J : Nat → Nat → Int64} {Q : am_O → am_H → Prop} (hR : q_RT G) (i1 : Int32) (i2 : Int32) (i3 : Int32) (i4 : Int32) (H : q_W β xs L (d + 1) 181 39 [.ref 59, .int i1, .int i2, .int i3, .int i4, .retAddr 0, .retAddr 0, .retAddr 0, .retAddr 0] [.int 0, .ref 59] (G, I, J) Q) : q_W β xs L (d + 1) 181 38 [.ref 59, .int i1, .int i2, .int i3, .int i4, .retAddr 0, .retAddr 0, .retAddr 0, .retAddr 0] [.ref 59] (G, I, J) Q := by
  refine w_ic f_181_38 ?_
  exact H
theorem g_181_39 {d : Nat} {G : am_G} {I : Nat → Nat → Int32} {J : Nat → Nat → Int64} {Q : am_O → am_H → Prop} (hR : q_RT G) (i1 : Int32) (i2 : Int32) (i3 : Int32) (i4 : Int32) (is0 : Int32) (H : q_W β xs L d 103 0 [.ref 59, .int is0, .int 1] [] (G, I, J) (q_Ri (fun y1 G1 I1 J1 => ((y1 = 0 → q_W β xs L (d + 1) 181 55 [.ref 59, .int i1, .int i2, .int i3, .int i4, .retAddr 0, .retAddr 0, .retAddr 0, .retAddr 0] [] (G1, I1, J1) Q) ∧ (¬ y1 = 0 → q_W β xs L d 167 0 [.ref 59, .int i4] [] (G1, I1, J1) (q_Ri (fun y2 G2 I2 J2 => ((¬ y2 = 0 → q_W β xs L d 143 0 [.ref 59, .int i4, .retAddr 0] [] (G2, I2, J2) (q_Rv (fun G3 I3 J3 => q_W β xs L d 147 0 [.ref 59, .int 0, .int i2, .int i4, .int (-1), .retAddr 0, .retAddr 0] [] (G3, I3, J3) (q_Rv (fun G4 I4 J4 => q_W β xs L (d + 1) 181 75 [.ref 59, .int i1, .int i2, .int i3, .int i4, .int 0, .retAddr 0, .retAddr 0, .retAddr 0] [] (G4, I4, J4) Q) (fun x4 G4 I4 J4 => Q (.inr x4) (G4, I4, J4)))) (fun x3 G3 I3 J3 => Q (.inr x3) (G3, I3, J3)))) ∧ (y2 = 0 → q_W β xs L (d + 1) 181 55 [.ref 59, .int i1, .int i2, .int i3, .int i4, .retAddr 0, .retAddr 0, .retAddr 0, .retAddr 0] [] (G2, I2, J2) Q))) (fun x2 G2 I2 J2 => Q (.inr x2) (G2, I2, J2)))))) (fun x1 G1 I1 J1 => Q (.inr x1) (G1, I1, J1)))) : q_W β xs L (d + 1) 181 39 [.ref 59, .int i1, .int i2, .int i3, .int i4, .retAddr 0, .retAddr 0, .retAddr 0, .retAddr 0] [.int is0, .ref 59] (G, I, J) Q := by
  refine w_ic f_181_39 ?_
  refine w_inv (as := [.ref 59, .int is0, .int 1]) (st' := []) f_181_40 rfl rfl rfl rfl rfl rfl H (k_i (fun y1 G1 I1 J1 H => ?_)) (x_n (fun _ => rfl) rfl (fun x h' h => h))
  refine w_ifeq f_181_43 (fun c => ?_) (fun c => ?_)
  · have H := H.1 c
    exact H
  · have H := H.2 c
    refine w_al f_181_46 rfl ?_
    refine w_il f_181_47 rfl ?_
    refine w_inv (as := [.ref 59, .int i4]) (st' := []) f_181_49 rfl rfl rfl rfl rfl rfl H (k_i (fun y2 G2 I2 J2 H => ?_)) (x_n (fun _ => rfl) rfl (fun x h' h => h))
    refine w_ifne f_181_52 (fun c => ?_) (fun c => ?_)
    · have H := H.1 c
      refine w_al f_181_57 rfl ?_
      refine w_il f_181_58 rfl ?_
      refine w_inv (as := [.ref 59, .int i4, .retAddr 0]) (st' := []) f_181_60 rfl rfl rfl rfl rfl rfl H (k_v (fun G3 I3 J3 H => ?_)) (x_n (fun _ => rfl) rfl (fun x h' h => h))
      refine w_al f_181_63 rfl ?_
      refine w_ic f_181_64 ?_
      refine w_il f_181_65 rfl ?_
      refine w_il f_181_66 rfl ?_
      refine w_ic f_181_68 ?_
      refine w_inv (as := [.ref 59, .int 0, .int i2, .int i4, .int (-1), .retAddr 0, .retAddr 0]) (st' := []) f_181_69 rfl rfl rfl rfl rfl rfl H (k_v (fun G4 I4 J4 H => ?_)) (x_n (fun _ => rfl) rfl (fun x h' h => h))
      refine w_ic f_181_72 ?_
      refine w_is (ls' := [.ref 59, .int i1, .int i2, .int i3, .int i4, .int 0, .retAddr 0, .retAddr 0, .retAddr 0]) f_181_73 rfl ?_
      exact H
    · have H := H.2 c
      exact H
theorem g_181_55 {d : Nat} {G : am_G} {I : Nat → Nat → Int32} {J : Nat → Nat → Int64} {Q : am_O → am_H → Prop} (hR : q_RT G) (i1 : Int32) (i2 : Int32) (i3 : Int32) (i4 : Int32) (H : Q (.inl (some (.int 0))) (G, I, J)) : q_W β xs L (d + 1) 181 55 [.ref 59, .int i1, .int i2, .int i3, .int i4, .retAddr 0, .retAddr 0, .retAddr 0, .retAddr 0] [] (G, I, J) Q := by
  refine w_ic f_181_55 ?_
  exact w_reti f_181_56 H
theorem g_181_75 {d : Nat} {G : am_G} {I : Nat → Nat → Int32} {J : Nat → Nat → Int64} {Q : am_O → am_H → Prop} (hR : q_RT G) (i1 : Int32) (i2 : Int32) (i3 : Int32) (i4 : Int32) (i5 : Int32) (H : ((¬ i5 < 20 → q_W β xs L d 147 0 [.ref 59, .int 0, .int i2, .int i4, .int i1, .retAddr 0, .retAddr 0] [] (G, I, J) (q_Rv (fun G1 I1 J1 => q_W β xs L (d + 1) 181 117 [.ref 59, .int i1, .int i2, .int i3, .int i4, .int 0, .int 0, .retAddr 0, .retAddr 0] [] (G1, I1, J1) Q) (fun x1 G1 I1 J1 => Q (.inr x1) (G1, I1, J1)))) ∧ (i5 < 20 → (am_is i5 20 = true ∧ (am_is i5 20 = true ∧ q_W β xs L (d + 1) 181 75 [.ref 59, .int i1, .int i2, .int i3, .int i4, .int (i5 + 1), .retAddr 0, .retAddr 0, .retAddr 0] [] (G, (am_u I 116 (i5).toNatClampNeg (I 91 (i5).toNatClampNeg)), J) Q))))) : q_W β xs L (d + 1) 181 75 [.ref 59, .int i1, .int i2, .int i3, .int i4, .int i5, .retAddr 0, .retAddr 0, .retAddr 0] [] (G, I, J) Q := by
  refine w_il f_181_75 rfl ?_
  refine w_ic f_181_77 ?_
  refine w_icge f_181_79 (fun c => ?_) (fun c => ?_)
  · have H := H.1 c
    refine w_al f_181_102 rfl ?_
    refine w_ic f_181_103 ?_
    refine w_il f_181_104 rfl ?_
    refine w_il f_181_105 rfl ?_
    refine w_il f_181_107 rfl ?_
    refine w_inv (as := [.ref 59, .int 0, .int i2, .int i4, .int i1, .retAddr 0, .retAddr 0]) (st' := []) f_181_108 rfl rfl rfl rfl rfl rfl H (k_v (fun G1 I1 J1 H => ?_)) (x_n (fun _ => rfl) rfl (fun x h' h => h))
    refine w_ic f_181_111 ?_
    refine w_is (ls' := [.ref 59, .int i1, .int i2, .int i3, .int i4, .int 0, .retAddr 0, .retAddr 0, .retAddr 0]) f_181_112 rfl ?_
    refine w_ic f_181_114 ?_
    refine w_is (ls' := [.ref 59, .int i1, .int i2, .int i3, .int i4, .int 0, .int 0, .retAddr 0, .retAddr 0]) f_181_115 rfl ?_
    exact H
  · have H := H.2 c
    refine w_al f_181_82 rfl ?_
    refine w_gr f_181_83 rfl (hR _ _ _ rfl) ?_
    refine w_il f_181_86 rfl ?_
    refine w_al f_181_88 rfl ?_
    refine w_gr f_181_89 rfl (hR _ _ _ rfl) ?_
    refine w_il f_181_92 rfl ?_
    have hb := H.1
    have H := H.2
    refine w_ald f_181_94 rfl hb ?_
    have hb := H.1
    have H := H.2
    refine w_ast f_181_95 rfl hb ?_
    refine w_iinc (ls' := [.ref 59, .int i1, .int i2, .int i3, .int i4, .int (i5 + 1), .retAddr 0, .retAddr 0, .retAddr 0]) f_181_96 rfl rfl ?_
    refine w_go f_181_99 ?_
    exact H
theorem g_181_117 {d : Nat} {G : am_G} {I : Nat → Nat → Int32} {J : Nat → Nat → Int64} {Q : am_O → am_H → Prop} (hR : q_RT G) (i1 : Int32) (i2 : Int32) (i3 : Int32) (i4 : Int32) (i5 : Int32) (i6 : Int32) (v7 : Value) (v8 : Value) (n7 : am_nl v7 = true) (n8 : am_nl v8 = true) (H : ((¬ i6 < (I 59 5) → Q (.inl (some (.int i5))) (G, I, J)) ∧ (i6 < (I 59 5) → (am_is i6 20 = true ∧ (am_is i1 12 = true ∧ (am_is i6 20 = true ∧ (am_is i1 12 = true ∧ (((((I 91 (i6).toNatClampNeg) >>> ((I 74 (i1).toNatClampNeg) &&& 31)) &&& 1) = (((I 116 (i6).toNatClampNeg) >>> ((I 74 (i1).toNatClampNeg) &&& 31)) &&& 1) → q_W β xs L (d + 1) 181 180 [.ref 59, .int i1, .int i2, .int i3, .int i4, .int i5, .int i6, .int (((I 116 (i6).toNatClampNeg) >>> ((I 74 (i1).toNatClampNeg) &&& 31)) &&& 1), .int (((I 91 (i6).toNatClampNeg) >>> ((I 74 (i1).toNatClampNeg) &&& 31)) &&& 1)] [] (G, I, J) Q) ∧ (¬ (((I 91 (i6).toNatClampNeg) >>> ((I 74 (i1).toNatClampNeg) &&& 31)) &&& 1) = (((I 116 (i6).toNatClampNeg) >>> ((I 74 (i1).toNatClampNeg) &&& 31)) &&& 1) → ((¬ (((I 91 (i6).toNatClampNeg) >>> ((I 74 (i1).toNatClampNeg) &&& 31)) &&& 1) = (1 - i3) → q_W β xs L (d + 1) 181 180 [.ref 59, .int i1, .int i2, .int i3, .int i4, .int i5, .int i6, .int (((I 116 (i6).toNatClampNeg) >>> ((I 74 (i1).toNatClampNeg) &&& 31)) &&& 1), .int (((I 91 (i6).toNatClampNeg) >>> ((I 74 (i1).toNatClampNeg) &&& 31)) &&& 1)] [] (G, I, J) Q) ∧ ((((I 91 (i6).toNatClampNeg) >>> ((I 74 (i1).toNatClampNeg) &&& 31)) &&& 1) = (1 - i3) → q_W β xs L (d + 1) 181 180 [.ref 59, .int i1, .int i2, .int i3, .int i4, .int (i5 + 1), .int i6, .int (((I 116 (i6).toNatClampNeg) >>> ((I 74 (i1).toNatClampNeg) &&& 31)) &&& 1), .int (((I 91 (i6).toNatClampNeg) >>> ((I 74 (i1).toNatClampNeg) &&& 31)) &&& 1)] [] (G, I, J) Q))))))))))) : q_W β xs L (d + 1) 181 117 [.ref 59, .int i1, .int i2, .int i3, .int i4, .int i5, .int i6, v7, v8] [] (G, I, J) Q := by
  refine w_il f_181_117 rfl ?_
  refine w_al f_181_119 rfl ?_
  refine w_gi f_181_120 rfl ?_
  refine w_icge f_181_123 (fun c => ?_) (fun c => ?_)
  · have H := H.1 c
    refine w_il f_181_186 rfl ?_
    exact w_reti f_181_188 H
  · have H := H.2 c
    refine w_al f_181_126 rfl ?_
    refine w_gr f_181_127 rfl (hR _ _ _ rfl) ?_
    refine w_il f_181_130 rfl ?_
    have hb := H.1
    have H := H.2
    refine w_ald f_181_132 rfl hb ?_
    refine w_al f_181_133 rfl ?_
    refine w_gr f_181_134 rfl (hR _ _ _ rfl) ?_
    refine w_il f_181_137 rfl ?_
    have hb := H.1
    have H := H.2
    refine w_ald f_181_138 rfl hb ?_
    refine w_bin f_181_139 ?_
    refine w_ic f_181_140 ?_
    refine w_bin f_181_141 ?_
    refine w_is (ls' := [.ref 59, .int i1, .int i2, .int i3, .int i4, .int i5, .int i6, .int (((I 116 (i6).toNatClampNeg) >>> ((I 74 (i1).toNatClampNeg) &&& 31)) &&& 1), v8]) f_181_142 rfl ?_
    refine w_al f_181_144 rfl ?_
    refine w_gr f_181_145 rfl (hR _ _ _ rfl) ?_
    refine w_il f_181_148 rfl ?_
    have hb := H.1
    have H := H.2
    refine w_ald f_181_150 rfl hb ?_
    refine w_al f_181_151 rfl ?_
    refine w_gr f_181_152 rfl (hR _ _ _ rfl) ?_
    refine w_il f_181_155 rfl ?_
    have hb := H.1
    have H := H.2
    refine w_ald f_181_156 rfl hb ?_
    refine w_bin f_181_157 ?_
    refine w_ic f_181_158 ?_
    refine w_bin f_181_159 ?_
    refine w_is (ls' := [.ref 59, .int i1, .int i2, .int i3, .int i4, .int i5, .int i6, .int (((I 116 (i6).toNatClampNeg) >>> ((I 74 (i1).toNatClampNeg) &&& 31)) &&& 1), .int (((I 91 (i6).toNatClampNeg) >>> ((I 74 (i1).toNatClampNeg) &&& 31)) &&& 1)]) f_181_160 rfl ?_
    refine w_il f_181_162 rfl ?_
    refine w_il f_181_164 rfl ?_
    refine w_iceq f_181_166 (fun c => ?_) (fun c => ?_)
    · have H := H.1 c
      exact H
    · have H := H.2 c
      refine w_il f_181_169 rfl ?_
      refine w_ic f_181_171 ?_
      refine w_il f_181_172 rfl ?_
      refine w_bin f_181_173 ?_
      refine w_icne f_181_174 (fun c => ?_) (fun c => ?_)
      · have H := H.1 c
        exact H
      · have H := H.2 c
        refine w_iinc (ls' := [.ref 59, .int i1, .int i2, .int i3, .int i4, .int (i5 + 1), .int i6, .int (((I 116 (i6).toNatClampNeg) >>> ((I 74 (i1).toNatClampNeg) &&& 31)) &&& 1), .int (((I 91 (i6).toNatClampNeg) >>> ((I 74 (i1).toNatClampNeg) &&& 31)) &&& 1)]) f_181_177 rfl rfl ?_
        exact H
theorem g_181_180 {d : Nat} {G : am_G} {I : Nat → Nat → Int32} {J : Nat → Nat → Int64} {Q : am_O → am_H → Prop} (hR : q_RT G) (i1 : Int32) (i2 : Int32) (i3 : Int32) (i4 : Int32) (i5 : Int32) (i6 : Int32) (i7 : Int32) (i8 : Int32) (H : q_W β xs L (d + 1) 181 117 [.ref 59, .int i1, .int i2, .int i3, .int i4, .int i5, .int (i6 + 1), .int i7, .int i8] [] (G, I, J) Q) : q_W β xs L (d + 1) 181 180 [.ref 59, .int i1, .int i2, .int i3, .int i4, .int i5, .int i6, .int i7, .int i8] [] (G, I, J) Q := by
  refine w_iinc (ls' := [.ref 59, .int i1, .int i2, .int i3, .int i4, .int i5, .int (i6 + 1), .int i7, .int i8]) f_181_180 rfl rfl ?_
  refine w_go f_181_183 ?_
  exact H
theorem g_182_0 {d : Nat} {G : am_G} {I : Nat → Nat → Int32} {J : Nat → Nat → Int64} {Q : am_O → am_H → Prop} (hR : q_RT G) (i1 : Int32) (H : ((i1 < 0 → q_W β xs L (d + 1) 182 20 [.ref 59, .int i1] [.ref 59] (G, (am_u I 59 0 0), J) Q) ∧ (¬ i1 < 0 → ((6 < i1 → q_W β xs L (d + 1) 182 20 [.ref 59, .int i1] [.ref 59] (G, (am_u I 59 0 0), J) Q) ∧ (¬ 6 < i1 → q_W β xs L (d + 1) 182 21 [.ref 59, .int i1] [.int 1, .ref 59] (G, (am_u I 59 0 0), J) Q))))) : q_W β xs L (d + 1) 182 0 [.ref 59, .int i1] [] (G, I, J) Q := by
  refine w_al f_182_0 rfl ?_
  refine w_ic f_182_1 ?_
  refine w_pi f_182_2 rfl ?_
  refine w_al f_182_5 rfl ?_
  refine w_il f_182_6 rfl ?_
  refine w_iflt f_182_7 (fun c => ?_) (fun c => ?_)
  · have H := H.1 c
    exact H
  · have H := H.2 c
    refine w_il f_182_10 rfl ?_
    refine w_ic f_182_11 ?_
    refine w_icgt f_182_13 (fun c => ?_) (fun c => ?_)
    · have H := H.1 c
      exact H
    · have H := H.2 c
      refine w_ic f_182_16 ?_
      refine w_go f_182_17 ?_
      exact H
theorem g_182_20 {d : Nat} {G : am_G} {I : Nat → Nat → Int32} {J : Nat → Nat → Int64} {Q : am_O → am_H → Prop} (hR : q_RT G) (i1 : Int32) (H : q_W β xs L (d + 1) 182 21 [.ref 59, .int i1] [.int 0, .ref 59] (G, I, J) Q) : q_W β xs L (d + 1) 182 20 [.ref 59, .int i1] [.ref 59] (G, I, J) Q := by
  refine w_ic f_182_20 ?_
  exact H
theorem g_182_21 {d : Nat} {G : am_G} {I : Nat → Nat → Int32} {J : Nat → Nat → Int64} {Q : am_O → am_H → Prop} (hR : q_RT G) (i1 : Int32) (is0 : Int32) (H : q_W β xs L d 103 0 [.ref 59, .int is0, .int 1] [] (G, I, J) (q_Ri (fun y1 G1 I1 J1 => ((¬ y1 = 0 → (∃ v : Nat, (q_sw 0 5 [68, 73, 78, 83, 88, 93] 98) i1 = some v ∧ q_W β xs L (d + 1) 182 v [.ref 59, .int i1] [] (G1, I1, J1) Q)) ∧ (y1 = 0 → Q (.inl (some (.int 0))) (G1, I1, J1)))) (fun x1 G1 I1 J1 => Q (.inr x1) (G1, I1, J1)))) : q_W β xs L (d + 1) 182 21 [.ref 59, .int i1] [.int is0, .ref 59] (G, I, J) Q := by
  refine w_ic f_182_21 ?_
  refine w_inv (as := [.ref 59, .int is0, .int 1]) (st' := []) f_182_22 rfl rfl rfl rfl rfl rfl H (k_i (fun y1 G1 I1 J1 H => ?_)) (x_n (fun _ => rfl) rfl (fun x h' h => h))
  refine w_ifne f_182_25 (fun c => ?_) (fun c => ?_)
  · have H := H.1 c
    refine w_il f_182_30 rfl ?_
    obtain ⟨v, hg, H⟩ := H
    exact w_sw f_182_31 hg H
  · have H := H.2 c
    refine w_ic f_182_28 ?_
    exact w_reti f_182_29 H
theorem g_182_68 {d : Nat} {G : am_G} {I : Nat → Nat → Int32} {J : Nat → Nat → Int64} {Q : am_O → am_H → Prop} (hR : q_RT G) (i1 : Int32) (H : Q (.inl (some (.int (I 59 1)))) (G, I, J)) : q_W β xs L (d + 1) 182 68 [.ref 59, .int i1] [] (G, I, J) Q := by
  refine w_al f_182_68 rfl ?_
  refine w_gi f_182_69 rfl ?_
  exact w_reti f_182_72 H
theorem g_182_73 {d : Nat} {G : am_G} {I : Nat → Nat → Int32} {J : Nat → Nat → Int64} {Q : am_O → am_H → Prop} (hR : q_RT G) (i1 : Int32) (H : Q (.inl (some (.int (I 59 3)))) (G, I, J)) : q_W β xs L (d + 1) 182 73 [.ref 59, .int i1] [] (G, I, J) Q := by
  refine w_al f_182_73 rfl ?_
  refine w_gi f_182_74 rfl ?_
  exact w_reti f_182_77 H
theorem g_182_78 {d : Nat} {G : am_G} {I : Nat → Nat → Int32} {J : Nat → Nat → Int64} {Q : am_O → am_H → Prop} (hR : q_RT G) (i1 : Int32) (H : Q (.inl (some (.int (I 59 4)))) (G, I, J)) : q_W β xs L (d + 1) 182 78 [.ref 59, .int i1] [] (G, I, J) Q := by
  refine w_al f_182_78 rfl ?_
  refine w_gi f_182_79 rfl ?_
  exact w_reti f_182_82 H
theorem g_182_83 {d : Nat} {G : am_G} {I : Nat → Nat → Int32} {J : Nat → Nat → Int64} {Q : am_O → am_H → Prop} (hR : q_RT G) (i1 : Int32) (H : Q (.inl (some (.int (I 59 5)))) (G, I, J)) : q_W β xs L (d + 1) 182 83 [.ref 59, .int i1] [] (G, I, J) Q := by
  refine w_al f_182_83 rfl ?_
  refine w_gi f_182_84 rfl ?_
  exact w_reti f_182_87 H
theorem g_182_88 {d : Nat} {G : am_G} {I : Nat → Nat → Int32} {J : Nat → Nat → Int64} {Q : am_O → am_H → Prop} (hR : q_RT G) (i1 : Int32) (H : Q (.inl (some (.int (I 59 6)))) (G, I, J)) : q_W β xs L (d + 1) 182 88 [.ref 59, .int i1] [] (G, I, J) Q := by
  refine w_al f_182_88 rfl ?_
  refine w_gi f_182_89 rfl ?_
  exact w_reti f_182_92 H
theorem g_182_93 {d : Nat} {G : am_G} {I : Nat → Nat → Int32} {J : Nat → Nat → Int64} {Q : am_O → am_H → Prop} (hR : q_RT G) (i1 : Int32) (H : Q (.inl (some (.int (I 59 32)))) (G, I, J)) : q_W β xs L (d + 1) 182 93 [.ref 59, .int i1] [] (G, I, J) Q := by
  refine w_al f_182_93 rfl ?_
  refine w_gi f_182_94 rfl ?_
  exact w_reti f_182_97 H
theorem g_182_98 {d : Nat} {G : am_G} {I : Nat → Nat → Int32} {J : Nat → Nat → Int64} {Q : am_O → am_H → Prop} (hR : q_RT G) (i1 : Int32) (H : Q (.inl (some (.int (I 59 20)))) (G, I, J)) : q_W β xs L (d + 1) 182 98 [.ref 59, .int i1] [] (G, I, J) Q := by
  refine w_al f_182_98 rfl ?_
  refine w_gi f_182_99 rfl ?_
  exact w_reti f_182_102 H
end Re

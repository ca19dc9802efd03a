/-! ===== regions ===== -/
section Re
variable {β : Bool} {xs : Nat → Int32} {L : Nat}
theorem g_183_0 {d : Nat} {G : am_G} {I : Nat → Nat → Int32} {J : Nat → Nat → Int64} {Q : am_O → am_H → Prop} (hR : q_RT G) (i1 : Int32) (i2 : Int32) (i3 : Int32) (i4 : Int32) (i5 : Int32) (H : q_W β xs L d 73 0 [.ref 0, .int i1, .int i2, .int i3, .int i4, .int i5, .retAddr 0, .retAddr 0, .retAddr 0] [] (G, I, J) (q_Ri (fun y1 G1 I1 J1 => (am_is 0 1 = true ∧ Q (.inl (some (.int 0))) (G1, I1, (am_u J1 117 (0 : Int32).toNatClampNeg ((y1).toInt64))))) (fun x1 G1 I1 J1 => q_X β xs L (d + 1) 183 11 [.ref 0, .int i1, .int i2, .int i3, .int i4, .int i5, .ref 117, .retAddr 0] Q x1 (G1, I1, J1)))) : q_W β xs L (d + 1) 183 0 [.ref 0, .int i1, .int i2, .int i3, .int i4, .int i5, .ref 117, .retAddr 0] [] (G, I, J) Q := by
  refine w_al f_183_0 rfl ?_
  refine w_ic f_183_2 ?_
  refine w_al f_183_3 rfl ?_
  refine w_il f_183_4 rfl ?_
  refine w_il f_183_5 rfl ?_
  refine w_il f_183_6 rfl ?_
  refine w_il f_183_7 rfl ?_
  refine w_il f_183_9 rfl ?_
  refine w_inv (as := [.ref 0, .int i1, .int i2, .int i3, .int i4, .int i5, .retAddr 0, .retAddr 0, .retAddr 0]) (st' := [.int 0, .ref 117]) f_183_11 rfl rfl rfl rfl rfl rfl H (k_i (fun y1 G1 I1 J1 H => ?_)) (fun x h' h => h)
  refine w_i2l f_183_14 ?_
  have hb := H.1
  have H := H.2
  refine w_last f_183_15 rfl hb ?_
  refine w_go f_183_16 ?_
  refine w_ic f_183_23 ?_
  exact w_reti f_183_24 H
theorem g_183_21 {d : Nat} {G : am_G} {I : Nat → Nat → Int32} {J : Nat → Nat → Int64} {Q : am_O → am_H → Prop} (hR : q_RT G) (i1 : Int32) (i2 : Int32) (i3 : Int32) (i4 : Int32) (i5 : Int32) (H : Q (.inl (some (.int 1))) (G, I, J)) : q_W β xs L (d + 1) 183 21 [.ref 0, .int i1, .int i2, .int i3, .int i4, .int i5, .ref 117, .retAddr 0] [] (G, I, J) Q := by
  refine w_ic f_183_21 ?_
  exact w_reti f_183_22 H
theorem g_184_0 {d : Nat} {G : am_G} {I : Nat → Nat → Int32} {J : Nat → Nat → Int64} {Q : am_O → am_H → Prop} (hR : q_RT G) (i1 : Int32) (i2 : Int32) (H : q_W β xs L d 74 0 [.ref 0, .int i1, .int i2, .retAddr 0] [] (G, I, J) (q_Ri (fun y1 G1 I1 J1 => (am_is 0 1 = true ∧ Q (.inl (some (.int 0))) (G1, I1, (am_u J1 117 (0 : Int32).toNatClampNeg ((y1).toInt64))))) (fun x1 G1 I1 J1 => q_X β xs L (d + 1) 184 5 [.ref 0, .int i1, .int i2, .ref 117, .retAddr 0] Q x1 (G1, I1, J1)))) : q_W β xs L (d + 1) 184 0 [.ref 0, .int i1, .int i2, .ref 117, .retAddr 0] [] (G, I, J) Q := by
  refine w_al f_184_0 rfl ?_
  refine w_ic f_184_1 ?_
  refine w_al f_184_2 rfl ?_
  refine w_il f_184_3 rfl ?_
  refine w_il f_184_4 rfl ?_
  refine w_inv (as := [.ref 0, .int i1, .int i2, .retAddr 0]) (st' := [.int 0, .ref 117]) f_184_5 rfl rfl rfl rfl rfl rfl H (k_i (fun y1 G1 I1 J1 H => ?_)) (fun x h' h => h)
  refine w_i2l f_184_8 ?_
  have hb := H.1
  have H := H.2
  refine w_last f_184_9 rfl hb ?_
  refine w_go f_184_10 ?_
  refine w_ic f_184_17 ?_
  exact w_reti f_184_18 H
theorem g_184_15 {d : Nat} {G : am_G} {I : Nat → Nat → Int32} {J : Nat → Nat → Int64} {Q : am_O → am_H → Prop} (hR : q_RT G) (i1 : Int32) (i2 : Int32) (H : Q (.inl (some (.int 1))) (G, I, J)) : q_W β xs L (d + 1) 184 15 [.ref 0, .int i1, .int i2, .ref 117, .retAddr 0] [] (G, I, J) Q := by
  refine w_ic f_184_15 ?_
  exact w_reti f_184_16 H
theorem g_185_0 {d : Nat} {G : am_G} {I : Nat → Nat → Int32} {J : Nat → Nat → Int64} {Q : am_O → am_H → Prop} (hR : q_RT G) (i1 : Int32) (i2 : Int32) (H : q_W β xs L d 75 0 [.ref 0, .int i1, .int i2, .retAddr 0] [] (G, I, J) (q_Ri (fun y1 G1 I1 J1 => ((y1 = 0 → q_W β xs L (d + 1) 185 16 [.ref 0, .int i1, .int i2, .ref 117, .retAddr 0] [.long 0, .int 0, .ref 117] (G1, I1, J1) Q) ∧ (¬ y1 = 0 → q_W β xs L (d + 1) 185 16 [.ref 0, .int i1, .int i2, .ref 117, .retAddr 0] [.long 1, .int 0, .ref 117] (G1, I1, J1) Q))) (fun x1 G1 I1 J1 => q_X β xs L (d + 1) 185 5 [.ref 0, .int i1, .int i2, .ref 117, .retAddr 0] Q x1 (G1, I1, J1)))) : q_W β xs L (d + 1) 185 0 [.ref 0, .int i1, .int i2, .ref 117, .retAddr 0] [] (G, I, J) Q := by
  refine w_al f_185_0 rfl ?_
  refine w_ic f_185_1 ?_
  refine w_al f_185_2 rfl ?_
  refine w_il f_185_3 rfl ?_
  refine w_il f_185_4 rfl ?_
  refine w_inv (as := [.ref 0, .int i1, .int i2, .retAddr 0]) (st' := [.int 0, .ref 117]) f_185_5 rfl rfl rfl rfl rfl rfl H (k_i (fun y1 G1 I1 J1 H => ?_)) (fun x h' h => h)
  refine w_ifeq f_185_8 (fun c => ?_) (fun c => ?_)
  · have H := H.1 c
    refine w_lc f_185_15 ?_
    exact H
  · have H := H.2 c
    refine w_lc f_185_11 ?_
    refine w_go f_185_12 ?_
    exact H
theorem g_185_16 {d : Nat} {G : am_G} {I : Nat → Nat → Int32} {J : Nat → Nat → Int64} {Q : am_O → am_H → Prop} (hR : q_RT G) (i1 : Int32) (i2 : Int32) (ls0 : Int64) (is1 : Int32) (H : (am_is is1 1 = true ∧ Q (.inl (some (.int 0))) (G, I, (am_u J 117 (is1).toNatClampNeg ls0)))) : q_W β xs L (d + 1) 185 16 [.ref 0, .int i1, .int i2, .ref 117, .retAddr 0] [.long ls0, .int is1, .ref 117] (G, I, J) Q := by
  have hb := H.1
  have H := H.2
  refine w_last f_185_16 rfl hb ?_
  refine w_go f_185_17 ?_
  refine w_ic f_185_24 ?_
  exact w_reti f_185_25 H
theorem g_185_22 {d : Nat} {G : am_G} {I : Nat → Nat → Int32} {J : Nat → Nat → Int64} {Q : am_O → am_H → Prop} (hR : q_RT G) (i1 : Int32) (i2 : Int32) (H : Q (.inl (some (.int 1))) (G, I, J)) : q_W β xs L (d + 1) 185 22 [.ref 0, .int i1, .int i2, .ref 117, .retAddr 0] [] (G, I, J) Q := by
  refine w_ic f_185_22 ?_
  exact w_reti f_185_23 H
theorem g_186_0 {d : Nat} {G : am_G} {I : Nat → Nat → Int32} {J : Nat → Nat → Int64} {Q : am_O → am_H → Prop} (hR : q_RT G) (i1 : Int32) (H : q_W β xs L d 76 0 [.ref 0, .int i1] [] (G, I, J) (q_Ri (fun y1 G1 I1 J1 => (am_is 0 1 = true ∧ Q (.inl (some (.int 0))) (G1, I1, (am_u J1 117 (0 : Int32).toNatClampNeg ((y1).toInt64))))) (fun x1 G1 I1 J1 => q_X β xs L (d + 1) 186 4 [.ref 0, .int i1, .ref 117, .retAddr 0] Q x1 (G1, I1, J1)))) : q_W β xs L (d + 1) 186 0 [.ref 0, .int i1, .ref 117, .retAddr 0] [] (G, I, J) Q := by
  refine w_al f_186_0 rfl ?_
  refine w_ic f_186_1 ?_
  refine w_al f_186_2 rfl ?_
  refine w_il f_186_3 rfl ?_
  refine w_inv (as := [.ref 0, .int i1]) (st' := [.int 0, .ref 117]) f_186_4 rfl rfl rfl rfl rfl rfl H (k_i (fun y1 G1 I1 J1 H => ?_)) (fun x h' h => h)
  refine w_i2l f_186_7 ?_
  have hb := H.1
  have H := H.2
  refine w_last f_186_8 rfl hb ?_
  refine w_go f_186_9 ?_
  refine w_ic f_186_15 ?_
  exact w_reti f_186_16 H
theorem g_186_13 {d : Nat} {G : am_G} {I : Nat → Nat → Int32} {J : Nat → Nat → Int64} {Q : am_O → am_H → Prop} (hR : q_RT G) (i1 : Int32) (H : Q (.inl (some (.int 1))) (G, I, J)) : q_W β xs L (d + 1) 186 13 [.ref 0, .int i1, .ref 117, .retAddr 0] [] (G, I, J) Q := by
  refine w_ic f_186_13 ?_
  exact w_reti f_186_14 H
theorem g_187_0 {d : Nat} {G : am_G} {I : Nat → Nat → Int32} {J : Nat → Nat → Int64} {Q : am_O → am_H → Prop} (hR : q_RT G) (i1 : Int32) (i2 : Int32) (i3 : Int32) (i4 : Int32) (H : q_W β xs L d 78 0 [.ref 0, .int i1, .int i2, .int i3, .int i4, .retAddr 0, .retAddr 0] [] (G, I, J) (q_Ri (fun y1 G1 I1 J1 => (am_is 0 1 = true ∧ Q (.inl (some (.int 0))) (G1, I1, (am_u J1 117 (0 : Int32).toNatClampNeg ((y1).toInt64))))) (fun x1 G1 I1 J1 => q_X β xs L (d + 1) 187 9 [.ref 0, .int i1, .int i2, .int i3, .int i4, .ref 117, .retAddr 0] Q x1 (G1, I1, J1)))) : q_W β xs L (d + 1) 187 0 [.ref 0, .int i1, .int i2, .int i3, .int i4, .ref 117, .retAddr 0] [] (G, I, J) Q := by
  refine w_al f_187_0 rfl ?_
  refine w_ic f_187_2 ?_
  refine w_al f_187_3 rfl ?_
  refine w_il f_187_4 rfl ?_
  refine w_il f_187_5 rfl ?_
  refine w_il f_187_6 rfl ?_
  refine w_il f_187_7 rfl ?_
  refine w_inv (as := [.ref 0, .int i1, .int i2, .int i3, .int i4, .retAddr 0, .retAddr 0]) (st' := [.int 0, .ref 117]) f_187_9 rfl rfl rfl rfl rfl rfl H (k_i (fun y1 G1 I1 J1 H => ?_)) (fun x h' h => h)
  refine w_i2l f_187_12 ?_
  have hb := H.1
  have H := H.2
  refine w_last f_187_13 rfl hb ?_
  refine w_go f_187_14 ?_
  refine w_ic f_187_25 ?_
  exact w_reti f_187_26 H
theorem g_187_19 {d : Nat} {G : am_G} {I : Nat → Nat → Int32} {J : Nat → Nat → Int64} {Q : am_O → am_H → Prop} (hR : q_RT G) (i1 : Int32) (i2 : Int32) (i3 : Int32) (i4 : Int32) (H : Q (.inl (some (.int 1))) (G, I, J)) : q_W β xs L (d + 1) 187 19 [.ref 0, .int i1, .int i2, .int i3, .int i4, .ref 117, .retAddr 0] [] (G, I, J) Q := by
  refine w_ic f_187_19 ?_
  exact w_reti f_187_20 H
theorem g_187_23 {d : Nat} {G : am_G} {I : Nat → Nat → Int32} {J : Nat → Nat → Int64} {Q : am_O → am_H → Prop} (hR : q_RT G) (i1 : Int32) (i2 : Int32) (i3 : Int32) (i4 : Int32) (H : Q (.inl (some (.int 2))) (G, I, J)) : q_W β xs L (d + 1) 187 23 [.ref 0, .int i1, .int i2, .int i3, .int i4, .ref 117, .retAddr 0] [] (G, I, J) Q := by
  refine w_ic f_187_23 ?_
  exact w_reti f_187_24 H
theorem g_188_0 {d : Nat} {G : am_G} {I : Nat → Nat → Int32} {J : Nat → Nat → Int64} {Q : am_O → am_H → Prop} (hR : q_RT G) (i1 : Int32) (i2 : Int32) (i3 : Int32) (H : q_W β xs L d 80 0 [.ref 0, .int i1, .int i2, .int i3] [] (G, I, J) (q_Ri (fun y1 G1 I1 J1 => ((y1 = 0 → q_W β xs L (d + 1) 188 18 [.ref 0, .int i1, .int i2, .int i3, .ref 117, .retAddr 0] [.long 0, .int 0, .ref 117] (G1, I1, J1) Q) ∧ (¬ y1 = 0 → q_W β xs L (d + 1) 188 18 [.ref 0, .int i1, .int i2, .int i3, .ref 117, .retAddr 0] [.long 1, .int 0, .ref 117] (G1, I1, J1) Q))) (fun x1 G1 I1 J1 => q_X β xs L (d + 1) 188 7 [.ref 0, .int i1, .int i2, .int i3, .ref 117, .retAddr 0] Q x1 (G1, I1, J1)))) : q_W β xs L (d + 1) 188 0 [.ref 0, .int i1, .int i2, .int i3, .ref 117, .retAddr 0] [] (G, I, J) Q := by
  refine w_al f_188_0 rfl ?_
  refine w_ic f_188_2 ?_
  refine w_al f_188_3 rfl ?_
  refine w_il f_188_4 rfl ?_
  refine w_il f_188_5 rfl ?_
  refine w_il f_188_6 rfl ?_
  refine w_inv (as := [.ref 0, .int i1, .int i2, .int i3]) (st' := [.int 0, .ref 117]) f_188_7 rfl rfl rfl rfl rfl rfl H (k_i (fun y1 G1 I1 J1 H => ?_)) (fun x h' h => h)
  refine w_ifeq f_188_10 (fun c => ?_) (fun c => ?_)
  · have H := H.1 c
    refine w_lc f_188_17 ?_
    exact H
  · have H := H.2 c
    refine w_lc f_188_13 ?_
    refine w_go f_188_14 ?_
    exact H
theorem g_188_18 {d : Nat} {G : am_G} {I : Nat → Nat → Int32} {J : Nat → Nat → Int64} {Q : am_O → am_H → Prop} (hR : q_RT G) (i1 : Int32) (i2 : Int32) (i3 : Int32) (ls0 : Int64) (is1 : Int32) (H : (am_is is1 1 = true ∧ Q (.inl (some (.int 0))) (G, I, (am_u J 117 (is1).toNatClampNeg ls0)))) : q_W β xs L (d + 1) 188 18 [.ref 0, .int i1, .int i2, .int i3, .ref 117, .retAddr 0] [.long ls0, .int is1, .ref 117] (G, I, J) Q := by
  have hb := H.1
  have H := H.2
  refine w_last f_188_18 rfl hb ?_
  refine w_go f_188_19 ?_
  refine w_ic f_188_30 ?_
  exact w_reti f_188_31 H
theorem g_188_24 {d : Nat} {G : am_G} {I : Nat → Nat → Int32} {J : Nat → Nat → Int64} {Q : am_O → am_H → Prop} (hR : q_RT G) (i1 : Int32) (i2 : Int32) (i3 : Int32) (H : Q (.inl (some (.int 1))) (G, I, J)) : q_W β xs L (d + 1) 188 24 [.ref 0, .int i1, .int i2, .int i3, .ref 117, .retAddr 0] [] (G, I, J) Q := by
  refine w_ic f_188_24 ?_
  exact w_reti f_188_25 H
theorem g_188_28 {d : Nat} {G : am_G} {I : Nat → Nat → Int32} {J : Nat → Nat → Int64} {Q : am_O → am_H → Prop} (hR : q_RT G) (i1 : Int32) (i2 : Int32) (i3 : Int32) (H : Q (.inl (some (.int 2))) (G, I, J)) : q_W β xs L (d + 1) 188 28 [.ref 0, .int i1, .int i2, .int i3, .ref 117, .retAddr 0] [] (G, I, J) Q := by
  refine w_ic f_188_28 ?_
  exact w_reti f_188_29 H
theorem g_189_0 {d : Nat} {G : am_G} {I : Nat → Nat → Int32} {J : Nat → Nat → Int64} {Q : am_O → am_H → Prop} (hR : q_RT G) (i1 : Int32) (i2 : Int32) (i3 : Int32) (H : q_W β xs L d 81 0 [.ref 0, .int i1, .int i2, .int i3, .retAddr 0, .retAddr 0, .retAddr 0, .retAddr 0] [] (G, I, J) (q_Ri (fun y1 G1 I1 J1 => (am_is 0 1 = true ∧ Q (.inl (some (.int 0))) (G1, I1, (am_u J1 117 (0 : Int32).toNatClampNeg ((y1).toInt64))))) (fun x1 G1 I1 J1 => q_X β xs L (d + 1) 189 7 [.ref 0, .int i1, .int i2, .int i3, .ref 117, .retAddr 0] Q x1 (G1, I1, J1)))) : q_W β xs L (d + 1) 189 0 [.ref 0, .int i1, .int i2, .int i3, .ref 117, .retAddr 0] [] (G, I, J) Q := by
  refine w_al f_189_0 rfl ?_
  refine w_ic f_189_2 ?_
  refine w_al f_189_3 rfl ?_
  refine w_il f_189_4 rfl ?_
  refine w_il f_189_5 rfl ?_
  refine w_il f_189_6 rfl ?_
  refine w_inv (as := [.ref 0, .int i1, .int i2, .int i3, .retAddr 0, .retAddr 0, .retAddr 0, .retAddr 0]) (st' := [.int 0, .ref 117]) f_189_7 rfl rfl rfl rfl rfl rfl H (k_i (fun y1 G1 I1 J1 H => ?_)) (fun x h' h => h)
  refine w_i2l f_189_10 ?_
  have hb := H.1
  have H := H.2
  refine w_last f_189_11 rfl hb ?_
  refine w_go f_189_12 ?_
  refine w_ic f_189_23 ?_
  exact w_reti f_189_24 H
theorem g_189_17 {d : Nat} {G : am_G} {I : Nat → Nat → Int32} {J : Nat → Nat → Int64} {Q : am_O → am_H → Prop} (hR : q_RT G) (i1 : Int32) (i2 : Int32) (i3 : Int32) (H : Q (.inl (some (.int 1))) (G, I, J)) : q_W β xs L (d + 1) 189 17 [.ref 0, .int i1, .int i2, .int i3, .ref 117, .retAddr 0] [] (G, I, J) Q := by
  refine w_ic f_189_17 ?_
  exact w_reti f_189_18 H
theorem g_189_21 {d : Nat} {G : am_G} {I : Nat → Nat → Int32} {J : Nat → Nat → Int64} {Q : am_O → am_H → Prop} (hR : q_RT G) (i1 : Int32) (i2 : Int32) (i3 : Int32) (H : Q (.inl (some (.int 2))) (G, I, J)) : q_W β xs L (d + 1) 189 21 [.ref 0, .int i1, .int i2, .int i3, .ref 117, .retAddr 0] [] (G, I, J) Q := by
  refine w_ic f_189_21 ?_
  exact w_reti f_189_22 H
theorem g_190_0 {d : Nat} {G : am_G} {I : Nat → Nat → Int32} {J : Nat → Nat → Int64} {Q : am_O → am_H → Prop} (hR : q_RT G) (i1 : Int32) (i2 : Int32) (H : q_W β xs L d 82 0 [.ref 0, .int i1, .int i2] [] (G, I, J) (q_Ri (fun y1 G1 I1 J1 => (am_is 0 1 = true ∧ Q (.inl (some (.int 0))) (G1, I1, (am_u J1 117 (0 : Int32).toNatClampNeg ((y1).toInt64))))) (fun x1 G1 I1 J1 => q_X β xs L (d + 1) 190 5 [.ref 0, .int i1, .int i2, .ref 117, .retAddr 0] Q x1 (G1, I1, J1)))) : q_W β xs L (d + 1) 190 0 [.ref 0, .int i1, .int i2, .ref 117, .retAddr 0] [] (G, I, J) Q := by
  refine w_al f_190_0 rfl ?_
  refine w_ic f_190_1 ?_
  refine w_al f_190_2 rfl ?_
  refine w_il f_190_3 rfl ?_
  refine w_il f_190_4 rfl ?_
  refine w_inv (as := [.ref 0, .int i1, .int i2]) (st' := [.int 0, .ref 117]) f_190_5 rfl rfl rfl rfl rfl rfl H (k_i (fun y1 G1 I1 J1 H => ?_)) (fun x h' h => h)
  refine w_i2l f_190_8 ?_
  have hb := H.1
  have H := H.2
  refine w_last f_190_9 rfl hb ?_
  refine w_go f_190_10 ?_
  refine w_ic f_190_21 ?_
  exact w_reti f_190_22 H
theorem g_190_15 {d : Nat} {G : am_G} {I : Nat → Nat → Int32} {J : Nat → Nat → Int64} {Q : am_O → am_H → Prop} (hR : q_RT G) (i1 : Int32) (i2 : Int32) (H : Q (.inl (some (.int 1))) (G, I, J)) : q_W β xs L (d + 1) 190 15 [.ref 0, .int i1, .int i2, .ref 117, .retAddr 0] [] (G, I, J) Q := by
  refine w_ic f_190_15 ?_
  exact w_reti f_190_16 H
theorem g_190_19 {d : Nat} {G : am_G} {I : Nat → Nat → Int32} {J : Nat → Nat → Int64} {Q : am_O → am_H → Prop} (hR : q_RT G) (i1 : Int32) (i2 : Int32) (H : Q (.inl (some (.int 2))) (G, I, J)) : q_W β xs L (d + 1) 190 19 [.ref 0, .int i1, .int i2, .ref 117, .retAddr 0] [] (G, I, J) Q := by
  refine w_ic f_190_19 ?_
  exact w_reti f_190_20 H
theorem g_191_0 {d : Nat} {G : am_G} {I : Nat → Nat → Int32} {J : Nat → Nat → Int64} {Q : am_O → am_H → Prop} (hR : q_RT G) (i1 : Int32) (i2 : Int32) (i3 : Int32) (i4 : Int32) (H : q_W β xs L d 83 0 [.ref 0, .int i1, .int i2, .int i3, .int i4, .retAddr 0] [] (G, I, J) (q_Ri (fun y1 G1 I1 J1 => (am_is 0 1 = true ∧ Q (.inl (some (.int 0))) (G1, I1, (am_u J1 117 (0 : Int32).toNatClampNeg ((y1).toInt64))))) (fun x1 G1 I1 J1 => q_X β xs L (d + 1) 191 9 [.ref 0, .int i1, .int i2, .int i3, .int i4, .ref 117, .retAddr 0] Q x1 (G1, I1, J1)))) : q_W β xs L (d + 1) 191 0 [.ref 0, .int i1, .int i2, .int i3, .int i4, .ref 117, .retAddr 0] [] (G, I, J) Q := by
  refine w_al f_191_0 rfl ?_
  refine w_ic f_191_2 ?_
  refine w_al f_191_3 rfl ?_
  refine w_il f_191_4 rfl ?_
  refine w_il f_191_5 rfl ?_
  refine w_il f_191_6 rfl ?_
  refine w_il f_191_7 rfl ?_
  refine w_inv (as := [.ref 0, .int i1, .int i2, .int i3, .int i4, .retAddr 0]) (st' := [.int 0, .ref 117]) f_191_9 rfl rfl rfl rfl rfl rfl H (k_i (fun y1 G1 I1 J1 H => ?_)) (fun x h' h => h)
  refine w_i2l f_191_12 ?_
  have hb := H.1
  have H := H.2
  refine w_last f_191_13 rfl hb ?_
  refine w_go f_191_14 ?_
  refine w_ic f_191_25 ?_
  exact w_reti f_191_26 H
theorem g_191_19 {d : Nat} {G : am_G} {I : Nat → Nat → Int32} {J : Nat → Nat → Int64} {Q : am_O → am_H → Prop} (hR : q_RT G) (i1 : Int32) (i2 : Int32) (i3 : Int32) (i4 : Int32) (H : Q (.inl (some (.int 1))) (G, I, J)) : q_W β xs L (d + 1) 191 19 [.ref 0, .int i1, .int i2, .int i3, .int i4, .ref 117, .retAddr 0] [] (G, I, J) Q := by
  refine w_ic f_191_19 ?_
  exact w_reti f_191_20 H
theorem g_191_23 {d : Nat} {G : am_G} {I : Nat → Nat → Int32} {J : Nat → Nat → Int64} {Q : am_O → am_H → Prop} (hR : q_RT G) (i1 : Int32) (i2 : Int32) (i3 : Int32) (i4 : Int32) (H : Q (.inl (some (.int 2))) (G, I, J)) : q_W β xs L (d + 1) 191 23 [.ref 0, .int i1, .int i2, .int i3, .int i4, .ref 117, .retAddr 0] [] (G, I, J) Q := by
  refine w_ic f_191_23 ?_
  exact w_reti f_191_24 H
theorem g_192_0 {d : Nat} {G : am_G} {I : Nat → Nat → Int32} {J : Nat → Nat → Int64} {Q : am_O → am_H → Prop} (hR : q_RT G) (i1 : Int32) (i2 : Int32) (i3 : Int32) (i4 : Int32) (H : q_W β xs L d 84 0 [.ref 0, .int i1, .int i2, .int i3, .int i4] [] (G, I, J) (q_Ri (fun y1 G1 I1 J1 => (am_is 0 1 = true ∧ Q (.inl (some (.int 0))) (G1, I1, (am_u J1 117 (0 : Int32).toNatClampNeg ((y1).toInt64))))) (fun x1 G1 I1 J1 => q_X β xs L (d + 1) 192 9 [.ref 0, .int i1, .int i2, .int i3, .int i4, .ref 117, .retAddr 0] Q x1 (G1, I1, J1)))) : q_W β xs L (d + 1) 192 0 [.ref 0, .int i1, .int i2, .int i3, .int i4, .ref 117, .retAddr 0] [] (G, I, J) Q := by
  refine w_al f_192_0 rfl ?_
  refine w_ic f_192_2 ?_
  refine w_al f_192_3 rfl ?_
  refine w_il f_192_4 rfl ?_
  refine w_il f_192_5 rfl ?_
  refine w_il f_192_6 rfl ?_
  refine w_il f_192_7 rfl ?_
  refine w_inv (as := [.ref 0, .int i1, .int i2, .int i3, .int i4]) (st' := [.int 0, .ref 117]) f_192_9 rfl rfl rfl rfl rfl rfl H (k_i (fun y1 G1 I1 J1 H => ?_)) (fun x h' h => h)
  refine w_i2l f_192_12 ?_
  have hb := H.1
  have H := H.2
  refine w_last f_192_13 rfl hb ?_
  refine w_go f_192_14 ?_
  refine w_ic f_192_25 ?_
  exact w_reti f_192_26 H
theorem g_192_19 {d : Nat} {G : am_G} {I : Nat → Nat → Int32} {J : Nat → Nat → Int64} {Q : am_O → am_H → Prop} (hR : q_RT G) (i1 : Int32) (i2 : Int32) (i3 : Int32) (i4 : Int32) (H : Q (.inl (some (.int 1))) (G, I, J)) : q_W β xs L (d + 1) 192 19 [.ref 0, .int i1, .int i2, .int i3, .int i4, .ref 117, .retAddr 0] [] (G, I, J) Q := by
  refine w_ic f_192_19 ?_
  exact w_reti f_192_20 H
theorem g_192_23 {d : Nat} {G : am_G} {I : Nat → Nat → Int32} {J : Nat → Nat → Int64} {Q : am_O → am_H → Prop} (hR : q_RT G) (i1 : Int32) (i2 : Int32) (i3 : Int32) (i4 : Int32) (H : Q (.inl (some (.int 2))) (G, I, J)) : q_W β xs L (d + 1) 192 23 [.ref 0, .int i1, .int i2, .int i3, .int i4, .ref 117, .retAddr 0] [] (G, I, J) Q := by
  refine w_ic f_192_23 ?_
  exact w_reti f_192_24 H
theorem g_193_0 {d : Nat} {G : am_G} {I : Nat → Nat → Int32} {J : Nat → Nat → Int64} {Q : am_O → am_H → Prop} (hR : q_RT G) (i1 : Int32) (i2 : Int32) (i3 : Int32) (i4 : Int32) (H : q_W β xs L d 85 0 [.ref 0, .int i1, .int i2, .int i3, .int i4, .retAddr 0, .retAddr 0, .retAddr 0, .retAddr 0] [] (G, I, J) (q_Ri (fun y1 G1 I1 J1 => (am_is 0 1 = true ∧ Q (.inl (some (.int 0))) (G1, I1, (am_u J1 117 (0 : Int32).toNatClampNeg ((y1).toInt64))))) (fun x1 G1 I1 J1 => q_X β xs L (d + 1) 193 9 [.ref 0, .int i1, .int i2, .int i3, .int i4, .ref 117, .retAddr 0] Q x1 (G1, I1, J1)))) : q_W β xs L (d + 1) 193 0 [.ref 0, .int i1, .int i2, .int i3, .int i4, .ref 117, .retAddr 0] [] (G, I, J) Q := by
  refine w_al f_193_0 rfl ?_
  refine w_ic f_193_2 ?_
  refine w_al f_193_3 rfl ?_
  refine w_il f_193_4 rfl ?_
  refine w_il f_193_5 rfl ?_
  refine w_il f_193_6 rfl ?_
  refine w_il f_193_7 rfl ?_
  refine w_inv (as := [.ref 0, .int i1, .int i2, .int i3, .int i4, .retAddr 0, .retAddr 0, .retAddr 0, .retAddr 0]) (st' := [.int 0, .ref 117]) f_193_9 rfl rfl rfl rfl rfl rfl H (k_i (fun y1 G1 I1 J1 H => ?_)) (fun x h' h => h)
  refine w_i2l f_193_12 ?_
  have hb := H.1
  have H := H.2
  refine w_last f_193_13 rfl hb ?_
  refine w_go f_193_14 ?_
  refine w_ic f_193_25 ?_
  exact w_reti f_193_26 H
theorem g_193_19 {d : Nat} {G : am_G} {I : Nat → Nat → Int32} {J : Nat → Nat → Int64} {Q : am_O → am_H → Prop} (hR : q_RT G) (i1 : Int32) (i2 : Int32) (i3 : Int32) (i4 : Int32) (H : Q (.inl (some (.int 1))) (G, I, J)) : q_W β xs L (d + 1) 193 19 [.ref 0, .int i1, .int i2, .int i3, .int i4, .ref 117, .retAddr 0] [] (G, I, J) Q := by
  refine w_ic f_193_19 ?_
  exact w_reti f_193_20 H
theorem g_193_23 {d : Nat} {G : am_G} {I : Nat → Nat → Int32} {J : Nat → Nat → Int64} {Q : am_O → am_H → Prop} (hR : q_RT G) (i1 : Int32) (i2 : Int32) (i3 : Int32) (i4 : Int32) (H : Q (.inl (some (.int 2))) (G, I, J)) : q_W β xs L (d + 1) 193 23 [.ref 0, .int i1, .int i2, .int i3, .int i4, .ref 117, .retAddr 0] [] (G, I, J) Q := by
  refine w_ic f_193_23 ?_
  exact w_reti f_193_24 H
theorem g_194_0 {d : Nat} {G : am_G} {I : Nat → Nat → Int32} {J : Nat → Nat → Int64} {Q : am_O → am_H → Prop} (hR : q_RT G) (i1 : Int32) (i2 : Int32) (i3 : Int32) (i4 : Int32) (H : q_W β xs L d 86 0 [.ref 0, .int i1, .int i2, .int i3, .int i4] [] (G, I, J) (q_Ri (fun y1 G1 I1 J1 => (am_is 0 1 = true ∧ Q (.inl (some (.int 0))) (G1, I1, (am_u J1 117 (0 : Int32).toNatClampNeg ((y1).toInt64))))) (fun x1 G1 I1 J1 => q_X β xs L (d + 1) 194 9 [.ref 0, .int i1, .int i2, .int i3, .int i4, .ref 117, .retAddr 0] Q x1 (G1, I1, J1)))) : q_W β xs L (d + 1) 194 0 [.ref 0, .int i1, .int i2, .int i3, .int i4, .ref 117, .retAddr 0] [] (G, I, J) Q := by
  refine w_al f_194_0 rfl ?_
  refine w_ic f_194_2 ?_
  refine w_al f_194_3 rfl ?_
  refine w_il f_194_4 rfl ?_
  refine w_il f_194_5 rfl ?_
  refine w_il f_194_6 rfl ?_
  refine w_il f_194_7 rfl ?_
  refine w_inv (as := [.ref 0, .int i1, .int i2, .int i3, .int i4]) (st' := [.int 0, .ref 117]) f_194_9 rfl rfl rfl rfl rfl rfl H (k_i (fun y1 G1 I1 J1 H => ?_)) (fun x h' h => h)
  refine w_i2l f_194_12 ?_
  have hb := H.1
  have H := H.2
  refine w_last f_194_13 rfl hb ?_
  refine w_go f_194_14 ?_
  refine w_ic f_194_25 ?_
  exact w_reti f_194_26 H
theorem g_194_19 {d : Nat} {G : am_G} {I : Nat → Nat → Int32} {J : Nat → Nat → Int64} {Q : am_O → am_H → Prop} (hR : q_RT G) (i1 : Int32) (i2 : Int32) (i3 : Int32) (i4 : Int32) (H : Q (.inl (some (.int 1))) (G, I, J)) : q_W β xs L (d + 1) 194 19 [.ref 0, .int i1, .int i2, .int i3, .int i4, .ref 117, .retAddr 0] [] (G, I, J) Q := by
  refine w_ic f_194_19 ?_
  exact w_reti f_194_20 H
theorem g_194_23 {d : Nat} {G : am_G} {I : Nat → Nat → Int32} {J : Nat → Nat → Int64} {Q : am_O → am_H → Prop} (hR : q_RT G) (i1 : Int32) (i2 : Int32) (i3 : Int32) (i4 : Int32) (H : Q (.inl (some (.int 2))) (G, I, J)) : q_W β xs L (d + 1) 194 23 [.ref 0, .int i1, .int i2, .int i3, .int i4, .ref 117, .retAddr 0] [] (G, I, J) Q := by
  refine w_ic f_194_23 ?_
  exact w_reti f_194_24 H
theorem g_195_0 {d : Nat} {G : am_G} {I : Nat → Nat → Int32} {J : Nat → Nat → Int64} {Q : am_O → am_H → Prop} (hR : q_RT G) (i1 : Int32) (i2 : Int32) (i3 : Int32) (i4 : Int32) (i5 : Int32) (i6 : Int32) (H : q_W β xs L d 87 0 [.ref 0, .int i1, .int i2, .int i3, .int i4, .int i5, .int i6, .retAddr 0, .retAddr 0, .retAddr 0] [] (G, I, J) (q_Ri (fun y1 G1 I1 J1 => (am_is 0 1 = true ∧ Q (.inl (some (.int 0))) (G1, I1, (am_u J1 117 (0 : Int32).toNatClampNeg ((y1).toInt64))))) (fun x1 G1 I1 J1 => q_X β xs L (d + 1) 195 13 [.ref 0, .int i1, .int i2, .int i3, .int i4, .int i5, .int i6, .ref 117, .retAddr 0] Q x1 (G1, I1, J1)))) : q_W β xs L (d + 1) 195 0 [.ref 0, .int i1, .int i2, .int i3, .int i4, .int i5, .int i6, .ref 117, .retAddr 0] [] (G, I, J) Q := by
  refine w_al f_195_0 rfl ?_
  refine w_ic f_195_2 ?_
  refine w_al f_195_3 rfl ?_
  refine w_il f_195_4 rfl ?_
  refine w_il f_195_5 rfl ?_
  refine w_il f_195_6 rfl ?_
  refine w_il f_195_7 rfl ?_
  refine w_il f_195_9 rfl ?_
  refine w_il f_195_11 rfl ?_
  refine w_inv (as := [.ref 0, .int i1, .int i2, .int i3, .int i4, .int i5, .int i6, .retAddr 0, .retAddr 0, .retAddr 0]) (st' := [.int 0, .ref 117]) f_195_13 rfl rfl rfl rfl rfl rfl H (k_i (fun y1 G1 I1 J1 H => ?_)) (fun x h' h => h)
  refine w_i2l f_195_16 ?_
  have hb := H.1
  have H := H.2
  refine w_last f_195_17 rfl hb ?_
  refine w_go f_195_18 ?_
  refine w_ic f_195_29 ?_
  exact w_reti f_195_30 H
theorem g_195_23 {d : Nat} {G : am_G} {I : Nat → Nat → Int32} {J : Nat → Nat → Int64} {Q : am_O → am_H → Prop} (hR : q_RT G) (i1 : Int32) (i2 : Int32) (i3 : Int32) (i4 : Int32) (i5 : Int32) (i6 : Int32) (H : Q (.inl (some (.int 1))) (G, I, J)) : q_W β xs L (d + 1) 195 23 [.ref 0, .int i1, .int i2, .int i3, .int i4, .int i5, .int i6, .ref 117, .retAddr 0] [] (G, I, J) Q := by
  refine w_ic f_195_23 ?_
  exact w_reti f_195_24 H
theorem g_195_27 {d : Nat} {G : am_G} {I : Nat → Nat → Int32} {J : Nat → Nat → Int64} {Q : am_O → am_H → Prop} (hR : q_RT G) (i1 : Int32) (i2 : Int32) (i3 : Int32) (i4 : Int32) (i5 : Int32) (i6 : Int32) (H : Q (.inl (some (.int 2))) (G, I, J)) : q_W β xs L (d + 1) 195 27 [.ref 0, .int i1, .int i2, .int i3, .int i4, .int i5, .int i6, .ref 117, .retAddr 0] [] (G, I, J) Q := by
  refine w_ic f_195_27 ?_
  exact w_reti f_195_28 H
theorem g_196_0 {d : Nat} {G : am_G} {I : Nat → Nat → Int32} {J : Nat → Nat → Int64} {Q : am_O → am_H → Prop} (hR : q_RT G) (i1 : Int32) (i2 : Int32) (i3 : Int32) (i4 : Int32) (i5 : Int32) (H : q_W β xs L d 88 0 [.ref 0, .int i1, .int i2, .int i3, .int i4, .int i5, .retAddr 0] [] (G, I, J) (q_Ri (fun y1 G1 I1 J1 => (am_is 0 1 = true ∧ Q (.inl (some (.int 0))) (G1, I1, (am_u J1 117 (0 : Int32).toNatClampNeg ((y1).toInt64))))) (fun x1 G1 I1 J1 => q_X β xs L (d + 1) 196 11 [.ref 0, .int i1, .int i2, .int i3, .int i4, .int i5, .ref 117, .retAddr 0] Q x1 (G1, I1, J1)))) : q_W β xs L (d + 1) 196 0 [.ref 0, .int i1, .int i2, .int i3, .int i4, .int i5, .ref 117, .retAddr 0] [] (G, I, J) Q := by
  refine w_al f_196_0 rfl ?_
  refine w_ic f_196_2 ?_
  refine w_al f_196_3 rfl ?_
  refine w_il f_196_4 rfl ?_
  refine w_il f_196_5 rfl ?_
  refine w_il f_196_6 rfl ?_
  refine w_il f_196_7 rfl ?_
  refine w_il f_196_9 rfl ?_
  refine w_inv (as := [.ref 0, .int i1, .int i2, .int i3, .int i4, .int i5, .retAddr 0]) (st' := [.int 0, .ref 117]) f_196_11 rfl rfl rfl rfl rfl rfl H (k_i (fun y1 G1 I1 J1 H => ?_)) (fun x h' h => h)
  refine w_i2l f_196_14 ?_
  have hb := H.1
  have H := H.2
  refine w_last f_196_15 rfl hb ?_
  refine w_go f_196_16 ?_
  refine w_ic f_196_27 ?_
  exact w_reti f_196_28 H
theorem g_196_21 {d : Nat} {G : am_G} {I : Nat → Nat → Int32} {J : Nat → Nat → Int64} {Q : am_O → am_H → Prop} (hR : q_RT G) (i1 : Int32) (i2 : Int32) (i3 : Int32) (i4 : Int32) (i5 : Int32) (H : Q (.inl (some (.int 1))) (G, I, J)) : q_W β xs L (d + 1) 196 21 [.ref 0, .int i1, .int i2, .int i3, .int i4, .int i5, .ref 117, .retAddr 0] [] (G, I, J) Q := by
  refine w_ic f_196_21 ?_
  exact w_reti f_196_22 H
theorem g_196_25 {d : Nat} {G : am_G} {I : Nat → Nat → Int32} {J : Nat → Nat → Int64} {Q : am_O → am_H → Prop} (hR : q_RT G) (i1 : Int32) (i2 : Int32) (i3 : Int32) (i4 : Int32) (i5 : Int32) (H : Q (.inl (some (.int 2))) (G, I, J)) : q_W β xs L (d + 1) 196 25 [.ref 0, .int i1, .int i2, .int i3, .int i4, .int i5, .ref 117, .retAddr 0] [] (G, I, J) Q := by
  refine w_ic f_196_25 ?_
  exact w_reti f_196_26 H
theorem g_197_0 {d : Nat} {G : am_G} {I : Nat → Nat → Int32} {J : Nat → Nat → Int64} {Q : am_O → am_H → Prop} (hR : q_RT G) (i1 : Int32) (i2 : Int32) (i3 : Int32) (i4 : Int32) (H : q_W β xs L d 89 0 [.ref 0, .int i1, .int i2, .int i3, .int i4, .retAddr 0, .retAddr 0] [] (G, I, J) (q_Ri (fun y1 G1 I1 J1 => (am_is 0 1 = true ∧ Q (.inl (some (.int 0))) (G1, I1, (am_u J1 117 (0 : Int32).toNatClampNeg ((y1).toInt64))))) (fun x1 G1 I1 J1 => q_X β xs L (d + 1) 197 9 [.ref 0, .int i1, .int i2, .int i3, .int i4, .ref 117, .retAddr 0] Q x1 (G1, I1, J1)))) : q_W β xs L (d + 1) 197 0 [.ref 0, .int i1, .int i2, .int i3, .int i4, .ref 117, .retAddr 0] [] (G, I, J) Q := by
  refine w_al f_197_0 rfl ?_
  refine w_ic f_197_2 ?_
  refine w_al f_197_3 rfl ?_
  refine w_il f_197_4 rfl ?_
  refine w_il f_197_5 rfl ?_
  refine w_il f_197_6 rfl ?_
  refine w_il f_197_7 rfl ?_
  refine w_inv (as := [.ref 0, .int i1, .int i2, .int i3, .int i4, .retAddr 0, .retAddr 0]) (st' := [.int 0, .ref 117]) f_197_9 rfl rfl rfl rfl rfl rfl H (k_i (fun y1 G1 I1 J1 H => ?_)) (fun x h' h => h)
  refine w_i2l f_197_12 ?_
  have hb := H.1
  have H := H.2
  refine w_last f_197_13 rfl hb ?_
  refine w_go f_197_14 ?_
  refine w_ic f_197_25 ?_
  exact w_reti f_197_26 H
theorem g_197_19 {d : Nat} {G : am_G} {I : Nat → Nat → Int32} {J : Nat → Nat → Int64} {Q : am_O → am_H → Prop} (hR : q_RT G) (i1 : Int32) (i2 : Int32) (i3 : Int32) (i4 : Int32) (H : Q (.inl (some (.int 1))) (G, I, J)) : q_W β xs L (d + 1) 197 19 [.ref 0, .int i1, .int i2, .int i3, .int i4, .ref 117, .retAddr 0] [] (G, I, J) Q := by
  refine w_ic f_197_19 ?_
  exact w_reti f_197_20 H
theorem g_197_23 {d : Nat} {G : am_G} {I : Nat → Nat → Int32} {J : Nat → Nat → Int64} {Q : am_O → am_H → Prop} (hR : q_RT G) (i1 : Int32) (i2 : Int32) (i3 : Int32) (i4 : Int32) (H : Q (.inl (some (.int 2))) (G, I, J)) : q_W β xs L (d + 1) 197 23 [.ref 0, .int i1, .int i2, .int i3, .int i4, .ref 117, .retAddr 0] [] (G, I, J) Q := by
  refine w_ic f_197_23 ?_
  exact w_reti f_197_24 H
theorem g_198_0 {d : Nat} {G : am_G} {I : Nat → Nat → Int32} {J : Nat → Nat → Int64} {Q : am_O → am_H → Prop} (hR : q_RT G) (i1 : Int32) (H : q_W β xs L d 90 0 [.ref 0, .int i1] [] (G, I, J) (q_Ri (fun y1 G1 I1 J1 => (am_is 0 1 = true ∧ Q (.inl (some (.int 0))) (G1, I1, (am_u J1 117 (0 : Int32).toNatClampNeg ((y1).toInt64))))) (fun x1 G1 I1 J1 => q_X β xs L (d + 1) 198 4 [.ref 0, .int i1, .ref 117, .retAddr 0] Q x1 (G1, I1, J1)))) : q_W β xs L (d + 1) 198 0 [.ref 0, .int i1, .ref 117, .retAddr 0] [] (G, I, J) Q := by
  refine w_al f_198_0 rfl ?_
  refine w_ic f_198_1 ?_
  refine w_al f_198_2 rfl ?_
  refine w_il f_198_3 rfl ?_
  refine w_inv (as := [.ref 0, .int i1]) (st' := [.int 0, .ref 117]) f_198_4 rfl rfl rfl rfl rfl rfl H (k_i (fun y1 G1 I1 J1 H => ?_)) (fun x h' h => h)
  refine w_i2l f_198_7 ?_
  have hb := H.1
  have H := H.2
  refine w_last f_198_8 rfl hb ?_
  refine w_go f_198_9 ?_
  refine w_ic f_198_15 ?_
  exact w_reti f_198_16 H
theorem g_198_13 {d : Nat} {G : am_G} {I : Nat → Nat → Int32} {J : Nat → Nat → Int64} {Q : am_O → am_H → Prop} (hR : q_RT G) (i1 : Int32) (H : Q (.inl (some (.int 1))) (G, I, J)) : q_W β xs L (d + 1) 198 13 [.ref 0, .int i1, .ref 117, .retAddr 0] [] (G, I, J) Q := by
  refine w_ic f_198_13 ?_
  exact w_reti f_198_14 H
theorem g_199_23 {d : Nat} {G : am_G} {I : Nat → Nat → Int32} {J : Nat → Nat → Int64} {Q : am_O → am_H → Prop} (hR : q_RT G) (i4 : Int32) (v5 : Value) (v6 : Value) (n5 : am_nl v5 = true) (n6 : am_nl v6 = true) (H : ((((Int32.ofNat L) - 7) < i4 → (((1 : Int32) = 0 ∨ (1 : Int32) = 1) ∧ Q (.inl (some (.int 1))) (G, I, J))) ∧ (¬ ((Int32.ofNat L) - 7) < i4 → (am_is i4 L = true ∧ (∃ v : Nat, (q_sw 0 20 [140, 153, 178, 227, 331, 399, 490, 546, 619, 711, 724, 811, 891, 959, 1051, 1143, 1235, 1327, 1445, 1549, 1641] 1697) ((xs (i4).toNatClampNeg) &&& 31) = some v ∧ q_W β xs L (d + 1) 199 v [.retAddr 1, .ref 0, .ref 59, .ref 117, .int i4, v5, v6] [] (G, I, J) Q))))) : q_W β xs L (d + 1) 199 23 [.retAddr 1, .ref 0, .ref 59, .ref 117, .int i4, v5, v6] [] (G, I, J) Q := by
  refine w_il f_199_23 rfl ?_
  refine w_ae f_199_25 rfl ?_
  refine w_elen f_199_26 ?_
  refine w_ic f_199_27 ?_
  refine w_bin f_199_29 ?_
  refine w_icgt f_199_30 (fun c => ?_) (fun c => ?_)
  · have H := H.1 c
    refine w_ic f_199_1703 ?_
    exact w_retz f_199_1704 H.1 H.2
  · have H := H.2 c
    refine w_ae f_199_33 rfl ?_
    refine w_il f_199_34 rfl ?_
    have hb := H.1
    have H := H.2
    refine w_eld f_199_36 hb ?_
    refine w_ic f_199_37 ?_
    refine w_bin f_199_39 ?_
    obtain ⟨v, hg, H⟩ := H
    exact w_sw f_199_40 hg H
theorem g_199_140 {d : Nat} {G : am_G} {I : Nat → Nat → Int32} {J : Nat → Nat → Int64} {Q : am_O → am_H → Prop} (hR : q_RT G) (i4 : Int32) (v5 : Value) (v6 : Value) (n5 : am_nl v5 = true) (n6 : am_nl v6 = true) (H : q_W β xs L d 70 0 [.ref 0] [] (G, I, J) (q_Ri (fun y1 G1 I1 J1 => q_W β xs L d 104 0 [.ref 59] [] (G1, I1, J1) (q_Ri (fun y2 G2 I2 J2 => ((y1 = y2 → q_W β xs L (d + 1) 199 1697 [.retAddr 1, .ref 0, .ref 59, .ref 117, .int i4, v5, v6] [] (G2, I2, J2) Q) ∧ (¬ y1 = y2 → (((0 : Int32) = 0 ∨ (0 : Int32) = 1) ∧ Q (.inl (some (.int 0))) (G2, I2, J2))))) (fun x2 G2 I2 J2 => q_X β xs L (d + 1) 199 145 [.retAddr 1, .ref 0, .ref 59, .ref 117, .int i4, v5, v6] Q x2 (G2, I2, J2)))) (fun x1 G1 I1 J1 => q_X β xs L (d + 1) 199 141 [.retAddr 1, .ref 0, .ref 59, .ref 117, .int i4, v5, v6] Q x1 (G1, I1, J1)))) : q_W β xs L (d + 1) 199 140 [.retAddr 1, .ref 0, .ref 59, .ref 117, .int i4, v5, v6] [] (G, I, J) Q := by
  refine w_al f_199_140 rfl ?_
  refine w_inv (as := [.ref 0]) (st' := []) f_199_141 rfl rfl rfl rfl rfl rfl H (k_i (fun y1 G1 I1 J1 H => ?_)) (fun x h' h => h)
  refine w_al f_199_144 rfl ?_
  refine w_inv (as := [.ref 59]) (st' := [.int y1]) f_199_145 rfl rfl rfl rfl rfl rfl H (k_i (fun y2 G2 I2 J2 H => ?_)) (fun x h' h => h)
  refine w_iceq f_199_148 (fun c => ?_) (fun c => ?_)
  · have H := H.1 c
    exact H
  · have H := H.2 c
    refine w_ic f_199_151 ?_
    exact w_retz f_199_152 H.1 H.2
theorem g_199_153 {d : Nat} {G : am_G} {I : Nat → Nat → Int32} {J : Nat → Nat → Int64} {Q : am_O → am_H → Prop} (hR : q_RT G) (i4 : Int32) (v5 : Value) (v6 : Value) (n5 : am_nl v5 = true) (n6 : am_nl v6 = true) (H : (am_is (i4 + 1) L = true ∧ q_W β xs L d 71 0 [.ref 0, .int (xs ((i4 + 1)).toNatClampNeg)] [] (G, I, J) (q_Ri (fun y1 G1 I1 J1 => (am_is (i4 + 1) L = true ∧ q_W β xs L d 105 0 [.ref 59, .int (xs ((i4 + 1)).toNatClampNeg)] [] (G1, I1, J1) (q_Ri (fun y2 G2 I2 J2 => ((y1 = y2 → q_W β xs L (d + 1) 199 1697 [.retAddr 1, .ref 0, .ref 59, .ref 117, .int i4, v5, v6] [] (G2, I2, J2) Q) ∧ (¬ y1 = y2 → (((0 : Int32) = 0 ∨ (0 : Int32) = 1) ∧ Q (.inl (some (.int 0))) (G2, I2, J2))))) (fun x2 G2 I2 J2 => q_X β xs L (d + 1) 199 170 [.retAddr 1, .ref 0, .ref 59, .ref 117, .int i4, v5, v6] Q x2 (G2, I2, J2))))) (fun x1 G1 I1 J1 => q_X β xs L (d + 1) 199 160 [.retAddr 1, .ref 0, .ref 59, .ref 117, .int i4, v5, v6] Q x1 (G1, I1, J1))))) : q_W β xs L (d + 1) 199 153 [.retAddr 1, .ref 0, .ref 59, .ref 117, .int i4, v5, v6] [] (G, I, J) Q := by
  refine w_al f_199_153 rfl ?_
  refine w_ae f_199_154 rfl ?_
  refine w_il f_199_155 rfl ?_
  refine w_ic f_199_157 ?_
  refine w_bin f_199_158 ?_
  have hb := H.1
  have H := H.2
  refine w_eld f_199_159 hb ?_
  refine w_inv (as := [.ref 0, .int (xs ((i4 + 1)).toNatClampNeg)]) (st' := []) f_199_160 rfl rfl rfl rfl rfl rfl H (k_i (fun y1 G1 I1 J1 H => ?_)) (fun x h' h => h)
  refine w_al f_199_163 rfl ?_
  refine w_ae f_199_164 rfl ?_
  refine w_il f_199_165 rfl ?_
  refine w_ic f_199_167 ?_
  refine w_bin f_199_168 ?_
  have hb := H.1
  have H := H.2
  refine w_eld f_199_169 hb ?_
  refine w_inv (as := [.ref 59, .int (xs ((i4 + 1)).toNatClampNeg)]) (st' := [.int y1]) f_199_170 rfl rfl rfl rfl rfl rfl H (k_i (fun y2 G2 I2 J2 H => ?_)) (fun x h' h => h)
  refine w_iceq f_199_173 (fun c => ?_) (fun c => ?_)
  · have H := H.1 c
    exact H
  · have H := H.2 c
    refine w_ic f_199_176 ?_
    exact w_retz f_199_177 H.1 H.2
theorem g_199_178 {d : Nat} {G : am_G} {I : Nat → Nat → Int32} {J : Nat → Nat → Int64} {Q : am_O → am_H → Prop} (hR : q_RT G) (i4 : Int32) (v5 : Value) (v6 : Value) (n5 : am_nl v5 = true) (n6 : am_nl v6 = true) (H : (am_is (i4 + 1) L = true ∧ (am_is (i4 + 2) L = true ∧ (am_is (i4 + 3) L = true ∧ q_W β xs L d 72 0 [.ref 0, .int (xs ((i4 + 1)).toNatClampNeg), .int (xs ((i4 + 2)).toNatClampNeg), .int (xs ((i4 + 3)).toNatClampNeg), .retAddr 0] [] (G, I, J) (q_Ri (fun y1 G1 I1 J1 => (am_is (i4 + 1) L = true ∧ (am_is (i4 + 2) L = true ∧ (am_is (i4 + 3) L = true ∧ q_W β xs L d 106 0 [.ref 59, .int (xs ((i4 + 1)).toNatClampNeg), .int (xs ((i4 + 2)).toNatClampNeg), .int (xs ((i4 + 3)).toNatClampNeg)] [] (G1, I1, J1) (q_Ri (fun y2 G2 I2 J2 => ((y1 = y2 → q_W β xs L (d + 1) 199 1697 [.retAddr 1, .ref 0, .ref 59, .ref 117, .int i4, v5, v6] [] (G2, I2, J2) Q) ∧ (¬ y1 = y2 → (((0 : Int32) = 0 ∨ (0 : Int32) = 1) ∧ Q (.inl (some (.int 0))) (G2, I2, J2))))) (fun x2 G2 I2 J2 => q_X β xs L (d + 1) 199 219 [.retAddr 1, .ref 0, .ref 59, .ref 117, .int i4, v5, v6] Q x2 (G2, I2, J2))))))) (fun x1 G1 I1 J1 => q_X β xs L (d + 1) 199 197 [.retAddr 1, .ref 0, .ref 59, .ref 117, .int i4, v5, v6] Q x1 (G1, I1, J1))))))) : q_W β xs L (d + 1) 199 178 [.retAddr 1, .ref 0, .ref 59, .ref 117, .int i4, v5, v6] [] (G, I, J) Q := by
  refine w_al f_199_178 rfl ?_
  refine w_ae f_199_179 rfl ?_
  refine w_il f_199_180 rfl ?_
  refine w_ic f_199_182 ?_
  refine w_bin f_199_183 ?_
  have hb := H.1
  have H := H.2
  refine w_eld f_199_184 hb ?_
  refine w_ae f_199_185 rfl ?_
  refine w_il f_199_186 rfl ?_
  refine w_ic f_199_188 ?_
  refine w_bin f_199_189 ?_
  have hb := H.1
  have H := H.2
  refine w_eld f_199_190 hb ?_
  refine w_ae f_199_191 rfl ?_
  refine w_il f_199_192 rfl ?_
  refine w_ic f_199_194 ?_
  refine w_bin f_199_195 ?_
  have hb := H.1
  have H := H.2
  refine w_eld f_199_196 hb ?_
  refine w_inv (as := [.ref 0, .int (xs ((i4 + 1)).toNatClampNeg), .int (xs ((i4 + 2)).toNatClampNeg), .int (xs ((i4 + 3)).toNatClampNeg), .retAddr 0]) (st' := []) f_199_197 rfl rfl rfl rfl rfl rfl H (k_i (fun y1 G1 I1 J1 H => ?_)) (fun x h' h => h)
  refine w_al f_199_200 rfl ?_
  refine w_ae f_199_201 rfl ?_
  refine w_il f_199_202 rfl ?_
  refine w_ic f_199_204 ?_
  refine w_bin f_199_205 ?_
  have hb := H.1
  have H := H.2
  refine w_eld f_199_206 hb ?_
  refine w_ae f_199_207 rfl ?_
  refine w_il f_199_208 rfl ?_
  refine w_ic f_199_210 ?_
  refine w_bin f_199_211 ?_
  have hb := H.1
  have H := H.2
  refine w_eld f_199_212 hb ?_
  refine w_ae f_199_213 rfl ?_
  refine w_il f_199_214 rfl ?_
  refine w_ic f_199_216 ?_
  refine w_bin f_199_217 ?_
  have hb := H.1
  have H := H.2
  refine w_eld f_199_218 hb ?_
  refine w_inv (as := [.ref 59, .int (xs ((i4 + 1)).toNatClampNeg), .int (xs ((i4 + 2)).toNatClampNeg), .int (xs ((i4 + 3)).toNatClampNeg)]) (st' := [.int y1]) f_199_219 rfl rfl rfl rfl rfl rfl H (k_i (fun y2 G2 I2 J2 H => ?_)) (fun x h' h => h)
  refine w_iceq f_199_222 (fun c => ?_) (fun c => ?_)
  · have H := H.1 c
    exact H
  · have H := H.2 c
    refine w_ic f_199_225 ?_
    exact w_retz f_199_226 H.1 H.2
theorem g_199_227 {d : Nat} {G : am_G} {I : Nat → Nat → Int32} {J : Nat → Nat → Int64} {Q : am_O → am_H → Prop} (hR : q_RT G) (i4 : Int32) (v5 : Value) (v6 : Value) (n5 : am_nl v5 = true) (n6 : am_nl v6 = true) (H : (am_is (i4 + 1) L = true ∧ (am_is (i4 + 2) L = true ∧ (am_is (i4 + 3) L = true ∧ (am_is (i4 + 4) L = true ∧ (am_is (i4 + 5) L = true ∧ q_W β xs L d 183 0 [.ref 0, .int (xs ((i4 + 1)).toNatClampNeg), .int (xs ((i4 + 2)).toNatClampNeg), .int (xs ((i4 + 3)).toNatClampNeg), .int (xs ((i4 + 4)).toNatClampNeg), .int (xs ((i4 + 5)).toNatClampNeg), .ref 117, .retAddr 0] [] (G, I, J) (q_Ri (fun y1 G1 I1 J1 => (am_is (i4 + 1) L = true ∧ (am_is (i4 + 2) L = true ∧ (am_is (i4 + 3) L = true ∧ (am_is (i4 + 4) L = true ∧ (am_is (i4 + 5) L = true ∧ q_W β xs L d 110 0 [.ref 59, .int (xs ((i4 + 1)).toNatClampNeg), .int (xs ((i4 + 2)).toNatClampNeg), .int (xs ((i4 + 3)).toNatClampNeg), .int (xs ((i4 + 4)).toNatClampNeg), .int (xs ((i4 + 5)).toNatClampNeg)] [] (G1, I1, J1) (q_Ri (fun y2 G2 I2 J2 => q_W β xs L d 102 0 [.ref 59] [] (G2, I2, J2) (q_Ri (fun y3 G3 I3 J3 => ((y3 = y1 → ((¬ y1 = 0 → q_W β xs L (d + 1) 199 328 [.retAddr 1, .ref 0, .ref 59, .ref 117, .int i4, .int y1, .int y2] [] (G3, I3, J3) Q) ∧ (y1 = 0 → (am_is 0 1 = true ∧ (((if (J3 117 (0 : Int32).toNatClampNeg) > ((y2).toInt64) then (1 : Int32) else if (J3 117 (0 : Int32).toNatClampNeg) = ((y2).toInt64) then 0 else -1) = 0 → q_W β xs L (d + 1) 199 328 [.retAddr 1, .ref 0, .ref 59, .ref 117, .int i4, .int y1, .int y2] [] (G3, I3, J3) Q) ∧ (¬ (if (J3 117 (0 : Int32).toNatClampNeg) > ((y2).toInt64) then (1 : Int32) else if (J3 117 (0 : Int32).toNatClampNeg) = ((y2).toInt64) then 0 else -1) = 0 → (((0 : Int32) = 0 ∨ (0 : Int32) = 1) ∧ Q (.inl (some (.int 0))) (G3, I3, J3)))))))) ∧ (¬ y3 = y1 → (((0 : Int32) = 0 ∨ (0 : Int32) = 1) ∧ Q (.inl (some (.int 0))) (G3, I3, J3))))) (fun x3 G3 I3 J3 => q_X β xs L (d + 1) 199 301 [.retAddr 1, .ref 0, .ref 59, .ref 117, .int i4, .int y1, .int y2] Q x3 (G3, I3, J3)))) (fun x2 G2 I2 J2 => q_X β xs L (d + 1) 199 295 [.retAddr 1, .ref 0, .ref 59, .ref 117, .int i4, .int y1, v6] Q x2 (G2, I2, J2))))))))) (fun x1 G1 I1 J1 => q_X β xs L (d + 1) 199 259 [.retAddr 1, .ref 0, .ref 59, .ref 117, .int i4, v5, v6] Q x1 (G1, I1, J1))))))))) : q_W β xs L (d + 1) 199 227 [.retAddr 1, .ref 0, .ref 59, .ref 117, .int i4, v5, v6] [] (G, I, J) Q := by
  refine w_al f_199_227 rfl ?_
  refine w_ae f_199_228 rfl ?_
  refine w_il f_199_229 rfl ?_
  refine w_ic f_199_231 ?_
  refine w_bin f_199_232 ?_
  have hb := H.1
  have H := H.2
  refine w_eld f_199_233 hb ?_
  refine w_ae f_199_234 rfl ?_
  refine w_il f_199_235 rfl ?_
  refine w_ic f_199_237 ?_
  refine w_bin f_199_238 ?_
  have hb := H.1
  have H := H.2
  refine w_eld f_199_239 hb ?_
  refine w_ae f_199_240 rfl ?_
  refine w_il f_199_241 rfl ?_
  refine w_ic f_199_243 ?_
  refine w_bin f_199_244 ?_
  have hb := H.1
  have H := H.2
  refine w_eld f_199_245 hb ?_
  refine w_ae f_199_246 rfl ?_
  refine w_il f_199_247 rfl ?_
  refine w_ic f_199_249 ?_
  refine w_bin f_199_250 ?_
  have hb := H.1
  have H := H.2
  refine w_eld f_199_251 hb ?_
  refine w_ae f_199_252 rfl ?_
  refine w_il f_199_253 rfl ?_
  refine w_ic f_199_255 ?_
  refine w_bin f_199_256 ?_
  have hb := H.1
  have H := H.2
  refine w_eld f_199_257 hb ?_
  refine w_al f_199_258 rfl ?_
  refine w_invs (as := [.ref 0, .int (xs ((i4 + 1)).toNatClampNeg), .int (xs ((i4 + 2)).toNatClampNeg), .int (xs ((i4 + 3)).toNatClampNeg), .int (xs ((i4 + 4)).toNatClampNeg), .int (xs ((i4 + 5)).toNatClampNeg), .ref 117, .retAddr 0]) (st' := []) f_199_259 rfl rfl rfl rfl rfl H (k_i (fun y1 G1 I1 J1 H => ?_)) (fun x h' h => h)
  refine w_is (ls' := [.retAddr 1, .ref 0, .ref 59, .ref 117, .int i4, .int y1, v6]) f_199_262 rfl ?_
  refine w_al f_199_264 rfl ?_
  refine w_ae f_199_265 rfl ?_
  refine w_il f_199_266 rfl ?_
  refine w_ic f_199_268 ?_
  refine w_bin f_199_269 ?_
  have hb := H.1
  have H := H.2
  refine w_eld f_199_270 hb ?_
  refine w_ae f_199_271 rfl ?_
  refine w_il f_199_272 rfl ?_
  refine w_ic f_199_274 ?_
  refine w_bin f_199_275 ?_
  have hb := H.1
  have H := H.2
  refine w_eld f_199_276 hb ?_
  refine w_ae f_199_277 rfl ?_
  refine w_il f_199_278 rfl ?_
  refine w_ic f_199_280 ?_
  refine w_bin f_199_281 ?_
  have hb := H.1
  have H := H.2
  refine w_eld f_199_282 hb ?_
  refine w_ae f_199_283 rfl ?_
  refine w_il f_199_284 rfl ?_
  refine w_ic f_199_286 ?_
  refine w_bin f_199_287 ?_
  have hb := H.1
  have H := H.2
  refine w_eld f_199_288 hb ?_
  refine w_ae f_199_289 rfl ?_
  refine w_il f_199_290 rfl ?_
  refine w_ic f_199_292 ?_
  refine w_bin f_199_293 ?_
  have hb := H.1
  have H := H.2
  refine w_eld f_199_294 hb ?_
  refine w_inv (as := [.ref 59, .int (xs ((i4 + 1)).toNatClampNeg), .int (xs ((i4 + 2)).toNatClampNeg), .int (xs ((i4 + 3)).toNatClampNeg), .int (xs ((i4 + 4)).toNatClampNeg), .int (xs ((i4 + 5)).toNatClampNeg)]) (st' := []) f_199_295 rfl rfl rfl rfl rfl rfl H (k_i (fun y2 G2 I2 J2 H => ?_)) (fun x h' h => h)
  refine w_is (ls' := [.retAddr 1, .ref 0, .ref 59, .ref 117, .int i4, .int y1, .int y2]) f_199_298 rfl ?_
  refine w_al f_199_300 rfl ?_
  refine w_inv (as := [.ref 59]) (st' := []) f_199_301 rfl rfl rfl rfl rfl rfl H (k_i (fun y3 G3 I3 J3 H => ?_)) (fun x h' h => h)
  refine w_il f_199_304 rfl ?_
  refine w_iceq f_199_306 (fun c => ?_) (fun c => ?_)
  · have H := H.1 c
    refine w_il f_199_311 rfl ?_
    refine w_ifne f_199_313 (fun c => ?_) (fun c => ?_)
    · have H := H.1 c
      exact H
    · have H := H.2 c
      refine w_al f_199_316 rfl ?_
      refine w_ic f_199_317 ?_
      have hb := H.1
      have H := H.2
      refine w_lald f_199_318 rfl hb ?_
      refine w_il f_199_319 rfl ?_
      refine w_i2l f_199_321 ?_
      refine w_lcmp f_199_322 ?_
      refine w_ifeq f_199_323 (fun c => ?_) (fun c => ?_)
      · have H := H.1 c
        exact H
      · have H := H.2 c
        refine w_ic f_199_326 ?_
        exact w_retz f_199_327 H.1 H.2
  · have H := H.2 c
    refine w_ic f_199_309 ?_
    exact w_retz f_199_310 H.1 H.2
theorem g_199_328 {d : Nat} {G : am_G} {I : Nat → Nat → Int32} {J : Nat → Nat → Int64} {Q : am_O → am_H → Prop} (hR : q_RT G) (i4 : Int32) (i5 : Int32) (i6 : Int32) (H : q_W β xs L (d + 1) 199 1697 [.retAddr 1, .ref 0, .ref 59, .ref 117, .int i4, .int i5, .int i6] [] (G, I, J) Q) : q_W β xs L (d + 1) 199 328 [.retAddr 1, .ref 0, .ref 59, .ref 117, .int i4, .int i5, .int i6] [] (G, I, J) Q := by
  refine w_go f_199_328 ?_
  exact H
theorem g_199_331 {d : Nat} {G : am_G} {I : Nat → Nat → Int32} {J : Nat → Nat → Int64} {Q : am_O → am_H → Prop} (hR : q_RT G) (i4 : Int32) (v5 : Value) (v6 : Value) (n5 : am_nl v5 = true) (n6 : am_nl v6 = true) (H : (am_is (i4 + 1) L = true ∧ (am_is (i4 + 2) L = true ∧ q_W β xs L d 184 0 [.ref 0, .int (xs ((i4 + 1)).toNatClampNeg), .int (xs ((i4 + 2)).toNatClampNeg), .ref 117, .retAddr 0] [] (G, I, J) (q_Ri (fun y1 G1 I1 J1 => (am_is (i4 + 1) L = true ∧ (am_is (i4 + 2) L = true ∧ q_W β xs L d 111 0 [.ref 59, .int (xs ((i4 + 1)).toNatClampNeg), .int (xs ((i4 + 2)).toNatClampNeg), .retAddr 0, .retAddr 0] [] (G1, I1, J1) (q_Ri (fun y2 G2 I2 J2 => q_W β xs L d 102 0 [.ref 59] [] (G2, I2, J2) (q_Ri (fun y3 G3 I3 J3 => ((y3 = y1 → ((¬ y1 = 0 → q_W β xs L (d + 1) 199 396 [.retAddr 1, .ref 0, .ref 59, .ref 117, .int i4, .int y1, .int y2] [] (G3, I3, J3) Q) ∧ (y1 = 0 → (am_is 0 1 = true ∧ (((if (J3 117 (0 : Int32).toNatClampNeg) > ((y2).toInt64) then (1 : Int32) else if (J3 117 (0 : Int32).toNatClampNeg) = ((y2).toInt64) then 0 else -1) = 0 → q_W β xs L (d + 1) 199 396 [.retAddr 1, .ref 0, .ref 59, .ref 117, .int i4, .int y1, .int y2] [] (G3, I3, J3) Q) ∧ (¬ (if (J3 117 (0 : Int32).toNatClampNeg) > ((y2).toInt64) then (1 : Int32) else if (J3 117 (0 : Int32).toNatClampNeg) = ((y2).toInt64) then 0 else -1) = 0 → (((0 : Int32) = 0 ∨ (0 : Int32) = 1) ∧ Q (.inl (some (.int 0))) (G3, I3, J3)))))))) ∧ (¬ y3 = y1 → (((0 : Int32) = 0 ∨ (0 : Int32) = 1) ∧ Q (.inl (some (.int 0))) (G3, I3, J3))))) (fun x3 G3 I3 J3 => q_X β xs L (d + 1) 199 369 [.retAddr 1, .ref 0, .ref 59, .ref 117, .int i4, .int y1, .int y2] Q x3 (G3, I3, J3)))) (fun x2 G2 I2 J2 => q_X β xs L (d + 1) 199 363 [.retAddr 1, .ref 0, .ref 59, .ref 117, .int i4, .int y1, v6] Q x2 (G2, I2, J2)))))) (fun x1 G1 I1 J1 => q_X β xs L (d + 1) 199 345 [.retAddr 1, .ref 0, .ref 59, .ref 117, .int i4, v5, v6] Q x1 (G1, I1, J1)))))) : q_W β xs L (d + 1) 199 331 [.retAddr 1, .ref 0, .ref 59, .ref 117, .int i4, v5, v6] [] (G, I, J) Q := by
  refine w_al f_199_331 rfl ?_
  refine w_ae f_199_332 rfl ?_
  refine w_il f_199_333 rfl ?_
  refine w_ic f_199_335 ?_
  refine w_bin f_199_336 ?_
  have hb := H.1
  have H := H.2
  refine w_eld f_199_337 hb ?_
  refine w_ae f_199_338 rfl ?_
  refine w_il f_199_339 rfl ?_
  refine w_ic f_199_341 ?_
  refine w_bin f_199_342 ?_
  have hb := H.1
  have H := H.2
  refine w_eld f_199_343 hb ?_
  refine w_al f_199_344 rfl ?_
  refine w_invs (as := [.ref 0, .int (xs ((i4 + 1)).toNatClampNeg), .int (xs ((i4 + 2)).toNatClampNeg), .ref 117, .retAddr 0]) (st' := []) f_199_345 rfl rfl rfl rfl rfl H (k_i (fun y1 G1 I1 J1 H => ?_)) (fun x h' h => h)
  refine w_is (ls' := [.retAddr 1, .ref 0, .ref 59, .ref 117, .int i4, .int y1, v6]) f_199_348 rfl ?_
  refine w_al f_199_350 rfl ?_
  refine w_ae f_199_351 rfl ?_
  refine w_il f_199_352 rfl ?_
  refine w_ic f_199_354 ?_
  refine w_bin f_199_355 ?_
  have hb := H.1
  have H := H.2
  refine w_eld f_199_356 hb ?_
  refine w_ae f_199_357 rfl ?_
  refine w_il f_199_358 rfl ?_
  refine w_ic f_199_360 ?_
  refine w_bin f_199_361 ?_
  have hb := H.1
  have H := H.2
  refine w_eld f_199_362 hb ?_
  refine w_inv (as := [.ref 59, .int (xs ((i4 + 1)).toNatClampNeg), .int (xs ((i4 + 2)).toNatClampNeg), .retAddr 0, .retAddr 0]) (st' := []) f_199_363 rfl rfl rfl rfl rfl rfl H (k_i (fun y2 G2 I2 J2 H => ?_)) (fun x h' h => h)
  refine w_is (ls' := [.retAddr 1, .ref 0, .ref 59, .ref 117, .int i4, .int y1, .int y2]) f_199_366 rfl ?_
  refine w_al f_199_368 rfl ?_
  refine w_inv (as := [.ref 59]) (st' := []) f_199_369 rfl rfl rfl rfl rfl rfl H (k_i (fun y3 G3 I3 J3 H => ?_)) (fun x h' h => h)
  refine w_il f_199_372 rfl ?_
  refine w_iceq f_199_374 (fun c => ?_) (fun c => ?_)
  · have H := H.1 c
    refine w_il f_199_379 rfl ?_
    refine w_ifne f_199_381 (fun c => ?_) (fun c => ?_)
    · have H := H.1 c
      exact H
    · have H := H.2 c
      refine w_al f_199_384 rfl ?_
      refine w_ic f_199_385 ?_
      have hb := H.1
      have H := H.2
      refine w_lald f_199_386 rfl hb ?_
      refine w_il f_199_387 rfl ?_
      refine w_i2l f_199_389 ?_
      refine w_lcmp f_199_390 ?_
      refine w_ifeq f_199_391 (fun c => ?_) (fun c => ?_)
      · have H := H.1 c
        exact H
      · have H := H.2 c
        refine w_ic f_199_394 ?_
        exact w_retz f_199_395 H.1 H.2
  · have H := H.2 c
    refine w_ic f_199_377 ?_
    exact w_retz f_199_378 H.1 H.2
theorem g_199_396 {d : Nat} {G : am_G} {I : Nat → Nat → Int32} {J : Nat → Nat → Int64} {Q : am_O → am_H → Prop} (hR : q_RT G) (i4 : Int32) (i5 : Int32) (i6 : Int32) (H : q_W β xs L (d + 1) 199 1697 [.retAddr 1, .ref 0, .ref 59, .ref 117, .int i4, .int i5, .int i6] [] (G, I, J) Q) : q_W β xs L (d + 1) 199 396 [.retAddr 1, .ref 0, .ref 59, .ref 117, .int i4, .int i5, .int i6] [] (G, I, J) Q := by
  refine w_go f_199_396 ?_
  exact H
theorem g_199_399 {d : Nat} {G : am_G} {I : Nat → Nat → Int32} {J : Nat → Nat → Int64} {Q : am_O → am_H → Prop} (hR : q_RT G) (i4 : Int32) (v5 : Value) (v6 : Value) (n5 : am_nl v5 = true) (n6 : am_nl v6 = true) (H : (am_is (i4 + 1) L = true ∧ (((xs ((i4 + 1)).toNatClampNeg) = 0 → q_W β xs L (d + 1) 199 414 [.retAddr 1, .ref 0, .ref 59, .ref 117, .int i4, v5, v6] [.int 0, .ref 0] (G, I, J) Q) ∧ (¬ (xs ((i4 + 1)).toNatClampNeg) = 0 → q_W β xs L (d + 1) 199 414 [.retAddr 1, .ref 0, .ref 59, .ref 117, .int i4, v5, v6] [.int 1, .ref 0] (G, I, J) Q)))) : q_W β xs L (d + 1) 199 399 [.retAddr 1, .ref 0, .ref 59, .ref 117, .int i4, v5, v6] [] (G, I, J) Q := by
  refine w_al f_199_399 rfl ?_
  refine w_ae f_199_400 rfl ?_
  refine w_il f_199_401 rfl ?_
  refine w_ic f_199_403 ?_
  refine w_bin f_199_404 ?_
  have hb := H.1
  have H := H.2
  refine w_eld f_199_405 hb ?_
  refine w_ifeq f_199_406 (fun c => ?_) (fun c => ?_)
  · have H := H.1 c
    refine w_ic f_199_413 ?_
    exact H
  · have H := H.2 c
    refine w_ic f_199_409 ?_
    refine w_go f_199_410 ?_
    exact H
theorem g_199_414 {d : Nat} {G : am_G} {I : Nat → Nat → Int32} {J : Nat → Nat → Int64} {Q : am_O → am_H → Prop} (hR : q_RT G) (i4 : Int32) (v5 : Value) (v6 : Value) (is0 : Int32) (n5 : am_nl v5 = true) (n6 : am_nl v6 = true) (H : (am_is (i4 + 2) L = true ∧ q_W β xs L d 185 0 [.ref 0, .int is0, .int (xs ((i4 + 2)).toNatClampNeg), .ref 117, .retAddr 0] [] (G, I, J) (q_Ri (fun y1 G1 I1 J1 => (am_is (i4 + 1) L = true ∧ (((xs ((i4 + 1)).toNatClampNeg) = 0 → q_W β xs L (d + 1) 199 441 [.retAddr 1, .ref 0, .ref 59, .ref 117, .int i4, .int y1, v6] [.int 0, .ref 59] (G1, I1, J1) Q) ∧ (¬ (xs ((i4 + 1)).toNatClampNeg) = 0 → q_W β xs L (d + 1) 199 441 [.retAddr 1, .ref 0, .ref 59, .ref 117, .int i4, .int y1, v6] [.int 1, .ref 59] (G1, I1, J1) Q)))) (fun x1 G1 I1 J1 => q_X β xs L (d + 1) 199 421 [.retAddr 1, .ref 0, .ref 59, .ref 117, .int i4, v5, v6] Q x1 (G1, I1, J1))))) : q_W β xs L (d + 1) 199 414 [.retAddr 1, .ref 0, .ref 59, .ref 117, .int i4, v5, v6] [.int is0, .ref 0] (G, I, J) Q := by
  refine w_ae f_199_414 rfl ?_
  refine w_il f_199_415 rfl ?_
  refine w_ic f_199_417 ?_
  refine w_bin f_199_418 ?_
  have hb := H.1
  have H := H.2
  refine w_eld f_199_419 hb ?_
  refine w_al f_199_420 rfl ?_
  refine w_invs (as := [.ref 0, .int is0, .int (xs ((i4 + 2)).toNatClampNeg), .ref 117, .retAddr 0]) (st' := []) f_199_421 rfl rfl rfl rfl rfl H (k_i (fun y1 G1 I1 J1 H => ?_)) (fun x h' h => h)
  refine w_is (ls' := [.retAddr 1, .ref 0, .ref 59, .ref 117, .int i4, .int y1, v6]) f_199_424 rfl ?_
  refine w_al f_199_426 rfl ?_
  refine w_ae f_199_427 rfl ?_
  refine w_il f_199_428 rfl ?_
  refine w_ic f_199_430 ?_
  refine w_bin f_199_431 ?_
  have hb := H.1
  have H := H.2
  refine w_eld f_199_432 hb ?_
  refine w_ifeq f_199_433 (fun c => ?_) (fun c => ?_)
  · have H := H.1 c
    refine w_ic f_199_440 ?_
    exact H
  · have H := H.2 c
    refine w_ic f_199_436 ?_
    refine w_go f_199_437 ?_
    exact H
theorem g_199_441 {d : Nat} {G : am_G} {I : Nat → Nat → Int32} {J : Nat → Nat → Int64} {Q : am_O → am_H → Prop} (hR : q_RT G) (i4 : Int32) (i5 : Int32) (v6 : Value) (is0 : Int32) (n6 : am_nl v6 = true) (H : (am_is (i4 + 2) L = true ∧ q_W β xs L d 112 0 [.ref 59, .int is0, .int (xs ((i4 + 2)).toNatClampNeg)] [] (G, I, J) (q_Ri (fun y1 G1 I1 J1 => q_W β xs L d 102 0 [.ref 59] [] (G1, I1, J1) (q_Ri (fun y2 G2 I2 J2 => ((y2 = i5 → ((¬ i5 = 0 → q_W β xs L (d + 1) 199 487 [.retAddr 1, .ref 0, .ref 59, .ref 117, .int i4, .int i5, .int y1] [] (G2, I2, J2) Q) ∧ (i5 = 0 → (am_is 0 1 = true ∧ ((y1 = 0 → q_W β xs L (d + 1) 199 481 [.retAddr 1, .ref 0, .ref 59, .ref 117, .int i4, .int i5, .int y1] [.long 0, .long (J2 117 (0 : Int32).toNatClampNeg)] (G2, I2, J2) Q) ∧ (¬ y1 = 0 → q_W β xs L (d + 1) 199 481 [.retAddr 1, .ref 0, .ref 59, .ref 117, .int i4, .int i5, .int y1] [.long 1, .long (J2 117 (0 : Int32).toNatClampNeg)] (G2, I2, J2) Q)))))) ∧ (¬ y2 = i5 → (((0 : Int32) = 0 ∨ (0 : Int32) = 1) ∧ Q (.inl (some (.int 0))) (G2, I2, J2))))) (fun x2 G2 I2 J2 => q_X β xs L (d + 1) 199 453 [.retAddr 1, .ref 0, .ref 59, .ref 117, .int i4, .int i5, .int y1] Q x2 (G2, I2, J2)))) (fun x1 G1 I1 J1 => q_X β xs L (d + 1) 199 447 [.retAddr 1, .ref 0, .ref 59, .ref 117, .int i4, .int i5, v6] Q x1 (G1, I1, J1))))) : q_W β xs L (d + 1) 199 441 [.retAddr 1, .ref 0, .ref 59, .ref 117, .int i4, .int i5, v6] [.int is0, .ref 59] (G, I, J) Q := by
  refine w_ae f_199_441 rfl ?_
  refine w_il f_199_442 rfl ?_
  refine w_ic f_199_444 ?_
  refine w_bin f_199_445 ?_
  have hb := H.1
  have H := H.2
  refine w_eld f_199_446 hb ?_
  refine w_inv (as := [.ref 59, .int is0, .int (xs ((i4 + 2)).toNatClampNeg)]) (st' := []) f_199_447 rfl rfl rfl rfl rfl rfl H (k_i (fun y1 G1 I1 J1 H => ?_)) (fun x h' h => h)
  refine w_is (ls' := [.retAddr 1, .ref 0, .ref 59, .ref 117, .int i4, .int i5, .int y1]) f_199_450 rfl ?_
  refine w_al f_199_452 rfl ?_
  refine w_inv (as := [.ref 59]) (st' := []) f_199_453 rfl rfl rfl rfl rfl rfl H (k_i (fun y2 G2 I2 J2 H => ?_)) (fun x h' h => h)
  refine w_il f_199_456 rfl ?_
  refine w_iceq f_199_458 (fun c => ?_) (fun c => ?_)
  · have H := H.1 c
    refine w_il f_199_463 rfl ?_
    refine w_ifne f_199_465 (fun c => ?_) (fun c => ?_)
    · have H := H.1 c
      exact H
    · have H := H.2 c
      refine w_al f_199_468 rfl ?_
      refine w_ic f_199_469 ?_
      have hb := H.1
      have H := H.2
      refine w_lald f_199_470 rfl hb ?_
      refine w_il f_199_471 rfl ?_
      refine w_ifeq f_199_473 (fun c => ?_) (fun c => ?_)
      · have H := H.1 c
        refine w_lc f_199_480 ?_
        exact H
      · have H := H.2 c
        refine w_lc f_199_476 ?_
        refine w_go f_199_477 ?_
        exact H
  · have H := H.2 c
    refine w_ic f_199_461 ?_
    exact w_retz f_199_462 H.1 H.2
theorem g_199_481 {d : Nat} {G : am_G} {I : Nat → Nat → Int32} {J : Nat → Nat → Int64} {Q : am_O → am_H → Prop} (hR : q_RT G) (i4 : Int32) (i5 : Int32) (i6 : Int32) (ls0 : Int64) (ls1 : Int64) (H : (((if ls1 > ls0 then (1 : Int32) else if ls1 = ls0 then 0 else -1) = 0 → q_W β xs L (d + 1) 199 487 [.retAddr 1, .ref 0, .ref 59, .ref 117, .int i4, .int i5, .int i6] [] (G, I, J) Q) ∧ (¬ (if ls1 > ls0 then (1 : Int32) else if ls1 = ls0 then 0 else -1) = 0 → (((0 : Int32) = 0 ∨ (0 : Int32) = 1) ∧ Q (.inl (some (.int 0))) (G, I, J))))) : q_W β xs L (d + 1) 199 481 [.retAddr 1, .ref 0, .ref 59, .ref 117, .int i4, .int i5, .int i6] [.long ls0, .long ls1] (G, I, J) Q := by
  refine w_lcmp f_199_481 ?_
  refine w_ifeq f_199_482 (fun c => ?_) (fun c => ?_)
  · have H := H.1 c
    exact H
  · have H := H.2 c
    refine w_ic f_199_485 ?_
    exact w_retz f_199_486 H.1 H.2
theorem g_199_487 {d : Nat} {G : am_G} {I : Nat → Nat → Int32} {J : Nat → Nat → Int64} {Q : am_O → am_H → Prop} (hR : q_RT G) (i4 : Int32) (i5 : Int32) (i6 : Int32) (H : q_W β xs L (d + 1) 199 1697 [.retAddr 1, .ref 0, .ref 59, .ref 117, .int i4, .int i5, .int i6] [] (G, I, J) Q) : q_W β xs L (d + 1) 199 487 [.retAddr 1, .ref 0, .ref 59, .ref 117, .int i4, .int i5, .int i6] [] (G, I, J) Q := by
  refine w_go f_199_487 ?_
  exact H
theorem g_199_490 {d : Nat} {G : am_G} {I : Nat → Nat → Int32} {J : Nat → Nat → Int64} {Q : am_O → am_H → Prop} (hR : q_RT G) (i4 : Int32) (v5 : Value) (v6 : Value) (n5 : am_nl v5 = true) (n6 : am_nl v6 = true) (H : (am_is (i4 + 1) L = true ∧ q_W β xs L d 186 0 [.ref 0, .int (xs ((i4 + 1)).toNatClampNeg), .ref 117, .retAddr 0] [] (G, I, J) (q_Ri (fun y1 G1 I1 J1 => (am_is (i4 + 1) L = true ∧ q_W β xs L d 113 0 [.ref 59, .int (xs ((i4 + 1)).toNatClampNeg)] [] (G1, I1, J1) (q_Ri (fun y2 G2 I2 J2 => q_W β xs L d 102 0 [.ref 59] [] (G2, I2, J2) (q_Ri (fun y3 G3 I3 J3 => ((y3 = y1 → ((¬ y1 = 0 → q_W β xs L (d + 1) 199 543 [.retAddr 1, .ref 0, .ref 59, .ref 117, .int i4, .int y1, .int y2] [] (G3, I3, J3) Q) ∧ (y1 = 0 → (am_is 0 1 = true ∧ (((if (J3 117 (0 : Int32).toNatClampNeg) > ((y2).toInt64) then (1 : Int32) else if (J3 117 (0 : Int32).toNatClampNeg) = ((y2).toInt64) then 0 else -1) = 0 → q_W β xs L (d + 1) 199 543 [.retAddr 1, .ref 0, .ref 59, .ref 117, .int i4, .int y1, .int y2] [] (G3, I3, J3) Q) ∧ (¬ (if (J3 117 (0 : Int32).toNatClampNeg) > ((y2).toInt64) then (1 : Int32) else if (J3 117 (0 : Int32).toNatClampNeg) = ((y2).toInt64) then 0 else -1) = 0 → (((0 : Int32) = 0 ∨ (0 : Int32) = 1) ∧ Q (.inl (some (.int 0))) (G3, I3, J3)))))))) ∧ (¬ y3 = y1 → (((0 : Int32) = 0 ∨ (0 : Int32) = 1) ∧ Q (.inl (some (.int 0))) (G3, I3, J3))))) (fun x3 G3 I3 J3 => q_X β xs L (d + 1) 199 516 [.retAddr 1, .ref 0, .ref 59, .ref 117, .int i4, .int y1, .int y2] Q x3 (G3, I3, J3)))) (fun x2 G2 I2 J2 => q_X β xs L (d + 1) 199 510 [.retAddr 1, .ref 0, .ref 59, .ref 117, .int i4, .int y1, v6] Q x2 (G2, I2, J2))))) (fun x1 G1 I1 J1 => q_X β xs L (d + 1) 199 498 [.retAddr 1, .ref 0, .ref 59, .ref 117, .int i4, v5, v6] Q x1 (G1, I1, J1))))) : q_W β xs L (d + 1) 199 490 [.retAddr 1, .ref 0, .ref 59, .ref 117, .int i4, v5, v6] [] (G, I, J) Q := by
  refine w_al f_199_490 rfl ?_
  refine w_ae f_199_491 rfl ?_
  refine w_il f_199_492 rfl ?_
  refine w_ic f_199_494 ?_
  refine w_bin f_199_495 ?_
  have hb := H.1
  have H := H.2
  refine w_eld f_199_496 hb ?_
  refine w_al f_199_497 rfl ?_
  refine w_invs (as := [.ref 0, .int (xs ((i4 + 1)).toNatClampNeg), .ref 117, .retAddr 0]) (st' := []) f_199_498 rfl rfl rfl rfl rfl H (k_i (fun y1 G1 I1 J1 H => ?_)) (fun x h' h => h)
  refine w_is (ls' := [.retAddr 1, .ref 0, .ref 59, .ref 117, .int i4, .int y1, v6]) f_199_501 rfl ?_
  refine w_al f_199_503 rfl ?_
  refine w_ae f_199_504 rfl ?_
  refine w_il f_199_505 rfl ?_
  refine w_ic f_199_507 ?_
  refine w_bin f_199_508 ?_
  have hb := H.1
  have H := H.2
  refine w_eld f_199_509 hb ?_
  refine w_inv (as := [.ref 59, .int (xs ((i4 + 1)).toNatClampNeg)]) (st' := []) f_199_510 rfl rfl rfl rfl rfl rfl H (k_i (fun y2 G2 I2 J2 H => ?_)) (fun x h' h => h)
  refine w_is (ls' := [.retAddr 1, .ref 0, .ref 59, .ref 117, .int i4, .int y1, .int y2]) f_199_513 rfl ?_
  refine w_al f_199_515 rfl ?_
  refine w_inv (as := [.ref 59]) (st' := []) f_199_516 rfl rfl rfl rfl rfl rfl H (k_i (fun y3 G3 I3 J3 H => ?_)) (fun x h' h => h)
  refine w_il f_199_519 rfl ?_
  refine w_iceq f_199_521 (fun c => ?_) (fun c => ?_)
  · have H := H.1 c
    refine w_il f_199_526 rfl ?_
    refine w_ifne f_199_528 (fun c => ?_) (fun c => ?_)
    · have H := H.1 c
      exact H
    · have H := H.2 c
      refine w_al f_199_531 rfl ?_
      refine w_ic f_199_532 ?_
      have hb := H.1
      have H := H.2
      refine w_lald f_199_533 rfl hb ?_
      refine w_il f_199_534 rfl ?_
      refine w_i2l f_199_536 ?_
      refine w_lcmp f_199_537 ?_
      refine w_ifeq f_199_538 (fun c => ?_) (fun c => ?_)
      · have H := H.1 c
        exact H
      · have H := H.2 c
        refine w_ic f_199_541 ?_
        exact w_retz f_199_542 H.1 H.2
  · have H := H.2 c
    refine w_ic f_199_524 ?_
    exact w_retz f_199_525 H.1 H.2
theorem g_199_543 {d : Nat} {G : am_G} {I : Nat → Nat → Int32} {J : Nat → Nat → Int64} {Q : am_O → am_H → Prop} (hR : q_RT G) (i4 : Int32) (i5 : Int32) (i6 : Int32) (H : q_W β xs L (d + 1) 199 1697 [.retAddr 1, .ref 0, .ref 59, .ref 117, .int i4, .int i5, .int i6] [] (G, I, J) Q) : q_W β xs L (d + 1) 199 543 [.retAddr 1, .ref 0, .ref 59, .ref 117, .int i4, .int i5, .int i6] [] (G, I, J) Q := by
  refine w_go f_199_543 ?_
  exact H
theorem g_199_546 {d : Nat} {G : am_G} {I : Nat → Nat → Int32} {J : Nat → Nat → Int64} {Q : am_O → am_H → Prop} (hR : q_RT G) (i4 : Int32) (v5 : Value) (v6 : Value) (n5 : am_nl v5 = true) (n6 : am_nl v6 = true) (H : (am_is (i4 + 1) L = true ∧ (am_is (i4 + 2) L = true ∧ (am_is (i4 + 3) L = true ∧ (am_is (i4 + 4) L = true ∧ (am_is (i4 + 5) L = true ∧ q_W β xs L d 77 0 [.ref 0, .int (xs ((i4 + 1)).toNatClampNeg), .int (xs ((i4 + 2)).toNatClampNeg), .int (xs ((i4 + 3)).toNatClampNeg), .int (xs ((i4 + 4)).toNatClampNeg), .int (xs ((i4 + 5)).toNatClampNeg)] [] (G, I, J) (q_Ri (fun y1 G1 I1 J1 => (am_is (i4 + 1) L = true ∧ (am_is (i4 + 2) L = true ∧ (am_is (i4 + 3) L = true ∧ (am_is (i4 + 4) L = true ∧ (am_is (i4 + 5) L = true ∧ q_W β xs L d 114 0 [.ref 59, .int (xs ((i4 + 1)).toNatClampNeg), .int (xs ((i4 + 2)).toNatClampNeg), .int (xs ((i4 + 3)).toNatClampNeg), .int (xs ((i4 + 4)).toNatClampNeg), .int (xs ((i4 + 5)).toNatClampNeg)] [] (G1, I1, J1) (q_Ri (fun y2 G2 I2 J2 => ((y1 = y2 → q_W β xs L (d + 1) 199 1697 [.retAddr 1, .ref 0, .ref 59, .ref 117, .int i4, v5, v6] [] (G2, I2, J2) Q) ∧ (¬ y1 = y2 → (((0 : Int32) = 0 ∨ (0 : Int32) = 1) ∧ Q (.inl (some (.int 0))) (G2, I2, J2))))) (fun x2 G2 I2 J2 => q_X β xs L (d + 1) 199 611 [.retAddr 1, .ref 0, .ref 59, .ref 117, .int i4, v5, v6] Q x2 (G2, I2, J2))))))))) (fun x1 G1 I1 J1 => q_X β xs L (d + 1) 199 577 [.retAddr 1, .ref 0, .ref 59, .ref 117, .int i4, v5, v6] Q x1 (G1, I1, J1))))))))) : q_W β xs L (d + 1) 199 546 [.retAddr 1, .ref 0, .ref 59, .ref 117, .int i4, v5, v6] [] (G, I, J) Q := by
  refine w_al f_199_546 rfl ?_
  refine w_ae f_199_547 rfl ?_
  refine w_il f_199_548 rfl ?_
  refine w_ic f_199_550 ?_
  refine w_bin f_199_551 ?_
  have hb := H.1
  have H := H.2
  refine w_eld f_199_552 hb ?_
  refine w_ae f_199_553 rfl ?_
  refine w_il f_199_554 rfl ?_
  refine w_ic f_199_556 ?_
  refine w_bin f_199_557 ?_
  have hb := H.1
  have H := H.2
  refine w_eld f_199_558 hb ?_
  refine w_ae f_199_559 rfl ?_
  refine w_il f_199_560 rfl ?_
  refine w_ic f_199_562 ?_
  refine w_bin f_199_563 ?_
  have hb := H.1
  have H := H.2
  refine w_eld f_199_564 hb ?_
  refine w_ae f_199_565 rfl ?_
  refine w_il f_199_566 rfl ?_
  refine w_ic f_199_568 ?_
  refine w_bin f_199_569 ?_
  have hb := H.1
  have H := H.2
  refine w_eld f_199_570 hb ?_
  refine w_ae f_199_571 rfl ?_
  refine w_il f_199_572 rfl ?_
  refine w_ic f_199_574 ?_
  refine w_bin f_199_575 ?_
  have hb := H.1
  have H := H.2
  refine w_eld f_199_576 hb ?_
  refine w_inv (as := [.ref 0, .int (xs ((i4 + 1)).toNatClampNeg), .int (xs ((i4 + 2)).toNatClampNeg), .int (xs ((i4 + 3)).toNatClampNeg), .int (xs ((i4 + 4)).toNatClampNeg), .int (xs ((i4 + 5)).toNatClampNeg)]) (st' := []) f_199_577 rfl rfl rfl rfl rfl rfl H (k_i (fun y1 G1 I1 J1 H => ?_)) (fun x h' h => h)
  refine w_al f_199_580 rfl ?_
  refine w_ae f_199_581 rfl ?_
  refine w_il f_199_582 rfl ?_
  refine w_ic f_199_584 ?_
  refine w_bin f_199_585 ?_
  have hb := H.1
  have H := H.2
  refine w_eld f_199_586 hb ?_
  refine w_ae f_199_587 rfl ?_
  refine w_il f_199_588 rfl ?_
  refine w_ic f_199_590 ?_
  refine w_bin f_199_591 ?_
  have hb := H.1
  have H := H.2
  refine w_eld f_199_592 hb ?_
  refine w_ae f_199_593 rfl ?_
  refine w_il f_199_594 rfl ?_
  refine w_ic f_199_596 ?_
  refine w_bin f_199_597 ?_
  have hb := H.1
  have H := H.2
  refine w_eld f_199_598 hb ?_
  refine w_ae f_199_599 rfl ?_
  refine w_il f_199_600 rfl ?_
  refine w_ic f_199_602 ?_
  refine w_bin f_199_603 ?_
  have hb := H.1
  have H := H.2
  refine w_eld f_199_604 hb ?_
  refine w_ae f_199_605 rfl ?_
  refine w_il f_199_606 rfl ?_
  refine w_ic f_199_608 ?_
  refine w_bin f_199_609 ?_
  have hb := H.1
  have H := H.2
  refine w_eld f_199_610 hb ?_
  refine w_inv (as := [.ref 59, .int (xs ((i4 + 1)).toNatClampNeg), .int (xs ((i4 + 2)).toNatClampNeg), .int (xs ((i4 + 3)).toNatClampNeg), .int (xs ((i4 + 4)).toNatClampNeg), .int (xs ((i4 + 5)).toNatClampNeg)]) (st' := [.int y1]) f_199_611 rfl rfl rfl rfl rfl rfl H (k_i (fun y2 G2 I2 J2 H => ?_)) (fun x h' h => h)
  refine w_iceq f_199_614 (fun c => ?_) (fun c => ?_)
  · have H := H.1 c
    exact H
  · have H := H.2 c
    refine w_ic f_199_617 ?_
    exact w_retz f_199_618 H.1 H.2
theorem g_199_619 {d : Nat} {G : am_G} {I : Nat → Nat → Int32} {J : Nat → Nat → Int64} {Q : am_O → am_H → Prop} (hR : q_RT G) (i4 : Int32) (v5 : Value) (v6 : Value) (n5 : am_nl v5 = true) (n6 : am_nl v6 = true) (H : (am_is (i4 + 1) L = true ∧ (am_is (i4 + 2) L = true ∧ (am_is (i4 + 3) L = true ∧ (am_is (i4 + 4) L = true ∧ q_W β xs L d 187 0 [.ref 0, .int (xs ((i4 + 1)).toNatClampNeg), .int (xs ((i4 + 2)).toNatClampNeg), .int (xs ((i4 + 3)).toNatClampNeg), .int (xs ((i4 + 4)).toNatClampNeg), .ref 117, .retAddr 0] [] (G, I, J) (q_Ri (fun y1 G1 I1 J1 => (am_is (i4 + 1) L = true ∧ (am_is (i4 + 2) L = true ∧ (am_is (i4 + 3) L = true ∧ (am_is (i4 + 4) L = true ∧ q_W β xs L d 138 0 [.ref 59, .int (xs ((i4 + 1)).toNatClampNeg), .int (xs ((i4 + 2)).toNatClampNeg), .int (xs ((i4 + 3)).toNatClampNeg), .int (xs ((i4 + 4)).toNatClampNeg), .retAddr 0] [] (G1, I1, J1) (q_Ri (fun y2 G2 I2 J2 => q_W β xs L d 102 0 [.ref 59] [] (G2, I2, J2) (q_Ri (fun y3 G3 I3 J3 => ((y3 = y1 → ((¬ y1 = 0 → q_W β xs L (d + 1) 199 708 [.retAddr 1, .ref 0, .ref 59, .ref 117, .int i4, .int y1, .int y2] [] (G3, I3, J3) Q) ∧ (y1 = 0 → (am_is 0 1 = true ∧ (((if (J3 117 (0 : Int32).toNatClampNeg) > ((y2).toInt64) then (1 : Int32) else if (J3 117 (0 : Int32).toNatClampNeg) = ((y2).toInt64) then 0 else -1) = 0 → q_W β xs L (d + 1) 199 708 [.retAddr 1, .ref 0, .ref 59, .ref 117, .int i4, .int y1, .int y2] [] (G3, I3, J3) Q) ∧ (¬ (if (J3 117 (0 : Int32).toNatClampNeg) > ((y2).toInt64) then (1 : Int32) else if (J3 117 (0 : Int32).toNatClampNeg) = ((y2).toInt64) then 0 else -1) = 0 → (((0 : Int32) = 0 ∨ (0 : Int32) = 1) ∧ Q (.inl (some (.int 0))) (G3, I3, J3)))))))) ∧ (¬ y3 = y1 → (((0 : Int32) = 0 ∨ (0 : Int32) = 1) ∧ Q (.inl (some (.int 0))) (G3, I3, J3))))) (fun x3 G3 I3 J3 => q_X β xs L (d + 1) 199 681 [.retAddr 1, .ref 0, .ref 59, .ref 117, .int i4, .int y1, .int y2] Q x3 (G3, I3, J3)))) (fun x2 G2 I2 J2 => q_X β xs L (d + 1) 199 675 [.retAddr 1, .ref 0, .ref 59, .ref 117, .int i4, .int y1, v6] Q x2 (G2, I2, J2)))))))) (fun x1 G1 I1 J1 => q_X β xs L (d + 1) 199 645 [.retAddr 1, .ref 0, .ref 59, .ref 117, .int i4, v5, v6] Q x1 (G1, I1, J1)))))))) : q_W β xs L (d + 1) 199 619 [.retAddr 1, .ref 0, .ref 59, .ref 117, .int i4, v5, v6] [] (G, I, J) Q := by
  refine w_al f_199_619 rfl ?_
  refine w_ae f_199_620 rfl ?_
  refine w_il f_199_621 rfl ?_
  refine w_ic f_199_623 ?_
  refine w_bin f_199_624 ?_
  have hb := H.1
  have H := H.2
  refine w_eld f_199_625 hb ?_
  refine w_ae f_199_626 rfl ?_
  refine w_il f_199_627 rfl ?_
  refine w_ic f_199_629 ?_
  refine w_bin f_199_630 ?_
  have hb := H.1
  have H := H.2
  refine w_eld f_199_631 hb ?_
  refine w_ae f_199_632 rfl ?_
  refine w_il f_199_633 rfl ?_
  refine w_ic f_199_635 ?_
  refine w_bin f_199_636 ?_
  have hb := H.1
  have H := H.2
  refine w_eld f_199_637 hb ?_
  refine w_ae f_199_638 rfl ?_
  refine w_il f_199_639 rfl ?_
  refine w_ic f_199_641 ?_
  refine w_bin f_199_642 ?_
  have hb := H.1
  have H := H.2
  refine w_eld f_199_643 hb ?_
  refine w_al f_199_644 rfl ?_
  refine w_invs (as := [.ref 0, .int (xs ((i4 + 1)).toNatClampNeg), .int (xs ((i4 + 2)).toNatClampNeg), .int (xs ((i4 + 3)).toNatClampNeg), .int (xs ((i4 + 4)).toNatClampNeg), .ref 117, .retAddr 0]) (st' := []) f_199_645 rfl rfl rfl rfl rfl H (k_i (fun y1 G1 I1 J1 H => ?_)) (fun x h' h => h)
  refine w_is (ls' := [.retAddr 1, .ref 0, .ref 59, .ref 117, .int i4, .int y1, v6]) f_199_648 rfl ?_
  refine w_al f_199_650 rfl ?_
  refine w_ae f_199_651 rfl ?_
  refine w_il f_199_652 rfl ?_
  refine w_ic f_199_654 ?_
  refine w_bin f_199_655 ?_
  have hb := H.1
  have H := H.2
  refine w_eld f_199_656 hb ?_
  refine w_ae f_199_657 rfl ?_
  refine w_il f_199_658 rfl ?_
  refine w_ic f_199_660 ?_
  refine w_bin f_199_661 ?_
  have hb := H.1
  have H := H.2
  refine w_eld f_199_662 hb ?_
  refine w_ae f_199_663 rfl ?_
  refine w_il f_199_664 rfl ?_
  refine w_ic f_199_666 ?_
  refine w_bin f_199_667 ?_
  have hb := H.1
  have H := H.2
  refine w_eld f_199_668 hb ?_
  refine w_ae f_199_669 rfl ?_
  refine w_il f_199_670 rfl ?_
  refine w_ic f_199_672 ?_
  refine w_bin f_199_673 ?_
  have hb := H.1
  have H := H.2
  refine w_eld f_199_674 hb ?_
  refine w_inv (as := [.ref 59, .int (xs ((i4 + 1)).toNatClampNeg), .int (xs ((i4 + 2)).toNatClampNeg), .int (xs ((i4 + 3)).toNatClampNeg), .int (xs ((i4 + 4)).toNatClampNeg), .retAddr 0]) (st' := []) f_199_675 rfl rfl rfl rfl rfl rfl H (k_i (fun y2 G2 I2 J2 H => ?_)) (fun x h' h => h)
  refine w_is (ls' := [.retAddr 1, .ref 0, .ref 59, .ref 117, .int i4, .int y1, .int y2]) f_199_678 rfl ?_
  refine w_al f_199_680 rfl ?_
  refine w_inv (as := [.ref 59]) (st' := []) f_199_681 rfl rfl rfl rfl rfl rfl H (k_i (fun y3 G3 I3 J3 H => ?_)) (fun x h' h => h)
  refine w_il f_199_684 rfl ?_
  refine w_iceq f_199_686 (fun c => ?_) (fun c => ?_)
  · have H := H.1 c
    refine w_il f_199_691 rfl ?_
    refine w_ifne f_199_693 (fun c => ?_) (fun c => ?_)
    · have H := H.1 c
      exact H
    · have H := H.2 c
      refine w_al f_199_696 rfl ?_
      refine w_ic f_199_697 ?_
      have hb := H.1
      have H := H.2
      refine w_lald f_199_698 rfl hb ?_
      refine w_il f_199_699 rfl ?_
      refine w_i2l f_199_701 ?_
      refine w_lcmp f_199_702 ?_
      refine w_ifeq f_199_703 (fun c => ?_) (fun c => ?_)
      · have H := H.1 c
        exact H
      · have H := H.2 c
        refine w_ic f_199_706 ?_
        exact w_retz f_199_707 H.1 H.2
  · have H := H.2 c
    refine w_ic f_199_689 ?_
    exact w_retz f_199_690 H.1 H.2
theorem g_199_708 {d : Nat} {G : am_G} {I : Nat → Nat → Int32} {J : Nat → Nat → Int64} {Q : am_O → am_H → Prop} (hR : q_RT G) (i4 : Int32) (i5 : Int32) (i6 : Int32) (H : q_W β xs L (d + 1) 199 1697 [.retAddr 1, .ref 0, .ref 59, .ref 117, .int i4, .int i5, .int i6] [] (G, I, J) Q) : q_W β xs L (d + 1) 199 708 [.retAddr 1, .ref 0, .ref 59, .ref 117, .int i4, .int i5, .int i6] [] (G, I, J) Q := by
  refine w_go f_199_708 ?_
  exact H
theorem g_199_711 {d : Nat} {G : am_G} {I : Nat → Nat → Int32} {J : Nat → Nat → Int64} {Q : am_O → am_H → Prop} (hR : q_RT G) (i4 : Int32) (v5 : Value) (v6 : Value) (n5 : am_nl v5 = true) (n6 : am_nl v6 = true) (H : q_W β xs L d 79 0 [.ref 0] [] (G, I, J) (q_Ri (fun y1 G1 I1 J1 => q_W β xs L d 139 0 [.ref 59] [] (G1, I1, J1) (q_Ri (fun y2 G2 I2 J2 => ((y1 = y2 → q_W β xs L (d + 1) 199 1697 [.retAddr 1, .ref 0, .ref 59, .ref 117, .int i4, v5, v6] [] (G2, I2, J2) Q) ∧ (¬ y1 = y2 → (((0 : Int32) = 0 ∨ (0 : Int32) = 1) ∧ Q (.inl (some (.int 0))) (G2, I2, J2))))) (fun x2 G2 I2 J2 => q_X β xs L (d + 1) 199 716 [.retAddr 1, .ref 0, .ref 59, .ref 117, .int i4, v5, v6] Q x2 (G2, I2, J2)))) (fun x1 G1 I1 J1 => q_X β xs L (d + 1) 199 712 [.retAddr 1, .ref 0, .ref 59, .ref 117, .int i4, v5, v6] Q x1 (G1, I1, J1)))) : q_W β xs L (d + 1) 199 711 [.retAddr 1, .ref 0, .ref 59, .ref 117, .int i4, v5, v6] [] (G, I, J) Q := by
  refine w_al f_199_711 rfl ?_
  refine w_inv (as := [.ref 0]) (st' := []) f_199_712 rfl rfl rfl rfl rfl rfl H (k_i (fun y1 G1 I1 J1 H => ?_)) (fun x h' h => h)
  refine w_al f_199_715 rfl ?_
  refine w_inv (as := [.ref 59]) (st' := [.int y1]) f_199_716 rfl rfl rfl rfl rfl rfl H (k_i (fun y2 G2 I2 J2 H => ?_)) (fun x h' h => h)
  refine w_iceq f_199_719 (fun c => ?_) (fun c => ?_)
  · have H := H.1 c
    exact H
  · have H := H.2 c
    refine w_ic f_199_722 ?_
    exact w_retz f_199_723 H.1 H.2
theorem g_199_724 {d : Nat} {G : am_G} {I : Nat → Nat → Int32} {J : Nat → Nat → Int64} {Q : am_O → am_H → Prop} (hR : q_RT G) (i4 : Int32) (v5 : Value) (v6 : Value) (n5 : am_nl v5 = true) (n6 : am_nl v6 = true) (H : (am_is (i4 + 1) L = true ∧ (am_is (i4 + 2) L = true ∧ (am_is (i4 + 3) L = true ∧ q_W β xs L d 188 0 [.ref 0, .int (xs ((i4 + 1)).toNatClampNeg), .int (xs ((i4 + 2)).toNatClampNeg), .int (xs ((i4 + 3)).toNatClampNeg), .ref 117, .retAddr 0] [] (G, I, J) (q_Ri (fun y1 G1 I1 J1 => (am_is (i4 + 1) L = true ∧ (am_is (i4 + 2) L = true ∧ (am_is (i4 + 3) L = true ∧ q_W β xs L d 168 0 [.ref 59, .int (xs ((i4 + 1)).toNatClampNeg), .int (xs ((i4 + 2)).toNatClampNeg), .int (xs ((i4 + 3)).toNatClampNeg)] [] (G1, I1, J1) (q_Ri (fun y2 G2 I2 J2 => q_W β xs L d 102 0 [.ref 59] [] (G2, I2, J2) (q_Ri (fun y3 G3 I3 J3 => ((y3 = y1 → ((¬ y1 = 0 → q_W β xs L (d + 1) 199 808 [.retAddr 1, .ref 0, .ref 59, .ref 117, .int i4, .int y1, .int y2] [] (G3, I3, J3) Q) ∧ (y1 = 0 → (am_is 0 1 = true ∧ ((y2 = 0 → q_W β xs L (d + 1) 199 802 [.retAddr 1, .ref 0, .ref 59, .ref 117, .int i4, .int y1, .int y2] [.long 0, .long (J3 117 (0 : Int32).toNatClampNeg)] (G3, I3, J3) Q) ∧ (¬ y2 = 0 → q_W β xs L (d + 1) 199 802 [.retAddr 1, .ref 0, .ref 59, .ref 117, .int i4, .int y1, .int y2] [.long 1, .long (J3 117 (0 : Int32).toNatClampNeg)] (G3, I3, J3) Q)))))) ∧ (¬ y3 = y1 → (((0 : Int32) = 0 ∨ (0 : Int32) = 1) ∧ Q (.inl (some (.int 0))) (G3, I3, J3))))) (fun x3 G3 I3 J3 => q_X β xs L (d + 1) 199 774 [.retAddr 1, .ref 0, .ref 59, .ref 117, .int i4, .int y1, .int y2] Q x3 (G3, I3, J3)))) (fun x2 G2 I2 J2 => q_X β xs L (d + 1) 199 768 [.retAddr 1, .ref 0, .ref 59, .ref 117, .int i4, .int y1, v6] Q x2 (G2, I2, J2))))))) (fun x1 G1 I1 J1 => q_X β xs L (d + 1) 199 744 [.retAddr 1, .ref 0, .ref 59, .ref 117, .int i4, v5, v6] Q x1 (G1, I1, J1))))))) : q_W β xs L (d + 1) 199 724 [.retAddr 1, .ref 0, .ref 59, .ref 117, .int i4, v5, v6] [] (G, I, J) Q := by
  refine w_al f_199_724 rfl ?_
  refine w_ae f_199_725 rfl ?_
  refine w_il f_199_726 rfl ?_
  refine w_ic f_199_728 ?_
  refine w_bin f_199_729 ?_
  have hb := H.1
  have H := H.2
  refine w_eld f_199_730 hb ?_
  refine w_ae f_199_731 rfl ?_
  refine w_il f_199_732 rfl ?_
  refine w_ic f_199_734 ?_
  refine w_bin f_199_735 ?_
  have hb := H.1
  have H := H.2
  refine w_eld f_199_736 hb ?_
  refine w_ae f_199_737 rfl ?_
  refine w_il f_199_738 rfl ?_
  refine w_ic f_199_740 ?_
  refine w_bin f_199_741 ?_
  have hb := H.1
  have H := H.2
  refine w_eld f_199_742 hb ?_
  refine w_al f_199_743 rfl ?_
  refine w_invs (as := [.ref 0, .int (xs ((i4 + 1)).toNatClampNeg), .int (xs ((i4 + 2)).toNatClampNeg), .int (xs ((i4 + 3)).toNatClampNeg), .ref 117, .retAddr 0]) (st' := []) f_199_744 rfl rfl rfl rfl rfl H (k_i (fun y1 G1 I1 J1 H => ?_)) (fun x h' h => h)
  refine w_is (ls' := [.retAddr 1, .ref 0, .ref 59, .ref 117, .int i4, .int y1, v6]) f_199_747 rfl ?_
  refine w_al f_199_749 rfl ?_
  refine w_ae f_199_750 rfl ?_
  refine w_il f_199_751 rfl ?_
  refine w_ic f_199_753 ?_
  refine w_bin f_199_754 ?_
  have hb := H.1
  have H := H.2
  refine w_eld f_199_755 hb ?_
  refine w_ae f_199_756 rfl ?_
  refine w_il f_199_757 rfl ?_
  refine w_ic f_199_759 ?_
  refine w_bin f_199_760 ?_
  have hb := H.1
  have H := H.2
  refine w_eld f_199_761 hb ?_
  refine w_ae f_199_762 rfl ?_
  refine w_il f_199_763 rfl ?_
  refine w_ic f_199_765 ?_
  refine w_bin f_199_766 ?_
  have hb := H.1
  have H := H.2
  refine w_eld f_199_767 hb ?_
  refine w_inv (as := [.ref 59, .int (xs ((i4 + 1)).toNatClampNeg), .int (xs ((i4 + 2)).toNatClampNeg), .int (xs ((i4 + 3)).toNatClampNeg)]) (st' := []) f_199_768 rfl rfl rfl rfl rfl rfl H (k_i (fun y2 G2 I2 J2 H => ?_)) (fun x h' h => h)
  refine w_is (ls' := [.retAddr 1, .ref 0, .ref 59, .ref 117, .int i4, .int y1, .int y2]) f_199_771 rfl ?_
  refine w_al f_199_773 rfl ?_
  refine w_inv (as := [.ref 59]) (st' := []) f_199_774 rfl rfl rfl rfl rfl rfl H (k_i (fun y3 G3 I3 J3 H => ?_)) (fun x h' h => h)
  refine w_il f_199_777 rfl ?_
  refine w_iceq f_199_779 (fun c => ?_) (fun c => ?_)
  · have H := H.1 c
    refine w_il f_199_784 rfl ?_
    refine w_ifne f_199_786 (fun c => ?_) (fun c => ?_)
    · have H := H.1 c
      exact H
    · have H := H.2 c
      refine w_al f_199_789 rfl ?_
      refine w_ic f_199_790 ?_
      have hb := H.1
      have H := H.2
      refine w_lald f_199_791 rfl hb ?_
      refine w_il f_199_792 rfl ?_
      refine w_ifeq f_199_794 (fun c => ?_) (fun c => ?_)
      · have H := H.1 c
        refine w_lc f_199_801 ?_
        exact H
      · have H := H.2 c
        refine w_lc f_199_797 ?_
        refine w_go f_199_798 ?_
        exact H
  · have H := H.2 c
    refine w_ic f_199_782 ?_
    exact w_retz f_199_783 H.1 H.2
theorem g_199_802 {d : Nat} {G : am_G} {I : Nat → Nat → Int32} {J : Nat → Nat → Int64} {Q : am_O → am_H → Prop} (hR : q_RT G) (i4 : Int32) (i5 : Int32) (i6 : Int32) (ls0 : Int64) (ls1 : Int64) (H : (((if ls1 > ls0 then (1 : Int32) else if ls1 = ls0 then 0 else -1) = 0 → q_W β xs L (d + 1) 199 808 [.retAddr 1, .ref 0, .ref 59, .ref 117, .int i4, .int i5, .int i6] [] (G, I, J) Q) ∧ (¬ (if ls1 > ls0 then (1 : Int32) else if ls1 = ls0 then 0 else -1) = 0 → (((0 : Int32) = 0 ∨ (0 : Int32) = 1) ∧ Q (.inl (some (.int 0))) (G, I, J))))) : q_W β xs L (d + 1) 199 802 [.retAddr 1, .ref 0, .ref 59, .ref 117, .int i4, .int i5, .int i6] [.long ls0, .long ls1] (G, I, J) Q := by
  refine w_lcmp f_199_802 ?_
  refine w_ifeq f_199_803 (fun c => ?_) (fun c => ?_)
  · have H := H.1 c
    exact H
  · have H := H.2 c
    refine w_ic f_199_806 ?_
    exact w_retz f_199_807 H.1 H.2
theorem g_199_808 {d : Nat} {G : am_G} {I : Nat → Nat → Int32} {J : Nat → Nat → Int64} {Q : am_O → am_H → Prop} (hR : q_RT G) (i4 : Int32) (i5 : Int32) (i6 : Int32) (H : q_W β xs L (d + 1) 199 1697 [.retAddr 1, .ref 0, .ref 59, .ref 117, .int i4, .int i5, .int i6] [] (G, I, J) Q) : q_W β xs L (d + 1) 199 808 [.retAddr 1, .ref 0, .ref 59, .ref 117, .int i4, .int i5, .int i6] [] (G, I, J) Q := by
  refine w_go f_199_808 ?_
  exact H
theorem g_199_811 {d : Nat} {G : am_G} {I : Nat → Nat → Int32} {J : Nat → Nat → Int64} {Q : am_O → am_H → Prop} (hR : q_RT G) (i4 : Int32) (v5 : Value) (v6 : Value) (n5 : am_nl v5 = true) (n6 : am_nl v6 = true) (H : (am_is (i4 + 1) L = true ∧ (am_is (i4 + 2) L = true ∧ (am_is (i4 + 3) L = true ∧ q_W β xs L d 189 0 [.ref 0, .int (xs ((i4 + 1)).toNatClampNeg), .int (xs ((i4 + 2)).toNatClampNeg), .int (xs ((i4 + 3)).toNatClampNeg), .ref 117, .retAddr 0] [] (G, I, J) (q_Ri (fun y1 G1 I1 J1 => (am_is (i4 + 1) L = true ∧ (am_is (i4 + 2) L = true ∧ (am_is (i4 + 3) L = true ∧ q_W β xs L d 169 0 [.ref 59, .int (xs ((i4 + 1)).toNatClampNeg), .int (xs ((i4 + 2)).toNatClampNeg), .int (xs ((i4 + 3)).toNatClampNeg)] [] (G1, I1, J1) (q_Ri (fun y2 G2 I2 J2 => q_W β xs L d 102 0 [.ref 59] [] (G2, I2, J2) (q_Ri (fun y3 G3 I3 J3 => ((y3 = y1 → ((¬ y1 = 0 → q_W β xs L (d + 1) 199 888 [.retAddr 1, .ref 0, .ref 59, .ref 117, .int i4, .int y1, .int y2] [] (G3, I3, J3) Q) ∧ (y1 = 0 → (am_is 0 1 = true ∧ (((if (J3 117 (0 : Int32).toNatClampNeg) > ((y2).toInt64) then (1 : Int32) else if (J3 117 (0 : Int32).toNatClampNeg) = ((y2).toInt64) then 0 else -1) = 0 → q_W β xs L (d + 1) 199 888 [.retAddr 1, .ref 0, .ref 59, .ref 117, .int i4, .int y1, .int y2] [] (G3, I3, J3) Q) ∧ (¬ (if (J3 117 (0 : Int32).toNatClampNeg) > ((y2).toInt64) then (1 : Int32) else if (J3 117 (0 : Int32).toNatClampNeg) = ((y2).toInt64) then 0 else -1) = 0 → (((0 : Int32) = 0 ∨ (0 : Int32) = 1) ∧ Q (.inl (some (.int 0))) (G3, I3, J3)))))))) ∧ (¬ y3 = y1 → (((0 : Int32) = 0 ∨ (0 : Int32) = 1) ∧ Q (.inl (some (.int 0))) (G3, I3, J3))))) (fun x3 G3 I3 J3 => q_X β xs L (d + 1) 199 861 [.retAddr 1, .ref 0, .ref 59, .ref 117, .int i4, .int y1, .int y2] Q x3 (G3, I3, J3)))) (fun x2 G2 I2 J2 => q_X β xs L (d + 1) 199 855 [.retAddr 1, .ref 0, .ref 59, .ref 117, .int i4, .int y1, v6] Q x2 (G2, I2, J2))))))) (fun x1 G1 I1 J1 => q_X β xs L (d + 1) 199 831 [.retAddr 1, .ref 0, .ref 59, .ref 117, .int i4, v5, v6] Q x1 (G1, I1, J1))))))) : q_W β xs L (d + 1) 199 811 [.retAddr 1, .ref 0, .ref 59, .ref 117, .int i4, v5, v6] [] (G, I, J) Q := by
  refine w_al f_199_811 rfl ?_
  refine w_ae f_199_812 rfl ?_
  refine w_il f_199_813 rfl ?_
  refine w_ic f_199_815 ?_
  refine w_bin f_199_816 ?_
  have hb := H.1
  have H := H.2
  refine w_eld f_199_817 hb ?_
  refine w_ae f_199_818 rfl ?_
  refine w_il f_199_819 rfl ?_
  refine w_ic f_199_821 ?_
  refine w_bin f_199_822 ?_
  have hb := H.1
  have H := H.2
  refine w_eld f_199_823 hb ?_
  refine w_ae f_199_824 rfl ?_
  refine w_il f_199_825 rfl ?_
  refine w_ic f_199_827 ?_
  refine w_bin f_199_828 ?_
  have hb := H.1
  have H := H.2
  refine w_eld f_199_829 hb ?_
  refine w_al f_199_830 rfl ?_
  refine w_invs (as := [.ref 0, .int (xs ((i4 + 1)).toNatClampNeg), .int (xs ((i4 + 2)).toNatClampNeg), .int (xs ((i4 + 3)).toNatClampNeg), .ref 117, .retAddr 0]) (st' := []) f_199_831 rfl rfl rfl rfl rfl H (k_i (fun y1 G1 I1 J1 H => ?_)) (fun x h' h => h)
  refine w_is (ls' := [.retAddr 1, .ref 0, .ref 59, .ref 117, .int i4, .int y1, v6]) f_199_834 rfl ?_
  refine w_al f_199_836 rfl ?_
  refine w_ae f_199_837 rfl ?_
  refine w_il f_199_838 rfl ?_
  refine w_ic f_199_840 ?_
  refine w_bin f_199_841 ?_
  have hb := H.1
  have H := H.2
  refine w_eld f_199_842 hb ?_
  refine w_ae f_199_843 rfl ?_
  refine w_il f_199_844 rfl ?_
  refine w_ic f_199_846 ?_
  refine w_bin f_199_847 ?_
  have hb := H.1
  have H := H.2
  refine w_eld f_199_848 hb ?_
  refine w_ae f_199_849 rfl ?_
  refine w_il f_199_850 rfl ?_
  refine w_ic f_199_852 ?_
  refine w_bin f_199_853 ?_
  have hb := H.1
  have H := H.2
  refine w_eld f_199_854 hb ?_
  refine w_inv (as := [.ref 59, .int (xs ((i4 + 1)).toNatClampNeg), .int (xs ((i4 + 2)).toNatClampNeg), .int (xs ((i4 + 3)).toNatClampNeg)]) (st' := []) f_199_855 rfl rfl rfl rfl rfl rfl H (k_i (fun y2 G2 I2 J2 H => ?_)) (fun x h' h => h)
  refine w_is (ls' := [.retAddr 1, .ref 0, .ref 59, .ref 117, .int i4, .int y1, .int y2]) f_199_858 rfl ?_
  refine w_al f_199_860 rfl ?_
  refine w_inv (as := [.ref 59]) (st' := []) f_199_861 rfl rfl rfl rfl rfl rfl H (k_i (fun y3 G3 I3 J3 H => ?_)) (fun x h' h => h)
  refine w_il f_199_864 rfl ?_
  refine w_iceq f_199_866 (fun c => ?_) (fun c => ?_)
  · have H := H.1 c
    refine w_il f_199_871 rfl ?_
    refine w_ifne f_199_873 (fun c => ?_) (fun c => ?_)
    · have H := H.1 c
      exact H
    · have H := H.2 c
      refine w_al f_199_876 rfl ?_
      refine w_ic f_199_877 ?_
      have hb := H.1
      have H := H.2
      refine w_lald f_199_878 rfl hb ?_
      refine w_il f_199_879 rfl ?_
      refine w_i2l f_199_881 ?_
      refine w_lcmp f_199_882 ?_
      refine w_ifeq f_199_883 (fun c => ?_) (fun c => ?_)
      · have H := H.1 c
        exact H
      · have H := H.2 c
        refine w_ic f_199_886 ?_
        exact w_retz f_199_887 H.1 H.2
  · have H := H.2 c
    refine w_ic f_199_869 ?_
    exact w_retz f_199_870 H.1 H.2
theorem g_199_888 {d : Nat} {G : am_G} {I : Nat → Nat → Int32} {J : Nat → Nat → Int64} {Q : am_O → am_H → Prop} (hR : q_RT G) (i4 : Int32) (i5 : Int32) (i6 : Int32) (H : q_W β xs L (d + 1) 199 1697 [.retAddr 1, .ref 0, .ref 59, .ref 117, .int i4, .int i5, .int i6] [] (G, I, J) Q) : q_W β xs L (d + 1) 199 888 [.retAddr 1, .ref 0, .ref 59, .ref 117, .int i4, .int i5, .int i6] [] (G, I, J) Q := by
  refine w_go f_199_888 ?_
  exact H
theorem g_199_891 {d : Nat} {G : am_G} {I : Nat → Nat → Int32} {J : Nat → Nat → Int64} {Q : am_O → am_H → Prop} (hR : q_RT G) (i4 : Int32) (v5 : Value) (v6 : Value) (n5 : am_nl v5 = true) (n6 : am_nl v6 = true) (H : (am_is (i4 + 1) L = true ∧ (am_is (i4 + 2) L = true ∧ q_W β xs L d 190 0 [.ref 0, .int (xs ((i4 + 1)).toNatClampNeg), .int (xs ((i4 + 2)).toNatClampNeg), .ref 117, .retAddr 0] [] (G, I, J) (q_Ri (fun y1 G1 I1 J1 => (am_is (i4 + 1) L = true ∧ (am_is (i4 + 2) L = true ∧ q_W β xs L d 170 0 [.ref 59, .int (xs ((i4 + 1)).toNatClampNeg), .int (xs ((i4 + 2)).toNatClampNeg)] [] (G1, I1, J1) (q_Ri (fun y2 G2 I2 J2 => q_W β xs L d 102 0 [.ref 59] [] (G2, I2, J2) (q_Ri (fun y3 G3 I3 J3 => ((y3 = y1 → ((¬ y1 = 0 → q_W β xs L (d + 1) 199 956 [.retAddr 1, .ref 0, .ref 59, .ref 117, .int i4, .int y1, .int y2] [] (G3, I3, J3) Q) ∧ (y1 = 0 → (am_is 0 1 = true ∧ (((if (J3 117 (0 : Int32).toNatClampNeg) > ((y2).toInt64) then (1 : Int32) else if (J3 117 (0 : Int32).toNatClampNeg) = ((y2).toInt64) then 0 else -1) = 0 → q_W β xs L (d + 1) 199 956 [.retAddr 1, .ref 0, .ref 59, .ref 117, .int i4, .int y1, .int y2] [] (G3, I3, J3) Q) ∧ (¬ (if (J3 117 (0 : Int32).toNatClampNeg) > ((y2).toInt64) then (1 : Int32) else if (J3 117 (0 : Int32).toNatClampNeg) = ((y2).toInt64) then 0 else -1) = 0 → (((0 : Int32) = 0 ∨ (0 : Int32) = 1) ∧ Q (.inl (some (.int 0))) (G3, I3, J3)))))))) ∧ (¬ y3 = y1 → (((0 : Int32) = 0 ∨ (0 : Int32) = 1) ∧ Q (.inl (some (.int 0))) (G3, I3, J3))))) (fun x3 G3 I3 J3 => q_X β xs L (d + 1) 199 929 [.retAddr 1, .ref 0, .ref 59, .ref 117, .int i4, .int y1, .int y2] Q x3 (G3, I3, J3)))) (fun x2 G2 I2 J2 => q_X β xs L (d + 1) 199 923 [.retAddr 1, .ref 0, .ref 59, .ref 117, .int i4, .int y1, v6] Q x2 (G2, I2, J2)))))) (fun x1 G1 I1 J1 => q_X β xs L (d + 1) 199 905 [.retAddr 1, .ref 0, .ref 59, .ref 117, .int i4, v5, v6] Q x1 (G1, I1, J1)))))) : q_W β xs L (d + 1) 199 891 [.retAddr 1, .ref 0, .ref 59, .ref 117, .int i4, v5, v6] [] (G, I, J) Q := by
  refine w_al f_199_891 rfl ?_
  refine w_ae f_199_892 rfl ?_
  refine w_il f_199_893 rfl ?_
  refine w_ic f_199_895 ?_
  refine w_bin f_199_896 ?_
  have hb := H.1
  have H := H.2
  refine w_eld f_199_897 hb ?_
  refine w_ae f_199_898 rfl ?_
  refine w_il f_199_899 rfl ?_
  refine w_ic f_199_901 ?_
  refine w_bin f_199_902 ?_
  have hb := H.1
  have H := H.2
  refine w_eld f_199_903 hb ?_
  refine w_al f_199_904 rfl ?_
  refine w_invs (as := [.ref 0, .int (xs ((i4 + 1)).toNatClampNeg), .int (xs ((i4 + 2)).toNatClampNeg), .ref 117, .retAddr 0]) (st' := []) f_199_905 rfl rfl rfl rfl rfl H (k_i (fun y1 G1 I1 J1 H => ?_)) (fun x h' h => h)
  refine w_is (ls' := [.retAddr 1, .ref 0, .ref 59, .ref 117, .int i4, .int y1, v6]) f_199_908 rfl ?_
  refine w_al f_199_910 rfl ?_
  refine w_ae f_199_911 rfl ?_
  refine w_il f_199_912 rfl ?_
  refine w_ic f_199_914 ?_
  refine w_bin f_199_915 ?_
  have hb := H.1
  have H := H.2
  refine w_eld f_199_916 hb ?_
  refine w_ae f_199_917 rfl ?_
  refine w_il f_199_918 rfl ?_
  refine w_ic f_199_920 ?_
  refine w_bin f_199_921 ?_
  have hb := H.1
  have H := H.2
  refine w_eld f_199_922 hb ?_
  refine w_inv (as := [.ref 59, .int (xs ((i4 + 1)).toNatClampNeg), .int (xs ((i4 + 2)).toNatClampNeg)]) (st' := []) f_199_923 rfl rfl rfl rfl rfl rfl H (k_i (fun y2 G2 I2 J2 H => ?_)) (fun x h' h => h)
  refine w_is (ls' := [.retAddr 1, .ref 0, .ref 59, .ref 117, .int i4, .int y1, .int y2]) f_199_926 rfl ?_
  refine w_al f_199_928 rfl ?_
  refine w_inv (as := [.ref 59]) (st' := []) f_199_929 rfl rfl rfl rfl rfl rfl H (k_i (fun y3 G3 I3 J3 H => ?_)) (fun x h' h => h)
  refine w_il f_199_932 rfl ?_
  refine w_iceq f_199_934 (fun c => ?_) (fun c => ?_)
  · have H := H.1 c
    refine w_il f_199_939 rfl ?_
    refine w_ifne f_199_941 (fun c => ?_) (fun c => ?_)
    · have H := H.1 c
      exact H
    · have H := H.2 c
      refine w_al f_199_944 rfl ?_
      refine w_ic f_199_945 ?_
      have hb := H.1
      have H := H.2
      refine w_lald f_199_946 rfl hb ?_
      refine w_il f_199_947 rfl ?_
      refine w_i2l f_199_949 ?_
      refine w_lcmp f_199_950 ?_
      refine w_ifeq f_199_951 (fun c => ?_) (fun c => ?_)
      · have H := H.1 c
        exact H
      · have H := H.2 c
        refine w_ic f_199_954 ?_
        exact w_retz f_199_955 H.1 H.2
  · have H := H.2 c
    refine w_ic f_199_937 ?_
    exact w_retz f_199_938 H.1 H.2
theorem g_199_956 {d : Nat} {G : am_G} {I : Nat → Nat → Int32} {J : Nat → Nat → Int64} {Q : am_O → am_H → Prop} (hR : q_RT G) (i4 : Int32) (i5 : Int32) (i6 : Int32) (H : q_W β xs L (d + 1) 199 1697 [.retAddr 1, .ref 0, .ref 59, .ref 117, .int i4, .int i5, .int i6] [] (G, I, J) Q) : q_W β xs L (d + 1) 199 956 [.retAddr 1, .ref 0, .ref 59, .ref 117, .int i4, .int i5, .int i6] [] (G, I, J) Q := by
  refine w_go f_199_956 ?_
  exact H
theorem g_199_959 {d : Nat} {G : am_G} {I : Nat → Nat → Int32} {J : Nat → Nat → Int64} {Q : am_O → am_H → Prop} (hR : q_RT G) (i4 : Int32) (v5 : Value) (v6 : Value) (n5 : am_nl v5 = true) (n6 : am_nl v6 = true) (H : (am_is (i4 + 1) L = true ∧ (am_is (i4 + 2) L = true ∧ (am_is (i4 + 3) L = true ∧ (am_is (i4 + 4) L = true ∧ q_W β xs L d 191 0 [.ref 0, .int (xs ((i4 + 1)).toNatClampNeg), .int (xs ((i4 + 2)).toNatClampNeg), .int (xs ((i4 + 3)).toNatClampNeg), .int (xs ((i4 + 4)).toNatClampNeg), .ref 117, .retAddr 0] [] (G, I, J) (q_Ri (fun y1 G1 I1 J1 => (am_is (i4 + 1) L = true ∧ (am_is (i4 + 2) L = true ∧ (am_is (i4 + 3) L = true ∧ (am_is (i4 + 4) L = true ∧ q_W β xs L d 173 0 [.ref 59, .int (xs ((i4 + 1)).toNatClampNeg), .int (xs ((i4 + 2)).toNatClampNeg), .int (xs ((i4 + 3)).toNatClampNeg), .int (xs ((i4 + 4)).toNatClampNeg), .retAddr 0] [] (G1, I1, J1) (q_Ri (fun y2 G2 I2 J2 => q_W β xs L d 102 0 [.ref 59] [] (G2, I2, J2) (q_Ri (fun y3 G3 I3 J3 => ((y3 = y1 → ((¬ y1 = 0 → q_W β xs L (d + 1) 199 1048 [.retAddr 1, .ref 0, .ref 59, .ref 117, .int i4, .int y1, .int y2] [] (G3, I3, J3) Q) ∧ (y1 = 0 → (am_is 0 1 = true ∧ (((if (J3 117 (0 : Int32).toNatClampNeg) > ((y2).toInt64) then (1 : Int32) else if (J3 117 (0 : Int32).toNatClampNeg) = ((y2).toInt64) then 0 else -1) = 0 → q_W β xs L (d + 1) 199 1048 [.retAddr 1, .ref 0, .ref 59, .ref 117, .int i4, .int y1, .int y2] [] (G3, I3, J3) Q) ∧ (¬ (if (J3 117 (0 : Int32).toNatClampNeg) > ((y2).toInt64) then (1 : Int32) else if (J3 117 (0 : Int32).toNatClampNeg) = ((y2).toInt64) then 0 else -1) = 0 → (((0 : Int32) = 0 ∨ (0 : Int32) = 1) ∧ Q (.inl (some (.int 0))) (G3, I3, J3)))))))) ∧ (¬ y3 = y1 → (((0 : Int32) = 0 ∨ (0 : Int32) = 1) ∧ Q (.inl (some (.int 0))) (G3, I3, J3))))) (fun x3 G3 I3 J3 => q_X β xs L (d + 1) 199 1021 [.retAddr 1, .ref 0, .ref 59, .ref 117, .int i4, .int y1, .int y2] Q x3 (G3, I3, J3)))) (fun x2 G2 I2 J2 => q_X β xs L (d + 1) 199 1015 [.retAddr 1, .ref 0, .ref 59, .ref 117, .int i4, .int y1, v6] Q x2 (G2, I2, J2)))))))) (fun x1 G1 I1 J1 => q_X β xs L (d + 1) 199 985 [.retAddr 1, .ref 0, .ref 59, .ref 117, .int i4, v5, v6] Q x1 (G1, I1, J1)))))))) : q_W β xs L (d + 1) 199 959 [.retAddr 1, .ref 0, .ref 59, .ref 117, .int i4, v5, v6] [] (G, I, J) Q := by
  refine w_al f_199_959 rfl ?_
  refine w_ae f_199_960 rfl ?_
  refine w_il f_199_961 rfl ?_
  refine w_ic f_199_963 ?_
  refine w_bin f_199_964 ?_
  have hb := H.1
  have H := H.2
  refine w_eld f_199_965 hb ?_
  refine w_ae f_199_966 rfl ?_
  refine w_il f_199_967 rfl ?_
  refine w_ic f_199_969 ?_
  refine w_bin f_199_970 ?_
  have hb := H.1
  have H := H.2
  refine w_eld f_199_971 hb ?_
  refine w_ae f_199_972 rfl ?_
  refine w_il f_199_973 rfl ?_
  refine w_ic f_199_975 ?_
  refine w_bin f_199_976 ?_
  have hb := H.1
  have H := H.2
  refine w_eld f_199_977 hb ?_
  refine w_ae f_199_978 rfl ?_
  refine w_il f_199_979 rfl ?_
  refine w_ic f_199_981 ?_
  refine w_bin f_199_982 ?_
  have hb := H.1
  have H := H.2
  refine w_eld f_199_983 hb ?_
  refine w_al f_199_984 rfl ?_
  refine w_invs (as := [.ref 0, .int (xs ((i4 + 1)).toNatClampNeg), .int (xs ((i4 + 2)).toNatClampNeg), .int (xs ((i4 + 3)).toNatClampNeg), .int (xs ((i4 + 4)).toNatClampNeg), .ref 117, .retAddr 0]) (st' := []) f_199_985 rfl rfl rfl rfl rfl H (k_i (fun y1 G1 I1 J1 H => ?_)) (fun x h' h => h)
  refine w_is (ls' := [.retAddr 1, .ref 0, .ref 59, .ref 117, .int i4, .int y1, v6]) f_199_988 rfl ?_
  refine w_al f_199_990 rfl ?_
  refine w_ae f_199_991 rfl ?_
  refine w_il f_199_992 rfl ?_
  refine w_ic f_199_994 ?_
  refine w_bin f_199_995 ?_
  have hb := H.1
  have H := H.2
  refine w_eld f_199_996 hb ?_
  refine w_ae f_199_997 rfl ?_
  refine w_il f_199_998 rfl ?_
  refine w_ic f_199_1000 ?_
  refine w_bin f_199_1001 ?_
  have hb := H.1
  have H := H.2
  refine w_eld f_199_1002 hb ?_
  refine w_ae f_199_1003 rfl ?_
  refine w_il f_199_1004 rfl ?_
  refine w_ic f_199_1006 ?_
  refine w_bin f_199_1007 ?_
  have hb := H.1
  have H := H.2
  refine w_eld f_199_1008 hb ?_
  refine w_ae f_199_1009 rfl ?_
  refine w_il f_199_1010 rfl ?_
  refine w_ic f_199_1012 ?_
  refine w_bin f_199_1013 ?_
  have hb := H.1
  have H := H.2
  refine w_eld f_199_1014 hb ?_
  refine w_inv (as := [.ref 59, .int (xs ((i4 + 1)).toNatClampNeg), .int (xs ((i4 + 2)).toNatClampNeg), .int (xs ((i4 + 3)).toNatClampNeg), .int (xs ((i4 + 4)).toNatClampNeg), .retAddr 0]) (st' := []) f_199_1015 rfl rfl rfl rfl rfl rfl H (k_i (fun y2 G2 I2 J2 H => ?_)) (fun x h' h => h)
  refine w_is (ls' := [.retAddr 1, .ref 0, .ref 59, .ref 117, .int i4, .int y1, .int y2]) f_199_1018 rfl ?_
  refine w_al f_199_1020 rfl ?_
  refine w_inv (as := [.ref 59]) (st' := []) f_199_1021 rfl rfl rfl rfl rfl rfl H (k_i (fun y3 G3 I3 J3 H => ?_)) (fun x h' h => h)
  refine w_il f_199_1024 rfl ?_
  refine w_iceq f_199_1026 (fun c => ?_) (fun c => ?_)
  · have H := H.1 c
    refine w_il f_199_1031 rfl ?_
    refine w_ifne f_199_1033 (fun c => ?_) (fun c => ?_)
    · have H := H.1 c
      exact H
    · have H := H.2 c
      refine w_al f_199_1036 rfl ?_
      refine w_ic f_199_1037 ?_
      have hb := H.1
      have H := H.2
      refine w_lald f_199_1038 rfl hb ?_
      refine w_il f_199_1039 rfl ?_
      refine w_i2l f_199_1041 ?_
      refine w_lcmp f_199_1042 ?_
      refine w_ifeq f_199_1043 (fun c => ?_) (fun c => ?_)
      · have H := H.1 c
        exact H
      · have H := H.2 c
        refine w_ic f_199_1046 ?_
        exact w_retz f_199_1047 H.1 H.2
  · have H := H.2 c
    refine w_ic f_199_1029 ?_
    exact w_retz f_199_1030 H.1 H.2
theorem g_199_1048 {d : Nat} {G : am_G} {I : Nat → Nat → Int32} {J : Nat → Nat → Int64} {Q : am_O → am_H → Prop} (hR : q_RT G) (i4 : Int32) (i5 : Int32) (i6 : Int32) (H : q_W β xs L (d + 1) 199 1697 [.retAddr 1, .ref 0, .ref 59, .ref 117, .int i4, .int i5, .int i6] [] (G, I, J) Q) : q_W β xs L (d + 1) 199 1048 [.retAddr 1, .ref 0, .ref 59, .ref 117, .int i4, .int i5, .int i6] [] (G, I, J) Q := by
  refine w_go f_199_1048 ?_
  exact H
theorem g_199_1051 {d : Nat} {G : am_G} {I : Nat → Nat → Int32} {J : Nat → Nat → Int64} {Q : am_O → am_H → Prop} (hR : q_RT G) (i4 : Int32) (v5 : Value) (v6 : Value) (n5 : am_nl v5 = true) (n6 : am_nl v6 = true) (H : (am_is (i4 + 1) L = true ∧ (am_is (i4 + 2) L = true ∧ (am_is (i4 + 3) L = true ∧ (am_is (i4 + 4) L = true ∧ q_W β xs L d 192 0 [.ref 0, .int (xs ((i4 + 1)).toNatClampNeg), .int (xs ((i4 + 2)).toNatClampNeg), .int (xs ((i4 + 3)).toNatClampNeg), .int (xs ((i4 + 4)).toNatClampNeg), .ref 117, .retAddr 0] [] (G, I, J) (q_Ri (fun y1 G1 I1 J1 => (am_is (i4 + 1) L = true ∧ (am_is (i4 + 2) L = true ∧ (am_is (i4 + 3) L = true ∧ (am_is (i4 + 4) L = true ∧ q_W β xs L d 174 0 [.ref 59, .int (xs ((i4 + 1)).toNatClampNeg), .int (xs ((i4 + 2)).toNatClampNeg), .int (xs ((i4 + 3)).toNatClampNeg), .int (xs ((i4 + 4)).toNatClampNeg)] [] (G1, I1, J1) (q_Ri (fun y2 G2 I2 J2 => q_W β xs L d 102 0 [.ref 59] [] (G2, I2, J2) (q_Ri (fun y3 G3 I3 J3 => ((y3 = y1 → ((¬ y1 = 0 → q_W β xs L (d + 1) 199 1140 [.retAddr 1, .ref 0, .ref 59, .ref 117, .int i4, .int y1, .int y2] [] (G3, I3, J3) Q) ∧ (y1 = 0 → (am_is 0 1 = true ∧ (((if (J3 117 (0 : Int32).toNatClampNeg) > ((y2).toInt64) then (1 : Int32) else if (J3 117 (0 : Int32).toNatClampNeg) = ((y2).toInt64) then 0 else -1) = 0 → q_W β xs L (d + 1) 199 1140 [.retAddr 1, .ref 0, .ref 59, .ref 117, .int i4, .int y1, .int y2] [] (G3, I3, J3) Q) ∧ (¬ (if (J3 117 (0 : Int32).toNatClampNeg) > ((y2).toInt64) then (1 : Int32) else if (J3 117 (0 : Int32).toNatClampNeg) = ((y2).toInt64) then 0 else -1) = 0 → (((0 : Int32) = 0 ∨ (0 : Int32) = 1) ∧ Q (.inl (some (.int 0))) (G3, I3, J3)))))))) ∧ (¬ y3 = y1 → (((0 : Int32) = 0 ∨ (0 : Int32) = 1) ∧ Q (.inl (some (.int 0))) (G3, I3, J3))))) (fun x3 G3 I3 J3 => q_X β xs L (d + 1) 199 1113 [.retAddr 1, .ref 0, .ref 59, .ref 117, .int i4, .int y1, .int y2] Q x3 (G3, I3, J3)))) (fun x2 G2 I2 J2 => q_X β xs L (d + 1) 199 1107 [.retAddr 1, .ref 0, .ref 59, .ref 117, .int i4, .int y1, v6] Q x2 (G2, I2, J2)))))))) (fun x1 G1 I1 J1 => q_X β xs L (d + 1) 199 1077 [.retAddr 1, .ref 0, .ref 59, .ref 117, .int i4, v5, v6] Q x1 (G1, I1, J1)))))))) : q_W β xs L (d + 1) 199 1051 [.retAddr 1, .ref 0, .ref 59, .ref 117, .int i4, v5, v6] [] (G, I, J) Q := by
  refine w_al f_199_1051 rfl ?_
  refine w_ae f_199_1052 rfl ?_
  refine w_il f_199_1053 rfl ?_
  refine w_ic f_199_1055 ?_
  refine w_bin f_199_1056 ?_
  have hb := H.1
  have H := H.2
  refine w_eld f_199_1057 hb ?_
  refine w_ae f_199_1058 rfl ?_
  refine w_il f_199_1059 rfl ?_
  refine w_ic f_199_1061 ?_
  refine w_bin f_199_1062 ?_
  have hb := H.1
  have H := H.2
  refine w_eld f_199_1063 hb ?_
  refine w_ae f_199_1064 rfl ?_
  refine w_il f_199_1065 rfl ?_
  refine w_ic f_199_1067 ?_
  refine w_bin f_199_1068 ?_
  have hb := H.1
  have H := H.2
  refine w_eld f_199_1069 hb ?_
  refine w_ae f_199_1070 rfl ?_
  refine w_il f_199_1071 rfl ?_
  refine w_ic f_199_1073 ?_
  refine w_bin f_199_1074 ?_
  have hb := H.1
  have H := H.2
  refine w_eld f_199_1075 hb ?_
  refine w_al f_199_1076 rfl ?_
  refine w_invs (as := [.ref 0, .int (xs ((i4 + 1)).toNatClampNeg), .int (xs ((i4 + 2)).toNatClampNeg), .int (xs ((i4 + 3)).toNatClampNeg), .int (xs ((i4 + 4)).toNatClampNeg), .ref 117, .retAddr 0]) (st' := []) f_199_1077 rfl rfl rfl rfl rfl H (k_i (fun y1 G1 I1 J1 H => ?_)) (fun x h' h => h)
  refine w_is (ls' := [.retAddr 1, .ref 0, .ref 59, .ref 117, .int i4, .int y1, v6]) f_199_1080 rfl ?_
  refine w_al f_199_1082 rfl ?_
  refine w_ae f_199_1083 rfl ?_
  refine w_il f_199_1084 rfl ?_
  refine w_ic f_199_1086 ?_
  refine w_bin f_199_1087 ?_
  have hb := H.1
  have H := H.2
  refine w_eld f_199_1088 hb ?_
  refine w_ae f_199_1089 rfl ?_
  refine w_il f_199_1090 rfl ?_
  refine w_ic f_199_1092 ?_
  refine w_bin f_199_1093 ?_
  have hb := H.1
  have H := H.2
  refine w_eld f_199_1094 hb ?_
  refine w_ae f_199_1095 rfl ?_
  refine w_il f_199_1096 rfl ?_
  refine w_ic f_199_1098 ?_
  refine w_bin f_199_1099 ?_
  have hb := H.1
  have H := H.2
  refine w_eld f_199_1100 hb ?_
  refine w_ae f_199_1101 rfl ?_
  refine w_il f_199_1102 rfl ?_
  refine w_ic f_199_1104 ?_
  refine w_bin f_199_1105 ?_
  have hb := H.1
  have H := H.2
  refine w_eld f_199_1106 hb ?_
  refine w_inv (as := [.ref 59, .int (xs ((i4 + 1)).toNatClampNeg), .int (xs ((i4 + 2)).toNatClampNeg), .int (xs ((i4 + 3)).toNatClampNeg), .int (xs ((i4 + 4)).toNatClampNeg)]) (st' := []) f_199_1107 rfl rfl rfl rfl rfl rfl H (k_i (fun y2 G2 I2 J2 H => ?_)) (fun x h' h => h)
  refine w_is (ls' := [.retAddr 1, .ref 0, .ref 59, .ref 117, .int i4, .int y1, .int y2]) f_199_1110 rfl ?_
  refine w_al f_199_1112 rfl ?_
  refine w_inv (as := [.ref 59]) (st' := []) f_199_1113 rfl rfl rfl rfl rfl rfl H (k_i (fun y3 G3 I3 J3 H => ?_)) (fun x h' h => h)
  refine w_il f_199_1116 rfl ?_
  refine w_iceq f_199_1118 (fun c => ?_) (fun c => ?_)
  · have H := H.1 c
    refine w_il f_199_1123 rfl ?_
    refine w_ifne f_199_1125 (fun c => ?_) (fun c => ?_)
    · have H := H.1 c
      exact H
    · have H := H.2 c
      refine w_al f_199_1128 rfl ?_
      refine w_ic f_199_1129 ?_
      have hb := H.1
      have H := H.2
      refine w_lald f_199_1130 rfl hb ?_
      refine w_il f_199_1131 rfl ?_
      refine w_i2l f_199_1133 ?_
      refine w_lcmp f_199_1134 ?_
      refine w_ifeq f_199_1135 (fun c => ?_) (fun c => ?_)
      · have H := H.1 c
        exact H
      · have H := H.2 c
        refine w_ic f_199_1138 ?_
        exact w_retz f_199_1139 H.1 H.2
  · have H := H.2 c
    refine w_ic f_199_1121 ?_
    exact w_retz f_199_1122 H.1 H.2
theorem g_199_1140 {d : Nat} {G : am_G} {I : Nat → Nat → Int32} {J : Nat → Nat → Int64} {Q : am_O → am_H → Prop} (hR : q_RT G) (i4 : Int32) (i5 : Int32) (i6 : Int32) (H : q_W β xs L (d + 1) 199 1697 [.retAddr 1, .ref 0, .ref 59, .ref 117, .int i4, .int i5, .int i6] [] (G, I, J) Q) : q_W β xs L (d + 1) 199 1140 [.retAddr 1, .ref 0, .ref 59, .ref 117, .int i4, .int i5, .int i6] [] (G, I, J) Q := by
  refine w_go f_199_1140 ?_
  exact H
theorem g_199_1143 {d : Nat} {G : am_G} {I : Nat → Nat → Int32} {J : Nat → Nat → Int64} {Q : am_O → am_H → Prop} (hR : q_RT G) (i4 : Int32) (v5 : Value) (v6 : Value) (n5 : am_nl v5 = true) (n6 : am_nl v6 = true) (H : (am_is (i4 + 1) L = true ∧ (am_is (i4 + 2) L = true ∧ (am_is (i4 + 3) L = true ∧ (am_is (i4 + 4) L = true ∧ q_W β xs L d 193 0 [.ref 0, .int (xs ((i4 + 1)).toNatClampNeg), .int (xs ((i4 + 2)).toNatClampNeg), .int (xs ((i4 + 3)).toNatClampNeg), .int (xs ((i4 + 4)).toNatClampNeg), .ref 117, .retAddr 0] [] (G, I, J) (q_Ri (fun y1 G1 I1 J1 => (am_is (i4 + 1) L = true ∧ (am_is (i4 + 2) L = true ∧ (am_is (i4 + 3) L = true ∧ (am_is (i4 + 4) L = true ∧ q_W β xs L d 177 0 [.ref 59, .int (xs ((i4 + 1)).toNatClampNeg), .int (xs ((i4 + 2)).toNatClampNeg), .int (xs ((i4 + 3)).toNatClampNeg), .int (xs ((i4 + 4)).toNatClampNeg), .retAddr 0, .retAddr 0, .retAddr 0, .retAddr 0] [] (G1, I1, J1) (q_Ri (fun y2 G2 I2 J2 => q_W β xs L d 102 0 [.ref 59] [] (G2, I2, J2) (q_Ri (fun y3 G3 I3 J3 => ((y3 = y1 → ((¬ y1 = 0 → q_W β xs L (d + 1) 199 1232 [.retAddr 1, .ref 0, .ref 59, .ref 117, .int i4, .int y1, .int y2] [] (G3, I3, J3) Q) ∧ (y1 = 0 → (am_is 0 1 = true ∧ (((if (J3 117 (0 : Int32).toNatClampNeg) > ((y2).toInt64) then (1 : Int32) else if (J3 117 (0 : Int32).toNatClampNeg) = ((y2).toInt64) then 0 else -1) = 0 → q_W β xs L (d + 1) 199 1232 [.retAddr 1, .ref 0, .ref 59, .ref 117, .int i4, .int y1, .int y2] [] (G3, I3, J3) Q) ∧ (¬ (if (J3 117 (0 : Int32).toNatClampNeg) > ((y2).toInt64) then (1 : Int32) else if (J3 117 (0 : Int32).toNatClampNeg) = ((y2).toInt64) then 0 else -1) = 0 → (((0 : Int32) = 0 ∨ (0 : Int32) = 1) ∧ Q (.inl (some (.int 0))) (G3, I3, J3)))))))) ∧ (¬ y3 = y1 → (((0 : Int32) = 0 ∨ (0 : Int32) = 1) ∧ Q (.inl (some (.int 0))) (G3, I3, J3))))) (fun x3 G3 I3 J3 => q_X β xs L (d + 1) 199 1205 [.retAddr 1, .ref 0, .ref 59, .ref 117, .int i4, .int y1, .int y2] Q x3 (G3, I3, J3)))) (fun x2 G2 I2 J2 => q_X β xs L (d + 1) 199 1199 [.retAddr 1, .ref 0, .ref 59, .ref 117, .int i4, .int y1, v6] Q x2 (G2, I2, J2)))))))) (fun x1 G1 I1 J1 => q_X β xs L (d + 1) 199 1169 [.retAddr 1, .ref 0, .ref 59, .ref 117, .int i4, v5, v6] Q x1 (G1, I1, J1)))))))) : q_W β xs L (d + 1) 199 1143 [.retAddr 1, .ref 0, .ref 59, .ref 117, .int i4, v5, v6] [] (G, I, J) Q := by
  refine w_al f_199_1143 rfl ?_
  refine w_ae f_199_1144 rfl ?_
  refine w_il f_199_1145 rfl ?_
  refine w_ic f_199_1147 ?_
  refine w_bin f_199_1148 ?_
  have hb := H.1
  have H := H.2
  refine w_eld f_199_1149 hb ?_
  refine w_ae f_199_1150 rfl ?_
  refine w_il f_199_1151 rfl ?_
  refine w_ic f_199_1153 ?_
  refine w_bin f_199_1154 ?_
  have hb := H.1
  have H := H.2
  refine w_eld f_199_1155 hb ?_
  refine w_ae f_199_1156 rfl ?_
  refine w_il f_199_1157 rfl ?_
  refine w_ic f_199_1159 ?_
  refine w_bin f_199_1160 ?_
  have hb := H.1
  have H := H.2
  refine w_eld f_199_1161 hb ?_
  refine w_ae f_199_1162 rfl ?_
  refine w_il f_199_1163 rfl ?_
  refine w_ic f_199_1165 ?_
  refine w_bin f_199_1166 ?_
  have hb := H.1
  have H := H.2
  refine w_eld f_199_1167 hb ?_
  refine w_al f_199_1168 rfl ?_
  refine w_invs (as := [.ref 0, .int (xs ((i4 + 1)).toNatClampNeg), .int (xs ((i4 + 2)).toNatClampNeg), .int (xs ((i4 + 3)).toNatClampNeg), .int (xs ((i4 + 4)).toNatClampNeg), .ref 117, .retAddr 0]) (st' := []) f_199_1169 rfl rfl rfl rfl rfl H (k_i (fun y1 G1 I1 J1 H => ?_)) (fun x h' h => h)
  refine w_is (ls' := [.retAddr 1, .ref 0, .ref 59, .ref 117, .int i4, .int y1, v6]) f_199_1172 rfl ?_
  refine w_al f_199_1174 rfl ?_
  refine w_ae f_199_1175 rfl ?_
  refine w_il f_199_1176 rfl ?_
  refine w_ic f_199_1178 ?_
  refine w_bin f_199_1179 ?_
  have hb := H.1
  have H := H.2
  refine w_eld f_199_1180 hb ?_
  refine w_ae f_199_1181 rfl ?_
  refine w_il f_199_1182 rfl ?_
  refine w_ic f_199_1184 ?_
  refine w_bin f_199_1185 ?_
  have hb := H.1
  have H := H.2
  refine w_eld f_199_1186 hb ?_
  refine w_ae f_199_1187 rfl ?_
  refine w_il f_199_1188 rfl ?_
  refine w_ic f_199_1190 ?_
  refine w_bin f_199_1191 ?_
  have hb := H.1
  have H := H.2
  refine w_eld f_199_1192 hb ?_
  refine w_ae f_199_1193 rfl ?_
  refine w_il f_199_1194 rfl ?_
  refine w_ic f_199_1196 ?_
  refine w_bin f_199_1197 ?_
  have hb := H.1
  have H := H.2
  refine w_eld f_199_1198 hb ?_
  refine w_inv (as := [.ref 59, .int (xs ((i4 + 1)).toNatClampNeg), .int (xs ((i4 + 2)).toNatClampNeg), .int (xs ((i4 + 3)).toNatClampNeg), .int (xs ((i4 + 4)).toNatClampNeg), .retAddr 0, .retAddr 0, .retAddr 0, .retAddr 0]) (st' := []) f_199_1199 rfl rfl rfl rfl rfl rfl H (k_i (fun y2 G2 I2 J2 H => ?_)) (fun x h' h => h)
  refine w_is (ls' := [.retAddr 1, .ref 0, .ref 59, .ref 117, .int i4, .int y1, .int y2]) f_199_1202 rfl ?_
  refine w_al f_199_1204 rfl ?_
  refine w_inv (as := [.ref 59]) (st' := []) f_199_1205 rfl rfl rfl rfl rfl rfl H (k_i (fun y3 G3 I3 J3 H => ?_)) (fun x h' h => h)
  refine w_il f_199_1208 rfl ?_
  refine w_iceq f_199_1210 (fun c => ?_) (fun c => ?_)
  · have H := H.1 c
    refine w_il f_199_1215 rfl ?_
    refine w_ifne f_199_1217 (fun c => ?_) (fun c => ?_)
    · have H := H.1 c
      exact H
    · have H := H.2 c
      refine w_al f_199_1220 rfl ?_
      refine w_ic f_199_1221 ?_
      have hb := H.1
      have H := H.2
      refine w_lald f_199_1222 rfl hb ?_
      refine w_il f_199_1223 rfl ?_
      refine w_i2l f_199_1225 ?_
      refine w_lcmp f_199_1226 ?_
      refine w_ifeq f_199_1227 (fun c => ?_) (fun c => ?_)
      · have H := H.1 c
        exact H
      · have H := H.2 c
        refine w_ic f_199_1230 ?_
        exact w_retz f_199_1231 H.1 H.2
  · have H := H.2 c
    refine w_ic f_199_1213 ?_
    exact w_retz f_199_1214 H.1 H.2
theorem g_199_1232 {d : Nat} {G : am_G} {I : Nat → Nat → Int32} {J : Nat → Nat → Int64} {Q : am_O → am_H → Prop} (hR : q_RT G) (i4 : Int32) (i5 : Int32) (i6 : Int32) (H : q_W β xs L (d + 1) 199 1697 [.retAddr 1, .ref 0, .ref 59, .ref 117, .int i4, .int i5, .int i6] [] (G, I, J) Q) : q_W β xs L (d + 1) 199 1232 [.retAddr 1, .ref 0, .ref 59, .ref 117, .int i4, .int i5, .int i6] [] (G, I, J) Q := by
  refine w_go f_199_1232 ?_
  exact H
theorem g_199_1235 {d : Nat} {G : am_G} {I : Nat → Nat → Int32} {J : Nat → Nat → Int64} {Q : am_O → am_H → Prop} (hR : q_RT G) (i4 : Int32) (v5 : Value) (v6 : Value) (n5 : am_nl v5 = true) (n6 : am_nl v6 = true) (H : (am_is (i4 + 1) L = true ∧ (am_is (i4 + 2) L = true ∧ (am_is (i4 + 3) L = true ∧ (am_is (i4 + 4) L = true ∧ q_W β xs L d 194 0 [.ref 0, .int (xs ((i4 + 1)).toNatClampNeg), .int (xs ((i4 + 2)).toNatClampNeg), .int (xs ((i4 + 3)).toNatClampNeg), .int (xs ((i4 + 4)).toNatClampNeg), .ref 117, .retAddr 0] [] (G, I, J) (q_Ri (fun y1 G1 I1 J1 => (am_is (i4 + 1) L = true ∧ (am_is (i4 + 2) L = true ∧ (am_is (i4 + 3) L = true ∧ (am_is (i4 + 4) L = true ∧ q_W β xs L d 178 0 [.ref 59, .int (xs ((i4 + 1)).toNatClampNeg), .int (xs ((i4 + 2)).toNatClampNeg), .int (xs ((i4 + 3)).toNatClampNeg), .int (xs ((i4 + 4)).toNatClampNeg)] [] (G1, I1, J1) (q_Ri (fun y2 G2 I2 J2 => q_W β xs L d 102 0 [.ref 59] [] (G2, I2, J2) (q_Ri (fun y3 G3 I3 J3 => ((y3 = y1 → ((¬ y1 = 0 → q_W β xs L (d + 1) 199 1324 [.retAddr 1, .ref 0, .ref 59, .ref 117, .int i4, .int y1, .int y2] [] (G3, I3, J3) Q) ∧ (y1 = 0 → (am_is 0 1 = true ∧ (((if (J3 117 (0 : Int32).toNatClampNeg) > ((y2).toInt64) then (1 : Int32) else if (J3 117 (0 : Int32).toNatClampNeg) = ((y2).toInt64) then 0 else -1) = 0 → q_W β xs L (d + 1) 199 1324 [.retAddr 1, .ref 0, .ref 59, .ref 117, .int i4, .int y1, .int y2] [] (G3, I3, J3) Q) ∧ (¬ (if (J3 117 (0 : Int32).toNatClampNeg) > ((y2).toInt64) then (1 : Int32) else if (J3 117 (0 : Int32).toNatClampNeg) = ((y2).toInt64) then 0 else -1) = 0 → (((0 : Int32) = 0 ∨ (0 : Int32) = 1) ∧ Q (.inl (some (.int 0))) (G3, I3, J3)))))))) ∧ (¬ y3 = y1 → (((0 : Int32) = 0 ∨ (0 : Int32) = 1) ∧ Q (.inl (some (.int 0))) (G3, I3, J3))))) (fun x3 G3 I3 J3 => q_X β xs L (d + 1) 199 1297 [.retAddr 1, .ref 0, .ref 59, .ref 117, .int i4, .int y1, .int y2] Q x3 (G3, I3, J3)))) (fun x2 G2 I2 J2 => q_X β xs L (d + 1) 199 1291 [.retAddr 1, .ref 0, .ref 59, .ref 117, .int i4, .int y1, v6] Q x2 (G2, I2, J2)))))))) (fun x1 G1 I1 J1 => q_X β xs L (d + 1) 199 1261 [.retAddr 1, .ref 0, .ref 59, .ref 117, .int i4, v5, v6] Q x1 (G1, I1, J1)))))))) : q_W β xs L (d + 1) 199 1235 [.retAddr 1, .ref 0, .ref 59, .ref 117, .int i4, v5, v6] [] (G, I, J) Q := by
  refine w_al f_199_1235 rfl ?_
  refine w_ae f_199_1236 rfl ?_
  refine w_il f_199_1237 rfl ?_
  refine w_ic f_199_1239 ?_
  refine w_bin f_199_1240 ?_
  have hb := H.1
  have H := H.2
  refine w_eld f_199_1241 hb ?_
  refine w_ae f_199_1242 rfl ?_
  refine w_il f_199_1243 rfl ?_
  refine w_ic f_199_1245 ?_
  refine w_bin f_199_1246 ?_
  have hb := H.1
  have H := H.2
  refine w_eld f_199_1247 hb ?_
  refine w_ae f_199_1248 rfl ?_
  refine w_il f_199_1249 rfl ?_
  refine w_ic f_199_1251 ?_
  refine w_bin f_199_1252 ?_
  have hb := H.1
  have H := H.2
  refine w_eld f_199_1253 hb ?_
  refine w_ae f_199_1254 rfl ?_
  refine w_il f_199_1255 rfl ?_
  refine w_ic f_199_1257 ?_
  refine w_bin f_199_1258 ?_
  have hb := H.1
  have H := H.2
  refine w_eld f_199_1259 hb ?_
  refine w_al f_199_1260 rfl ?_
  refine w_invs (as := [.ref 0, .int (xs ((i4 + 1)).toNatClampNeg), .int (xs ((i4 + 2)).toNatClampNeg), .int (xs ((i4 + 3)).toNatClampNeg), .int (xs ((i4 + 4)).toNatClampNeg), .ref 117, .retAddr 0]) (st' := []) f_199_1261 rfl rfl rfl rfl rfl H (k_i (fun y1 G1 I1 J1 H => ?_)) (fun x h' h => h)
  refine w_is (ls' := [.retAddr 1, .ref 0, .ref 59, .ref 117, .int i4, .int y1, v6]) f_199_1264 rfl ?_
  refine w_al f_199_1266 rfl ?_
  refine w_ae f_199_1267 rfl ?_
  refine w_il f_199_1268 rfl ?_
  refine w_ic f_199_1270 ?_
  refine w_bin f_199_1271 ?_
  have hb := H.1
  have H := H.2
  refine w_eld f_199_1272 hb ?_
  refine w_ae f_199_1273 rfl ?_
  refine w_il f_199_1274 rfl ?_
  refine w_ic f_199_1276 ?_
  refine w_bin f_199_1277 ?_
  have hb := H.1
  have H := H.2
  refine w_eld f_199_1278 hb ?_
  refine w_ae f_199_1279 rfl ?_
  refine w_il f_199_1280 rfl ?_
  refine w_ic f_199_1282 ?_
  refine w_bin f_199_1283 ?_
  have hb := H.1
  have H := H.2
  refine w_eld f_199_1284 hb ?_
  refine w_ae f_199_1285 rfl ?_
  refine w_il f_199_1286 rfl ?_
  refine w_ic f_199_1288 ?_
  refine w_bin f_199_1289 ?_
  have hb := H.1
  have H := H.2
  refine w_eld f_199_1290 hb ?_
  refine w_inv (as := [.ref 59, .int (xs ((i4 + 1)).toNatClampNeg), .int (xs ((i4 + 2)).toNatClampNeg), .int (xs ((i4 + 3)).toNatClampNeg), .int (xs ((i4 + 4)).toNatClampNeg)]) (st' := []) f_199_1291 rfl rfl rfl rfl rfl rfl H (k_i (fun y2 G2 I2 J2 H => ?_)) (fun x h' h => h)
  refine w_is (ls' := [.retAddr 1, .ref 0, .ref 59, .ref 117, .int i4, .int y1, .int y2]) f_199_1294 rfl ?_
  refine w_al f_199_1296 rfl ?_
  refine w_inv (as := [.ref 59]) (st' := []) f_199_1297 rfl rfl rfl rfl rfl rfl H (k_i (fun y3 G3 I3 J3 H => ?_)) (fun x h' h => h)
  refine w_il f_199_1300 rfl ?_
  refine w_iceq f_199_1302 (fun c => ?_) (fun c => ?_)
  · have H := H.1 c
    refine w_il f_199_1307 rfl ?_
    refine w_ifne f_199_1309 (fun c => ?_) (fun c => ?_)
    · have H := H.1 c
      exact H
    · have H := H.2 c
      refine w_al f_199_1312 rfl ?_
      refine w_ic f_199_1313 ?_
      have hb := H.1
      have H := H.2
      refine w_lald f_199_1314 rfl hb ?_
      refine w_il f_199_1315 rfl ?_
      refine w_i2l f_199_1317 ?_
      refine w_lcmp f_199_1318 ?_
      refine w_ifeq f_199_1319 (fun c => ?_) (fun c => ?_)
      · have H := H.1 c
        exact H
      · have H := H.2 c
        refine w_ic f_199_1322 ?_
        exact w_retz f_199_1323 H.1 H.2
  · have H := H.2 c
    refine w_ic f_199_1305 ?_
    exact w_retz f_199_1306 H.1 H.2
theorem g_199_1324 {d : Nat} {G : am_G} {I : Nat → Nat → Int32} {J : Nat → Nat → Int64} {Q : am_O → am_H → Prop} (hR : q_RT G) (i4 : Int32) (i5 : Int32) (i6 : Int32) (H : q_W β xs L (d + 1) 199 1697 [.retAddr 1, .ref 0, .ref 59, .ref 117, .int i4, .int i5, .int i6] [] (G, I, J) Q) : q_W β xs L (d + 1) 199 1324 [.retAddr 1, .ref 0, .ref 59, .ref 117, .int i4, .int i5, .int i6] [] (G, I, J) Q := by
  refine w_go f_199_1324 ?_
  exact H
theorem g_199_1327 {d : Nat} {G : am_G} {I : Nat → Nat → Int32} {J : Nat → Nat → Int64} {Q : am_O → am_H → Prop} (hR : q_RT G) (i4 : Int32) (v5 : Value) (v6 : Value) (n5 : am_nl v5 = true) (n6 : am_nl v6 = true) (H : (am_is (i4 + 1) L = true ∧ (am_is (i4 + 2) L = true ∧ (am_is (i4 + 3) L = true ∧ (am_is (i4 + 4) L = true ∧ (am_is (i4 + 5) L = true ∧ (am_is (i4 + 6) L = true ∧ q_W β xs L d 195 0 [.ref 0, .int (xs ((i4 + 1)).toNatClampNeg), .int (xs ((i4 + 2)).toNatClampNeg), .int (xs ((i4 + 3)).toNatClampNeg), .int (xs ((i4 + 4)).toNatClampNeg), .int (xs ((i4 + 5)).toNatClampNeg), .int (xs ((i4 + 6)).toNatClampNeg), .ref 117, .retAddr 0] [] (G, I, J) (q_Ri (fun y1 G1 I1 J1 => (am_is (i4 + 1) L = true ∧ (am_is (i4 + 2) L = true ∧ (am_is (i4 + 3) L = true ∧ (am_is (i4 + 4) L = true ∧ (am_is (i4 + 5) L = true ∧ (am_is (i4 + 6) L = true ∧ q_W β xs L d 179 0 [.ref 59, .int (xs ((i4 + 1)).toNatClampNeg), .int (xs ((i4 + 2)).toNatClampNeg), .int (xs ((i4 + 3)).toNatClampNeg), .int (xs ((i4 + 4)).toNatClampNeg), .int (xs ((i4 + 5)).toNatClampNeg), .int (xs ((i4 + 6)).toNatClampNeg), .retAddr 0, .retAddr 0, .retAddr 0] [] (G1, I1, J1) (q_Ri (fun y2 G2 I2 J2 => q_W β xs L d 102 0 [.ref 59] [] (G2, I2, J2) (q_Ri (fun y3 G3 I3 J3 => ((y3 = y1 → ((¬ y1 = 0 → q_W β xs L (d + 1) 199 1442 [.retAddr 1, .ref 0, .ref 59, .ref 117, .int i4, .int y1, .int y2] [] (G3, I3, J3) Q) ∧ (y1 = 0 → (am_is 0 1 = true ∧ (((if (J3 117 (0 : Int32).toNatClampNeg) > ((y2).toInt64) then (1 : Int32) else if (J3 117 (0 : Int32).toNatClampNeg) = ((y2).toInt64) then 0 else -1) = 0 → q_W β xs L (d + 1) 199 1442 [.retAddr 1, .ref 0, .ref 59, .ref 117, .int i4, .int y1, .int y2] [] (G3, I3, J3) Q) ∧ (¬ (if (J3 117 (0 : Int32).toNatClampNeg) > ((y2).toInt64) then (1 : Int32) else if (J3 117 (0 : Int32).toNatClampNeg) = ((y2).toInt64) then 0 else -1) = 0 → (((0 : Int32) = 0 ∨ (0 : Int32) = 1) ∧ Q (.inl (some (.int 0))) (G3, I3, J3)))))))) ∧ (¬ y3 = y1 → (((0 : Int32) = 0 ∨ (0 : Int32) = 1) ∧ Q (.inl (some (.int 0))) (G3, I3, J3))))) (fun x3 G3 I3 J3 => q_X β xs L (d + 1) 199 1415 [.retAddr 1, .ref 0, .ref 59, .ref 117, .int i4, .int y1, .int y2] Q x3 (G3, I3, J3)))) (fun x2 G2 I2 J2 => q_X β xs L (d + 1) 199 1409 [.retAddr 1, .ref 0, .ref 59, .ref 117, .int i4, .int y1, v6] Q x2 (G2, I2, J2)))))))))) (fun x1 G1 I1 J1 => q_X β xs L (d + 1) 199 1366 [.retAddr 1, .ref 0, .ref 59, .ref 117, .int i4, v5, v6] Q x1 (G1, I1, J1)))))))))) : q_W β xs L (d + 1) 199 1327 [.retAddr 1, .ref 0, .ref 59, .ref 117, .int i4, v5, v6] [] (G, I, J) Q := by
  refine w_al f_199_1327 rfl ?_
  refine w_ae f_199_1328 rfl ?_
  refine w_il f_199_1329 rfl ?_
  refine w_ic f_199_1331 ?_
  refine w_bin f_199_1332 ?_
  have hb := H.1
  have H := H.2
  refine w_eld f_199_1333 hb ?_
  refine w_ae f_199_1334 rfl ?_
  refine w_il f_199_1335 rfl ?_
  refine w_ic f_199_1337 ?_
  refine w_bin f_199_1338 ?_
  have hb := H.1
  have H := H.2
  refine w_eld f_199_1339 hb ?_
  refine w_ae f_199_1340 rfl ?_
  refine w_il f_199_1341 rfl ?_
  refine w_ic f_199_1343 ?_
  refine w_bin f_199_1344 ?_
  have hb := H.1
  have H := H.2
  refine w_eld f_199_1345 hb ?_
  refine w_ae f_199_1346 rfl ?_
  refine w_il f_199_1347 rfl ?_
  refine w_ic f_199_1349 ?_
  refine w_bin f_199_1350 ?_
  have hb := H.1
  have H := H.2
  refine w_eld f_199_1351 hb ?_
  refine w_ae f_199_1352 rfl ?_
  refine w_il f_199_1353 rfl ?_
  refine w_ic f_199_1355 ?_
  refine w_bin f_199_1356 ?_
  have hb := H.1
  have H := H.2
  refine w_eld f_199_1357 hb ?_
  refine w_ae f_199_1358 rfl ?_
  refine w_il f_199_1359 rfl ?_
  refine w_ic f_199_1361 ?_
  refine w_bin f_199_1363 ?_
  have hb := H.1
  have H := H.2
  refine w_eld f_199_1364 hb ?_
  refine w_al f_199_1365 rfl ?_
  refine w_invs (as := [.ref 0, .int (xs ((i4 + 1)).toNatClampNeg), .int (xs ((i4 + 2)).toNatClampNeg), .int (xs ((i4 + 3)).toNatClampNeg), .int (xs ((i4 + 4)).toNatClampNeg), .int (xs ((i4 + 5)).toNatClampNeg), .int (xs ((i4 + 6)).toNatClampNeg), .ref 117, .retAddr 0]) (st' := []) f_199_1366 rfl rfl rfl rfl rfl H (k_i (fun y1 G1 I1 J1 H => ?_)) (fun x h' h => h)
  refine w_is (ls' := [.retAddr 1, .ref 0, .ref 59, .ref 117, .int i4, .int y1, v6]) f_199_1369 rfl ?_
  refine w_al f_199_1371 rfl ?_
  refine w_ae f_199_1372 rfl ?_
  refine w_il f_199_1373 rfl ?_
  refine w_ic f_199_1375 ?_
  refine w_bin f_199_1376 ?_
  have hb := H.1
  have H := H.2
  refine w_eld f_199_1377 hb ?_
  refine w_ae f_199_1378 rfl ?_
  refine w_il f_199_1379 rfl ?_
  refine w_ic f_199_1381 ?_
  refine w_bin f_199_1382 ?_
  have hb := H.1
  have H := H.2
  refine w_eld f_199_1383 hb ?_
  refine w_ae f_199_1384 rfl ?_
  refine w_il f_199_1385 rfl ?_
  refine w_ic f_199_1387 ?_
  refine w_bin f_199_1388 ?_
  have hb := H.1
  have H := H.2
  refine w_eld f_199_1389 hb ?_
  refine w_ae f_199_1390 rfl ?_
  refine w_il f_199_1391 rfl ?_
  refine w_ic f_199_1393 ?_
  refine w_bin f_199_1394 ?_
  have hb := H.1
  have H := H.2
  refine w_eld f_199_1395 hb ?_
  refine w_ae f_199_1396 rfl ?_
  refine w_il f_199_1397 rfl ?_
  refine w_ic f_199_1399 ?_
  refine w_bin f_199_1400 ?_
  have hb := H.1
  have H := H.2
  refine w_eld f_199_1401 hb ?_
  refine w_ae f_199_1402 rfl ?_
  refine w_il f_199_1403 rfl ?_
  refine w_ic f_199_1405 ?_
  refine w_bin f_199_1407 ?_
  have hb := H.1
  have H := H.2
  refine w_eld f_199_1408 hb ?_
  refine w_inv (as := [.ref 59, .int (xs ((i4 + 1)).toNatClampNeg), .int (xs ((i4 + 2)).toNatClampNeg), .int (xs ((i4 + 3)).toNatClampNeg), .int (xs ((i4 + 4)).toNatClampNeg), .int (xs ((i4 + 5)).toNatClampNeg), .int (xs ((i4 + 6)).toNatClampNeg), .retAddr 0, .retAddr 0, .retAddr 0]) (st' := []) f_199_1409 rfl rfl rfl rfl rfl rfl H (k_i (fun y2 G2 I2 J2 H => ?_)) (fun x h' h => h)
  refine w_is (ls' := [.retAddr 1, .ref 0, .ref 59, .ref 117, .int i4, .int y1, .int y2]) f_199_1412 rfl ?_
  refine w_al f_199_1414 rfl ?_
  refine w_inv (as := [.ref 59]) (st' := []) f_199_1415 rfl rfl rfl rfl rfl rfl H (k_i (fun y3 G3 I3 J3 H => ?_)) (fun x h' h => h)
  refine w_il f_199_1418 rfl ?_
  refine w_iceq f_199_1420 (fun c => ?_) (fun c => ?_)
  · have H := H.1 c
    refine w_il f_199_1425 rfl ?_
    refine w_ifne f_199_1427 (fun c => ?_) (fun c => ?_)
    · have H := H.1 c
      exact H
    · have H := H.2 c
      refine w_al f_199_1430 rfl ?_
      refine w_ic f_199_1431 ?_
      have hb := H.1
      have H := H.2
      refine w_lald f_199_1432 rfl hb ?_
      refine w_il f_199_1433 rfl ?_
      refine w_i2l f_199_1435 ?_
      refine w_lcmp f_199_1436 ?_
      refine w_ifeq f_199_1437 (fun c => ?_) (fun c => ?_)
      · have H := H.1 c
        exact H
      · have H := H.2 c
        refine w_ic f_199_1440 ?_
        exact w_retz f_199_1441 H.1 H.2
  · have H := H.2 c
    refine w_ic f_199_1423 ?_
    exact w_retz f_199_1424 H.1 H.2
theorem g_199_1442 {d : Nat} {G : am_G} {I : Nat → Nat → Int32} {J : Nat → Nat → Int64} {Q : am_O → am_H → Prop} (hR : q_RT G) (i4 : Int32) (i5 : Int32) (i6 : Int32) (H : q_W β xs L (d + 1) 199 1697 [.retAddr 1, .ref 0, .ref 59, .ref 117, .int i4, .int i5, .int i6] [] (G, I, J) Q) : q_W β xs L (d + 1) 199 1442 [.retAddr 1, .ref 0, .ref 59, .ref 117, .int i4, .int i5, .int i6] [] (G, I, J) Q := by
  refine w_go f_199_1442 ?_
  exact H
theorem g_199_1445 {d : Nat} {G : am_G} {I : Nat → Nat → Int32} {J : Nat → Nat → Int64} {Q : am_O → am_H → Prop} (hR : q_RT G) (i4 : Int32) (v5 : Value) (v6 : Value) (n5 : am_nl v5 = true) (n6 : am_nl v6 = true) (H : (am_is (i4 + 1) L = true ∧ (am_is (i4 + 2) L = true ∧ (am_is (i4 + 3) L = true ∧ (am_is (i4 + 4) L = true ∧ (am_is (i4 + 5) L = true ∧ q_W β xs L d 196 0 [.ref 0, .int (xs ((i4 + 1)).toNatClampNeg), .int (xs ((i4 + 2)).toNatClampNeg), .int (xs ((i4 + 3)).toNatClampNeg), .int (xs ((i4 + 4)).toNatClampNeg), .int (xs ((i4 + 5)).toNatClampNeg), .ref 117, .retAddr 0] [] (G, I, J) (q_Ri (fun y1 G1 I1 J1 => (am_is (i4 + 1) L = true ∧ (am_is (i4 + 2) L = true ∧ (am_is (i4 + 3) L = true ∧ (am_is (i4 + 4) L = true ∧ (am_is (i4 + 5) L = true ∧ q_W β xs L d 180 0 [.ref 59, .int (xs ((i4 + 1)).toNatClampNeg), .int (xs ((i4 + 2)).toNatClampNeg), .int (xs ((i4 + 3)).toNatClampNeg), .int (xs ((i4 + 4)).toNatClampNeg), .int (xs ((i4 + 5)).toNatClampNeg)] [] (G1, I1, J1) (q_Ri (fun y2 G2 I2 J2 => q_W β xs L d 102 0 [.ref 59] [] (G2, I2, J2) (q_Ri (fun y3 G3 I3 J3 => ((y3 = y1 → ((¬ y1 = 0 → q_W β xs L (d + 1) 199 1546 [.retAddr 1, .ref 0, .ref 59, .ref 117, .int i4, .int y1, .int y2] [] (G3, I3, J3) Q) ∧ (y1 = 0 → (am_is 0 1 = true ∧ (((if (J3 117 (0 : Int32).toNatClampNeg) > ((y2).toInt64) then (1 : Int32) else if (J3 117 (0 : Int32).toNatClampNeg) = ((y2).toInt64) then 0 else -1) = 0 → q_W β xs L (d + 1) 199 1546 [.retAddr 1, .ref 0, .ref 59, .ref 117, .int i4, .int y1, .int y2] [] (G3, I3, J3) Q) ∧ (¬ (if (J3 117 (0 : Int32).toNatClampNeg) > ((y2).toInt64) then (1 : Int32) else if (J3 117 (0 : Int32).toNatClampNeg) = ((y2).toInt64) then 0 else -1) = 0 → (((0 : Int32) = 0 ∨ (0 : Int32) = 1) ∧ Q (.inl (some (.int 0))) (G3, I3, J3)))))))) ∧ (¬ y3 = y1 → (((0 : Int32) = 0 ∨ (0 : Int32) = 1) ∧ Q (.inl (some (.int 0))) (G3, I3, J3))))) (fun x3 G3 I3 J3 => q_X β xs L (d + 1) 199 1519 [.retAddr 1, .ref 0, .ref 59, .ref 117, .int i4, .int y1, .int y2] Q x3 (G3, I3, J3)))) (fun x2 G2 I2 J2 => q_X β xs L (d + 1) 199 1513 [.retAddr 1, .ref 0, .ref 59, .ref 117, .int i4, .int y1, v6] Q x2 (G2, I2, J2))))))))) (fun x1 G1 I1 J1 => q_X β xs L (d + 1) 199 1477 [.retAddr 1, .ref 0, .ref 59, .ref 117, .int i4, v5, v6] Q x1 (G1, I1, J1))))))))) : q_W β xs L (d + 1) 199 1445 [.retAddr 1, .ref 0, .ref 59, .ref 117, .int i4, v5, v6] [] (G, I, J) Q := by
  refine w_al f_199_1445 rfl ?_
  refine w_ae f_199_1446 rfl ?_
  refine w_il f_199_1447 rfl ?_
  refine w_ic f_199_1449 ?_
  refine w_bin f_199_1450 ?_
  have hb := H.1
  have H := H.2
  refine w_eld f_199_1451 hb ?_
  refine w_ae f_199_1452 rfl ?_
  refine w_il f_199_1453 rfl ?_
  refine w_ic f_199_1455 ?_
  refine w_bin f_199_1456 ?_
  have hb := H.1
  have H := H.2
  refine w_eld f_199_1457 hb ?_
  refine w_ae f_199_1458 rfl ?_
  refine w_il f_199_1459 rfl ?_
  refine w_ic f_199_1461 ?_
  refine w_bin f_199_1462 ?_
  have hb := H.1
  have H := H.2
  refine w_eld f_199_1463 hb ?_
  refine w_ae f_199_1464 rfl ?_
  refine w_il f_199_1465 rfl ?_
  refine w_ic f_199_1467 ?_
  refine w_bin f_199_1468 ?_
  have hb := H.1
  have H := H.2
  refine w_eld f_199_1469 hb ?_
  refine w_ae f_199_1470 rfl ?_
  refine w_il f_199_1471 rfl ?_
  refine w_ic f_199_1473 ?_
  refine w_bin f_199_1474 ?_
  have hb := H.1
  have H := H.2
  refine w_eld f_199_1475 hb ?_
  refine w_al f_199_1476 rfl ?_
  refine w_invs (as := [.ref 0, .int (xs ((i4 + 1)).toNatClampNeg), .int (xs ((i4 + 2)).toNatClampNeg), .int (xs ((i4 + 3)).toNatClampNeg), .int (xs ((i4 + 4)).toNatClampNeg), .int (xs ((i4 + 5)).toNatClampNeg), .ref 117, .retAddr 0]) (st' := []) f_199_1477 rfl rfl rfl rfl rfl H (k_i (fun y1 G1 I1 J1 H => ?_)) (fun x h' h => h)
  refine w_is (ls' := [.retAddr 1, .ref 0, .ref 59, .ref 117, .int i4, .int y1, v6]) f_199_1480 rfl ?_
  refine w_al f_199_1482 rfl ?_
  refine w_ae f_199_1483 rfl ?_
  refine w_il f_199_1484 rfl ?_
  refine w_ic f_199_1486 ?_
  refine w_bin f_199_1487 ?_
  have hb := H.1
  have H := H.2
  refine w_eld f_199_1488 hb ?_
  refine w_ae f_199_1489 rfl ?_
  refine w_il f_199_1490 rfl ?_
  refine w_ic f_199_1492 ?_
  refine w_bin f_199_1493 ?_
  have hb := H.1
  have H := H.2
  refine w_eld f_199_1494 hb ?_
  refine w_ae f_199_1495 rfl ?_
  refine w_il f_199_1496 rfl ?_
  refine w_ic f_199_1498 ?_
  refine w_bin f_199_1499 ?_
  have hb := H.1
  have H := H.2
  refine w_eld f_199_1500 hb ?_
  refine w_ae f_199_1501 rfl ?_
  refine w_il f_199_1502 rfl ?_
  refine w_ic f_199_1504 ?_
  refine w_bin f_199_1505 ?_
  have hb := H.1
  have H := H.2
  refine w_eld f_199_1506 hb ?_
  refine w_ae f_199_1507 rfl ?_
  refine w_il f_199_1508 rfl ?_
  refine w_ic f_199_1510 ?_
  refine w_bin f_199_1511 ?_
  have hb := H.1
  have H := H.2
  refine w_eld f_199_1512 hb ?_
  refine w_inv (as := [.ref 59, .int (xs ((i4 + 1)).toNatClampNeg), .int (xs ((i4 + 2)).toNatClampNeg), .int (xs ((i4 + 3)).toNatClampNeg), .int (xs ((i4 + 4)).toNatClampNeg), .int (xs ((i4 + 5)).toNatClampNeg)]) (st' := []) f_199_1513 rfl rfl rfl rfl rfl rfl H (k_i (fun y2 G2 I2 J2 H => ?_)) (fun x h' h => h)
  refine w_is (ls' := [.retAddr 1, .ref 0, .ref 59, .ref 117, .int i4, .int y1, .int y2]) f_199_1516 rfl ?_
  refine w_al f_199_1518 rfl ?_
  refine w_inv (as := [.ref 59]) (st' := []) f_199_1519 rfl rfl rfl rfl rfl rfl H (k_i (fun y3 G3 I3 J3 H => ?_)) (fun x h' h => h)
  refine w_il f_199_1522 rfl ?_
  refine w_iceq f_199_1524 (fun c => ?_) (fun c => ?_)
  · have H := H.1 c
    refine w_il f_199_1529 rfl ?_
    refine w_ifne f_199_1531 (fun c => ?_) (fun c => ?_)
    · have H := H.1 c
      exact H
    · have H := H.2 c
      refine w_al f_199_1534 rfl ?_
      refine w_ic f_199_1535 ?_
      have hb := H.1
      have H := H.2
      refine w_lald f_199_1536 rfl hb ?_
      refine w_il f_199_1537 rfl ?_
      refine w_i2l f_199_1539 ?_
      refine w_lcmp f_199_1540 ?_
      refine w_ifeq f_199_1541 (fun c => ?_) (fun c => ?_)
      · have H := H.1 c
        exact H
      · have H := H.2 c
        refine w_ic f_199_1544 ?_
        exact w_retz f_199_1545 H.1 H.2
  · have H := H.2 c
    refine w_ic f_199_1527 ?_
    exact w_retz f_199_1528 H.1 H.2
theorem g_199_1546 {d : Nat} {G : am_G} {I : Nat → Nat → Int32} {J : Nat → Nat → Int64} {Q : am_O → am_H → Prop} (hR : q_RT G) (i4 : Int32) (i5 : Int32) (i6 : Int32) (H : q_W β xs L (d + 1) 199 1697 [.retAddr 1, .ref 0, .ref 59, .ref 117, .int i4, .int i5, .int i6] [] (G, I, J) Q) : q_W β xs L (d + 1) 199 1546 [.retAddr 1, .ref 0, .ref 59, .ref 117, .int i4, .int i5, .int i6] [] (G, I, J) Q := by
  refine w_go f_199_1546 ?_
  exact H
theorem g_199_1549 {d : Nat} {G : am_G} {I : Nat → Nat → Int32} {J : Nat → Nat → Int64} {Q : am_O → am_H → Prop} (hR : q_RT G) (i4 : Int32) (v5 : Value) (v6 : Value) (n5 : am_nl v5 = true) (n6 : am_nl v6 = true) (H : (am_is (i4 + 1) L = true ∧ (am_is (i4 + 2) L = true ∧ (am_is (i4 + 3) L = true ∧ (am_is (i4 + 4) L = true ∧ q_W β xs L d 197 0 [.ref 0, .int (xs ((i4 + 1)).toNatClampNeg), .int (xs ((i4 + 2)).toNatClampNeg), .int (xs ((i4 + 3)).toNatClampNeg), .int (xs ((i4 + 4)).toNatClampNeg), .ref 117, .retAddr 0] [] (G, I, J) (q_Ri (fun y1 G1 I1 J1 => (am_is (i4 + 1) L = true ∧ (am_is (i4 + 2) L = true ∧ (am_is (i4 + 3) L = true ∧ (am_is (i4 + 4) L = true ∧ q_W β xs L d 181 0 [.ref 59, .int (xs ((i4 + 1)).toNatClampNeg), .int (xs ((i4 + 2)).toNatClampNeg), .int (xs ((i4 + 3)).toNatClampNeg), .int (xs ((i4 + 4)).toNatClampNeg), .retAddr 0, .retAddr 0, .retAddr 0, .retAddr 0] [] (G1, I1, J1) (q_Ri (fun y2 G2 I2 J2 => q_W β xs L d 102 0 [.ref 59] [] (G2, I2, J2) (q_Ri (fun y3 G3 I3 J3 => ((y3 = y1 → ((¬ y1 = 0 → q_W β xs L (d + 1) 199 1638 [.retAddr 1, .ref 0, .ref 59, .ref 117, .int i4, .int y1, .int y2] [] (G3, I3, J3) Q) ∧ (y1 = 0 → (am_is 0 1 = true ∧ (((if (J3 117 (0 : Int32).toNatClampNeg) > ((y2).toInt64) then (1 : Int32) else if (J3 117 (0 : Int32).toNatClampNeg) = ((y2).toInt64) then 0 else -1) = 0 → q_W β xs L (d + 1) 199 1638 [.retAddr 1, .ref 0, .ref 59, .ref 117, .int i4, .int y1, .int y2] [] (G3, I3, J3) Q) ∧ (¬ (if (J3 117 (0 : Int32).toNatClampNeg) > ((y2).toInt64) then (1 : Int32) else if (J3 117 (0 : Int32).toNatClampNeg) = ((y2).toInt64) then 0 else -1) = 0 → (((0 : Int32) = 0 ∨ (0 : Int32) = 1) ∧ Q (.inl (some (.int 0))) (G3, I3, J3)))))))) ∧ (¬ y3 = y1 → (((0 : Int32) = 0 ∨ (0 : Int32) = 1) ∧ Q (.inl (some (.int 0))) (G3, I3, J3))))) (fun x3 G3 I3 J3 => q_X β xs L (d + 1) 199 1611 [.retAddr 1, .ref 0, .ref 59, .ref 117, .int i4, .int y1, .int y2] Q x3 (G3, I3, J3)))) (fun x2 G2 I2 J2 => q_X β xs L (d + 1) 199 1605 [.retAddr 1, .ref 0, .ref 59, .ref 117, .int i4, .int y1, v6] Q x2 (G2, I2, J2)))))))) (fun x1 G1 I1 J1 => q_X β xs L (d + 1) 199 1575 [.retAddr 1, .ref 0, .ref 59, .ref 117, .int i4, v5, v6] Q x1 (G1, I1, J1)))))))) : q_W β xs L (d + 1) 199 1549 [.retAddr 1, .ref 0, .ref 59, .ref 117, .int i4, v5, v6] [] (G, I, J) Q := by
  refine w_al f_199_1549 rfl ?_
  refine w_ae f_199_1550 rfl ?_
  refine w_il f_199_1551 rfl ?_
  refine w_ic f_199_1553 ?_
  refine w_bin f_199_1554 ?_
  have hb := H.1
  have H := H.2
  refine w_eld f_199_1555 hb ?_
  refine w_ae f_199_1556 rfl ?_
  refine w_il f_199_1557 rfl ?_
  refine w_ic f_199_1559 ?_
  refine w_bin f_199_1560 ?_
  have hb := H.1
  have H := H.2
  refine w_eld f_199_1561 hb ?_
  refine w_ae f_199_1562 rfl ?_
  refine w_il f_199_1563 rfl ?_
  refine w_ic f_199_1565 ?_
  refine w_bin f_199_1566 ?_
  have hb := H.1
  have H := H.2
  refine w_eld f_199_1567 hb ?_
  refine w_ae f_199_1568 rfl ?_
  refine w_il f_199_1569 rfl ?_
  refine w_ic f_199_1571 ?_
  refine w_bin f_199_1572 ?_
  have hb := H.1
  have H := H.2
  refine w_eld f_199_1573 hb ?_
  refine w_al f_199_1574 rfl ?_
  refine w_invs (as := [.ref 0, .int (xs ((i4 + 1)).toNatClampNeg), .int (xs ((i4 + 2)).toNatClampNeg), .int (xs ((i4 + 3)).toNatClampNeg), .int (xs ((i4 + 4)).toNatClampNeg), .ref 117, .retAddr 0]) (st' := []) f_199_1575 rfl rfl rfl rfl rfl H (k_i (fun y1 G1 I1 J1 H => ?_)) (fun x h' h => h)
  refine w_is (ls' := [.retAddr 1, .ref 0, .ref 59, .ref 117, .int i4, .int y1, v6]) f_199_1578 rfl ?_
  refine w_al f_199_1580 rfl ?_
  refine w_ae f_199_1581 rfl ?_
  refine w_il f_199_1582 rfl ?_
  refine w_ic f_199_1584 ?_
  refine w_bin f_199_1585 ?_
  have hb := H.1
  have H := H.2
  refine w_eld f_199_1586 hb ?_
  refine w_ae f_199_1587 rfl ?_
  refine w_il f_199_1588 rfl ?_
  refine w_ic f_199_1590 ?_
  refine w_bin f_199_1591 ?_
  have hb := H.1
  have H := H.2
  refine w_eld f_199_1592 hb ?_
  refine w_ae f_199_1593 rfl ?_
  refine w_il f_199_1594 rfl ?_
  refine w_ic f_199_1596 ?_
  refine w_bin f_199_1597 ?_
  have hb := H.1
  have H := H.2
  refine w_eld f_199_1598 hb ?_
  refine w_ae f_199_1599 rfl ?_
  refine w_il f_199_1600 rfl ?_
  refine w_ic f_199_1602 ?_
  refine w_bin f_199_1603 ?_
  have hb := H.1
  have H := H.2
  refine w_eld f_199_1604 hb ?_
  refine w_inv (as := [.ref 59, .int (xs ((i4 + 1)).toNatClampNeg), .int (xs ((i4 + 2)).toNatClampNeg), .int (xs ((i4 + 3)).toNatClampNeg), .int (xs ((i4 + 4)).toNatClampNeg), .retAddr 0, .retAddr 0, .retAddr 0, .retAddr 0]) (st' := []) f_199_1605 rfl rfl rfl rfl rfl rfl H (k_i (fun y2 G2 I2 J2 H => ?_)) (fun x h' h => h)
  refine w_is (ls' := [.retAddr 1, .ref 0, .ref 59, .ref 117, .int i4, .int y1, .int y2]) f_199_1608 rfl ?_
  refine w_al f_199_1610 rfl ?_
  refine w_inv (as := [.ref 59]) (st' := []) f_199_1611 rfl rfl rfl rfl rfl rfl H (k_i (fun y3 G3 I3 J3 H => ?_)) (fun x h' h => h)
  refine w_il f_199_1614 rfl ?_
  refine w_iceq f_199_1616 (fun c => ?_) (fun c => ?_)
  · have H := H.1 c
    refine w_il f_199_1621 rfl ?_
    refine w_ifne f_199_1623 (fun c => ?_) (fun c => ?_)
    · have H := H.1 c
      exact H
    · have H := H.2 c
      refine w_al f_199_1626 rfl ?_
      refine w_ic f_199_1627 ?_
      have hb := H.1
      have H := H.2
      refine w_lald f_199_1628 rfl hb ?_
      refine w_il f_199_1629 rfl ?_
      refine w_i2l f_199_1631 ?_
      refine w_lcmp f_199_1632 ?_
      refine w_ifeq f_199_1633 (fun c => ?_) (fun c => ?_)
      · have H := H.1 c
        exact H
      · have H := H.2 c
        refine w_ic f_199_1636 ?_
        exact w_retz f_199_1637 H.1 H.2
  · have H := H.2 c
    refine w_ic f_199_1619 ?_
    exact w_retz f_199_1620 H.1 H.2
theorem g_199_1638 {d : Nat} {G : am_G} {I : Nat → Nat → Int32} {J : Nat → Nat → Int64} {Q : am_O → am_H → Prop} (hR : q_RT G) (i4 : Int32) (i5 : Int32) (i6 : Int32) (H : q_W β xs L (d + 1) 199 1697 [.retAddr 1, .ref 0, .ref 59, .ref 117, .int i4, .int i5, .int i6] [] (G, I, J) Q) : q_W β xs L (d + 1) 199 1638 [.retAddr 1, .ref 0, .ref 59, .ref 117, .int i4, .int i5, .int i6] [] (G, I, J) Q := by
  refine w_go f_199_1638 ?_
  exact H
theorem g_199_1641 {d : Nat} {G : am_G} {I : Nat → Nat → Int32} {J : Nat → Nat → Int64} {Q : am_O → am_H → Prop} (hR : q_RT G) (i4 : Int32) (v5 : Value) (v6 : Value) (n5 : am_nl v5 = true) (n6 : am_nl v6 = true) (H : (am_is (i4 + 1) L = true ∧ q_W β xs L d 198 0 [.ref 0, .int (xs ((i4 + 1)).toNatClampNeg), .ref 117, .retAddr 0] [] (G, I, J) (q_Ri (fun y1 G1 I1 J1 => (am_is (i4 + 1) L = true ∧ q_W β xs L d 182 0 [.ref 59, .int (xs ((i4 + 1)).toNatClampNeg)] [] (G1, I1, J1) (q_Ri (fun y2 G2 I2 J2 => q_W β xs L d 102 0 [.ref 59] [] (G2, I2, J2) (q_Ri (fun y3 G3 I3 J3 => ((y3 = y1 → ((¬ y1 = 0 → q_W β xs L (d + 1) 199 1694 [.retAddr 1, .ref 0, .ref 59, .ref 117, .int i4, .int y1, .int y2] [] (G3, I3, J3) Q) ∧ (y1 = 0 → (am_is 0 1 = true ∧ (((if (J3 117 (0 : Int32).toNatClampNeg) > ((y2).toInt64) then (1 : Int32) else if (J3 117 (0 : Int32).toNatClampNeg) = ((y2).toInt64) then 0 else -1) = 0 → q_W β xs L (d + 1) 199 1694 [.retAddr 1, .ref 0, .ref 59, .ref 117, .int i4, .int y1, .int y2] [] (G3, I3, J3) Q) ∧ (¬ (if (J3 117 (0 : Int32).toNatClampNeg) > ((y2).toInt64) then (1 : Int32) else if (J3 117 (0 : Int32).toNatClampNeg) = ((y2).toInt64) then 0 else -1) = 0 → (((0 : Int32) = 0 ∨ (0 : Int32) = 1) ∧ Q (.inl (some (.int 0))) (G3, I3, J3)))))))) ∧ (¬ y3 = y1 → (((0 : Int32) = 0 ∨ (0 : Int32) = 1) ∧ Q (.inl (some (.int 0))) (G3, I3, J3))))) (fun x3 G3 I3 J3 => q_X β xs L (d + 1) 199 1667 [.retAddr 1, .ref 0, .ref 59, .ref 117, .int i4, .int y1, .int y2] Q x3 (G3, I3, J3)))) (fun x2 G2 I2 J2 => q_X β xs L (d + 1) 199 1661 [.retAddr 1, .ref 0, .ref 59, .ref 117, .int i4, .int y1, v6] Q x2 (G2, I2, J2))))) (fun x1 G1 I1 J1 => q_X β xs L (d + 1) 199 1649 [.retAddr 1, .ref 0, .ref 59, .ref 117, .int i4, v5, v6] Q x1 (G1, I1, J1))))) : q_W β xs L (d + 1) 199 1641 [.retAddr 1, .ref 0, .ref 59, .ref 117, .int i4, v5, v6] [] (G, I, J) Q := by
  refine w_al f_199_1641 rfl ?_
  refine w_ae f_199_1642 rfl ?_
  refine w_il f_199_1643 rfl ?_
  refine w_ic f_199_1645 ?_
  refine w_bin f_199_1646 ?_
  have hb := H.1
  have H := H.2
  refine w_eld f_199_1647 hb ?_
  refine w_al f_199_1648 rfl ?_
  refine w_invs (as := [.ref 0, .int (xs ((i4 + 1)).toNatClampNeg), .ref 117, .retAddr 0]) (st' := []) f_199_1649 rfl rfl rfl rfl rfl H (k_i (fun y1 G1 I1 J1 H => ?_)) (fun x h' h => h)
  refine w_is (ls' := [.retAddr 1, .ref 0, .ref 59, .ref 117, .int i4, .int y1, v6]) f_199_1652 rfl ?_
  refine w_al f_199_1654 rfl ?_
  refine w_ae f_199_1655 rfl ?_
  refine w_il f_199_1656 rfl ?_
  refine w_ic f_199_1658 ?_
  refine w_bin f_199_1659 ?_
  have hb := H.1
  have H := H.2
  refine w_eld f_199_1660 hb ?_
  refine w_inv (as := [.ref 59, .int (xs ((i4 + 1)).toNatClampNeg)]) (st' := []) f_199_1661 rfl rfl rfl rfl rfl rfl H (k_i (fun y2 G2 I2 J2 H => ?_)) (fun x h' h => h)
  refine w_is (ls' := [.retAddr 1, .ref 0, .ref 59, .ref 117, .int i4, .int y1, .int y2]) f_199_1664 rfl ?_
  refine w_al f_199_1666 rfl ?_
  refine w_inv (as := [.ref 59]) (st' := []) f_199_1667 rfl rfl rfl rfl rfl rfl H (k_i (fun y3 G3 I3 J3 H => ?_)) (fun x h' h => h)
  refine w_il f_199_1670 rfl ?_
  refine w_iceq f_199_1672 (fun c => ?_) (fun c => ?_)
  · have H := H.1 c
    refine w_il f_199_1677 rfl ?_
    refine w_ifne f_199_1679 (fun c => ?_) (fun c => ?_)
    · have H := H.1 c
      exact H
    · have H := H.2 c
      refine w_al f_199_1682 rfl ?_
      refine w_ic f_199_1683 ?_
      have hb := H.1
      have H := H.2
      refine w_lald f_199_1684 rfl hb ?_
      refine w_il f_199_1685 rfl ?_
      refine w_i2l f_199_1687 ?_
      refine w_lcmp f_199_1688 ?_
      refine w_ifeq f_199_1689 (fun c => ?_) (fun c => ?_)
      · have H := H.1 c
        exact H
      · have H := H.2 c
        refine w_ic f_199_1692 ?_
        exact w_retz f_199_1693 H.1 H.2
  · have H := H.2 c
    refine w_ic f_199_1675 ?_
    exact w_retz f_199_1676 H.1 H.2
theorem g_199_1694 {d : Nat} {G : am_G} {I : Nat → Nat → Int32} {J : Nat → Nat → Int64} {Q : am_O → am_H → Prop} (hR : q_RT G) (i4 : Int32) (i5 : Int32) (i6 : Int32) (H : q_W β xs L (d + 1) 199 1697 [.retAddr 1, .ref 0, .ref 59, .ref 117, .int i4, .int i5, .int i6] [] (G, I, J) Q) : q_W β xs L (d + 1) 199 1694 [.retAddr 1, .ref 0, .ref 59, .ref 117, .int i4, .int i5, .int i6] [] (G, I, J) Q := by
  refine w_go f_199_1694 ?_
  exact H
theorem g_199_1697 {d : Nat} {G : am_G} {I : Nat → Nat → Int32} {J : Nat → Nat → Int64} {Q : am_O → am_H → Prop} (hR : q_RT G) (i4 : Int32) (v5 : Value) (v6 : Value) (n5 : am_nl v5 = true) (n6 : am_nl v6 = true) (H : q_W β xs L (d + 1) 199 23 [.retAddr 1, .ref 0, .ref 59, .ref 117, .int (i4 + 7), v5, v6] [] (G, I, J) Q) : q_W β xs L (d + 1) 199 1697 [.retAddr 1, .ref 0, .ref 59, .ref 117, .int i4, v5, v6] [] (G, I, J) Q := by
  refine w_iinc (ls' := [.retAddr 1, .ref 0, .ref 59, .ref 117, .int (i4 + 7), v5, v6]) f_199_1697 rfl rfl ?_
  refine w_go f_199_1700 ?_
  exact H
end Re

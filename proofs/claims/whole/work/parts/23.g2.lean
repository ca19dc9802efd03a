/-! ===== regions ===== -/
section Re
variable {β : Bool} {xs : Nat → Int32} {L : Nat}
theorem g_52_0 {d : Nat} {G : am_G} {I : Nat → Nat → Int32} {J : Nat → Nat → Int64} {Q : am_O → am_H → Prop} (hR : q_RT G) (i1 : Int32) (i2 : Int32) (i3 : Int32) (H : ((¬ (if (((((((((I 34 6)).toInt64) * 27) + ((i1).toInt64)) * 73000) + ((i2).toInt64)) * 13) + (((i3 + 1)).toInt64)) > (J 38 19) then (1 : Int32) else if (((((((((I 34 6)).toInt64) * 27) + ((i1).toInt64)) * 73000) + ((i2).toInt64)) * 13) + (((i3 + 1)).toInt64)) = (J 38 19) then 0 else -1) = 0 → q_W β xs L d 1 0 [.ref 16, .int (I 34 6), .retAddr 0, .retAddr 0] [] (G, I, (am_u J 38 19 (((((((((I 34 6)).toInt64) * 27) + ((i1).toInt64)) * 73000) + ((i2).toInt64)) * 13) + (((i3 + 1)).toInt64)))) (q_Ri (fun y1 G1 I1 J1 => ((i3 = (-1) → q_W β xs L (d + 1) 52 91 [.ref 38, .int i1, .int i2, .int i3, .long (((((((((I 34 6)).toInt64) * 27) + ((i1).toInt64)) * 73000) + ((i2).toInt64)) * 13) + (((i3 + 1)).toInt64)), .retAddr 0, .retAddr 0, .retAddr 0, .retAddr 0] [] (G1, (am_u I1 38 18 y1), J1) Q) ∧ (¬ i3 = (-1) → q_W β xs L (d + 1) 52 91 [.ref 38, .int i1, .int i2, .int i3, .long (((((((((I 34 6)).toInt64) * 27) + ((i1).toInt64)) * 73000) + ((i2).toInt64)) * 13) + (((i3 + 1)).toInt64)), .retAddr 0, .retAddr 0, .retAddr 0, .retAddr 0] [] (G1, (am_u (am_u I1 38 18 y1) 38 18 (y1 &&& ((1 <<< (i3 &&& 31)) ^^^ (-1)))), J1) Q))) (fun x1 G1 I1 J1 => Q (.inr x1) (G1, I1, J1)))) ∧ ((if (((((((((I 34 6)).toInt64) * 27) + ((i1).toInt64)) * 73000) + ((i2).toInt64)) * 13) + (((i3 + 1)).toInt64)) > (J 38 19) then (1 : Int32) else if (((((((((I 34 6)).toInt64) * 27) + ((i1).toInt64)) * 73000) + ((i2).toInt64)) * 13) + (((i3 + 1)).toInt64)) = (J 38 19) then 0 else -1) = 0 → Q (.inl none) (G, I, J)))) : q_W β xs L (d + 1) 52 0 [.ref 38, .int i1, .int i2, .int i3, .retAddr 0, .retAddr 0, .retAddr 0, .retAddr 0, .retAddr 0] [] (G, I, J) Q := by
  refine w_al f_52_0 rfl ?_
  refine w_gr f_52_1 rfl (hR _ _ _ rfl) ?_
  refine w_gi f_52_4 rfl ?_
  refine w_i2l f_52_7 ?_
  refine w_lc f_52_8 ?_
  refine w_lbin f_52_11 ?_
  refine w_il f_52_12 rfl ?_
  refine w_i2l f_52_13 ?_
  refine w_lbin f_52_14 ?_
  refine w_lc f_52_15 ?_
  refine w_lbin f_52_18 ?_
  refine w_il f_52_19 rfl ?_
  refine w_i2l f_52_20 ?_
  refine w_lbin f_52_21 ?_
  refine w_ls (ls' := [.ref 38, .int i1, .int i2, .int i3, .long (((((((I 34 6)).toInt64) * 27) + ((i1).toInt64)) * 73000) + ((i2).toInt64)), .retAddr 0, .retAddr 0, .retAddr 0, .retAddr 0]) f_52_22 rfl ?_
  refine w_ll f_52_24 rfl ?_
  refine w_lc f_52_26 ?_
  refine w_lbin f_52_29 ?_
  refine w_il f_52_30 rfl ?_
  refine w_ic f_52_31 ?_
  refine w_bin f_52_32 ?_
  refine w_i2l f_52_33 ?_
  refine w_lbin f_52_34 ?_
  refine w_ls (ls' := [.ref 38, .int i1, .int i2, .int i3, .long (((((((((I 34 6)).toInt64) * 27) + ((i1).toInt64)) * 73000) + ((i2).toInt64)) * 13) + (((i3 + 1)).toInt64)), .retAddr 0, .retAddr 0, .retAddr 0, .retAddr 0]) f_52_35 rfl ?_
  refine w_ll f_52_37 rfl ?_
  refine w_al f_52_39 rfl ?_
  refine w_gl f_52_40 rfl ?_
  refine w_lcmp f_52_43 ?_
  refine w_ifne f_52_44 (fun c => ?_) (fun c => ?_)
  · have H := H.1 c
    refine w_al f_52_48 rfl ?_
    refine w_ll f_52_49 rfl ?_
    refine w_pl f_52_51 rfl ?_
    refine w_al f_52_54 rfl ?_
    refine w_al f_52_55 rfl ?_
    refine w_gr f_52_56 rfl (hR _ _ _ rfl) ?_
    refine w_al f_52_59 rfl ?_
    refine w_gr f_52_60 rfl (hR _ _ _ rfl) ?_
    refine w_gi f_52_63 rfl ?_
    refine w_inv (as := [.ref 16, .int (I 34 6), .retAddr 0, .retAddr 0]) (st' := [.ref 38]) f_52_66 rfl rfl rfl rfl rfl rfl H (k_i (fun y1 G1 I1 J1 H => ?_)) (x_n (fun _ => rfl) rfl (fun x h' h => h))
    refine w_pi f_52_69 rfl ?_
    refine w_il f_52_72 rfl ?_
    refine w_ic f_52_73 ?_
    refine w_iceq f_52_74 (fun c => ?_) (fun c => ?_)
    · have H := H.1 c
      exact H
    · have H := H.2 c
      refine w_al f_52_77 rfl ?_
      refine w_dupr f_52_78 ?_
      refine w_gi' f_52_79 rfl (am_u_same) ?_
      refine w_ic f_52_82 ?_
      refine w_il f_52_83 rfl ?_
      refine w_bin f_52_84 ?_
      refine w_ic f_52_85 ?_
      refine w_bin f_52_86 ?_
      refine w_bin f_52_87 ?_
      refine w_pi f_52_88 rfl ?_
      exact H
  · have H := H.2 c
    exact w_ret0 f_52_47 H
theorem g_52_91 {d : Nat} {G : am_G} {I : Nat → Nat → Int32} {J : Nat → Nat → Int64} {Q : am_O → am_H → Prop} (hR : q_RT G) (i1 : Int32) (i2 : Int32) (i3 : Int32) (l4 : Int64) (H : q_W β xs L d 54 0 [.ref 38] [] (G, I, J) (q_Rv (fun G1 I1 J1 => q_W β xs L d 55 0 [.ref 38, .int i1, .int i2, .retAddr 0, .retAddr 0] [] (G1, I1, J1) (q_Rv (fun G2 I2 J2 => q_W β xs L (d + 1) 52 104 [.ref 38, .int i1, .int i2, .int i3, .long l4, .retAddr 0, .int 0, .retAddr 0, .retAddr 0] [] (G2, I2, J2) Q) (fun x2 G2 I2 J2 => Q (.inr x2) (G2, I2, J2)))) (fun x1 G1 I1 J1 => Q (.inr x1) (G1, I1, J1)))) : q_W β xs L (d + 1) 52 91 [.ref 38, .int i1, .int i2, .int i3, .long l4, .retAddr 0, .retAddr 0, .retAddr 0, .retAddr 0] [] (G, I, J) Q := by
  refine w_al f_52_91 rfl ?_
  refine w_inv (as := [.ref 38]) (st' := []) f_52_92 rfl rfl rfl rfl rfl rfl H (k_v (fun G1 I1 J1 H => ?_)) (x_n (fun _ => rfl) rfl (fun x h' h => h))
  refine w_al f_52_95 rfl ?_
  refine w_il f_52_96 rfl ?_
  refine w_il f_52_97 rfl ?_
  refine w_inv (as := [.ref 38, .int i1, .int i2, .retAddr 0, .retAddr 0]) (st' := []) f_52_98 rfl rfl rfl rfl rfl rfl H (k_v (fun G2 I2 J2 H => ?_)) (x_n (fun _ => rfl) rfl (fun x h' h => h))
  refine w_ic f_52_101 ?_
  refine w_is (ls' := [.ref 38, .int i1, .int i2, .int i3, .long l4, .retAddr 0, .int 0, .retAddr 0, .retAddr 0]) f_52_102 rfl ?_
  exact H
theorem g_52_104 {d : Nat} {G : am_G} {I : Nat → Nat → Int32} {J : Nat → Nat → Int64} {Q : am_O → am_H → Prop} (hR : q_RT G) (i1 : Int32) (i2 : Int32) (i3 : Int32) (l4 : Int64) (i6 : Int32) (v7 : Value) (v8 : Value) (n7 : am_nl v7 = true) (n8 : am_nl v8 = true) (H : ((¬ i6 < (I 39 1) → Q (.inl none) (G, I, J)) ∧ (i6 < (I 39 1) → q_W β xs L d 9 0 [.ref 39, .int i6] [] (G, I, J) (q_Ri (fun y1 G1 I1 J1 => (q_RT G1 ∧ q_W β xs L d 10 0 [.ref 39, .int i6] [] (G1, (am_u I1 41 0 y1), J1) (q_Ri (fun y2 G2 I2 J2 => (q_RT G2 ∧ ((¬ y2 = (-1) → q_W β xs L d 57 0 [.ref 38, .int y2, .retAddr 0] [] (G2, (am_u I2 41 4 y2), J2) (q_Rv (fun G3 I3 J3 => q_W β xs L (d + 1) 52 186 [.ref 38, .int i1, .int i2, .int i3, .long l4, .retAddr 0, .int i6, v7, v8] [] (G3, I3, J3) Q) (fun x3 G3 I3 J3 => Q (.inr x3) (G3, I3, J3)))) ∧ (y2 = (-1) → q_W β xs L d 11 0 [.ref 39, .int i6] [] (G2, (am_u I2 41 4 y2), J2) (q_Ri (fun y4 G4 I4 J4 => q_W β xs L d 56 0 [.ref 38, .int y4, .retAddr 0, .retAddr 0] [] (G4, I4, J4) (q_Rv (fun G5 I5 J5 => q_W β xs L (d + 1) 52 186 [.ref 38, .int i1, .int i2, .int i3, .long l4, .retAddr 0, .int i6, v7, v8] [] (G5, I5, J5) Q) (fun x5 G5 I5 J5 => Q (.inr x5) (G5, I5, J5)))) (fun x4 G4 I4 J4 => Q (.inr x4) (G4, I4, J4))))))) (fun x2 G2 I2 J2 => Q (.inr x2) (G2, I2, J2))))) (fun x1 G1 I1 J1 => Q (.inr x1) (G1, I1, J1)))))) : q_W β xs L (d + 1) 52 104 [.ref 38, .int i1, .int i2, .int i3, .long l4, .retAddr 0, .int i6, v7, v8] [] (G, I, J) Q := by
  refine w_il f_52_104 rfl ?_
  refine w_al f_52_106 rfl ?_
  refine w_gr f_52_107 rfl (hR _ _ _ rfl) ?_
  refine w_gi f_52_110 rfl ?_
  refine w_icge f_52_113 (fun c => ?_) (fun c => ?_)
  · have H := H.1 c
    exact w_ret0 f_52_224 H
  · have H := H.2 c
    refine w_al f_52_116 rfl ?_
    refine w_gr f_52_117 rfl (hR _ _ _ rfl) ?_
    refine w_al f_52_120 rfl ?_
    refine w_gr f_52_121 rfl (hR _ _ _ rfl) ?_
    refine w_il f_52_124 rfl ?_
    refine w_inv (as := [.ref 39, .int i6]) (st' := [.ref 41]) f_52_126 rfl rfl rfl rfl rfl rfl H (k_i (fun y1 G1 I1 J1 H => ?_)) (x_n (fun _ => rfl) rfl (fun x h' h => h))
    have hR1 := H.1
    have H := H.2
    refine w_pi f_52_129 rfl ?_
    refine w_al f_52_132 rfl ?_
    refine w_gr f_52_133 rfl (hR1 _ _ _ rfl) ?_
    refine w_al f_52_136 rfl ?_
    refine w_gr f_52_137 rfl (hR1 _ _ _ rfl) ?_
    refine w_il f_52_140 rfl ?_
    refine w_inv (as := [.ref 39, .int i6]) (st' := [.ref 41]) f_52_142 rfl rfl rfl rfl rfl rfl H (k_i (fun y2 G2 I2 J2 H => ?_)) (x_n (fun _ => rfl) rfl (fun x h' h => h))
    have hR2 := H.1
    have H := H.2
    refine w_pi f_52_145 rfl ?_
    refine w_al f_52_148 rfl ?_
    refine w_gr f_52_149 rfl (hR2 _ _ _ rfl) ?_
    refine w_gi' f_52_152 rfl (am_u_same) ?_
    refine w_ic f_52_155 ?_
    refine w_icne f_52_156 (fun c => ?_) (fun c => ?_)
    · have H := H.1 c
      refine w_al f_52_175 rfl ?_
      refine w_al f_52_176 rfl ?_
      refine w_gr f_52_177 rfl (hR2 _ _ _ rfl) ?_
      refine w_gi' f_52_180 rfl (am_u_same) ?_
      refine w_inv (as := [.ref 38, .int y2, .retAddr 0]) (st' := []) f_52_183 rfl rfl rfl rfl rfl rfl H (k_v (fun G3 I3 J3 H => ?_)) (x_n (fun _ => rfl) rfl (fun x h' h => h))
      exact H
    · have H := H.2 c
      refine w_al f_52_159 rfl ?_
      refine w_al f_52_160 rfl ?_
      refine w_gr f_52_161 rfl (hR2 _ _ _ rfl) ?_
      refine w_il f_52_164 rfl ?_
      refine w_inv (as := [.ref 39, .int i6]) (st' := [.ref 38]) f_52_166 rfl rfl rfl rfl rfl rfl H (k_i (fun y4 G4 I4 J4 H => ?_)) (x_n (fun _ => rfl) rfl (fun x h' h => h))
      refine w_inv (as := [.ref 38, .int y4, .retAddr 0, .retAddr 0]) (st' := []) f_52_169 rfl rfl rfl rfl rfl rfl H (k_v (fun G5 I5 J5 H => ?_)) (x_n (fun _ => rfl) rfl (fun x h' h => h))
      refine w_go f_52_172 ?_
      exact H
theorem g_52_186 {d : Nat} {G : am_G} {I : Nat → Nat → Int32} {J : Nat → Nat → Int64} {Q : am_O → am_H → Prop} (hR : q_RT G) (i1 : Int32) (i2 : Int32) (i3 : Int32) (l4 : Int64) (i6 : Int32) (v7 : Value) (v8 : Value) (n7 : am_nl v7 = true) (n8 : am_nl v8 = true) (H : q_W β xs L d 60 0 [.ref 38] [] (G, I, J) (q_Ri (fun y1 G1 I1 J1 => q_W β xs L (d + 1) 52 195 [.ref 38, .int i1, .int i2, .int i3, .long l4, .retAddr 0, .int i6, .int y1, .int 0] [] (G1, I1, J1) Q) (fun x1 G1 I1 J1 => Q (.inr x1) (G1, I1, J1)))) : q_W β xs L (d + 1) 52 186 [.ref 38, .int i1, .int i2, .int i3, .long l4, .retAddr 0, .int i6, v7, v8] [] (G, I, J) Q := by
  refine w_al f_52_186 rfl ?_
  refine w_inv (as := [.ref 38]) (st' := []) f_52_187 rfl rfl rfl rfl rfl rfl H (k_i (fun y1 G1 I1 J1 H => ?_)) (x_n (fun _ => rfl) rfl (fun x h' h => h))
  refine w_is (ls' := [.ref 38, .int i1, .int i2, .int i3, .long l4, .retAddr 0, .int i6, .int y1, v8]) f_52_190 rfl ?_
  refine w_ic f_52_192 ?_
  refine w_is (ls' := [.ref 38, .int i1, .int i2, .int i3, .long l4, .retAddr 0, .int i6, .int y1, .int 0]) f_52_193 rfl ?_
  exact H
theorem g_52_195 {d : Nat} {G : am_G} {I : Nat → Nat → Int32} {J : Nat → Nat → Int64} {Q : am_O → am_H → Prop} (hR : q_RT G) (i1 : Int32) (i2 : Int32) (i3 : Int32) (l4 : Int64) (i6 : Int32) (i7 : Int32) (i8 : Int32) (H : ((¬ i8 < i7 → q_W β xs L (d + 1) 52 104 [.ref 38, .int i1, .int i2, .int i3, .long l4, .retAddr 0, .int (i6 + 1), .int i7, .int i8] [] (G, I, J) Q) ∧ (i8 < i7 → q_W β xs L d 61 0 [.ref 38, .int i8] [] (G, I, J) (q_Ri (fun y1 G1 I1 J1 => q_W β xs L d 62 0 [.ref 38, .int y1, .retAddr 0] [] (G1, I1, J1) (q_Rv (fun G2 I2 J2 => q_W β xs L (d + 1) 52 195 [.ref 38, .int i1, .int i2, .int i3, .long l4, .retAddr 0, .int i6, .int i7, .int (i8 + 1)] [] (G2, I2, J2) Q) (fun x2 G2 I2 J2 => Q (.inr x2) (G2, I2, J2)))) (fun x1 G1 I1 J1 => Q (.inr x1) (G1, I1, J1)))))) : q_W β xs L (d + 1) 52 195 [.ref 38, .int i1, .int i2, .int i3, .long l4, .retAddr 0, .int i6, .int i7, .int i8] [] (G, I, J) Q := by
  refine w_il f_52_195 rfl ?_
  refine w_il f_52_197 rfl ?_
  refine w_icge f_52_199 (fun c => ?_) (fun c => ?_)
  · have H := H.1 c
    refine w_iinc (ls' := [.ref 38, .int i1, .int i2, .int i3, .long l4, .retAddr 0, .int (i6 + 1), .int i7, .int i8]) f_52_218 rfl rfl ?_
    refine w_go f_52_221 ?_
    exact H
  · have H := H.2 c
    refine w_al f_52_202 rfl ?_
    refine w_al f_52_203 rfl ?_
    refine w_il f_52_204 rfl ?_
    refine w_inv (as := [.ref 38, .int i8]) (st' := [.ref 38]) f_52_206 rfl rfl rfl rfl rfl rfl H (k_i (fun y1 G1 I1 J1 H => ?_)) (x_n (fun _ => rfl) rfl (fun x h' h => h))
    refine w_inv (as := [.ref 38, .int y1, .retAddr 0]) (st' := []) f_52_209 rfl rfl rfl rfl rfl rfl H (k_v (fun G2 I2 J2 H => ?_)) (x_n (fun _ => rfl) rfl (fun x h' h => h))
    refine w_iinc (ls' := [.ref 38, .int i1, .int i2, .int i3, .long l4, .retAddr 0, .int i6, .int i7, .int (i8 + 1)]) f_52_212 rfl rfl ?_
    refine w_go f_52_215 ?_
    exact H
theorem g_53_0 {d : Nat} {G : am_G} {I : Nat → Nat → Int32} {J : Nat → Nat → Int64} {Q : am_O → am_H → Prop} (hR : q_RT G) (i1 : Int32) (H : q_W β xs L d 53 4 [.ref 38, .int i1, .int 0, .int 0] [] (G, I, J) Q) : q_W β xs L d 53 0 [.ref 38, .int i1, .retAddr 0, .retAddr 0] [] (G, I, J) Q := by
  refine w_ic f_53_0 ?_
  refine w_is (ls' := [.ref 38, .int i1, .int 0, .retAddr 0]) f_53_1 rfl ?_
  refine w_ic f_53_2 ?_
  refine w_is (ls' := [.ref 38, .int i1, .int 0, .int 0]) f_53_3 rfl ?_
  exact H
theorem g_53_4 {d : Nat} {G : am_G} {I : Nat → Nat → Int32} {J : Nat → Nat → Int64} {Q : am_O → am_H → Prop} (hR : q_RT G) (i1 : Int32) (i2 : Int32) (i3 : Int32) (H : ((¬ i3 < (I 3 3) → Q (.inl (some (.int i2))) (G, I, J)) ∧ (i3 < (I 3 3) → (am_is i3 20 = true ∧ q_W β xs L d 53 4 [.ref 38, .int i1, .int (i2 ||| ((((I 47 (i3).toNatClampNeg) >>> (i1 &&& 31)) &&& 1) <<< (i3 &&& 31))), .int (i3 + 1)] [] (G, I, J) Q)))) : q_W β xs L d 53 4 [.ref 38, .int i1, .int i2, .int i3] [] (G, I, J) Q := by
  refine w_il f_53_4 rfl ?_
  refine w_al f_53_5 rfl ?_
  refine w_gr f_53_6 rfl (hR _ _ _ rfl) ?_
  refine w_gi f_53_9 rfl ?_
  refine w_icge f_53_12 (fun c => ?_) (fun c => ?_)
  · have H := H.1 c
    refine w_il f_53_36 rfl ?_
    exact w_reti f_53_37 H
  · have H := H.2 c
    refine w_il f_53_15 rfl ?_
    refine w_al f_53_16 rfl ?_
    refine w_gr f_53_17 rfl (hR _ _ _ rfl) ?_
    refine w_il f_53_20 rfl ?_
    have hb := H.1
    have H := H.2
    refine w_ald f_53_21 rfl hb ?_
    refine w_il f_53_22 rfl ?_
    refine w_bin f_53_23 ?_
    refine w_ic f_53_24 ?_
    refine w_bin f_53_25 ?_
    refine w_il f_53_26 rfl ?_
    refine w_bin f_53_27 ?_
    refine w_bin f_53_28 ?_
    refine w_is (ls' := [.ref 38, .int i1, .int (i2 ||| ((((I 47 (i3).toNatClampNeg) >>> (i1 &&& 31)) &&& 1) <<< (i3 &&& 31))), .int i3]) f_53_29 rfl ?_
    refine w_iinc (ls' := [.ref 38, .int i1, .int (i2 ||| ((((I 47 (i3).toNatClampNeg) >>> (i1 &&& 31)) &&& 1) <<< (i3 &&& 31))), .int (i3 + 1)]) f_53_30 rfl rfl ?_
    refine w_go f_53_33 ?_
    exact H
theorem g_54_0 {d : Nat} {G : am_G} {I : Nat → Nat → Int32} {J : Nat → Nat → Int64} {Q : am_O → am_H → Prop} (hR : q_RT G)  (H : q_W β xs L d 22 0 [.ref 42] [] (G, I, J) (q_Rv (fun G1 I1 J1 => (q_RT G1 ∧ q_W β xs L d 201 0 [.ref 47, .int 0, .retAddr 0, .retAddr 0] [] (G1, I1, J1) (q_Rv (fun G2 I2 J2 => (q_RT G2 ∧ q_W β xs L d 201 0 [.ref 48, .int (-1), .retAddr 0, .retAddr 0] [] (G2, I2, J2) (q_Rv (fun G3 I3 J3 => (q_RT G3 ∧ q_W β xs L d 201 0 [.ref 49, .int (-1), .retAddr 0, .retAddr 0] [] (G3, I3, J3) (q_Rv (fun G4 I4 J4 => (q_RT G4 ∧ q_W β xs L d 201 0 [.ref 50, .int (-1), .retAddr 0, .retAddr 0] [] (G4, I4, J4) (q_Rv (fun G5 I5 J5 => (q_RT G5 ∧ q_W β xs L d 201 0 [.ref 51, .int (-1), .retAddr 0, .retAddr 0] [] (G5, I5, J5) (q_Rv (fun G6 I6 J6 => (q_RT G6 ∧ q_W β xs L d 201 0 [.ref 52, .int (-1), .retAddr 0, .retAddr 0] [] (G6, I6, J6) (q_Rv (fun G7 I7 J7 => (q_RT G7 ∧ q_W β xs L d 201 0 [.ref 54, .int (-1), .retAddr 0, .retAddr 0] [] (G7, I7, J7) (q_Rv (fun G8 I8 J8 => (q_RT G8 ∧ ((¬ (0 : Int32) < 0 ∧ ¬ (0 : Int32) < 0 ∧ ¬ (12 : Int32) < 0 ∧ (0 : Int32).toNatClampNeg + (12 : Int32).toNatClampNeg ≤ 12 ∧ (0 : Int32).toNatClampNeg + (12 : Int32).toNatClampNeg ≤ 12) ∧ Q (.inl none) (G8, (am_row I8 53 (va_cpy (I8 2) (I8 53) (0 : Int32).toNatClampNeg (0 : Int32).toNatClampNeg (12 : Int32).toNatClampNeg)), J8)))) (fun x8 G8 I8 J8 => Q (.inr x8) (G8, I8, J8))))) (fun x7 G7 I7 J7 => Q (.inr x7) (G7, I7, J7))))) (fun x6 G6 I6 J6 => Q (.inr x6) (G6, I6, J6))))) (fun x5 G5 I5 J5 => Q (.inr x5) (G5, I5, J5))))) (fun x4 G4 I4 J4 => Q (.inr x4) (G4, I4, J4))))) (fun x3 G3 I3 J3 => Q (.inr x3) (G3, I3, J3))))) (fun x2 G2 I2 J2 => Q (.inr x2) (G2, I2, J2))))) (fun x1 G1 I1 J1 => Q (.inr x1) (G1, I1, J1)))) : q_W β xs L (d + 1) 54 0 [.ref 38] [] (G, I, J) Q := by
  refine w_al f_54_0 rfl ?_
  refine w_gr f_54_1 rfl (hR _ _ _ rfl) ?_
  refine w_inv (as := [.ref 42]) (st' := []) f_54_4 rfl rfl rfl rfl rfl rfl H (k_v (fun G1 I1 J1 H => ?_)) (x_n (fun _ => rfl) rfl (fun x h' h => h))
  have hR1 := H.1
  have H := H.2
  refine w_al f_54_7 rfl ?_
  refine w_gr f_54_8 rfl (hR1 _ _ _ rfl) ?_
  refine w_ic f_54_11 ?_
  refine w_invs (as := [.ref 47, .int 0, .retAddr 0, .retAddr 0]) (st' := []) f_54_12 rfl rfl rfl rfl rfl H (k_v (fun G2 I2 J2 H => ?_)) (x_n (fun _ => rfl) rfl (fun x h' h => h))
  have hR2 := H.1
  have H := H.2
  refine w_al f_54_15 rfl ?_
  refine w_gr f_54_16 rfl (hR2 _ _ _ rfl) ?_
  refine w_ic f_54_19 ?_
  refine w_invs (as := [.ref 48, .int (-1), .retAddr 0, .retAddr 0]) (st' := []) f_54_20 rfl rfl rfl rfl rfl H (k_v (fun G3 I3 J3 H => ?_)) (x_n (fun _ => rfl) rfl (fun x h' h => h))
  have hR3 := H.1
  have H := H.2
  refine w_al f_54_23 rfl ?_
  refine w_gr f_54_24 rfl (hR3 _ _ _ rfl) ?_
  refine w_ic f_54_27 ?_
  refine w_invs (as := [.ref 49, .int (-1), .retAddr 0, .retAddr 0]) (st' := []) f_54_28 rfl rfl rfl rfl rfl H (k_v (fun G4 I4 J4 H => ?_)) (x_n (fun _ => rfl) rfl (fun x h' h => h))
  have hR4 := H.1
  have H := H.2
  refine w_al f_54_31 rfl ?_
  refine w_gr f_54_32 rfl (hR4 _ _ _ rfl) ?_
  refine w_ic f_54_35 ?_
  refine w_invs (as := [.ref 50, .int (-1), .retAddr 0, .retAddr 0]) (st' := []) f_54_36 rfl rfl rfl rfl rfl H (k_v (fun G5 I5 J5 H => ?_)) (x_n (fun _ => rfl) rfl (fun x h' h => h))
  have hR5 := H.1
  have H := H.2
  refine w_al f_54_39 rfl ?_
  refine w_gr f_54_40 rfl (hR5 _ _ _ rfl) ?_
  refine w_ic f_54_43 ?_
  refine w_invs (as := [.ref 51, .int (-1), .retAddr 0, .retAddr 0]) (st' := []) f_54_44 rfl rfl rfl rfl rfl H (k_v (fun G6 I6 J6 H => ?_)) (x_n (fun _ => rfl) rfl (fun x h' h => h))
  have hR6 := H.1
  have H := H.2
  refine w_al f_54_47 rfl ?_
  refine w_gr f_54_48 rfl (hR6 _ _ _ rfl) ?_
  refine w_ic f_54_51 ?_
  refine w_invs (as := [.ref 52, .int (-1), .retAddr 0, .retAddr 0]) (st' := []) f_54_52 rfl rfl rfl rfl rfl H (k_v (fun G7 I7 J7 H => ?_)) (x_n (fun _ => rfl) rfl (fun x h' h => h))
  have hR7 := H.1
  have H := H.2
  refine w_al f_54_55 rfl ?_
  refine w_gr f_54_56 rfl (hR7 _ _ _ rfl) ?_
  refine w_ic f_54_59 ?_
  refine w_invs (as := [.ref 54, .int (-1), .retAddr 0, .retAddr 0]) (st' := []) f_54_60 rfl rfl rfl rfl rfl H (k_v (fun G8 I8 J8 H => ?_)) (x_n (fun _ => rfl) rfl (fun x h' h => h))
  have hR8 := H.1
  have H := H.2
  refine w_al f_54_63 rfl ?_
  refine w_gr f_54_64 rfl (hR8 _ _ _ rfl) ?_
  refine w_gr f_54_67 rfl (hR8 _ _ _ rfl) ?_
  refine w_ic f_54_70 ?_
  refine w_al f_54_71 rfl ?_
  refine w_gr f_54_72 rfl (hR8 _ _ _ rfl) ?_
  refine w_ic f_54_75 ?_
  refine w_ic f_54_76 ?_
  have hb := H.1
  have H := H.2
  refine w_acopy f_54_78 rfl rfl hb rfl ?_
  exact w_ret0 f_54_81 H
theorem g_55_0 {d : Nat} {G : am_G} {I : Nat → Nat → Int32} {J : Nat → Nat → Int64} {Q : am_O → am_H → Prop} (hR : q_RT G) (i1 : Int32) (i2 : Int32) (H : q_W β xs L d 5 0 [.ref 39] [] (G, I, J) (q_Rv (fun G1 I1 J1 => q_W β xs L (d + 1) 55 9 [.ref 38, .int i1, .int i2, .int 0, .retAddr 0] [] (G1, I1, J1) Q) (fun x1 G1 I1 J1 => Q (.inr x1) (G1, I1, J1)))) : q_W β xs L (d + 1) 55 0 [.ref 38, .int i1, .int i2, .retAddr 0, .retAddr 0] [] (G, I, J) Q := by
  refine w_al f_55_0 rfl ?_
  refine w_gr f_55_1 rfl (hR _ _ _ rfl) ?_
  refine w_inv (as := [.ref 39]) (st' := []) f_55_4 rfl rfl rfl rfl rfl rfl H (k_v (fun G1 I1 J1 H => ?_)) (x_n (fun _ => rfl) rfl (fun x h' h => h))
  refine w_ic f_55_7 ?_
  refine w_is (ls' := [.ref 38, .int i1, .int i2, .int 0, .retAddr 0]) f_55_8 rfl ?_
  exact H
theorem g_55_9 {d : Nat} {G : am_G} {I : Nat → Nat → Int32} {J : Nat → Nat → Int64} {Q : am_O → am_H → Prop} (hR : q_RT G) (i1 : Int32) (i2 : Int32) (i3 : Int32) (H : ((¬ i3 < (I 16 15) → q_W β xs L (d + 1) 55 70 [.ref 38, .int i1, .int i2, .int 0, .retAddr 0] [] (G, I, J) Q) ∧ (i3 < (I 16 15) → ((¬ (((I 38 18) >>> (i3 &&& 31)) &&& 1) = 1 → q_W β xs L (d + 1) 55 62 [.ref 38, .int i1, .int i2, .int i3, .retAddr 0] [] (G, I, J) Q) ∧ ((((I 38 18) >>> (i3 &&& 31)) &&& 1) = 1 → (am_is i3 12 = true ∧ ((i2 < (I 18 (i3).toNatClampNeg) → q_W β xs L (d + 1) 55 62 [.ref 38, .int i1, .int i2, .int i3, .retAddr 0] [] (G, I, J) Q) ∧ (¬ i2 < (I 18 (i3).toNatClampNeg) → (am_is i3 12 = true ∧ q_W β xs L d 6 0 [.ref 39, .int i3, .int (I 18 (i3).toNatClampNeg)] [] (G, I, J) (q_Rv (fun G1 I1 J1 => q_W β xs L (d + 1) 55 62 [.ref 38, .int i1, .int i2, .int i3, .retAddr 0] [] (G1, I1, J1) Q) (fun x1 G1 I1 J1 => Q (.inr x1) (G1, I1, J1)))))))))))) : q_W β xs L (d + 1) 55 9 [.ref 38, .int i1, .int i2, .int i3, .retAddr 0] [] (G, I, J) Q := by
  refine w_il f_55_9 rfl ?_
  refine w_al f_55_10 rfl ?_
  refine w_gr f_55_11 rfl (hR _ _ _ rfl) ?_
  refine w_gi f_55_14 rfl ?_
  refine w_icge f_55_17 (fun c => ?_) (fun c => ?_)
  · have H := H.1 c
    refine w_ic f_55_68 ?_
    refine w_is (ls' := [.ref 38, .int i1, .int i2, .int 0, .retAddr 0]) f_55_69 rfl ?_
    exact H
  · have H := H.2 c
    refine w_al f_55_20 rfl ?_
    refine w_gi f_55_21 rfl ?_
    refine w_il f_55_24 rfl ?_
    refine w_bin f_55_25 ?_
    refine w_ic f_55_26 ?_
    refine w_bin f_55_27 ?_
    refine w_ic f_55_28 ?_
    refine w_icne f_55_29 (fun c => ?_) (fun c => ?_)
    · have H := H.1 c
      exact H
    · have H := H.2 c
      refine w_al f_55_32 rfl ?_
      refine w_gr f_55_33 rfl (hR _ _ _ rfl) ?_
      refine w_gr f_55_36 rfl (hR _ _ _ rfl) ?_
      refine w_il f_55_39 rfl ?_
      have hb := H.1
      have H := H.2
      refine w_ald f_55_40 rfl hb ?_
      refine w_il f_55_41 rfl ?_
      refine w_icgt f_55_42 (fun c => ?_) (fun c => ?_)
      · have H := H.1 c
        exact H
      · have H := H.2 c
        refine w_al f_55_45 rfl ?_
        refine w_gr f_55_46 rfl (hR _ _ _ rfl) ?_
        refine w_il f_55_49 rfl ?_
        refine w_al f_55_50 rfl ?_
        refine w_gr f_55_51 rfl (hR _ _ _ rfl) ?_
        refine w_gr f_55_54 rfl (hR _ _ _ rfl) ?_
        refine w_il f_55_57 rfl ?_
        have hb := H.1
        have H := H.2
        refine w_ald f_55_58 rfl hb ?_
        refine w_inv (as := [.ref 39, .int i3, .int (I 18 (i3).toNatClampNeg)]) (st' := []) f_55_59 rfl rfl rfl rfl rfl rfl H (k_v (fun G1 I1 J1 H => ?_)) (x_n (fun _ => rfl) rfl (fun x h' h => h))
        exact H
theorem g_55_62 {d : Nat} {G : am_G} {I : Nat → Nat → Int32} {J : Nat → Nat → Int64} {Q : am_O → am_H → Prop} (hR : q_RT G) (i1 : Int32) (i2 : Int32) (i3 : Int32) (H : q_W β xs L (d + 1) 55 9 [.ref 38, .int i1, .int i2, .int (i3 + 1), .retAddr 0] [] (G, I, J) Q) : q_W β xs L (d + 1) 55 62 [.ref 38, .int i1, .int i2, .int i3, .retAddr 0] [] (G, I, J) Q := by
  refine w_iinc (ls' := [.ref 38, .int i1, .int i2, .int (i3 + 1), .retAddr 0]) f_55_62 rfl rfl ?_
  refine w_go f_55_65 ?_
  exact H
theorem g_55_70 {d : Nat} {G : am_G} {I : Nat → Nat → Int32} {J : Nat → Nat → Int64} {Q : am_O → am_H → Prop} (hR : q_RT G) (i1 : Int32) (i2 : Int32) (i3 : Int32) (v4 : Value) (n4 : am_nl v4 = true) (H : ((¬ i3 < (I 7 8) → Q (.inl none) (G, I, J)) ∧ (i3 < (I 7 8) → q_W β xs L d 15 0 [.ref 34, .int i1, .int i3, .retAddr 0] [] (G, I, J) (q_Ri (fun y1 G1 I1 J1 => (q_RT G1 ∧ ((i2 < y1 → q_W β xs L (d + 1) 55 126 [.ref 38, .int i1, .int i2, .int i3, .int y1] [] (G1, I1, J1) Q) ∧ (¬ i2 < y1 → q_W β xs L d 18 0 [.ref 7, .int i3, .int (I1 34 6)] [] (G1, I1, J1) (q_Ri (fun y2 G2 I2 J2 => (q_RT G2 ∧ ((y2 = 0 → q_W β xs L (d + 1) 55 126 [.ref 38, .int i1, .int i2, .int i3, .int y1] [] (G2, I2, J2) Q) ∧ (¬ y2 = 0 → q_W β xs L d 7 0 [.ref 39, .int i3, .int y1] [] (G2, I2, J2) (q_Rv (fun G3 I3 J3 => q_W β xs L (d + 1) 55 126 [.ref 38, .int i1, .int i2, .int i3, .int y1] [] (G3, I3, J3) Q) (fun x3 G3 I3 J3 => Q (.inr x3) (G3, I3, J3))))))) (fun x2 G2 I2 J2 => Q (.inr x2) (G2, I2, J2))))))) (fun x1 G1 I1 J1 => Q (.inr x1) (G1, I1, J1)))))) : q_W β xs L (d + 1) 55 70 [.ref 38, .int i1, .int i2, .int i3, v4] [] (G, I, J) Q := by
  refine w_il f_55_70 rfl ?_
  refine w_al f_55_71 rfl ?_
  refine w_gr f_55_72 rfl (hR _ _ _ rfl) ?_
  refine w_gi f_55_75 rfl ?_
  refine w_icge f_55_78 (fun c => ?_) (fun c => ?_)
  · have H := H.1 c
    exact w_ret0 f_55_132 H
  · have H := H.2 c
    refine w_al f_55_81 rfl ?_
    refine w_gr f_55_82 rfl (hR _ _ _ rfl) ?_
    refine w_il f_55_85 rfl ?_
    refine w_il f_55_86 rfl ?_
    refine w_inv (as := [.ref 34, .int i1, .int i3, .retAddr 0]) (st' := []) f_55_87 rfl rfl rfl rfl rfl rfl H (k_i (fun y1 G1 I1 J1 H => ?_)) (x_n (fun _ => rfl) rfl (fun x h' h => h))
    have hR1 := H.1
    have H := H.2
    refine w_is (ls' := [.ref 38, .int i1, .int i2, .int i3, .int y1]) f_55_90 rfl ?_
    refine w_il f_55_92 rfl ?_
    refine w_il f_55_94 rfl ?_
    refine w_icgt f_55_95 (fun c => ?_) (fun c => ?_)
    · have H := H.1 c
      exact H
    · have H := H.2 c
      refine w_al f_55_98 rfl ?_
      refine w_gr f_55_99 rfl (hR1 _ _ _ rfl) ?_
      refine w_il f_55_102 rfl ?_
      refine w_al f_55_103 rfl ?_
      refine w_gr f_55_104 rfl (hR1 _ _ _ rfl) ?_
      refine w_gi f_55_107 rfl ?_
      refine w_inv (as := [.ref 7, .int i3, .int (I1 34 6)]) (st' := []) f_55_110 rfl rfl rfl rfl rfl rfl H (k_i (fun y2 G2 I2 J2 H => ?_)) (x_n (fun _ => rfl) rfl (fun x h' h => h))
      have hR2 := H.1
      have H := H.2
      refine w_ifeq f_55_113 (fun c => ?_) (fun c => ?_)
      · have H := H.1 c
        exact H
      · have H := H.2 c
        refine w_al f_55_116 rfl ?_
        refine w_gr f_55_117 rfl (hR2 _ _ _ rfl) ?_
        refine w_il f_55_120 rfl ?_
        refine w_il f_55_121 rfl ?_
        refine w_inv (as := [.ref 39, .int i3, .int y1]) (st' := []) f_55_123 rfl rfl rfl rfl rfl rfl H (k_v (fun G3 I3 J3 H => ?_)) (x_n (fun _ => rfl) rfl (fun x h' h => h))
        exact H
theorem g_55_126 {d : Nat} {G : am_G} {I : Nat → Nat → Int32} {J : Nat → Nat → Int64} {Q : am_O → am_H → Prop} (hR : q_RT G) (i1 : Int32) (i2 : Int32) (i3 : Int32) (i4 : Int32) (H : q_W β xs L (d + 1) 55 70 [.ref 38, .int i1, .int i2, .int (i3 + 1), .int i4] [] (G, I, J) Q) : q_W β xs L (d + 1) 55 126 [.ref 38, .int i1, .int i2, .int i3, .int i4] [] (G, I, J) Q := by
  refine w_iinc (ls' := [.ref 38, .int i1, .int i2, .int (i3 + 1), .int i4]) f_55_126 rfl rfl ?_
  refine w_go f_55_129 ?_
  exact H
theorem g_56_0 {d : Nat} {G : am_G} {I : Nat → Nat → Int32} {J : Nat → Nat → Int64} {Q : am_O → am_H → Prop} (hR : q_RT G) (i1 : Int32) (H : q_W β xs L d 2 0 [.ref 16, .int (I 38 18), .int (I 41 0), .retAddr 0, .retAddr 0, .retAddr 0, .retAddr 0] [] (G, I, J) (q_Ri (fun y1 G1 I1 J1 => ((¬ ((y1 >>> (i1 &&& 31)) &&& 1) = 1 → q_W β xs L (d + 1) 56 33 [.ref 38, .int i1, .int y1, .retAddr 0] [.int 0] (G1, I1, J1) Q) ∧ (((y1 >>> (i1 &&& 31)) &&& 1) = 1 → q_W β xs L (d + 1) 56 33 [.ref 38, .int i1, .int y1, .retAddr 0] [.int 1] (G1, I1, J1) Q))) (fun x1 G1 I1 J1 => Q (.inr x1) (G1, I1, J1)))) : q_W β xs L (d + 1) 56 0 [.ref 38, .int i1, .retAddr 0, .retAddr 0] [] (G, I, J) Q := by
  refine w_al f_56_0 rfl ?_
  refine w_gr f_56_1 rfl (hR _ _ _ rfl) ?_
  refine w_al f_56_4 rfl ?_
  refine w_gi f_56_5 rfl ?_
  refine w_al f_56_8 rfl ?_
  refine w_gr f_56_9 rfl (hR _ _ _ rfl) ?_
  refine w_gi f_56_12 rfl ?_
  refine w_inv (as := [.ref 16, .int (I 38 18), .int (I 41 0), .retAddr 0, .retAddr 0, .retAddr 0, .retAddr 0]) (st' := []) f_56_15 rfl rfl rfl rfl rfl rfl H (k_i (fun y1 G1 I1 J1 H => ?_)) (x_n (fun _ => rfl) rfl (fun x h' h => h))
  refine w_is (ls' := [.ref 38, .int i1, .int y1, .retAddr 0]) f_56_18 rfl ?_
  refine w_il f_56_19 rfl ?_
  refine w_il f_56_20 rfl ?_
  refine w_bin f_56_21 ?_
  refine w_ic f_56_22 ?_
  refine w_bin f_56_23 ?_
  refine w_ic f_56_24 ?_
  refine w_icne f_56_25 (fun c => ?_) (fun c => ?_)
  · have H := H.1 c
    refine w_ic f_56_32 ?_
    exact H
  · have H := H.2 c
    refine w_ic f_56_28 ?_
    refine w_go f_56_29 ?_
    exact H
theorem g_56_33 {d : Nat} {G : am_G} {I : Nat → Nat → Int32} {J : Nat → Nat → Int64} {Q : am_O → am_H → Prop} (hR : q_RT G) (i1 : Int32) (i2 : Int32) (is0 : Int32) (H : (am_is i1 12 = true ∧ ((is0 = 0 → q_W β xs L (d + 1) 56 89 [.ref 38, .int i1, .int i2, .int is0] [.int 0, .ref 41] (G, (am_u (am_u (am_u I 41 1 6) 41 2 (-1)) 41 3 (I 17 (i1).toNatClampNeg)), J) Q) ∧ (¬ is0 = 0 → q_W β xs L d 3 0 [.ref 16, .int i2, .int 6, .retAddr 0, .retAddr 0] [] (G, (am_u (am_u (am_u I 41 1 6) 41 2 (-1)) 41 3 (I 17 (i1).toNatClampNeg)), J) (q_Ri (fun y1 G1 I1 J1 => q_W β xs L (d + 1) 56 89 [.ref 38, .int i1, .int i2, .int is0] [.int y1, .ref 41] (G1, I1, J1) Q) (fun x1 G1 I1 J1 => Q (.inr x1) (G1, I1, J1))))))) : q_W β xs L (d + 1) 56 33 [.ref 38, .int i1, .int i2, .retAddr 0] [.int is0] (G, I, J) Q := by
  refine w_is (ls' := [.ref 38, .int i1, .int i2, .int is0]) f_56_33 rfl ?_
  refine w_al f_56_34 rfl ?_
  refine w_gr f_56_35 rfl (hR _ _ _ rfl) ?_
  refine w_ic f_56_38 ?_
  refine w_pi f_56_40 rfl ?_
  refine w_al f_56_43 rfl ?_
  refine w_gr f_56_44 rfl (hR _ _ _ rfl) ?_
  refine w_ic f_56_47 ?_
  refine w_pi f_56_48 rfl ?_
  refine w_al f_56_51 rfl ?_
  refine w_gr f_56_52 rfl (hR _ _ _ rfl) ?_
  refine w_al f_56_55 rfl ?_
  refine w_gr f_56_56 rfl (hR _ _ _ rfl) ?_
  refine w_gr f_56_59 rfl (hR _ _ _ rfl) ?_
  refine w_il f_56_62 rfl ?_
  have hb := H.1
  have H := H.2
  refine w_ald' f_56_63 rfl hb ((am_u_ne (Or.inl (by decide))).trans (am_u_ne (Or.inl (by decide)))) ?_
  refine w_pi f_56_64 rfl ?_
  refine w_al f_56_67 rfl ?_
  refine w_gr f_56_68 rfl (hR _ _ _ rfl) ?_
  refine w_il f_56_71 rfl ?_
  refine w_ifeq f_56_72 (fun c => ?_) (fun c => ?_)
  · have H := H.1 c
    refine w_ic f_56_88 ?_
    exact H
  · have H := H.2 c
    refine w_al f_56_75 rfl ?_
    refine w_gr f_56_76 rfl (hR _ _ _ rfl) ?_
    refine w_il f_56_79 rfl ?_
    refine w_ic f_56_80 ?_
    refine w_inv (as := [.ref 16, .int i2, .int 6, .retAddr 0, .retAddr 0]) (st' := [.ref 41]) f_56_82 rfl rfl rfl rfl rfl rfl H (k_i (fun y1 G1 I1 J1 H => ?_)) (x_n (fun _ => rfl) rfl (fun x h' h => h))
    refine w_go f_56_85 ?_
    exact H
theorem g_56_89 {d : Nat} {G : am_G} {I : Nat → Nat → Int32} {J : Nat → Nat → Int64} {Q : am_O → am_H → Prop} (hR : q_RT G) (i1 : Int32) (i2 : Int32) (i3 : Int32) (is0 : Int32) (H : (am_is i1 12 = true ∧ (am_is i1 12 = true ∧ Q (.inl none) (G, (am_u (am_u (am_u (am_u (am_u I 41 5 is0) 41 6 (-1)) 41 7 (-1)) 41 10 (I 17 (i1).toNatClampNeg)) 41 11 (I 17 (i1).toNatClampNeg)), J)))) : q_W β xs L (d + 1) 56 89 [.ref 38, .int i1, .int i2, .int i3] [.int is0, .ref 41] (G, I, J) Q := by
  refine w_pi f_56_89 rfl ?_
  refine w_al f_56_92 rfl ?_
  refine w_gr f_56_93 rfl (hR _ _ _ rfl) ?_
  refine w_ic f_56_96 ?_
  refine w_pi f_56_97 rfl ?_
  refine w_al f_56_100 rfl ?_
  refine w_gr f_56_101 rfl (hR _ _ _ rfl) ?_
  refine w_ic f_56_104 ?_
  refine w_pi f_56_105 rfl ?_
  refine w_al f_56_108 rfl ?_
  refine w_gr f_56_109 rfl (hR _ _ _ rfl) ?_
  refine w_al f_56_112 rfl ?_
  refine w_gr f_56_113 rfl (hR _ _ _ rfl) ?_
  refine w_gr f_56_116 rfl (hR _ _ _ rfl) ?_
  refine w_il f_56_119 rfl ?_
  have hb := H.1
  have H := H.2
  refine w_ald' f_56_120 rfl hb ((am_u_ne (Or.inl (by decide))).trans ((am_u_ne (Or.inl (by decide))).trans (am_u_ne (Or.inl (by decide))))) ?_
  refine w_pi f_56_121 rfl ?_
  refine w_al f_56_124 rfl ?_
  refine w_gr f_56_125 rfl (hR _ _ _ rfl) ?_
  refine w_al f_56_128 rfl ?_
  refine w_gr f_56_129 rfl (hR _ _ _ rfl) ?_
  refine w_gr f_56_132 rfl (hR _ _ _ rfl) ?_
  refine w_il f_56_135 rfl ?_
  have hb := H.1
  have H := H.2
  refine w_ald' f_56_136 rfl hb ((am_u_ne (Or.inl (by decide))).trans ((am_u_ne (Or.inl (by decide))).trans ((am_u_ne (Or.inl (by decide))).trans (am_u_ne (Or.inl (by decide)))))) ?_
  refine w_pi f_56_137 rfl ?_
  exact w_ret0 f_56_140 H
theorem g_57_0 {d : Nat} {G : am_G} {I : Nat → Nat → Int32} {J : Nat → Nat → Int64} {Q : am_O → am_H → Prop} (hR : q_RT G) (i1 : Int32) (H : (am_is i1 100 = true ∧ (am_is i1 100 = true ∧ ((¬ (I 8 (i1).toNatClampNeg) = 1 → (am_is i1 100 = true ∧ q_W β xs L (d + 1) 57 56 [.ref 38, .int i1, .int (I 8 (i1).toNatClampNeg)] [.int (I 10 (i1).toNatClampNeg), .ref 41] (G, (am_u (am_u I 41 1 (I 8 (i1).toNatClampNeg)) 41 2 (I 11 (i1).toNatClampNeg)), J) Q)) ∧ ((I 8 (i1).toNatClampNeg) = 1 → q_W β xs L (d + 1) 57 56 [.ref 38, .int i1, .int (I 8 (i1).toNatClampNeg)] [.int (-1), .ref 41] (G, (am_u (am_u I 41 1 (I 8 (i1).toNatClampNeg)) 41 2 (I 11 (i1).toNatClampNeg)), J) Q))))) : q_W β xs L (d + 1) 57 0 [.ref 38, .int i1, .retAddr 0] [] (G, I, J) Q := by
  refine w_al f_57_0 rfl ?_
  refine w_gr f_57_1 rfl (hR _ _ _ rfl) ?_
  refine w_gr f_57_4 rfl (hR _ _ _ rfl) ?_
  refine w_il f_57_7 rfl ?_
  have hb := H.1
  have H := H.2
  refine w_ald f_57_8 rfl hb ?_
  refine w_is (ls' := [.ref 38, .int i1, .int (I 8 (i1).toNatClampNeg)]) f_57_9 rfl ?_
  refine w_al f_57_10 rfl ?_
  refine w_gr f_57_11 rfl (hR _ _ _ rfl) ?_
  refine w_il f_57_14 rfl ?_
  refine w_pi f_57_15 rfl ?_
  refine w_al f_57_18 rfl ?_
  refine w_gr f_57_19 rfl (hR _ _ _ rfl) ?_
  refine w_al f_57_22 rfl ?_
  refine w_gr f_57_23 rfl (hR _ _ _ rfl) ?_
  refine w_gr f_57_26 rfl (hR _ _ _ rfl) ?_
  refine w_il f_57_29 rfl ?_
  have hb := H.1
  have H := H.2
  refine w_ald' f_57_30 rfl hb (am_u_ne (Or.inl (by decide))) ?_
  refine w_pi f_57_31 rfl ?_
  refine w_al f_57_34 rfl ?_
  refine w_gr f_57_35 rfl (hR _ _ _ rfl) ?_
  refine w_il f_57_38 rfl ?_
  refine w_ic f_57_39 ?_
  refine w_icne f_57_40 (fun c => ?_) (fun c => ?_)
  · have H := H.1 c
    refine w_al f_57_47 rfl ?_
    refine w_gr f_57_48 rfl (hR _ _ _ rfl) ?_
    refine w_gr f_57_51 rfl (hR _ _ _ rfl) ?_
    refine w_il f_57_54 rfl ?_
    have hb := H.1
    have H := H.2
    refine w_ald' f_57_55 rfl hb ((am_u_ne (Or.inl (by decide))).trans (am_u_ne (Or.inl (by decide)))) ?_
    exact H
  · have H := H.2 c
    refine w_ic f_57_43 ?_
    refine w_go f_57_44 ?_
    exact H
theorem g_57_56 {d : Nat} {G : am_G} {I : Nat → Nat → Int32} {J : Nat → Nat → Int64} {Q : am_O → am_H → Prop} (hR : q_RT G) (i1 : Int32) (i2 : Int32) (is0 : Int32) (H : ((¬ i2 = 6 → q_W β xs L d 2 0 [.ref 16, .int (I 38 18), .int (I 41 0), .retAddr 0, .retAddr 0, .retAddr 0, .retAddr 0] [] (G, (am_u I 41 3 is0), J) (q_Ri (fun y1 G1 I1 J1 => q_W β xs L d 3 0 [.ref 16, .int y1, .int i2, .retAddr 0, .retAddr 0] [] (G1, I1, J1) (q_Ri (fun y2 G2 I2 J2 => q_W β xs L (d + 1) 57 99 [.ref 38, .int i1, .int i2] [.int y2, .ref 41] (G2, I2, J2) Q) (fun x2 G2 I2 J2 => Q (.inr x2) (G2, I2, J2)))) (fun x1 G1 I1 J1 => Q (.inr x1) (G1, I1, J1)))) ∧ (i2 = 6 → q_W β xs L (d + 1) 57 99 [.ref 38, .int i1, .int i2] [.int 0, .ref 41] (G, (am_u I 41 3 is0), J) Q))) : q_W β xs L (d + 1) 57 56 [.ref 38, .int i1, .int i2] [.int is0, .ref 41] (G, I, J) Q := by
  refine w_pi f_57_56 rfl ?_
  refine w_al f_57_59 rfl ?_
  refine w_gr f_57_60 rfl (hR _ _ _ rfl) ?_
  refine w_il f_57_63 rfl ?_
  refine w_ic f_57_64 ?_
  refine w_icne f_57_66 (fun c => ?_) (fun c => ?_)
  · have H := H.1 c
    refine w_al f_57_73 rfl ?_
    refine w_gr f_57_74 rfl (hR _ _ _ rfl) ?_
    refine w_al f_57_77 rfl ?_
    refine w_gr f_57_78 rfl (hR _ _ _ rfl) ?_
    refine w_al f_57_81 rfl ?_
    refine w_gi' f_57_82 rfl (am_u_ne (Or.inl (by decide))) ?_
    refine w_al f_57_85 rfl ?_
    refine w_gr f_57_86 rfl (hR _ _ _ rfl) ?_
    refine w_gi' f_57_89 rfl (am_u_ne (Or.inr (by decide))) ?_
    refine w_inv (as := [.ref 16, .int (I 38 18), .int (I 41 0), .retAddr 0, .retAddr 0, .retAddr 0, .retAddr 0]) (st' := [.ref 16, .ref 41]) f_57_92 rfl rfl rfl rfl rfl rfl H (k_i (fun y1 G1 I1 J1 H => ?_)) (x_n (fun _ => rfl) rfl (fun x h' h => h))
    refine w_il f_57_95 rfl ?_
    refine w_inv (as := [.ref 16, .int y1, .int i2, .retAddr 0, .retAddr 0]) (st' := [.ref 41]) f_57_96 rfl rfl rfl rfl rfl rfl H (k_i (fun y2 G2 I2 J2 H => ?_)) (x_n (fun _ => rfl) rfl (fun x h' h => h))
    exact H
  · have H := H.2 c
    refine w_ic f_57_69 ?_
    refine w_go f_57_70 ?_
    exact H
theorem g_57_99 {d : Nat} {G : am_G} {I : Nat → Nat → Int32} {J : Nat → Nat → Int64} {Q : am_O → am_H → Prop} (hR : q_RT G) (i1 : Int32) (i2 : Int32) (is0 : Int32) (H : (am_is i1 100 = true ∧ ((¬ i2 = 1 → q_W β xs L (d + 1) 57 140 [.ref 38, .int i1, .int i2] [.int (-1), .ref 41] (G, (am_u (am_u I 41 5 is0) 41 6 (I 9 (i1).toNatClampNeg)), J) Q) ∧ (i2 = 1 → (am_is i1 100 = true ∧ q_W β xs L (d + 1) 57 140 [.ref 38, .int i1, .int i2] [.int (I 10 (i1).toNatClampNeg), .ref 41] (G, (am_u (am_u I 41 5 is0) 41 6 (I 9 (i1).toNatClampNeg)), J) Q))))) : q_W β xs L (d + 1) 57 99 [.ref 38, .int i1, .int i2] [.int is0, .ref 41] (G, I, J) Q := by
  refine w_pi f_57_99 rfl ?_
  refine w_al f_57_102 rfl ?_
  refine w_gr f_57_103 rfl (hR _ _ _ rfl) ?_
  refine w_al f_57_106 rfl ?_
  refine w_gr f_57_107 rfl (hR _ _ _ rfl) ?_
  refine w_gr f_57_110 rfl (hR _ _ _ rfl) ?_
  refine w_il f_57_113 rfl ?_
  have hb := H.1
  have H := H.2
  refine w_ald' f_57_114 rfl hb (am_u_ne (Or.inl (by decide))) ?_
  refine w_pi f_57_115 rfl ?_
  refine w_al f_57_118 rfl ?_
  refine w_gr f_57_119 rfl (hR _ _ _ rfl) ?_
  refine w_il f_57_122 rfl ?_
  refine w_ic f_57_123 ?_
  refine w_icne f_57_124 (fun c => ?_) (fun c => ?_)
  · have H := H.1 c
    refine w_ic f_57_139 ?_
    exact H
  · have H := H.2 c
    refine w_al f_57_127 rfl ?_
    refine w_gr f_57_128 rfl (hR _ _ _ rfl) ?_
    refine w_gr f_57_131 rfl (hR _ _ _ rfl) ?_
    refine w_il f_57_134 rfl ?_
    have hb := H.1
    have H := H.2
    refine w_ald' f_57_135 rfl hb ((am_u_ne (Or.inl (by decide))).trans (am_u_ne (Or.inl (by decide)))) ?_
    refine w_go f_57_136 ?_
    exact H
theorem g_57_140 {d : Nat} {G : am_G} {I : Nat → Nat → Int32} {J : Nat → Nat → Int64} {Q : am_O → am_H → Prop} (hR : q_RT G) (i1 : Int32) (i2 : Int32) (is0 : Int32) (H : ((¬ i2 = 0 → ((¬ i2 = 1 → ((¬ i2 = 5 → ((¬ i2 = 6 → q_W β xs L (d + 1) 57 301 [.ref 38, .int i1, .int i2] [] (G, (am_u (am_u (am_u I 41 7 is0) 41 10 0) 41 11 ((I 1 2) - 1)), J) Q) ∧ (i2 = 6 → (am_is (I 41 6) 20 = true ∧ (am_is (I 41 6) 20 = true ∧ q_W β xs L (d + 1) 57 301 [.ref 38, .int i1, .int i2] [] (G, (am_u (am_u (am_u (am_u (am_u I 41 7 is0) 41 10 0) 41 11 ((I 1 2) - 1)) 51 ((I 41 6)).toNatClampNeg (I 41 2)) 52 ((I 41 6)).toNatClampNeg (I 41 0)), J) Q))))) ∧ (i2 = 5 → (am_is (I 41 2) 12 = true ∧ (am_is (I 41 2) 12 = true ∧ q_W β xs L (d + 1) 57 301 [.ref 38, .int i1, .int i2] [] (G, (am_u (am_u (am_u (am_u (am_u I 41 7 is0) 41 10 0) 41 11 ((I 1 2) - 1)) 53 ((I 41 2)).toNatClampNeg (I 41 3)) 54 ((I 41 2)).toNatClampNeg (I 41 0)), J) Q))))) ∧ (i2 = 1 → q_W β xs L d 59 0 [.ref 38, .int (I 41 6), .int is0] [] (G, (am_u (am_u (am_u I 41 7 is0) 41 10 0) 41 11 ((I 1 2) - 1)), J) (q_Rv (fun G1 I1 J1 => q_W β xs L (d + 1) 57 301 [.ref 38, .int i1, .int i2] [] (G1, I1, J1) Q) (fun x1 G1 I1 J1 => Q (.inr x1) (G1, I1, J1)))))) ∧ (i2 = 0 → q_W β xs L d 58 0 [.ref 38, .int (I 41 6)] [] (G, (am_u (am_u (am_u I 41 7 is0) 41 10 0) 41 11 ((I 1 2) - 1)), J) (q_Rv (fun G2 I2 J2 => q_W β xs L (d + 1) 57 301 [.ref 38, .int i1, .int i2] [] (G2, I2, J2) Q) (fun x2 G2 I2 J2 => Q (.inr x2) (G2, I2, J2)))))) : q_W β xs L (d + 1) 57 140 [.ref 38, .int i1, .int i2] [.int is0, .ref 41] (G, I, J) Q := by
  refine w_pi f_57_140 rfl ?_
  refine w_al f_57_143 rfl ?_
  refine w_gr f_57_144 rfl (hR _ _ _ rfl) ?_
  refine w_ic f_57_147 ?_
  refine w_pi f_57_148 rfl ?_
  refine w_al f_57_151 rfl ?_
  refine w_gr f_57_152 rfl (hR _ _ _ rfl) ?_
  refine w_al f_57_155 rfl ?_
  refine w_gr f_57_156 rfl (hR _ _ _ rfl) ?_
  refine w_gi' f_57_159 rfl ((am_u_ne (Or.inl (by decide))).trans (am_u_ne (Or.inl (by decide)))) ?_
  refine w_ic f_57_162 ?_
  refine w_bin f_57_163 ?_
  refine w_pi f_57_164 rfl ?_
  refine w_il f_57_167 rfl ?_
  refine w_ifne f_57_168 (fun c => ?_) (fun c => ?_)
  · have H := H.1 c
    refine w_il f_57_185 rfl ?_
    refine w_ic f_57_186 ?_
    refine w_icne f_57_187 (fun c => ?_) (fun c => ?_)
    · have H := H.1 c
      refine w_il f_57_211 rfl ?_
      refine w_ic f_57_212 ?_
      refine w_icne f_57_213 (fun c => ?_) (fun c => ?_)
      · have H := H.1 c
        refine w_il f_57_257 rfl ?_
        refine w_ic f_57_258 ?_
        refine w_icne f_57_260 (fun c => ?_) (fun c => ?_)
        · have H := H.1 c
          exact H
        · have H := H.2 c
          refine w_al f_57_263 rfl ?_
          refine w_gr f_57_264 rfl (hR _ _ _ rfl) ?_
          refine w_al f_57_267 rfl ?_
          refine w_gr f_57_268 rfl (hR _ _ _ rfl) ?_
          refine w_gi' f_57_271 rfl ((am_u_ne (Or.inr (by decide))).trans ((am_u_ne (Or.inr (by decide))).trans (am_u_ne (Or.inr (by decide))))) ?_
          refine w_al f_57_274 rfl ?_
          refine w_gr f_57_275 rfl (hR _ _ _ rfl) ?_
          refine w_gi' f_57_278 rfl ((am_u_ne (Or.inr (by decide))).trans ((am_u_ne (Or.inr (by decide))).trans (am_u_ne (Or.inr (by decide))))) ?_
          have hb := H.1
          have H := H.2
          refine w_ast f_57_281 rfl hb ?_
          refine w_al f_57_282 rfl ?_
          refine w_gr f_57_283 rfl (hR _ _ _ rfl) ?_
          refine w_al f_57_286 rfl ?_
          refine w_gr f_57_287 rfl (hR _ _ _ rfl) ?_
          refine w_gi' f_57_290 rfl ((am_u_ne (Or.inl (by decide))).trans ((am_u_ne (Or.inr (by decide))).trans ((am_u_ne (Or.inr (by decide))).trans (am_u_ne (Or.inr (by decide)))))) ?_
          refine w_al f_57_293 rfl ?_
          refine w_gr f_57_294 rfl (hR _ _ _ rfl) ?_
          refine w_gi' f_57_297 rfl ((am_u_ne (Or.inl (by decide))).trans ((am_u_ne (Or.inr (by decide))).trans ((am_u_ne (Or.inr (by decide))).trans (am_u_ne (Or.inr (by decide)))))) ?_
          have hb := H.1
          have H := H.2
          refine w_ast f_57_300 rfl hb ?_
          exact H
      · have H := H.2 c
        refine w_al f_57_216 rfl ?_
        refine w_gr f_57_217 rfl (hR _ _ _ rfl) ?_
        refine w_al f_57_220 rfl ?_
        refine w_gr f_57_221 rfl (hR _ _ _ rfl) ?_
        refine w_gi' f_57_224 rfl ((am_u_ne (Or.inr (by decide))).trans ((am_u_ne (Or.inr (by decide))).trans (am_u_ne (Or.inr (by decide))))) ?_
        refine w_al f_57_227 rfl ?_
        refine w_gr f_57_228 rfl (hR _ _ _ rfl) ?_
        refine w_gi' f_57_231 rfl ((am_u_ne (Or.inr (by decide))).trans ((am_u_ne (Or.inr (by decide))).trans (am_u_ne (Or.inr (by decide))))) ?_
        have hb := H.1
        have H := H.2
        refine w_ast f_57_234 rfl hb ?_
        refine w_al f_57_235 rfl ?_
        refine w_gr f_57_236 rfl (hR _ _ _ rfl) ?_
        refine w_al f_57_239 rfl ?_
        refine w_gr f_57_240 rfl (hR _ _ _ rfl) ?_
        refine w_gi' f_57_243 rfl ((am_u_ne (Or.inl (by decide))).trans ((am_u_ne (Or.inr (by decide))).trans ((am_u_ne (Or.inr (by decide))).trans (am_u_ne (Or.inr (by decide)))))) ?_
        refine w_al f_57_246 rfl ?_
        refine w_gr f_57_247 rfl (hR _ _ _ rfl) ?_
        refine w_gi' f_57_250 rfl ((am_u_ne (Or.inl (by decide))).trans ((am_u_ne (Or.inr (by decide))).trans ((am_u_ne (Or.inr (by decide))).trans (am_u_ne (Or.inr (by decide)))))) ?_
        have hb := H.1
        have H := H.2
        refine w_ast f_57_253 rfl hb ?_
        refine w_go f_57_254 ?_
        exact H
    · have H := H.2 c
      refine w_al f_57_190 rfl ?_
      refine w_al f_57_191 rfl ?_
      refine w_gr f_57_192 rfl (hR _ _ _ rfl) ?_
      refine w_gi' f_57_195 rfl ((am_u_ne (Or.inr (by decide))).trans ((am_u_ne (Or.inr (by decide))).trans (am_u_ne (Or.inr (by decide))))) ?_
      refine w_al f_57_198 rfl ?_
      refine w_gr f_57_199 rfl (hR _ _ _ rfl) ?_
      refine w_gi' f_57_202 rfl ((am_u_ne (Or.inr (by decide))).trans ((am_u_ne (Or.inr (by decide))).trans (am_u_same))) ?_
      refine w_inv (as := [.ref 38, .int (I 41 6), .int is0]) (st' := []) f_57_205 rfl rfl rfl rfl rfl rfl H (k_v (fun G1 I1 J1 H => ?_)) (x_n (fun _ => rfl) rfl (fun x h' h => h))
      refine w_go f_57_208 ?_
      exact H
  · have H := H.2 c
    refine w_al f_57_171 rfl ?_
    refine w_al f_57_172 rfl ?_
    refine w_gr f_57_173 rfl (hR _ _ _ rfl) ?_
    refine w_gi' f_57_176 rfl ((am_u_ne (Or.inr (by decide))).trans ((am_u_ne (Or.inr (by decide))).trans (am_u_ne (Or.inr (by decide))))) ?_
    refine w_inv (as := [.ref 38, .int (I 41 6)]) (st' := []) f_57_179 rfl rfl rfl rfl rfl rfl H (k_v (fun G2 I2 J2 H => ?_)) (x_n (fun _ => rfl) rfl (fun x h' h => h))
    refine w_go f_57_182 ?_
    exact H
theorem g_57_301 {d : Nat} {G : am_G} {I : Nat → Nat → Int32} {J : Nat → Nat → Int64} {Q : am_O → am_H → Prop} (hR : q_RT G) (i1 : Int32) (i2 : Int32) (H : Q (.inl none) (G, I, J)) : q_W β xs L (d + 1) 57 301 [.ref 38, .int i1, .int i2] [] (G, I, J) Q := by
  exact w_ret0 f_57_301 H
theorem g_58_0 {d : Nat} {G : am_G} {I : Nat → Nat → Int32} {J : Nat → Nat → Int64} {Q : am_O → am_H → Prop} (hR : q_RT G) (i1 : Int32) (H : (am_is i1 20 = true ∧ (((I 48 (i1).toNatClampNeg) = (-1) → (am_is i1 20 = true ∧ (am_is i1 20 = true ∧ Q (.inl none) (G, (am_u (am_u I 48 (i1).toNatClampNeg (I 41 0)) 49 (i1).toNatClampNeg (I 41 2)), J)))) ∧ (¬ (I 48 (i1).toNatClampNeg) = (-1) → Q (.inl none) (G, (am_u I 41 5 0), J))))) : q_W β xs L d 58 0 [.ref 38, .int i1] [] (G, I, J) Q := by
  refine w_al f_58_0 rfl ?_
  refine w_gr f_58_1 rfl (hR _ _ _ rfl) ?_
  refine w_il f_58_4 rfl ?_
  have hb := H.1
  have H := H.2
  refine w_ald f_58_5 rfl hb ?_
  refine w_ic f_58_6 ?_
  refine w_iceq f_58_7 (fun c => ?_) (fun c => ?_)
  · have H := H.1 c
    refine w_al f_58_19 rfl ?_
    refine w_gr f_58_20 rfl (hR _ _ _ rfl) ?_
    refine w_il f_58_23 rfl ?_
    refine w_al f_58_24 rfl ?_
    refine w_gr f_58_25 rfl (hR _ _ _ rfl) ?_
    refine w_gi f_58_28 rfl ?_
    have hb := H.1
    have H := H.2
    refine w_ast f_58_31 rfl hb ?_
    refine w_al f_58_32 rfl ?_
    refine w_gr f_58_33 rfl (hR _ _ _ rfl) ?_
    refine w_il f_58_36 rfl ?_
    refine w_al f_58_37 rfl ?_
    refine w_gr f_58_38 rfl (hR _ _ _ rfl) ?_
    refine w_gi' f_58_41 rfl (am_u_ne (Or.inl (by decide))) ?_
    have hb := H.1
    have H := H.2
    refine w_ast f_58_44 rfl hb ?_
    exact w_ret0 f_58_45 H
  · have H := H.2 c
    refine w_al f_58_10 rfl ?_
    refine w_gr f_58_11 rfl (hR _ _ _ rfl) ?_
    refine w_ic f_58_14 ?_
    refine w_pi f_58_15 rfl ?_
    exact w_ret0 f_58_18 H
theorem g_59_0 {d : Nat} {G : am_G} {I : Nat → Nat → Int32} {J : Nat → Nat → Int64} {Q : am_O → am_H → Prop} (hR : q_RT G) (i1 : Int32) (i2 : Int32) (H : (am_is i1 20 = true ∧ (am_is i2 20 = true ∧ (am_is i1 20 = true ∧ (am_is i2 20 = true ∧ Q (.inl none) (G, (am_u (am_u (am_u (am_u I 50 (i1).toNatClampNeg i2) 50 (i2).toNatClampNeg i1) 41 8 (I 47 (i1).toNatClampNeg)) 41 9 (I 47 (i2).toNatClampNeg)), J)))))) : q_W β xs L d 59 0 [.ref 38, .int i1, .int i2] [] (G, I, J) Q := by
  refine w_al f_59_0 rfl ?_
  refine w_gr f_59_1 rfl (hR _ _ _ rfl) ?_
  refine w_il f_59_4 rfl ?_
  refine w_il f_59_5 rfl ?_
  have hb := H.1
  have H := H.2
  refine w_ast f_59_6 rfl hb ?_
  refine w_al f_59_7 rfl ?_
  refine w_gr f_59_8 rfl (hR _ _ _ rfl) ?_
  refine w_il f_59_11 rfl ?_
  refine w_il f_59_12 rfl ?_
  have hb := H.1
  have H := H.2
  refine w_ast f_59_13 rfl hb ?_
  refine w_al f_59_14 rfl ?_
  refine w_gr f_59_15 rfl (hR _ _ _ rfl) ?_
  refine w_al f_59_18 rfl ?_
  refine w_gr f_59_19 rfl (hR _ _ _ rfl) ?_
  refine w_il f_59_22 rfl ?_
  have hb := H.1
  have H := H.2
  refine w_ald' f_59_23 rfl hb ((am_u_ne (Or.inl (by decide))).trans (am_u_ne (Or.inl (by decide)))) ?_
  refine w_pi f_59_24 rfl ?_
  refine w_al f_59_27 rfl ?_
  refine w_gr f_59_28 rfl (hR _ _ _ rfl) ?_
  refine w_al f_59_31 rfl ?_
  refine w_gr f_59_32 rfl (hR _ _ _ rfl) ?_
  refine w_il f_59_35 rfl ?_
  have hb := H.1
  have H := H.2
  refine w_ald' f_59_36 rfl hb ((am_u_ne (Or.inl (by decide))).trans ((am_u_ne (Or.inl (by decide))).trans (am_u_ne (Or.inl (by decide))))) ?_
  refine w_pi f_59_37 rfl ?_
  exact w_ret0 f_59_40 H
theorem g_60_0 {d : Nat} {G : am_G} {I : Nat → Nat → Int32} {J : Nat → Nat → Int64} {Q : am_O → am_H → Prop} (hR : q_RT G)  (H : ((¬ (I 41 5) = 0 → ((¬ (I 41 6) = (-1) → ((¬ (I 41 7) = (-1) → q_W β xs L d 60 47 [.ref 38] [.int 2] (G, I, J) Q) ∧ ((I 41 7) = (-1) → q_W β xs L d 60 47 [.ref 38] [.int 1] (G, I, J) Q))) ∧ ((I 41 6) = (-1) → Q (.inl (some (.int (I 3 3)))) (G, I, J)))) ∧ ((I 41 5) = 0 → Q (.inl (some (.int 0))) (G, I, J)))) : q_W β xs L d 60 0 [.ref 38] [] (G, I, J) Q := by
  refine w_al f_60_0 rfl ?_
  refine w_gr f_60_1 rfl (hR _ _ _ rfl) ?_
  refine w_gi f_60_4 rfl ?_
  refine w_ifne f_60_7 (fun c => ?_) (fun c => ?_)
  · have H := H.1 c
    refine w_al f_60_12 rfl ?_
    refine w_gr f_60_13 rfl (hR _ _ _ rfl) ?_
    refine w_gi f_60_16 rfl ?_
    refine w_ic f_60_19 ?_
    refine w_icne f_60_20 (fun c => ?_) (fun c => ?_)
    · have H := H.1 c
      refine w_al f_60_31 rfl ?_
      refine w_gr f_60_32 rfl (hR _ _ _ rfl) ?_
      refine w_gi f_60_35 rfl ?_
      refine w_ic f_60_38 ?_
      refine w_icne f_60_39 (fun c => ?_) (fun c => ?_)
      · have H := H.1 c
        refine w_ic f_60_46 ?_
        exact H
      · have H := H.2 c
        refine w_ic f_60_42 ?_
        refine w_go f_60_43 ?_
        exact H
    · have H := H.2 c
      refine w_al f_60_23 rfl ?_
      refine w_gr f_60_24 rfl (hR _ _ _ rfl) ?_
      refine w_gi f_60_27 rfl ?_
      exact w_reti f_60_30 H
  · have H := H.2 c
    refine w_ic f_60_10 ?_
    exact w_reti f_60_11 H
theorem g_60_47 {d : Nat} {G : am_G} {I : Nat → Nat → Int32} {J : Nat → Nat → Int64} {Q : am_O → am_H → Prop} (hR : q_RT G) (is0 : Int32) (H : Q (.inl (some (.int is0))) (G, I, J)) : q_W β xs L d 60 47 [.ref 38] [.int is0] (G, I, J) Q := by
  exact w_reti f_60_47 H
theorem g_61_0 {d : Nat} {G : am_G} {I : Nat → Nat → Int32} {J : Nat → Nat → Int64} {Q : am_O → am_H → Prop} (hR : q_RT G) (i1 : Int32) (H : ((¬ (I 41 6) = (-1) → ((¬ i1 = 0 → q_W β xs L d 61 34 [.ref 38, .int i1] [.int (I 41 7)] (G, I, J) Q) ∧ (i1 = 0 → q_W β xs L d 61 34 [.ref 38, .int i1] [.int (I 41 6)] (G, I, J) Q))) ∧ ((I 41 6) = (-1) → Q (.inl (some (.int i1))) (G, I, J)))) : q_W β xs L d 61 0 [.ref 38, .int i1] [] (G, I, J) Q := by
  refine w_al f_61_0 rfl ?_
  refine w_gr f_61_1 rfl (hR _ _ _ rfl) ?_
  refine w_gi f_61_4 rfl ?_
  refine w_ic f_61_7 ?_
  refine w_icne f_61_8 (fun c => ?_) (fun c => ?_)
  · have H := H.1 c
    refine w_il f_61_13 rfl ?_
    refine w_ifne f_61_14 (fun c => ?_) (fun c => ?_)
    · have H := H.1 c
      refine w_al f_61_27 rfl ?_
      refine w_gr f_61_28 rfl (hR _ _ _ rfl) ?_
      refine w_gi f_61_31 rfl ?_
      exact H
    · have H := H.2 c
      refine w_al f_61_17 rfl ?_
      refine w_gr f_61_18 rfl (hR _ _ _ rfl) ?_
      refine w_gi f_61_21 rfl ?_
      refine w_go f_61_24 ?_
      exact H
  · have H := H.2 c
    refine w_il f_61_11 rfl ?_
    exact w_reti f_61_12 H
theorem g_61_34 {d : Nat} {G : am_G} {I : Nat → Nat → Int32} {J : Nat → Nat → Int64} {Q : am_O → am_H → Prop} (hR : q_RT G) (i1 : Int32) (is0 : Int32) (H : Q (.inl (some (.int is0))) (G, I, J)) : q_W β xs L d 61 34 [.ref 38, .int i1] [.int is0] (G, I, J) Q := by
  exact w_reti f_61_34 H
theorem g_62_0 {d : Nat} {G : am_G} {I : Nat → Nat → Int32} {J : Nat → Nat → Int64} {Q : am_O → am_H → Prop} (hR : q_RT G) (i1 : Int32) (H : q_W β xs L (d + 1) 62 8 [.ref 38, .int i1, .int (I 41 10)] [] (G, I, J) Q) : q_W β xs L (d + 1) 62 0 [.ref 38, .int i1, .retAddr 0] [] (G, I, J) Q := by
  refine w_al f_62_0 rfl ?_
  refine w_gr f_62_1 rfl (hR _ _ _ rfl) ?_
  refine w_gi f_62_4 rfl ?_
  refine w_is (ls' := [.ref 38, .int i1, .int (I 41 10)]) f_62_7 rfl ?_
  exact H
theorem g_62_8 {d : Nat} {G : am_G} {I : Nat → Nat → Int32} {J : Nat → Nat → Int64} {Q : am_O → am_H → Prop} (hR : q_RT G) (i1 : Int32) (i2 : Int32) (H : (((I 41 11) < i2 → q_W β xs L (d + 1) 62 42 [.ref 38, .int i1, .int i2] [] (G, I, J) Q) ∧ (¬ (I 41 11) < i2 → ((¬ i2 < 5 → q_W β xs L (d + 1) 62 42 [.ref 38, .int i1, .int i2] [] (G, I, J) Q) ∧ (i2 < 5 → q_W β xs L d 63 0 [.ref 38, .int i1, .int i2, .retAddr 0, .retAddr 0, .retAddr 0, .retAddr 0, .retAddr 0] [] (G, I, J) (q_Ri (fun y1 G1 I1 J1 => (am_is i2 5 = true ∧ q_W β xs L (d + 1) 62 8 [.ref 38, .int i1, .int (i2 + 1)] [] (G1, (am_u I1 55 (i2).toNatClampNeg y1), J1) Q)) (fun x1 G1 I1 J1 => Q (.inr x1) (G1, I1, J1)))))))) : q_W β xs L (d + 1) 62 8 [.ref 38, .int i1, .int i2] [] (G, I, J) Q := by
  refine w_il f_62_8 rfl ?_
  refine w_al f_62_9 rfl ?_
  refine w_gr f_62_10 rfl (hR _ _ _ rfl) ?_
  refine w_gi f_62_13 rfl ?_
  refine w_icgt f_62_16 (fun c => ?_) (fun c => ?_)
  · have H := H.1 c
    exact H
  · have H := H.2 c
    refine w_il f_62_19 rfl ?_
    refine w_ic f_62_20 ?_
    refine w_icge f_62_21 (fun c => ?_) (fun c => ?_)
    · have H := H.1 c
      exact H
    · have H := H.2 c
      refine w_al f_62_24 rfl ?_
      refine w_gr f_62_25 rfl (hR _ _ _ rfl) ?_
      refine w_il f_62_28 rfl ?_
      refine w_al f_62_29 rfl ?_
      refine w_il f_62_30 rfl ?_
      refine w_il f_62_31 rfl ?_
      refine w_inv (as := [.ref 38, .int i1, .int i2, .retAddr 0, .retAddr 0, .retAddr 0, .retAddr 0, .retAddr 0]) (st' := [.int i2, .ref 55]) f_62_32 rfl rfl rfl rfl rfl rfl H (k_i (fun y1 G1 I1 J1 H => ?_)) (x_n (fun _ => rfl) rfl (fun x h' h => h))
      have hb := H.1
      have H := H.2
      refine w_ast f_62_35 rfl hb ?_
      refine w_iinc (ls' := [.ref 38, .int i1, .int (i2 + 1)]) f_62_36 rfl rfl ?_
      refine w_go f_62_39 ?_
      exact H
theorem g_62_42 {d : Nat} {G : am_G} {I : Nat → Nat → Int32} {J : Nat → Nat → Int64} {Q : am_O → am_H → Prop} (hR : q_RT G) (i1 : Int32) (i2 : Int32) (H : q_W β xs L (d + 1) 62 50 [.ref 38, .int i1, .int (I 41 10)] [] (G, I, J) Q) : q_W β xs L (d + 1) 62 42 [.ref 38, .int i1, .int i2] [] (G, I, J) Q := by
  refine w_al f_62_42 rfl ?_
  refine w_gr f_62_43 rfl (hR _ _ _ rfl) ?_
  refine w_gi f_62_46 rfl ?_
  refine w_is (ls' := [.ref 38, .int i1, .int (I 41 10)]) f_62_49 rfl ?_
  exact H
theorem g_62_50 {d : Nat} {G : am_G} {I : Nat → Nat → Int32} {J : Nat → Nat → Int64} {Q : am_O → am_H → Prop} (hR : q_RT G) (i1 : Int32) (i2 : Int32) (H : (((I 41 11) < i2 → q_W β xs L (d + 1) 62 94 [.ref 38, .int i1, .int i2] [] (G, I, J) Q) ∧ (¬ (I 41 11) < i2 → ((¬ i2 < 5 → q_W β xs L (d + 1) 62 94 [.ref 38, .int i1, .int i2] [] (G, I, J) Q) ∧ (i2 < 5 → (am_is i2 5 = true ∧ (((I 55 (i2).toNatClampNeg) = (-1) → q_W β xs L (d + 1) 62 88 [.ref 38, .int i1, .int i2] [] (G, I, J) Q) ∧ (¬ (I 55 (i2).toNatClampNeg) = (-1) → (am_is i2 5 = true ∧ q_W β xs L d 67 0 [.ref 38, .int i1, .int i2, .int (I 55 (i2).toNatClampNeg), .retAddr 0, .retAddr 0, .retAddr 0, .retAddr 0, .retAddr 0] [] (G, I, J) (q_Rv (fun G1 I1 J1 => q_W β xs L (d + 1) 62 88 [.ref 38, .int i1, .int i2] [] (G1, I1, J1) Q) (fun x1 G1 I1 J1 => Q (.inr x1) (G1, I1, J1)))))))))))) : q_W β xs L (d + 1) 62 50 [.ref 38, .int i1, .int i2] [] (G, I, J) Q := by
  refine w_il f_62_50 rfl ?_
  refine w_al f_62_51 rfl ?_
  refine w_gr f_62_52 rfl (hR _ _ _ rfl) ?_
  refine w_gi f_62_55 rfl ?_
  refine w_icgt f_62_58 (fun c => ?_) (fun c => ?_)
  · have H := H.1 c
    exact H
  · have H := H.2 c
    refine w_il f_62_61 rfl ?_
    refine w_ic f_62_62 ?_
    refine w_icge f_62_63 (fun c => ?_) (fun c => ?_)
    · have H := H.1 c
      exact H
    · have H := H.2 c
      refine w_al f_62_66 rfl ?_
      refine w_gr f_62_67 rfl (hR _ _ _ rfl) ?_
      refine w_il f_62_70 rfl ?_
      have hb := H.1
      have H := H.2
      refine w_ald f_62_71 rfl hb ?_
      refine w_ic f_62_72 ?_
      refine w_iceq f_62_73 (fun c => ?_) (fun c => ?_)
      · have H := H.1 c
        exact H
      · have H := H.2 c
        refine w_al f_62_76 rfl ?_
        refine w_il f_62_77 rfl ?_
        refine w_il f_62_78 rfl ?_
        refine w_al f_62_79 rfl ?_
        refine w_gr f_62_80 rfl (hR _ _ _ rfl) ?_
        refine w_il f_62_83 rfl ?_
        have hb := H.1
        have H := H.2
        refine w_ald f_62_84 rfl hb ?_
        refine w_inv (as := [.ref 38, .int i1, .int i2, .int (I 55 (i2).toNatClampNeg), .retAddr 0, .retAddr 0, .retAddr 0, .retAddr 0, .retAddr 0]) (st' := []) f_62_85 rfl rfl rfl rfl rfl rfl H (k_v (fun G1 I1 J1 H => ?_)) (x_n (fun _ => rfl) rfl (fun x h' h => h))
        exact H
theorem g_62_88 {d : Nat} {G : am_G} {I : Nat → Nat → Int32} {J : Nat → Nat → Int64} {Q : am_O → am_H → Prop} (hR : q_RT G) (i1 : Int32) (i2 : Int32) (H : q_W β xs L (d + 1) 62 50 [.ref 38, .int i1, .int (i2 + 1)] [] (G, I, J) Q) : q_W β xs L (d + 1) 62 88 [.ref 38, .int i1, .int i2] [] (G, I, J) Q := by
  refine w_iinc (ls' := [.ref 38, .int i1, .int (i2 + 1)]) f_62_88 rfl rfl ?_
  refine w_go f_62_91 ?_
  exact H
theorem g_62_94 {d : Nat} {G : am_G} {I : Nat → Nat → Int32} {J : Nat → Nat → Int64} {Q : am_O → am_H → Prop} (hR : q_RT G) (i1 : Int32) (i2 : Int32) (H : Q (.inl none) (G, I, J)) : q_W β xs L (d + 1) 62 94 [.ref 38, .int i1, .int i2] [] (G, I, J) Q := by
  exact w_ret0 f_62_94 H
theorem g_63_0 {d : Nat} {G : am_G} {I : Nat → Nat → Int32} {J : Nat → Nat → Int64} {Q : am_O → am_H → Prop} (hR : q_RT G) (i1 : Int32) (i2 : Int32) (H : (am_is i1 20 = true ∧ ((¬ (((I 47 (i1).toNatClampNeg) >>> (i2 &&& 31)) &&& 1) = 1 → q_W β xs L (d + 1) 63 19 [.ref 38, .int i1, .int i2, .retAddr 0, .retAddr 0, .retAddr 0, .retAddr 0, .retAddr 0] [.int 0] (G, I, J) Q) ∧ ((((I 47 (i1).toNatClampNeg) >>> (i2 &&& 31)) &&& 1) = 1 → q_W β xs L (d + 1) 63 19 [.ref 38, .int i1, .int i2, .retAddr 0, .retAddr 0, .retAddr 0, .retAddr 0, .retAddr 0] [.int 1] (G, I, J) Q)))) : q_W β xs L (d + 1) 63 0 [.ref 38, .int i1, .int i2, .retAddr 0, .retAddr 0, .retAddr 0, .retAddr 0, .retAddr 0] [] (G, I, J) Q := by
  refine w_al f_63_0 rfl ?_
  refine w_gr f_63_1 rfl (hR _ _ _ rfl) ?_
  refine w_il f_63_4 rfl ?_
  have hb := H.1
  have H := H.2
  refine w_ald f_63_5 rfl hb ?_
  refine w_il f_63_6 rfl ?_
  refine w_bin f_63_7 ?_
  refine w_ic f_63_8 ?_
  refine w_bin f_63_9 ?_
  refine w_ic f_63_10 ?_
  refine w_icne f_63_11 (fun c => ?_) (fun c => ?_)
  · have H := H.1 c
    refine w_ic f_63_18 ?_
    exact H
  · have H := H.2 c
    refine w_ic f_63_14 ?_
    refine w_go f_63_15 ?_
    exact H
theorem g_63_19 {d : Nat} {G : am_G} {I : Nat → Nat → Int32} {J : Nat → Nat → Int64} {Q : am_O → am_H → Prop} (hR : q_RT G) (i1 : Int32) (i2 : Int32) (is0 : Int32) (H : q_W β xs L (d + 1) 63 23 [.ref 38, .int i1, .int i2, .int is0, .int 0, .retAddr 0, .retAddr 0, .retAddr 0] [] (G, I, J) Q) : q_W β xs L (d + 1) 63 19 [.ref 38, .int i1, .int i2, .retAddr 0, .retAddr 0, .retAddr 0, .retAddr 0, .retAddr 0] [.int is0] (G, I, J) Q := by
  refine w_is (ls' := [.ref 38, .int i1, .int i2, .int is0, .retAddr 0, .retAddr 0, .retAddr 0, .retAddr 0]) f_63_19 rfl ?_
  refine w_ic f_63_20 ?_
  refine w_is (ls' := [.ref 38, .int i1, .int i2, .int is0, .int 0, .retAddr 0, .retAddr 0, .retAddr 0]) f_63_21 rfl ?_
  exact H
theorem g_63_23 {d : Nat} {G : am_G} {I : Nat → Nat → Int32} {J : Nat → Nat → Int64} {Q : am_O → am_H → Prop} (hR : q_RT G) (i1 : Int32) (i2 : Int32) (i3 : Int32) (i4 : Int32) (v5 : Value) (v6 : Value) (v7 : Value) (n5 : am_nl v5 = true) (n6 : am_nl v6 = true) (n7 : am_nl v7 = true) (H : ((¬ i4 < (I 16 15) → Q (.inl (some (.int (-1)))) (G, I, J)) ∧ (i4 < (I 16 15) → (((((I 41 5) >>> (i4 &&& 31)) &&& 1) = 0 → q_W β xs L (d + 1) 63 208 [.ref 38, .int i1, .int i2, .int i3, .int i4, v5, v6, v7] [] (G, I, J) Q) ∧ (¬ (((I 41 5) >>> (i4 &&& 31)) &&& 1) = 0 → (am_is i4 12 = true ∧ (((I 17 (i4).toNatClampNeg) = i2 → q_W β xs L (d + 1) 63 70 [.ref 38, .int i1, .int i2, .int i3, .int i4, .int 0, v6, v7] [] (G, I, J) Q) ∧ (¬ (I 17 (i4).toNatClampNeg) = i2 → q_W β xs L (d + 1) 63 208 [.ref 38, .int i1, .int i2, .int i3, .int i4, v5, v6, v7] [] (G, I, J) Q)))))))) : q_W β xs L (d + 1) 63 23 [.ref 38, .int i1, .int i2, .int i3, .int i4, v5, v6, v7] [] (G, I, J) Q := by
  refine w_il f_63_23 rfl ?_
  refine w_al f_63_25 rfl ?_
  refine w_gr f_63_26 rfl (hR _ _ _ rfl) ?_
  refine w_gi f_63_29 rfl ?_
  refine w_icge f_63_32 (fun c => ?_) (fun c => ?_)
  · have H := H.1 c
    refine w_ic f_63_214 ?_
    exact w_reti f_63_215 H
  · have H := H.2 c
    refine w_al f_63_35 rfl ?_
    refine w_gr f_63_36 rfl (hR _ _ _ rfl) ?_
    refine w_gi f_63_39 rfl ?_
    refine w_il f_63_42 rfl ?_
    refine w_bin f_63_44 ?_
    refine w_ic f_63_45 ?_
    refine w_bin f_63_46 ?_
    refine w_ifeq f_63_47 (fun c => ?_) (fun c => ?_)
    · have H := H.1 c
      exact H
    · have H := H.2 c
      refine w_al f_63_50 rfl ?_
      refine w_gr f_63_51 rfl (hR _ _ _ rfl) ?_
      refine w_gr f_63_54 rfl (hR _ _ _ rfl) ?_
      refine w_il f_63_57 rfl ?_
      have hb := H.1
      have H := H.2
      refine w_ald f_63_59 rfl hb ?_
      refine w_il f_63_60 rfl ?_
      refine w_iceq f_63_61 (fun c => ?_) (fun c => ?_)
      · have H := H.1 c
        refine w_ic f_63_67 ?_
        refine w_is (ls' := [.ref 38, .int i1, .int i2, .int i3, .int i4, .int 0, v6, v7]) f_63_68 rfl ?_
        exact H
      · have H := H.2 c
        refine w_go f_63_64 ?_
        exact H
theorem g_63_70 {d : Nat} {G : am_G} {I : Nat → Nat → Int32} {J : Nat → Nat → Int64} {Q : am_O → am_H → Prop} (hR : q_RT G) (i1 : Int32) (i2 : Int32) (i3 : Int32) (i4 : Int32) (i5 : Int32) (v6 : Value) (v7 : Value) (n6 : am_nl v6 = true) (n7 : am_nl v7 = true) (H : (am_is i4 12 = true ∧ ((¬ i5 < (I 24 (i4).toNatClampNeg) → q_W β xs L (d + 1) 63 208 [.ref 38, .int i1, .int i2, .int i3, .int i4, .int i5, v6, v7] [] (G, I, J) Q) ∧ (i5 < (I 24 (i4).toNatClampNeg) → (am_is ((i4 * 12) + i5) 144 = true ∧ ((¬ (I 25 (((i4 * 12) + i5)).toNatClampNeg) = i3 → q_W β xs L (d + 1) 63 133 [.ref 38, .int i1, .int i2, .int i3, .int i4, .int i5, .int ((i4 * 12) + i5), v7] [] (G, I, J) Q) ∧ ((I 25 (((i4 * 12) + i5)).toNatClampNeg) = i3 → (am_is ((i4 * 12) + i5) 144 = true ∧ ((¬ (I 26 (((i4 * 12) + i5)).toNatClampNeg) = (I 41 1) → q_W β xs L (d + 1) 63 133 [.ref 38, .int i1, .int i2, .int i3, .int i4, .int i5, .int ((i4 * 12) + i5), v7] [] (G, I, J) Q) ∧ ((I 26 (((i4 * 12) + i5)).toNatClampNeg) = (I 41 1) → q_W β xs L (d + 1) 63 134 [.ref 38, .int i1, .int i2, .int i3, .int i4, .int i5, .int ((i4 * 12) + i5), v7] [.int 1] (G, I, J) Q)))))))))) : q_W β xs L (d + 1) 63 70 [.ref 38, .int i1, .int i2, .int i3, .int i4, .int i5, v6, v7] [] (G, I, J) Q := by
  refine w_il f_63_70 rfl ?_
  refine w_al f_63_72 rfl ?_
  refine w_gr f_63_73 rfl (hR _ _ _ rfl) ?_
  refine w_gr f_63_76 rfl (hR _ _ _ rfl) ?_
  refine w_il f_63_79 rfl ?_
  have hb := H.1
  have H := H.2
  refine w_ald f_63_81 rfl hb ?_
  refine w_icge f_63_82 (fun c => ?_) (fun c => ?_)
  · have H := H.1 c
    exact H
  · have H := H.2 c
    refine w_il f_63_85 rfl ?_
    refine w_ic f_63_87 ?_
    refine w_bin f_63_89 ?_
    refine w_il f_63_90 rfl ?_
    refine w_bin f_63_92 ?_
    refine w_is (ls' := [.ref 38, .int i1, .int i2, .int i3, .int i4, .int i5, .int ((i4 * 12) + i5), v7]) f_63_93 rfl ?_
    refine w_al f_63_95 rfl ?_
    refine w_gr f_63_96 rfl (hR _ _ _ rfl) ?_
    refine w_gr f_63_99 rfl (hR _ _ _ rfl) ?_
    refine w_il f_63_102 rfl ?_
    have hb := H.1
    have H := H.2
    refine w_ald f_63_104 rfl hb ?_
    refine w_il f_63_105 rfl ?_
    refine w_icne f_63_106 (fun c => ?_) (fun c => ?_)
    · have H := H.1 c
      exact H
    · have H := H.2 c
      refine w_al f_63_109 rfl ?_
      refine w_gr f_63_110 rfl (hR _ _ _ rfl) ?_
      refine w_gr f_63_113 rfl (hR _ _ _ rfl) ?_
      refine w_il f_63_116 rfl ?_
      have hb := H.1
      have H := H.2
      refine w_ald f_63_118 rfl hb ?_
      refine w_al f_63_119 rfl ?_
      refine w_gr f_63_120 rfl (hR _ _ _ rfl) ?_
      refine w_gi f_63_123 rfl ?_
      refine w_icne f_63_126 (fun c => ?_) (fun c => ?_)
      · have H := H.1 c
        exact H
      · have H := H.2 c
        refine w_ic f_63_129 ?_
        refine w_go f_63_130 ?_
        exact H
theorem g_63_133 {d : Nat} {G : am_G} {I : Nat → Nat → Int32} {J : Nat → Nat → Int64} {Q : am_O → am_H → Prop} (hR : q_RT G) (i1 : Int32) (i2 : Int32) (i3 : Int32) (i4 : Int32) (i5 : Int32) (i6 : Int32) (v7 : Value) (n7 : am_nl v7 = true) (H : q_W β xs L (d + 1) 63 134 [.ref 38, .int i1, .int i2, .int i3, .int i4, .int i5, .int i6, v7] [.int 0] (G, I, J) Q) : q_W β xs L (d + 1) 63 133 [.ref 38, .int i1, .int i2, .int i3, .int i4, .int i5, .int i6, v7] [] (G, I, J) Q := by
  refine w_ic f_63_133 ?_
  exact H
theorem g_63_134 {d : Nat} {G : am_G} {I : Nat → Nat → Int32} {J : Nat → Nat → Int64} {Q : am_O → am_H → Prop} (hR : q_RT G) (i1 : Int32) (i2 : Int32) (i3 : Int32) (i4 : Int32) (i5 : Int32) (i6 : Int32) (v7 : Value) (is0 : Int32) (n7 : am_nl v7 = true) (H : ((is0 = 0 → q_W β xs L (d + 1) 63 202 [.ref 38, .int i1, .int i2, .int i3, .int i4, .int i5, .int i6, .int is0] [] (G, I, J) Q) ∧ (¬ is0 = 0 → (am_is i6 144 = true ∧ (am_is i6 144 = true ∧ q_W β xs L d 64 0 [.ref 38, .int (I 27 (i6).toNatClampNeg), .int (I 28 (i6).toNatClampNeg), .int i1, .int i2, .retAddr 0, .retAddr 0, .retAddr 0] [] (G, I, J) (q_Ri (fun y1 G1 I1 J1 => (q_RT G1 ∧ ((y1 = 0 → q_W β xs L (d + 1) 63 202 [.ref 38, .int i1, .int i2, .int i3, .int i4, .int i5, .int i6, .int is0] [] (G1, I1, J1) Q) ∧ (¬ y1 = 0 → (am_is i6 144 = true ∧ (am_is i6 144 = true ∧ q_W β xs L d 64 0 [.ref 38, .int (I1 28 (i6).toNatClampNeg), .int (I1 29 (i6).toNatClampNeg), .int i1, .int i2, .retAddr 0, .retAddr 0, .retAddr 0] [] (G1, I1, J1) (q_Ri (fun y2 G2 I2 J2 => ((¬ y2 = 0 → q_W β xs L (d + 1) 63 202 [.ref 38, .int i1, .int i2, .int i3, .int i4, .int i5, .int i6, .int is0] [] (G2, I2, J2) Q) ∧ (y2 = 0 → Q (.inl (some (.int i6))) (G2, I2, J2)))) (fun x2 G2 I2 J2 => Q (.inr x2) (G2, I2, J2))))))))) (fun x1 G1 I1 J1 => Q (.inr x1) (G1, I1, J1)))))))) : q_W β xs L (d + 1) 63 134 [.ref 38, .int i1, .int i2, .int i3, .int i4, .int i5, .int i6, v7] [.int is0] (G, I, J) Q := by
  refine w_is (ls' := [.ref 38, .int i1, .int i2, .int i3, .int i4, .int i5, .int i6, .int is0]) f_63_134 rfl ?_
  refine w_il f_63_136 rfl ?_
  refine w_ifeq f_63_138 (fun c => ?_) (fun c => ?_)
  · have H := H.1 c
    exact H
  · have H := H.2 c
    refine w_al f_63_141 rfl ?_
    refine w_al f_63_142 rfl ?_
    refine w_gr f_63_143 rfl (hR _ _ _ rfl) ?_
    refine w_gr f_63_146 rfl (hR _ _ _ rfl) ?_
    refine w_il f_63_149 rfl ?_
    have hb := H.1
    have H := H.2
    refine w_ald f_63_151 rfl hb ?_
    refine w_al f_63_152 rfl ?_
    refine w_gr f_63_153 rfl (hR _ _ _ rfl) ?_
    refine w_gr f_63_156 rfl (hR _ _ _ rfl) ?_
    refine w_il f_63_159 rfl ?_
    have hb := H.1
    have H := H.2
    refine w_ald f_63_161 rfl hb ?_
    refine w_il f_63_162 rfl ?_
    refine w_il f_63_163 rfl ?_
    refine w_inv (as := [.ref 38, .int (I 27 (i6).toNatClampNeg), .int (I 28 (i6).toNatClampNeg), .int i1, .int i2, .retAddr 0, .retAddr 0, .retAddr 0]) (st' := []) f_63_164 rfl rfl rfl rfl rfl rfl H (k_i (fun y1 G1 I1 J1 H => ?_)) (x_n (fun _ => rfl) rfl (fun x h' h => h))
    have hR1 := H.1
    have H := H.2
    refine w_ifeq f_63_167 (fun c => ?_) (fun c => ?_)
    · have H := H.1 c
      exact H
    · have H := H.2 c
      refine w_al f_63_170 rfl ?_
      refine w_al f_63_171 rfl ?_
      refine w_gr f_63_172 rfl (hR1 _ _ _ rfl) ?_
      refine w_gr f_63_175 rfl (hR1 _ _ _ rfl) ?_
      refine w_il f_63_178 rfl ?_
      have hb := H.1
      have H := H.2
      refine w_ald f_63_180 rfl hb ?_
      refine w_al f_63_181 rfl ?_
      refine w_gr f_63_182 rfl (hR1 _ _ _ rfl) ?_
      refine w_gr f_63_185 rfl (hR1 _ _ _ rfl) ?_
      refine w_il f_63_188 rfl ?_
      have hb := H.1
      have H := H.2
      refine w_ald f_63_190 rfl hb ?_
      refine w_il f_63_191 rfl ?_
      refine w_il f_63_192 rfl ?_
      refine w_inv (as := [.ref 38, .int (I1 28 (i6).toNatClampNeg), .int (I1 29 (i6).toNatClampNeg), .int i1, .int i2, .retAddr 0, .retAddr 0, .retAddr 0]) (st' := []) f_63_193 rfl rfl rfl rfl rfl rfl H (k_i (fun y2 G2 I2 J2 H => ?_)) (x_n (fun _ => rfl) rfl (fun x h' h => h))
      refine w_ifne f_63_196 (fun c => ?_) (fun c => ?_)
      · have H := H.1 c
        exact H
      · have H := H.2 c
        refine w_il f_63_199 rfl ?_
        exact w_reti f_63_201 H
theorem g_63_202 {d : Nat} {G : am_G} {I : Nat → Nat → Int32} {J : Nat → Nat → Int64} {Q : am_O → am_H → Prop} (hR : q_RT G) (i1 : Int32) (i2 : Int32) (i3 : Int32) (i4 : Int32) (i5 : Int32) (i6 : Int32) (i7 : Int32) (H : q_W β xs L (d + 1) 63 70 [.ref 38, .int i1, .int i2, .int i3, .int i4, .int (i5 + 1), .int i6, .int i7] [] (G, I, J) Q) : q_W β xs L (d + 1) 63 202 [.ref 38, .int i1, .int i2, .int i3, .int i4, .int i5, .int i6, .int i7] [] (G, I, J) Q := by
  refine w_iinc (ls' := [.ref 38, .int i1, .int i2, .int i3, .int i4, .int (i5 + 1), .int i6, .int i7]) f_63_202 rfl rfl ?_
  refine w_go f_63_205 ?_
  exact H
theorem g_63_208 {d : Nat} {G : am_G} {I : Nat → Nat → Int32} {J : Nat → Nat → Int64} {Q : am_O → am_H → Prop} (hR : q_RT G) (i1 : Int32) (i2 : Int32) (i3 : Int32) (i4 : Int32) (v5 : Value) (v6 : Value) (v7 : Value) (n5 : am_nl v5 = true) (n6 : am_nl v6 = true) (n7 : am_nl v7 = true) (H : q_W β xs L (d + 1) 63 23 [.ref 38, .int i1, .int i2, .int i3, .int (i4 + 1), v5, v6, v7] [] (G, I, J) Q) : q_W β xs L (d + 1) 63 208 [.ref 38, .int i1, .int i2, .int i3, .int i4, v5, v6, v7] [] (G, I, J) Q := by
  refine w_iinc (ls' := [.ref 38, .int i1, .int i2, .int i3, .int (i4 + 1), v5, v6, v7]) f_63_208 rfl rfl ?_
  refine w_go f_63_211 ?_
  exact H
theorem g_64_0 {d : Nat} {G : am_G} {I : Nat → Nat → Int32} {J : Nat → Nat → Int64} {Q : am_O → am_H → Prop} (hR : q_RT G) (i1 : Int32) (i2 : Int32) (i3 : Int32) (i4 : Int32) (H : q_W β xs L (d + 1) 64 6 [.ref 38, .int i1, .int i2, .int i3, .int i4, .int 0, .int i1, .retAddr 0] [] (G, I, J) Q) : q_W β xs L (d + 1) 64 0 [.ref 38, .int i1, .int i2, .int i3, .int i4, .retAddr 0, .retAddr 0, .retAddr 0] [] (G, I, J) Q := by
  refine w_ic f_64_0 ?_
  refine w_is (ls' := [.ref 38, .int i1, .int i2, .int i3, .int i4, .int 0, .retAddr 0, .retAddr 0]) f_64_1 rfl ?_
  refine w_il f_64_3 rfl ?_
  refine w_is (ls' := [.ref 38, .int i1, .int i2, .int i3, .int i4, .int 0, .int i1, .retAddr 0]) f_64_4 rfl ?_
  exact H
theorem g_64_6 {d : Nat} {G : am_G} {I : Nat → Nat → Int32} {J : Nat → Nat → Int64} {Q : am_O → am_H → Prop} (hR : q_RT G) (i1 : Int32) (i2 : Int32) (i3 : Int32) (i4 : Int32) (i5 : Int32) (i6 : Int32) (v7 : Value) (n7 : am_nl v7 = true) (H : ((¬ i6 < i2 → ((¬ 0 < i5 → q_W β xs L (d + 1) 64 174 [.ref 38, .int i1, .int i2, .int i3, .int i4, .int i5, .int i6, v7] [.int 0] (G, I, J) Q) ∧ (0 < i5 → (am_is 0 64 = true ∧ q_W β xs L (d + 1) 64 174 [.ref 38, .int i1, .int i2, .int i3, .int i4, .int i5, .int i6, v7] [.int (I 56 (0 : Int32).toNatClampNeg)] (G, I, J) Q)))) ∧ (i6 < i2 → (am_is i6 6000 = true ∧ (((I 31 (i6).toNatClampNeg) < (-13) → q_W β xs L (d + 1) 64 72 [.ref 38, .int i1, .int i2, .int i3, .int i4, .int i5, .int i6, .int (I 31 (i6).toNatClampNeg)] [] (G, I, J) Q) ∧ (¬ (I 31 (i6).toNatClampNeg) < (-13) → ((¬ i5 < 64 → q_W β xs L (d + 1) 64 72 [.ref 38, .int i1, .int i2, .int i3, .int i4, .int i5, .int i6, .int (I 31 (i6).toNatClampNeg)] [] (G, I, J) Q) ∧ (i5 < 64 → (((I 31 (i6).toNatClampNeg) < 0 → q_W β xs L d 66 0 [.ref 38, .int ((-1) - (I 31 (i6).toNatClampNeg)), .int i3, .int i4, .retAddr 0, .retAddr 0, .retAddr 0, .retAddr 0, .retAddr 0, .retAddr 0, .retAddr 0] [] (G, I, J) (q_Ri (fun y1 G1 I1 J1 => q_W β xs L (d + 1) 64 65 [.ref 38, .int i1, .int i2, .int i3, .int i4, .int i5, .int i6, .int (I 31 (i6).toNatClampNeg)] [.int y1, .int i5, .ref 56] (G1, I1, J1) Q) (fun x1 G1 I1 J1 => Q (.inr x1) (G1, I1, J1)))) ∧ (¬ (I 31 (i6).toNatClampNeg) < 0 → q_W β xs L (d + 1) 64 65 [.ref 38, .int i1, .int i2, .int i3, .int i4, .int i5, .int i6, .int (I 31 (i6).toNatClampNeg)] [.int (I 31 (i6).toNatClampNeg), .int i5, .ref 56] (G, I, J) Q)))))))))) : q_W β xs L (d + 1) 64 6 [.ref 38, .int i1, .int i2, .int i3, .int i4, .int i5, .int i6, v7] [] (G, I, J) Q := by
  refine w_il f_64_6 rfl ?_
  refine w_il f_64_8 rfl ?_
  refine w_icge f_64_9 (fun c => ?_) (fun c => ?_)
  · have H := H.1 c
    refine w_il f_64_159 rfl ?_
    refine w_ifle f_64_161 (fun c => ?_) (fun c => ?_)
    · have H := H.1 c
      refine w_ic f_64_173 ?_
      exact H
    · have H := H.2 c
      refine w_al f_64_164 rfl ?_
      refine w_gr f_64_165 rfl (hR _ _ _ rfl) ?_
      refine w_ic f_64_168 ?_
      have hb := H.1
      have H := H.2
      refine w_ald f_64_169 rfl hb ?_
      refine w_go f_64_170 ?_
      exact H
  · have H := H.2 c
    refine w_al f_64_12 rfl ?_
    refine w_gr f_64_13 rfl (hR _ _ _ rfl) ?_
    refine w_gr f_64_16 rfl (hR _ _ _ rfl) ?_
    refine w_il f_64_19 rfl ?_
    have hb := H.1
    have H := H.2
    refine w_ald f_64_21 rfl hb ?_
    refine w_is (ls' := [.ref 38, .int i1, .int i2, .int i3, .int i4, .int i5, .int i6, .int (I 31 (i6).toNatClampNeg)]) f_64_22 rfl ?_
    refine w_il f_64_24 rfl ?_
    refine w_ic f_64_26 ?_
    refine w_iclt f_64_28 (fun c => ?_) (fun c => ?_)
    · have H := H.1 c
      exact H
    · have H := H.2 c
      refine w_il f_64_31 rfl ?_
      refine w_ic f_64_33 ?_
      refine w_icge f_64_35 (fun c => ?_) (fun c => ?_)
      · have H := H.1 c
        exact H
      · have H := H.2 c
        refine w_al f_64_38 rfl ?_
        refine w_gr f_64_39 rfl (hR _ _ _ rfl) ?_
        refine w_il f_64_42 rfl ?_
        refine w_il f_64_44 rfl ?_
        refine w_iflt f_64_46 (fun c => ?_) (fun c => ?_)
        · have H := H.1 c
          refine w_al f_64_54 rfl ?_
          refine w_ic f_64_55 ?_
          refine w_il f_64_56 rfl ?_
          refine w_bin f_64_58 ?_
          refine w_il f_64_59 rfl ?_
          refine w_il f_64_60 rfl ?_
          refine w_inv (as := [.ref 38, .int ((-1) - (I 31 (i6).toNatClampNeg)), .int i3, .int i4, .retAddr 0, .retAddr 0, .retAddr 0, .retAddr 0, .retAddr 0, .retAddr 0, .retAddr 0]) (st' := [.int i5, .ref 56]) f_64_62 rfl rfl rfl rfl rfl rfl H (k_i (fun y1 G1 I1 J1 H => ?_)) (x_n (fun _ => rfl) rfl (fun x h' h => h))
          exact H
        · have H := H.2 c
          refine w_il f_64_49 rfl ?_
          refine w_go f_64_51 ?_
          exact H
theorem g_64_65 {d : Nat} {G : am_G} {I : Nat → Nat → Int32} {J : Nat → Nat → Int64} {Q : am_O → am_H → Prop} (hR : q_RT G) (i1 : Int32) (i2 : Int32) (i3 : Int32) (i4 : Int32) (i5 : Int32) (i6 : Int32) (i7 : Int32) (is0 : Int32) (is1 : Int32) (H : (am_is is1 64 = true ∧ q_W β xs L (d + 1) 64 153 [.ref 38, .int i1, .int i2, .int i3, .int i4, .int (i5 + 1), .int i6, .int i7] [] (G, (am_u I 56 (is1).toNatClampNeg is0), J) Q)) : q_W β xs L (d + 1) 64 65 [.ref 38, .int i1, .int i2, .int i3, .int i4, .int i5, .int i6, .int i7] [.int is0, .int is1, .ref 56] (G, I, J) Q := by
  have hb := H.1
  have H := H.2
  refine w_ast f_64_65 rfl hb ?_
  refine w_iinc (ls' := [.ref 38, .int i1, .int i2, .int i3, .int i4, .int (i5 + 1), .int i6, .int i7]) f_64_66 rfl rfl ?_
  refine w_go f_64_69 ?_
  exact H
theorem g_64_72 {d : Nat} {G : am_G} {I : Nat → Nat → Int32} {J : Nat → Nat → Int64} {Q : am_O → am_H → Prop} (hR : q_RT G) (i1 : Int32) (i2 : Int32) (i3 : Int32) (i4 : Int32) (i5 : Int32) (i6 : Int32) (i7 : Int32) (H : ((¬ i7 = (-203) → q_W β xs L (d + 1) 64 114 [.ref 38, .int i1, .int i2, .int i3, .int i4, .int i5, .int i6, .int i7] [] (G, I, J) Q) ∧ (i7 = (-203) → ((¬ 0 < i5 → q_W β xs L (d + 1) 64 114 [.ref 38, .int i1, .int i2, .int i3, .int i4, .int i5, .int i6, .int i7] [] (G, I, J) Q) ∧ (0 < i5 → (am_is (i5 - 1) 64 = true ∧ ((¬ (I 56 ((i5 - 1)).toNatClampNeg) = 0 → q_W β xs L (d + 1) 64 110 [.ref 38, .int i1, .int i2, .int i3, .int i4, .int i5, .int i6, .int i7] [.int 0, .int (i5 - 1), .ref 56] (G, I, J) Q) ∧ ((I 56 ((i5 - 1)).toNatClampNeg) = 0 → q_W β xs L (d + 1) 64 110 [.ref 38, .int i1, .int i2, .int i3, .int i4, .int i5, .int i6, .int i7] [.int 1, .int (i5 - 1), .ref 56] (G, I, J) Q)))))))) : q_W β xs L (d + 1) 64 72 [.ref 38, .int i1, .int i2, .int i3, .int i4, .int i5, .int i6, .int i7] [] (G, I, J) Q := by
  refine w_il f_64_72 rfl ?_
  refine w_ic f_64_74 ?_
  refine w_icne f_64_77 (fun c => ?_) (fun c => ?_)
  · have H := H.1 c
    exact H
  · have H := H.2 c
    refine w_il f_64_80 rfl ?_
    refine w_ifle f_64_82 (fun c => ?_) (fun c => ?_)
    · have H := H.1 c
      exact H
    · have H := H.2 c
      refine w_al f_64_85 rfl ?_
      refine w_gr f_64_86 rfl (hR _ _ _ rfl) ?_
      refine w_il f_64_89 rfl ?_
      refine w_ic f_64_91 ?_
      refine w_bin f_64_92 ?_
      refine w_al f_64_93 rfl ?_
      refine w_gr f_64_94 rfl (hR _ _ _ rfl) ?_
      refine w_il f_64_97 rfl ?_
      refine w_ic f_64_99 ?_
      refine w_bin f_64_100 ?_
      have hb := H.1
      have H := H.2
      refine w_ald f_64_101 rfl hb ?_
      refine w_ifne f_64_102 (fun c => ?_) (fun c => ?_)
      · have H := H.1 c
        refine w_ic f_64_109 ?_
        exact H
      · have H := H.2 c
        refine w_ic f_64_105 ?_
        refine w_go f_64_106 ?_
        exact H
theorem g_64_110 {d : Nat} {G : am_G} {I : Nat → Nat → Int32} {J : Nat → Nat → Int64} {Q : am_O → am_H → Prop} (hR : q_RT G) (i1 : Int32) (i2 : Int32) (i3 : Int32) (i4 : Int32) (i5 : Int32) (i6 : Int32) (i7 : Int32) (is0 : Int32) (is1 : Int32) (H : (am_is is1 64 = true ∧ q_W β xs L (d + 1) 64 153 [.ref 38, .int i1, .int i2, .int i3, .int i4, .int i5, .int i6, .int i7] [] (G, (am_u I 56 (is1).toNatClampNeg is0), J) Q)) : q_W β xs L (d + 1) 64 110 [.ref 38, .int i1, .int i2, .int i3, .int i4, .int i5, .int i6, .int i7] [.int is0, .int is1, .ref 56] (G, I, J) Q := by
  have hb := H.1
  have H := H.2
  refine w_ast f_64_110 rfl hb ?_
  refine w_go f_64_111 ?_
  exact H
theorem g_64_114 {d : Nat} {G : am_G} {I : Nat → Nat → Int32} {J : Nat → Nat → Int64} {Q : am_O → am_H → Prop} (hR : q_RT G) (i1 : Int32) (i2 : Int32) (i3 : Int32) (i4 : Int32) (i5 : Int32) (i6 : Int32) (i7 : Int32) (H : ((¬ 1 < i5 → q_W β xs L (d + 1) 64 153 [.ref 38, .int i1, .int i2, .int i3, .int i4, .int i5, .int i6, .int i7] [] (G, I, J) Q) ∧ (1 < i5 → (am_is ((i5 + (-1)) - 1) 64 = true ∧ (am_is (i5 + (-1)) 64 = true ∧ q_W β xs L d 65 0 [.int i7, .int (I 56 (((i5 + (-1)) - 1)).toNatClampNeg), .int (I 56 (i5 + (-1)).toNatClampNeg)] [] (G, I, J) (q_Ri (fun y1 G1 I1 J1 => (am_is ((i5 + (-1)) - 1) 64 = true ∧ q_W β xs L (d + 1) 64 153 [.ref 38, .int i1, .int i2, .int i3, .int i4, .int (i5 + (-1)), .int i6, .int i7] [] (G1, (am_u I1 56 (((i5 + (-1)) - 1)).toNatClampNeg y1), J1) Q)) (fun x1 G1 I1 J1 => Q (.inr x1) (G1, I1, J1)))))))) : q_W β xs L (d + 1) 64 114 [.ref 38, .int i1, .int i2, .int i3, .int i4, .int i5, .int i6, .int i7] [] (G, I, J) Q := by
  refine w_il f_64_114 rfl ?_
  refine w_ic f_64_116 ?_
  refine w_icle f_64_117 (fun c => ?_) (fun c => ?_)
  · have H := H.1 c
    exact H
  · have H := H.2 c
    refine w_iinc (ls' := [.ref 38, .int i1, .int i2, .int i3, .int i4, .int (i5 + (-1)), .int i6, .int i7]) f_64_120 rfl rfl ?_
    refine w_al f_64_123 rfl ?_
    refine w_gr f_64_124 rfl (hR _ _ _ rfl) ?_
    refine w_il f_64_127 rfl ?_
    refine w_ic f_64_129 ?_
    refine w_bin f_64_130 ?_
    refine w_il f_64_131 rfl ?_
    refine w_al f_64_133 rfl ?_
    refine w_gr f_64_134 rfl (hR _ _ _ rfl) ?_
    refine w_il f_64_137 rfl ?_
    refine w_ic f_64_139 ?_
    refine w_bin f_64_140 ?_
    have hb := H.1
    have H := H.2
    refine w_ald f_64_141 rfl hb ?_
    refine w_al f_64_142 rfl ?_
    refine w_gr f_64_143 rfl (hR _ _ _ rfl) ?_
    refine w_il f_64_146 rfl ?_
    have hb := H.1
    have H := H.2
    refine w_ald f_64_148 rfl hb ?_
    refine w_invs (as := [.int i7, .int (I 56 (((i5 + (-1)) - 1)).toNatClampNeg), .int (I 56 (i5 + (-1)).toNatClampNeg)]) (st' := [.int ((i5 + (-1)) - 1), .ref 56]) f_64_149 rfl rfl rfl rfl rfl H (k_i (fun y1 G1 I1 J1 H => ?_)) (x_n (fun _ => rfl) rfl (fun x h' h => h))
    have hb := H.1
    have H := H.2
    refine w_ast f_64_152 rfl hb ?_
    exact H
theorem g_64_153 {d : Nat} {G : am_G} {I : Nat → Nat → Int32} {J : Nat → Nat → Int64} {Q : am_O → am_H → Prop} (hR : q_RT G) (i1 : Int32) (i2 : Int32) (i3 : Int32) (i4 : Int32) (i5 : Int32) (i6 : Int32) (i7 : Int32) (H : q_W β xs L (d + 1) 64 6 [.ref 38, .int i1, .int i2, .int i3, .int i4, .int i5, .int (i6 + 1), .int i7] [] (G, I, J) Q) : q_W β xs L (d + 1) 64 153 [.ref 38, .int i1, .int i2, .int i3, .int i4, .int i5, .int i6, .int i7] [] (G, I, J) Q := by
  refine w_iinc (ls' := [.ref 38, .int i1, .int i2, .int i3, .int i4, .int i5, .int (i6 + 1), .int i7]) f_64_153 rfl rfl ?_
  refine w_go f_64_156 ?_
  exact H
theorem g_64_174 {d : Nat} {G : am_G} {I : Nat → Nat → Int32} {J : Nat → Nat → Int64} {Q : am_O → am_H → Prop} (hR : q_RT G) (i1 : Int32) (i2 : Int32) (i3 : Int32) (i4 : Int32) (i5 : Int32) (i6 : Int32) (v7 : Value) (is0 : Int32) (n7 : am_nl v7 = true) (H : Q (.inl (some (.int is0))) (G, I, J)) : q_W β xs L (d + 1) 64 174 [.ref 38, .int i1, .int i2, .int i3, .int i4, .int i5, .int i6, v7] [.int is0] (G, I, J) Q := by
  exact w_reti f_64_174 H
theorem g_65_0 {d : Nat} {G : am_G} {I : Nat → Nat → Int32} {J : Nat → Nat → Int64} {Q : am_O → am_H → Prop} (hR : q_RT G) (i0 : Int32) (i1 : Int32) (i2 : Int32) (H : (∃ v : Nat, (q_lsw 1 127 [(-201, 113), (-61, 102), (-60, 91), (-47, 79), (-45, 71), (-43, 67), (-42, 75)]) i0 = some v ∧ q_W β xs L d 65 v [.int i0, .int i1, .int i2] [] (G, I, J) Q)) : q_W β xs L d 65 0 [.int i0, .int i1, .int i2] [] (G, I, J) Q := by
  refine w_il f_65_0 rfl ?_
  obtain ⟨v, hg, H⟩ := H
  exact w_sw f_65_1 hg H
theorem g_65_68 {d : Nat} {G : am_G} {I : Nat → Nat → Int32} {J : Nat → Nat → Int64} {Q : am_O → am_H → Prop} (hR : q_RT G) (i0 : Int32) (i1 : Int32) (i2 : Int32) (H : Q (.inl (some (.int (i1 + i2)))) (G, I, J)) : q_W β xs L d 65 68 [.int i0, .int i1, .int i2] [] (G, I, J) Q := by
  refine w_il f_65_68 rfl ?_
  refine w_il f_65_69 rfl ?_
  refine w_bin f_65_70 ?_
  exact w_reti f_65_71 H
theorem g_65_72 {d : Nat} {G : am_G} {I : Nat → Nat → Int32} {J : Nat → Nat → Int64} {Q : am_O → am_H → Prop} (hR : q_RT G) (i0 : Int32) (i1 : Int32) (i2 : Int32) (H : Q (.inl (some (.int (i1 - i2)))) (G, I, J)) : q_W β xs L d 65 72 [.int i0, .int i1, .int i2] [] (G, I, J) Q := by
  refine w_il f_65_72 rfl ?_
  refine w_il f_65_73 rfl ?_
  refine w_bin f_65_74 ?_
  exact w_reti f_65_75 H
theorem g_65_76 {d : Nat} {G : am_G} {I : Nat → Nat → Int32} {J : Nat → Nat → Int64} {Q : am_O → am_H → Prop} (hR : q_RT G) (i0 : Int32) (i1 : Int32) (i2 : Int32) (H : Q (.inl (some (.int (i1 * i2)))) (G, I, J)) : q_W β xs L d 65 76 [.int i0, .int i1, .int i2] [] (G, I, J) Q := by
  refine w_il f_65_76 rfl ?_
  refine w_il f_65_77 rfl ?_
  refine w_bin f_65_78 ?_
  exact w_reti f_65_79 H
theorem g_65_80 {d : Nat} {G : am_G} {I : Nat → Nat → Int32} {J : Nat → Nat → Int64} {Q : am_O → am_H → Prop} (hR : q_RT G) (i0 : Int32) (i1 : Int32) (i2 : Int32) (H : ((¬ i2 = 0 → ((i2 : Int32) ≠ 0 ∧ q_W β xs L d 65 91 [.int i0, .int i1, .int i2] [.int (i1 / i2)] (G, I, J) Q)) ∧ (i2 = 0 → q_W β xs L d 65 91 [.int i0, .int i1, .int i2] [.int 0] (G, I, J) Q))) : q_W β xs L d 65 80 [.int i0, .int i1, .int i2] [] (G, I, J) Q := by
  refine w_il f_65_80 rfl ?_
  refine w_ifne f_65_81 (fun c => ?_) (fun c => ?_)
  · have H := H.1 c
    refine w_il f_65_88 rfl ?_
    refine w_il f_65_89 rfl ?_
    have hb := H.1
    have H := H.2
    refine w_div f_65_90 hb ?_
    exact H
  · have H := H.2 c
    refine w_ic f_65_84 ?_
    refine w_go f_65_85 ?_
    exact H
theorem g_65_91 {d : Nat} {G : am_G} {I : Nat → Nat → Int32} {J : Nat → Nat → Int64} {Q : am_O → am_H → Prop} (hR : q_RT G) (i0 : Int32) (i1 : Int32) (i2 : Int32) (is0 : Int32) (H : Q (.inl (some (.int is0))) (G, I, J)) : q_W β xs L d 65 91 [.int i0, .int i1, .int i2] [.int is0] (G, I, J) Q := by
  exact w_reti f_65_91 H
theorem g_65_92 {d : Nat} {G : am_G} {I : Nat → Nat → Int32} {J : Nat → Nat → Int64} {Q : am_O → am_H → Prop} (hR : q_RT G) (i0 : Int32) (i1 : Int32) (i2 : Int32) (H : ((¬ i1 < i2 → q_W β xs L d 65 102 [.int i0, .int i1, .int i2] [.int 0] (G, I, J) Q) ∧ (i1 < i2 → q_W β xs L d 65 102 [.int i0, .int i1, .int i2] [.int 1] (G, I, J) Q))) : q_W β xs L d 65 92 [.int i0, .int i1, .int i2] [] (G, I, J) Q := by
  refine w_il f_65_92 rfl ?_
  refine w_il f_65_93 rfl ?_
  refine w_icge f_65_94 (fun c => ?_) (fun c => ?_)
  · have H := H.1 c
    refine w_ic f_65_101 ?_
    exact H
  · have H := H.2 c
    refine w_ic f_65_97 ?_
    refine w_go f_65_98 ?_
    exact H
theorem g_65_102 {d : Nat} {G : am_G} {I : Nat → Nat → Int32} {J : Nat → Nat → Int64} {Q : am_O → am_H → Prop} (hR : q_RT G) (i0 : Int32) (i1 : Int32) (i2 : Int32) (is0 : Int32) (H : Q (.inl (some (.int is0))) (G, I, J)) : q_W β xs L d 65 102 [.int i0, .int i1, .int i2] [.int is0] (G, I, J) Q := by
  exact w_reti f_65_102 H
theorem g_65_103 {d : Nat} {G : am_G} {I : Nat → Nat → Int32} {J : Nat → Nat → Int64} {Q : am_O → am_H → Prop} (hR : q_RT G) (i0 : Int32) (i1 : Int32) (i2 : Int32) (H : ((¬ i1 = i2 → q_W β xs L d 65 113 [.int i0, .int i1, .int i2] [.int 0] (G, I, J) Q) ∧ (i1 = i2 → q_W β xs L d 65 113 [.int i0, .int i1, .int i2] [.int 1] (G, I, J) Q))) : q_W β xs L d 65 103 [.int i0, .int i1, .int i2] [] (G, I, J) Q := by
  refine w_il f_65_103 rfl ?_
  refine w_il f_65_104 rfl ?_
  refine w_icne f_65_105 (fun c => ?_) (fun c => ?_)
  · have H := H.1 c
    refine w_ic f_65_112 ?_
    exact H
  · have H := H.2 c
    refine w_ic f_65_108 ?_
    refine w_go f_65_109 ?_
    exact H
theorem g_65_113 {d : Nat} {G : am_G} {I : Nat → Nat → Int32} {J : Nat → Nat → Int64} {Q : am_O → am_H → Prop} (hR : q_RT G) (i0 : Int32) (i1 : Int32) (i2 : Int32) (is0 : Int32) (H : Q (.inl (some (.int is0))) (G, I, J)) : q_W β xs L d 65 113 [.int i0, .int i1, .int i2] [.int is0] (G, I, J) Q := by
  exact w_reti f_65_113 H
theorem g_65_114 {d : Nat} {G : am_G} {I : Nat → Nat → Int32} {J : Nat → Nat → Int64} {Q : am_O → am_H → Prop} (hR : q_RT G) (i0 : Int32) (i1 : Int32) (i2 : Int32) (H : ((i1 = 0 → q_W β xs L d 65 126 [.int i0, .int i1, .int i2] [] (G, I, J) Q) ∧ (¬ i1 = 0 → ((i2 = 0 → q_W β xs L d 65 126 [.int i0, .int i1, .int i2] [] (G, I, J) Q) ∧ (¬ i2 = 0 → q_W β xs L d 65 127 [.int i0, .int i1, .int i2] [.int 1] (G, I, J) Q))))) : q_W β xs L d 65 114 [.int i0, .int i1, .int i2] [] (G, I, J) Q := by
  refine w_il f_65_114 rfl ?_
  refine w_ifeq f_65_115 (fun c => ?_) (fun c => ?_)
  · have H := H.1 c
    exact H
  · have H := H.2 c
    refine w_il f_65_118 rfl ?_
    refine w_ifeq f_65_119 (fun c => ?_) (fun c => ?_)
    · have H := H.1 c
      exact H
    · have H := H.2 c
      refine w_ic f_65_122 ?_
      refine w_go f_65_123 ?_
      exact H
theorem g_65_126 {d : Nat} {G : am_G} {I : Nat → Nat → Int32} {J : Nat → Nat → Int64} {Q : am_O → am_H → Prop} (hR : q_RT G) (i0 : Int32) (i1 : Int32) (i2 : Int32) (H : q_W β xs L d 65 127 [.int i0, .int i1, .int i2] [.int 0] (G, I, J) Q) : q_W β xs L d 65 126 [.int i0, .int i1, .int i2] [] (G, I, J) Q := by
  refine w_ic f_65_126 ?_
  exact H
theorem g_65_127 {d : Nat} {G : am_G} {I : Nat → Nat → Int32} {J : Nat → Nat → Int64} {Q : am_O → am_H → Prop} (hR : q_RT G) (i0 : Int32) (i1 : Int32) (i2 : Int32) (is0 : Int32) (H : Q (.inl (some (.int is0))) (G, I, J)) : q_W β xs L d 65 127 [.int i0, .int i1, .int i2] [.int is0] (G, I, J) Q := by
  exact w_reti f_65_127 H
theorem g_65_128 {d : Nat} {G : am_G} {I : Nat → Nat → Int32} {J : Nat → Nat → Int64} {Q : am_O → am_H → Prop} (hR : q_RT G) (i0 : Int32) (i1 : Int32) (i2 : Int32) (H : ((¬ i1 = 0 → q_W β xs L d 65 136 [.int i0, .int i1, .int i2] [] (G, I, J) Q) ∧ (i1 = 0 → ((i2 = 0 → q_W β xs L d 65 141 [.int i0, .int i1, .int i2] [.int 0] (G, I, J) Q) ∧ (¬ i2 = 0 → q_W β xs L d 65 136 [.int i0, .int i1, .int i2] [] (G, I, J) Q))))) : q_W β xs L d 65 128 [.int i0, .int i1, .int i2] [] (G, I, J) Q := by
  refine w_il f_65_128 rfl ?_
  refine w_ifne f_65_129 (fun c => ?_) (fun c => ?_)
  · have H := H.1 c
    exact H
  · have H := H.2 c
    refine w_il f_65_132 rfl ?_
    refine w_ifeq f_65_133 (fun c => ?_) (fun c => ?_)
    · have H := H.1 c
      refine w_ic f_65_140 ?_
      exact H
    · have H := H.2 c
      exact H
theorem g_65_136 {d : Nat} {G : am_G} {I : Nat → Nat → Int32} {J : Nat → Nat → Int64} {Q : am_O → am_H → Prop} (hR : q_RT G) (i0 : Int32) (i1 : Int32) (i2 : Int32) (H : q_W β xs L d 65 141 [.int i0, .int i1, .int i2] [.int 1] (G, I, J) Q) : q_W β xs L d 65 136 [.int i0, .int i1, .int i2] [] (G, I, J) Q := by
  refine w_ic f_65_136 ?_
  refine w_go f_65_137 ?_
  exact H
theorem g_65_141 {d : Nat} {G : am_G} {I : Nat → Nat → Int32} {J : Nat → Nat → Int64} {Q : am_O → am_H → Prop} (hR : q_RT G) (i0 : Int32) (i1 : Int32) (i2 : Int32) (is0 : Int32) (H : Q (.inl (some (.int is0))) (G, I, J)) : q_W β xs L d 65 141 [.int i0, .int i1, .int i2] [.int is0] (G, I, J) Q := by
  exact w_reti f_65_141 H
theorem g_66_0 {d : Nat} {G : am_G} {I : Nat → Nat → Int32} {J : Nat → Nat → Int64} {Q : am_O → am_H → Prop} (hR : q_RT G) (i1 : Int32) (i2 : Int32) (i3 : Int32) (H : (am_is i2 20 = true ∧ (am_is i2 20 = true ∧ (∃ v : Nat, (q_sw 0 11 [84, 168, 189, 210, 287, 360, 370, 402, 457, 468, 484, 501] 513) i1 = some v ∧ q_W β xs L (d + 1) 66 v [.ref 38, .int i1, .int i2, .int i3, .int (I 5 (i2).toNatClampNeg), .int (I 6 (i2).toNatClampNeg), .retAddr 0, .retAddr 0, .retAddr 0, .retAddr 0, .retAddr 0] [] (G, I, J) Q)))) : q_W β xs L (d + 1) 66 0 [.ref 38, .int i1, .int i2, .int i3, .retAddr 0, .retAddr 0, .retAddr 0, .retAddr 0, .retAddr 0, .retAddr 0, .retAddr 0] [] (G, I, J) Q := by
  refine w_al f_66_0 rfl ?_
  refine w_gr f_66_1 rfl (hR _ _ _ rfl) ?_
  refine w_gr f_66_4 rfl (hR _ _ _ rfl) ?_
  refine w_il f_66_7 rfl ?_
  have hb := H.1
  have H := H.2
  refine w_ald f_66_8 rfl hb ?_
  refine w_is (ls' := [.ref 38, .int i1, .int i2, .int i3, .int (I 5 (i2).toNatClampNeg), .retAddr 0, .retAddr 0, .retAddr 0, .retAddr 0, .retAddr 0, .retAddr 0]) f_66_9 rfl ?_
  refine w_al f_66_11 rfl ?_
  refine w_gr f_66_12 rfl (hR _ _ _ rfl) ?_
  refine w_gr f_66_15 rfl (hR _ _ _ rfl) ?_
  refine w_il f_66_18 rfl ?_
  have hb := H.1
  have H := H.2
  refine w_ald f_66_19 rfl hb ?_
  refine w_is (ls' := [.ref 38, .int i1, .int i2, .int i3, .int (I 5 (i2).toNatClampNeg), .int (I 6 (i2).toNatClampNeg), .retAddr 0, .retAddr 0, .retAddr 0, .retAddr 0, .retAddr 0]) f_66_20 rfl ?_
  refine w_il f_66_22 rfl ?_
  obtain ⟨v, hg, H⟩ := H
  exact w_sw f_66_23 hg H
theorem g_66_84 {d : Nat} {G : am_G} {I : Nat → Nat → Int32} {J : Nat → Nat → Int64} {Q : am_O → am_H → Prop} (hR : q_RT G) (i1 : Int32) (i2 : Int32) (i3 : Int32) (i4 : Int32) (i5 : Int32) (H : (((I 41 1) = 0 → q_W β xs L (d + 1) 66 116 [.ref 38, .int i1, .int i2, .int i3, .int i4, .int i5, .retAddr 0, .retAddr 0, .retAddr 0, .retAddr 0, .retAddr 0] [] (G, I, J) Q) ∧ (¬ (I 41 1) = 0 → (((I 41 1) = 1 → q_W β xs L (d + 1) 66 116 [.ref 38, .int i1, .int i2, .int i3, .int i4, .int i5, .retAddr 0, .retAddr 0, .retAddr 0, .retAddr 0, .retAddr 0] [] (G, I, J) Q) ∧ (¬ (I 41 1) = 1 → ((¬ (I 41 1) = 5 → q_W β xs L (d + 1) 66 121 [.ref 38, .int i1, .int i2, .int i3, .int i4, .int i5, .retAddr 0, .retAddr 0, .retAddr 0, .retAddr 0, .retAddr 0] [.int 0] (G, I, J) Q) ∧ ((I 41 1) = 5 → q_W β xs L (d + 1) 66 116 [.ref 38, .int i1, .int i2, .int i3, .int i4, .int i5, .retAddr 0, .retAddr 0, .retAddr 0, .retAddr 0, .retAddr 0] [] (G, I, J) Q))))))) : q_W β xs L (d + 1) 66 84 [.ref 38, .int i1, .int i2, .int i3, .int i4, .int i5, .retAddr 0, .retAddr 0, .retAddr 0, .retAddr 0, .retAddr 0] [] (G, I, J) Q := by
  refine w_al f_66_84 rfl ?_
  refine w_gr f_66_85 rfl (hR _ _ _ rfl) ?_
  refine w_gi f_66_88 rfl ?_
  refine w_ifeq f_66_91 (fun c => ?_) (fun c => ?_)
  · have H := H.1 c
    exact H
  · have H := H.2 c
    refine w_al f_66_94 rfl ?_
    refine w_gr f_66_95 rfl (hR _ _ _ rfl) ?_
    refine w_gi f_66_98 rfl ?_
    refine w_ic f_66_101 ?_
    refine w_iceq f_66_102 (fun c => ?_) (fun c => ?_)
    · have H := H.1 c
      exact H
    · have H := H.2 c
      refine w_al f_66_105 rfl ?_
      refine w_gr f_66_106 rfl (hR _ _ _ rfl) ?_
      refine w_gi f_66_109 rfl ?_
      refine w_ic f_66_112 ?_
      refine w_icne f_66_113 (fun c => ?_) (fun c => ?_)
      · have H := H.1 c
        refine w_ic f_66_120 ?_
        exact H
      · have H := H.2 c
        exact H
theorem g_66_116 {d : Nat} {G : am_G} {I : Nat → Nat → Int32} {J : Nat → Nat → Int64} {Q : am_O → am_H → Prop} (hR : q_RT G) (i1 : Int32) (i2 : Int32) (i3 : Int32) (i4 : Int32) (i5 : Int32) (H : q_W β xs L (d + 1) 66 121 [.ref 38, .int i1, .int i2, .int i3, .int i4, .int i5, .retAddr 0, .retAddr 0, .retAddr 0, .retAddr 0, .retAddr 0] [.int 1] (G, I, J) Q) : q_W β xs L (d + 1) 66 116 [.ref 38, .int i1, .int i2, .int i3, .int i4, .int i5, .retAddr 0, .retAddr 0, .retAddr 0, .retAddr 0, .retAddr 0] [] (G, I, J) Q := by
  refine w_ic f_66_116 ?_
  refine w_go f_66_117 ?_
  exact H
theorem g_66_121 {d : Nat} {G : am_G} {I : Nat → Nat → Int32} {J : Nat → Nat → Int64} {Q : am_O → am_H → Prop} (hR : q_RT G) (i1 : Int32) (i2 : Int32) (i3 : Int32) (i4 : Int32) (i5 : Int32) (is0 : Int32) (H : ((is0 = 0 → (am_is i2 20 = true ∧ q_W β xs L (d + 1) 66 144 [.ref 38, .int i1, .int i2, .int i3, .int i4, .int i5, .int is0, .retAddr 0, .retAddr 0, .retAddr 0, .retAddr 0] [.int (I 51 (i2).toNatClampNeg)] (G, I, J) Q)) ∧ (¬ is0 = 0 → q_W β xs L (d + 1) 66 144 [.ref 38, .int i1, .int i2, .int i3, .int i4, .int i5, .int is0, .retAddr 0, .retAddr 0, .retAddr 0, .retAddr 0] [.int (I 41 2)] (G, I, J) Q))) : q_W β xs L (d + 1) 66 121 [.ref 38, .int i1, .int i2, .int i3, .int i4, .int i5, .retAddr 0, .retAddr 0, .retAddr 0, .retAddr 0, .retAddr 0] [.int is0] (G, I, J) Q := by
  refine w_is (ls' := [.ref 38, .int i1, .int i2, .int i3, .int i4, .int i5, .int is0, .retAddr 0, .retAddr 0, .retAddr 0, .retAddr 0]) f_66_121 rfl ?_
  refine w_il f_66_123 rfl ?_
  refine w_ifeq f_66_125 (fun c => ?_) (fun c => ?_)
  · have H := H.1 c
    refine w_al f_66_138 rfl ?_
    refine w_gr f_66_139 rfl (hR _ _ _ rfl) ?_
    refine w_il f_66_142 rfl ?_
    have hb := H.1
    have H := H.2
    refine w_ald f_66_143 rfl hb ?_
    exact H
  · have H := H.2 c
    refine w_al f_66_128 rfl ?_
    refine w_gr f_66_129 rfl (hR _ _ _ rfl) ?_
    refine w_gi f_66_132 rfl ?_
    refine w_go f_66_135 ?_
    exact H
theorem g_66_144 {d : Nat} {G : am_G} {I : Nat → Nat → Int32} {J : Nat → Nat → Int64} {Q : am_O → am_H → Prop} (hR : q_RT G) (i1 : Int32) (i2 : Int32) (i3 : Int32) (i4 : Int32) (i5 : Int32) (i6 : Int32) (is0 : Int32) (H : ((is0 < 0 → q_W β xs L (d + 1) 66 166 [.ref 38, .int i1, .int i2, .int i3, .int i4, .int i5, .int i6, .int is0, .retAddr 0, .retAddr 0, .retAddr 0] [] (G, I, J) Q) ∧ (¬ is0 < 0 → (am_is is0 12 = true ∧ ((¬ (I 53 (is0).toNatClampNeg) = i3 → q_W β xs L (d + 1) 66 166 [.ref 38, .int i1, .int i2, .int i3, .int i4, .int i5, .int i6, .int is0, .retAddr 0, .retAddr 0, .retAddr 0] [] (G, I, J) Q) ∧ ((I 53 (is0).toNatClampNeg) = i3 → q_W β xs L (d + 1) 66 167 [.ref 38, .int i1, .int i2, .int i3, .int i4, .int i5, .int i6, .int is0, .retAddr 0, .retAddr 0, .retAddr 0] [.int 1] (G, I, J) Q)))))) : q_W β xs L (d + 1) 66 144 [.ref 38, .int i1, .int i2, .int i3, .int i4, .int i5, .int i6, .retAddr 0, .retAddr 0, .retAddr 0, .retAddr 0] [.int is0] (G, I, J) Q := by
  refine w_is (ls' := [.ref 38, .int i1, .int i2, .int i3, .int i4, .int i5, .int i6, .int is0, .retAddr 0, .retAddr 0, .retAddr 0]) f_66_144 rfl ?_
  refine w_il f_66_146 rfl ?_
  refine w_iflt f_66_148 (fun c => ?_) (fun c => ?_)
  · have H := H.1 c
    exact H
  · have H := H.2 c
    refine w_al f_66_151 rfl ?_
    refine w_gr f_66_152 rfl (hR _ _ _ rfl) ?_
    refine w_il f_66_155 rfl ?_
    have hb := H.1
    have H := H.2
    refine w_ald f_66_157 rfl hb ?_
    refine w_il f_66_158 rfl ?_
    refine w_icne f_66_159 (fun c => ?_) (fun c => ?_)
    · have H := H.1 c
      exact H
    · have H := H.2 c
      refine w_ic f_66_162 ?_
      refine w_go f_66_163 ?_
      exact H
theorem g_66_166 {d : Nat} {G : am_G} {I : Nat → Nat → Int32} {J : Nat → Nat → Int64} {Q : am_O → am_H → Prop} (hR : q_RT G) (i1 : Int32) (i2 : Int32) (i3 : Int32) (i4 : Int32) (i5 : Int32) (i6 : Int32) (i7 : Int32) (H : q_W β xs L (d + 1) 66 167 [.ref 38, .int i1, .int i2, .int i3, .int i4, .int i5, .int i6, .int i7, .retAddr 0, .retAddr 0, .retAddr 0] [.int 0] (G, I, J) Q) : q_W β xs L (d + 1) 66 166 [.ref 38, .int i1, .int i2, .int i3, .int i4, .int i5, .int i6, .int i7, .retAddr 0, .retAddr 0, .retAddr 0] [] (G, I, J) Q := by
  refine w_ic f_66_166 ?_
  exact H
theorem g_66_167 {d : Nat} {G : am_G} {I : Nat → Nat → Int32} {J : Nat → Nat → Int64} {Q : am_O → am_H → Prop} (hR : q_RT G) (i1 : Int32) (i2 : Int32) (i3 : Int32) (i4 : Int32) (i5 : Int32) (i6 : Int32) (i7 : Int32) (is0 : Int32) (H : Q (.inl (some (.int is0))) (G, I, J)) : q_W β xs L (d + 1) 66 167 [.ref 38, .int i1, .int i2, .int i3, .int i4, .int i5, .int i6, .int i7, .retAddr 0, .retAddr 0, .retAddr 0] [.int is0] (G, I, J) Q := by
  exact w_reti f_66_167 H
theorem g_66_168 {d : Nat} {G : am_G} {I : Nat → Nat → Int32} {J : Nat → Nat → Int64} {Q : am_O → am_H → Prop} (hR : q_RT G) (i1 : Int32) (i2 : Int32) (i3 : Int32) (i4 : Int32) (i5 : Int32) (H : ((i4 < 0 → q_W β xs L (d + 1) 66 188 [.ref 38, .int i1, .int i2, .int i3, .int i4, .int i5, .retAddr 0, .retAddr 0, .retAddr 0, .retAddr 0, .retAddr 0] [.int 0] (G, I, J) Q) ∧ (¬ i4 < 0 → (am_is i4 20 = true ∧ q_W β xs L (d + 1) 66 188 [.ref 38, .int i1, .int i2, .int i3, .int i4, .int i5, .retAddr 0, .retAddr 0, .retAddr 0, .retAddr 0, .retAddr 0] [.int (((I 47 (i4).toNatClampNeg) >>> (i3 &&& 31)) &&& 1)] (G, I, J) Q)))) : q_W β xs L (d + 1) 66 168 [.ref 38, .int i1, .int i2, .int i3, .int i4, .int i5, .retAddr 0, .retAddr 0, .retAddr 0, .retAddr 0, .retAddr 0] [] (G, I, J) Q := by
  refine w_il f_66_168 rfl ?_
  refine w_iflt f_66_170 (fun c => ?_) (fun c => ?_)
  · have H := H.1 c
    refine w_ic f_66_187 ?_
    exact H
  · have H := H.2 c
    refine w_al f_66_173 rfl ?_
    refine w_gr f_66_174 rfl (hR _ _ _ rfl) ?_
    refine w_il f_66_177 rfl ?_
    have hb := H.1
    have H := H.2
    refine w_ald f_66_179 rfl hb ?_
    refine w_il f_66_180 rfl ?_
    refine w_bin f_66_181 ?_
    refine w_ic f_66_182 ?_
    refine w_bin f_66_183 ?_
    refine w_go f_66_184 ?_
    exact H
theorem g_66_188 {d : Nat} {G : am_G} {I : Nat → Nat → Int32} {J : Nat → Nat → Int64} {Q : am_O → am_H → Prop} (hR : q_RT G) (i1 : Int32) (i2 : Int32) (i3 : Int32) (i4 : Int32) (i5 : Int32) (is0 : Int32) (H : Q (.inl (some (.int is0))) (G, I, J)) : q_W β xs L (d + 1) 66 188 [.ref 38, .int i1, .int i2, .int i3, .int i4, .int i5, .retAddr 0, .retAddr 0, .retAddr 0, .retAddr 0, .retAddr 0] [.int is0] (G, I, J) Q := by
  exact w_reti f_66_188 H
theorem g_66_189 {d : Nat} {G : am_G} {I : Nat → Nat → Int32} {J : Nat → Nat → Int64} {Q : am_O → am_H → Prop} (hR : q_RT G) (i1 : Int32) (i2 : Int32) (i3 : Int32) (i4 : Int32) (i5 : Int32) (H : ((i5 < 0 → q_W β xs L (d + 1) 66 209 [.ref 38, .int i1, .int i2, .int i3, .int i4, .int i5, .retAddr 0, .retAddr 0, .retAddr 0, .retAddr 0, .retAddr 0] [.int 0] (G, I, J) Q) ∧ (¬ i5 < 0 → (am_is i5 20 = true ∧ q_W β xs L (d + 1) 66 209 [.ref 38, .int i1, .int i2, .int i3, .int i4, .int i5, .retAddr 0, .retAddr 0, .retAddr 0, .retAddr 0, .retAddr 0] [.int (((I 47 (i5).toNatClampNeg) >>> (i3 &&& 31)) &&& 1)] (G, I, J) Q)))) : q_W β xs L (d + 1) 66 189 [.ref 38, .int i1, .int i2, .int i3, .int i4, .int i5, .retAddr 0, .retAddr 0, .retAddr 0, .retAddr 0, .retAddr 0] [] (G, I, J) Q := by
  refine w_il f_66_189 rfl ?_
  refine w_iflt f_66_191 (fun c => ?_) (fun c => ?_)
  · have H := H.1 c
    refine w_ic f_66_208 ?_
    exact H
  · have H := H.2 c
    refine w_al f_66_194 rfl ?_
    refine w_gr f_66_195 rfl (hR _ _ _ rfl) ?_
    refine w_il f_66_198 rfl ?_
    have hb := H.1
    have H := H.2
    refine w_ald f_66_200 rfl hb ?_
    refine w_il f_66_201 rfl ?_
    refine w_bin f_66_202 ?_
    refine w_ic f_66_203 ?_
    refine w_bin f_66_204 ?_
    refine w_go f_66_205 ?_
    exact H
theorem g_66_209 {d : Nat} {G : am_G} {I : Nat → Nat → Int32} {J : Nat → Nat → Int64} {Q : am_O → am_H → Prop} (hR : q_RT G) (i1 : Int32) (i2 : Int32) (i3 : Int32) (i4 : Int32) (i5 : Int32) (is0 : Int32) (H : Q (.inl (some (.int is0))) (G, I, J)) : q_W β xs L (d + 1) 66 209 [.ref 38, .int i1, .int i2, .int i3, .int i4, .int i5, .retAddr 0, .retAddr 0, .retAddr 0, .retAddr 0, .retAddr 0] [.int is0] (G, I, J) Q := by
  exact w_reti f_66_209 H
theorem g_66_210 {d : Nat} {G : am_G} {I : Nat → Nat → Int32} {J : Nat → Nat → Int64} {Q : am_O → am_H → Prop} (hR : q_RT G) (i1 : Int32) (i2 : Int32) (i3 : Int32) (i4 : Int32) (i5 : Int32) (H : (((I 41 1) = 0 → ((i4 < 0 → q_W β xs L (d + 1) 66 249 [.ref 38, .int i1, .int i2, .int i3, .int i4, .int i5, .retAddr 0, .retAddr 0, .retAddr 0, .retAddr 0, .retAddr 0] [] (G, I, J) Q) ∧ (¬ i4 < 0 → ((i5 < 0 → q_W β xs L (d + 1) 66 249 [.ref 38, .int i1, .int i2, .int i3, .int i4, .int i5, .retAddr 0, .retAddr 0, .retAddr 0, .retAddr 0, .retAddr 0] [] (G, I, J) Q) ∧ (¬ i5 < 0 → q_W β xs L (d + 1) 66 250 [.ref 38, .int i1, .int i2, .int i3, .int i4, .int i5, .retAddr 0, .retAddr 0, .retAddr 0, .retAddr 0, .retAddr 0] [.int 1] (G, I, J) Q))))) ∧ (¬ (I 41 1) = 0 → (am_is i2 20 = true ∧ (((I 50 (i2).toNatClampNeg) < 0 → q_W β xs L (d + 1) 66 234 [.ref 38, .int i1, .int i2, .int i3, .int i4, .int i5, .retAddr 0, .retAddr 0, .retAddr 0, .retAddr 0, .retAddr 0] [.int 0] (G, I, J) Q) ∧ (¬ (I 50 (i2).toNatClampNeg) < 0 → q_W β xs L (d + 1) 66 234 [.ref 38, .int i1, .int i2, .int i3, .int i4, .int i5, .retAddr 0, .retAddr 0, .retAddr 0, .retAddr 0, .retAddr 0] [.int 1] (G, I, J) Q)))))) : q_W β xs L (d + 1) 66 210 [.ref 38, .int i1, .int i2, .int i3, .int i4, .int i5, .retAddr 0, .retAddr 0, .retAddr 0, .retAddr 0, .retAddr 0] [] (G, I, J) Q := by
  refine w_al f_66_210 rfl ?_
  refine w_gr f_66_211 rfl (hR _ _ _ rfl) ?_
  refine w_gi f_66_214 rfl ?_
  refine w_ifeq f_66_217 (fun c => ?_) (fun c => ?_)
  · have H := H.1 c
    refine w_il f_66_235 rfl ?_
    refine w_iflt f_66_237 (fun c => ?_) (fun c => ?_)
    · have H := H.1 c
      exact H
    · have H := H.2 c
      refine w_il f_66_240 rfl ?_
      refine w_iflt f_66_242 (fun c => ?_) (fun c => ?_)
      · have H := H.1 c
        exact H
      · have H := H.2 c
        refine w_ic f_66_245 ?_
        refine w_go f_66_246 ?_
        exact H
  · have H := H.2 c
    refine w_al f_66_220 rfl ?_
    refine w_gr f_66_221 rfl (hR _ _ _ rfl) ?_
    refine w_il f_66_224 rfl ?_
    have hb := H.1
    have H := H.2
    refine w_ald f_66_225 rfl hb ?_
    refine w_iflt f_66_226 (fun c => ?_) (fun c => ?_)
    · have H := H.1 c
      refine w_ic f_66_233 ?_
      exact H
    · have H := H.2 c
      refine w_ic f_66_229 ?_
      refine w_go f_66_230 ?_
      exact H
theorem g_66_234 {d : Nat} {G : am_G} {I : Nat → Nat → Int32} {J : Nat → Nat → Int64} {Q : am_O → am_H → Prop} (hR : q_RT G) (i1 : Int32) (i2 : Int32) (i3 : Int32) (i4 : Int32) (i5 : Int32) (is0 : Int32) (H : Q (.inl (some (.int is0))) (G, I, J)) : q_W β xs L (d + 1) 66 234 [.ref 38, .int i1, .int i2, .int i3, .int i4, .int i5, .retAddr 0, .retAddr 0, .retAddr 0, .retAddr 0, .retAddr 0] [.int is0] (G, I, J) Q := by
  exact w_reti f_66_234 H
theorem g_66_249 {d : Nat} {G : am_G} {I : Nat → Nat → Int32} {J : Nat → Nat → Int64} {Q : am_O → am_H → Prop} (hR : q_RT G) (i1 : Int32) (i2 : Int32) (i3 : Int32) (i4 : Int32) (i5 : Int32) (H : q_W β xs L (d + 1) 66 250 [.ref 38, .int i1, .int i2, .int i3, .int i4, .int i5, .retAddr 0, .retAddr 0, .retAddr 0, .retAddr 0, .retAddr 0] [.int 0] (G, I, J) Q) : q_W β xs L (d + 1) 66 249 [.ref 38, .int i1, .int i2, .int i3, .int i4, .int i5, .retAddr 0, .retAddr 0, .retAddr 0, .retAddr 0, .retAddr 0] [] (G, I, J) Q := by
  refine w_ic f_66_249 ?_
  exact H
theorem g_66_250 {d : Nat} {G : am_G} {I : Nat → Nat → Int32} {J : Nat → Nat → Int64} {Q : am_O → am_H → Prop} (hR : q_RT G) (i1 : Int32) (i2 : Int32) (i3 : Int32) (i4 : Int32) (i5 : Int32) (is0 : Int32) (H : ((is0 = 0 → q_W β xs L (d + 1) 66 285 [.ref 38, .int i1, .int i2, .int i3, .int i4, .int i5, .retAddr 0, .retAddr 0, .int is0, .retAddr 0, .retAddr 0] [] (G, I, J) Q) ∧ (¬ is0 = 0 → (am_is i4 20 = true ∧ ((¬ (I 50 (i4).toNatClampNeg) = i5 → q_W β xs L (d + 1) 66 285 [.ref 38, .int i1, .int i2, .int i3, .int i4, .int i5, .retAddr 0, .retAddr 0, .int is0, .retAddr 0, .retAddr 0] [] (G, I, J) Q) ∧ ((I 50 (i4).toNatClampNeg) = i5 → (am_is i5 20 = true ∧ ((¬ (I 50 (i5).toNatClampNeg) = i4 → q_W β xs L (d + 1) 66 285 [.ref 38, .int i1, .int i2, .int i3, .int i4, .int i5, .retAddr 0, .retAddr 0, .int is0, .retAddr 0, .retAddr 0] [] (G, I, J) Q) ∧ ((I 50 (i5).toNatClampNeg) = i4 → q_W β xs L (d + 1) 66 286 [.ref 38, .int i1, .int i2, .int i3, .int i4, .int i5, .retAddr 0, .retAddr 0, .int is0, .retAddr 0, .retAddr 0] [.int 1] (G, I, J) Q))))))))) : q_W β xs L (d + 1) 66 250 [.ref 38, .int i1, .int i2, .int i3, .int i4, .int i5, .retAddr 0, .retAddr 0, .retAddr 0, .retAddr 0, .retAddr 0] [.int is0] (G, I, J) Q := by
  refine w_is (ls' := [.ref 38, .int i1, .int i2, .int i3, .int i4, .int i5, .retAddr 0, .retAddr 0, .int is0, .retAddr 0, .retAddr 0]) f_66_250 rfl ?_
  refine w_il f_66_252 rfl ?_
  refine w_ifeq f_66_254 (fun c => ?_) (fun c => ?_)
  · have H := H.1 c
    exact H
  · have H := H.2 c
    refine w_al f_66_257 rfl ?_
    refine w_gr f_66_258 rfl (hR _ _ _ rfl) ?_
    refine w_il f_66_261 rfl ?_
    have hb := H.1
    have H := H.2
    refine w_ald f_66_263 rfl hb ?_
    refine w_il f_66_264 rfl ?_
    refine w_icne f_66_266 (fun c => ?_) (fun c => ?_)
    · have H := H.1 c
      exact H
    · have H := H.2 c
      refine w_al f_66_269 rfl ?_
      refine w_gr f_66_270 rfl (hR _ _ _ rfl) ?_
      refine w_il f_66_273 rfl ?_
      have hb := H.1
      have H := H.2
      refine w_ald f_66_275 rfl hb ?_
      refine w_il f_66_276 rfl ?_
      refine w_icne f_66_278 (fun c => ?_) (fun c => ?_)
      · have H := H.1 c
        exact H
      · have H := H.2 c
        refine w_ic f_66_281 ?_
        refine w_go f_66_282 ?_
        exact H
theorem g_66_285 {d : Nat} {G : am_G} {I : Nat → Nat → Int32} {J : Nat → Nat → Int64} {Q : am_O → am_H → Prop} (hR : q_RT G) (i1 : Int32) (i2 : Int32) (i3 : Int32) (i4 : Int32) (i5 : Int32) (i8 : Int32) (H : q_W β xs L (d + 1) 66 286 [.ref 38, .int i1, .int i2, .int i3, .int i4, .int i5, .retAddr 0, .retAddr 0, .int i8, .retAddr 0, .retAddr 0] [.int 0] (G, I, J) Q) : q_W β xs L (d + 1) 66 285 [.ref 38, .int i1, .int i2, .int i3, .int i4, .int i5, .retAddr 0, .retAddr 0, .int i8, .retAddr 0, .retAddr 0] [] (G, I, J) Q := by
  refine w_ic f_66_285 ?_
  exact H
theorem g_66_286 {d : Nat} {G : am_G} {I : Nat → Nat → Int32} {J : Nat → Nat → Int64} {Q : am_O → am_H → Prop} (hR : q_RT G) (i1 : Int32) (i2 : Int32) (i3 : Int32) (i4 : Int32) (i5 : Int32) (i8 : Int32) (is0 : Int32) (H : Q (.inl (some (.int is0))) (G, I, J)) : q_W β xs L (d + 1) 66 286 [.ref 38, .int i1, .int i2, .int i3, .int i4, .int i5, .retAddr 0, .retAddr 0, .int i8, .retAddr 0, .retAddr 0] [.int is0] (G, I, J) Q := by
  exact w_reti f_66_286 H
theorem g_66_287 {d : Nat} {G : am_G} {I : Nat → Nat → Int32} {J : Nat → Nat → Int64} {Q : am_O → am_H → Prop} (hR : q_RT G) (i1 : Int32) (i2 : Int32) (i3 : Int32) (i4 : Int32) (i5 : Int32) (H : ((¬ (I 41 1) = 1 → (am_is i2 20 = true ∧ (((I 50 (i2).toNatClampNeg) < 0 → q_W β xs L (d + 1) 66 359 [.ref 38, .int i1, .int i2, .int i3, .int i4, .int i5, .retAddr 0, .retAddr 0, .retAddr 0, .retAddr 0, .retAddr 0] [.int 0] (G, I, J) Q) ∧ (¬ (I 50 (i2).toNatClampNeg) < 0 → (am_is i2 20 = true ∧ (am_is (I 50 (i2).toNatClampNeg) 20 = true ∧ q_W β xs L (d + 1) 66 359 [.ref 38, .int i1, .int i2, .int i3, .int i4, .int i5, .retAddr 0, .retAddr 0, .retAddr 0, .retAddr 0, .retAddr 0] [.int (((I 47 ((I 50 (i2).toNatClampNeg)).toNatClampNeg) >>> (i3 &&& 31)) &&& 1)] (G, I, J) Q)))))) ∧ ((I 41 1) = 1 → ((¬ i2 = (I 41 6) → q_W β xs L (d + 1) 66 326 [.ref 38, .int i1, .int i2, .int i3, .int i4, .int i5, .retAddr 0, .retAddr 0, .retAddr 0, .retAddr 0, .retAddr 0] [.int (I 41 8)] (G, I, J) Q) ∧ (i2 = (I 41 6) → q_W β xs L (d + 1) 66 326 [.ref 38, .int i1, .int i2, .int i3, .int i4, .int i5, .retAddr 0, .retAddr 0, .retAddr 0, .retAddr 0, .retAddr 0] [.int (I 41 9)] (G, I, J) Q))))) : q_W β xs L (d + 1) 66 287 [.ref 38, .int i1, .int i2, .int i3, .int i4, .int i5, .retAddr 0, .retAddr 0, .retAddr 0, .retAddr 0, .retAddr 0] [] (G, I, J) Q := by
  refine w_al f_66_287 rfl ?_
  refine w_gr f_66_288 rfl (hR _ _ _ rfl) ?_
  refine w_gi f_66_291 rfl ?_
  refine w_ic f_66_294 ?_
  refine w_icne f_66_295 (fun c => ?_) (fun c => ?_)
  · have H := H.1 c
    refine w_al f_66_331 rfl ?_
    refine w_gr f_66_332 rfl (hR _ _ _ rfl) ?_
    refine w_il f_66_335 rfl ?_
    have hb := H.1
    have H := H.2
    refine w_ald f_66_336 rfl hb ?_
    refine w_iflt f_66_337 (fun c => ?_) (fun c => ?_)
    · have H := H.1 c
      refine w_ic f_66_358 ?_
      exact H
    · have H := H.2 c
      refine w_al f_66_340 rfl ?_
      refine w_gr f_66_341 rfl (hR _ _ _ rfl) ?_
      refine w_al f_66_344 rfl ?_
      refine w_gr f_66_345 rfl (hR _ _ _ rfl) ?_
      refine w_il f_66_348 rfl ?_
      have hb := H.1
      have H := H.2
      refine w_ald f_66_349 rfl hb ?_
      have hb := H.1
      have H := H.2
      refine w_ald f_66_350 rfl hb ?_
      refine w_il f_66_351 rfl ?_
      refine w_bin f_66_352 ?_
      refine w_ic f_66_353 ?_
      refine w_bin f_66_354 ?_
      refine w_go f_66_355 ?_
      exact H
  · have H := H.2 c
    refine w_il f_66_298 rfl ?_
    refine w_al f_66_299 rfl ?_
    refine w_gr f_66_300 rfl (hR _ _ _ rfl) ?_
    refine w_gi f_66_303 rfl ?_
    refine w_icne f_66_306 (fun c => ?_) (fun c => ?_)
    · have H := H.1 c
      refine w_al f_66_319 rfl ?_
      refine w_gr f_66_320 rfl (hR _ _ _ rfl) ?_
      refine w_gi f_66_323 rfl ?_
      exact H
    · have H := H.2 c
      refine w_al f_66_309 rfl ?_
      refine w_gr f_66_310 rfl (hR _ _ _ rfl) ?_
      refine w_gi f_66_313 rfl ?_
      refine w_go f_66_316 ?_
      exact H
theorem g_66_326 {d : Nat} {G : am_G} {I : Nat → Nat → Int32} {J : Nat → Nat → Int64} {Q : am_O → am_H → Prop} (hR : q_RT G) (i1 : Int32) (i2 : Int32) (i3 : Int32) (i4 : Int32) (i5 : Int32) (is0 : Int32) (H : Q (.inl (some (.int ((is0 >>> (i3 &&& 31)) &&& 1)))) (G, I, J)) : q_W β xs L (d + 1) 66 326 [.ref 38, .int i1, .int i2, .int i3, .int i4, .int i5, .retAddr 0, .retAddr 0, .retAddr 0, .retAddr 0, .retAddr 0] [.int is0] (G, I, J) Q := by
  refine w_il f_66_326 rfl ?_
  refine w_bin f_66_327 ?_
  refine w_ic f_66_328 ?_
  refine w_bin f_66_329 ?_
  exact w_reti f_66_330 H
theorem g_66_359 {d : Nat} {G : am_G} {I : Nat → Nat → Int32} {J : Nat → Nat → Int64} {Q : am_O → am_H → Prop} (hR : q_RT G) (i1 : Int32) (i2 : Int32) (i3 : Int32) (i4 : Int32) (i5 : Int32) (is0 : Int32) (H : Q (.inl (some (.int is0))) (G, I, J)) : q_W β xs L (d + 1) 66 359 [.ref 38, .int i1, .int i2, .int i3, .int i4, .int i5, .retAddr 0, .retAddr 0, .retAddr 0, .retAddr 0, .retAddr 0] [.int is0] (G, I, J) Q := by
  exact w_reti f_66_359 H
theorem g_66_360 {d : Nat} {G : am_G} {I : Nat → Nat → Int32} {J : Nat → Nat → Int64} {Q : am_O → am_H → Prop} (hR : q_RT G) (i1 : Int32) (i2 : Int32) (i3 : Int32) (i4 : Int32) (i5 : Int32) (H : (am_is i2 20 = true ∧ Q (.inl (some (.int (I 4 (i2).toNatClampNeg)))) (G, I, J))) : q_W β xs L (d + 1) 66 360 [.ref 38, .int i1, .int i2, .int i3, .int i4, .int i5, .retAddr 0, .retAddr 0, .retAddr 0, .retAddr 0, .retAddr 0] [] (G, I, J) Q := by
  refine w_al f_66_360 rfl ?_
  refine w_gr f_66_361 rfl (hR _ _ _ rfl) ?_
  refine w_gr f_66_364 rfl (hR _ _ _ rfl) ?_
  refine w_il f_66_367 rfl ?_
  have hb := H.1
  have H := H.2
  refine w_ald f_66_368 rfl hb ?_
  exact w_reti f_66_369 H
theorem g_66_370 {d : Nat} {G : am_G} {I : Nat → Nat → Int32} {J : Nat → Nat → Int64} {Q : am_O → am_H → Prop} (hR : q_RT G) (i1 : Int32) (i2 : Int32) (i3 : Int32) (i4 : Int32) (i5 : Int32) (H : (am_is i2 20 = true ∧ (((I 48 (i2).toNatClampNeg) < 0 → q_W β xs L (d + 1) 66 401 [.ref 38, .int i1, .int i2, .int i3, .int i4, .int i5, .retAddr 0, .retAddr 0, .retAddr 0, .retAddr 0, .retAddr 0] [.int 0] (G, I, J) Q) ∧ (¬ (I 48 (i2).toNatClampNeg) < 0 → (am_is i2 20 = true ∧ ((365 : Int32) ≠ 0 ∧ q_W β xs L (d + 1) 66 401 [.ref 38, .int i1, .int i2, .int i3, .int i4, .int i5, .retAddr 0, .retAddr 0, .retAddr 0, .retAddr 0, .retAddr 0] [.int (((I 41 0) - (I 48 (i2).toNatClampNeg)) / 365)] (G, I, J) Q)))))) : q_W β xs L (d + 1) 66 370 [.ref 38, .int i1, .int i2, .int i3, .int i4, .int i5, .retAddr 0, .retAddr 0, .retAddr 0, .retAddr 0, .retAddr 0] [] (G, I, J) Q := by
  refine w_al f_66_370 rfl ?_
  refine w_gr f_66_371 rfl (hR _ _ _ rfl) ?_
  refine w_il f_66_374 rfl ?_
  have hb := H.1
  have H := H.2
  refine w_ald f_66_375 rfl hb ?_
  refine w_iflt f_66_376 (fun c => ?_) (fun c => ?_)
  · have H := H.1 c
    refine w_ic f_66_400 ?_
    exact H
  · have H := H.2 c
    refine w_al f_66_379 rfl ?_
    refine w_gr f_66_380 rfl (hR _ _ _ rfl) ?_
    refine w_gi f_66_383 rfl ?_
    refine w_al f_66_386 rfl ?_
    refine w_gr f_66_387 rfl (hR _ _ _ rfl) ?_
    refine w_il f_66_390 rfl ?_
    have hb := H.1
    have H := H.2
    refine w_ald f_66_391 rfl hb ?_
    refine w_bin f_66_392 ?_
    refine w_ic f_66_393 ?_
    have hb := H.1
    have H := H.2
    refine w_div f_66_396 hb ?_
    refine w_go f_66_397 ?_
    exact H
theorem g_66_401 {d : Nat} {G : am_G} {I : Nat → Nat → Int32} {J : Nat → Nat → Int64} {Q : am_O → am_H → Prop} (hR : q_RT G) (i1 : Int32) (i2 : Int32) (i3 : Int32) (i4 : Int32) (i5 : Int32) (is0 : Int32) (H : Q (.inl (some (.int is0))) (G, I, J)) : q_W β xs L (d + 1) 66 401 [.ref 38, .int i1, .int i2, .int i3, .int i4, .int i5, .retAddr 0, .retAddr 0, .retAddr 0, .retAddr 0, .retAddr 0] [.int is0] (G, I, J) Q := by
  exact w_reti f_66_401 H
theorem g_66_402 {d : Nat} {G : am_G} {I : Nat → Nat → Int32} {J : Nat → Nat → Int64} {Q : am_O → am_H → Prop} (hR : q_RT G) (i1 : Int32) (i2 : Int32) (i3 : Int32) (i4 : Int32) (i5 : Int32) (H : (am_is i2 20 = true ∧ (((I 51 (i2).toNatClampNeg) < 0 → q_W β xs L (d + 1) 66 430 [.ref 38, .int i1, .int i2, .int i3, .int i4, .int i5, .retAddr 0, .retAddr 0, .retAddr 0, .retAddr 0, .retAddr 0] [] (G, I, J) Q) ∧ (¬ (I 51 (i2).toNatClampNeg) < 0 → (am_is i2 20 = true ∧ (am_is (I 51 (i2).toNatClampNeg) 12 = true ∧ ((¬ (I 53 ((I 51 (i2).toNatClampNeg)).toNatClampNeg) = i3 → q_W β xs L (d + 1) 66 430 [.ref 38, .int i1, .int i2, .int i3, .int i4, .int i5, .retAddr 0, .retAddr 0, .retAddr 0, .retAddr 0, .retAddr 0] [] (G, I, J) Q) ∧ ((I 53 ((I 51 (i2).toNatClampNeg)).toNatClampNeg) = i3 → q_W β xs L (d + 1) 66 431 [.ref 38, .int i1, .int i2, .int i3, .int i4, .int i5, .retAddr 0, .retAddr 0, .retAddr 0, .retAddr 0, .retAddr 0] [.int 1] (G, I, J) Q)))))))) : q_W β xs L (d + 1) 66 402 [.ref 38, .int i1, .int i2, .int i3, .int i4, .int i5, .retAddr 0, .retAddr 0, .retAddr 0, .retAddr 0, .retAddr 0] [] (G, I, J) Q := by
  refine w_al f_66_402 rfl ?_
  refine w_gr f_66_403 rfl (hR _ _ _ rfl) ?_
  refine w_il f_66_406 rfl ?_
  have hb := H.1
  have H := H.2
  refine w_ald f_66_407 rfl hb ?_
  refine w_iflt f_66_408 (fun c => ?_) (fun c => ?_)
  · have H := H.1 c
    exact H
  · have H := H.2 c
    refine w_al f_66_411 rfl ?_
    refine w_gr f_66_412 rfl (hR _ _ _ rfl) ?_
    refine w_al f_66_415 rfl ?_
    refine w_gr f_66_416 rfl (hR _ _ _ rfl) ?_
    refine w_il f_66_419 rfl ?_
    have hb := H.1
    have H := H.2
    refine w_ald f_66_420 rfl hb ?_
    have hb := H.1
    have H := H.2
    refine w_ald f_66_421 rfl hb ?_
    refine w_il f_66_422 rfl ?_
    refine w_icne f_66_423 (fun c => ?_) (fun c => ?_)
    · have H := H.1 c
      exact H
    · have H := H.2 c
      refine w_ic f_66_426 ?_
      refine w_go f_66_427 ?_
      exact H
theorem g_66_430 {d : Nat} {G : am_G} {I : Nat → Nat → Int32} {J : Nat → Nat → Int64} {Q : am_O → am_H → Prop} (hR : q_RT G) (i1 : Int32) (i2 : Int32) (i3 : Int32) (i4 : Int32) (i5 : Int32) (H : q_W β xs L (d + 1) 66 431 [.ref 38, .int i1, .int i2, .int i3, .int i4, .int i5, .retAddr 0, .retAddr 0, .retAddr 0, .retAddr 0, .retAddr 0] [.int 0] (G, I, J) Q) : q_W β xs L (d + 1) 66 430 [.ref 38, .int i1, .int i2, .int i3, .int i4, .int i5, .retAddr 0, .retAddr 0, .retAddr 0, .retAddr 0, .retAddr 0] [] (G, I, J) Q := by
  refine w_ic f_66_430 ?_
  exact H
theorem g_66_431 {d : Nat} {G : am_G} {I : Nat → Nat → Int32} {J : Nat → Nat → Int64} {Q : am_O → am_H → Prop} (hR : q_RT G) (i1 : Int32) (i2 : Int32) (i3 : Int32) (i4 : Int32) (i5 : Int32) (is0 : Int32) (H : ((is0 = 0 → q_W β xs L (d + 1) 66 456 [.ref 38, .int i1, .int i2, .int i3, .int i4, .int i5, .retAddr 0, .retAddr 0, .retAddr 0, .int is0, .retAddr 0] [.int 0] (G, I, J) Q) ∧ (¬ is0 = 0 → (am_is i2 20 = true ∧ q_W β xs L (d + 1) 66 456 [.ref 38, .int i1, .int i2, .int i3, .int i4, .int i5, .retAddr 0, .retAddr 0, .retAddr 0, .int is0, .retAddr 0] [.int ((I 41 0) - (I 52 (i2).toNatClampNeg))] (G, I, J) Q)))) : q_W β xs L (d + 1) 66 431 [.ref 38, .int i1, .int i2, .int i3, .int i4, .int i5, .retAddr 0, .retAddr 0, .retAddr 0, .retAddr 0, .retAddr 0] [.int is0] (G, I, J) Q := by
  refine w_is (ls' := [.ref 38, .int i1, .int i2, .int i3, .int i4, .int i5, .retAddr 0, .retAddr 0, .retAddr 0, .int is0, .retAddr 0]) f_66_431 rfl ?_
  refine w_il f_66_433 rfl ?_
  refine w_ifeq f_66_435 (fun c => ?_) (fun c => ?_)
  · have H := H.1 c
    refine w_ic f_66_455 ?_
    exact H
  · have H := H.2 c
    refine w_al f_66_438 rfl ?_
    refine w_gr f_66_439 rfl (hR _ _ _ rfl) ?_
    refine w_gi f_66_442 rfl ?_
    refine w_al f_66_445 rfl ?_
    refine w_gr f_66_446 rfl (hR _ _ _ rfl) ?_
    refine w_il f_66_449 rfl ?_
    have hb := H.1
    have H := H.2
    refine w_ald f_66_450 rfl hb ?_
    refine w_bin f_66_451 ?_
    refine w_go f_66_452 ?_
    exact H
theorem g_66_456 {d : Nat} {G : am_G} {I : Nat → Nat → Int32} {J : Nat → Nat → Int64} {Q : am_O → am_H → Prop} (hR : q_RT G) (i1 : Int32) (i2 : Int32) (i3 : Int32) (i4 : Int32) (i5 : Int32) (i9 : Int32) (is0 : Int32) (H : Q (.inl (some (.int is0))) (G, I, J)) : q_W β xs L (d + 1) 66 456 [.ref 38, .int i1, .int i2, .int i3, .int i4, .int i5, .retAddr 0, .retAddr 0, .retAddr 0, .int i9, .retAddr 0] [.int is0] (G, I, J) Q := by
  exact w_reti f_66_456 H
theorem g_66_457 {d : Nat} {G : am_G} {I : Nat → Nat → Int32} {J : Nat → Nat → Int64} {Q : am_O → am_H → Prop} (hR : q_RT G) (i1 : Int32) (i2 : Int32) (i3 : Int32) (i4 : Int32) (i5 : Int32) (H : (am_is i2 20 = true ∧ Q (.inl (some (.int (((I 47 (i2).toNatClampNeg) >>> (i3 &&& 31)) &&& 1)))) (G, I, J))) : q_W β xs L (d + 1) 66 457 [.ref 38, .int i1, .int i2, .int i3, .int i4, .int i5, .retAddr 0, .retAddr 0, .retAddr 0, .retAddr 0, .retAddr 0] [] (G, I, J) Q := by
  refine w_al f_66_457 rfl ?_
  refine w_gr f_66_458 rfl (hR _ _ _ rfl) ?_
  refine w_il f_66_461 rfl ?_
  have hb := H.1
  have H := H.2
  refine w_ald f_66_462 rfl hb ?_
  refine w_il f_66_463 rfl ?_
  refine w_bin f_66_464 ?_
  refine w_ic f_66_465 ?_
  refine w_bin f_66_466 ?_
  exact w_reti f_66_467 H
theorem g_66_468 {d : Nat} {G : am_G} {I : Nat → Nat → Int32} {J : Nat → Nat → Int64} {Q : am_O → am_H → Prop} (hR : q_RT G) (i1 : Int32) (i2 : Int32) (i3 : Int32) (i4 : Int32) (i5 : Int32) (H : (am_is i2 20 = true ∧ q_W β xs L d 200 0 [.int ((I 47 (i2).toNatClampNeg) &&& ((1 <<< (i3 &&& 31)) ^^^ (-1)))] [] (G, I, J) (q_Ri (fun y1 G1 I1 J1 => Q (.inl (some (.int y1))) (G1, I1, J1)) (fun x1 G1 I1 J1 => Q (.inr x1) (G1, I1, J1))))) : q_W β xs L (d + 1) 66 468 [.ref 38, .int i1, .int i2, .int i3, .int i4, .int i5, .retAddr 0, .retAddr 0, .retAddr 0, .retAddr 0, .retAddr 0] [] (G, I, J) Q := by
  refine w_al f_66_468 rfl ?_
  refine w_gr f_66_469 rfl (hR _ _ _ rfl) ?_
  refine w_il f_66_472 rfl ?_
  have hb := H.1
  have H := H.2
  refine w_ald f_66_473 rfl hb ?_
  refine w_ic f_66_474 ?_
  refine w_il f_66_475 rfl ?_
  refine w_bin f_66_476 ?_
  refine w_ic f_66_477 ?_
  refine w_bin f_66_478 ?_
  refine w_bin f_66_479 ?_
  refine w_invs (as := [.int ((I 47 (i2).toNatClampNeg) &&& ((1 <<< (i3 &&& 31)) ^^^ (-1)))]) (st' := []) f_66_480 rfl rfl rfl rfl rfl H (k_i (fun y1 G1 I1 J1 H => ?_)) (x_n (fun _ => rfl) rfl (fun x h' h => h))
  exact w_reti f_66_483 H
theorem g_66_484 {d : Nat} {G : am_G} {I : Nat → Nat → Int32} {J : Nat → Nat → Int64} {Q : am_O → am_H → Prop} (hR : q_RT G) (i1 : Int32) (i2 : Int32) (i3 : Int32) (i4 : Int32) (i5 : Int32) (H : ((¬ (I 41 3) = i3 → q_W β xs L (d + 1) 66 500 [.ref 38, .int i1, .int i2, .int i3, .int i4, .int i5, .retAddr 0, .retAddr 0, .retAddr 0, .retAddr 0, .retAddr 0] [.int 0] (G, I, J) Q) ∧ ((I 41 3) = i3 → q_W β xs L (d + 1) 66 500 [.ref 38, .int i1, .int i2, .int i3, .int i4, .int i5, .retAddr 0, .retAddr 0, .retAddr 0, .retAddr 0, .retAddr 0] [.int 1] (G, I, J) Q))) : q_W β xs L (d + 1) 66 484 [.ref 38, .int i1, .int i2, .int i3, .int i4, .int i5, .retAddr 0, .retAddr 0, .retAddr 0, .retAddr 0, .retAddr 0] [] (G, I, J) Q := by
  refine w_al f_66_484 rfl ?_
  refine w_gr f_66_485 rfl (hR _ _ _ rfl) ?_
  refine w_gi f_66_488 rfl ?_
  refine w_il f_66_491 rfl ?_
  refine w_icne f_66_492 (fun c => ?_) (fun c => ?_)
  · have H := H.1 c
    refine w_ic f_66_499 ?_
    exact H
  · have H := H.2 c
    refine w_ic f_66_495 ?_
    refine w_go f_66_496 ?_
    exact H
theorem g_66_500 {d : Nat} {G : am_G} {I : Nat → Nat → Int32} {J : Nat → Nat → Int64} {Q : am_O → am_H → Prop} (hR : q_RT G) (i1 : Int32) (i2 : Int32) (i3 : Int32) (i4 : Int32) (i5 : Int32) (is0 : Int32) (H : Q (.inl (some (.int is0))) (G, I, J)) : q_W β xs L (d + 1) 66 500 [.ref 38, .int i1, .int i2, .int i3, .int i4, .int i5, .retAddr 0, .retAddr 0, .retAddr 0, .retAddr 0, .retAddr 0] [.int is0] (G, I, J) Q := by
  exact w_reti f_66_500 H
theorem g_66_501 {d : Nat} {G : am_G} {I : Nat → Nat → Int32} {J : Nat → Nat → Int64} {Q : am_O → am_H → Prop} (hR : q_RT G) (i1 : Int32) (i2 : Int32) (i3 : Int32) (i4 : Int32) (i5 : Int32) (H : ((365 : Int32) ≠ 0 ∧ Q (.inl (some (.int ((I 41 0) / 365)))) (G, I, J))) : q_W β xs L (d + 1) 66 501 [.ref 38, .int i1, .int i2, .int i3, .int i4, .int i5, .retAddr 0, .retAddr 0, .retAddr 0, .retAddr 0, .retAddr 0] [] (G, I, J) Q := by
  refine w_al f_66_501 rfl ?_
  refine w_gr f_66_502 rfl (hR _ _ _ rfl) ?_
  refine w_gi f_66_505 rfl ?_
  refine w_ic f_66_508 ?_
  have hb := H.1
  have H := H.2
  refine w_div f_66_511 hb ?_
  exact w_reti f_66_512 H
theorem g_66_513 {d : Nat} {G : am_G} {I : Nat → Nat → Int32} {J : Nat → Nat → Int64} {Q : am_O → am_H → Prop} (hR : q_RT G) (i1 : Int32) (i2 : Int32) (i3 : Int32) (i4 : Int32) (i5 : Int32) (H : (am_is i2 20 = true ∧ (((I 49 (i2).toNatClampNeg) < 0 → q_W β xs L (d + 1) 66 540 [.ref 38, .int i1, .int i2, .int i3, .int i4, .int i5, .retAddr 0, .retAddr 0, .retAddr 0, .retAddr 0, .retAddr 0] [] (G, I, J) Q) ∧ (¬ (I 49 (i2).toNatClampNeg) < 0 → (am_is i2 20 = true ∧ (am_is (I 49 (i2).toNatClampNeg) 12 = true ∧ (((I 54 ((I 49 (i2).toNatClampNeg)).toNatClampNeg) < 0 → q_W β xs L (d + 1) 66 540 [.ref 38, .int i1, .int i2, .int i3, .int i4, .int i5, .retAddr 0, .retAddr 0, .retAddr 0, .retAddr 0, .retAddr 0] [] (G, I, J) Q) ∧ (¬ (I 54 ((I 49 (i2).toNatClampNeg)).toNatClampNeg) < 0 → q_W β xs L (d + 1) 66 541 [.ref 38, .int i1, .int i2, .int i3, .int i4, .int i5, .retAddr 0, .retAddr 0, .retAddr 0, .retAddr 0, .retAddr 0] [.int 1] (G, I, J) Q)))))))) : q_W β xs L (d + 1) 66 513 [.ref 38, .int i1, .int i2, .int i3, .int i4, .int i5, .retAddr 0, .retAddr 0, .retAddr 0, .retAddr 0, .retAddr 0] [] (G, I, J) Q := by
  refine w_al f_66_513 rfl ?_
  refine w_gr f_66_514 rfl (hR _ _ _ rfl) ?_
  refine w_il f_66_517 rfl ?_
  have hb := H.1
  have H := H.2
  refine w_ald f_66_518 rfl hb ?_
  refine w_iflt f_66_519 (fun c => ?_) (fun c => ?_)
  · have H := H.1 c
    exact H
  · have H := H.2 c
    refine w_al f_66_522 rfl ?_
    refine w_gr f_66_523 rfl (hR _ _ _ rfl) ?_
    refine w_al f_66_526 rfl ?_
    refine w_gr f_66_527 rfl (hR _ _ _ rfl) ?_
    refine w_il f_66_530 rfl ?_
    have hb := H.1
    have H := H.2
    refine w_ald f_66_531 rfl hb ?_
    have hb := H.1
    have H := H.2
    refine w_ald f_66_532 rfl hb ?_
    refine w_iflt f_66_533 (fun c => ?_) (fun c => ?_)
    · have H := H.1 c
      exact H
    · have H := H.2 c
      refine w_ic f_66_536 ?_
      refine w_go f_66_537 ?_
      exact H
theorem g_66_540 {d : Nat} {G : am_G} {I : Nat → Nat → Int32} {J : Nat → Nat → Int64} {Q : am_O → am_H → Prop} (hR : q_RT G) (i1 : Int32) (i2 : Int32) (i3 : Int32) (i4 : Int32) (i5 : Int32) (H : q_W β xs L (d + 1) 66 541 [.ref 38, .int i1, .int i2, .int i3, .int i4, .int i5, .retAddr 0, .retAddr 0, .retAddr 0, .retAddr 0, .retAddr 0] [.int 0] (G, I, J) Q) : q_W β xs L (d + 1) 66 540 [.ref 38, .int i1, .int i2, .int i3, .int i4, .int i5, .retAddr 0, .retAddr 0, .retAddr 0, .retAddr 0, .retAddr 0] [] (G, I, J) Q := by
  refine w_ic f_66_540 ?_
  exact H
theorem g_66_541 {d : Nat} {G : am_G} {I : Nat → Nat → Int32} {J : Nat → Nat → Int64} {Q : am_O → am_H → Prop} (hR : q_RT G) (i1 : Int32) (i2 : Int32) (i3 : Int32) (i4 : Int32) (i5 : Int32) (is0 : Int32) (H : ((is0 = 0 → q_W β xs L (d + 1) 66 573 [.ref 38, .int i1, .int i2, .int i3, .int i4, .int i5, .retAddr 0, .retAddr 0, .retAddr 0, .retAddr 0, .int is0] [.int 99999] (G, I, J) Q) ∧ (¬ is0 = 0 → (am_is i2 20 = true ∧ (am_is (I 49 (i2).toNatClampNeg) 12 = true ∧ q_W β xs L (d + 1) 66 573 [.ref 38, .int i1, .int i2, .int i3, .int i4, .int i5, .retAddr 0, .retAddr 0, .retAddr 0, .retAddr 0, .int is0] [.int ((I 41 0) - (I 54 ((I 49 (i2).toNatClampNeg)).toNatClampNeg))] (G, I, J) Q))))) : q_W β xs L (d + 1) 66 541 [.ref 38, .int i1, .int i2, .int i3, .int i4, .int i5, .retAddr 0, .retAddr 0, .retAddr 0, .retAddr 0, .retAddr 0] [.int is0] (G, I, J) Q := by
  refine w_is (ls' := [.ref 38, .int i1, .int i2, .int i3, .int i4, .int i5, .retAddr 0, .retAddr 0, .retAddr 0, .retAddr 0, .int is0]) f_66_541 rfl ?_
  refine w_il f_66_543 rfl ?_
  refine w_ifeq f_66_545 (fun c => ?_) (fun c => ?_)
  · have H := H.1 c
    refine w_ic f_66_570 ?_
    exact H
  · have H := H.2 c
    refine w_al f_66_548 rfl ?_
    refine w_gr f_66_549 rfl (hR _ _ _ rfl) ?_
    refine w_gi f_66_552 rfl ?_
    refine w_al f_66_555 rfl ?_
    refine w_gr f_66_556 rfl (hR _ _ _ rfl) ?_
    refine w_al f_66_559 rfl ?_
    refine w_gr f_66_560 rfl (hR _ _ _ rfl) ?_
    refine w_il f_66_563 rfl ?_
    have hb := H.1
    have H := H.2
    refine w_ald f_66_564 rfl hb ?_
    have hb := H.1
    have H := H.2
    refine w_ald f_66_565 rfl hb ?_
    refine w_bin f_66_566 ?_
    refine w_go f_66_567 ?_
    exact H
theorem g_66_573 {d : Nat} {G : am_G} {I : Nat → Nat → Int32} {J : Nat → Nat → Int64} {Q : am_O → am_H → Prop} (hR : q_RT G) (i1 : Int32) (i2 : Int32) (i3 : Int32) (i4 : Int32) (i5 : Int32) (i10 : Int32) (is0 : Int32) (H : Q (.inl (some (.int is0))) (G, I, J)) : q_W β xs L (d + 1) 66 573 [.ref 38, .int i1, .int i2, .int i3, .int i4, .int i5, .retAddr 0, .retAddr 0, .retAddr 0, .retAddr 0, .int i10] [.int is0] (G, I, J) Q := by
  exact w_reti f_66_573 H
theorem g_67_0 {d : Nat} {G : am_G} {I : Nat → Nat → Int32} {J : Nat → Nat → Int64} {Q : am_O → am_H → Prop} (hR : q_RT G) (i1 : Int32) (i2 : Int32) (i3 : Int32) (H : (am_is i3 144 = true ∧ ((¬ (I 25 (i3).toNatClampNeg) = 0 → q_W β xs L (d + 1) 67 17 [.ref 38, .int i1, .int i2, .int i3, .retAddr 0, .retAddr 0, .retAddr 0, .retAddr 0, .retAddr 0] [.int 0] (G, I, J) Q) ∧ ((I 25 (i3).toNatClampNeg) = 0 → q_W β xs L (d + 1) 67 17 [.ref 38, .int i1, .int i2, .int i3, .retAddr 0, .retAddr 0, .retAddr 0, .retAddr 0, .retAddr 0] [.int 1] (G, I, J) Q)))) : q_W β xs L (d + 1) 67 0 [.ref 38, .int i1, .int i2, .int i3, .retAddr 0, .retAddr 0, .retAddr 0, .retAddr 0, .retAddr 0] [] (G, I, J) Q := by
  refine w_al f_67_0 rfl ?_
  refine w_gr f_67_1 rfl (hR _ _ _ rfl) ?_
  refine w_gr f_67_4 rfl (hR _ _ _ rfl) ?_
  refine w_il f_67_7 rfl ?_
  have hb := H.1
  have H := H.2
  refine w_ald f_67_8 rfl hb ?_
  refine w_ifne f_67_9 (fun c => ?_) (fun c => ?_)
  · have H := H.1 c
    refine w_ic f_67_16 ?_
    exact H
  · have H := H.2 c
    refine w_ic f_67_12 ?_
    refine w_go f_67_13 ?_
    exact H
theorem g_67_17 {d : Nat} {G : am_G} {I : Nat → Nat → Int32} {J : Nat → Nat → Int64} {Q : am_O → am_H → Prop} (hR : q_RT G) (i1 : Int32) (i2 : Int32) (i3 : Int32) (is0 : Int32) (H : ((is0 = 0 → (am_is i1 20 = true ∧ (am_is i1 20 = true ∧ (am_is ((i1 * 5) + i2) 100 = true ∧ (am_is ((i1 * 5) + i2) 100 = true ∧ q_W β xs L (d + 1) 67 106 [.ref 38, .int i1, .int i2, .int i3, .int is0, .int (-1), .retAddr 0, .retAddr 0, .retAddr 0] [] (G, (am_u (am_u I 47 (i1).toNatClampNeg ((I 47 (i1).toNatClampNeg) &&& ((1 <<< (i2 &&& 31)) ^^^ (-1)))) 45 (((i1 * 5) + i2)).toNatClampNeg ((I 45 (((i1 * 5) + i2)).toNatClampNeg) + 1)), J) Q))))) ∧ (¬ is0 = 0 → (am_is i1 20 = true ∧ (am_is i1 20 = true ∧ q_W β xs L d 68 0 [.ref 38, .int i1, .int i2, .retAddr 0, .retAddr 0, .retAddr 0, .retAddr 0] [] (G, (am_u I 47 (i1).toNatClampNeg ((I 47 (i1).toNatClampNeg) ||| (1 <<< (i2 &&& 31)))), J) (q_Ri (fun y1 G1 I1 J1 => q_W β xs L d 23 0 [.ref 42, .int i1, .int i2, .int (I 41 0), .int i3, .int (I 41 4), .int 0, .int y1, .retAddr 0] [] (G1, I1, J1) (q_Ri (fun y2 G2 I2 J2 => q_W β xs L (d + 1) 67 106 [.ref 38, .int i1, .int i2, .int i3, .int is0, .int y2, .retAddr 0, .retAddr 0, .retAddr 0] [] (G2, I2, J2) Q) (fun x2 G2 I2 J2 => Q (.inr x2) (G2, I2, J2)))) (fun x1 G1 I1 J1 => Q (.inr x1) (G1, I1, J1)))))))) : q_W β xs L (d + 1) 67 17 [.ref 38, .int i1, .int i2, .int i3, .retAddr 0, .retAddr 0, .retAddr 0, .retAddr 0, .retAddr 0] [.int is0] (G, I, J) Q := by
  refine w_is (ls' := [.ref 38, .int i1, .int i2, .int i3, .int is0, .retAddr 0, .retAddr 0, .retAddr 0, .retAddr 0]) f_67_17 rfl ?_
  refine w_ic f_67_19 ?_
  refine w_is (ls' := [.ref 38, .int i1, .int i2, .int i3, .int is0, .int (-1), .retAddr 0, .retAddr 0, .retAddr 0]) f_67_20 rfl ?_
  refine w_il f_67_22 rfl ?_
  refine w_ifeq f_67_24 (fun c => ?_) (fun c => ?_)
  · have H := H.1 c
    refine w_al f_67_75 rfl ?_
    refine w_gr f_67_76 rfl (hR _ _ _ rfl) ?_
    refine w_il f_67_79 rfl ?_
    refine w_dup2 f_67_80 ?_
    have hb := H.1
    have H := H.2
    refine w_ald f_67_81 rfl hb ?_
    refine w_ic f_67_82 ?_
    refine w_il f_67_83 rfl ?_
    refine w_bin f_67_84 ?_
    refine w_ic f_67_85 ?_
    refine w_bin f_67_86 ?_
    refine w_bin f_67_87 ?_
    have hb := H.1
    have H := H.2
    refine w_ast f_67_88 rfl hb ?_
    refine w_al f_67_89 rfl ?_
    refine w_gr f_67_90 rfl (hR _ _ _ rfl) ?_
    refine w_gr f_67_93 rfl (hR _ _ _ rfl) ?_
    refine w_il f_67_96 rfl ?_
    refine w_ic f_67_97 ?_
    refine w_bin f_67_98 ?_
    refine w_il f_67_99 rfl ?_
    refine w_bin f_67_100 ?_
    refine w_dup2 f_67_101 ?_
    have hb := H.1
    have H := H.2
    refine w_ald' f_67_102 rfl hb (am_u_ne (Or.inl (by decide))) ?_
    refine w_ic f_67_103 ?_
    refine w_bin f_67_104 ?_
    have hb := H.1
    have H := H.2
    refine w_ast f_67_105 rfl hb ?_
    exact H
  · have H := H.2 c
    refine w_al f_67_27 rfl ?_
    refine w_gr f_67_28 rfl (hR _ _ _ rfl) ?_
    refine w_il f_67_31 rfl ?_
    refine w_dup2 f_67_32 ?_
    have hb := H.1
    have H := H.2
    refine w_ald f_67_33 rfl hb ?_
    refine w_ic f_67_34 ?_
    refine w_il f_67_35 rfl ?_
    refine w_bin f_67_36 ?_
    refine w_bin f_67_37 ?_
    have hb := H.1
    have H := H.2
    refine w_ast f_67_38 rfl hb ?_
    refine w_al f_67_39 rfl ?_
    refine w_gr f_67_40 rfl (hR _ _ _ rfl) ?_
    refine w_il f_67_43 rfl ?_
    refine w_il f_67_44 rfl ?_
    refine w_al f_67_45 rfl ?_
    refine w_gr f_67_46 rfl (hR _ _ _ rfl) ?_
    refine w_gi' f_67_49 rfl (am_u_ne (Or.inl (by decide))) ?_
    refine w_il f_67_52 rfl ?_
    refine w_al f_67_53 rfl ?_
    refine w_gr f_67_54 rfl (hR _ _ _ rfl) ?_
    refine w_gi' f_67_57 rfl (am_u_ne (Or.inl (by decide))) ?_
    refine w_ic f_67_60 ?_
    refine w_al f_67_61 rfl ?_
    refine w_il f_67_62 rfl ?_
    refine w_il f_67_63 rfl ?_
    refine w_inv (as := [.ref 38, .int i1, .int i2, .retAddr 0, .retAddr 0, .retAddr 0, .retAddr 0]) (st' := [.int 0, .int (I 41 4), .int i3, .int (I 41 0), .int i2, .int i1, .ref 42]) f_67_64 rfl rfl rfl rfl rfl rfl H (k_i (fun y1 G1 I1 J1 H => ?_)) (x_n (fun _ => rfl) rfl (fun x h' h => h))
    refine w_inv (as := [.ref 42, .int i1, .int i2, .int (I 41 0), .int i3, .int (I 41 4), .int 0, .int y1, .retAddr 0]) (st' := []) f_67_67 rfl rfl rfl rfl rfl rfl H (k_i (fun y2 G2 I2 J2 H => ?_)) (x_n (fun _ => rfl) rfl (fun x h' h => h))
    refine w_is (ls' := [.ref 38, .int i1, .int i2, .int i3, .int is0, .int y2, .retAddr 0, .retAddr 0, .retAddr 0]) f_67_70 rfl ?_
    refine w_go f_67_72 ?_
    exact H
theorem g_67_106 {d : Nat} {G : am_G} {I : Nat → Nat → Int32} {J : Nat → Nat → Int64} {Q : am_O → am_H → Prop} (hR : q_RT G) (i1 : Int32) (i2 : Int32) (i3 : Int32) (i4 : Int32) (i5 : Int32) (H : q_W β xs L (d + 1) 67 109 [.ref 38, .int i1, .int i2, .int i3, .int i4, .int i5, .int 0, .retAddr 0, .retAddr 0] [] (G, I, J) Q) : q_W β xs L (d + 1) 67 106 [.ref 38, .int i1, .int i2, .int i3, .int i4, .int i5, .retAddr 0, .retAddr 0, .retAddr 0] [] (G, I, J) Q := by
  refine w_ic f_67_106 ?_
  refine w_is (ls' := [.ref 38, .int i1, .int i2, .int i3, .int i4, .int i5, .int 0, .retAddr 0, .retAddr 0]) f_67_107 rfl ?_
  exact H
theorem g_67_109 {d : Nat} {G : am_G} {I : Nat → Nat → Int32} {J : Nat → Nat → Int64} {Q : am_O → am_H → Prop} (hR : q_RT G) (i1 : Int32) (i2 : Int32) (i3 : Int32) (i4 : Int32) (i5 : Int32) (i6 : Int32) (v7 : Value) (v8 : Value) (n7 : am_nl v7 = true) (n8 : am_nl v8 = true) (H : ((¬ i6 < (I 3 3) → Q (.inl none) (G, I, J)) ∧ (i6 < (I 3 3) → (am_is i6 20 = true ∧ (((I 48 (i6).toNatClampNeg) < 0 → q_W β xs L (d + 1) 67 166 [.ref 38, .int i1, .int i2, .int i3, .int i4, .int i5, .int i6, v7, v8] [] (G, I, J) Q) ∧ (¬ (I 48 (i6).toNatClampNeg) < 0 → (am_is i6 20 = true ∧ ((365 : Int32) ≠ 0 ∧ (am_is i3 144 = true ∧ ((¬ (((I 41 0) - (I 48 (i6).toNatClampNeg)) / 365) < (I 30 (i3).toNatClampNeg) → q_W β xs L (d + 1) 67 166 [.ref 38, .int i1, .int i2, .int i3, .int i4, .int i5, .int i6, v7, v8] [] (G, I, J) Q) ∧ ((((I 41 0) - (I 48 (i6).toNatClampNeg)) / 365) < (I 30 (i3).toNatClampNeg) → q_W β xs L (d + 1) 67 167 [.ref 38, .int i1, .int i2, .int i3, .int i4, .int i5, .int i6, v7, v8] [.int 1] (G, I, J) Q))))))))))) : q_W β xs L (d + 1) 67 109 [.ref 38, .int i1, .int i2, .int i3, .int i4, .int i5, .int i6, v7, v8] [] (G, I, J) Q := by
  refine w_il f_67_109 rfl ?_
  refine w_al f_67_111 rfl ?_
  refine w_gr f_67_112 rfl (hR _ _ _ rfl) ?_
  refine w_gi f_67_115 rfl ?_
  refine w_icge f_67_118 (fun c => ?_) (fun c => ?_)
  · have H := H.1 c
    exact w_ret0 f_67_293 H
  · have H := H.2 c
    refine w_al f_67_121 rfl ?_
    refine w_gr f_67_122 rfl (hR _ _ _ rfl) ?_
    refine w_il f_67_125 rfl ?_
    have hb := H.1
    have H := H.2
    refine w_ald f_67_127 rfl hb ?_
    refine w_iflt f_67_128 (fun c => ?_) (fun c => ?_)
    · have H := H.1 c
      exact H
    · have H := H.2 c
      refine w_al f_67_131 rfl ?_
      refine w_gr f_67_132 rfl (hR _ _ _ rfl) ?_
      refine w_gi f_67_135 rfl ?_
      refine w_al f_67_138 rfl ?_
      refine w_gr f_67_139 rfl (hR _ _ _ rfl) ?_
      refine w_il f_67_142 rfl ?_
      have hb := H.1
      have H := H.2
      refine w_ald f_67_144 rfl hb ?_
      refine w_bin f_67_145 ?_
      refine w_ic f_67_146 ?_
      have hb := H.1
      have H := H.2
      refine w_div f_67_149 hb ?_
      refine w_al f_67_150 rfl ?_
      refine w_gr f_67_151 rfl (hR _ _ _ rfl) ?_
      refine w_gr f_67_154 rfl (hR _ _ _ rfl) ?_
      refine w_il f_67_157 rfl ?_
      have hb := H.1
      have H := H.2
      refine w_ald f_67_158 rfl hb ?_
      refine w_icge f_67_159 (fun c => ?_) (fun c => ?_)
      · have H := H.1 c
        exact H
      · have H := H.2 c
        refine w_ic f_67_162 ?_
        refine w_go f_67_163 ?_
        exact H
theorem g_67_166 {d : Nat} {G : am_G} {I : Nat → Nat → Int32} {J : Nat → Nat → Int64} {Q : am_O → am_H → Prop} (hR : q_RT G) (i1 : Int32) (i2 : Int32) (i3 : Int32) (i4 : Int32) (i5 : Int32) (i6 : Int32) (v7 : Value) (v8 : Value) (n7 : am_nl v7 = true) (n8 : am_nl v8 = true) (H : q_W β xs L (d + 1) 67 167 [.ref 38, .int i1, .int i2, .int i3, .int i4, .int i5, .int i6, v7, v8] [.int 0] (G, I, J) Q) : q_W β xs L (d + 1) 67 166 [.ref 38, .int i1, .int i2, .int i3, .int i4, .int i5, .int i6, v7, v8] [] (G, I, J) Q := by
  refine w_ic f_67_166 ?_
  exact H
theorem g_67_167 {d : Nat} {G : am_G} {I : Nat → Nat → Int32} {J : Nat → Nat → Int64} {Q : am_O → am_H → Prop} (hR : q_RT G) (i1 : Int32) (i2 : Int32) (i3 : Int32) (i4 : Int32) (i5 : Int32) (i6 : Int32) (v7 : Value) (v8 : Value) (is0 : Int32) (n7 : am_nl v7 = true) (n8 : am_nl v8 = true) (H : (am_is i6 20 = true ∧ ((¬ (((I 47 (i6).toNatClampNeg) >>> (i2 &&& 31)) &&& 1) = 1 → q_W β xs L (d + 1) 67 189 [.ref 38, .int i1, .int i2, .int i3, .int i4, .int i5, .int i6, .int is0, v8] [.int 0] (G, I, J) Q) ∧ ((((I 47 (i6).toNatClampNeg) >>> (i2 &&& 31)) &&& 1) = 1 → q_W β xs L (d + 1) 67 189 [.ref 38, .int i1, .int i2, .int i3, .int i4, .int i5, .int i6, .int is0, v8] [.int 1] (G, I, J) Q)))) : q_W β xs L (d + 1) 67 167 [.ref 38, .int i1, .int i2, .int i3, .int i4, .int i5, .int i6, v7, v8] [.int is0] (G, I, J) Q := by
  refine w_is (ls' := [.ref 38, .int i1, .int i2, .int i3, .int i4, .int i5, .int i6, .int is0, v8]) f_67_167 rfl ?_
  refine w_al f_67_169 rfl ?_
  refine w_gr f_67_170 rfl (hR _ _ _ rfl) ?_
  refine w_il f_67_173 rfl ?_
  have hb := H.1
  have H := H.2
  refine w_ald f_67_175 rfl hb ?_
  refine w_il f_67_176 rfl ?_
  refine w_bin f_67_177 ?_
  refine w_ic f_67_178 ?_
  refine w_bin f_67_179 ?_
  refine w_ic f_67_180 ?_
  refine w_icne f_67_181 (fun c => ?_) (fun c => ?_)
  · have H := H.1 c
    refine w_ic f_67_188 ?_
    exact H
  · have H := H.2 c
    refine w_ic f_67_184 ?_
    refine w_go f_67_185 ?_
    exact H
theorem g_67_189 {d : Nat} {G : am_G} {I : Nat → Nat → Int32} {J : Nat → Nat → Int64} {Q : am_O → am_H → Prop} (hR : q_RT G) (i1 : Int32) (i2 : Int32) (i3 : Int32) (i4 : Int32) (i5 : Int32) (i6 : Int32) (i7 : Int32) (v8 : Value) (is0 : Int32) (n8 : am_nl v8 = true) (H : ((i7 = 0 → q_W β xs L (d + 1) 67 287 [.ref 38, .int i1, .int i2, .int i3, .int i4, .int i5, .int i6, .int i7, .int is0] [] (G, I, J) Q) ∧ (¬ i7 = 0 → ((is0 = i4 → q_W β xs L (d + 1) 67 287 [.ref 38, .int i1, .int i2, .int i3, .int i4, .int i5, .int i6, .int i7, .int is0] [] (G, I, J) Q) ∧ (¬ is0 = i4 → q_W β xs L d 49 0 [.ref 3, .int i6, .int i1, .retAddr 0] [] (G, I, J) (q_Ri (fun y1 G1 I1 J1 => (q_RT G1 ∧ ((¬ y1 = 0 → (am_is i6 20 = true ∧ (am_is i6 20 = true ∧ ((i4 = 0 → (am_is ((i6 * 5) + i2) 100 = true ∧ (am_is ((i6 * 5) + i2) 100 = true ∧ q_W β xs L (d + 1) 67 287 [.ref 38, .int i1, .int i2, .int i3, .int i4, .int i5, .int i6, .int i7, .int is0] [] (G1, (am_u (am_u I1 47 (i6).toNatClampNeg ((I1 47 (i6).toNatClampNeg) ^^^ (1 <<< (i2 &&& 31)))) 45 (((i6 * 5) + i2)).toNatClampNeg ((I1 45 (((i6 * 5) + i2)).toNatClampNeg) + 1)), J1) Q))) ∧ (¬ i4 = 0 → q_W β xs L d 23 0 [.ref 42, .int i6, .int i2, .int (I1 41 0), .int i3, .int (I1 41 4), .int 1, .int i5, .retAddr 0] [] (G1, (am_u I1 47 (i6).toNatClampNeg ((I1 47 (i6).toNatClampNeg) ^^^ (1 <<< (i2 &&& 31)))), J1) (q_Ri (fun y2 G2 I2 J2 => q_W β xs L (d + 1) 67 287 [.ref 38, .int i1, .int i2, .int i3, .int i4, .int i5, .int i6, .int i7, .int is0] [] (G2, I2, J2) Q) (fun x2 G2 I2 J2 => Q (.inr x2) (G2, I2, J2)))))))) ∧ (y1 = 0 → q_W β xs L (d + 1) 67 287 [.ref 38, .int i1, .int i2, .int i3, .int i4, .int i5, .int i6, .int i7, .int is0] [] (G1, I1, J1) Q)))) (fun x1 G1 I1 J1 => Q (.inr x1) (G1, I1, J1)))))))) : q_W β xs L (d + 1) 67 189 [.ref 38, .int i1, .int i2, .int i3, .int i4, .int i5, .int i6, .int i7, v8] [.int is0] (G, I, J) Q := by
  refine w_is (ls' := [.ref 38, .int i1, .int i2, .int i3, .int i4, .int i5, .int i6, .int i7, .int is0]) f_67_189 rfl ?_
  refine w_il f_67_191 rfl ?_
  refine w_ifeq f_67_193 (fun c => ?_) (fun c => ?_)
  · have H := H.1 c
    exact H
  · have H := H.2 c
    refine w_il f_67_196 rfl ?_
    refine w_il f_67_198 rfl ?_
    refine w_iceq f_67_200 (fun c => ?_) (fun c => ?_)
    · have H := H.1 c
      exact H
    · have H := H.2 c
      refine w_al f_67_203 rfl ?_
      refine w_gr f_67_204 rfl (hR _ _ _ rfl) ?_
      refine w_il f_67_207 rfl ?_
      refine w_il f_67_209 rfl ?_
      refine w_inv (as := [.ref 3, .int i6, .int i1, .retAddr 0]) (st' := []) f_67_210 rfl rfl rfl rfl rfl rfl H (k_i (fun y1 G1 I1 J1 H => ?_)) (x_n (fun _ => rfl) rfl (fun x h' h => h))
      have hR1 := H.1
      have H := H.2
      refine w_ifne f_67_213 (fun c => ?_) (fun c => ?_)
      · have H := H.1 c
        refine w_al f_67_219 rfl ?_
        refine w_gr f_67_220 rfl (hR1 _ _ _ rfl) ?_
        refine w_il f_67_223 rfl ?_
        refine w_dup2 f_67_225 ?_
        have hb := H.1
        have H := H.2
        refine w_ald f_67_226 rfl hb ?_
        refine w_ic f_67_227 ?_
        refine w_il f_67_228 rfl ?_
        refine w_bin f_67_229 ?_
        refine w_bin f_67_230 ?_
        have hb := H.1
        have H := H.2
        refine w_ast f_67_231 rfl hb ?_
        refine w_il f_67_232 rfl ?_
        refine w_ifeq f_67_234 (fun c => ?_) (fun c => ?_)
        · have H := H.1 c
          refine w_al f_67_269 rfl ?_
          refine w_gr f_67_270 rfl (hR1 _ _ _ rfl) ?_
          refine w_gr f_67_273 rfl (hR1 _ _ _ rfl) ?_
          refine w_il f_67_276 rfl ?_
          refine w_ic f_67_278 ?_
          refine w_bin f_67_279 ?_
          refine w_il f_67_280 rfl ?_
          refine w_bin f_67_281 ?_
          refine w_dup2 f_67_282 ?_
          have hb := H.1
          have H := H.2
          refine w_ald' f_67_283 rfl hb (am_u_ne (Or.inl (by decide))) ?_
          refine w_ic f_67_284 ?_
          refine w_bin f_67_285 ?_
          have hb := H.1
          have H := H.2
          refine w_ast f_67_286 rfl hb ?_
          exact H
        · have H := H.2 c
          refine w_al f_67_237 rfl ?_
          refine w_gr f_67_238 rfl (hR1 _ _ _ rfl) ?_
          refine w_il f_67_241 rfl ?_
          refine w_il f_67_243 rfl ?_
          refine w_al f_67_244 rfl ?_
          refine w_gr f_67_245 rfl (hR1 _ _ _ rfl) ?_
          refine w_gi' f_67_248 rfl (am_u_ne (Or.inl (by decide))) ?_
          refine w_il f_67_251 rfl ?_
          refine w_al f_67_252 rfl ?_
          refine w_gr f_67_253 rfl (hR1 _ _ _ rfl) ?_
          refine w_gi' f_67_256 rfl (am_u_ne (Or.inl (by decide))) ?_
          refine w_ic f_67_259 ?_
          refine w_il f_67_260 rfl ?_
          refine w_inv (as := [.ref 42, .int i6, .int i2, .int (I1 41 0), .int i3, .int (I1 41 4), .int 1, .int i5, .retAddr 0]) (st' := []) f_67_262 rfl rfl rfl rfl rfl rfl H (k_i (fun y2 G2 I2 J2 H => ?_)) (x_n (fun _ => rfl) rfl (fun x h' h => h))
          refine w_pop f_67_265 ?_
          refine w_go f_67_266 ?_
          exact H
      · have H := H.2 c
        refine w_go f_67_216 ?_
        exact H
theorem g_67_287 {d : Nat} {G : am_G} {I : Nat → Nat → Int32} {J : Nat → Nat → Int64} {Q : am_O → am_H → Prop} (hR : q_RT G) (i1 : Int32) (i2 : Int32) (i3 : Int32) (i4 : Int32) (i5 : Int32) (i6 : Int32) (i7 : Int32) (i8 : Int32) (H : q_W β xs L (d + 1) 67 109 [.ref 38, .int i1, .int i2, .int i3, .int i4, .int i5, .int (i6 + 1), .int i7, .int i8] [] (G, I, J) Q) : q_W β xs L (d + 1) 67 287 [.ref 38, .int i1, .int i2, .int i3, .int i4, .int i5, .int i6, .int i7, .int i8] [] (G, I, J) Q := by
  refine w_iinc (ls' := [.ref 38, .int i1, .int i2, .int i3, .int i4, .int i5, .int (i6 + 1), .int i7, .int i8]) f_67_287 rfl rfl ?_
  refine w_go f_67_290 ?_
  exact H
theorem g_68_0 {d : Nat} {G : am_G} {I : Nat → Nat → Int32} {J : Nat → Nat → Int64} {Q : am_O → am_H → Prop} (hR : q_RT G) (i1 : Int32) (i2 : Int32) (H : (am_is i1 20 = true ∧ (am_is i1 20 = true ∧ ((¬ i1 = (I 41 6) → q_W β xs L d 68 49 [.ref 38, .int i1, .int i2, .int (I 5 (i1).toNatClampNeg), .int (I 6 (i1).toNatClampNeg), .retAddr 0, .retAddr 0] [.int (I 41 8)] (G, I, J) Q) ∧ (i1 = (I 41 6) → q_W β xs L d 68 49 [.ref 38, .int i1, .int i2, .int (I 5 (i1).toNatClampNeg), .int (I 6 (i1).toNatClampNeg), .retAddr 0, .retAddr 0] [.int (I 41 9)] (G, I, J) Q))))) : q_W β xs L d 68 0 [.ref 38, .int i1, .int i2, .retAddr 0, .retAddr 0, .retAddr 0, .retAddr 0] [] (G, I, J) Q := by
  refine w_al f_68_0 rfl ?_
  refine w_gr f_68_1 rfl (hR _ _ _ rfl) ?_
  refine w_gr f_68_4 rfl (hR _ _ _ rfl) ?_
  refine w_il f_68_7 rfl ?_
  have hb := H.1
  have H := H.2
  refine w_ald f_68_8 rfl hb ?_
  refine w_is (ls' := [.ref 38, .int i1, .int i2, .int (I 5 (i1).toNatClampNeg), .retAddr 0, .retAddr 0, .retAddr 0]) f_68_9 rfl ?_
  refine w_al f_68_10 rfl ?_
  refine w_gr f_68_11 rfl (hR _ _ _ rfl) ?_
  refine w_gr f_68_14 rfl (hR _ _ _ rfl) ?_
  refine w_il f_68_17 rfl ?_
  have hb := H.1
  have H := H.2
  refine w_ald f_68_18 rfl hb ?_
  refine w_is (ls' := [.ref 38, .int i1, .int i2, .int (I 5 (i1).toNatClampNeg), .int (I 6 (i1).toNatClampNeg), .retAddr 0, .retAddr 0]) f_68_19 rfl ?_
  refine w_il f_68_21 rfl ?_
  refine w_al f_68_22 rfl ?_
  refine w_gr f_68_23 rfl (hR _ _ _ rfl) ?_
  refine w_gi f_68_26 rfl ?_
  refine w_icne f_68_29 (fun c => ?_) (fun c => ?_)
  · have H := H.1 c
    refine w_al f_68_42 rfl ?_
    refine w_gr f_68_43 rfl (hR _ _ _ rfl) ?_
    refine w_gi f_68_46 rfl ?_
    exact H
  · have H := H.2 c
    refine w_al f_68_32 rfl ?_
    refine w_gr f_68_33 rfl (hR _ _ _ rfl) ?_
    refine w_gi f_68_36 rfl ?_
    refine w_go f_68_39 ?_
    exact H
theorem g_68_49 {d : Nat} {G : am_G} {I : Nat → Nat → Int32} {J : Nat → Nat → Int64} {Q : am_O → am_H → Prop} (hR : q_RT G) (i1 : Int32) (i2 : Int32) (i3 : Int32) (i4 : Int32) (is0 : Int32) (H : ((¬ (I 41 1) = 1 → q_W β xs L d 68 86 [.ref 38, .int i1, .int i2, .int i3, .int i4, .int is0, .int (-1)] [] (G, I, J) Q) ∧ ((I 41 1) = 1 → ((¬ ((is0 >>> (i2 &&& 31)) &&& 1) = 1 → q_W β xs L d 68 86 [.ref 38, .int i1, .int i2, .int i3, .int i4, .int is0, .int (-1)] [] (G, I, J) Q) ∧ (((is0 >>> (i2 &&& 31)) &&& 1) = 1 → (am_is i1 20 = true ∧ q_W β xs L d 68 154 [.ref 38, .int i1, .int i2, .int i3, .int i4, .int is0, .int (I 50 (i1).toNatClampNeg)] [] (G, I, J) Q)))))) : q_W β xs L d 68 49 [.ref 38, .int i1, .int i2, .int i3, .int i4, .retAddr 0, .retAddr 0] [.int is0] (G, I, J) Q := by
  refine w_is (ls' := [.ref 38, .int i1, .int i2, .int i3, .int i4, .int is0, .retAddr 0]) f_68_49 rfl ?_
  refine w_ic f_68_51 ?_
  refine w_is (ls' := [.ref 38, .int i1, .int i2, .int i3, .int i4, .int is0, .int (-1)]) f_68_52 rfl ?_
  refine w_al f_68_54 rfl ?_
  refine w_gr f_68_55 rfl (hR _ _ _ rfl) ?_
  refine w_gi f_68_58 rfl ?_
  refine w_ic f_68_61 ?_
  refine w_icne f_68_62 (fun c => ?_) (fun c => ?_)
  · have H := H.1 c
    exact H
  · have H := H.2 c
    refine w_il f_68_65 rfl ?_
    refine w_il f_68_67 rfl ?_
    refine w_bin f_68_68 ?_
    refine w_ic f_68_69 ?_
    refine w_bin f_68_70 ?_
    refine w_ic f_68_71 ?_
    refine w_icne f_68_72 (fun c => ?_) (fun c => ?_)
    · have H := H.1 c
      exact H
    · have H := H.2 c
      refine w_al f_68_75 rfl ?_
      refine w_gr f_68_76 rfl (hR _ _ _ rfl) ?_
      refine w_il f_68_79 rfl ?_
      have hb := H.1
      have H := H.2
      refine w_ald f_68_80 rfl hb ?_
      refine w_is (ls' := [.ref 38, .int i1, .int i2, .int i3, .int i4, .int is0, .int (I 50 (i1).toNatClampNeg)]) f_68_81 rfl ?_
      refine w_go f_68_83 ?_
      exact H
theorem g_68_86 {d : Nat} {G : am_G} {I : Nat → Nat → Int32} {J : Nat → Nat → Int64} {Q : am_O → am_H → Prop} (hR : q_RT G) (i1 : Int32) (i2 : Int32) (i3 : Int32) (i4 : Int32) (i5 : Int32) (i6 : Int32) (H : ((¬ (I 41 1) = 0 → q_W β xs L d 68 120 [.ref 38, .int i1, .int i2, .int i3, .int i4, .int i5, .int i6] [] (G, I, J) Q) ∧ ((I 41 1) = 0 → ((i3 < 0 → q_W β xs L d 68 120 [.ref 38, .int i1, .int i2, .int i3, .int i4, .int i5, .int i6] [] (G, I, J) Q) ∧ (¬ i3 < 0 → (am_is i3 20 = true ∧ ((¬ (((I 47 (i3).toNatClampNeg) >>> (i2 &&& 31)) &&& 1) = 1 → q_W β xs L d 68 120 [.ref 38, .int i1, .int i2, .int i3, .int i4, .int i5, .int i6] [] (G, I, J) Q) ∧ ((((I 47 (i3).toNatClampNeg) >>> (i2 &&& 31)) &&& 1) = 1 → q_W β xs L d 68 154 [.ref 38, .int i1, .int i2, .int i3, .int i4, .int i5, .int i3] [] (G, I, J) Q)))))))) : q_W β xs L d 68 86 [.ref 38, .int i1, .int i2, .int i3, .int i4, .int i5, .int i6] [] (G, I, J) Q := by
  refine w_al f_68_86 rfl ?_
  refine w_gr f_68_87 rfl (hR _ _ _ rfl) ?_
  refine w_gi f_68_90 rfl ?_
  refine w_ifne f_68_93 (fun c => ?_) (fun c => ?_)
  · have H := H.1 c
    exact H
  · have H := H.2 c
    refine w_il f_68_96 rfl ?_
    refine w_iflt f_68_97 (fun c => ?_) (fun c => ?_)
    · have H := H.1 c
      exact H
    · have H := H.2 c
      refine w_al f_68_100 rfl ?_
      refine w_gr f_68_101 rfl (hR _ _ _ rfl) ?_
      refine w_il f_68_104 rfl ?_
      have hb := H.1
      have H := H.2
      refine w_ald f_68_105 rfl hb ?_
      refine w_il f_68_106 rfl ?_
      refine w_bin f_68_107 ?_
      refine w_ic f_68_108 ?_
      refine w_bin f_68_109 ?_
      refine w_ic f_68_110 ?_
      refine w_icne f_68_111 (fun c => ?_) (fun c => ?_)
      · have H := H.1 c
        exact H
      · have H := H.2 c
        refine w_il f_68_114 rfl ?_
        refine w_is (ls' := [.ref 38, .int i1, .int i2, .int i3, .int i4, .int i5, .int i3]) f_68_115 rfl ?_
        refine w_go f_68_117 ?_
        exact H
theorem g_68_120 {d : Nat} {G : am_G} {I : Nat → Nat → Int32} {J : Nat → Nat → Int64} {Q : am_O → am_H → Prop} (hR : q_RT G) (i1 : Int32) (i2 : Int32) (i3 : Int32) (i4 : Int32) (i5 : Int32) (i6 : Int32) (H : ((¬ (I 41 1) = 0 → q_W β xs L d 68 154 [.ref 38, .int i1, .int i2, .int i3, .int i4, .int i5, .int i6] [] (G, I, J) Q) ∧ ((I 41 1) = 0 → ((i4 < 0 → q_W β xs L d 68 154 [.ref 38, .int i1, .int i2, .int i3, .int i4, .int i5, .int i6] [] (G, I, J) Q) ∧ (¬ i4 < 0 → (am_is i4 20 = true ∧ ((¬ (((I 47 (i4).toNatClampNeg) >>> (i2 &&& 31)) &&& 1) = 1 → q_W β xs L d 68 154 [.ref 38, .int i1, .int i2, .int i3, .int i4, .int i5, .int i6] [] (G, I, J) Q) ∧ ((((I 47 (i4).toNatClampNeg) >>> (i2 &&& 31)) &&& 1) = 1 → q_W β xs L d 68 154 [.ref 38, .int i1, .int i2, .int i3, .int i4, .int i5, .int i4] [] (G, I, J) Q)))))))) : q_W β xs L d 68 120 [.ref 38, .int i1, .int i2, .int i3, .int i4, .int i5, .int i6] [] (G, I, J) Q := by
  refine w_al f_68_120 rfl ?_
  refine w_gr f_68_121 rfl (hR _ _ _ rfl) ?_
  refine w_gi f_68_124 rfl ?_
  refine w_ifne f_68_127 (fun c => ?_) (fun c => ?_)
  · have H := H.1 c
    exact H
  · have H := H.2 c
    refine w_il f_68_130 rfl ?_
    refine w_iflt f_68_132 (fun c => ?_) (fun c => ?_)
    · have H := H.1 c
      exact H
    · have H := H.2 c
      refine w_al f_68_135 rfl ?_
      refine w_gr f_68_136 rfl (hR _ _ _ rfl) ?_
      refine w_il f_68_139 rfl ?_
      have hb := H.1
      have H := H.2
      refine w_ald f_68_141 rfl hb ?_
      refine w_il f_68_142 rfl ?_
      refine w_bin f_68_143 ?_
      refine w_ic f_68_144 ?_
      refine w_bin f_68_145 ?_
      refine w_ic f_68_146 ?_
      refine w_icne f_68_147 (fun c => ?_) (fun c => ?_)
      · have H := H.1 c
        exact H
      · have H := H.2 c
        refine w_il f_68_150 rfl ?_
        refine w_is (ls' := [.ref 38, .int i1, .int i2, .int i3, .int i4, .int i5, .int i4]) f_68_152 rfl ?_
        exact H
theorem g_68_154 {d : Nat} {G : am_G} {I : Nat → Nat → Int32} {J : Nat → Nat → Int64} {Q : am_O → am_H → Prop} (hR : q_RT G) (i1 : Int32) (i2 : Int32) (i3 : Int32) (i4 : Int32) (i5 : Int32) (i6 : Int32) (H : ((i6 < 0 → q_W β xs L d 68 177 [.ref 38, .int i1, .int i2, .int i3, .int i4, .int i5, .int i6] [.int (-1)] (G, I, J) Q) ∧ (¬ i6 < 0 → (am_is ((i6 * 5) + i2) 100 = true ∧ q_W β xs L d 68 177 [.ref 38, .int i1, .int i2, .int i3, .int i4, .int i5, .int i6] [.int (I 43 (((i6 * 5) + i2)).toNatClampNeg)] (G, I, J) Q)))) : q_W β xs L d 68 154 [.ref 38, .int i1, .int i2, .int i3, .int i4, .int i5, .int i6] [] (G, I, J) Q := by
  refine w_il f_68_154 rfl ?_
  refine w_iflt f_68_156 (fun c => ?_) (fun c => ?_)
  · have H := H.1 c
    refine w_ic f_68_176 ?_
    exact H
  · have H := H.2 c
    refine w_al f_68_159 rfl ?_
    refine w_gr f_68_160 rfl (hR _ _ _ rfl) ?_
    refine w_gr f_68_163 rfl (hR _ _ _ rfl) ?_
    refine w_il f_68_166 rfl ?_
    refine w_ic f_68_168 ?_
    refine w_bin f_68_169 ?_
    refine w_il f_68_170 rfl ?_
    refine w_bin f_68_171 ?_
    have hb := H.1
    have H := H.2
    refine w_ald f_68_172 rfl hb ?_
    refine w_go f_68_173 ?_
    exact H
theorem g_68_177 {d : Nat} {G : am_G} {I : Nat → Nat → Int32} {J : Nat → Nat → Int64} {Q : am_O → am_H → Prop} (hR : q_RT G) (i1 : Int32) (i2 : Int32) (i3 : Int32) (i4 : Int32) (i5 : Int32) (i6 : Int32) (is0 : Int32) (H : Q (.inl (some (.int is0))) (G, I, J)) : q_W β xs L d 68 177 [.ref 38, .int i1, .int i2, .int i3, .int i4, .int i5, .int i6] [.int is0] (G, I, J) Q := by
  exact w_reti f_68_177 H
theorem g_70_0 {d : Nat} {G : am_G} {I : Nat → Nat → Int32} {J : Nat → Nat → Int64} {Q : am_O → am_H → Prop} (hR : q_RT G)  (H : (((I 1 2) < 5 → q_W β xs L d 98 0 [.ref 0] [] (G, I, J) (q_Rv (fun G1 I1 J1 => (q_RT G1 ∧ Q (.inl (some (.int (((I1 1 2) + 1) - 1)))) (G1, (am_u I1 1 2 ((I1 1 2) + 1)), J1))) (fun x1 G1 I1 J1 => Q (.inr x1) (G1, I1, J1)))) ∧ (¬ (I 1 2) < 5 → Q (.inl (some (.int (-1)))) (G, I, J)))) : q_W β xs L (d + 1) 70 0 [.ref 0] [] (G, I, J) Q := by
  refine w_al f_70_0 rfl ?_
  refine w_gr f_70_1 rfl (hR _ _ _ rfl) ?_
  refine w_gi f_70_4 rfl ?_
  refine w_ic f_70_7 ?_
  refine w_iclt f_70_8 (fun c => ?_) (fun c => ?_)
  · have H := H.1 c
    refine w_al f_70_13 rfl ?_
    refine w_inv (as := [.ref 0]) (st' := []) f_70_14 rfl rfl rfl rfl rfl rfl H (k_v (fun G1 I1 J1 H => ?_)) (x_n (fun _ => rfl) rfl (fun x h' h => h))
    have hR1 := H.1
    have H := H.2
    refine w_al f_70_17 rfl ?_
    refine w_gr f_70_18 rfl (hR1 _ _ _ rfl) ?_
    refine w_dupr f_70_21 ?_
    refine w_gi f_70_22 rfl ?_
    refine w_ic f_70_25 ?_
    refine w_bin f_70_26 ?_
    refine w_pi f_70_27 rfl ?_
    refine w_al f_70_30 rfl ?_
    refine w_gr f_70_31 rfl (hR1 _ _ _ rfl) ?_
    refine w_gi' f_70_34 rfl (am_u_same) ?_
    refine w_ic f_70_37 ?_
    refine w_bin f_70_38 ?_
    exact w_reti f_70_39 H
  · have H := H.2 c
    refine w_ic f_70_11 ?_
    exact w_reti f_70_12 H
theorem g_71_0 {d : Nat} {G : am_G} {I : Nat → Nat → Int32} {J : Nat → Nat → Int64} {Q : am_O → am_H → Prop} (hR : q_RT G) (i1 : Int32) (H : ((¬ (I 1 1) < 12 → q_W β xs L (d + 1) 71 28 [.ref 0, .int i1] [] (G, I, J) Q) ∧ ((I 1 1) < 12 → ((i1 < (-1) → q_W β xs L (d + 1) 71 28 [.ref 0, .int i1] [] (G, I, J) Q) ∧ (¬ i1 < (-1) → ((i1 < (I 1 2) → q_W β xs L d 98 0 [.ref 0] [] (G, I, J) (q_Rv (fun G1 I1 J1 => (q_RT G1 ∧ (am_is (I1 1 1) 12 = true ∧ Q (.inl (some (.int (((I1 1 1) + 1) - 1)))) (G1, (am_u (am_u I1 2 ((I1 1 1)).toNatClampNeg i1) 1 1 ((I1 1 1) + 1)), J1)))) (fun x1 G1 I1 J1 => Q (.inr x1) (G1, I1, J1)))) ∧ (¬ i1 < (I 1 2) → q_W β xs L (d + 1) 71 28 [.ref 0, .int i1] [] (G, I, J) Q))))))) : q_W β xs L (d + 1) 71 0 [.ref 0, .int i1] [] (G, I, J) Q := by
  refine w_al f_71_0 rfl ?_
  refine w_gr f_71_1 rfl (hR _ _ _ rfl) ?_
  refine w_gi f_71_4 rfl ?_
  refine w_ic f_71_7 ?_
  refine w_icge f_71_9 (fun c => ?_) (fun c => ?_)
  · have H := H.1 c
    exact H
  · have H := H.2 c
    refine w_il f_71_12 rfl ?_
    refine w_ic f_71_13 ?_
    refine w_iclt f_71_14 (fun c => ?_) (fun c => ?_)
    · have H := H.1 c
      exact H
    · have H := H.2 c
      refine w_il f_71_17 rfl ?_
      refine w_al f_71_18 rfl ?_
      refine w_gr f_71_19 rfl (hR _ _ _ rfl) ?_
      refine w_gi f_71_22 rfl ?_
      refine w_iclt f_71_25 (fun c => ?_) (fun c => ?_)
      · have H := H.1 c
        refine w_al f_71_30 rfl ?_
        refine w_inv (as := [.ref 0]) (st' := []) f_71_31 rfl rfl rfl rfl rfl rfl H (k_v (fun G1 I1 J1 H => ?_)) (x_n (fun _ => rfl) rfl (fun x h' h => h))
        have hR1 := H.1
        have H := H.2
        refine w_al f_71_34 rfl ?_
        refine w_gr f_71_35 rfl (hR1 _ _ _ rfl) ?_
        refine w_gr f_71_38 rfl (hR1 _ _ _ rfl) ?_
        refine w_al f_71_41 rfl ?_
        refine w_gr f_71_42 rfl (hR1 _ _ _ rfl) ?_
        refine w_gi f_71_45 rfl ?_
        refine w_il f_71_48 rfl ?_
        have hb := H.1
        have H := H.2
        refine w_ast f_71_49 rfl hb ?_
        refine w_al f_71_50 rfl ?_
        refine w_gr f_71_51 rfl (hR1 _ _ _ rfl) ?_
        refine w_dupr f_71_54 ?_
        refine w_gi' f_71_55 rfl (am_u_ne (Or.inl (by decide))) ?_
        refine w_ic f_71_58 ?_
        refine w_bin f_71_59 ?_
        refine w_pi f_71_60 rfl ?_
        refine w_al f_71_63 rfl ?_
        refine w_gr f_71_64 rfl (hR1 _ _ _ rfl) ?_
        refine w_gi' f_71_67 rfl (am_u_same) ?_
        refine w_ic f_71_70 ?_
        refine w_bin f_71_71 ?_
        exact w_reti f_71_72 H
      · have H := H.2 c
        exact H
theorem g_71_28 {d : Nat} {G : am_G} {I : Nat → Nat → Int32} {J : Nat → Nat → Int64} {Q : am_O → am_H → Prop} (hR : q_RT G) (i1 : Int32) (H : Q (.inl (some (.int (-1)))) (G, I, J)) : q_W β xs L (d + 1) 71 28 [.ref 0, .int i1] [] (G, I, J) Q := by
  refine w_ic f_71_28 ?_
  exact w_reti f_71_29 H
theorem g_72_0 {d : Nat} {G : am_G} {I : Nat → Nat → Int32} {J : Nat → Nat → Int64} {Q : am_O → am_H → Prop} (hR : q_RT G) (i1 : Int32) (i2 : Int32) (i3 : Int32) (H : ((i1 = 0 → q_W β xs L (d + 1) 72 9 [.ref 0, .int i1, .int i2, .int i3, .retAddr 0] [] (G, I, J) Q) ∧ (¬ i1 = 0 → ((¬ i1 = 1 → q_W β xs L (d + 1) 72 29 [.ref 0, .int i1, .int i2, .int i3, .retAddr 0] [] (G, I, J) Q) ∧ (i1 = 1 → q_W β xs L (d + 1) 72 9 [.ref 0, .int i1, .int i2, .int i3, .retAddr 0] [] (G, I, J) Q))))) : q_W β xs L (d + 1) 72 0 [.ref 0, .int i1, .int i2, .int i3, .retAddr 0] [] (G, I, J) Q := by
  refine w_il f_72_0 rfl ?_
  refine w_ifeq f_72_1 (fun c => ?_) (fun c => ?_)
  · have H := H.1 c
    exact H
  · have H := H.2 c
    refine w_il f_72_4 rfl ?_
    refine w_ic f_72_5 ?_
    refine w_icne f_72_6 (fun c => ?_) (fun c => ?_)
    · have H := H.1 c
      exact H
    · have H := H.2 c
      exact H
theorem g_72_9 {d : Nat} {G : am_G} {I : Nat → Nat → Int32} {J : Nat → Nat → Int64} {Q : am_O → am_H → Prop} (hR : q_RT G) (i1 : Int32) (i2 : Int32) (i3 : Int32) (H : q_W β xs L d 96 0 [.ref 0, .int i2] [] (G, I, J) (q_Ri (fun y1 G1 I1 J1 => ((y1 = 0 → q_W β xs L (d + 1) 72 29 [.ref 0, .int i1, .int i2, .int i3, .retAddr 0] [] (G1, I1, J1) Q) ∧ (¬ y1 = 0 → q_W β xs L d 96 0 [.ref 0, .int i3] [] (G1, I1, J1) (q_Ri (fun y2 G2 I2 J2 => ((y2 = 0 → q_W β xs L (d + 1) 72 29 [.ref 0, .int i1, .int i2, .int i3, .retAddr 0] [] (G2, I2, J2) Q) ∧ (¬ y2 = 0 → q_W β xs L (d + 1) 72 30 [.ref 0, .int i1, .int i2, .int i3, .retAddr 0] [.int 1] (G2, I2, J2) Q))) (fun x2 G2 I2 J2 => Q (.inr x2) (G2, I2, J2)))))) (fun x1 G1 I1 J1 => Q (.inr x1) (G1, I1, J1)))) : q_W β xs L (d + 1) 72 9 [.ref 0, .int i1, .int i2, .int i3, .retAddr 0] [] (G, I, J) Q := by
  refine w_al f_72_9 rfl ?_
  refine w_il f_72_10 rfl ?_
  refine w_inv (as := [.ref 0, .int i2]) (st' := []) f_72_11 rfl rfl rfl rfl rfl rfl H (k_i (fun y1 G1 I1 J1 H => ?_)) (x_n (fun _ => rfl) rfl (fun x h' h => h))
  refine w_ifeq f_72_14 (fun c => ?_) (fun c => ?_)
  · have H := H.1 c
    exact H
  · have H := H.2 c
    refine w_al f_72_17 rfl ?_
    refine w_il f_72_18 rfl ?_
    refine w_inv (as := [.ref 0, .int i3]) (st' := []) f_72_19 rfl rfl rfl rfl rfl rfl H (k_i (fun y2 G2 I2 J2 H => ?_)) (x_n (fun _ => rfl) rfl (fun x h' h => h))
    refine w_ifeq f_72_22 (fun c => ?_) (fun c => ?_)
    · have H := H.1 c
      exact H
    · have H := H.2 c
      refine w_ic f_72_25 ?_
      refine w_go f_72_26 ?_
      exact H
theorem g_72_29 {d : Nat} {G : am_G} {I : Nat → Nat → Int32} {J : Nat → Nat → Int64} {Q : am_O → am_H → Prop} (hR : q_RT G) (i1 : Int32) (i2 : Int32) (i3 : Int32) (H : q_W β xs L (d + 1) 72 30 [.ref 0, .int i1, .int i2, .int i3, .retAddr 0] [.int 0] (G, I, J) Q) : q_W β xs L (d + 1) 72 29 [.ref 0, .int i1, .int i2, .int i3, .retAddr 0] [] (G, I, J) Q := by
  refine w_ic f_72_29 ?_
  exact H
theorem g_72_30 {d : Nat} {G : am_G} {I : Nat → Nat → Int32} {J : Nat → Nat → Int64} {Q : am_O → am_H → Prop} (hR : q_RT G) (i1 : Int32) (i2 : Int32) (i3 : Int32) (is0 : Int32) (H : ((is0 = 0 → q_W β xs L (d + 1) 72 49 [.ref 0, .int i1, .int i2, .int i3, .int is0] [] (G, I, J) Q) ∧ (¬ is0 = 0 → (((I 3 3) < 20 → q_W β xs L d 98 0 [.ref 0] [] (G, I, J) (q_Rv (fun G1 I1 J1 => (q_RT G1 ∧ (am_is (I1 3 3) 20 = true ∧ (am_is (I1 3 3) 20 = true ∧ (am_is (I1 3 3) 20 = true ∧ Q (.inl (some (.int (((I1 3 3) + 1) - 1)))) (G1, (am_u (am_u (am_u (am_u I1 4 ((I1 3 3)).toNatClampNeg i1) 5 ((I1 3 3)).toNatClampNeg i2) 6 ((I1 3 3)).toNatClampNeg i3) 3 3 ((I1 3 3) + 1)), J1)))))) (fun x1 G1 I1 J1 => Q (.inr x1) (G1, I1, J1)))) ∧ (¬ (I 3 3) < 20 → q_W β xs L (d + 1) 72 49 [.ref 0, .int i1, .int i2, .int i3, .int is0] [] (G, I, J) Q))))) : q_W β xs L (d + 1) 72 30 [.ref 0, .int i1, .int i2, .int i3, .retAddr 0] [.int is0] (G, I, J) Q := by
  refine w_is (ls' := [.ref 0, .int i1, .int i2, .int i3, .int is0]) f_72_30 rfl ?_
  refine w_il f_72_32 rfl ?_
  refine w_ifeq f_72_34 (fun c => ?_) (fun c => ?_)
  · have H := H.1 c
    exact H
  · have H := H.2 c
    refine w_al f_72_37 rfl ?_
    refine w_gr f_72_38 rfl (hR _ _ _ rfl) ?_
    refine w_gi f_72_41 rfl ?_
    refine w_ic f_72_44 ?_
    refine w_iclt f_72_46 (fun c => ?_) (fun c => ?_)
    · have H := H.1 c
      refine w_al f_72_51 rfl ?_
      refine w_inv (as := [.ref 0]) (st' := []) f_72_52 rfl rfl rfl rfl rfl rfl H (k_v (fun G1 I1 J1 H => ?_)) (x_n (fun _ => rfl) rfl (fun x h' h => h))
      have hR1 := H.1
      have H := H.2
      refine w_al f_72_55 rfl ?_
      refine w_gr f_72_56 rfl (hR1 _ _ _ rfl) ?_
      refine w_gr f_72_59 rfl (hR1 _ _ _ rfl) ?_
      refine w_al f_72_62 rfl ?_
      refine w_gr f_72_63 rfl (hR1 _ _ _ rfl) ?_
      refine w_gi f_72_66 rfl ?_
      refine w_il f_72_69 rfl ?_
      have hb := H.1
      have H := H.2
      refine w_ast f_72_70 rfl hb ?_
      refine w_al f_72_71 rfl ?_
      refine w_gr f_72_72 rfl (hR1 _ _ _ rfl) ?_
      refine w_gr f_72_75 rfl (hR1 _ _ _ rfl) ?_
      refine w_al f_72_78 rfl ?_
      refine w_gr f_72_79 rfl (hR1 _ _ _ rfl) ?_
      refine w_gi' f_72_82 rfl (am_u_ne (Or.inl (by decide))) ?_
      refine w_il f_72_85 rfl ?_
      have hb := H.1
      have H := H.2
      refine w_ast f_72_86 rfl hb ?_
      refine w_al f_72_87 rfl ?_
      refine w_gr f_72_88 rfl (hR1 _ _ _ rfl) ?_
      refine w_gr f_72_91 rfl (hR1 _ _ _ rfl) ?_
      refine w_al f_72_94 rfl ?_
      refine w_gr f_72_95 rfl (hR1 _ _ _ rfl) ?_
      refine w_gi' f_72_98 rfl ((am_u_ne (Or.inl (by decide))).trans (am_u_ne (Or.inl (by decide)))) ?_
      refine w_il f_72_101 rfl ?_
      have hb := H.1
      have H := H.2
      refine w_ast f_72_102 rfl hb ?_
      refine w_al f_72_103 rfl ?_
      refine w_gr f_72_104 rfl (hR1 _ _ _ rfl) ?_
      refine w_dupr f_72_107 ?_
      refine w_gi' f_72_108 rfl ((am_u_ne (Or.inl (by decide))).trans ((am_u_ne (Or.inl (by decide))).trans (am_u_ne (Or.inl (by decide))))) ?_
      refine w_ic f_72_111 ?_
      refine w_bin f_72_112 ?_
      refine w_pi f_72_113 rfl ?_
      refine w_al f_72_116 rfl ?_
      refine w_gr f_72_117 rfl (hR1 _ _ _ rfl) ?_
      refine w_gi' f_72_120 rfl (am_u_same) ?_
      refine w_ic f_72_123 ?_
      refine w_bin f_72_124 ?_
      exact w_reti f_72_125 H
    · have H := H.2 c
      exact H
theorem g_72_49 {d : Nat} {G : am_G} {I : Nat → Nat → Int32} {J : Nat → Nat → Int64} {Q : am_O → am_H → Prop} (hR : q_RT G) (i1 : Int32) (i2 : Int32) (i3 : Int32) (i4 : Int32) (H : Q (.inl (some (.int (-1)))) (G, I, J)) : q_W β xs L (d + 1) 72 49 [.ref 0, .int i1, .int i2, .int i3, .int i4] [] (G, I, J) Q := by
  refine w_ic f_72_49 ?_
  exact w_reti f_72_50 H
theorem g_73_0 {d : Nat} {G : am_G} {I : Nat → Nat → Int32} {J : Nat → Nat → Int64} {Q : am_O → am_H → Prop} (hR : q_RT G) (i1 : Int32) (i2 : Int32) (i3 : Int32) (i4 : Int32) (i5 : Int32) (H : q_W β xs L d 91 0 [.int i1, .int 7] [] (G, I, J) (q_Rv (fun G1 I1 J1 => (q_RT G1 ∧ ((i1 = 5 → q_W β xs L (d + 1) 73 22 [.ref 0, .int i1, .int i2, .int i3, .int i4, .int i5, .retAddr 0, .retAddr 0, .retAddr 0] [] (G1, I1, J1) Q) ∧ (¬ i1 = 5 → q_W β xs L d 91 0 [.int i2, .int (I1 3 3)] [] (G1, I1, J1) (q_Rv (fun G2 I2 J2 => q_W β xs L (d + 1) 73 22 [.ref 0, .int i1, .int i2, .int i3, .int i4, .int i5, .retAddr 0, .retAddr 0, .retAddr 0] [] (G2, I2, J2) Q) (fun x2 G2 I2 J2 => Q (.inr x2) (G2, I2, J2))))))) (fun x1 G1 I1 J1 => Q (.inr x1) (G1, I1, J1)))) : q_W β xs L (d + 1) 73 0 [.ref 0, .int i1, .int i2, .int i3, .int i4, .int i5, .retAddr 0, .retAddr 0, .retAddr 0] [] (G, I, J) Q := by
  refine w_il f_73_0 rfl ?_
  refine w_ic f_73_1 ?_
  refine w_invs (as := [.int i1, .int 7]) (st' := []) f_73_3 rfl rfl rfl rfl rfl H (k_v (fun G1 I1 J1 H => ?_)) (x_n (fun _ => rfl) rfl (fun x h' h => h))
  have hR1 := H.1
  have H := H.2
  refine w_il f_73_6 rfl ?_
  refine w_ic f_73_7 ?_
  refine w_iceq f_73_8 (fun c => ?_) (fun c => ?_)
  · have H := H.1 c
    exact H
  · have H := H.2 c
    refine w_il f_73_11 rfl ?_
    refine w_al f_73_12 rfl ?_
    refine w_gr f_73_13 rfl (hR1 _ _ _ rfl) ?_
    refine w_gi f_73_16 rfl ?_
    refine w_invs (as := [.int i2, .int (I1 3 3)]) (st' := []) f_73_19 rfl rfl rfl rfl rfl H (k_v (fun G2 I2 J2 H => ?_)) (x_n (fun _ => rfl) rfl (fun x h' h => h))
    exact H
theorem g_73_22 {d : Nat} {G : am_G} {I : Nat → Nat → Int32} {J : Nat → Nat → Int64} {Q : am_O → am_H → Prop} (hR : q_RT G) (i1 : Int32) (i2 : Int32) (i3 : Int32) (i4 : Int32) (i5 : Int32) (H : ((¬ i1 = 1 → q_W β xs L (d + 1) 73 38 [.ref 0, .int i1, .int i2, .int i3, .int i4, .int i5, .retAddr 0, .retAddr 0, .retAddr 0] [] (G, I, J) Q) ∧ (i1 = 1 → q_W β xs L d 91 0 [.int i3, .int (I 3 3)] [] (G, I, J) (q_Rv (fun G1 I1 J1 => q_W β xs L (d + 1) 73 38 [.ref 0, .int i1, .int i2, .int i3, .int i4, .int i5, .retAddr 0, .retAddr 0, .retAddr 0] [] (G1, I1, J1) Q) (fun x1 G1 I1 J1 => Q (.inr x1) (G1, I1, J1)))))) : q_W β xs L (d + 1) 73 22 [.ref 0, .int i1, .int i2, .int i3, .int i4, .int i5, .retAddr 0, .retAddr 0, .retAddr 0] [] (G, I, J) Q := by
  refine w_il f_73_22 rfl ?_
  refine w_ic f_73_23 ?_
  refine w_icne f_73_24 (fun c => ?_) (fun c => ?_)
  · have H := H.1 c
    exact H
  · have H := H.2 c
    refine w_il f_73_27 rfl ?_
    refine w_al f_73_28 rfl ?_
    refine w_gr f_73_29 rfl (hR _ _ _ rfl) ?_
    refine w_gi f_73_32 rfl ?_
    refine w_invs (as := [.int i3, .int (I 3 3)]) (st' := []) f_73_35 rfl rfl rfl rfl rfl H (k_v (fun G1 I1 J1 H => ?_)) (x_n (fun _ => rfl) rfl (fun x h' h => h))
    exact H
theorem g_73_38 {d : Nat} {G : am_G} {I : Nat → Nat → Int32} {J : Nat → Nat → Int64} {Q : am_O → am_H → Prop} (hR : q_RT G) (i1 : Int32) (i2 : Int32) (i3 : Int32) (i4 : Int32) (i5 : Int32) (H : ((¬ 1 < i1 → q_W β xs L (d + 1) 73 53 [.ref 0, .int i1, .int i2, .int i3, .int i4, .int i5, .retAddr 0, .retAddr 0, .retAddr 0] [] (G, I, J) Q) ∧ (1 < i1 → ((¬ i1 < 6 → q_W β xs L (d + 1) 73 53 [.ref 0, .int i1, .int i2, .int i3, .int i4, .int i5, .retAddr 0, .retAddr 0, .retAddr 0] [] (G, I, J) Q) ∧ (i1 < 6 → q_W β xs L (d + 1) 73 54 [.ref 0, .int i1, .int i2, .int i3, .int i4, .int i5, .retAddr 0, .retAddr 0, .retAddr 0] [.int 1] (G, I, J) Q))))) : q_W β xs L (d + 1) 73 38 [.ref 0, .int i1, .int i2, .int i3, .int i4, .int i5, .retAddr 0, .retAddr 0, .retAddr 0] [] (G, I, J) Q := by
  refine w_il f_73_38 rfl ?_
  refine w_ic f_73_39 ?_
  refine w_icle f_73_40 (fun c => ?_) (fun c => ?_)
  · have H := H.1 c
    exact H
  · have H := H.2 c
    refine w_il f_73_43 rfl ?_
    refine w_ic f_73_44 ?_
    refine w_icge f_73_46 (fun c => ?_) (fun c => ?_)
    · have H := H.1 c
      exact H
    · have H := H.2 c
      refine w_ic f_73_49 ?_
      refine w_go f_73_50 ?_
      exact H
theorem g_73_53 {d : Nat} {G : am_G} {I : Nat → Nat → Int32} {J : Nat → Nat → Int64} {Q : am_O → am_H → Prop} (hR : q_RT G) (i1 : Int32) (i2 : Int32) (i3 : Int32) (i4 : Int32) (i5 : Int32) (H : q_W β xs L (d + 1) 73 54 [.ref 0, .int i1, .int i2, .int i3, .int i4, .int i5, .retAddr 0, .retAddr 0, .retAddr 0] [.int 0] (G, I, J) Q) : q_W β xs L (d + 1) 73 53 [.ref 0, .int i1, .int i2, .int i3, .int i4, .int i5, .retAddr 0, .retAddr 0, .retAddr 0] [] (G, I, J) Q := by
  refine w_ic f_73_53 ?_
  exact H
theorem g_73_54 {d : Nat} {G : am_G} {I : Nat → Nat → Int32} {J : Nat → Nat → Int64} {Q : am_O → am_H → Prop} (hR : q_RT G) (i1 : Int32) (i2 : Int32) (i3 : Int32) (i4 : Int32) (i5 : Int32) (is0 : Int32) (H : ((is0 = 0 → q_W β xs L (d + 1) 73 72 [.ref 0, .int i1, .int i2, .int i3, .int i4, .int i5, .int is0, .retAddr 0, .retAddr 0] [] (G, I, J) Q) ∧ (¬ is0 = 0 → q_W β xs L d 91 0 [.int i3, .int (I 1 2)] [] (G, I, J) (q_Rv (fun G1 I1 J1 => q_W β xs L (d + 1) 73 72 [.ref 0, .int i1, .int i2, .int i3, .int i4, .int i5, .int is0, .retAddr 0, .retAddr 0] [] (G1, I1, J1) Q) (fun x1 G1 I1 J1 => Q (.inr x1) (G1, I1, J1)))))) : q_W β xs L (d + 1) 73 54 [.ref 0, .int i1, .int i2, .int i3, .int i4, .int i5, .retAddr 0, .retAddr 0, .retAddr 0] [.int is0] (G, I, J) Q := by
  refine w_is (ls' := [.ref 0, .int i1, .int i2, .int i3, .int i4, .int i5, .int is0, .retAddr 0, .retAddr 0]) f_73_54 rfl ?_
  refine w_il f_73_56 rfl ?_
  refine w_ifeq f_73_58 (fun c => ?_) (fun c => ?_)
  · have H := H.1 c
    exact H
  · have H := H.2 c
    refine w_il f_73_61 rfl ?_
    refine w_al f_73_62 rfl ?_
    refine w_gr f_73_63 rfl (hR _ _ _ rfl) ?_
    refine w_gi f_73_66 rfl ?_
    refine w_invs (as := [.int i3, .int (I 1 2)]) (st' := []) f_73_69 rfl rfl rfl rfl rfl H (k_v (fun G1 I1 J1 H => ?_)) (x_n (fun _ => rfl) rfl (fun x h' h => h))
    exact H
theorem g_73_72 {d : Nat} {G : am_G} {I : Nat → Nat → Int32} {J : Nat → Nat → Int64} {Q : am_O → am_H → Prop} (hR : q_RT G) (i1 : Int32) (i2 : Int32) (i3 : Int32) (i4 : Int32) (i5 : Int32) (i6 : Int32) (H : ((i1 < 2 → q_W β xs L (d + 1) 73 82 [.ref 0, .int i1, .int i2, .int i3, .int i4, .int i5, .int i6, .retAddr 0, .retAddr 0] [] (G, I, J) Q) ∧ (¬ i1 < 2 → ((i1 < 5 → q_W β xs L (d + 1) 73 87 [.ref 0, .int i1, .int i2, .int i3, .int i4, .int i5, .int i6, .retAddr 0, .retAddr 0] [.int 0] (G, I, J) Q) ∧ (¬ i1 < 5 → q_W β xs L (d + 1) 73 82 [.ref 0, .int i1, .int i2, .int i3, .int i4, .int i5, .int i6, .retAddr 0, .retAddr 0] [] (G, I, J) Q))))) : q_W β xs L (d + 1) 73 72 [.ref 0, .int i1, .int i2, .int i3, .int i4, .int i5, .int i6, .retAddr 0, .retAddr 0] [] (G, I, J) Q := by
  refine w_il f_73_72 rfl ?_
  refine w_ic f_73_73 ?_
  refine w_iclt f_73_74 (fun c => ?_) (fun c => ?_)
  · have H := H.1 c
    exact H
  · have H := H.2 c
    refine w_il f_73_77 rfl ?_
    refine w_ic f_73_78 ?_
    refine w_iclt f_73_79 (fun c => ?_) (fun c => ?_)
    · have H := H.1 c
      refine w_ic f_73_86 ?_
      exact H
    · have H := H.2 c
      exact H
theorem g_73_82 {d : Nat} {G : am_G} {I : Nat → Nat → Int32} {J : Nat → Nat → Int64} {Q : am_O → am_H → Prop} (hR : q_RT G) (i1 : Int32) (i2 : Int32) (i3 : Int32) (i4 : Int32) (i5 : Int32) (i6 : Int32) (H : q_W β xs L (d + 1) 73 87 [.ref 0, .int i1, .int i2, .int i3, .int i4, .int i5, .int i6, .retAddr 0, .retAddr 0] [.int 1] (G, I, J) Q) : q_W β xs L (d + 1) 73 82 [.ref 0, .int i1, .int i2, .int i3, .int i4, .int i5, .int i6, .retAddr 0, .retAddr 0] [] (G, I, J) Q := by
  refine w_ic f_73_82 ?_
  refine w_go f_73_83 ?_
  exact H
theorem g_73_87 {d : Nat} {G : am_G} {I : Nat → Nat → Int32} {J : Nat → Nat → Int64} {Q : am_O → am_H → Prop} (hR : q_RT G) (i1 : Int32) (i2 : Int32) (i3 : Int32) (i4 : Int32) (i5 : Int32) (i6 : Int32) (is0 : Int32) (H : ((is0 = 0 → q_W β xs L (d + 1) 73 106 [.ref 0, .int i1, .int i2, .int i3, .int i4, .int i5, .int i6, .int is0, .retAddr 0] [] (G, I, J) Q) ∧ (¬ is0 = 0 → q_W β xs L d 91 0 [.int i4, .int (I 1 1)] [] (G, I, J) (q_Rv (fun G1 I1 J1 => q_W β xs L (d + 1) 73 106 [.ref 0, .int i1, .int i2, .int i3, .int i4, .int i5, .int i6, .int is0, .retAddr 0] [] (G1, I1, J1) Q) (fun x1 G1 I1 J1 => Q (.inr x1) (G1, I1, J1)))))) : q_W β xs L (d + 1) 73 87 [.ref 0, .int i1, .int i2, .int i3, .int i4, .int i5, .int i6, .retAddr 0, .retAddr 0] [.int is0] (G, I, J) Q := by
  refine w_is (ls' := [.ref 0, .int i1, .int i2, .int i3, .int i4, .int i5, .int i6, .int is0, .retAddr 0]) f_73_87 rfl ?_
  refine w_il f_73_89 rfl ?_
  refine w_ifeq f_73_91 (fun c => ?_) (fun c => ?_)
  · have H := H.1 c
    exact H
  · have H := H.2 c
    refine w_il f_73_94 rfl ?_
    refine w_al f_73_96 rfl ?_
    refine w_gr f_73_97 rfl (hR _ _ _ rfl) ?_
    refine w_gi f_73_100 rfl ?_
    refine w_invs (as := [.int i4, .int (I 1 1)]) (st' := []) f_73_103 rfl rfl rfl rfl rfl H (k_v (fun G1 I1 J1 H => ?_)) (x_n (fun _ => rfl) rfl (fun x h' h => h))
    exact H
theorem g_73_106 {d : Nat} {G : am_G} {I : Nat → Nat → Int32} {J : Nat → Nat → Int64} {Q : am_O → am_H → Prop} (hR : q_RT G) (i1 : Int32) (i2 : Int32) (i3 : Int32) (i4 : Int32) (i5 : Int32) (i6 : Int32) (i7 : Int32) (H : ((¬ (I 7 8) < 100 → q_W β xs L (d + 1) 73 136 [.ref 0, .int i1, .int i2, .int i3, .int i4, .int i5, .int i6, .int i7, .retAddr 0] [] (G, I, J) Q) ∧ ((I 7 8) < 100 → q_W β xs L d 95 0 [.int i5] [] (G, I, J) (q_Ri (fun y1 G1 I1 J1 => ((y1 = 0 → q_W β xs L (d + 1) 73 136 [.ref 0, .int i1, .int i2, .int i3, .int i4, .int i5, .int i6, .int i7, .retAddr 0] [] (G1, I1, J1) Q) ∧ (¬ y1 = 0 → ((¬ i1 = 1 → q_W β xs L (d + 1) 73 138 [.ref 0, .int i1, .int i2, .int i3, .int i4, .int i5, .int i6, .int i7, .retAddr 0] [] (G1, I1, J1) Q) ∧ (i1 = 1 → ((¬ i2 = i3 → q_W β xs L (d + 1) 73 138 [.ref 0, .int i1, .int i2, .int i3, .int i4, .int i5, .int i6, .int i7, .retAddr 0] [] (G1, I1, J1) Q) ∧ (i2 = i3 → q_W β xs L (d + 1) 73 136 [.ref 0, .int i1, .int i2, .int i3, .int i4, .int i5, .int i6, .int i7, .retAddr 0] [] (G1, I1, J1) Q))))))) (fun x1 G1 I1 J1 => Q (.inr x1) (G1, I1, J1)))))) : q_W β xs L (d + 1) 73 106 [.ref 0, .int i1, .int i2, .int i3, .int i4, .int i5, .int i6, .int i7, .retAddr 0] [] (G, I, J) Q := by
  refine w_al f_73_106 rfl ?_
  refine w_gr f_73_107 rfl (hR _ _ _ rfl) ?_
  refine w_gi f_73_110 rfl ?_
  refine w_ic f_73_113 ?_
  refine w_icge f_73_115 (fun c => ?_) (fun c => ?_)
  · have H := H.1 c
    exact H
  · have H := H.2 c
    refine w_il f_73_118 rfl ?_
    refine w_invs (as := [.int i5]) (st' := []) f_73_120 rfl rfl rfl rfl rfl H (k_i (fun y1 G1 I1 J1 H => ?_)) (x_n (fun _ => rfl) rfl (fun x h' h => h))
    refine w_ifeq f_73_123 (fun c => ?_) (fun c => ?_)
    · have H := H.1 c
      exact H
    · have H := H.2 c
      refine w_il f_73_126 rfl ?_
      refine w_ic f_73_127 ?_
      refine w_icne f_73_128 (fun c => ?_) (fun c => ?_)
      · have H := H.1 c
        exact H
      · have H := H.2 c
        refine w_il f_73_131 rfl ?_
        refine w_il f_73_132 rfl ?_
        refine w_icne f_73_133 (fun c => ?_) (fun c => ?_)
        · have H := H.1 c
          exact H
        · have H := H.2 c
          exact H
theorem g_73_136 {d : Nat} {G : am_G} {I : Nat → Nat → Int32} {J : Nat → Nat → Int64} {Q : am_O → am_H → Prop} (hR : q_RT G) (i1 : Int32) (i2 : Int32) (i3 : Int32) (i4 : Int32) (i5 : Int32) (i6 : Int32) (i7 : Int32) (H : Q (.inl (some (.int (-1)))) (G, I, J)) : q_W β xs L (d + 1) 73 136 [.ref 0, .int i1, .int i2, .int i3, .int i4, .int i5, .int i6, .int i7, .retAddr 0] [] (G, I, J) Q := by
  refine w_ic f_73_136 ?_
  exact w_reti f_73_137 H
theorem g_73_138 {d : Nat} {G : am_G} {I : Nat → Nat → Int32} {J : Nat → Nat → Int64} {Q : am_O → am_H → Prop} (hR : q_RT G) (i1 : Int32) (i2 : Int32) (i3 : Int32) (i4 : Int32) (i5 : Int32) (i6 : Int32) (i7 : Int32) (H : q_W β xs L d 98 0 [.ref 0] [] (G, I, J) (q_Rv (fun G1 I1 J1 => (q_RT G1 ∧ (am_is (I1 7 8) 100 = true ∧ ((¬ i1 = 5 → q_W β xs L (d + 1) 73 181 [.ref 0, .int i1, .int i2, .int i3, .int i4, .int i5, .int i6, .int i7, .int (I1 7 8)] [.int i2, .int (I1 7 8), .ref 9] (G1, (am_u I1 8 ((I1 7 8)).toNatClampNeg i1), J1) Q) ∧ (i1 = 5 → q_W β xs L (d + 1) 73 181 [.ref 0, .int i1, .int i2, .int i3, .int i4, .int i5, .int i6, .int i7, .int (I1 7 8)] [.int (-1), .int (I1 7 8), .ref 9] (G1, (am_u I1 8 ((I1 7 8)).toNatClampNeg i1), J1) Q))))) (fun x1 G1 I1 J1 => Q (.inr x1) (G1, I1, J1)))) : q_W β xs L (d + 1) 73 138 [.ref 0, .int i1, .int i2, .int i3, .int i4, .int i5, .int i6, .int i7, .retAddr 0] [] (G, I, J) Q := by
  refine w_al f_73_138 rfl ?_
  refine w_inv (as := [.ref 0]) (st' := []) f_73_139 rfl rfl rfl rfl rfl rfl H (k_v (fun G1 I1 J1 H => ?_)) (x_n (fun _ => rfl) rfl (fun x h' h => h))
  have hR1 := H.1
  have H := H.2
  refine w_al f_73_142 rfl ?_
  refine w_gr f_73_143 rfl (hR1 _ _ _ rfl) ?_
  refine w_gi f_73_146 rfl ?_
  refine w_is (ls' := [.ref 0, .int i1, .int i2, .int i3, .int i4, .int i5, .int i6, .int i7, .int (I1 7 8)]) f_73_149 rfl ?_
  refine w_al f_73_151 rfl ?_
  refine w_gr f_73_152 rfl (hR1 _ _ _ rfl) ?_
  refine w_gr f_73_155 rfl (hR1 _ _ _ rfl) ?_
  refine w_il f_73_158 rfl ?_
  refine w_il f_73_160 rfl ?_
  have hb := H.1
  have H := H.2
  refine w_ast f_73_161 rfl hb ?_
  refine w_al f_73_162 rfl ?_
  refine w_gr f_73_163 rfl (hR1 _ _ _ rfl) ?_
  refine w_gr f_73_166 rfl (hR1 _ _ _ rfl) ?_
  refine w_il f_73_169 rfl ?_
  refine w_il f_73_171 rfl ?_
  refine w_ic f_73_172 ?_
  refine w_icne f_73_173 (fun c => ?_) (fun c => ?_)
  · have H := H.1 c
    refine w_il f_73_180 rfl ?_
    exact H
  · have H := H.2 c
    refine w_ic f_73_176 ?_
    refine w_go f_73_177 ?_
    exact H
theorem g_73_181 {d : Nat} {G : am_G} {I : Nat → Nat → Int32} {J : Nat → Nat → Int64} {Q : am_O → am_H → Prop} (hR : q_RT G) (i1 : Int32) (i2 : Int32) (i3 : Int32) (i4 : Int32) (i5 : Int32) (i6 : Int32) (i7 : Int32) (i8 : Int32) (is0 : Int32) (is1 : Int32) (H : (am_is is1 100 = true ∧ ((¬ i6 = 0 → q_W β xs L (d + 1) 73 201 [.ref 0, .int i1, .int i2, .int i3, .int i4, .int i5, .int i6, .int i7, .int i8] [.int i8, .ref 10] (G, (am_u I 9 (is1).toNatClampNeg is0), J) Q) ∧ (i6 = 0 → ((¬ i1 = 1 → q_W β xs L (d + 1) 73 206 [.ref 0, .int i1, .int i2, .int i3, .int i4, .int i5, .int i6, .int i7, .int i8] [.int (-1), .int i8, .ref 10] (G, (am_u I 9 (is1).toNatClampNeg is0), J) Q) ∧ (i1 = 1 → q_W β xs L (d + 1) 73 201 [.ref 0, .int i1, .int i2, .int i3, .int i4, .int i5, .int i6, .int i7, .int i8] [.int i8, .ref 10] (G, (am_u I 9 (is1).toNatClampNeg is0), J) Q)))))) : q_W β xs L (d + 1) 73 181 [.ref 0, .int i1, .int i2, .int i3, .int i4, .int i5, .int i6, .int i7, .int i8] [.int is0, .int is1, .ref 9] (G, I, J) Q := by
  have hb := H.1
  have H := H.2
  refine w_ast f_73_181 rfl hb ?_
  refine w_al f_73_182 rfl ?_
  refine w_gr f_73_183 rfl (hR _ _ _ rfl) ?_
  refine w_gr f_73_186 rfl (hR _ _ _ rfl) ?_
  refine w_il f_73_189 rfl ?_
  refine w_il f_73_191 rfl ?_
  refine w_ifne f_73_193 (fun c => ?_) (fun c => ?_)
  · have H := H.1 c
    exact H
  · have H := H.2 c
    refine w_il f_73_196 rfl ?_
    refine w_ic f_73_197 ?_
    refine w_icne f_73_198 (fun c => ?_) (fun c => ?_)
    · have H := H.1 c
      refine w_ic f_73_205 ?_
      exact H
    · have H := H.2 c
      exact H
theorem g_73_201 {d : Nat} {G : am_G} {I : Nat → Nat → Int32} {J : Nat → Nat → Int64} {Q : am_O → am_H → Prop} (hR : q_RT G) (i1 : Int32) (i2 : Int32) (i3 : Int32) (i4 : Int32) (i5 : Int32) (i6 : Int32) (i7 : Int32) (i8 : Int32) (is0 : Int32) (H : q_W β xs L (d + 1) 73 206 [.ref 0, .int i1, .int i2, .int i3, .int i4, .int i5, .int i6, .int i7, .int i8] [.int i3, .int is0, .ref 10] (G, I, J) Q) : q_W β xs L (d + 1) 73 201 [.ref 0, .int i1, .int i2, .int i3, .int i4, .int i5, .int i6, .int i7, .int i8] [.int is0, .ref 10] (G, I, J) Q := by
  refine w_il f_73_201 rfl ?_
  refine w_go f_73_202 ?_
  exact H
theorem g_73_206 {d : Nat} {G : am_G} {I : Nat → Nat → Int32} {J : Nat → Nat → Int64} {Q : am_O → am_H → Prop} (hR : q_RT G) (i1 : Int32) (i2 : Int32) (i3 : Int32) (i4 : Int32) (i5 : Int32) (i6 : Int32) (i7 : Int32) (i8 : Int32) (is0 : Int32) (is1 : Int32) (H : (am_is is1 100 = true ∧ ((i7 = 0 → q_W β xs L (d + 1) 73 227 [.ref 0, .int i1, .int i2, .int i3, .int i4, .int i5, .int i6, .int i7, .int i8] [.int (-1), .int i8, .ref 11] (G, (am_u I 10 (is1).toNatClampNeg is0), J) Q) ∧ (¬ i7 = 0 → q_W β xs L (d + 1) 73 227 [.ref 0, .int i1, .int i2, .int i3, .int i4, .int i5, .int i6, .int i7, .int i8] [.int i4, .int i8, .ref 11] (G, (am_u I 10 (is1).toNatClampNeg is0), J) Q)))) : q_W β xs L (d + 1) 73 206 [.ref 0, .int i1, .int i2, .int i3, .int i4, .int i5, .int i6, .int i7, .int i8] [.int is0, .int is1, .ref 10] (G, I, J) Q := by
  have hb := H.1
  have H := H.2
  refine w_ast f_73_206 rfl hb ?_
  refine w_al f_73_207 rfl ?_
  refine w_gr f_73_208 rfl (hR _ _ _ rfl) ?_
  refine w_gr f_73_211 rfl (hR _ _ _ rfl) ?_
  refine w_il f_73_214 rfl ?_
  refine w_il f_73_216 rfl ?_
  refine w_ifeq f_73_218 (fun c => ?_) (fun c => ?_)
  · have H := H.1 c
    refine w_ic f_73_226 ?_
    exact H
  · have H := H.2 c
    refine w_il f_73_221 rfl ?_
    refine w_go f_73_223 ?_
    exact H
theorem g_73_227 {d : Nat} {G : am_G} {I : Nat → Nat → Int32} {J : Nat → Nat → Int64} {Q : am_O → am_H → Prop} (hR : q_RT G) (i1 : Int32) (i2 : Int32) (i3 : Int32) (i4 : Int32) (i5 : Int32) (i6 : Int32) (i7 : Int32) (i8 : Int32) (is0 : Int32) (is1 : Int32) (H : (am_is is1 100 = true ∧ (am_is i8 100 = true ∧ (am_is i8 100 = true ∧ (am_is (i8 * 3) 300 = true ∧ (am_is i8 100 = true ∧ Q (.inl (some (.int i8))) (G, (am_u (am_u (am_u (am_u (am_u (am_u I 11 (is1).toNatClampNeg is0) 12 (i8).toNatClampNeg (I 0 10)) 13 (i8).toNatClampNeg (-1)) 14 ((i8 * 3)).toNatClampNeg i5) 15 (i8).toNatClampNeg 1) 7 8 ((I 7 8) + 1)), J))))))) : q_W β xs L (d + 1) 73 227 [.ref 0, .int i1, .int i2, .int i3, .int i4, .int i5, .int i6, .int i7, .int i8] [.int is0, .int is1, .ref 11] (G, I, J) Q := by
  have hb := H.1
  have H := H.2
  refine w_ast f_73_227 rfl hb ?_
  refine w_al f_73_228 rfl ?_
  refine w_gr f_73_229 rfl (hR _ _ _ rfl) ?_
  refine w_gr f_73_232 rfl (hR _ _ _ rfl) ?_
  refine w_il f_73_235 rfl ?_
  refine w_al f_73_237 rfl ?_
  refine w_gi' f_73_238 rfl (am_u_ne (Or.inl (by decide))) ?_
  have hb := H.1
  have H := H.2
  refine w_ast f_73_241 rfl hb ?_
  refine w_al f_73_242 rfl ?_
  refine w_gr f_73_243 rfl (hR _ _ _ rfl) ?_
  refine w_gr f_73_246 rfl (hR _ _ _ rfl) ?_
  refine w_il f_73_249 rfl ?_
  refine w_ic f_73_251 ?_
  have hb := H.1
  have H := H.2
  refine w_ast f_73_252 rfl hb ?_
  refine w_al f_73_253 rfl ?_
  refine w_gr f_73_254 rfl (hR _ _ _ rfl) ?_
  refine w_gr f_73_257 rfl (hR _ _ _ rfl) ?_
  refine w_il f_73_260 rfl ?_
  refine w_ic f_73_262 ?_
  refine w_bin f_73_263 ?_
  refine w_il f_73_264 rfl ?_
  have hb := H.1
  have H := H.2
  refine w_ast f_73_266 rfl hb ?_
  refine w_al f_73_267 rfl ?_
  refine w_gr f_73_268 rfl (hR _ _ _ rfl) ?_
  refine w_gr f_73_271 rfl (hR _ _ _ rfl) ?_
  refine w_il f_73_274 rfl ?_
  refine w_ic f_73_276 ?_
  have hb := H.1
  have H := H.2
  refine w_ast f_73_277 rfl hb ?_
  refine w_al f_73_278 rfl ?_
  refine w_gr f_73_279 rfl (hR _ _ _ rfl) ?_
  refine w_dupr f_73_282 ?_
  refine w_gi' f_73_283 rfl ((am_u_ne (Or.inl (by decide))).trans ((am_u_ne (Or.inl (by decide))).trans ((am_u_ne (Or.inl (by decide))).trans ((am_u_ne (Or.inl (by decide))).trans (am_u_ne (Or.inl (by decide))))))) ?_
  refine w_ic f_73_286 ?_
  refine w_bin f_73_287 ?_
  refine w_pi f_73_288 rfl ?_
  refine w_il f_73_291 rfl ?_
  exact w_reti f_73_293 H
theorem g_74_0 {d : Nat} {G : am_G} {I : Nat → Nat → Int32} {J : Nat → Nat → Int64} {Q : am_O → am_H → Prop} (hR : q_RT G) (i1 : Int32) (i2 : Int32) (H : q_W β xs L d 91 0 [.int i1, .int (I 7 8)] [] (G, I, J) (q_Rv (fun G1 I1 J1 => (q_RT G1 ∧ (am_is i1 100 = true ∧ ((¬ (I1 15 (i1).toNatClampNeg) < 3 → q_W β xs L (d + 1) 74 45 [.ref 0, .int i1, .int i2, .int (I1 15 (i1).toNatClampNeg)] [] (G1, I1, J1) Q) ∧ ((I1 15 (i1).toNatClampNeg) < 3 → q_W β xs L d 95 0 [.int i2] [] (G1, I1, J1) (q_Ri (fun y2 G2 I2 J2 => (q_RT G2 ∧ ((y2 = 0 → q_W β xs L (d + 1) 74 45 [.ref 0, .int i1, .int i2, .int (I1 15 (i1).toNatClampNeg)] [] (G2, I2, J2) Q) ∧ (¬ y2 = 0 → q_W β xs L d 19 0 [.ref 7, .int i1, .int i2, .retAddr 0] [] (G2, I2, J2) (q_Ri (fun y3 G3 I3 J3 => ((y3 = 0 → q_W β xs L d 98 0 [.ref 0] [] (G3, I3, J3) (q_Rv (fun G4 I4 J4 => (q_RT G4 ∧ (am_is ((i1 * 3) + (I1 15 (i1).toNatClampNeg)) 300 = true ∧ (am_is i1 100 = true ∧ Q (.inl (some (.int ((I1 15 (i1).toNatClampNeg) + 1)))) (G4, (am_u (am_u I4 14 (((i1 * 3) + (I1 15 (i1).toNatClampNeg))).toNatClampNeg i2) 15 (i1).toNatClampNeg ((I1 15 (i1).toNatClampNeg) + 1)), J4))))) (fun x4 G4 I4 J4 => Q (.inr x4) (G4, I4, J4)))) ∧ (¬ y3 = 0 → q_W β xs L (d + 1) 74 45 [.ref 0, .int i1, .int i2, .int (I1 15 (i1).toNatClampNeg)] [] (G3, I3, J3) Q))) (fun x3 G3 I3 J3 => Q (.inr x3) (G3, I3, J3))))))) (fun x2 G2 I2 J2 => Q (.inr x2) (G2, I2, J2)))))))) (fun x1 G1 I1 J1 => Q (.inr x1) (G1, I1, J1)))) : q_W β xs L (d + 1) 74 0 [.ref 0, .int i1, .int i2, .retAddr 0] [] (G, I, J) Q := by
  refine w_il f_74_0 rfl ?_
  refine w_al f_74_1 rfl ?_
  refine w_gr f_74_2 rfl (hR _ _ _ rfl) ?_
  refine w_gi f_74_5 rfl ?_
  refine w_invs (as := [.int i1, .int (I 7 8)]) (st' := []) f_74_8 rfl rfl rfl rfl rfl H (k_v (fun G1 I1 J1 H => ?_)) (x_n (fun _ => rfl) rfl (fun x h' h => h))
  have hR1 := H.1
  have H := H.2
  refine w_al f_74_11 rfl ?_
  refine w_gr f_74_12 rfl (hR1 _ _ _ rfl) ?_
  refine w_gr f_74_15 rfl (hR1 _ _ _ rfl) ?_
  refine w_il f_74_18 rfl ?_
  have hb := H.1
  have H := H.2
  refine w_ald f_74_19 rfl hb ?_
  refine w_is (ls' := [.ref 0, .int i1, .int i2, .int (I1 15 (i1).toNatClampNeg)]) f_74_20 rfl ?_
  refine w_il f_74_21 rfl ?_
  refine w_ic f_74_22 ?_
  refine w_icge f_74_23 (fun c => ?_) (fun c => ?_)
  · have H := H.1 c
    exact H
  · have H := H.2 c
    refine w_il f_74_26 rfl ?_
    refine w_invs (as := [.int i2]) (st' := []) f_74_27 rfl rfl rfl rfl rfl H (k_i (fun y2 G2 I2 J2 H => ?_)) (x_n (fun _ => rfl) rfl (fun x h' h => h))
    have hR2 := H.1
    have H := H.2
    refine w_ifeq f_74_30 (fun c => ?_) (fun c => ?_)
    · have H := H.1 c
      exact H
    · have H := H.2 c
      refine w_al f_74_33 rfl ?_
      refine w_gr f_74_34 rfl (hR2 _ _ _ rfl) ?_
      refine w_il f_74_37 rfl ?_
      refine w_il f_74_38 rfl ?_
      refine w_inv (as := [.ref 7, .int i1, .int i2, .retAddr 0]) (st' := []) f_74_39 rfl rfl rfl rfl rfl rfl H (k_i (fun y3 G3 I3 J3 H => ?_)) (x_n (fun _ => rfl) rfl (fun x h' h => h))
      refine w_ifeq f_74_42 (fun c => ?_) (fun c => ?_)
      · have H := H.1 c
        refine w_al f_74_47 rfl ?_
        refine w_inv (as := [.ref 0]) (st' := []) f_74_48 rfl rfl rfl rfl rfl rfl H (k_v (fun G4 I4 J4 H => ?_)) (x_n (fun _ => rfl) rfl (fun x h' h => h))
        have hR4 := H.1
        have H := H.2
        refine w_al f_74_51 rfl ?_
        refine w_gr f_74_52 rfl (hR4 _ _ _ rfl) ?_
        refine w_gr f_74_55 rfl (hR4 _ _ _ rfl) ?_
        refine w_il f_74_58 rfl ?_
        refine w_ic f_74_59 ?_
        refine w_bin f_74_60 ?_
        refine w_il f_74_61 rfl ?_
        refine w_bin f_74_62 ?_
        refine w_il f_74_63 rfl ?_
        have hb := H.1
        have H := H.2
        refine w_ast f_74_64 rfl hb ?_
        refine w_al f_74_65 rfl ?_
        refine w_gr f_74_66 rfl (hR4 _ _ _ rfl) ?_
        refine w_gr f_74_69 rfl (hR4 _ _ _ rfl) ?_
        refine w_il f_74_72 rfl ?_
        refine w_il f_74_73 rfl ?_
        refine w_ic f_74_74 ?_
        refine w_bin f_74_75 ?_
        have hb := H.1
        have H := H.2
        refine w_ast f_74_76 rfl hb ?_
        refine w_il f_74_77 rfl ?_
        refine w_ic f_74_78 ?_
        refine w_bin f_74_79 ?_
        exact w_reti f_74_80 H
      · have H := H.2 c
        exact H
theorem g_74_45 {d : Nat} {G : am_G} {I : Nat → Nat → Int32} {J : Nat → Nat → Int64} {Q : am_O → am_H → Prop} (hR : q_RT G) (i1 : Int32) (i2 : Int32) (i3 : Int32) (H : Q (.inl (some (.int (-1)))) (G, I, J)) : q_W β xs L (d + 1) 74 45 [.ref 0, .int i1, .int i2, .int i3] [] (G, I, J) Q := by
  refine w_ic f_74_45 ?_
  exact w_reti f_74_46 H
theorem g_75_0 {d : Nat} {G : am_G} {I : Nat → Nat → Int32} {J : Nat → Nat → Int64} {Q : am_O → am_H → Prop} (hR : q_RT G) (i1 : Int32) (i2 : Int32) (H : ((i1 = 0 → q_W β xs L (d + 1) 75 22 [.ref 0, .int i1, .int i2, .retAddr 0] [.int (I 7 8), .int i2] (G, I, J) Q) ∧ (¬ i1 = 0 → q_W β xs L (d + 1) 75 22 [.ref 0, .int i1, .int i2, .retAddr 0] [.int (I 16 15), .int i2] (G, I, J) Q))) : q_W β xs L (d + 1) 75 0 [.ref 0, .int i1, .int i2, .retAddr 0] [] (G, I, J) Q := by
  refine w_il f_75_0 rfl ?_
  refine w_il f_75_1 rfl ?_
  refine w_ifeq f_75_2 (fun c => ?_) (fun c => ?_)
  · have H := H.1 c
    refine w_al f_75_15 rfl ?_
    refine w_gr f_75_16 rfl (hR _ _ _ rfl) ?_
    refine w_gi f_75_19 rfl ?_
    exact H
  · have H := H.2 c
    refine w_al f_75_5 rfl ?_
    refine w_gr f_75_6 rfl (hR _ _ _ rfl) ?_
    refine w_gi f_75_9 rfl ?_
    refine w_go f_75_12 ?_
    exact H
theorem g_75_22 {d : Nat} {G : am_G} {I : Nat → Nat → Int32} {J : Nat → Nat → Int64} {Q : am_O → am_H → Prop} (hR : q_RT G) (i1 : Int32) (i2 : Int32) (is0 : Int32) (is1 : Int32) (H : q_W β xs L d 91 0 [.int is1, .int is0] [] (G, I, J) (q_Rv (fun G1 I1 J1 => (q_RT G1 ∧ ((i1 = 0 → q_W β xs L (d + 1) 75 46 [.ref 0, .int i1, .int i2, .retAddr 0] [.ref 13] (G1, I1, J1) Q) ∧ (¬ i1 = 0 → q_W β xs L (d + 1) 75 46 [.ref 0, .int i1, .int i2, .retAddr 0] [.ref 21] (G1, I1, J1) Q)))) (fun x1 G1 I1 J1 => Q (.inr x1) (G1, I1, J1)))) : q_W β xs L (d + 1) 75 22 [.ref 0, .int i1, .int i2, .retAddr 0] [.int is0, .int is1] (G, I, J) Q := by
  refine w_invs (as := [.int is1, .int is0]) (st' := []) f_75_22 rfl rfl rfl rfl rfl H (k_v (fun G1 I1 J1 H => ?_)) (x_n (fun _ => rfl) rfl (fun x h' h => h))
  have hR1 := H.1
  have H := H.2
  refine w_il f_75_25 rfl ?_
  refine w_ifeq f_75_26 (fun c => ?_) (fun c => ?_)
  · have H := H.1 c
    refine w_al f_75_39 rfl ?_
    refine w_gr f_75_40 rfl (hR1 _ _ _ rfl) ?_
    refine w_gr f_75_43 rfl (hR1 _ _ _ rfl) ?_
    exact H
  · have H := H.2 c
    refine w_al f_75_29 rfl ?_
    refine w_gr f_75_30 rfl (hR1 _ _ _ rfl) ?_
    refine w_gr f_75_33 rfl (hR1 _ _ _ rfl) ?_
    refine w_go f_75_36 ?_
    exact H
theorem g_75_46 {d : Nat} {G : am_G} {I : Nat → Nat → Int32} {J : Nat → Nat → Int64} {Q : am_O → am_H → Prop} (hR : q_RT G) (i1 : Int32) (i2 : Int32) (rs0 : Nat) (H : (∃ N1 : Nat, q_SH rs0 = .inl (.int, N1) ∧ am_is i2 N1 = true ∧ (((I rs0 (i2).toNatClampNeg) = (-1) → q_W β xs L d 98 0 [.ref 0] [] (G, I, J) (q_Rv (fun G2 I2 J2 => (∃ N3 : Nat, q_SH rs0 = .inl (.int, N3) ∧ am_is i2 N3 = true ∧ (((1 : Int32) = 0 ∨ (1 : Int32) = 1) ∧ Q (.inl (some (.int 1))) (G2, (am_u I2 rs0 (i2).toNatClampNeg (I2 0 10)), J2)))) (fun x2 G2 I2 J2 => Q (.inr x2) (G2, I2, J2)))) ∧ (¬ (I rs0 (i2).toNatClampNeg) = (-1) → (((0 : Int32) = 0 ∨ (0 : Int32) = 1) ∧ Q (.inl (some (.int 0))) (G, I, J)))))) : q_W β xs L (d + 1) 75 46 [.ref 0, .int i1, .int i2, .retAddr 0] [.ref rs0] (G, I, J) Q := by
  refine w_as (ls' := [.ref 0, .int i1, .int i2, .ref rs0]) f_75_46 rfl ?_
  refine w_al f_75_47 rfl ?_
  refine w_il f_75_48 rfl ?_
  obtain ⟨N1, hs, hb, H⟩ := H
  refine w_ald f_75_49 hs hb ?_
  refine w_ic f_75_50 ?_
  refine w_iceq f_75_51 (fun c => ?_) (fun c => ?_)
  · have H := H.1 c
    refine w_al f_75_56 rfl ?_
    refine w_inv (as := [.ref 0]) (st' := []) f_75_57 rfl rfl rfl rfl rfl rfl H (k_v (fun G2 I2 J2 H => ?_)) (x_n (fun _ => rfl) rfl (fun x h' h => h))
    refine w_al f_75_60 rfl ?_
    refine w_il f_75_61 rfl ?_
    refine w_al f_75_62 rfl ?_
    refine w_gi f_75_63 rfl ?_
    obtain ⟨N3, hs, hb, H⟩ := H
    refine w_ast f_75_66 hs hb ?_
    refine w_ic f_75_67 ?_
    exact w_retz f_75_68 H.1 H.2
  · have H := H.2 c
    refine w_ic f_75_54 ?_
    exact w_retz f_75_55 H.1 H.2
theorem g_76_0 {d : Nat} {G : am_G} {I : Nat → Nat → Int32} {J : Nat → Nat → Int64} {Q : am_O → am_H → Prop} (hR : q_RT G) (i1 : Int32) (H : ((i1 < 0 → q_W β xs L d 76 16 [.ref 0, .int i1] [] (G, I, J) Q) ∧ (¬ i1 < 0 → ((¬ (999 - (I 0 10)) < i1 → Q (.inl (some (.int ((I 0 10) + i1)))) (G, (am_u I 0 10 ((I 0 10) + i1)), J)) ∧ ((999 - (I 0 10)) < i1 → q_W β xs L d 76 16 [.ref 0, .int i1] [] (G, I, J) Q))))) : q_W β xs L d 76 0 [.ref 0, .int i1] [] (G, I, J) Q := by
  refine w_il f_76_0 rfl ?_
  refine w_iflt f_76_1 (fun c => ?_) (fun c => ?_)
  · have H := H.1 c
    exact H
  · have H := H.2 c
    refine w_il f_76_4 rfl ?_
    refine w_ic f_76_5 ?_
    refine w_al f_76_8 rfl ?_
    refine w_gi f_76_9 rfl ?_
    refine w_bin f_76_12 ?_
    refine w_icle f_76_13 (fun c => ?_) (fun c => ?_)
    · have H := H.1 c
      refine w_al f_76_24 rfl ?_
      refine w_dupr f_76_25 ?_
      refine w_gi f_76_26 rfl ?_
      refine w_il f_76_29 rfl ?_
      refine w_bin f_76_30 ?_
      refine w_pi f_76_31 rfl ?_
      refine w_al f_76_34 rfl ?_
      refine w_gi' f_76_35 rfl (am_u_same) ?_
      exact w_reti f_76_38 H
    · have H := H.2 c
      exact H
theorem g_76_16 {d : Nat} {G : am_G} {I : Nat → Nat → Int32} {J : Nat → Nat → Int64} {Q : am_O → am_H → Prop} (hR : q_RT G) (i1 : Int32) (H : Q (.inr 2) (am_thr (G, I, J))) : q_W β xs L d 76 16 [.ref 0, .int i1] [] (G, I, J) Q := by
  exact w_thr f_76_16 H
theorem g_77_0 {d : Nat} {G : am_G} {I : Nat → Nat → Int32} {J : Nat → Nat → Int64} {Q : am_O → am_H → Prop} (hR : q_RT G) (i1 : Int32) (i2 : Int32) (i3 : Int32) (i4 : Int32) (i5 : Int32) (H : ((¬ 500 < ((I 0 9) + 20) → q_W β xs L d 97 0 [.ref 0, .int i1, .retAddr 0] [] (G, I, J) (q_Rv (fun G1 I1 J1 => q_W β xs L d 97 0 [.ref 0, .int i2, .retAddr 0] [] (G1, I1, J1) (q_Rv (fun G2 I2 J2 => q_W β xs L d 97 0 [.ref 0, .int i3, .retAddr 0] [] (G2, I2, J2) (q_Rv (fun G3 I3 J3 => q_W β xs L d 97 0 [.ref 0, .int i4, .retAddr 0] [] (G3, I3, J3) (q_Rv (fun G4 I4 J4 => q_W β xs L d 97 0 [.ref 0, .int i5, .retAddr 0] [] (G4, I4, J4) (q_Rv (fun G5 I5 J5 => Q (.inl (some (.int (I5 0 9)))) (G5, I5, J5)) (fun x5 G5 I5 J5 => Q (.inr x5) (G5, I5, J5)))) (fun x4 G4 I4 J4 => Q (.inr x4) (G4, I4, J4)))) (fun x3 G3 I3 J3 => Q (.inr x3) (G3, I3, J3)))) (fun x2 G2 I2 J2 => Q (.inr x2) (G2, I2, J2)))) (fun x1 G1 I1 J1 => Q (.inr x1) (G1, I1, J1)))) ∧ (500 < ((I 0 9) + 20) → Q (.inl (some (.int (-1)))) (G, I, J)))) : q_W β xs L (d + 1) 77 0 [.ref 0, .int i1, .int i2, .int i3, .int i4, .int i5] [] (G, I, J) Q := by
  refine w_al f_77_0 rfl ?_
  refine w_gi f_77_1 rfl ?_
  refine w_ic f_77_4 ?_
  refine w_bin f_77_6 ?_
  refine w_ic f_77_7 ?_
  refine w_icle f_77_10 (fun c => ?_) (fun c => ?_)
  · have H := H.1 c
    refine w_al f_77_15 rfl ?_
    refine w_il f_77_16 rfl ?_
    refine w_inv (as := [.ref 0, .int i1, .retAddr 0]) (st' := []) f_77_17 rfl rfl rfl rfl rfl rfl H (k_v (fun G1 I1 J1 H => ?_)) (x_n (fun _ => rfl) rfl (fun x h' h => h))
    refine w_al f_77_20 rfl ?_
    refine w_il f_77_21 rfl ?_
    refine w_inv (as := [.ref 0, .int i2, .retAddr 0]) (st' := []) f_77_22 rfl rfl rfl rfl rfl rfl H (k_v (fun G2 I2 J2 H => ?_)) (x_n (fun _ => rfl) rfl (fun x h' h => h))
    refine w_al f_77_25 rfl ?_
    refine w_il f_77_26 rfl ?_
    refine w_inv (as := [.ref 0, .int i3, .retAddr 0]) (st' := []) f_77_27 rfl rfl rfl rfl rfl rfl H (k_v (fun G3 I3 J3 H => ?_)) (x_n (fun _ => rfl) rfl (fun x h' h => h))
    refine w_al f_77_30 rfl ?_
    refine w_il f_77_31 rfl ?_
    refine w_inv (as := [.ref 0, .int i4, .retAddr 0]) (st' := []) f_77_33 rfl rfl rfl rfl rfl rfl H (k_v (fun G4 I4 J4 H => ?_)) (x_n (fun _ => rfl) rfl (fun x h' h => h))
    refine w_al f_77_36 rfl ?_
    refine w_il f_77_37 rfl ?_
    refine w_inv (as := [.ref 0, .int i5, .retAddr 0]) (st' := []) f_77_39 rfl rfl rfl rfl rfl rfl H (k_v (fun G5 I5 J5 H => ?_)) (x_n (fun _ => rfl) rfl (fun x h' h => h))
    refine w_al f_77_42 rfl ?_
    refine w_gi f_77_43 rfl ?_
    exact w_reti f_77_46 H
  · have H := H.2 c
    refine w_ic f_77_13 ?_
    exact w_reti f_77_14 H
theorem g_78_0 {d : Nat} {G : am_G} {I : Nat → Nat → Int32} {J : Nat → Nat → Int64} {Q : am_O → am_H → Prop} (hR : q_RT G) (i1 : Int32) (i2 : Int32) (i3 : Int32) (i4 : Int32) (H : q_W β xs L d 91 0 [.int i1, .int (I 1 2)] [] (G, I, J) (q_Rv (fun G1 I1 J1 => (q_RT G1 ∧ ((i2 < 0 → q_W β xs L (d + 1) 78 23 [.ref 0, .int i1, .int i2, .int i3, .int i4, .retAddr 0, .retAddr 0] [] (G1, I1, J1) Q) ∧ (¬ i2 < 0 → ((¬ (I1 0 9) < i2 → ((¬ (I1 16 15) < 12 → q_W β xs L (d + 1) 78 71 [.ref 0, .int i1, .int i2, .int i3, .int i4, .retAddr 0, .retAddr 0] [] (G1, (am_u (am_u I1 0 9 0) 32 11 (-1)), J1) Q) ∧ ((I1 16 15) < 12 → q_W β xs L d 95 0 [.int i3] [] (G1, (am_u (am_u I1 0 9 0) 32 11 (-1)), J1) (q_Ri (fun y2 G2 I2 J2 => ((y2 = 0 → q_W β xs L (d + 1) 78 71 [.ref 0, .int i1, .int i2, .int i3, .int i4, .retAddr 0, .retAddr 0] [] (G2, I2, J2) Q) ∧ (¬ y2 = 0 → q_W β xs L d 95 0 [.int i4] [] (G2, I2, J2) (q_Ri (fun y3 G3 I3 J3 => (q_RT G3 ∧ ((¬ y3 = 0 → q_W β xs L d 27 0 [.ref 32, .ref 57, .int i2, .int i1, .retAddr 0, .retAddr 0] [] (G3, I3, J3) (q_Ri (fun y4 G4 I4 J4 => ((y4 = 0 → q_W β xs L d 98 0 [.ref 0] [] (G4, I4, J4) (q_Rv (fun G5 I5 J5 => (q_RT G5 ∧ (am_is (I5 16 15) 12 = true ∧ (am_is (I5 16 15) 12 = true ∧ (am_is (I5 16 15) 12 = true ∧ (am_is (I5 16 15) 12 = true ∧ Q (.inl (some (.int (I5 16 15)))) (G5, (am_u (am_u (am_u (am_u (am_u I5 18 ((I5 16 15)).toNatClampNeg i3) 19 ((I5 16 15)).toNatClampNeg i4) 20 ((I5 16 15)).toNatClampNeg (I5 0 10)) 21 ((I5 16 15)).toNatClampNeg (-1)) 16 15 ((I5 16 15) + 1)), J5))))))) (fun x5 G5 I5 J5 => Q (.inr x5) (G5, I5, J5)))) ∧ (¬ y4 = 0 → Q (.inl (some (.int ((-1) - y4)))) (G4, I4, J4)))) (fun x4 G4 I4 J4 => Q (.inr x4) (G4, I4, J4)))) ∧ (y3 = 0 → q_W β xs L (d + 1) 78 71 [.ref 0, .int i1, .int i2, .int i3, .int i4, .retAddr 0, .retAddr 0] [] (G3, I3, J3) Q)))) (fun x3 G3 I3 J3 => Q (.inr x3) (G3, I3, J3)))))) (fun x2 G2 I2 J2 => Q (.inr x2) (G2, I2, J2)))))) ∧ ((I1 0 9) < i2 → q_W β xs L (d + 1) 78 23 [.ref 0, .int i1, .int i2, .int i3, .int i4, .retAddr 0, .retAddr 0] [] (G1, I1, J1) Q)))))) (fun x1 G1 I1 J1 => Q (.inr x1) (G1, I1, J1)))) : q_W β xs L (d + 1) 78 0 [.ref 0, .int i1, .int i2, .int i3, .int i4, .retAddr 0, .retAddr 0] [] (G, I, J) Q := by
  refine w_il f_78_0 rfl ?_
  refine w_al f_78_1 rfl ?_
  refine w_gr f_78_2 rfl (hR _ _ _ rfl) ?_
  refine w_gi f_78_5 rfl ?_
  refine w_invs (as := [.int i1, .int (I 1 2)]) (st' := []) f_78_8 rfl rfl rfl rfl rfl H (k_v (fun G1 I1 J1 H => ?_)) (x_n (fun _ => rfl) rfl (fun x h' h => h))
  have hR1 := H.1
  have H := H.2
  refine w_il f_78_11 rfl ?_
  refine w_iflt f_78_12 (fun c => ?_) (fun c => ?_)
  · have H := H.1 c
    exact H
  · have H := H.2 c
    refine w_il f_78_15 rfl ?_
    refine w_al f_78_16 rfl ?_
    refine w_gi f_78_17 rfl ?_
    refine w_icle f_78_20 (fun c => ?_) (fun c => ?_)
    · have H := H.1 c
      refine w_al f_78_31 rfl ?_
      refine w_ic f_78_32 ?_
      refine w_pi f_78_33 rfl ?_
      refine w_al f_78_36 rfl ?_
      refine w_gr f_78_37 rfl (hR1 _ _ _ rfl) ?_
      refine w_ic f_78_40 ?_
      refine w_pi f_78_41 rfl ?_
      refine w_al f_78_44 rfl ?_
      refine w_gr f_78_45 rfl (hR1 _ _ _ rfl) ?_
      refine w_gi' f_78_48 rfl ((am_u_ne (Or.inl (by decide))).trans (am_u_ne (Or.inl (by decide)))) ?_
      refine w_ic f_78_51 ?_
      refine w_icge f_78_53 (fun c => ?_) (fun c => ?_)
      · have H := H.1 c
        exact H
      · have H := H.2 c
        refine w_il f_78_56 rfl ?_
        refine w_invs (as := [.int i3]) (st' := []) f_78_57 rfl rfl rfl rfl rfl H (k_i (fun y2 G2 I2 J2 H => ?_)) (x_n (fun _ => rfl) rfl (fun x h' h => h))
        refine w_ifeq f_78_60 (fun c => ?_) (fun c => ?_)
        · have H := H.1 c
          exact H
        · have H := H.2 c
          refine w_il f_78_63 rfl ?_
          refine w_invs (as := [.int i4]) (st' := []) f_78_65 rfl rfl rfl rfl rfl H (k_i (fun y3 G3 I3 J3 H => ?_)) (x_n (fun _ => rfl) rfl (fun x h' h => h))
          have hR3 := H.1
          have H := H.2
          refine w_ifne f_78_68 (fun c => ?_) (fun c => ?_)
          · have H := H.1 c
            refine w_al f_78_74 rfl ?_
            refine w_gr f_78_75 rfl (hR3 _ _ _ rfl) ?_
            refine w_al f_78_78 rfl ?_
            refine w_gr f_78_79 rfl (hR3 _ _ _ rfl) ?_
            refine w_il f_78_82 rfl ?_
            refine w_il f_78_83 rfl ?_
            refine w_inv (as := [.ref 32, .ref 57, .int i2, .int i1, .retAddr 0, .retAddr 0]) (st' := []) f_78_84 rfl rfl rfl rfl rfl rfl H (k_i (fun y4 G4 I4 J4 H => ?_)) (x_n (fun _ => rfl) rfl (fun x h' h => h))
            refine w_is (ls' := [.ref 0, .int i1, .int i2, .int i3, .int i4, .int y4, .retAddr 0]) f_78_87 rfl ?_
            refine w_il f_78_89 rfl ?_
            refine w_ifeq f_78_91 (fun c => ?_) (fun c => ?_)
            · have H := H.1 c
              refine w_al f_78_99 rfl ?_
              refine w_inv (as := [.ref 0]) (st' := []) f_78_100 rfl rfl rfl rfl rfl rfl H (k_v (fun G5 I5 J5 H => ?_)) (x_n (fun _ => rfl) rfl (fun x h' h => h))
              have hR5 := H.1
              have H := H.2
              refine w_al f_78_103 rfl ?_
              refine w_gr f_78_104 rfl (hR5 _ _ _ rfl) ?_
              refine w_gi f_78_107 rfl ?_
              refine w_is (ls' := [.ref 0, .int i1, .int i2, .int i3, .int i4, .int y4, .int (I5 16 15)]) f_78_110 rfl ?_
              refine w_al f_78_112 rfl ?_
              refine w_gr f_78_113 rfl (hR5 _ _ _ rfl) ?_
              refine w_gr f_78_116 rfl (hR5 _ _ _ rfl) ?_
              refine w_il f_78_119 rfl ?_
              refine w_il f_78_121 rfl ?_
              have hb := H.1
              have H := H.2
              refine w_ast f_78_122 rfl hb ?_
              refine w_al f_78_123 rfl ?_
              refine w_gr f_78_124 rfl (hR5 _ _ _ rfl) ?_
              refine w_gr f_78_127 rfl (hR5 _ _ _ rfl) ?_
              refine w_il f_78_130 rfl ?_
              refine w_il f_78_132 rfl ?_
              have hb := H.1
              have H := H.2
              refine w_ast f_78_134 rfl hb ?_
              refine w_al f_78_135 rfl ?_
              refine w_gr f_78_136 rfl (hR5 _ _ _ rfl) ?_
              refine w_gr f_78_139 rfl (hR5 _ _ _ rfl) ?_
              refine w_il f_78_142 rfl ?_
              refine w_al f_78_144 rfl ?_
              refine w_gi' f_78_145 rfl ((am_u_ne (Or.inl (by decide))).trans (am_u_ne (Or.inl (by decide)))) ?_
              have hb := H.1
              have H := H.2
              refine w_ast f_78_148 rfl hb ?_
              refine w_al f_78_149 rfl ?_
              refine w_gr f_78_150 rfl (hR5 _ _ _ rfl) ?_
              refine w_gr f_78_153 rfl (hR5 _ _ _ rfl) ?_
              refine w_il f_78_156 rfl ?_
              refine w_ic f_78_158 ?_
              have hb := H.1
              have H := H.2
              refine w_ast f_78_159 rfl hb ?_
              refine w_al f_78_160 rfl ?_
              refine w_gr f_78_161 rfl (hR5 _ _ _ rfl) ?_
              refine w_dupr f_78_164 ?_
              refine w_gi' f_78_165 rfl ((am_u_ne (Or.inl (by decide))).trans ((am_u_ne (Or.inl (by decide))).trans ((am_u_ne (Or.inl (by decide))).trans (am_u_ne (Or.inl (by decide)))))) ?_
              refine w_ic f_78_168 ?_
              refine w_bin f_78_169 ?_
              refine w_pi f_78_170 rfl ?_
              refine w_il f_78_173 rfl ?_
              exact w_reti f_78_175 H
            · have H := H.2 c
              refine w_ic f_78_94 ?_
              refine w_il f_78_95 rfl ?_
              refine w_bin f_78_97 ?_
              exact w_reti f_78_98 H
          · have H := H.2 c
            exact H
    · have H := H.2 c
      exact H
theorem g_78_23 {d : Nat} {G : am_G} {I : Nat → Nat → Int32} {J : Nat → Nat → Int64} {Q : am_O → am_H → Prop} (hR : q_RT G) (i1 : Int32) (i2 : Int32) (i3 : Int32) (i4 : Int32) (H : Q (.inr 2) (am_thr (G, I, J))) : q_W β xs L (d + 1) 78 23 [.ref 0, .int i1, .int i2, .int i3, .int i4, .retAddr 0, .retAddr 0] [] (G, I, J) Q := by
  exact w_thr f_78_23 H
theorem g_78_71 {d : Nat} {G : am_G} {I : Nat → Nat → Int32} {J : Nat → Nat → Int64} {Q : am_O → am_H → Prop} (hR : q_RT G) (i1 : Int32) (i2 : Int32) (i3 : Int32) (i4 : Int32) (H : Q (.inl (some (.int (-9)))) (G, I, J)) : q_W β xs L (d + 1) 78 71 [.ref 0, .int i1, .int i2, .int i3, .int i4, .retAddr 0, .retAddr 0] [] (G, I, J) Q := by
  refine w_ic f_78_71 ?_
  exact w_reti f_78_73 H
theorem g_79_0 {d : Nat} {G : am_G} {I : Nat → Nat → Int32} {J : Nat → Nat → Int64} {Q : am_O → am_H → Prop} (hR : q_RT G)  (H : Q (.inl (some (.int (I 32 11)))) (G, I, J)) : q_W β xs L d 79 0 [.ref 0] [] (G, I, J) Q := by
  refine w_al f_79_0 rfl ?_
  refine w_gr f_79_1 rfl (hR _ _ _ rfl) ?_
  refine w_gi f_79_4 rfl ?_
  exact w_reti f_79_7 H
theorem g_80_0 {d : Nat} {G : am_G} {I : Nat → Nat → Int32} {J : Nat → Nat → Int64} {Q : am_O → am_H → Prop} (hR : q_RT G) (i1 : Int32) (i2 : Int32) (i3 : Int32) (H : q_W β xs L d 91 0 [.int i1, .int (I 16 15)] [] (G, I, J) (q_Rv (fun G1 I1 J1 => q_W β xs L d 92 0 [.int i2] [] (G1, I1, J1) (q_Rv (fun G2 I2 J2 => q_W β xs L d 93 0 [.ref 0, .int i3] [] (G2, I2, J2) (q_Rv (fun G3 I3 J3 => (q_RT G3 ∧ q_W β xs L d 1 0 [.ref 16, .int i3, .retAddr 0, .retAddr 0] [] (G3, I3, J3) (q_Ri (fun y4 G4 I4 J4 => q_W β xs L d 2 0 [.ref 16, .int y4, .int i2, .retAddr 0, .retAddr 0, .retAddr 0, .retAddr 0] [] (G4, I4, J4) (q_Ri (fun y5 G5 I5 J5 => ((¬ ((y5 >>> (i1 &&& 31)) &&& 1) = 1 → q_W β xs L (d + 1) 80 49 [.ref 0, .int i1, .int i2, .int i3] [.int 0] (G5, I5, J5) Q) ∧ (((y5 >>> (i1 &&& 31)) &&& 1) = 1 → q_W β xs L (d + 1) 80 49 [.ref 0, .int i1, .int i2, .int i3] [.int 1] (G5, I5, J5) Q))) (fun x5 G5 I5 J5 => Q (.inr x5) (G5, I5, J5)))) (fun x4 G4 I4 J4 => Q (.inr x4) (G4, I4, J4))))) (fun x3 G3 I3 J3 => Q (.inr x3) (G3, I3, J3)))) (fun x2 G2 I2 J2 => Q (.inr x2) (G2, I2, J2)))) (fun x1 G1 I1 J1 => Q (.inr x1) (G1, I1, J1)))) : q_W β xs L (d + 1) 80 0 [.ref 0, .int i1, .int i2, .int i3] [] (G, I, J) Q := by
  refine w_il f_80_0 rfl ?_
  refine w_al f_80_1 rfl ?_
  refine w_gr f_80_2 rfl (hR _ _ _ rfl) ?_
  refine w_gi f_80_5 rfl ?_
  refine w_invs (as := [.int i1, .int (I 16 15)]) (st' := []) f_80_8 rfl rfl rfl rfl rfl H (k_v (fun G1 I1 J1 H => ?_)) (x_n (fun _ => rfl) rfl (fun x h' h => h))
  refine w_il f_80_11 rfl ?_
  refine w_invs (as := [.int i2]) (st' := []) f_80_12 rfl rfl rfl rfl rfl H (k_v (fun G2 I2 J2 H => ?_)) (x_n (fun _ => rfl) rfl (fun x h' h => h))
  refine w_al f_80_15 rfl ?_
  refine w_il f_80_16 rfl ?_
  refine w_inv (as := [.ref 0, .int i3]) (st' := []) f_80_17 rfl rfl rfl rfl rfl rfl H (k_v (fun G3 I3 J3 H => ?_)) (x_n (fun _ => rfl) rfl (fun x h' h => h))
  have hR3 := H.1
  have H := H.2
  refine w_al f_80_20 rfl ?_
  refine w_gr f_80_21 rfl (hR3 _ _ _ rfl) ?_
  refine w_al f_80_24 rfl ?_
  refine w_gr f_80_25 rfl (hR3 _ _ _ rfl) ?_
  refine w_il f_80_28 rfl ?_
  refine w_inv (as := [.ref 16, .int i3, .retAddr 0, .retAddr 0]) (st' := [.ref 16]) f_80_29 rfl rfl rfl rfl rfl rfl H (k_i (fun y4 G4 I4 J4 H => ?_)) (x_n (fun _ => rfl) rfl (fun x h' h => h))
  refine w_il f_80_32 rfl ?_
  refine w_inv (as := [.ref 16, .int y4, .int i2, .retAddr 0, .retAddr 0, .retAddr 0, .retAddr 0]) (st' := []) f_80_33 rfl rfl rfl rfl rfl rfl H (k_i (fun y5 G5 I5 J5 H => ?_)) (x_n (fun _ => rfl) rfl (fun x h' h => h))
  refine w_il f_80_36 rfl ?_
  refine w_bin f_80_37 ?_
  refine w_ic f_80_38 ?_
  refine w_bin f_80_39 ?_
  refine w_ic f_80_40 ?_
  refine w_icne f_80_41 (fun c => ?_) (fun c => ?_)
  · have H := H.1 c
    refine w_ic f_80_48 ?_
    exact H
  · have H := H.2 c
    refine w_ic f_80_44 ?_
    refine w_go f_80_45 ?_
    exact H
theorem g_80_49 {d : Nat} {G : am_G} {I : Nat → Nat → Int32} {J : Nat → Nat → Int64} {Q : am_O → am_H → Prop} (hR : q_RT G) (i1 : Int32) (i2 : Int32) (i3 : Int32) (is0 : Int32) (H : (((is0 : Int32) = 0 ∨ (is0 : Int32) = 1) ∧ Q (.inl (some (.int is0))) (G, I, J))) : q_W β xs L (d + 1) 80 49 [.ref 0, .int i1, .int i2, .int i3] [.int is0] (G, I, J) Q := by
  exact w_retz f_80_49 H.1 H.2
theorem g_81_0 {d : Nat} {G : am_G} {I : Nat → Nat → Int32} {J : Nat → Nat → Int64} {Q : am_O → am_H → Prop} (hR : q_RT G) (i1 : Int32) (i2 : Int32) (i3 : Int32) (H : q_W β xs L d 91 0 [.int i1, .int (I 1 1)] [] (G, I, J) (q_Rv (fun G1 I1 J1 => q_W β xs L d 92 0 [.int i2] [] (G1, I1, J1) (q_Rv (fun G2 I2 J2 => q_W β xs L d 93 0 [.ref 0, .int i3] [] (G2, I2, J2) (q_Rv (fun G3 I3 J3 => (q_RT G3 ∧ (am_is i1 12 = true ∧ q_W β xs L (d + 1) 81 37 [.ref 0, .int i1, .int i2, .int i3, .int (I3 2 (i1).toNatClampNeg), .int (-1), .int 0, .retAddr 0] [] (G3, I3, J3) Q))) (fun x3 G3 I3 J3 => Q (.inr x3) (G3, I3, J3)))) (fun x2 G2 I2 J2 => Q (.inr x2) (G2, I2, J2)))) (fun x1 G1 I1 J1 => Q (.inr x1) (G1, I1, J1)))) : q_W β xs L (d + 1) 81 0 [.ref 0, .int i1, .int i2, .int i3, .retAddr 0, .retAddr 0, .retAddr 0, .retAddr 0] [] (G, I, J) Q := by
  refine w_il f_81_0 rfl ?_
  refine w_al f_81_1 rfl ?_
  refine w_gr f_81_2 rfl (hR _ _ _ rfl) ?_
  refine w_gi f_81_5 rfl ?_
  refine w_invs (as := [.int i1, .int (I 1 1)]) (st' := []) f_81_8 rfl rfl rfl rfl rfl H (k_v (fun G1 I1 J1 H => ?_)) (x_n (fun _ => rfl) rfl (fun x h' h => h))
  refine w_il f_81_11 rfl ?_
  refine w_invs (as := [.int i2]) (st' := []) f_81_12 rfl rfl rfl rfl rfl H (k_v (fun G2 I2 J2 H => ?_)) (x_n (fun _ => rfl) rfl (fun x h' h => h))
  refine w_al f_81_15 rfl ?_
  refine w_il f_81_16 rfl ?_
  refine w_inv (as := [.ref 0, .int i3]) (st' := []) f_81_17 rfl rfl rfl rfl rfl rfl H (k_v (fun G3 I3 J3 H => ?_)) (x_n (fun _ => rfl) rfl (fun x h' h => h))
  have hR3 := H.1
  have H := H.2
  refine w_al f_81_20 rfl ?_
  refine w_gr f_81_21 rfl (hR3 _ _ _ rfl) ?_
  refine w_gr f_81_24 rfl (hR3 _ _ _ rfl) ?_
  refine w_il f_81_27 rfl ?_
  have hb := H.1
  have H := H.2
  refine w_ald f_81_28 rfl hb ?_
  refine w_is (ls' := [.ref 0, .int i1, .int i2, .int i3, .int (I3 2 (i1).toNatClampNeg), .retAddr 0, .retAddr 0, .retAddr 0]) f_81_29 rfl ?_
  refine w_ic f_81_31 ?_
  refine w_is (ls' := [.ref 0, .int i1, .int i2, .int i3, .int (I3 2 (i1).toNatClampNeg), .int (-1), .retAddr 0, .retAddr 0]) f_81_32 rfl ?_
  refine w_ic f_81_34 ?_
  refine w_is (ls' := [.ref 0, .int i1, .int i2, .int i3, .int (I3 2 (i1).toNatClampNeg), .int (-1), .int 0, .retAddr 0]) f_81_35 rfl ?_
  exact H
theorem g_81_37 {d : Nat} {G : am_G} {I : Nat → Nat → Int32} {J : Nat → Nat → Int64} {Q : am_O → am_H → Prop} (hR : q_RT G) (i1 : Int32) (i2 : Int32) (i3 : Int32) (i4 : Int32) (i5 : Int32) (i6 : Int32) (v7 : Value) (n7 : am_nl v7 = true) (H : ((¬ i6 < (I 7 8) → Q (.inl (some (.int i4))) (G, I, J)) ∧ (i6 < (I 7 8) → (am_is (i6 * 3) 300 = true ∧ (am_is i6 100 = true ∧ ((¬ (I 8 (i6).toNatClampNeg) = 5 → q_W β xs L (d + 1) 81 133 [.ref 0, .int i1, .int i2, .int i3, .int i4, .int i5, .int i6, .int (I 14 ((i6 * 3)).toNatClampNeg)] [] (G, I, J) Q) ∧ ((I 8 (i6).toNatClampNeg) = 5 → (am_is i6 100 = true ∧ ((¬ (I 11 (i6).toNatClampNeg) = i1 → q_W β xs L (d + 1) 81 133 [.ref 0, .int i1, .int i2, .int i3, .int i4, .int i5, .int i6, .int (I 14 ((i6 * 3)).toNatClampNeg)] [] (G, I, J) Q) ∧ ((I 11 (i6).toNatClampNeg) = i1 → q_W β xs L d 18 0 [.ref 7, .int i6, .int i3] [] (G, I, J) (q_Ri (fun y1 G1 I1 J1 => (q_RT G1 ∧ ((y1 = 0 → q_W β xs L (d + 1) 81 133 [.ref 0, .int i1, .int i2, .int i3, .int i4, .int i5, .int i6, .int (I 14 ((i6 * 3)).toNatClampNeg)] [] (G1, I1, J1) Q) ∧ (¬ y1 = 0 → ((i2 < (I 14 ((i6 * 3)).toNatClampNeg) → q_W β xs L (d + 1) 81 133 [.ref 0, .int i1, .int i2, .int i3, .int i4, .int i5, .int i6, .int (I 14 ((i6 * 3)).toNatClampNeg)] [] (G1, I1, J1) Q) ∧ (¬ i2 < (I 14 ((i6 * 3)).toNatClampNeg) → (((I 14 ((i6 * 3)).toNatClampNeg) < i5 → q_W β xs L (d + 1) 81 133 [.ref 0, .int i1, .int i2, .int i3, .int i4, .int i5, .int i6, .int (I 14 ((i6 * 3)).toNatClampNeg)] [] (G1, I1, J1) Q) ∧ (¬ (I 14 ((i6 * 3)).toNatClampNeg) < i5 → (am_is i6 100 = true ∧ q_W β xs L (d + 1) 81 133 [.ref 0, .int i1, .int i2, .int i3, .int (I1 10 (i6).toNatClampNeg), .int (I 14 ((i6 * 3)).toNatClampNeg), .int i6, .int (I 14 ((i6 * 3)).toNatClampNeg)] [] (G1, I1, J1) Q))))))))) (fun x1 G1 I1 J1 => Q (.inr x1) (G1, I1, J1))))))))))))) : q_W β xs L (d + 1) 81 37 [.ref 0, .int i1, .int i2, .int i3, .int i4, .int i5, .int i6, v7] [] (G, I, J) Q := by
  refine w_il f_81_37 rfl ?_
  refine w_al f_81_39 rfl ?_
  refine w_gr f_81_40 rfl (hR _ _ _ rfl) ?_
  refine w_gi f_81_43 rfl ?_
  refine w_icge f_81_46 (fun c => ?_) (fun c => ?_)
  · have H := H.1 c
    refine w_il f_81_139 rfl ?_
    exact w_reti f_81_141 H
  · have H := H.2 c
    refine w_al f_81_49 rfl ?_
    refine w_gr f_81_50 rfl (hR _ _ _ rfl) ?_
    refine w_gr f_81_53 rfl (hR _ _ _ rfl) ?_
    refine w_il f_81_56 rfl ?_
    refine w_ic f_81_58 ?_
    refine w_bin f_81_59 ?_
    have hb := H.1
    have H := H.2
    refine w_ald f_81_60 rfl hb ?_
    refine w_is (ls' := [.ref 0, .int i1, .int i2, .int i3, .int i4, .int i5, .int i6, .int (I 14 ((i6 * 3)).toNatClampNeg)]) f_81_61 rfl ?_
    refine w_al f_81_63 rfl ?_
    refine w_gr f_81_64 rfl (hR _ _ _ rfl) ?_
    refine w_gr f_81_67 rfl (hR _ _ _ rfl) ?_
    refine w_il f_81_70 rfl ?_
    have hb := H.1
    have H := H.2
    refine w_ald f_81_72 rfl hb ?_
    refine w_ic f_81_73 ?_
    refine w_icne f_81_74 (fun c => ?_) (fun c => ?_)
    · have H := H.1 c
      exact H
    · have H := H.2 c
      refine w_al f_81_77 rfl ?_
      refine w_gr f_81_78 rfl (hR _ _ _ rfl) ?_
      refine w_gr f_81_81 rfl (hR _ _ _ rfl) ?_
      refine w_il f_81_84 rfl ?_
      have hb := H.1
      have H := H.2
      refine w_ald f_81_86 rfl hb ?_
      refine w_il f_81_87 rfl ?_
      refine w_icne f_81_88 (fun c => ?_) (fun c => ?_)
      · have H := H.1 c
        exact H
      · have H := H.2 c
        refine w_al f_81_91 rfl ?_
        refine w_gr f_81_92 rfl (hR _ _ _ rfl) ?_
        refine w_il f_81_95 rfl ?_
        refine w_il f_81_97 rfl ?_
        refine w_inv (as := [.ref 7, .int i6, .int i3]) (st' := []) f_81_98 rfl rfl rfl rfl rfl rfl H (k_i (fun y1 G1 I1 J1 H => ?_)) (x_n (fun _ => rfl) rfl (fun x h' h => h))
        have hR1 := H.1
        have H := H.2
        refine w_ifeq f_81_101 (fun c => ?_) (fun c => ?_)
        · have H := H.1 c
          exact H
        · have H := H.2 c
          refine w_il f_81_104 rfl ?_
          refine w_il f_81_106 rfl ?_
          refine w_icgt f_81_107 (fun c => ?_) (fun c => ?_)
          · have H := H.1 c
            exact H
          · have H := H.2 c
            refine w_il f_81_110 rfl ?_
            refine w_il f_81_112 rfl ?_
            refine w_iclt f_81_114 (fun c => ?_) (fun c => ?_)
            · have H := H.1 c
              exact H
            · have H := H.2 c
              refine w_al f_81_117 rfl ?_
              refine w_gr f_81_118 rfl (hR1 _ _ _ rfl) ?_
              refine w_gr f_81_121 rfl (hR1 _ _ _ rfl) ?_
              refine w_il f_81_124 rfl ?_
              have hb := H.1
              have H := H.2
              refine w_ald f_81_126 rfl hb ?_
              refine w_is (ls' := [.ref 0, .int i1, .int i2, .int i3, .int (I1 10 (i6).toNatClampNeg), .int i5, .int i6, .int (I 14 ((i6 * 3)).toNatClampNeg)]) f_81_127 rfl ?_
              refine w_il f_81_129 rfl ?_
              refine w_is (ls' := [.ref 0, .int i1, .int i2, .int i3, .int (I1 10 (i6).toNatClampNeg), .int (I 14 ((i6 * 3)).toNatClampNeg), .int i6, .int (I 14 ((i6 * 3)).toNatClampNeg)]) f_81_131 rfl ?_
              exact H
theorem g_81_133 {d : Nat} {G : am_G} {I : Nat → Nat → Int32} {J : Nat → Nat → Int64} {Q : am_O → am_H → Prop} (hR : q_RT G) (i1 : Int32) (i2 : Int32) (i3 : Int32) (i4 : Int32) (i5 : Int32) (i6 : Int32) (i7 : Int32) (H : q_W β xs L (d + 1) 81 37 [.ref 0, .int i1, .int i2, .int i3, .int i4, .int i5, .int (i6 + 1), .int i7] [] (G, I, J) Q) : q_W β xs L (d + 1) 81 133 [.ref 0, .int i1, .int i2, .int i3, .int i4, .int i5, .int i6, .int i7] [] (G, I, J) Q := by
  refine w_iinc (ls' := [.ref 0, .int i1, .int i2, .int i3, .int i4, .int i5, .int (i6 + 1), .int i7]) f_81_133 rfl rfl ?_
  refine w_go f_81_136 ?_
  exact H
theorem g_82_0 {d : Nat} {G : am_G} {I : Nat → Nat → Int32} {J : Nat → Nat → Int64} {Q : am_O → am_H → Prop} (hR : q_RT G) (i1 : Int32) (i2 : Int32) (H : q_W β xs L d 91 0 [.int i1, .int 5] [] (G, I, J) (q_Rv (fun G1 I1 J1 => q_W β xs L d 93 0 [.ref 0, .int i2] [] (G1, I1, J1) (q_Rv (fun G2 I2 J2 => (q_RT G2 ∧ q_W β xs L d 13 0 [.ref 34, .int i2, .retAddr 0] [] (G2, I2, J2) (q_Rv (fun G3 I3 J3 => (q_RT G3 ∧ ((¬ i1 = 0 → ((¬ i1 = 1 → ((¬ (i1 - 2) < (I3 34 4) → q_W β xs L (d + 1) 82 71 [.ref 0, .int i1, .int i2] [.int (-1)] (G3, I3, J3) Q) ∧ ((i1 - 2) < (I3 34 4) → (am_is (i1 - 2) 3 = true ∧ q_W β xs L (d + 1) 82 71 [.ref 0, .int i1, .int i2] [.int (I3 35 ((i1 - 2)).toNatClampNeg)] (G3, I3, J3) Q)))) ∧ (i1 = 1 → Q (.inl (some (.int (I3 34 4)))) (G3, I3, J3)))) ∧ (i1 = 0 → Q (.inl (some (.int (I3 34 5)))) (G3, I3, J3))))) (fun x3 G3 I3 J3 => Q (.inr x3) (G3, I3, J3))))) (fun x2 G2 I2 J2 => Q (.inr x2) (G2, I2, J2)))) (fun x1 G1 I1 J1 => Q (.inr x1) (G1, I1, J1)))) : q_W β xs L (d + 1) 82 0 [.ref 0, .int i1, .int i2] [] (G, I, J) Q := by
  refine w_il f_82_0 rfl ?_
  refine w_ic f_82_1 ?_
  refine w_invs (as := [.int i1, .int 5]) (st' := []) f_82_2 rfl rfl rfl rfl rfl H (k_v (fun G1 I1 J1 H => ?_)) (x_n (fun _ => rfl) rfl (fun x h' h => h))
  refine w_al f_82_5 rfl ?_
  refine w_il f_82_6 rfl ?_
  refine w_inv (as := [.ref 0, .int i2]) (st' := []) f_82_7 rfl rfl rfl rfl rfl rfl H (k_v (fun G2 I2 J2 H => ?_)) (x_n (fun _ => rfl) rfl (fun x h' h => h))
  have hR2 := H.1
  have H := H.2
  refine w_al f_82_10 rfl ?_
  refine w_gr f_82_11 rfl (hR2 _ _ _ rfl) ?_
  refine w_il f_82_14 rfl ?_
  refine w_inv (as := [.ref 34, .int i2, .retAddr 0]) (st' := []) f_82_15 rfl rfl rfl rfl rfl rfl H (k_v (fun G3 I3 J3 H => ?_)) (x_n (fun _ => rfl) rfl (fun x h' h => h))
  have hR3 := H.1
  have H := H.2
  refine w_il f_82_18 rfl ?_
  refine w_ifne f_82_19 (fun c => ?_) (fun c => ?_)
  · have H := H.1 c
    refine w_il f_82_30 rfl ?_
    refine w_ic f_82_31 ?_
    refine w_icne f_82_32 (fun c => ?_) (fun c => ?_)
    · have H := H.1 c
      refine w_il f_82_43 rfl ?_
      refine w_ic f_82_44 ?_
      refine w_bin f_82_45 ?_
      refine w_al f_82_46 rfl ?_
      refine w_gr f_82_47 rfl (hR3 _ _ _ rfl) ?_
      refine w_gi f_82_50 rfl ?_
      refine w_icge f_82_53 (fun c => ?_) (fun c => ?_)
      · have H := H.1 c
        refine w_ic f_82_70 ?_
        exact H
      · have H := H.2 c
        refine w_al f_82_56 rfl ?_
        refine w_gr f_82_57 rfl (hR3 _ _ _ rfl) ?_
        refine w_gr f_82_60 rfl (hR3 _ _ _ rfl) ?_
        refine w_il f_82_63 rfl ?_
        refine w_ic f_82_64 ?_
        refine w_bin f_82_65 ?_
        have hb := H.1
        have H := H.2
        refine w_ald f_82_66 rfl hb ?_
        refine w_go f_82_67 ?_
        exact H
    · have H := H.2 c
      refine w_al f_82_35 rfl ?_
      refine w_gr f_82_36 rfl (hR3 _ _ _ rfl) ?_
      refine w_gi f_82_39 rfl ?_
      exact w_reti f_82_42 H
  · have H := H.2 c
    refine w_al f_82_22 rfl ?_
    refine w_gr f_82_23 rfl (hR3 _ _ _ rfl) ?_
    refine w_gi f_82_26 rfl ?_
    exact w_reti f_82_29 H
theorem g_82_71 {d : Nat} {G : am_G} {I : Nat → Nat → Int32} {J : Nat → Nat → Int64} {Q : am_O → am_H → Prop} (hR : q_RT G) (i1 : Int32) (i2 : Int32) (is0 : Int32) (H : Q (.inl (some (.int is0))) (G, I, J)) : q_W β xs L (d + 1) 82 71 [.ref 0, .int i1, .int i2] [.int is0] (G, I, J) Q := by
  exact w_reti f_82_71 H
theorem g_83_0 {d : Nat} {G : am_G} {I : Nat → Nat → Int32} {J : Nat → Nat → Int64} {Q : am_O → am_H → Prop} (hR : q_RT G) (i1 : Int32) (i2 : Int32) (i3 : Int32) (i4 : Int32) (H : q_W β xs L d 94 0 [.ref 0, .int i1, .int i2, .int i3, .int i4] [] (G, I, J) (q_Rv (fun G1 I1 J1 => q_W β xs L d 99 0 [.ref 0, .int i3, .int i4, .retAddr 0, .retAddr 0] [] (G1, I1, J1) (q_Rv (fun G2 I2 J2 => q_W β xs L d 100 0 [.ref 0, .int i1, .int i2, .retAddr 0, .retAddr 0] [] (G2, I2, J2) (q_Ri (fun y3 G3 I3 J3 => (q_RT G3 ∧ ((¬ y3 = 0 → ((¬ y3 = (I3 34 5) → q_W β xs L (d + 1) 83 48 [.ref 0, .int i1, .int i2, .int i3, .int i4, .int y3] [.int 2] (G3, I3, J3) Q) ∧ (y3 = (I3 34 5) → q_W β xs L (d + 1) 83 48 [.ref 0, .int i1, .int i2, .int i3, .int i4, .int y3] [.int 1] (G3, I3, J3) Q))) ∧ (y3 = 0 → Q (.inl (some (.int 0))) (G3, I3, J3))))) (fun x3 G3 I3 J3 => Q (.inr x3) (G3, I3, J3)))) (fun x2 G2 I2 J2 => Q (.inr x2) (G2, I2, J2)))) (fun x1 G1 I1 J1 => Q (.inr x1) (G1, I1, J1)))) : q_W β xs L (d + 1) 83 0 [.ref 0, .int i1, .int i2, .int i3, .int i4, .retAddr 0] [] (G, I, J) Q := by
  refine w_al f_83_0 rfl ?_
  refine w_il f_83_1 rfl ?_
  refine w_il f_83_2 rfl ?_
  refine w_il f_83_3 rfl ?_
  refine w_il f_83_4 rfl ?_
  refine w_inv (as := [.ref 0, .int i1, .int i2, .int i3, .int i4]) (st' := []) f_83_6 rfl rfl rfl rfl rfl rfl H (k_v (fun G1 I1 J1 H => ?_)) (x_n (fun _ => rfl) rfl (fun x h' h => h))
  refine w_al f_83_9 rfl ?_
  refine w_il f_83_10 rfl ?_
  refine w_il f_83_11 rfl ?_
  refine w_inv (as := [.ref 0, .int i3, .int i4, .retAddr 0, .retAddr 0]) (st' := []) f_83_13 rfl rfl rfl rfl rfl rfl H (k_v (fun G2 I2 J2 H => ?_)) (x_n (fun _ => rfl) rfl (fun x h' h => h))
  refine w_al f_83_16 rfl ?_
  refine w_il f_83_17 rfl ?_
  refine w_il f_83_18 rfl ?_
  refine w_inv (as := [.ref 0, .int i1, .int i2, .retAddr 0, .retAddr 0]) (st' := []) f_83_19 rfl rfl rfl rfl rfl rfl H (k_i (fun y3 G3 I3 J3 H => ?_)) (x_n (fun _ => rfl) rfl (fun x h' h => h))
  have hR3 := H.1
  have H := H.2
  refine w_is (ls' := [.ref 0, .int i1, .int i2, .int i3, .int i4, .int y3]) f_83_22 rfl ?_
  refine w_il f_83_24 rfl ?_
  refine w_ifne f_83_26 (fun c => ?_) (fun c => ?_)
  · have H := H.1 c
    refine w_il f_83_31 rfl ?_
    refine w_al f_83_33 rfl ?_
    refine w_gr f_83_34 rfl (hR3 _ _ _ rfl) ?_
    refine w_gi f_83_37 rfl ?_
    refine w_icne f_83_40 (fun c => ?_) (fun c => ?_)
    · have H := H.1 c
      refine w_ic f_83_47 ?_
      exact H
    · have H := H.2 c
      refine w_ic f_83_43 ?_
      refine w_go f_83_44 ?_
      exact H
  · have H := H.2 c
    refine w_ic f_83_29 ?_
    exact w_reti f_83_30 H
theorem g_83_48 {d : Nat} {G : am_G} {I : Nat → Nat → Int32} {J : Nat → Nat → Int64} {Q : am_O → am_H → Prop} (hR : q_RT G) (i1 : Int32) (i2 : Int32) (i3 : Int32) (i4 : Int32) (i5 : Int32) (is0 : Int32) (H : Q (.inl (some (.int is0))) (G, I, J)) : q_W β xs L (d + 1) 83 48 [.ref 0, .int i1, .int i2, .int i3, .int i4, .int i5] [.int is0] (G, I, J) Q := by
  exact w_reti f_83_48 H
theorem g_84_0 {d : Nat} {G : am_G} {I : Nat → Nat → Int32} {J : Nat → Nat → Int64} {Q : am_O → am_H → Prop} (hR : q_RT G) (i1 : Int32) (i2 : Int32) (i3 : Int32) (i4 : Int32) (H : q_W β xs L d 94 0 [.ref 0, .int i1, .int i2, .int i3, .int i4] [] (G, I, J) (q_Rv (fun G1 I1 J1 => q_W β xs L d 99 0 [.ref 0, .int i3, .int i4, .retAddr 0, .retAddr 0] [] (G1, I1, J1) (q_Rv (fun G2 I2 J2 => q_W β xs L d 100 0 [.ref 0, .int i1, .int i2, .retAddr 0, .retAddr 0] [] (G2, I2, J2) (q_Ri (fun y3 G3 I3 J3 => Q (.inl (some (.int y3))) (G3, I3, J3)) (fun x3 G3 I3 J3 => Q (.inr x3) (G3, I3, J3)))) (fun x2 G2 I2 J2 => Q (.inr x2) (G2, I2, J2)))) (fun x1 G1 I1 J1 => Q (.inr x1) (G1, I1, J1)))) : q_W β xs L (d + 1) 84 0 [.ref 0, .int i1, .int i2, .int i3, .int i4] [] (G, I, J) Q := by
  refine w_al f_84_0 rfl ?_
  refine w_il f_84_1 rfl ?_
  refine w_il f_84_2 rfl ?_
  refine w_il f_84_3 rfl ?_
  refine w_il f_84_4 rfl ?_
  refine w_inv (as := [.ref 0, .int i1, .int i2, .int i3, .int i4]) (st' := []) f_84_6 rfl rfl rfl rfl rfl rfl H (k_v (fun G1 I1 J1 H => ?_)) (x_n (fun _ => rfl) rfl (fun x h' h => h))
  refine w_al f_84_9 rfl ?_
  refine w_il f_84_10 rfl ?_
  refine w_il f_84_11 rfl ?_
  refine w_inv (as := [.ref 0, .int i3, .int i4, .retAddr 0, .retAddr 0]) (st' := []) f_84_13 rfl rfl rfl rfl rfl rfl H (k_v (fun G2 I2 J2 H => ?_)) (x_n (fun _ => rfl) rfl (fun x h' h => h))
  refine w_al f_84_16 rfl ?_
  refine w_il f_84_17 rfl ?_
  refine w_il f_84_18 rfl ?_
  refine w_inv (as := [.ref 0, .int i1, .int i2, .retAddr 0, .retAddr 0]) (st' := []) f_84_19 rfl rfl rfl rfl rfl rfl H (k_i (fun y3 G3 I3 J3 H => ?_)) (x_n (fun _ => rfl) rfl (fun x h' h => h))
  exact w_reti f_84_22 H
theorem g_85_0 {d : Nat} {G : am_G} {I : Nat → Nat → Int32} {J : Nat → Nat → Int64} {Q : am_O → am_H → Prop} (hR : q_RT G) (i1 : Int32) (i2 : Int32) (i3 : Int32) (i4 : Int32) (H : q_W β xs L d 94 0 [.ref 0, .int i1, .int i2, .int i3, .int i4] [] (G, I, J) (q_Rv (fun G1 I1 J1 => q_W β xs L d 99 0 [.ref 0, .int i3, .int i4, .retAddr 0, .retAddr 0] [] (G1, I1, J1) (q_Rv (fun G2 I2 J2 => q_W β xs L (d + 1) 85 29 [.ref 0, .int i1, .int i2, .int i3, .int i4, .retAddr 2, .int (Int32.ofNat 8), .int 0, .retAddr 0] [] (G2, I2, J2) Q) (fun x2 G2 I2 J2 => Q (.inr x2) (G2, I2, J2)))) (fun x1 G1 I1 J1 => Q (.inr x1) (G1, I1, J1)))) : q_W β xs L (d + 1) 85 0 [.ref 0, .int i1, .int i2, .int i3, .int i4, .retAddr 0, .retAddr 0, .retAddr 0, .retAddr 0] [] (G, I, J) Q := by
  refine w_al f_85_0 rfl ?_
  refine w_il f_85_1 rfl ?_
  refine w_il f_85_2 rfl ?_
  refine w_il f_85_3 rfl ?_
  refine w_il f_85_4 rfl ?_
  refine w_inv (as := [.ref 0, .int i1, .int i2, .int i3, .int i4]) (st' := []) f_85_6 rfl rfl rfl rfl rfl rfl H (k_v (fun G1 I1 J1 H => ?_)) (x_n (fun _ => rfl) rfl (fun x h' h => h))
  refine w_al f_85_9 rfl ?_
  refine w_il f_85_10 rfl ?_
  refine w_il f_85_11 rfl ?_
  refine w_inv (as := [.ref 0, .int i3, .int i4, .retAddr 0, .retAddr 0]) (st' := []) f_85_13 rfl rfl rfl rfl rfl rfl H (k_v (fun G2 I2 J2 H => ?_)) (x_n (fun _ => rfl) rfl (fun x h' h => h))
  refine w_es f_85_16 ?_
  refine w_ase (ls' := [.ref 0, .int i1, .int i2, .int i3, .int i4, .retAddr 2, .retAddr 0, .retAddr 0, .retAddr 0]) f_85_19 rfl ?_
  refine w_ae f_85_21 rfl ?_
  refine w_elen f_85_23 ?_
  refine w_is (ls' := [.ref 0, .int i1, .int i2, .int i3, .int i4, .retAddr 2, .int (Int32.ofNat 8), .retAddr 0, .retAddr 0]) f_85_24 rfl ?_
  refine w_ic f_85_26 ?_
  refine w_is (ls' := [.ref 0, .int i1, .int i2, .int i3, .int i4, .retAddr 2, .int (Int32.ofNat 8), .int 0, .retAddr 0]) f_85_27 rfl ?_
  exact H
theorem g_85_29 {d : Nat} {G : am_G} {I : Nat → Nat → Int32} {J : Nat → Nat → Int64} {Q : am_O → am_H → Prop} (hR : q_RT G) (i1 : Int32) (i2 : Int32) (i3 : Int32) (i4 : Int32) (i6 : Int32) (i7 : Int32) (v8 : Value) (n8 : am_nl v8 = true) (H : ((¬ i7 < i6 → Q (.inl (some (.int ((1 <<< ((I 34 4) &&& 31)) - 1)))) (G, I, J)) ∧ (i7 < i6 → (am_is i7 8 = true ∧ q_W β xs L d 101 0 [.ref 0, .int (q_sets (i7).toNatClampNeg), .int i1, .int i2, .retAddr 0, .retAddr 0, .retAddr 0] [] (G, I, J) (q_Ri (fun y1 G1 I1 J1 => ((y1 = 0 → q_W β xs L (d + 1) 85 29 [.ref 0, .int i1, .int i2, .int i3, .int i4, .retAddr 2, .int i6, .int (i7 + 1), .int (q_sets (i7).toNatClampNeg)] [] (G1, I1, J1) Q) ∧ (¬ y1 = 0 → Q (.inl (some (.int (q_sets (i7).toNatClampNeg)))) (G1, I1, J1)))) (fun x1 G1 I1 J1 => Q (.inr x1) (G1, I1, J1))))))) : q_W β xs L (d + 1) 85 29 [.ref 0, .int i1, .int i2, .int i3, .int i4, .retAddr 2, .int i6, .int i7, v8] [] (G, I, J) Q := by
  refine w_il f_85_29 rfl ?_
  refine w_il f_85_31 rfl ?_
  refine w_icge f_85_33 (fun c => ?_) (fun c => ?_)
  · have H := H.1 c
    refine w_ic f_85_63 ?_
    refine w_al f_85_64 rfl ?_
    refine w_gr f_85_65 rfl (hR _ _ _ rfl) ?_
    refine w_gi f_85_68 rfl ?_
    refine w_bin f_85_71 ?_
    refine w_ic f_85_72 ?_
    refine w_bin f_85_73 ?_
    exact w_reti f_85_74 H
  · have H := H.2 c
    refine w_ae f_85_36 rfl ?_
    refine w_il f_85_38 rfl ?_
    have hb := H.1
    have H := H.2
    refine w_eld f_85_40 hb ?_
    refine w_is (ls' := [.ref 0, .int i1, .int i2, .int i3, .int i4, .retAddr 2, .int i6, .int i7, .int (q_sets (i7).toNatClampNeg)]) f_85_41 rfl ?_
    refine w_al f_85_43 rfl ?_
    refine w_il f_85_44 rfl ?_
    refine w_il f_85_46 rfl ?_
    refine w_il f_85_47 rfl ?_
    refine w_inv (as := [.ref 0, .int (q_sets (i7).toNatClampNeg), .int i1, .int i2, .retAddr 0, .retAddr 0, .retAddr 0]) (st' := []) f_85_48 rfl rfl rfl rfl rfl rfl H (k_i (fun y1 G1 I1 J1 H => ?_)) (x_n (fun _ => rfl) rfl (fun x h' h => h))
    refine w_ifeq f_85_51 (fun c => ?_) (fun c => ?_)
    · have H := H.1 c
      refine w_iinc (ls' := [.ref 0, .int i1, .int i2, .int i3, .int i4, .retAddr 2, .int i6, .int (i7 + 1), .int (q_sets (i7).toNatClampNeg)]) f_85_57 rfl rfl ?_
      refine w_go f_85_60 ?_
      exact H
    · have H := H.2 c
      refine w_il f_85_54 rfl ?_
      exact w_reti f_85_56 H
theorem g_86_0 {d : Nat} {G : am_G} {I : Nat → Nat → Int32} {J : Nat → Nat → Int64} {Q : am_O → am_H → Prop} (hR : q_RT G) (i1 : Int32) (i2 : Int32) (i3 : Int32) (i4 : Int32) (H : q_W β xs L d 91 0 [.int i1, .int (I 3 3)] [] (G, I, J) (q_Rv (fun G1 I1 J1 => q_W β xs L d 92 0 [.int i2] [] (G1, I1, J1) (q_Rv (fun G2 I2 J2 => q_W β xs L d 93 0 [.ref 0, .int i4] [] (G2, I2, J2) (q_Rv (fun G3 I3 J3 => (q_RT G3 ∧ q_W β xs L d 13 0 [.ref 34, .int i4, .retAddr 0] [] (G3, I3, J3) (q_Rv (fun G4 I4 J4 => (q_RT G4 ∧ q_W β xs L d 91 0 [.int i3, .int (I4 34 5)] [] (G4, I4, J4) (q_Rv (fun G5 I5 J5 => (q_RT G5 ∧ q_W β xs L d 52 0 [.ref 38, .int i3, .int i2, .int (-1), .retAddr 0, .retAddr 0, .retAddr 0, .retAddr 0, .retAddr 0] [] (G5, I5, J5) (q_Rv (fun G6 I6 J6 => (q_RT G6 ∧ (am_is i1 20 = true ∧ Q (.inl (some (.int (I6 47 (i1).toNatClampNeg)))) (G6, I6, J6)))) (fun x6 G6 I6 J6 => Q (.inr x6) (G6, I6, J6))))) (fun x5 G5 I5 J5 => Q (.inr x5) (G5, I5, J5))))) (fun x4 G4 I4 J4 => Q (.inr x4) (G4, I4, J4))))) (fun x3 G3 I3 J3 => Q (.inr x3) (G3, I3, J3)))) (fun x2 G2 I2 J2 => Q (.inr x2) (G2, I2, J2)))) (fun x1 G1 I1 J1 => Q (.inr x1) (G1, I1, J1)))) : q_W β xs L (d + 1) 86 0 [.ref 0, .int i1, .int i2, .int i3, .int i4] [] (G, I, J) Q := by
  refine w_il f_86_0 rfl ?_
  refine w_al f_86_1 rfl ?_
  refine w_gr f_86_2 rfl (hR _ _ _ rfl) ?_
  refine w_gi f_86_5 rfl ?_
  refine w_invs (as := [.int i1, .int (I 3 3)]) (st' := []) f_86_8 rfl rfl rfl rfl rfl H (k_v (fun G1 I1 J1 H => ?_)) (x_n (fun _ => rfl) rfl (fun x h' h => h))
  refine w_il f_86_11 rfl ?_
  refine w_invs (as := [.int i2]) (st' := []) f_86_12 rfl rfl rfl rfl rfl H (k_v (fun G2 I2 J2 H => ?_)) (x_n (fun _ => rfl) rfl (fun x h' h => h))
  refine w_al f_86_15 rfl ?_
  refine w_il f_86_16 rfl ?_
  refine w_inv (as := [.ref 0, .int i4]) (st' := []) f_86_18 rfl rfl rfl rfl rfl rfl H (k_v (fun G3 I3 J3 H => ?_)) (x_n (fun _ => rfl) rfl (fun x h' h => h))
  have hR3 := H.1
  have H := H.2
  refine w_al f_86_21 rfl ?_
  refine w_gr f_86_22 rfl (hR3 _ _ _ rfl) ?_
  refine w_il f_86_25 rfl ?_
  refine w_inv (as := [.ref 34, .int i4, .retAddr 0]) (st' := []) f_86_27 rfl rfl rfl rfl rfl rfl H (k_v (fun G4 I4 J4 H => ?_)) (x_n (fun _ => rfl) rfl (fun x h' h => h))
  have hR4 := H.1
  have H := H.2
  refine w_il f_86_30 rfl ?_
  refine w_al f_86_31 rfl ?_
  refine w_gr f_86_32 rfl (hR4 _ _ _ rfl) ?_
  refine w_gi f_86_35 rfl ?_
  refine w_invs (as := [.int i3, .int (I4 34 5)]) (st' := []) f_86_38 rfl rfl rfl rfl rfl H (k_v (fun G5 I5 J5 H => ?_)) (x_n (fun _ => rfl) rfl (fun x h' h => h))
  have hR5 := H.1
  have H := H.2
  refine w_al f_86_41 rfl ?_
  refine w_gr f_86_42 rfl (hR5 _ _ _ rfl) ?_
  refine w_il f_86_45 rfl ?_
  refine w_il f_86_46 rfl ?_
  refine w_ic f_86_47 ?_
  refine w_inv (as := [.ref 38, .int i3, .int i2, .int (-1), .retAddr 0, .retAddr 0, .retAddr 0, .retAddr 0, .retAddr 0]) (st' := []) f_86_48 rfl rfl rfl rfl rfl rfl H (k_v (fun G6 I6 J6 H => ?_)) (x_n (fun _ => rfl) rfl (fun x h' h => h))
  have hR6 := H.1
  have H := H.2
  refine w_al f_86_51 rfl ?_
  refine w_gr f_86_52 rfl (hR6 _ _ _ rfl) ?_
  refine w_gr f_86_55 rfl (hR6 _ _ _ rfl) ?_
  refine w_il f_86_58 rfl ?_
  have hb := H.1
  have H := H.2
  refine w_ald f_86_59 rfl hb ?_
  exact w_reti f_86_60 H
theorem g_87_0 {d : Nat} {G : am_G} {I : Nat → Nat → Int32} {J : Nat → Nat → Int64} {Q : am_O → am_H → Prop} (hR : q_RT G) (i1 : Int32) (i2 : Int32) (i3 : Int32) (i4 : Int32) (i5 : Int32) (i6 : Int32) (H : q_W β xs L d 91 0 [.int i5, .int 6] [] (G, I, J) (q_Rv (fun G1 I1 J1 => q_W β xs L d 94 0 [.ref 0, .int i1, .int i2, .int i3, .int i6] [] (G1, I1, J1) (q_Rv (fun G2 I2 J2 => (q_RT G2 ∧ q_W β xs L d 13 0 [.ref 34, .int i6, .retAddr 0] [] (G2, I2, J2) (q_Rv (fun G3 I3 J3 => (q_RT G3 ∧ q_W β xs L d 52 0 [.ref 38, .int 0, .int i3, .int (-1), .retAddr 0, .retAddr 0, .retAddr 0, .retAddr 0, .retAddr 0] [] (G3, I3, J3) (q_Rv (fun G4 I4 J4 => (q_RT G4 ∧ (am_is i1 20 = true ∧ ((¬ (((I4 47 (i1).toNatClampNeg) >>> (i2 &&& 31)) &&& 1) = 1 → q_W β xs L (d + 1) 87 57 [.ref 0, .int i1, .int i2, .int i3, .int i4, .int i5, .int i6, .retAddr 0, .retAddr 0, .retAddr 0] [.int 0] (G4, I4, J4) Q) ∧ ((((I4 47 (i1).toNatClampNeg) >>> (i2 &&& 31)) &&& 1) = 1 → q_W β xs L (d + 1) 87 57 [.ref 0, .int i1, .int i2, .int i3, .int i4, .int i5, .int i6, .retAddr 0, .retAddr 0, .retAddr 0] [.int 1] (G4, I4, J4) Q))))) (fun x4 G4 I4 J4 => Q (.inr x4) (G4, I4, J4))))) (fun x3 G3 I3 J3 => Q (.inr x3) (G3, I3, J3))))) (fun x2 G2 I2 J2 => Q (.inr x2) (G2, I2, J2)))) (fun x1 G1 I1 J1 => Q (.inr x1) (G1, I1, J1)))) : q_W β xs L (d + 1) 87 0 [.ref 0, .int i1, .int i2, .int i3, .int i4, .int i5, .int i6, .retAddr 0, .retAddr 0, .retAddr 0] [] (G, I, J) Q := by
  refine w_il f_87_0 rfl ?_
  refine w_ic f_87_2 ?_
  refine w_invs (as := [.int i5, .int 6]) (st' := []) f_87_4 rfl rfl rfl rfl rfl H (k_v (fun G1 I1 J1 H => ?_)) (x_n (fun _ => rfl) rfl (fun x h' h => h))
  refine w_al f_87_7 rfl ?_
  refine w_il f_87_8 rfl ?_
  refine w_il f_87_9 rfl ?_
  refine w_il f_87_10 rfl ?_
  refine w_il f_87_11 rfl ?_
  refine w_inv (as := [.ref 0, .int i1, .int i2, .int i3, .int i6]) (st' := []) f_87_13 rfl rfl rfl rfl rfl rfl H (k_v (fun G2 I2 J2 H => ?_)) (x_n (fun _ => rfl) rfl (fun x h' h => h))
  have hR2 := H.1
  have H := H.2
  refine w_al f_87_16 rfl ?_
  refine w_gr f_87_17 rfl (hR2 _ _ _ rfl) ?_
  refine w_il f_87_20 rfl ?_
  refine w_inv (as := [.ref 34, .int i6, .retAddr 0]) (st' := []) f_87_22 rfl rfl rfl rfl rfl rfl H (k_v (fun G3 I3 J3 H => ?_)) (x_n (fun _ => rfl) rfl (fun x h' h => h))
  have hR3 := H.1
  have H := H.2
  refine w_al f_87_25 rfl ?_
  refine w_gr f_87_26 rfl (hR3 _ _ _ rfl) ?_
  refine w_ic f_87_29 ?_
  refine w_il f_87_30 rfl ?_
  refine w_ic f_87_31 ?_
  refine w_inv (as := [.ref 38, .int 0, .int i3, .int (-1), .retAddr 0, .retAddr 0, .retAddr 0, .retAddr 0, .retAddr 0]) (st' := []) f_87_32 rfl rfl rfl rfl rfl rfl H (k_v (fun G4 I4 J4 H => ?_)) (x_n (fun _ => rfl) rfl (fun x h' h => h))
  have hR4 := H.1
  have H := H.2
  refine w_al f_87_35 rfl ?_
  refine w_gr f_87_36 rfl (hR4 _ _ _ rfl) ?_
  refine w_gr f_87_39 rfl (hR4 _ _ _ rfl) ?_
  refine w_il f_87_42 rfl ?_
  have hb := H.1
  have H := H.2
  refine w_ald f_87_43 rfl hb ?_
  refine w_il f_87_44 rfl ?_
  refine w_bin f_87_45 ?_
  refine w_ic f_87_46 ?_
  refine w_bin f_87_47 ?_
  refine w_ic f_87_48 ?_
  refine w_icne f_87_49 (fun c => ?_) (fun c => ?_)
  · have H := H.1 c
    refine w_ic f_87_56 ?_
    exact H
  · have H := H.2 c
    refine w_ic f_87_52 ?_
    refine w_go f_87_53 ?_
    exact H
theorem g_87_57 {d : Nat} {G : am_G} {I : Nat → Nat → Int32} {J : Nat → Nat → Int64} {Q : am_O → am_H → Prop} (hR : q_RT G) (i1 : Int32) (i2 : Int32) (i3 : Int32) (i4 : Int32) (i5 : Int32) (i6 : Int32) (is0 : Int32) (H : ((is0 = 0 → q_W β xs L (d + 1) 87 84 [.ref 0, .int i1, .int i2, .int i3, .int i4, .int i5, .int i6, .int is0, .retAddr 0, .retAddr 0] [.int (-1)] (G, I, J) Q) ∧ (¬ is0 = 0 → (am_is ((i1 * 5) + i2) 100 = true ∧ q_W β xs L (d + 1) 87 84 [.ref 0, .int i1, .int i2, .int i3, .int i4, .int i5, .int i6, .int is0, .retAddr 0, .retAddr 0] [.int (I 43 (((i1 * 5) + i2)).toNatClampNeg)] (G, I, J) Q)))) : q_W β xs L (d + 1) 87 57 [.ref 0, .int i1, .int i2, .int i3, .int i4, .int i5, .int i6, .retAddr 0, .retAddr 0, .retAddr 0] [.int is0] (G, I, J) Q := by
  refine w_is (ls' := [.ref 0, .int i1, .int i2, .int i3, .int i4, .int i5, .int i6, .int is0, .retAddr 0, .retAddr 0]) f_87_57 rfl ?_
  refine w_il f_87_59 rfl ?_
  refine w_ifeq f_87_61 (fun c => ?_) (fun c => ?_)
  · have H := H.1 c
    refine w_ic f_87_83 ?_
    exact H
  · have H := H.2 c
    refine w_al f_87_64 rfl ?_
    refine w_gr f_87_65 rfl (hR _ _ _ rfl) ?_
    refine w_gr f_87_68 rfl (hR _ _ _ rfl) ?_
    refine w_gr f_87_71 rfl (hR _ _ _ rfl) ?_
    refine w_il f_87_74 rfl ?_
    refine w_ic f_87_75 ?_
    refine w_bin f_87_76 ?_
    refine w_il f_87_77 rfl ?_
    refine w_bin f_87_78 ?_
    have hb := H.1
    have H := H.2
    refine w_ald f_87_79 rfl hb ?_
    refine w_go f_87_80 ?_
    exact H
theorem g_87_84 {d : Nat} {G : am_G} {I : Nat → Nat → Int32} {J : Nat → Nat → Int64} {Q : am_O → am_H → Prop} (hR : q_RT G) (i1 : Int32) (i2 : Int32) (i3 : Int32) (i4 : Int32) (i5 : Int32) (i6 : Int32) (i7 : Int32) (is0 : Int32) (H : q_W β xs L d 24 0 [.ref 42, .int is0, .retAddr 0, .retAddr 0] [] (G, I, J) (q_Ri (fun y1 G1 I1 J1 => ((¬ i4 = (-1) → q_W β xs L d 91 0 [.int i4, .int y1] [] (G1, I1, J1) (q_Rv (fun G2 I2 J2 => (q_RT G2 ∧ q_W β xs L d 25 0 [.ref 42, .int is0, .int i4, .int i5, .retAddr 0, .retAddr 0] [] (G2, I2, J2) (q_Ri (fun y3 G3 I3 J3 => Q (.inl (some (.int y3))) (G3, I3, J3)) (fun x3 G3 I3 J3 => Q (.inr x3) (G3, I3, J3))))) (fun x2 G2 I2 J2 => Q (.inr x2) (G2, I2, J2)))) ∧ (i4 = (-1) → Q (.inl (some (.int y1))) (G1, I1, J1)))) (fun x1 G1 I1 J1 => Q (.inr x1) (G1, I1, J1)))) : q_W β xs L (d + 1) 87 84 [.ref 0, .int i1, .int i2, .int i3, .int i4, .int i5, .int i6, .int i7, .retAddr 0, .retAddr 0] [.int is0] (G, I, J) Q := by
  refine w_is (ls' := [.ref 0, .int i1, .int i2, .int i3, .int i4, .int i5, .int i6, .int i7, .int is0, .retAddr 0]) f_87_84 rfl ?_
  refine w_al f_87_86 rfl ?_
  refine w_gr f_87_87 rfl (hR _ _ _ rfl) ?_
  refine w_gr f_87_90 rfl (hR _ _ _ rfl) ?_
  refine w_il f_87_93 rfl ?_
  refine w_inv (as := [.ref 42, .int is0, .retAddr 0, .retAddr 0]) (st' := []) f_87_95 rfl rfl rfl rfl rfl rfl H (k_i (fun y1 G1 I1 J1 H => ?_)) (x_n (fun _ => rfl) rfl (fun x h' h => h))
  refine w_is (ls' := [.ref 0, .int i1, .int i2, .int i3, .int i4, .int i5, .int i6, .int i7, .int is0, .int y1]) f_87_98 rfl ?_
  refine w_il f_87_100 rfl ?_
  refine w_ic f_87_102 ?_
  refine w_icne f_87_103 (fun c => ?_) (fun c => ?_)
  · have H := H.1 c
    refine w_il f_87_109 rfl ?_
    refine w_il f_87_111 rfl ?_
    refine w_invs (as := [.int i4, .int y1]) (st' := []) f_87_113 rfl rfl rfl rfl rfl H (k_v (fun G2 I2 J2 H => ?_)) (x_n (fun _ => rfl) rfl (fun x h' h => h))
    have hR2 := H.1
    have H := H.2
    refine w_al f_87_116 rfl ?_
    refine w_gr f_87_117 rfl (hR2 _ _ _ rfl) ?_
    refine w_gr f_87_120 rfl (hR2 _ _ _ rfl) ?_
    refine w_il f_87_123 rfl ?_
    refine w_il f_87_125 rfl ?_
    refine w_il f_87_127 rfl ?_
    refine w_inv (as := [.ref 42, .int is0, .int i4, .int i5, .retAddr 0, .retAddr 0]) (st' := []) f_87_129 rfl rfl rfl rfl rfl rfl H (k_i (fun y3 G3 I3 J3 H => ?_)) (x_n (fun _ => rfl) rfl (fun x h' h => h))
    exact w_reti f_87_132 H
  · have H := H.2 c
    refine w_il f_87_106 rfl ?_
    exact w_reti f_87_108 H
theorem g_88_0 {d : Nat} {G : am_G} {I : Nat → Nat → Int32} {J : Nat → Nat → Int64} {Q : am_O → am_H → Prop} (hR : q_RT G) (i1 : Int32) (i2 : Int32) (i3 : Int32) (i4 : Int32) (i5 : Int32) (H : q_W β xs L d 91 0 [.int i4, .int 2] [] (G, I, J) (q_Rv (fun G1 I1 J1 => q_W β xs L d 94 0 [.ref 0, .int i1, .int i2, .int i3, .int i5] [] (G1, I1, J1) (q_Rv (fun G2 I2 J2 => (q_RT G2 ∧ q_W β xs L d 13 0 [.ref 34, .int i5, .retAddr 0] [] (G2, I2, J2) (q_Rv (fun G3 I3 J3 => (q_RT G3 ∧ q_W β xs L d 52 0 [.ref 38, .int 0, .int i3, .int (-1), .retAddr 0, .retAddr 0, .retAddr 0, .retAddr 0, .retAddr 0] [] (G3, I3, J3) (q_Rv (fun G4 I4 J4 => (q_RT G4 ∧ ((¬ i4 = 0 → (am_is ((i1 * 5) + i2) 100 = true ∧ q_W β xs L (d + 1) 88 75 [.ref 0, .int i1, .int i2, .int i3, .int i4, .int i5, .int ((i1 * 5) + i2)] [.int (I4 45 (((i1 * 5) + i2)).toNatClampNeg)] (G4, I4, J4) Q)) ∧ (i4 = 0 → (am_is ((i1 * 5) + i2) 100 = true ∧ q_W β xs L (d + 1) 88 75 [.ref 0, .int i1, .int i2, .int i3, .int i4, .int i5, .int ((i1 * 5) + i2)] [.int (I4 44 (((i1 * 5) + i2)).toNatClampNeg)] (G4, I4, J4) Q))))) (fun x4 G4 I4 J4 => Q (.inr x4) (G4, I4, J4))))) (fun x3 G3 I3 J3 => Q (.inr x3) (G3, I3, J3))))) (fun x2 G2 I2 J2 => Q (.inr x2) (G2, I2, J2)))) (fun x1 G1 I1 J1 => Q (.inr x1) (G1, I1, J1)))) : q_W β xs L (d + 1) 88 0 [.ref 0, .int i1, .int i2, .int i3, .int i4, .int i5, .retAddr 0] [] (G, I, J) Q := by
  refine w_il f_88_0 rfl ?_
  refine w_ic f_88_2 ?_
  refine w_invs (as := [.int i4, .int 2]) (st' := []) f_88_3 rfl rfl rfl rfl rfl H (k_v (fun G1 I1 J1 H => ?_)) (x_n (fun _ => rfl) rfl (fun x h' h => h))
  refine w_al f_88_6 rfl ?_
  refine w_il f_88_7 rfl ?_
  refine w_il f_88_8 rfl ?_
  refine w_il f_88_9 rfl ?_
  refine w_il f_88_10 rfl ?_
  refine w_inv (as := [.ref 0, .int i1, .int i2, .int i3, .int i5]) (st' := []) f_88_12 rfl rfl rfl rfl rfl rfl H (k_v (fun G2 I2 J2 H => ?_)) (x_n (fun _ => rfl) rfl (fun x h' h => h))
  have hR2 := H.1
  have H := H.2
  refine w_al f_88_15 rfl ?_
  refine w_gr f_88_16 rfl (hR2 _ _ _ rfl) ?_
  refine w_il f_88_19 rfl ?_
  refine w_inv (as := [.ref 34, .int i5, .retAddr 0]) (st' := []) f_88_21 rfl rfl rfl rfl rfl rfl H (k_v (fun G3 I3 J3 H => ?_)) (x_n (fun _ => rfl) rfl (fun x h' h => h))
  have hR3 := H.1
  have H := H.2
  refine w_al f_88_24 rfl ?_
  refine w_gr f_88_25 rfl (hR3 _ _ _ rfl) ?_
  refine w_ic f_88_28 ?_
  refine w_il f_88_29 rfl ?_
  refine w_ic f_88_30 ?_
  refine w_inv (as := [.ref 38, .int 0, .int i3, .int (-1), .retAddr 0, .retAddr 0, .retAddr 0, .retAddr 0, .retAddr 0]) (st' := []) f_88_31 rfl rfl rfl rfl rfl rfl H (k_v (fun G4 I4 J4 H => ?_)) (x_n (fun _ => rfl) rfl (fun x h' h => h))
  have hR4 := H.1
  have H := H.2
  refine w_il f_88_34 rfl ?_
  refine w_ic f_88_35 ?_
  refine w_bin f_88_36 ?_
  refine w_il f_88_37 rfl ?_
  refine w_bin f_88_38 ?_
  refine w_is (ls' := [.ref 0, .int i1, .int i2, .int i3, .int i4, .int i5, .int ((i1 * 5) + i2)]) f_88_39 rfl ?_
  refine w_il f_88_41 rfl ?_
  refine w_ifne f_88_43 (fun c => ?_) (fun c => ?_)
  · have H := H.1 c
    refine w_al f_88_62 rfl ?_
    refine w_gr f_88_63 rfl (hR4 _ _ _ rfl) ?_
    refine w_gr f_88_66 rfl (hR4 _ _ _ rfl) ?_
    refine w_gr f_88_69 rfl (hR4 _ _ _ rfl) ?_
    refine w_il f_88_72 rfl ?_
    have hb := H.1
    have H := H.2
    refine w_ald f_88_74 rfl hb ?_
    exact H
  · have H := H.2 c
    refine w_al f_88_46 rfl ?_
    refine w_gr f_88_47 rfl (hR4 _ _ _ rfl) ?_
    refine w_gr f_88_50 rfl (hR4 _ _ _ rfl) ?_
    refine w_gr f_88_53 rfl (hR4 _ _ _ rfl) ?_
    refine w_il f_88_56 rfl ?_
    have hb := H.1
    have H := H.2
    refine w_ald f_88_58 rfl hb ?_
    refine w_go f_88_59 ?_
    exact H
theorem g_88_75 {d : Nat} {G : am_G} {I : Nat → Nat → Int32} {J : Nat → Nat → Int64} {Q : am_O → am_H → Prop} (hR : q_RT G) (i1 : Int32) (i2 : Int32) (i3 : Int32) (i4 : Int32) (i5 : Int32) (i6 : Int32) (is0 : Int32) (H : Q (.inl (some (.int is0))) (G, I, J)) : q_W β xs L (d + 1) 88 75 [.ref 0, .int i1, .int i2, .int i3, .int i4, .int i5, .int i6] [.int is0] (G, I, J) Q := by
  exact w_reti f_88_75 H
theorem g_89_0 {d : Nat} {G : am_G} {I : Nat → Nat → Int32} {J : Nat → Nat → Int64} {Q : am_O → am_H → Prop} (hR : q_RT G) (i1 : Int32) (i2 : Int32) (i3 : Int32) (i4 : Int32) (H : q_W β xs L d 91 0 [.int i1, .int (I 16 15)] [] (G, I, J) (q_Rv (fun G1 I1 J1 => q_W β xs L d 92 0 [.int i2] [] (G1, I1, J1) (q_Rv (fun G2 I2 J2 => q_W β xs L d 91 0 [.int i3, .int 2] [] (G2, I2, J2) (q_Rv (fun G3 I3 J3 => q_W β xs L d 93 0 [.ref 0, .int i4] [] (G3, I3, J3) (q_Rv (fun G4 I4 J4 => (q_RT G4 ∧ q_W β xs L d 1 0 [.ref 16, .int i4, .retAddr 0, .retAddr 0] [] (G4, I4, J4) (q_Ri (fun y5 G5 I5 J5 => (q_RT G5 ∧ ((¬ ((y5 >>> (i1 &&& 31)) &&& 1) = 0 → q_W β xs L d 13 0 [.ref 34, .int i4, .retAddr 0] [] (G5, I5, J5) (q_Rv (fun G6 I6 J6 => (q_RT G6 ∧ q_W β xs L d 52 0 [.ref 38, .int 0, .int i2, .int (-1), .retAddr 0, .retAddr 0, .retAddr 0, .retAddr 0, .retAddr 0] [] (G6, I6, J6) (q_Rv (fun G7 I7 J7 => (q_RT G7 ∧ (am_is i1 12 = true ∧ q_W β xs L d 53 0 [.ref 38, .int (I7 17 (i1).toNatClampNeg), .retAddr 0, .retAddr 0] [] (G7, I7, J7) (q_Ri (fun y8 G8 I8 J8 => (q_RT G8 ∧ q_W β xs L d 52 0 [.ref 38, .int 0, .int i2, .int i1, .retAddr 0, .retAddr 0, .retAddr 0, .retAddr 0, .retAddr 0] [] (G8, I8, J8) (q_Rv (fun G9 I9 J9 => (q_RT G9 ∧ (am_is i1 12 = true ∧ q_W β xs L d 53 0 [.ref 38, .int (I9 17 (i1).toNatClampNeg), .retAddr 0, .retAddr 0] [] (G9, I9, J9) (q_Ri (fun y10 G10 I10 J10 => ((¬ i3 = 0 → q_W β xs L (d + 1) 89 130 [.ref 0, .int i1, .int i2, .int i3, .int i4, .int y8, .int y10] [.int (y8 &&& (y10 ^^^ (-1)))] (G10, I10, J10) Q) ∧ (i3 = 0 → q_W β xs L (d + 1) 89 130 [.ref 0, .int i1, .int i2, .int i3, .int i4, .int y8, .int y10] [.int (y10 &&& (y8 ^^^ (-1)))] (G10, I10, J10) Q))) (fun x10 G10 I10 J10 => Q (.inr x10) (G10, I10, J10)))))) (fun x9 G9 I9 J9 => Q (.inr x9) (G9, I9, J9))))) (fun x8 G8 I8 J8 => Q (.inr x8) (G8, I8, J8)))))) (fun x7 G7 I7 J7 => Q (.inr x7) (G7, I7, J7))))) (fun x6 G6 I6 J6 => Q (.inr x6) (G6, I6, J6)))) ∧ (((y5 >>> (i1 &&& 31)) &&& 1) = 0 → Q (.inl (some (.int 0))) (G5, I5, J5))))) (fun x5 G5 I5 J5 => Q (.inr x5) (G5, I5, J5))))) (fun x4 G4 I4 J4 => Q (.inr x4) (G4, I4, J4)))) (fun x3 G3 I3 J3 => Q (.inr x3) (G3, I3, J3)))) (fun x2 G2 I2 J2 => Q (.inr x2) (G2, I2, J2)))) (fun x1 G1 I1 J1 => Q (.inr x1) (G1, I1, J1)))) : q_W β xs L (d + 1) 89 0 [.ref 0, .int i1, .int i2, .int i3, .int i4, .retAddr 0, .retAddr 0] [] (G, I, J) Q := by
  refine w_il f_89_0 rfl ?_
  refine w_al f_89_1 rfl ?_
  refine w_gr f_89_2 rfl (hR _ _ _ rfl) ?_
  refine w_gi f_89_5 rfl ?_
  refine w_invs (as := [.int i1, .int (I 16 15)]) (st' := []) f_89_8 rfl rfl rfl rfl rfl H (k_v (fun G1 I1 J1 H => ?_)) (x_n (fun _ => rfl) rfl (fun x h' h => h))
  refine w_il f_89_11 rfl ?_
  refine w_invs (as := [.int i2]) (st' := []) f_89_12 rfl rfl rfl rfl rfl H (k_v (fun G2 I2 J2 H => ?_)) (x_n (fun _ => rfl) rfl (fun x h' h => h))
  refine w_il f_89_15 rfl ?_
  refine w_ic f_89_16 ?_
  refine w_invs (as := [.int i3, .int 2]) (st' := []) f_89_17 rfl rfl rfl rfl rfl H (k_v (fun G3 I3 J3 H => ?_)) (x_n (fun _ => rfl) rfl (fun x h' h => h))
  refine w_al f_89_20 rfl ?_
  refine w_il f_89_21 rfl ?_
  refine w_inv (as := [.ref 0, .int i4]) (st' := []) f_89_23 rfl rfl rfl rfl rfl rfl H (k_v (fun G4 I4 J4 H => ?_)) (x_n (fun _ => rfl) rfl (fun x h' h => h))
  have hR4 := H.1
  have H := H.2
  refine w_al f_89_26 rfl ?_
  refine w_gr f_89_27 rfl (hR4 _ _ _ rfl) ?_
  refine w_il f_89_30 rfl ?_
  refine w_inv (as := [.ref 16, .int i4, .retAddr 0, .retAddr 0]) (st' := []) f_89_32 rfl rfl rfl rfl rfl rfl H (k_i (fun y5 G5 I5 J5 H => ?_)) (x_n (fun _ => rfl) rfl (fun x h' h => h))
  have hR5 := H.1
  have H := H.2
  refine w_il f_89_35 rfl ?_
  refine w_bin f_89_36 ?_
  refine w_ic f_89_37 ?_
  refine w_bin f_89_38 ?_
  refine w_ifne f_89_39 (fun c => ?_) (fun c => ?_)
  · have H := H.1 c
    refine w_al f_89_44 rfl ?_
    refine w_gr f_89_45 rfl (hR5 _ _ _ rfl) ?_
    refine w_il f_89_48 rfl ?_
    refine w_inv (as := [.ref 34, .int i4, .retAddr 0]) (st' := []) f_89_50 rfl rfl rfl rfl rfl rfl H (k_v (fun G6 I6 J6 H => ?_)) (x_n (fun _ => rfl) rfl (fun x h' h => h))
    have hR6 := H.1
    have H := H.2
    refine w_al f_89_53 rfl ?_
    refine w_gr f_89_54 rfl (hR6 _ _ _ rfl) ?_
    refine w_ic f_89_57 ?_
    refine w_il f_89_58 rfl ?_
    refine w_ic f_89_59 ?_
    refine w_inv (as := [.ref 38, .int 0, .int i2, .int (-1), .retAddr 0, .retAddr 0, .retAddr 0, .retAddr 0, .retAddr 0]) (st' := []) f_89_60 rfl rfl rfl rfl rfl rfl H (k_v (fun G7 I7 J7 H => ?_)) (x_n (fun _ => rfl) rfl (fun x h' h => h))
    have hR7 := H.1
    have H := H.2
    refine w_al f_89_63 rfl ?_
    refine w_gr f_89_64 rfl (hR7 _ _ _ rfl) ?_
    refine w_al f_89_67 rfl ?_
    refine w_gr f_89_68 rfl (hR7 _ _ _ rfl) ?_
    refine w_gr f_89_71 rfl (hR7 _ _ _ rfl) ?_
    refine w_il f_89_74 rfl ?_
    have hb := H.1
    have H := H.2
    refine w_ald f_89_75 rfl hb ?_
    refine w_inv (as := [.ref 38, .int (I7 17 (i1).toNatClampNeg), .retAddr 0, .retAddr 0]) (st' := []) f_89_76 rfl rfl rfl rfl rfl rfl H (k_i (fun y8 G8 I8 J8 H => ?_)) (x_n (fun _ => rfl) rfl (fun x h' h => h))
    have hR8 := H.1
    have H := H.2
    refine w_is (ls' := [.ref 0, .int i1, .int i2, .int i3, .int i4, .int y8, .retAddr 0]) f_89_79 rfl ?_
    refine w_al f_89_81 rfl ?_
    refine w_gr f_89_82 rfl (hR8 _ _ _ rfl) ?_
    refine w_ic f_89_85 ?_
    refine w_il f_89_86 rfl ?_
    refine w_il f_89_87 rfl ?_
    refine w_inv (as := [.ref 38, .int 0, .int i2, .int i1, .retAddr 0, .retAddr 0, .retAddr 0, .retAddr 0, .retAddr 0]) (st' := []) f_89_88 rfl rfl rfl rfl rfl rfl H (k_v (fun G9 I9 J9 H => ?_)) (x_n (fun _ => rfl) rfl (fun x h' h => h))
    have hR9 := H.1
    have H := H.2
    refine w_al f_89_91 rfl ?_
    refine w_gr f_89_92 rfl (hR9 _ _ _ rfl) ?_
    refine w_al f_89_95 rfl ?_
    refine w_gr f_89_96 rfl (hR9 _ _ _ rfl) ?_
    refine w_gr f_89_99 rfl (hR9 _ _ _ rfl) ?_
    refine w_il f_89_102 rfl ?_
    have hb := H.1
    have H := H.2
    refine w_ald f_89_103 rfl hb ?_
    refine w_inv (as := [.ref 38, .int (I9 17 (i1).toNatClampNeg), .retAddr 0, .retAddr 0]) (st' := []) f_89_104 rfl rfl rfl rfl rfl rfl H (k_i (fun y10 G10 I10 J10 H => ?_)) (x_n (fun _ => rfl) rfl (fun x h' h => h))
    refine w_is (ls' := [.ref 0, .int i1, .int i2, .int i3, .int i4, .int y8, .int y10]) f_89_107 rfl ?_
    refine w_il f_89_109 rfl ?_
    refine w_ifne f_89_110 (fun c => ?_) (fun c => ?_)
    · have H := H.1 c
      refine w_il f_89_123 rfl ?_
      refine w_il f_89_125 rfl ?_
      refine w_ic f_89_127 ?_
      refine w_bin f_89_128 ?_
      refine w_bin f_89_129 ?_
      exact H
    · have H := H.2 c
      refine w_il f_89_113 rfl ?_
      refine w_il f_89_115 rfl ?_
      refine w_ic f_89_117 ?_
      refine w_bin f_89_118 ?_
      refine w_bin f_89_119 ?_
      refine w_go f_89_120 ?_
      exact H
  · have H := H.2 c
    refine w_ic f_89_42 ?_
    exact w_reti f_89_43 H
theorem g_89_130 {d : Nat} {G : am_G} {I : Nat → Nat → Int32} {J : Nat → Nat → Int64} {Q : am_O → am_H → Prop} (hR : q_RT G) (i1 : Int32) (i2 : Int32) (i3 : Int32) (i4 : Int32) (i5 : Int32) (i6 : Int32) (is0 : Int32) (H : q_W β xs L d 200 0 [.int is0] [] (G, I, J) (q_Ri (fun y1 G1 I1 J1 => Q (.inl (some (.int y1))) (G1, I1, J1)) (fun x1 G1 I1 J1 => Q (.inr x1) (G1, I1, J1)))) : q_W β xs L (d + 1) 89 130 [.ref 0, .int i1, .int i2, .int i3, .int i4, .int i5, .int i6] [.int is0] (G, I, J) Q := by
  refine w_invs (as := [.int is0]) (st' := []) f_89_130 rfl rfl rfl rfl rfl H (k_i (fun y1 G1 I1 J1 H => ?_)) (x_n (fun _ => rfl) rfl (fun x h' h => h))
  exact w_reti f_89_133 H
theorem g_90_0 {d : Nat} {G : am_G} {I : Nat → Nat → Int32} {J : Nat → Nat → Int64} {Q : am_O → am_H → Prop} (hR : q_RT G) (i1 : Int32) (H : (∃ v : Nat, (q_sw 0 6 [44, 49, 57, 65, 73, 81, 89] 94) i1 = some v ∧ q_W β xs L d 90 v [.ref 0, .int i1] [] (G, I, J) Q)) : q_W β xs L d 90 0 [.ref 0, .int i1] [] (G, I, J) Q := by
  refine w_il f_90_0 rfl ?_
  obtain ⟨v, hg, H⟩ := H
  exact w_sw f_90_1 hg H
theorem g_90_44 {d : Nat} {G : am_G} {I : Nat → Nat → Int32} {J : Nat → Nat → Int64} {Q : am_O → am_H → Prop} (hR : q_RT G) (i1 : Int32) (H : Q (.inl (some (.int (I 0 10)))) (G, I, J)) : q_W β xs L d 90 44 [.ref 0, .int i1] [] (G, I, J) Q := by
  refine w_al f_90_44 rfl ?_
  refine w_gi f_90_45 rfl ?_
  exact w_reti f_90_48 H
theorem g_90_49 {d : Nat} {G : am_G} {I : Nat → Nat → Int32} {J : Nat → Nat → Int64} {Q : am_O → am_H → Prop} (hR : q_RT G) (i1 : Int32) (H : Q (.inl (some (.int (I 1 2)))) (G, I, J)) : q_W β xs L d 90 49 [.ref 0, .int i1] [] (G, I, J) Q := by
  refine w_al f_90_49 rfl ?_
  refine w_gr f_90_50 rfl (hR _ _ _ rfl) ?_
  refine w_gi f_90_53 rfl ?_
  exact w_reti f_90_56 H
theorem g_90_57 {d : Nat} {G : am_G} {I : Nat → Nat → Int32} {J : Nat → Nat → Int64} {Q : am_O → am_H → Prop} (hR : q_RT G) (i1 : Int32) (H : Q (.inl (some (.int (I 1 1)))) (G, I, J)) : q_W β xs L d 90 57 [.ref 0, .int i1] [] (G, I, J) Q := by
  refine w_al f_90_57 rfl ?_
  refine w_gr f_90_58 rfl (hR _ _ _ rfl) ?_
  refine w_gi f_90_61 rfl ?_
  exact w_reti f_90_64 H
theorem g_90_65 {d : Nat} {G : am_G} {I : Nat → Nat → Int32} {J : Nat → Nat → Int64} {Q : am_O → am_H → Prop} (hR : q_RT G) (i1 : Int32) (H : Q (.inl (some (.int (I 3 3)))) (G, I, J)) : q_W β xs L d 90 65 [.ref 0, .int i1] [] (G, I, J) Q := by
  refine w_al f_90_65 rfl ?_
  refine w_gr f_90_66 rfl (hR _ _ _ rfl) ?_
  refine w_gi f_90_69 rfl ?_
  exact w_reti f_90_72 H
theorem g_90_73 {d : Nat} {G : am_G} {I : Nat → Nat → Int32} {J : Nat → Nat → Int64} {Q : am_O → am_H → Prop} (hR : q_RT G) (i1 : Int32) (H : Q (.inl (some (.int (I 7 8)))) (G, I, J)) : q_W β xs L d 90 73 [.ref 0, .int i1] [] (G, I, J) Q := by
  refine w_al f_90_73 rfl ?_
  refine w_gr f_90_74 rfl (hR _ _ _ rfl) ?_
  refine w_gi f_90_77 rfl ?_
  exact w_reti f_90_80 H
theorem g_90_81 {d : Nat} {G : am_G} {I : Nat → Nat → Int32} {J : Nat → Nat → Int64} {Q : am_O → am_H → Prop} (hR : q_RT G) (i1 : Int32) (H : Q (.inl (some (.int (I 16 15)))) (G, I, J)) : q_W β xs L d 90 81 [.ref 0, .int i1] [] (G, I, J) Q := by
  refine w_al f_90_81 rfl ?_
  refine w_gr f_90_82 rfl (hR _ _ _ rfl) ?_
  refine w_gi f_90_85 rfl ?_
  exact w_reti f_90_88 H
theorem g_90_89 {d : Nat} {G : am_G} {I : Nat → Nat → Int32} {J : Nat → Nat → Int64} {Q : am_O → am_H → Prop} (hR : q_RT G) (i1 : Int32) (H : Q (.inl (some (.int (I 0 9)))) (G, I, J)) : q_W β xs L d 90 89 [.ref 0, .int i1] [] (G, I, J) Q := by
  refine w_al f_90_89 rfl ?_
  refine w_gi f_90_90 rfl ?_
  exact w_reti f_90_93 H
theorem g_90_94 {d : Nat} {G : am_G} {I : Nat → Nat → Int32} {J : Nat → Nat → Int64} {Q : am_O → am_H → Prop} (hR : q_RT G) (i1 : Int32) (H : Q (.inr 1) (am_thr (G, I, J))) : q_W β xs L d 90 94 [.ref 0, .int i1] [] (G, I, J) Q := by
  exact w_thr f_90_94 H
theorem g_91_0 {d : Nat} {G : am_G} {I : Nat → Nat → Int32} {J : Nat → Nat → Int64} {Q : am_O → am_H → Prop} (hR : q_RT G) (i0 : Int32) (i1 : Int32) (H : ((i0 < 0 → q_W β xs L d 91 9 [.int i0, .int i1] [] (G, I, J) Q) ∧ (¬ i0 < 0 → ((i0 < i1 → Q (.inl none) (G, I, J)) ∧ (¬ i0 < i1 → q_W β xs L d 91 9 [.int i0, .int i1] [] (G, I, J) Q))))) : q_W β xs L d 91 0 [.int i0, .int i1] [] (G, I, J) Q := by
  refine w_il f_91_0 rfl ?_
  refine w_iflt f_91_1 (fun c => ?_) (fun c => ?_)
  · have H := H.1 c
    exact H
  · have H := H.2 c
    refine w_il f_91_4 rfl ?_
    refine w_il f_91_5 rfl ?_
    refine w_iclt f_91_6 (fun c => ?_) (fun c => ?_)
    · have H := H.1 c
      exact w_ret0 f_91_17 H
    · have H := H.2 c
      exact H
theorem g_91_9 {d : Nat} {G : am_G} {I : Nat → Nat → Int32} {J : Nat → Nat → Int64} {Q : am_O → am_H → Prop} (hR : q_RT G) (i0 : Int32) (i1 : Int32) (H : Q (.inr 1) (am_thr (G, I, J))) : q_W β xs L d 91 9 [.int i0, .int i1] [] (G, I, J) Q := by
  exact w_thr f_91_9 H
theorem g_92_0 {d : Nat} {G : am_G} {I : Nat → Nat → Int32} {J : Nat → Nat → Int64} {Q : am_O → am_H → Prop} (hR : q_RT G) (i0 : Int32) (H : q_W β xs L d 95 0 [.int i0] [] (G, I, J) (q_Ri (fun y1 G1 I1 J1 => ((¬ y1 = 0 → Q (.inl none) (G1, I1, J1)) ∧ (y1 = 0 → Q (.inr 1) (am_thr (G1, I1, J1))))) (fun x1 G1 I1 J1 => Q (.inr x1) (G1, I1, J1)))) : q_W β xs L (d + 1) 92 0 [.int i0] [] (G, I, J) Q := by
  refine w_il f_92_0 rfl ?_
  refine w_invs (as := [.int i0]) (st' := []) f_92_1 rfl rfl rfl rfl rfl H (k_i (fun y1 G1 I1 J1 H => ?_)) (x_n (fun _ => rfl) rfl (fun x h' h => h))
  refine w_ifne f_92_4 (fun c => ?_) (fun c => ?_)
  · have H := H.1 c
    exact w_ret0 f_92_15 H
  · have H := H.2 c
    exact w_thr f_92_7 H
theorem g_93_0 {d : Nat} {G : am_G} {I : Nat → Nat → Int32} {J : Nat → Nat → Int64} {Q : am_O → am_H → Prop} (hR : q_RT G) (i1 : Int32) (H : ((i1 < 0 → q_W β xs L d 93 12 [.ref 0, .int i1] [] (G, I, J) Q) ∧ (¬ i1 < 0 → ((¬ (I 0 10) < i1 → Q (.inl none) (G, I, J)) ∧ ((I 0 10) < i1 → q_W β xs L d 93 12 [.ref 0, .int i1] [] (G, I, J) Q))))) : q_W β xs L d 93 0 [.ref 0, .int i1] [] (G, I, J) Q := by
  refine w_il f_93_0 rfl ?_
  refine w_iflt f_93_1 (fun c => ?_) (fun c => ?_)
  · have H := H.1 c
    exact H
  · have H := H.2 c
    refine w_il f_93_4 rfl ?_
    refine w_al f_93_5 rfl ?_
    refine w_gi f_93_6 rfl ?_
    refine w_icle f_93_9 (fun c => ?_) (fun c => ?_)
    · have H := H.1 c
      exact w_ret0 f_93_20 H
    · have H := H.2 c
      exact H
theorem g_93_12 {d : Nat} {G : am_G} {I : Nat → Nat → Int32} {J : Nat → Nat → Int64} {Q : am_O → am_H → Prop} (hR : q_RT G) (i1 : Int32) (H : Q (.inr 2) (am_thr (G, I, J))) : q_W β xs L d 93 12 [.ref 0, .int i1] [] (G, I, J) Q := by
  exact w_thr f_93_12 H
theorem g_94_0 {d : Nat} {G : am_G} {I : Nat → Nat → Int32} {J : Nat → Nat → Int64} {Q : am_O → am_H → Prop} (hR : q_RT G) (i1 : Int32) (i2 : Int32) (i3 : Int32) (i4 : Int32) (H : q_W β xs L d 91 0 [.int i1, .int (I 3 3)] [] (G, I, J) (q_Rv (fun G1 I1 J1 => (q_RT G1 ∧ q_W β xs L d 91 0 [.int i2, .int (I1 1 2)] [] (G1, I1, J1) (q_Rv (fun G2 I2 J2 => q_W β xs L d 92 0 [.int i3] [] (G2, I2, J2) (q_Rv (fun G3 I3 J3 => q_W β xs L d 93 0 [.ref 0, .int i4] [] (G3, I3, J3) (q_Rv (fun G4 I4 J4 => Q (.inl none) (G4, I4, J4)) (fun x4 G4 I4 J4 => Q (.inr x4) (G4, I4, J4)))) (fun x3 G3 I3 J3 => Q (.inr x3) (G3, I3, J3)))) (fun x2 G2 I2 J2 => Q (.inr x2) (G2, I2, J2))))) (fun x1 G1 I1 J1 => Q (.inr x1) (G1, I1, J1)))) : q_W β xs L (d + 1) 94 0 [.ref 0, .int i1, .int i2, .int i3, .int i4] [] (G, I, J) Q := by
  refine w_il f_94_0 rfl ?_
  refine w_al f_94_1 rfl ?_
  refine w_gr f_94_2 rfl (hR _ _ _ rfl) ?_
  refine w_gi f_94_5 rfl ?_
  refine w_invs (as := [.int i1, .int (I 3 3)]) (st' := []) f_94_8 rfl rfl rfl rfl rfl H (k_v (fun G1 I1 J1 H => ?_)) (x_n (fun _ => rfl) rfl (fun x h' h => h))
  have hR1 := H.1
  have H := H.2
  refine w_il f_94_11 rfl ?_
  refine w_al f_94_12 rfl ?_
  refine w_gr f_94_13 rfl (hR1 _ _ _ rfl) ?_
  refine w_gi f_94_16 rfl ?_
  refine w_invs (as := [.int i2, .int (I1 1 2)]) (st' := []) f_94_19 rfl rfl rfl rfl rfl H (k_v (fun G2 I2 J2 H => ?_)) (x_n (fun _ => rfl) rfl (fun x h' h => h))
  refine w_il f_94_22 rfl ?_
  refine w_invs (as := [.int i3]) (st' := []) f_94_23 rfl rfl rfl rfl rfl H (k_v (fun G3 I3 J3 H => ?_)) (x_n (fun _ => rfl) rfl (fun x h' h => h))
  refine w_al f_94_26 rfl ?_
  refine w_il f_94_27 rfl ?_
  refine w_inv (as := [.ref 0, .int i4]) (st' := []) f_94_29 rfl rfl rfl rfl rfl rfl H (k_v (fun G4 I4 J4 H => ?_)) (x_n (fun _ => rfl) rfl (fun x h' h => h))
  exact w_ret0 f_94_32 H
theorem g_95_0 {d : Nat} {G : am_G} {I : Nat → Nat → Int32} {J : Nat → Nat → Int64} {Q : am_O → am_H → Prop} (hR : q_RT G) (i0 : Int32) (H : ((i0 < 0 → q_W β xs L d 95 14 [.int i0] [] (G, I, J) Q) ∧ (¬ i0 < 0 → ((72999 < i0 → q_W β xs L d 95 14 [.int i0] [] (G, I, J) Q) ∧ (¬ 72999 < i0 → q_W β xs L d 95 15 [.int i0] [.int 1] (G, I, J) Q))))) : q_W β xs L d 95 0 [.int i0] [] (G, I, J) Q := by
  refine w_il f_95_0 rfl ?_
  refine w_iflt f_95_1 (fun c => ?_) (fun c => ?_)
  · have H := H.1 c
    exact H
  · have H := H.2 c
    refine w_il f_95_4 rfl ?_
    refine w_ic f_95_5 ?_
    refine w_icgt f_95_7 (fun c => ?_) (fun c => ?_)
    · have H := H.1 c
      exact H
    · have H := H.2 c
      refine w_ic f_95_10 ?_
      refine w_go f_95_11 ?_
      exact H
theorem g_95_14 {d : Nat} {G : am_G} {I : Nat → Nat → Int32} {J : Nat → Nat → Int64} {Q : am_O → am_H → Prop} (hR : q_RT G) (i0 : Int32) (H : q_W β xs L d 95 15 [.int i0] [.int 0] (G, I, J) Q) : q_W β xs L d 95 14 [.int i0] [] (G, I, J) Q := by
  refine w_ic f_95_14 ?_
  exact H
theorem g_95_15 {d : Nat} {G : am_G} {I : Nat → Nat → Int32} {J : Nat → Nat → Int64} {Q : am_O → am_H → Prop} (hR : q_RT G) (i0 : Int32) (is0 : Int32) (H : (((is0 : Int32) = 0 ∨ (is0 : Int32) = 1) ∧ Q (.inl (some (.int is0))) (G, I, J))) : q_W β xs L d 95 15 [.int i0] [.int is0] (G, I, J) Q := by
  exact w_retz f_95_15 H.1 H.2
theorem g_96_0 {d : Nat} {G : am_G} {I : Nat → Nat → Int32} {J : Nat → Nat → Int64} {Q : am_O → am_H → Prop} (hR : q_RT G) (i1 : Int32) (H : ((i1 < (-1) → q_W β xs L d 96 20 [.ref 0, .int i1] [] (G, I, J) Q) ∧ (¬ i1 < (-1) → ((¬ i1 < (I 3 3) → q_W β xs L d 96 20 [.ref 0, .int i1] [] (G, I, J) Q) ∧ (i1 < (I 3 3) → q_W β xs L d 96 21 [.ref 0, .int i1] [.int 1] (G, I, J) Q))))) : q_W β xs L d 96 0 [.ref 0, .int i1] [] (G, I, J) Q := by
  refine w_il f_96_0 rfl ?_
  refine w_ic f_96_1 ?_
  refine w_iclt f_96_2 (fun c => ?_) (fun c => ?_)
  · have H := H.1 c
    exact H
  · have H := H.2 c
    refine w_il f_96_5 rfl ?_
    refine w_al f_96_6 rfl ?_
    refine w_gr f_96_7 rfl (hR _ _ _ rfl) ?_
    refine w_gi f_96_10 rfl ?_
    refine w_icge f_96_13 (fun c => ?_) (fun c => ?_)
    · have H := H.1 c
      exact H
    · have H := H.2 c
      refine w_ic f_96_16 ?_
      refine w_go f_96_17 ?_
      exact H
theorem g_96_20 {d : Nat} {G : am_G} {I : Nat → Nat → Int32} {J : Nat → Nat → Int64} {Q : am_O → am_H → Prop} (hR : q_RT G) (i1 : Int32) (H : q_W β xs L d 96 21 [.ref 0, .int i1] [.int 0] (G, I, J) Q) : q_W β xs L d 96 20 [.ref 0, .int i1] [] (G, I, J) Q := by
  refine w_ic f_96_20 ?_
  exact H
theorem g_96_21 {d : Nat} {G : am_G} {I : Nat → Nat → Int32} {J : Nat → Nat → Int64} {Q : am_O → am_H → Prop} (hR : q_RT G) (i1 : Int32) (is0 : Int32) (H : (((is0 : Int32) = 0 ∨ (is0 : Int32) = 1) ∧ Q (.inl (some (.int is0))) (G, I, J))) : q_W β xs L d 96 21 [.ref 0, .int i1] [.int is0] (G, I, J) Q := by
  exact w_retz f_96_21 H.1 H.2
theorem g_97_0 {d : Nat} {G : am_G} {I : Nat → Nat → Int32} {J : Nat → Nat → Int64} {Q : am_O → am_H → Prop} (hR : q_RT G) (i1 : Int32) (H : q_W β xs L d 97 3 [.ref 0, .int i1, .int 24] [] (G, I, J) Q) : q_W β xs L d 97 0 [.ref 0, .int i1, .retAddr 0] [] (G, I, J) Q := by
  refine w_ic f_97_0 ?_
  refine w_is (ls' := [.ref 0, .int i1, .int 24]) f_97_2 rfl ?_
  exact H
theorem g_97_3 {d : Nat} {G : am_G} {I : Nat → Nat → Int32} {J : Nat → Nat → Int64} {Q : am_O → am_H → Prop} (hR : q_RT G) (i1 : Int32) (i2 : Int32) (H : ((i2 < 0 → Q (.inl none) (G, I, J)) ∧ (¬ i2 < 0 → ((¬ (I 0 9) < (Int32.ofNat 500) → q_W β xs L d 97 42 [.ref 0, .int i1, .int i2] [] (G, I, J) Q) ∧ ((I 0 9) < (Int32.ofNat 500) → (am_is (I 0 9) 500 = true ∧ q_W β xs L d 97 42 [.ref 0, .int i1, .int i2] [] (G, (am_u (am_u I 57 ((I 0 9)).toNatClampNeg ((vp_nar .byte) ((i1 >>> (i2 &&& 31)).toInt8.toInt32))) 0 9 ((I 0 9) + 1)), J) Q)))))) : q_W β xs L d 97 3 [.ref 0, .int i1, .int i2] [] (G, I, J) Q := by
  refine w_il f_97_3 rfl ?_
  refine w_iflt f_97_4 (fun c => ?_) (fun c => ?_)
  · have H := H.1 c
    exact w_ret0 f_97_48 H
  · have H := H.2 c
    refine w_al f_97_7 rfl ?_
    refine w_gi f_97_8 rfl ?_
    refine w_al f_97_11 rfl ?_
    refine w_gr f_97_12 rfl (hR _ _ _ rfl) ?_
    refine w_alen f_97_15 rfl ?_
    refine w_icge f_97_16 (fun c => ?_) (fun c => ?_)
    · have H := H.1 c
      exact H
    · have H := H.2 c
      refine w_al f_97_19 rfl ?_
      refine w_gr f_97_20 rfl (hR _ _ _ rfl) ?_
      refine w_al f_97_23 rfl ?_
      refine w_gi f_97_24 rfl ?_
      refine w_il f_97_27 rfl ?_
      refine w_il f_97_28 rfl ?_
      refine w_bin f_97_29 ?_
      refine w_un f_97_30 ?_
      have hb := H.1
      have H := H.2
      refine w_ast f_97_31 rfl hb ?_
      refine w_al f_97_32 rfl ?_
      refine w_dupr f_97_33 ?_
      refine w_gi' f_97_34 rfl (am_u_ne (Or.inl (by decide))) ?_
      refine w_ic f_97_37 ?_
      refine w_bin f_97_38 ?_
      refine w_pi f_97_39 rfl ?_
      exact H
theorem g_97_42 {d : Nat} {G : am_G} {I : Nat → Nat → Int32} {J : Nat → Nat → Int64} {Q : am_O → am_H → Prop} (hR : q_RT G) (i1 : Int32) (i2 : Int32) (H : q_W β xs L d 97 3 [.ref 0, .int i1, .int (i2 + (-8))] [] (G, I, J) Q) : q_W β xs L d 97 42 [.ref 0, .int i1, .int i2] [] (G, I, J) Q := by
  refine w_iinc (ls' := [.ref 0, .int i1, .int (i2 + (-8))]) f_97_42 rfl rfl ?_
  refine w_go f_97_45 ?_
  exact H
theorem g_98_0 {d : Nat} {G : am_G} {I : Nat → Nat → Int32} {J : Nat → Nat → Int64} {Q : am_O → am_H → Prop} (hR : q_RT G)  (H : Q (.inl none) (G, (am_u I 0 11 (-1)), (am_u J 38 19 (-1)))) : q_W β xs L d 98 0 [.ref 0] [] (G, I, J) Q := by
  refine w_al f_98_0 rfl ?_
  refine w_ic f_98_1 ?_
  refine w_pi f_98_2 rfl ?_
  refine w_al f_98_5 rfl ?_
  refine w_gr f_98_6 rfl (hR _ _ _ rfl) ?_
  refine w_lc f_98_9 ?_
  refine w_pl f_98_12 rfl ?_
  exact w_ret0 f_98_15 H
theorem g_99_0 {d : Nat} {G : am_G} {I : Nat → Nat → Int32} {J : Nat → Nat → Int64} {Q : am_O → am_H → Prop} (hR : q_RT G) (i1 : Int32) (i2 : Int32) (H : q_W β xs L d 13 0 [.ref 34, .int i2, .retAddr 0] [] (G, I, J) (q_Rv (fun G1 I1 J1 => ((¬ ((i1 * 1000) + i2) = (I1 0 11) → q_W β xs L (d + 1) 99 28 [.ref 0, .int i1, .int i2, .int ((i1 * 1000) + i2), .int 0] [] (G1, I1, J1) Q) ∧ (((i1 * 1000) + i2) = (I1 0 11) → Q (.inl none) (G1, I1, J1)))) (fun x1 G1 I1 J1 => Q (.inr x1) (G1, I1, J1)))) : q_W β xs L (d + 1) 99 0 [.ref 0, .int i1, .int i2, .retAddr 0, .retAddr 0] [] (G, I, J) Q := by
  refine w_al f_99_0 rfl ?_
  refine w_gr f_99_1 rfl (hR _ _ _ rfl) ?_
  refine w_il f_99_4 rfl ?_
  refine w_inv (as := [.ref 34, .int i2, .retAddr 0]) (st' := []) f_99_5 rfl rfl rfl rfl rfl rfl H (k_v (fun G1 I1 J1 H => ?_)) (x_n (fun _ => rfl) rfl (fun x h' h => h))
  refine w_il f_99_8 rfl ?_
  refine w_ic f_99_9 ?_
  refine w_bin f_99_12 ?_
  refine w_il f_99_13 rfl ?_
  refine w_bin f_99_14 ?_
  refine w_is (ls' := [.ref 0, .int i1, .int i2, .int ((i1 * 1000) + i2), .retAddr 0]) f_99_15 rfl ?_
  refine w_il f_99_16 rfl ?_
  refine w_al f_99_17 rfl ?_
  refine w_gi f_99_18 rfl ?_
  refine w_icne f_99_21 (fun c => ?_) (fun c => ?_)
  · have H := H.1 c
    refine w_ic f_99_25 ?_
    refine w_is (ls' := [.ref 0, .int i1, .int i2, .int ((i1 * 1000) + i2), .int 0]) f_99_26 rfl ?_
    exact H
  · have H := H.2 c
    exact w_ret0 f_99_24 H
theorem g_99_28 {d : Nat} {G : am_G} {I : Nat → Nat → Int32} {J : Nat → Nat → Int64} {Q : am_O → am_H → Prop} (hR : q_RT G) (i1 : Int32) (i2 : Int32) (i3 : Int32) (i4 : Int32) (H : ((¬ i4 < (I 34 5) → q_W β xs L (d + 1) 99 86 [.ref 0, .int i1, .int i2, .int i3, .int i4] [] (G, I, J) Q) ∧ (i4 < (I 34 5) → ((¬ i4 < 27 → q_W β xs L (d + 1) 99 86 [.ref 0, .int i1, .int i2, .int i3, .int i4] [] (G, I, J) Q) ∧ (i4 < 27 → q_W β xs L d 52 0 [.ref 38, .int i4, .int i1, .int (-1), .retAddr 0, .retAddr 0, .retAddr 0, .retAddr 0, .retAddr 0] [] (G, I, J) (q_Rv (fun G1 I1 J1 => (q_RT G1 ∧ ((¬ (0 : Int32) < 0 ∧ ¬ (i4 * 20) < 0 ∧ ¬ (20 : Int32) < 0 ∧ (0 : Int32).toNatClampNeg + (20 : Int32).toNatClampNeg ≤ 20 ∧ (i4 * 20).toNatClampNeg + (20 : Int32).toNatClampNeg ≤ 540) ∧ q_W β xs L (d + 1) 99 28 [.ref 0, .int i1, .int i2, .int i3, .int (i4 + 1)] [] (G1, (am_row I1 58 (va_cpy (I1 47) (I1 58) (0 : Int32).toNatClampNeg (i4 * 20).toNatClampNeg (20 : Int32).toNatClampNeg)), J1) Q))) (fun x1 G1 I1 J1 => Q (.inr x1) (G1, I1, J1)))))))) : q_W β xs L (d + 1) 99 28 [.ref 0, .int i1, .int i2, .int i3, .int i4] [] (G, I, J) Q := by
  refine w_il f_99_28 rfl ?_
  refine w_al f_99_30 rfl ?_
  refine w_gr f_99_31 rfl (hR _ _ _ rfl) ?_
  refine w_gi f_99_34 rfl ?_
  refine w_icge f_99_37 (fun c => ?_) (fun c => ?_)
  · have H := H.1 c
    exact H
  · have H := H.2 c
    refine w_il f_99_40 rfl ?_
    refine w_ic f_99_42 ?_
    refine w_icge f_99_44 (fun c => ?_) (fun c => ?_)
    · have H := H.1 c
      exact H
    · have H := H.2 c
      refine w_al f_99_47 rfl ?_
      refine w_gr f_99_48 rfl (hR _ _ _ rfl) ?_
      refine w_il f_99_51 rfl ?_
      refine w_il f_99_53 rfl ?_
      refine w_ic f_99_54 ?_
      refine w_inv (as := [.ref 38, .int i4, .int i1, .int (-1), .retAddr 0, .retAddr 0, .retAddr 0, .retAddr 0, .retAddr 0]) (st' := []) f_99_55 rfl rfl rfl rfl rfl rfl H (k_v (fun G1 I1 J1 H => ?_)) (x_n (fun _ => rfl) rfl (fun x h' h => h))
      have hR1 := H.1
      have H := H.2
      refine w_al f_99_58 rfl ?_
      refine w_gr f_99_59 rfl (hR1 _ _ _ rfl) ?_
      refine w_gr f_99_62 rfl (hR1 _ _ _ rfl) ?_
      refine w_ic f_99_65 ?_
      refine w_al f_99_66 rfl ?_
      refine w_gr f_99_67 rfl (hR1 _ _ _ rfl) ?_
      refine w_il f_99_70 rfl ?_
      refine w_ic f_99_72 ?_
      refine w_bin f_99_74 ?_
      refine w_ic f_99_75 ?_
      have hb := H.1
      have H := H.2
      refine w_acopy f_99_77 rfl rfl hb rfl ?_
      refine w_iinc (ls' := [.ref 0, .int i1, .int i2, .int i3, .int (i4 + 1)]) f_99_80 rfl rfl ?_
      refine w_go f_99_83 ?_
      exact H
theorem g_99_86 {d : Nat} {G : am_G} {I : Nat → Nat → Int32} {J : Nat → Nat → Int64} {Q : am_O → am_H → Prop} (hR : q_RT G) (i1 : Int32) (i2 : Int32) (i3 : Int32) (i4 : Int32) (H : Q (.inl none) (G, (am_u I 0 11 i3), J)) : q_W β xs L (d + 1) 99 86 [.ref 0, .int i1, .int i2, .int i3, .int i4] [] (G, I, J) Q := by
  refine w_al f_99_86 rfl ?_
  refine w_il f_99_87 rfl ?_
  refine w_pi f_99_88 rfl ?_
  exact w_ret0 f_99_91 H
theorem g_100_0 {d : Nat} {G : am_G} {I : Nat → Nat → Int32} {J : Nat → Nat → Int64} {Q : am_O → am_H → Prop} (hR : q_RT G) (i1 : Int32) (i2 : Int32) (H : q_W β xs L d 100 5 [.ref 0, .int i1, .int i2, .int 0, .int 0] [] (G, I, J) Q) : q_W β xs L d 100 0 [.ref 0, .int i1, .int i2, .retAddr 0, .retAddr 0] [] (G, I, J) Q := by
  refine w_ic f_100_0 ?_
  refine w_is (ls' := [.ref 0, .int i1, .int i2, .int 0, .retAddr 0]) f_100_1 rfl ?_
  refine w_ic f_100_2 ?_
  refine w_is (ls' := [.ref 0, .int i1, .int i2, .int 0, .int 0]) f_100_3 rfl ?_
  exact H
theorem g_100_5 {d : Nat} {G : am_G} {I : Nat → Nat → Int32} {J : Nat → Nat → Int64} {Q : am_O → am_H → Prop} (hR : q_RT G) (i1 : Int32) (i2 : Int32) (i3 : Int32) (i4 : Int32) (H : ((¬ i4 < (I 34 5) → q_W β xs L d 100 49 [.ref 0, .int i1, .int i2, .int i3, .int i4] [] (G, I, J) Q) ∧ (i4 < (I 34 5) → ((¬ i4 < 27 → q_W β xs L d 100 49 [.ref 0, .int i1, .int i2, .int i3, .int i4] [] (G, I, J) Q) ∧ (i4 < 27 → (am_is ((i4 * 20) + i1) 540 = true ∧ q_W β xs L d 100 5 [.ref 0, .int i1, .int i2, .int (i3 + (((I 58 (((i4 * 20) + i1)).toNatClampNeg) >>> (i2 &&& 31)) &&& 1)), .int (i4 + 1)] [] (G, I, J) Q)))))) : q_W β xs L d 100 5 [.ref 0, .int i1, .int i2, .int i3, .int i4] [] (G, I, J) Q := by
  refine w_il f_100_5 rfl ?_
  refine w_al f_100_7 rfl ?_
  refine w_gr f_100_8 rfl (hR _ _ _ rfl) ?_
  refine w_gi f_100_11 rfl ?_
  refine w_icge f_100_14 (fun c => ?_) (fun c => ?_)
  · have H := H.1 c
    exact H
  · have H := H.2 c
    refine w_il f_100_17 rfl ?_
    refine w_ic f_100_19 ?_
    refine w_icge f_100_21 (fun c => ?_) (fun c => ?_)
    · have H := H.1 c
      exact H
    · have H := H.2 c
      refine w_il f_100_24 rfl ?_
      refine w_al f_100_25 rfl ?_
      refine w_gr f_100_26 rfl (hR _ _ _ rfl) ?_
      refine w_il f_100_29 rfl ?_
      refine w_ic f_100_31 ?_
      refine w_bin f_100_33 ?_
      refine w_il f_100_34 rfl ?_
      refine w_bin f_100_35 ?_
      have hb := H.1
      have H := H.2
      refine w_ald f_100_36 rfl hb ?_
      refine w_il f_100_37 rfl ?_
      refine w_bin f_100_38 ?_
      refine w_ic f_100_39 ?_
      refine w_bin f_100_40 ?_
      refine w_bin f_100_41 ?_
      refine w_is (ls' := [.ref 0, .int i1, .int i2, .int (i3 + (((I 58 (((i4 * 20) + i1)).toNatClampNeg) >>> (i2 &&& 31)) &&& 1)), .int i4]) f_100_42 rfl ?_
      refine w_iinc (ls' := [.ref 0, .int i1, .int i2, .int (i3 + (((I 58 (((i4 * 20) + i1)).toNatClampNeg) >>> (i2 &&& 31)) &&& 1)), .int (i4 + 1)]) f_100_43 rfl rfl ?_
      refine w_go f_100_46 ?_
      exact H
theorem g_100_49 {d : Nat} {G : am_G} {I : Nat → Nat → Int32} {J : Nat → Nat → Int64} {Q : am_O → am_H → Prop} (hR : q_RT G) (i1 : Int32) (i2 : Int32) (i3 : Int32) (i4 : Int32) (H : Q (.inl (some (.int i3))) (G, I, J)) : q_W β xs L d 100 49 [.ref 0, .int i1, .int i2, .int i3, .int i4] [] (G, I, J) Q := by
  refine w_il f_100_49 rfl ?_
  exact w_reti f_100_50 H
theorem g_101_0 {d : Nat} {G : am_G} {I : Nat → Nat → Int32} {J : Nat → Nat → Int64} {Q : am_O → am_H → Prop} (hR : q_RT G) (i1 : Int32) (i2 : Int32) (i3 : Int32) (H : q_W β xs L (d + 1) 101 3 [.ref 0, .int i1, .int i2, .int i3, .int 0, .retAddr 0, .retAddr 0] [] (G, I, J) Q) : q_W β xs L (d + 1) 101 0 [.ref 0, .int i1, .int i2, .int i3, .retAddr 0, .retAddr 0, .retAddr 0] [] (G, I, J) Q := by
  refine w_ic f_101_0 ?_
  refine w_is (ls' := [.ref 0, .int i1, .int i2, .int i3, .int 0, .retAddr 0, .retAddr 0]) f_101_1 rfl ?_
  exact H
theorem g_101_3 {d : Nat} {G : am_G} {I : Nat → Nat → Int32} {J : Nat → Nat → Int64} {Q : am_O → am_H → Prop} (hR : q_RT G) (i1 : Int32) (i2 : Int32) (i3 : Int32) (i4 : Int32) (v5 : Value) (v6 : Value) (n5 : am_nl v5 = true) (n6 : am_nl v6 = true) (H : ((¬ i4 < (I 34 5) → q_W β xs L (d + 1) 101 79 [.ref 0, .int i1, .int i2, .int i3, .int i4, v5, v6] [] (G, I, J) Q) ∧ (i4 < (I 34 5) → ((¬ i4 < 27 → q_W β xs L (d + 1) 101 79 [.ref 0, .int i1, .int i2, .int i3, .int i4, v5, v6] [] (G, I, J) Q) ∧ (i4 < 27 → q_W β xs L d 16 0 [.ref 34, .int i4, .int i1, .retAddr 0, .retAddr 0] [] (G, I, J) (q_Ri (fun y1 G1 I1 J1 => (q_RT G1 ∧ (am_is ((i4 * 20) + i2) 540 = true ∧ (am_is ((y1 * 20) + i2) 540 = true ∧ ((¬ ((((I1 58 (((i4 * 20) + i2)).toNatClampNeg) ^^^ (I1 58 (((y1 * 20) + i2)).toNatClampNeg)) >>> (i3 &&& 31)) &&& 1) = 1 → q_W β xs L (d + 1) 101 3 [.ref 0, .int i1, .int i2, .int i3, .int (i4 + 1), .int y1, .int ((I1 58 (((i4 * 20) + i2)).toNatClampNeg) ^^^ (I1 58 (((y1 * 20) + i2)).toNatClampNeg))] [] (G1, I1, J1) Q) ∧ (((((I1 58 (((i4 * 20) + i2)).toNatClampNeg) ^^^ (I1 58 (((y1 * 20) + i2)).toNatClampNeg)) >>> (i3 &&& 31)) &&& 1) = 1 → (((0 : Int32) = 0 ∨ (0 : Int32) = 1) ∧ Q (.inl (some (.int 0))) (G1, I1, J1)))))))) (fun x1 G1 I1 J1 => Q (.inr x1) (G1, I1, J1)))))))) : q_W β xs L (d + 1) 101 3 [.ref 0, .int i1, .int i2, .int i3, .int i4, v5, v6] [] (G, I, J) Q := by
  refine w_il f_101_3 rfl ?_
  refine w_al f_101_5 rfl ?_
  refine w_gr f_101_6 rfl (hR _ _ _ rfl) ?_
  refine w_gi f_101_9 rfl ?_
  refine w_icge f_101_12 (fun c => ?_) (fun c => ?_)
  · have H := H.1 c
    exact H
  · have H := H.2 c
    refine w_il f_101_15 rfl ?_
    refine w_ic f_101_17 ?_
    refine w_icge f_101_19 (fun c => ?_) (fun c => ?_)
    · have H := H.1 c
      exact H
    · have H := H.2 c
      refine w_al f_101_22 rfl ?_
      refine w_gr f_101_23 rfl (hR _ _ _ rfl) ?_
      refine w_il f_101_26 rfl ?_
      refine w_il f_101_28 rfl ?_
      refine w_inv (as := [.ref 34, .int i4, .int i1, .retAddr 0, .retAddr 0]) (st' := []) f_101_29 rfl rfl rfl rfl rfl rfl H (k_i (fun y1 G1 I1 J1 H => ?_)) (x_n (fun _ => rfl) rfl (fun x h' h => h))
      have hR1 := H.1
      have H := H.2
      refine w_is (ls' := [.ref 0, .int i1, .int i2, .int i3, .int i4, .int y1, v6]) f_101_32 rfl ?_
      refine w_al f_101_34 rfl ?_
      refine w_gr f_101_35 rfl (hR1 _ _ _ rfl) ?_
      refine w_il f_101_38 rfl ?_
      refine w_ic f_101_40 ?_
      refine w_bin f_101_42 ?_
      refine w_il f_101_43 rfl ?_
      refine w_bin f_101_44 ?_
      have hb := H.1
      have H := H.2
      refine w_ald f_101_45 rfl hb ?_
      refine w_al f_101_46 rfl ?_
      refine w_gr f_101_47 rfl (hR1 _ _ _ rfl) ?_
      refine w_il f_101_50 rfl ?_
      refine w_ic f_101_52 ?_
      refine w_bin f_101_54 ?_
      refine w_il f_101_55 rfl ?_
      refine w_bin f_101_56 ?_
      have hb := H.1
      have H := H.2
      refine w_ald f_101_57 rfl hb ?_
      refine w_bin f_101_58 ?_
      refine w_is (ls' := [.ref 0, .int i1, .int i2, .int i3, .int i4, .int y1, .int ((I1 58 (((i4 * 20) + i2)).toNatClampNeg) ^^^ (I1 58 (((y1 * 20) + i2)).toNatClampNeg))]) f_101_59 rfl ?_
      refine w_il f_101_61 rfl ?_
      refine w_il f_101_63 rfl ?_
      refine w_bin f_101_64 ?_
      refine w_ic f_101_65 ?_
      refine w_bin f_101_66 ?_
      refine w_ic f_101_67 ?_
      refine w_icne f_101_68 (fun c => ?_) (fun c => ?_)
      · have H := H.1 c
        refine w_iinc (ls' := [.ref 0, .int i1, .int i2, .int i3, .int (i4 + 1), .int y1, .int ((I1 58 (((i4 * 20) + i2)).toNatClampNeg) ^^^ (I1 58 (((y1 * 20) + i2)).toNatClampNeg))]) f_101_73 rfl rfl ?_
        refine w_go f_101_76 ?_
        exact H
      · have H := H.2 c
        refine w_ic f_101_71 ?_
        exact w_retz f_101_72 H.1 H.2
theorem g_101_79 {d : Nat} {G : am_G} {I : Nat → Nat → Int32} {J : Nat → Nat → Int64} {Q : am_O → am_H → Prop} (hR : q_RT G) (i1 : Int32) (i2 : Int32) (i3 : Int32) (i4 : Int32) (v5 : Value) (v6 : Value) (n5 : am_nl v5 = true) (n6 : am_nl v6 = true) (H : (((1 : Int32) = 0 ∨ (1 : Int32) = 1) ∧ Q (.inl (some (.int 1))) (G, I, J))) : q_W β xs L (d + 1) 101 79 [.ref 0, .int i1, .int i2, .int i3, .int i4, v5, v6] [] (G, I, J) Q := by
  refine w_ic f_101_79 ?_
  exact w_retz f_101_80 H.1 H.2
end Re

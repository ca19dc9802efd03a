/-! ===== the reference: a wedding ===== -/
/-- all rows but r stay -/
def r_fw (r : Nat) (I I' : a_F) : Prop := ∀ c, c ≠ r → I' c = I c
theorem r_fw.rf (r : Nat) (I : a_F) : r_fw r I I := fun _ _ => rfl
theorem r_fw.up {r : Nat} {I I' : a_F} (h : r_fw r I I') (n : Nat) (x : Int32) : r_fw r I (am_u I' r n x) := fun c hc => (am_u_row _ _ _ _ hc).trans (h c hc)
theorem r_S.fw {nq r : Nat} {I I' s : a_F} (h : r_S nq I s) (hf : r_fw r I I') (hr : r = 113 ∨ r = 114) : r_S nq I' s := by
  unfold r_S at h ⊢
  rw [hf 91 (by omega), hf 92 (by omega), hf 93 (by omega), hf 94 (by omega), hf 95 (by omega), hf 96 (by omega), hf 97 (by omega), hf 98 (by omega), hf 99 (by omega), hf 100 (by omega), hf 101 (by omega), hf 59 (by omega), hf 102 (by omega), hf 103 (by omega), hf 104 (by omega), hf 105 (by omega), hf 106 (by omega), hf 107 (by omega)]
  exact h
theorem r_fw.fr {r : Nat} {I I' : a_F} (hf : r_fw r I I') (hr : r = 113 ∨ r = 114) : r_fr I I' := fun c i h => by
  by_cases h0 : c = r
  · rcases hr with hr | hr <;> (subst h0; subst hr; cases h)
  exact congrFun (hf c h0) i
section R20
variable {β : Bool} {xs : Nat → Int32} {L : Nat} {G : am_G} {J : Nat → Nat → Int64}
theorem r_wed38 {d : Nat} (hR : q_RT G) {I1 : a_F} {q : Nat} (hq : q < 20) (i1 i3 i4 : Int32) {Q : am_O → am_H → Prop} : ∀ m i (I : a_F), i + m = 5 → r_fw 113 I1 I → (∀ j, j < i → I 113 j = I1 99 (5 * q + j)) →
    (∀ I', r_fw 113 I1 I' → (∀ j, j < 5 → I' 113 j = I1 99 (5 * q + j)) → q_W β xs L (d + 1) 152 77 [.ref 59, .int i1, .int (nI q), .int i3, .int i4, .int (nI 0)] [] (G, am_u I' 59 82 i4, J) Q) →
    q_W β xs L (d + 1) 152 38 [.ref 59, .int i1, .int (nI q), .int i3, .int i4, .int (nI i)] [] (G, I, J) Q
  | 0, i, I, him, hf, hv, hQ => by
    have e : i = 5 := by omega
    subst e
    exact g_152_38 hR _ _ _ _ _ ⟨fun _ => hQ I hf hv, fun z => absurd z (by decide)⟩
  | m + 1, i, I, him, hf, hv, hQ => by
    have ei : (nI i).toNatClampNeg = i := nI_clamp (by omega)
    have e1 : (5 * nI q + nI i : Int32) = nI (5 * q + i) := by rw [s_lit, pk_mul, nI_add]
    have e2 : (nI (5 * q + i)).toNatClampNeg = 5 * q + i := nI_clamp (by omega)
    refine g_152_38 hR _ _ _ _ _ ⟨fun z => absurd ((nI_ltI (a := i) (b := 5) (by omega) (by omega)).mpr (by omega)) z, fun _ => ?_⟩
    rw [e1, e2, ei, nI_1, hf 99 (by decide)]
    refine ⟨am_is_nI (by omega) (by omega), am_is_nI (by omega) (by omega), ?_⟩
    refine r_wed38 (d := d) hR hq i1 i3 i4 m (i + 1) _ (by omega) (hf.up _ _) (fun j hj => ?_) hQ
    by_cases hji : j = i
    · subst hji; exact am_u_same
    · rw [am_u_ne (Or.inr hji)]; exact hv j (by omega)
theorem r_wed77 {d : Nat} (hR : q_RT G) {I1 : a_F} {p : Nat} (hp : p < 20) (i2 i3 i4 : Int32) {Q : am_O → am_H → Prop} : ∀ m i (I : a_F), i + m = 5 → r_fw 114 I1 I → (∀ j, j < i → I 114 j = I1 99 (5 * p + j)) →
    (∀ I', r_fw 114 I1 I' → (∀ j, j < 5 → I' 114 j = I1 99 (5 * p + j)) → q_W β xs L d 158 0 [.ref 59, .int (nI p), .int (nI 0), .int (I' 59 3 - 1), .retAddr 0, .retAddr 0, .retAddr 0] [] (G, I', J) (q_Rv (fun G1 I2 J1 => q_W β xs L (d + 1) 152 127 [.ref 59, .int (nI p), .int i2, .int i3, .int i4, .int (nI 0)] [] (G1, am_u I2 59 82 i3, J1) Q) (fun x1 G1 I2 J1 => Q (.inr x1) (G1, I2, J1)))) →
    q_W β xs L (d + 1) 152 77 [.ref 59, .int (nI p), .int i2, .int i3, .int i4, .int (nI i)] [] (G, I, J) Q
  | 0, i, I, him, hf, hv, hQ => by
    have e : i = 5 := by omega
    subst e
    exact g_152_77 hR _ _ _ _ _ ⟨fun _ => hQ I hf hv, fun z => absurd z (by decide)⟩
  | m + 1, i, I, him, hf, hv, hQ => by
    have ei : (nI i).toNatClampNeg = i := nI_clamp (by omega)
    have e1 : (5 * nI p + nI i : Int32) = nI (5 * p + i) := by rw [s_lit, pk_mul, nI_add]
    have e2 : (nI (5 * p + i)).toNatClampNeg = 5 * p + i := nI_clamp (by omega)
    refine g_152_77 hR _ _ _ _ _ ⟨fun z => absurd ((nI_ltI (a := i) (b := 5) (by omega) (by omega)).mpr (by omega)) z, fun _ => ?_⟩
    rw [e1, e2, ei, nI_1, hf 99 (by decide)]
    refine ⟨am_is_nI (by omega) (by omega), am_is_nI (by omega) (by omega), ?_⟩
    refine r_wed77 (d := d) hR hp i2 i3 i4 m (i + 1) _ (by omega) (hf.up _ _) (fun j hj => ?_) hQ
    by_cases hji : j = i
    · subst hji; exact am_u_same
    · rw [am_u_ne (Or.inr hji)]; exact hv j (by omega)
theorem r_wed127 {d : Nat} (hR : q_RT G) {I1 : a_F} (i1 i2 i3 i4 : Int32) {Q : am_O → am_H → Prop} : ∀ m i (I : a_F), i + m = 5 → r_fw 113 I1 I → (∀ j, j < i → I 113 j = I1 114 j) →
    (∀ I', r_fw 113 I1 I' → (∀ j, j < 5 → I' 113 j = I1 114 j) → q_W β xs L d 158 0 [.ref 59, .int i2, .int (nI 0), .int (I' 59 3 - 1), .retAddr 0, .retAddr 0, .retAddr 0] [] (G, I', J) (q_Rv (fun G1 I2 J1 => Q (.inl none) (G1, I2, J1)) (fun x1 G1 I2 J1 => Q (.inr x1) (G1, I2, J1)))) →
    q_W β xs L (d + 1) 152 127 [.ref 59, .int i1, .int i2, .int i3, .int i4, .int (nI i)] [] (G, I, J) Q
  | 0, i, I, him, hf, hv, hQ => by
    have e : i = 5 := by omega
    subst e
    exact g_152_127 hR _ _ _ _ _ ⟨fun _ => hQ I hf hv, fun z => absurd z (by decide)⟩
  | m + 1, i, I, him, hf, hv, hQ => by
    have ei : (nI i).toNatClampNeg = i := nI_clamp (by omega)
    refine g_152_127 hR _ _ _ _ _ ⟨fun z => absurd ((nI_ltI (a := i) (b := 5) (by omega) (by omega)).mpr (by omega)) z, fun _ => ?_⟩
    rw [ei, nI_1, hf 114 (by decide)]
    refine ⟨am_is_nI (by omega) (by omega), am_is_nI (by omega) (by omega), ?_⟩
    refine r_wed127 (d := d) hR i1 i2 i3 i4 m (i + 1) _ (by omega) (hf.up _ _) (fun j hj => ?_) hQ
    by_cases hji : j = i
    · subst hji; exact am_u_same
    · rw [am_u_ne (Or.inr hji)]; exact hv j (by omega)
end R20

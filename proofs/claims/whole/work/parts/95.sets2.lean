/-! ===== the class: the first way alike ===== -/
def a_cs (D : a_F) (l : List Nat) : List Nat := l.map (fun f => a_ix (D 70 f))
theorem a_cs_w (D : a_F) : ∀ l : List Nat, d_w (a_cs D l) = a_ways D l
  | [] => rfl
  | f :: r => by
    show a_ix (D 70 f) * d_w (a_cs D r) = a_ix (D 70 f) * a_ways D r
    rw [a_cs_w D r]
theorem a_cs_drop (D : a_F) (l : List Nat) (i : Nat) : (a_cs D l).drop i = a_cs D (l.drop i) := by
  unfold a_cs
  rw [List.map_drop]
theorem a_cs_len (D : a_F) (l : List Nat) : (a_cs D l).length = l.length := List.length_map _
theorem a_cs_pk (D : a_F) {l : List Nat} {way i : Nat} (hi : i < l.length) : d_pk (a_cs D l) way i = a_pk D l way i := by
  have hg := List.getElem?_eq_getElem hi
  unfold d_pk a_pk
  rw [a_cs_drop, a_cs_w, hg]
  have e : (a_cs D l).getD i 1 = a_ix (D 70 l[i]) := by
    unfold a_cs
    rw [List.getD_eq_getElem?_getD, List.getElem?_map, hg]
    rfl
  rw [e]
  rfl
theorem b_nI {m i : Nat} (hm : m < 2 ^ 31) : bt (nI m) i = decide (m / 2 ^ i % 2 = 1) := by
  show (nI m).toBitVec.toNat.testBit i = _
  rw [pc_nat hm, Nat.testBit_eq_decide_div_mod_eq]
section Sets2
variable {β : Bool} {xs : Nat → Int32} {L : Nat} {G : am_G} {I : a_F} {J : Nat → Nat → Int64}
theorem k_flL {d nl nq np nf way set : Nat} {D : a_F} (hR : q_RT G) (hF : a_DF nl nq np nf D) {l : List Nat} (hl : l.length ≤ 3) (hm : ∀ x ∈ l, x < nf) (hb : c_db D I l) (hw : way < 2 ^ 31) (hs : set < 8) {Q : am_O → am_H → Prop} (hQ : Q (.inl (some (.int (nI (d_fst (a_cs D l) way set l.length))))) (G, I, J)) : ∀ m i, i + m = l.length →
    q_W β xs L (d + 1) 16 5 [.ref 34, .int (nI way), .int (nI set), .int (nI (d_fst (a_cs D l) way set i)), .int (nI i)] [] (G, I, J) Q
  | 0, i, hi => by
    have e : i = l.length := by omega
    subst e
    refine g_16_5 hR _ _ _ _ ⟨fun _ => hQ, fun z => ?_⟩
    rw [hb.1, nI_ltI (by omega) (by omega)] at z
    omega
  | m + 1, i, hi => by
    have hil : i < l.length := by omega
    have ih := k_flL (d := d) hR hF hl hm hb hw hs hQ m (i + 1) (by omega)
    refine g_16_5 hR _ _ _ _ ⟨fun z => absurd (by rw [hb.1]; exact (nI_ltI (by omega) (by omega)).mpr hil) z, fun _ => ?_⟩
    rw [s_bit1 _ (by omega), b_nI (by omega)]
    refine ⟨fun z => g_16_42 hR _ _ _ _ ?_, fun z => ?_⟩
    · have hz : ¬ set / 2 ^ i % 2 = 1 := fun q => z (decide_eq_true q)
      have e : d_fst (a_cs D l) way set (i + 1) = d_fst (a_cs D l) way set i := by
        show d_fst _ way set i + (if _ then _ else _) = _
        rw [if_neg hz, Nat.add_zero]
      rw [nI_1, ← e]
      exact ih
    · have hz : set / 2 ^ i % 2 = 1 := of_decide_eq_true z
      refine q_useI (c_pick (β := β) (xs := xs) (L := L) (d := d) hR hF hl hm hb hw hil) (Nat.le_refl _) ⟨hR, am_is_nI (by omega) (by omega), g_16_42 hR _ _ _ _ ?_⟩
      have hg := List.getElem?_eq_getElem hil
      have e : d_fst (a_cs D l) way set (i + 1) = d_fst (a_cs D l) way set i + a_pk D l way i * a_ways D (l.drop (i + 1)) := by
        show d_fst _ way set i + (if _ then _ else _) = _
        rw [if_pos hz, a_cs_pk D hil, a_cs_drop, a_cs_w]
      rw [show (nI i).toNatClampNeg = i from nI_clamp (by omega), (hb.2.2 i _ hg).2.2, pk_mul, nI_add, nI_1, ← e]
      exact ih
theorem k_fl {d nl nq np nf way set : Nat} {D : a_F} (hR : q_RT G) (hF : a_DF nl nq np nf D) {l : List Nat} (hl : l.length ≤ 3) (hm : ∀ x ∈ l, x < nf) (hb : c_db D I l) (hw : way < 2 ^ 31) (hs : set < 8) : q_W β xs L (d + 1) 16 0 [.ref 34, .int (nI way), .int (nI set), .retAddr 0, .retAddr 0] [] (G, I, J) (fun o h => o = .inl (some (.int (nI (d_fst (a_cs D l) way set l.length)))) ∧ h = (G, I, J)) :=
  g_16_0 hR _ _ (k_flL hR hF hl hm hb hw hs ⟨rfl, rfl⟩ l.length 0 (Nat.zero_add _))
end Sets2

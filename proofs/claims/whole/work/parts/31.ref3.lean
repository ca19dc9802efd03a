/-! ===== the reference: a change, with the children ===== -/
theorem r_ct.rf (I : a_F) : r_ct I I := ⟨fun _ _ _ => rfl, fun _ => rfl, fun _ => rfl, fun _ => rfl, fun _ => rfl, rfl, fun _ => rfl⟩
theorem r_ct.tr {I I1 I2 : a_F} (h1 : r_ct I I1) (h2 : r_ct I1 I2) : r_ct I I2 := by
  obtain ⟨a1, a2, a3, a4, a5, a6, a7⟩ := h1
  obtain ⟨b1, b2, b3, b4, b5, b6, b7⟩ := h2
  exact ⟨fun i h1 h2 => (b1 i h1 h2).trans (a1 i h1 h2), fun l => (b2 l).trans (a2 l), fun l => (b3 l).trans (a3 l), fun l => (b4 l).trans (a4 l), fun l => (b5 l).trans (a5 l), b6.trans a6, fun l => (b7 l).trans (a7 l)⟩
theorem a_gain_n {s : a_F} {n : Nat} (hn : s 17 0 = nI n) (hb : n < 2 ^ 31) (today fact : Int32) (p l k : Nat) (on ch : Int32) : a_gain s today fact p l k on ch 17 0 = nI (n + 1) := by
  unfold a_gain a_rec
  rw [hn, show a_ix (nI n) = n from nI_clamp hb, am_u_same]
theorem a_lose_n (s : a_F) (p l : Nat) : a_lose s p l 17 0 = s 17 0 := rfl
theorem vp_z0 : vp_nar .boolean 0 = 0 := rfl
theorem vp_z1 : vp_nar .boolean 1 = 1 := rfl
section R3
variable {β : Bool} {xs : Nat → Int32} {L : Nat} {G : am_G} {J : Nat → Nat → Int64}
theorem r_kids {d nq np : Nat} (hR : q_RT G) {D I0 : a_F} {p l k : Nat} (hp : p < 20) (hl : l < 5) (hk : k < 144) (hnp : I0 59 5 = nI np) (hnp2 : np ≤ 20) (h6 : ∀ c, c < np → I0 62 c = D 62 c ∧ I0 63 c = D 63 c) (h85 : I0 85 k = D 85 k) (h85n : D 85 k ≠ -1)
    {today fact : Int32} (ht : I0 59 76 = today) (hfa : I0 59 81 = fact) (gains : Bool) {Q : am_O → am_H → Prop} : ∀ m c (I s : a_F) n (v6 : Value), am_nl v6 = true → c + m = np → r_fr I0 I → r_ct I0 I → r_S nq I s → s 17 0 = nI n → n + m < 23000 →
    (∀ I' n', r_fr I0 I' → r_ct I0 I' → r_S nq I' (a_kids D today fact p l k gains m c s) → a_kids D today fact p l k gains m c s 17 0 = nI n' → n' ≤ n + m → Q (.inl none) (G, I', J)) →
    q_W β xs L (d + 1) 162 47 [.ref 59, .int (nI p), .int (nI l), .int (nI k), .int (a_is gains), .int (nI c), v6] [] (G, I, J) Q
  | 0, c, I, s, n, v6, n6, hc, hf, hct, hS, hn, hb, hQ => by
    refine g_162_47 hR _ _ _ _ _ _ n6 ⟨fun _ => g_162_202 hR _ _ _ _ _ _ n6 (hQ I n hf hct hS hn (by omega)), fun z => ?_⟩
    rw [hf 59 5 rfl, hnp, nI_ltI (by omega) (by omega)] at z
    omega
  | m + 1, c, I, s, n, v6, n6, hc, hf, hct, hS, hn, hb, hQ => by
    have hcl : c < np := by omega
    have hc20 : c < 20 := by omega
    have ec : (nI c).toNatClampNeg = c := nI_clamp (by omega)
    have ek : (nI k).toNatClampNeg = k := nI_clamp (by omega)
    have ep : (5 * nI p + nI l : Int32) = nI (5 * p + l) := by rw [s_lit, pk_mul, nI_add]
    have epc : (nI (5 * p + l)).toNatClampNeg = 5 * p + l := nI_clamp (by omega)
    have ic : am_is (nI c) 20 = true := am_is_nI hc20 (by omega)
    have ik : am_is (nI k) 144 = true := am_is_nI hk (by omega)
    have e62 : I 62 c = D 62 c := (hf 62 c rfl).trans (h6 c hcl).1
    have e63 : I 63 c = D 63 c := (hf 63 c rfl).trans (h6 c hcl).2
    have e85 : I 85 k = D 85 k := (hf 85 k rfl).trans h85
    have e5 : I 59 5 = nI np := (hf 59 5 rfl).trans hnp
    have e76 : I 59 76 = today := (hct.1 76 (by omega) (by omega)).trans ht
    have e81 : I 59 81 = fact := (hct.1 81 (by omega) (by omega)).trans hfa
    have e92 : I 92 c = s 1 c := (hS.1 c hc20).2.1
    have step : ∀ (I1 s1 : a_F) (n1 : Nat) (x : Int32), a_kids D today fact p l k gains (m + 1) c s = a_kids D today fact p l k gains m (c + 1) s1 → r_fr I0 I1 → r_ct I0 I1 → r_S nq I1 s1 → s1 17 0 = nI n1 → n1 ≤ n + 1 →
        q_W β xs L (d + 1) 162 196 [.ref 59, .int (nI p), .int (nI l), .int (nI k), .int (a_is gains), .int (nI c), .int x] [] (G, I1, J) Q := by
      intro I1 s1 n1 x he q1 q2 q3 q4 q5
      refine g_162_196 hR _ _ _ _ _ _ ?_
      rw [nI_1]
      exact r_kids (d := d) hR hp hl hk hnp hnp2 h6 h85 h85n ht hfa gains m (c + 1) I1 s1 n1 _ rfl (by omega) q1 q2 q3 q4 (by omega) (fun I' n' z1 z2 z3 z4 z5 => hQ I' n' z1 z2 (he ▸ z3) (he ▸ z4) (by omega))
    have skip : a_isk D s today p l k gains c = false → ∀ x, q_W β xs L (d + 1) 162 196 [.ref 59, .int (nI p), .int (nI l), .int (nI k), .int (a_is gains), .int (nI c), .int x] [] (G, I, J) Q := fun h x =>
      step I s n x (by show a_kids D today fact p l k gains m (c + 1) (if _ then _ else _) = _; rw [if_neg (by rw [h]; decide)]) hf hct hS hn (by omega)
    -- whose child
    have at104 : ∀ its : Bool, its = (decide (D 62 c = nI p) || (decide (D 62 c = -1) && decide (D 63 c = nI p))) → q_W β xs L (d + 1) 162 104 [.ref 59, .int (nI p), .int (nI l), .int (nI k), .int (a_is gains), .int (nI c), v6] [.int (a_is its)] (G, I, J) Q := by
      intro its hits
      refine g_162_104 hR _ _ _ _ _ _ _ n6 ?_
      rw [ec, ek, e85, e76, e92, ep, epc]
      refine ⟨fun z => skip (by have := a_is_0.mp z; rw [hits] at this; simp [a_isk, this]) _, fun z => ⟨ic, fun b => skip (by simp [a_isk, b]) _, fun b => ⟨ic, by decide, ik, fun y => skip (by simp [a_isk, y]) _, fun y => ?_⟩⟩⟩
      have zi : (decide (D 62 c = nI p) || (decide (D 62 c = -1) && decide (D 63 c = nI p))) = true := by
        rw [← hits]
        cases its
        · exact absurd rfl z
        · rfl
      have H := r_has (β := β) (xs := xs) (L := L) (G := G) (I := I) (J := J) (d := d) hR (p := nI c) (l := l) (by omega) (Or.inr ⟨c, hc20, rfl⟩)
      rw [r_has_eq hS (Or.inr ⟨c, hc20, rfl⟩)] at H
      have hh : a_has s (nI c) l = bt (s 0 c) l := by
        unfold a_has
        rw [show a_ix (nI c) = c from ec]
        have : ¬ nI c = -1 := fun w => by
          have w2 := congrArg Int32.toInt w
          rw [nI_toInt (by omega)] at w2
          have : (-1 : Int32).toInt = -1 := by decide
          omega
        simp [this]
      rw [hh] at H
      refine q_useI H (Nat.le_refl _) ⟨hR, fun w => ?_, fun w => ?_⟩
      · have yes : a_isk D s today p l k gains c = true := by
          have : ¬ bt (s 0 c) l = gains := fun w2 => w (by rw [w2])
          unfold a_isk
          rw [zi]
          simp [b, y, this]
        refine ⟨fun g0 => ?_, fun g0 => ?_⟩
        · have gf : gains = false := a_is_0.mp g0
          refine q_useV (r_loses (β := β) (xs := xs) (L := L) (d := d) hR hS hc20 hl) (Nat.le_refl _) (fun I' hI' => ?_)
          obtain ⟨q1, q2, q3⟩ := hI'
          exact step I' _ n _ (by show a_kids D today fact p l k gains m (c + 1) (if _ then _ else _) = _; rw [if_pos yes, if_neg (by rw [gf]; decide)]) (hf.tr q1) (hct.tr q2) q3 hn (by omega)
        · have gt : gains = true := by
            cases hg : gains with
            | true => rfl
            | false => exact absurd (by rw [hg]; rfl) g0
          refine ⟨am_is_nI (by omega) (by omega), ?_⟩
          rw [(hS.2.2.1 (5 * p + l) (by omega)).1]
          refine q_useV (r_gains (β := β) (xs := xs) (L := L) (d := d) hR hS hn (by omega) hc20 hl _ 1 vp_z1) (Nat.le_refl _) (fun I' hI' => ?_)
          obtain ⟨q1, q2, q3⟩ := hI'
          rw [e76, e81] at q3
          exact step I' _ (n + 1) _ (by show a_kids D today fact p l k gains m (c + 1) (if _ then _ else _) = _; rw [if_pos yes, if_pos gt]) (hf.tr q1) (hct.tr q2) q3 (a_gain_n hn (by omega) _ _ _ _ _ _ _) (Nat.le_refl _)
      · refine skip ?_ _
        have : bt (s 0 c) l = gains := by
          cases h1 : bt (s 0 c) l <;> cases h2 : gains <;> first | rfl | (rw [h1, h2] at w; exact absurd w (by decide))
        simp [a_isk, this]
    have at1 : (decide (D 62 c = nI p) || (decide (D 62 c = -1) && decide (D 63 c = nI p))) = true → q_W β xs L (d + 1) 162 99 [.ref 59, .int (nI p), .int (nI l), .int (nI k), .int (a_is gains), .int (nI c), v6] [] (G, I, J) Q := fun h => g_162_99 hR _ _ _ _ _ _ n6 (at104 true h.symm)
    have at0 : (decide (D 62 c = nI p) || (decide (D 62 c = -1) && decide (D 63 c = nI p))) = false → q_W β xs L (d + 1) 162 103 [.ref 59, .int (nI p), .int (nI l), .int (nI k), .int (a_is gains), .int (nI c), v6] [] (G, I, J) Q := fun h => g_162_103 hR _ _ _ _ _ _ n6 (at104 false h.symm)
    refine g_162_47 hR _ _ _ _ _ _ n6 ⟨fun z => absurd (by rw [e5]; exact (nI_ltI (by omega) (by omega)).mpr hcl) z, fun _ => ?_⟩
    rw [ec, ek, e85, e62, e63]
    exact ⟨ik, fun z => absurd z h85n, fun _ => ⟨ic, fun z => at1 (by simp [z]), fun z => ⟨ic, fun y => at0 (by simp [z, y]), fun y => ⟨ic, fun x => at0 (by simp [z, x]), fun x => at1 (by simp [y, x])⟩⟩⟩⟩
end R3

/-! ===== the reference's parser: operands, signs ===== -/
def r_xE (f0 : Nat) (I0 : a_F) (J0 : Nat → Nat → Int64) (k p w t : Nat) (I : a_F) (J : Nat → Nat → Int64) : Prop := (q_F (r_xsc f0) I0 I ∧ r_nj J0 J) ∧ (I 59 21 = nI k ∧ 1 ≤ k ∧ k ≤ 4) ∧ I 59 22 = nI p ∧ I 59 34 = nI w ∧ I 59 33 = nI t ∧ f0 ≤ t
theorem r_xE.e {tb : Nat → Nat} {n f0 : Nat} {I0 : a_F} {J0 : Nat → Nat → Int64} {k p w t Bd : Nat} {I : a_F} {J : Nat → Nat → Int64} (h : r_xE f0 I0 J0 k p w t I J) (hw : w ≤ 510) (ht : t + w + 1 ≤ Bd + 5) : r_xe tb n f0 I0 J0 Bd k p I J := ⟨h.1, h.2.1, h.2.2.1, w, t, h.2.2.2.1, hw, h.2.2.2.2.1, h.2.2.2.2.2, ht⟩
theorem r_xE.n0 {f0 : Nat} {I0 : a_F} {J0 : Nat → Nat → Int64} {k p w t : Nat} {I : a_F} {J : Nat → Nat → Int64} (h : r_xE f0 I0 J0 k p w t I J) : ¬ I 59 21 = 0 := by
  rw [h.2.1.1]
  exact nI_ne0 (by have := h.2.1.2.1; omega) (by have := h.2.1.2.2; omega)
theorem vp_b0 : (vp_nar .boolean) 0 = 0 := by decide +kernel
theorem vp_b1 : (vp_nar .boolean) 1 = 1 := by decide +kernel
theorem yx_n2 {x : Int32 × Int32} (h : x.1 = nI 1 ∨ x.1 = nI 2) : yx_n [x] = 2 := by
  have h' : x.1 = 1 ∨ x.1 = 2 := h
  show (if x.1 = 1 ∨ x.1 = 2 then 2 else 1) + 0 = 2
  rw [if_pos h']
/-- two cells more -/
theorem r_xD.put2 {f0 : Nat} {out : yx_C} {I : a_F} (h : r_xD f0 out I) {x : Int32 × Int32} (hx : x.1 = nI 1 ∨ x.1 = nI 2) : r_xD f0 (out ++ [x]) (am_u (am_u (am_u (am_u I 86 (f0 + yx_n out) x.1) 59 33 (nI (f0 + yx_n out + 1))) 86 (f0 + yx_n out + 1) x.2) 59 33 (nI (f0 + yx_n out + 2))) := by
  obtain ⟨h1, h2, h3⟩ := h
  have e1 : yx_n (out ++ [x]) = yx_n out + 2 := by rw [yx_n_app, yx_n2 hx]
  refine ⟨by rw [am_u_same, e1, Nat.add_assoc], (r_sp_app out f0 _).mpr ⟨r_sp_cong out f0 (fun i a b => ?_) h2, ?_, ?_⟩, fun y hy => ?_⟩
  · rw [am_u_ne (Or.inl (by decide)), am_u_ne (Or.inr (by omega)), am_u_ne (Or.inl (by decide)), am_u_ne (Or.inr (by omega))]
  · rw [am_u_ne (Or.inl (by decide)), am_u_ne (Or.inr (by omega)), am_u_ne (Or.inl (by decide)), am_u_same]
  · have hx' : x.1 = 1 ∨ x.1 = 2 := hx
    rw [if_pos hx']
    refine ⟨?_, trivial⟩
    rw [am_u_ne (Or.inl (by decide)), am_u_same]
  · rcases List.mem_append.mp hy with q | q
    · exact h3 y q
    · rw [List.mem_singleton.mp q]
      rcases hx with q | q
      · exact Or.inl q
      · exact Or.inr (Or.inl q)
theorem yt_kno_lt : ∀ w, w < 28 → (nI (yt_rw w) < 15 ↔ w < 15) ∧ (15 ≤ w → nI (yt_rw w) - 15 = nI (w - 15)) := by decide +kernel
/-- what part() leaves -/
def r_PP (tb : Nat → Nat) (n f0 Bd : Nat) (I0 : a_F) (J0 : Nat → Nat → Int64) (W : List Nat) (dp : Nat) (T : Nat → Bool) (out : yx_C) (ts : yt_L) (G : am_G) : am_O → am_H → Prop := fun o h => o = .inl none ∧ ∃ I' J', h = (G, I', J') ∧ match yx_part n (fun _ => .inl (0, 0)) ts with
    | .inl e => r_xe tb n f0 I0 J0 Bd e.1 e.2 I' J'
    | .inr y => r_x tb n f0 I0 J0 W dp T (out ++ y.1) ts.tail I' J'
section Rpar2
variable {β : Bool} {xs : Nat → Int32} {L : Nat} {G : am_G} {d : Nat} {tb : Nat → Nat} {n f0 Bd : Nat} {I0 : a_F} {J0 : Nat → Nat → Int64}
section
variable {I : a_F} {J : Nat → Nat → Int64} {W : List Nat} {dp : Nat} {T : Nat → Bool} {out : yx_C} {ts : yt_L}
theorem p_putE {k p w t : Nat} (hR : q_RT G) (h : r_xE f0 I0 J0 k p w t I J) (ht : t < 14600) (x : Int32) : q_W β xs L d 126 0 [.ref 59, .int x] [] (G, I, J) (fun o h => o = .inl none ∧ ∃ I', h = (G, I', J) ∧ r_xE f0 I0 J0 k p w (t + 1) I' J) := by
  obtain ⟨f, h1, h2, h3, h4, h5⟩ := h
  refine g_126_0 hR _ ?_
  rw [h4, show (nI t).toNatClampNeg = t from nI_clamp (by omega), nI_1]
  refine ⟨am_is_nI ht (by omega), rfl, _, rfl, ⟨(f.1.up _ (r_xsc_86 h5)).up _ rfl, f.2⟩, ⟨?_, h1.2⟩, ?_, ?_, am_u_same, by omega⟩
  · rw [am_u_ne (Or.inr (by decide)), am_u_ne (Or.inl (by decide))]; exact h1.1
  · rw [am_u_ne (Or.inr (by decide)), am_u_ne (Or.inl (by decide))]; exact h2
  · rw [am_u_ne (Or.inr (by decide)), am_u_ne (Or.inl (by decide))]; exact h3
theorem p_wrongE (hR : q_RT G) (h : r_x tb n f0 I0 J0 W dp T out ts I J) {k : Nat} (hk : 1 ≤ k ∧ k ≤ 4) : q_W β xs L d 123 0 [.ref 59, .int (nI k)] [] (G, I, J) (fun o' h => o' = .inl none ∧ ∃ I', h = (G, I', J) ∧ r_xE f0 I0 J0 k (yt_pl n ts) W.length (f0 + yx_n out) I' J ∧ I' 59 28 = I 59 28) := by
  obtain ⟨⟨f1, f2⟩, a, ⟨b1, b2, b3⟩, c, e, g1, g2⟩ := h
  refine g_123_0 hR _ ⟨fun _ => ⟨rfl, _, rfl, ⟨⟨(f1.up _ rfl).up _ rfl, f2⟩, ⟨?_, hk⟩, ?_, ?_, ?_, Nat.le_add_right _ _⟩, ?_⟩, fun z => absurd g1 z⟩
  · rw [am_u_ne (Or.inr (by decide)), am_u_same]
  · rw [am_u_same]; exact a.2.1.1.2
  · rw [am_u_ne (Or.inr (by decide)), am_u_ne (Or.inr (by decide))]; exact b1
  · rw [am_u_ne (Or.inr (by decide)), am_u_ne (Or.inr (by decide))]; exact e.1
  · rw [am_u_ne (Or.inr (by decide)), am_u_ne (Or.inr (by decide))]
/-- two cells put -/
theorem p_put2 (hR : q_RT G) (h : r_x tb n f0 I0 J0 W dp T out ts I J) (hb : f0 + yx_n out + 2 ≤ 14600) {x : Int32 × Int32} (hx : x.1 = nI 1 ∨ x.1 = nI 2) {d' : Nat} {ls : List Value} {pc : Nat} {Q : am_O → am_H → Prop} (hQ : ∀ I', r_x tb n f0 I0 J0 W dp T (out ++ [x]) ts I' J → q_W β xs L (d' + 1) 130 pc ls [] (G, I', J) Q) (hd : d ≤ d') :
    q_W β xs L d' 126 0 [.ref 59, .int x.1] [] (G, I, J) (q_Rv (fun G1 I1 J1 => q_W β xs L d' 126 0 [.ref 59, .int x.2] [] (G1, I1, J1) (q_Rv (fun G2 I2 J2 => q_W β xs L (d' + 1) 130 pc ls [] (G2, I2, J2) Q) (fun x2 G2 I2 J2 => Q (.inr x2) (G2, I2, J2)))) (fun x1 G1 I1 J1 => Q (.inr x1) (G1, I1, J1))) := by
  obtain ⟨⟨f1, f2⟩, a, b, c, e, g1, g2⟩ := h
  have p1 : q_W β xs L d 126 0 [.ref 59, .int x.1] [] (G, I, J) (fun o h => o = .inl none ∧ h = (G, am_u (am_u I 86 (f0 + yx_n out) x.1) 59 33 (nI (f0 + yx_n out + 1)), J)) := by
    refine g_126_0 hR _ ?_
    rw [e.1, show (nI (f0 + yx_n out)).toNatClampNeg = f0 + yx_n out from nI_clamp (by omega), nI_1]
    exact ⟨am_is_nI (by omega) (by omega), rfl, rfl⟩
  have p2 : q_W β xs L d 126 0 [.ref 59, .int x.2] [] (G, am_u (am_u I 86 (f0 + yx_n out) x.1) 59 33 (nI (f0 + yx_n out + 1)), J) (fun o h => o = .inl none ∧ h = (G, am_u (am_u (am_u (am_u I 86 (f0 + yx_n out) x.1) 59 33 (nI (f0 + yx_n out + 1))) 86 (f0 + yx_n out + 1) x.2) 59 33 (nI (f0 + yx_n out + 2)), J)) := by
    refine g_126_0 hR _ ?_
    rw [am_u_same, show (nI (f0 + yx_n out + 1)).toNatClampNeg = f0 + yx_n out + 1 from nI_clamp (by omega), nI_1]
    exact ⟨am_is_nI (by omega) (by omega), rfl, rfl⟩
  refine q_useF p1 hd (q_useF p2 hd (hQ _ ?_))
  refine ⟨⟨(((f1.up _ (r_xsc_86 (by omega))).up _ rfl).up _ (r_xsc_86 (by omega))).up _ rfl, f2⟩, a.keep (fun i h1 h2 => ?_) ?_, b.keep ?_ ?_, c.keep ?_ ?_, e.put2 hx, ?_, ?_⟩
  · rw [am_u_ne (Or.inr (by omega)), am_u_ne (Or.inl (by decide)), am_u_ne (Or.inr (by omega)), am_u_ne (Or.inl (by decide))]
  · rw [am_u_row _ _ _ _ (by decide), am_u_row _ _ _ _ (by decide), am_u_row _ _ _ _ (by decide), am_u_row _ _ _ _ (by decide)]
  · rw [am_u_ne (Or.inr (by decide)), am_u_ne (Or.inl (by decide)), am_u_ne (Or.inr (by decide)), am_u_ne (Or.inl (by decide))]
  · rw [am_u_row _ _ _ _ (by decide), am_u_row _ _ _ _ (by decide), am_u_row _ _ _ _ (by decide), am_u_row _ _ _ _ (by decide)]
  · rw [am_u_ne (Or.inr (by decide)), am_u_ne (Or.inl (by decide)), am_u_ne (Or.inr (by decide)), am_u_ne (Or.inl (by decide))]
  · rw [am_u_row _ _ _ _ (by decide), am_u_row _ _ _ _ (by decide), am_u_row _ _ _ _ (by decide), am_u_row _ _ _ _ (by decide)]
  · rw [am_u_ne (Or.inr (by decide)), am_u_ne (Or.inl (by decide)), am_u_ne (Or.inr (by decide)), am_u_ne (Or.inl (by decide))]; exact g1
  · rw [am_u_ne (Or.inr (by decide)), am_u_ne (Or.inl (by decide)), am_u_ne (Or.inr (by decide)), am_u_ne (Or.inl (by decide))]; exact g2
/-- part() -/
theorem p_part (hR : q_RT G) (h : r_x tb n f0 I0 J0 W dp T out ts I J) (hb : r_xb f0 Bd W out ts) (h40 : yt_hd ts ≠ (4, 40)) : q_W β xs L (d + 2) 130 0 [.ref 59, .retAddr 0] [] (G, I, J) (r_PP tb n f0 Bd I0 J0 W dp T out ts G) := by
  obtain ⟨hb1, hb2, hb3⟩ := hb
  have g1 : I 59 21 = 0 := h.2.2.2.2.2.1
  obtain ⟨s1, s2, s3, s4, s5, s6, s7, s8⟩ := h.2.1.sort
  have bad : ∀ (e : Nat × Nat) (I' : a_F) (v1 : Value), am_nl v1 = true → yx_part n (fun _ => .inl (0, 0)) ts = .inl e → r_xe tb n f0 I0 J0 Bd e.1 e.2 I' J → q_W β xs L (d + 2) 130 90 [.ref 59, v1] [] (G, I', J) (r_PP tb n f0 Bd I0 J0 W dp T out ts G) := fun e I' v1 n1 ep he => by
    refine g_130_90 hR _ n1 (q_useI (p_isG0 (β := β) (xs := xs) (L := L) (I := I') (J := J) (d := d) hR he.n0) (by omega) ⟨fun _ => g_130_101 hR _ n1 ⟨rfl, I', J, rfl, ?_⟩, fun q => absurd rfl q⟩)
    rw [ep]
    exact he
  have good : ∀ (c : yx_C) (I' : a_F) (v1 : Value), am_nl v1 = true → yx_part n (fun _ => .inl (0, 0)) ts = .inr (c, ts.tail) → r_x tb n f0 I0 J0 W dp T (out ++ c) ts I' J → q_W β xs L (d + 2) 130 90 [.ref 59, v1] [] (G, I', J) (r_PP tb n f0 Bd I0 J0 W dp T out ts G) := fun c I' v1 n1 ep he => by
    refine g_130_90 hR _ n1 (q_useI (p_isG1 (β := β) (xs := xs) (L := L) (I := I') (J := J) (d := d) hR he.2.2.2.2.2.1) (by omega) ⟨fun q => absurd q (by decide), fun _ => ?_⟩)
    refine q_useRv (p_goX (β := β) (xs := xs) (L := L) (d := d) hR he) (Nat.le_refl _) (fun o h' P => ?_)
    obtain ⟨rfl, I2, J2, rfl, h2⟩ := P
    refine g_130_101 hR _ n1 ⟨rfl, I2, J2, rfl, ?_⟩
    rw [ep]
    exact h2
  refine g_130_0 hR (q_useI (p_isG1 (β := β) (xs := xs) (L := L) (I := I) (J := J) (d := d) hR g1) (by omega) ⟨fun _ => ⟨fun z => ⟨fun y => ?_, fun y => ?_⟩, fun z => ⟨fun y => ?_, fun y => ?_⟩⟩, fun q => absurd q (by decide)⟩)
  · have n3 : ¬ (yt_hd ts).1 = 3 := fun q => y (s4.mpr q)
    have n2 : ¬ (yt_hd ts).1 = 2 := fun q => z (s5.mpr (Or.inl q))
    have n5 : ¬ (yt_hd ts).1 = 5 := fun q => z (s5.mpr (Or.inr q))
    have ep : yx_part n (fun _ => .inl (0, 0)) ts = .inl (1, yt_pl n ts) := by
      unfold yx_part
      rw [if_neg h40, if_neg n3, if_neg n2, if_neg n5]
    refine q_useV (p_wrongE (β := β) (xs := xs) (L := L) (d := d) hR h (k := 1) (by decide)) (by omega) (fun I' h' => bad _ I' _ rfl ep (h'.1.e (by omega) (by omega)))
  · have n3 := s4.mp y
    have hle := s2 n3
    refine q_useI (p_kno1 (β := β) (xs := xs) (L := L) (d := d) hR h.2.1) (by omega) ?_
    have wr : ∀ hn : ¬ (15 ≤ (yt_hd ts).2 ∧ (yt_hd ts).2 < 28), q_W β xs L (d + 1) 123 0 [.ref 59, .int 3] [] (G, I, J) (q_Rv (fun G4 I4 J4 => q_W β xs L (d + 1 + 1) 130 69 [.ref 59, .int (yt_kno (yt_hd ts))] [] (G4, I4, J4) (r_PP tb n f0 Bd I0 J0 W dp T out ts G)) (fun x4 G4 I4 J4 => (r_PP tb n f0 Bd I0 J0 W dp T out ts G) (.inr x4) (G4, I4, J4))) := fun hn => by
      have ep : yx_part n (fun _ => .inl (0, 0)) ts = .inl (3, yt_pl n ts) := by
        unfold yx_part
        rw [if_neg h40, if_pos n3, if_neg hn]
      refine q_useV (p_wrongE (β := β) (xs := xs) (L := L) (d := d) hR h (k := 3) (by decide)) (by omega) (fun I' h' => g_130_69 hR _ ?_)
      refine q_useV (p_putE (β := β) (xs := xs) (L := L) (d := d) hR h'.1 (by omega) 2) (by omega) (fun I2 h2 => ?_)
      refine q_useV (p_putE (β := β) (xs := xs) (L := L) (d := d) hR h2 (by omega) _) (by omega) (fun I3 h3 => bad _ I3 _ rfl ep (h3.e (by omega) (by omega)))
    by_cases hc : 15 ≤ (yt_hd ts).2 ∧ (yt_hd ts).2 < 28
    · have ek : yt_kno (yt_hd ts) = nI (yt_rw (yt_hd ts).2) := if_pos ⟨n3, hc.2⟩
      obtain ⟨k1, k2⟩ := yt_kno_lt _ hc.2
      have ep : yx_part n (fun _ => .inl (0, 0)) ts = .inr ([(nI 2, nI ((yt_hd ts).2 - 15))], ts.tail) := by
        unfold yx_part
        rw [if_neg h40, if_pos n3, if_pos hc]
      refine ⟨fun x => g_130_69 hR _ ?_, fun x => ?_⟩
      · rw [ek, k2 hc.1]
        exact p_put2 (d := d + 1) hR h (by omega) (x := (nI 2, nI ((yt_hd ts).2 - 15))) (Or.inr rfl) (fun I' h' => good _ I' _ rfl ep h') (Nat.le_refl _)
      · rw [ek, k1] at x
        omega
    · refine ⟨fun x => ?_, fun x => wr hc⟩
      refine absurd ?_ x
      unfold yt_kno
      by_cases h28 : (yt_hd ts).2 < 28
      · rw [if_pos ⟨n3, h28⟩]
        exact (yt_kno_lt _ h28).1.mpr (by omega)
      · rw [if_neg (fun q => h28 q.2)]
        decide
  · have h2 : (yt_hd ts).1 = 2 := by
      rcases s5.mp z with q | q
      · exact q
      · exact absurd (h.2.1.2.1.1.1.2.2.1 q) y
    have n3 : ¬ (yt_hd ts).1 = 3 := by omega
    have ep : yx_part n (fun _ => .inl (0, 0)) ts = .inr ([(nI 1, nI (yt_hd ts).2)], ts.tail) := by
      unfold yx_part
      rw [if_neg h40, if_neg n3, if_pos h2]
    have e28 : I 59 28 = nI (yt_hd ts).2 := (h.2.1.2.1.1.1.2.1 h2).2
    have e28' : am_u (am_u I 86 (f0 + yx_n out) (nI 1)) 59 33 (nI (f0 + yx_n out + 1)) 59 28 = nI (yt_hd ts).2 := by
      rw [am_u_ne (Or.inr (by decide)), am_u_ne (Or.inl (by decide))]; exact e28
    refine g_130_29 hR ?_
    have e33 : I 59 33 = nI (f0 + yx_n out) := h.2.2.2.2.1.1
    have p1 : q_W β xs L (d + 1) 126 0 [.ref 59, .int 1] [] (G, I, J) (fun o h => o = .inl none ∧ h = (G, am_u (am_u I 86 (f0 + yx_n out) (nI 1)) 59 33 (nI (f0 + yx_n out + 1)), J)) := by
      refine g_126_0 hR _ ?_
      rw [e33, show (nI (f0 + yx_n out)).toNatClampNeg = f0 + yx_n out from nI_clamp (by omega), nI_1]
      exact ⟨am_is_nI (by omega) (by omega), rfl, rfl⟩
    refine q_useF p1 (Nat.le_refl _) ?_
    rw [e28']
    have p3 : q_W β xs L (d + 1) 126 0 [.ref 59, .int (nI (yt_hd ts).2)] [] (G, am_u (am_u I 86 (f0 + yx_n out) (nI 1)) 59 33 (nI (f0 + yx_n out + 1)), J) (fun o h => o = .inl none ∧ h = (G, am_u (am_u (am_u (am_u I 86 (f0 + yx_n out) (nI 1)) 59 33 (nI (f0 + yx_n out + 1))) 86 (f0 + yx_n out + 1) (nI (yt_hd ts).2)) 59 33 (nI (f0 + yx_n out + 2)), J)) := by
      refine g_126_0 hR _ ?_
      rw [am_u_same, show (nI (f0 + yx_n out + 1)).toNatClampNeg = f0 + yx_n out + 1 from nI_clamp (by omega), nI_1]
      exact ⟨am_is_nI (by omega) (by omega), rfl, rfl⟩
    refine q_useF p3 (Nat.le_refl _) (good _ _ _ rfl ep ?_)
    obtain ⟨⟨f1, f2⟩, a, b, c, e, g1, g2⟩ := h
    refine ⟨⟨(((f1.up _ (r_xsc_86 (by omega))).up _ rfl).up _ (r_xsc_86 (by omega))).up _ rfl, f2⟩, a.keep (fun i h1 h2 => ?_) ?_, b.keep ?_ ?_, c.keep ?_ ?_, e.put2 (x := (nI 1, nI (yt_hd ts).2)) (Or.inl rfl), ?_, ?_⟩
    · rw [am_u_ne (Or.inr (by omega)), am_u_ne (Or.inl (by decide)), am_u_ne (Or.inr (by omega)), am_u_ne (Or.inl (by decide))]
    · rw [am_u_row _ _ _ _ (by decide), am_u_row _ _ _ _ (by decide), am_u_row _ _ _ _ (by decide), am_u_row _ _ _ _ (by decide)]
    · rw [am_u_ne (Or.inr (by decide)), am_u_ne (Or.inl (by decide)), am_u_ne (Or.inr (by decide)), am_u_ne (Or.inl (by decide))]
    · rw [am_u_row _ _ _ _ (by decide), am_u_row _ _ _ _ (by decide), am_u_row _ _ _ _ (by decide), am_u_row _ _ _ _ (by decide)]
    · rw [am_u_ne (Or.inr (by decide)), am_u_ne (Or.inl (by decide)), am_u_ne (Or.inr (by decide)), am_u_ne (Or.inl (by decide))]
    · rw [am_u_row _ _ _ _ (by decide), am_u_row _ _ _ _ (by decide), am_u_row _ _ _ _ (by decide), am_u_row _ _ _ _ (by decide)]
    · rw [am_u_ne (Or.inr (by decide)), am_u_ne (Or.inl (by decide)), am_u_ne (Or.inr (by decide)), am_u_ne (Or.inl (by decide))]; exact g1
    · rw [am_u_ne (Or.inr (by decide)), am_u_ne (Or.inl (by decide)), am_u_ne (Or.inr (by decide)), am_u_ne (Or.inl (by decide))]; exact g2
  · have n2 : ¬ (yt_hd ts).1 = 2 := fun q => (h.2.1.2.1.1.1.2.1 q).1 y
    have h5 : (yt_hd ts).1 = 5 := by
      rcases s5.mp z with q | q
      · exact absurd q n2
      · exact q
    have n3 : ¬ (yt_hd ts).1 = 3 := by omega
    have ep : yx_part n (fun _ => .inl (0, 0)) ts = .inl (2, yt_pl n ts) := by
      unfold yx_part
      rw [if_neg h40, if_neg n3, if_neg n2, if_pos h5]
    refine q_useV (p_wrongE (β := β) (xs := xs) (L := L) (d := d) hR h (k := 2) (by decide)) (by omega) (fun I' h' => g_130_29 hR ?_)
    refine q_useV (p_putE (β := β) (xs := xs) (L := L) (d := d) hR h'.1 (by omega) 1) (by omega) (fun I2 h2 => ?_)
    refine q_useV (p_putE (β := β) (xs := xs) (L := L) (d := d) hR h2 (by omega) _) (by omega) (fun I3 h3 => bad _ I3 _ rfl ep (h3.e (by omega) (by omega)))
/-- begins() -/
theorem p_beg1 (hR : q_RT G) (h : r_x tb n f0 I0 J0 W dp T out ts I J) (h6 : dp < 6) : q_W β xs L (d + 1) 131 0 [.ref 59] [] (G, I, J) (fun o h => o = .inl none ∧ ∃ I', h = (G, I', J) ∧ r_x tb n f0 I0 J0 W (dp + 1) (yx_tu T (dp + 1) false) out ts I' J) := by
  obtain ⟨⟨f1, f2⟩, a, b, ⟨c1, c2, c3⟩, e, g1, g2⟩ := h
  refine g_131_0 hR ?_
  rw [c1, nI_1, vp_b0, show (nI (dp + 1)).toNatClampNeg = dp + 1 from nI_clamp (by omega)]
  refine ⟨fun z => absurd ((nI_ltI (b := 6) (by omega) (by omega)).mpr h6) z, fun _ => ⟨am_is_nI (by omega) (by omega), rfl, _, rfl, ⟨(f1.up _ rfl).up _ rfl, f2⟩, a.keep (fun i h1 h2 => ?_) ?_, b.keep ?_ ?_, ⟨?_, by omega, fun j h1 h2 => ?_⟩, e.keep ?_ ?_, ?_, ?_⟩⟩
  · rw [am_u_ne (Or.inl (by decide)), am_u_ne (Or.inr (by omega))]
  · rw [am_u_row _ _ _ _ (by decide), am_u_row _ _ _ _ (by decide)]
  · rw [am_u_ne (Or.inl (by decide)), am_u_ne (Or.inr (by decide))]
  · rw [am_u_row _ _ _ _ (by decide), am_u_row _ _ _ _ (by decide)]
  · rw [am_u_ne (Or.inl (by decide)), am_u_same]
  · unfold yx_tu
    by_cases hj : j = dp + 1
    · rw [if_pos hj, hj, am_u_same]; rfl
    · rw [if_neg hj, am_u_ne (Or.inr hj), am_u_ne (Or.inl (by decide))]
      exact c3 j h1 (by omega)
  · rw [am_u_ne (Or.inl (by decide)), am_u_ne (Or.inr (by decide))]
  · rw [am_u_row _ _ _ _ (by decide), am_u_row _ _ _ _ (by decide)]
  · rw [am_u_ne (Or.inl (by decide)), am_u_ne (Or.inr (by decide))]; exact g1
  · rw [am_u_ne (Or.inl (by decide)), am_u_ne (Or.inr (by decide))]; exact g2
theorem p_beg6 (hR : q_RT G) (h : r_x tb n f0 I0 J0 W 6 T out ts I J) {e : Nat × Nat} (he : yx_E n 0 ts = .inl e) (hw : W.length ≤ 510) (hb : f0 + yx_n out + W.length + 1 ≤ Bd + 5) : q_W β xs L (d + 1) 131 0 [.ref 59] [] (G, I, J) (fun o h => o = .inl none ∧ ∃ I', h = (G, I', J) ∧ r_xe tb n f0 I0 J0 Bd e.1 e.2 I' J) := by
  have c1 : I 59 35 = nI 6 := h.2.2.2.1.1
  obtain ⟨s1, s2, s3, s4, s5, s6, s7, s8⟩ := h.2.1.sort
  have fin : ∀ k, k = 1 ∨ k = 2 → yx_E n 0 ts = .inl (k, yt_pl n ts) → q_W β xs L (d + 1) 131 61 [.ref 59] [.int (nI k), .ref 59] (G, I, J) (fun o h => o = .inl none ∧ ∃ I', h = (G, I', J) ∧ r_xe tb n f0 I0 J0 Bd e.1 e.2 I' J) := fun k hk hx => by
    rw [hx] at he
    cases he
    exact g_131_61 hR _ (q_useV (p_wrongE (β := β) (xs := xs) (L := L) (d := d) hR h (k := k) (by omega)) (by omega) (fun I' h' => ⟨rfl, I', rfl, h'.1.e hw hb⟩))
  have two : ((yt_hd ts).1 = 2 ∨ (yt_hd ts).1 = 5 ∨ (yt_hd ts).1 = 3 ∨ yt_hd ts = (4, 40)) → q_W β xs L (d + 1) 131 56 [.ref 59] [.ref 59] (G, I, J) (fun o h => o = .inl none ∧ ∃ I', h = (G, I', J) ∧ r_xe tb n f0 I0 J0 Bd e.1 e.2 I' J) := fun q => g_131_56 hR (fin 2 (Or.inr rfl) (by
    show (Sum.inl (if _ then 2 else 1, yt_pl n ts) : yx_R) = _
    rw [if_pos q]))
  refine g_131_0 hR ⟨fun _ => ⟨fun z => two ?_, fun z => ⟨fun y => two ?_, fun y => ?_⟩⟩, fun z => ?_⟩
  · rcases s5.mp z with q | q
    · exact Or.inl q
    · exact Or.inr (Or.inl q)
  · exact Or.inr (Or.inr (Or.inl (s4.mp y)))
  · refine q_useI (p_isS1 (β := β) (xs := xs) (L := L) (d := d) hR h.2.1 (c := 40) (by decide)) (Nat.le_refl _) ⟨fun x => fin 1 (Or.inl rfl) ?_, fun x => two (Or.inr (Or.inr (Or.inr (a_is_d1.mp x))))⟩
    show (Sum.inl (if _ then 2 else 1, yt_pl n ts) : yx_R) = _
    rw [if_neg]
    rintro (q | q | q | q)
    · exact z (s5.mpr (Or.inl q))
    · exact z (s5.mpr (Or.inr q))
    · exact y (s4.mpr q)
    · exact a_is_d0.mp x q
  · rw [c1] at z
    exact absurd z (by decide)
end
/-- where the sign loop goes on -/
def r_LK (β : Bool) (xs : Nat → Int32) (L d : Nat) (G : am_G) (f0 : Nat) (Q : am_O → am_H → Prop) (I : a_F) (J : Nat → Nat → Int64) : Prop := ∀ v3 : Value, am_nl v3 = true → q_W β xs L (d + 4) 133 35 [.ref 59, .int (nI f0), .int 1, v3] [] (G, I, J) Q
def r_XL (β : Bool) (xs : Nat → Int32) (L d : Nat) (G : am_G) (tb : Nat → Nat) (n f0 Bd : Nat) (I0 : a_F) (J0 : Nat → Nat → Int64) (Q : am_O → am_H → Prop) (W : List Nat) (dp : Nat) (T : Nat → Bool) (out : yx_C) (ts : yt_L) : Prop := ∀ I J, r_x tb n f0 I0 J0 W dp T out ts I J → r_xb f0 Bd W out ts → r_LK β xs L d G f0 Q I J
def r_XO (β : Bool) (xs : Nat → Int32) (L d : Nat) (G : am_G) (tb : Nat → Nat) (n f0 Bd : Nat) (I0 : a_F) (J0 : Nat → Nat → Int64) (Q : am_O → am_H → Prop) (b : Bool) (k : Nat) (W : List Nat) (dp : Nat) (T : Nat → Bool) (out : yx_C) (ts : yt_L) : Prop := ∀ I J (i1 : Int32) (P : am_O → am_H → Prop), r_x tb n f0 I0 J0 W dp T out ts I J → r_xb f0 Bd W out ts → (∀ I J, r_LK β xs L d G f0 Q I J → P (.inl none) (G, I, J)) → q_W β xs L (d + 3) 132 18 [.ref 59, .int i1, .int (a_is b), .int 1, .int (nI k)] [] (G, I, J) P
def r_XF (β : Bool) (xs : Nat → Int32) (L d : Nat) (G : am_G) (tb : Nat → Nat) (n f0 Bd : Nat) (I0 : a_F) (J0 : Nat → Nat → Int64) (Q : am_O → am_H → Prop) (k p : Nat) : Prop := ∀ I J (v2 : Int32) (v3 : Value), am_nl v3 = true → r_xe tb n f0 I0 J0 Bd k p I J → q_W β xs L (d + 4) 133 374 [.ref 59, .int (nI f0), .int v2, v3] [] (G, I, J) Q
def r_XE (G : am_G) (tb : Nat → Nat) (n f0 : Nat) (I0 : a_F) (J0 : Nat → Nat → Int64) (Q : am_O → am_H → Prop) (c : yx_C) (r : yt_L) : Prop := ∀ I J W T, r_x tb n f0 I0 J0 W 1 T c r I J → f0 + yx_n c < 14600 → Q (.inl (some (.int (nI f0)))) (G, am_u (am_u I 86 (f0 + yx_n c) 0) 59 33 (nI (f0 + yx_n c + 1)), J)
section
variable {I : a_F} {J : Nat → Nat → Int64} {W : List Nat} {dp : Nat} {T : Nat → Bool} {out : yx_C} {ts : yt_L} {Q : am_O → am_H → Prop}
/-- a fault, at the sign loop -/
theorem p_lkE {k p : Nat} (hR : q_RT G) (hF : r_XF β xs L d G tb n f0 Bd I0 J0 Q k p) (h : r_xe tb n f0 I0 J0 Bd k p I J) : r_LK β xs L d G f0 Q I J := fun v3 n3 => by
  refine g_133_35 hR _ _ _ n3 ⟨fun q => absurd q (by decide), fun _ => ?_⟩
  refine q_useI (p_isG0 (β := β) (xs := xs) (L := L) (I := I) (J := J) (d := d) hR h.n0) (by omega) ⟨fun _ => ?_, fun q => absurd rfl q⟩
  exact g_133_354 hR _ _ _ n3 (q_useI (p_isG0 (β := β) (xs := xs) (L := L) (I := I) (J := J) (d := d) hR h.n0) (by omega) ⟨fun _ => hF I J _ _ n3 h, fun q => absurd rfl q⟩)
/-- a fault, within an operand -/
theorem p_opE120 {P : am_O → am_H → Prop} (hR : q_RT G) (h : ¬ I 59 21 = 0) (hP : P (.inl none) (G, I, J)) (i1 i2 i3 : Int32) (v4 : Value) (n4 : am_nl v4 = true) : q_W β xs L (d + 3) 132 120 [.ref 59, .int i1, .int i2, .int i3, v4] [] (G, I, J) P := by
  refine g_132_120 hR _ _ _ _ n4 ?_
  exact g_130_0 hR (q_useI (p_isG0 (β := β) (xs := xs) (L := L) (I := I) (J := J) (d := d) hR h) (by omega) ⟨fun q => absurd rfl q, fun _ => hP⟩)
theorem p_opE4 {P : am_O → am_H → Prop} (hR : q_RT G) (h : ¬ I 59 21 = 0) (hP : P (.inl none) (G, I, J)) (i1 i2 i3 : Int32) (v4 : Value) (n4 : am_nl v4 = true) : q_W β xs L (d + 3) 132 4 [.ref 59, .int i1, .int i2, .int i3, v4] [] (G, I, J) P :=
  g_132_4 hR _ _ _ _ n4 ⟨fun _ => p_opE120 hR h hP _ _ _ _ n4, fun _ => q_useI (p_isG0 (β := β) (xs := xs) (L := L) (I := I) (J := J) (d := d) hR h) (by omega) ⟨fun _ => p_opE120 hR h hP _ _ _ _ n4, fun q => absurd rfl q⟩⟩
theorem p_opE18 {P : am_O → am_H → Prop} (hR : q_RT G) (h : ¬ I 59 21 = 0) (hP : P (.inl none) (G, I, J)) (i1 i2 i3 i4 : Int32) : q_W β xs L (d + 3) 132 18 [.ref 59, .int i1, .int i2, .int i3, .int i4] [] (G, I, J) P := by
  refine g_132_18 hR _ _ _ _ (q_useI (p_isG0 (β := β) (xs := xs) (L := L) (I := I) (J := J) (d := d) hR h) (by omega) ⟨fun _ => ?_, fun q => absurd rfl q⟩)
  refine g_132_75 hR _ _ _ _ (q_useI (p_isG0 (β := β) (xs := xs) (L := L) (I := I) (J := J) (d := d) hR h) (by omega) ⟨fun _ => ?_, fun q => absurd rfl q⟩)
  exact g_132_95 hR _ _ _ _ (g_132_96 hR _ _ _ _ _ ⟨fun _ => g_132_117 hR _ _ _ _ (p_opE4 hR h hP _ _ _ _ rfl), fun q => absurd rfl q⟩)
/-- no 'not' here -/
theorem p_op75 {b : Bool} {k : Nat} {i1 : Int32} {P : am_O → am_H → Prop} (hR : q_RT G) (h : r_x tb n f0 I0 J0 W dp T out ts I J) (hb : b = true → yt_hd ts ≠ (3, 7)) (H : q_W β xs L (d + 3) 132 75 [.ref 59, .int i1, .int (a_is b), .int 1, .int (nI k)] [] (G, I, J) P) : q_W β xs L (d + 3) 132 18 [.ref 59, .int i1, .int (a_is b), .int 1, .int (nI k)] [] (G, I, J) P := by
  refine g_132_18 hR _ _ _ _ (q_useI (p_isG1 (β := β) (xs := xs) (L := L) (I := I) (J := J) (d := d) hR h.2.2.2.2.2.1) (by omega) ⟨fun q => absurd q (by decide), fun _ => ⟨fun _ => H, fun z => ?_⟩⟩)
  refine q_useI (p_kno1 (β := β) (xs := xs) (L := L) (d := d) hR h.2.1) (by omega) ⟨fun _ => H, fun y => ?_⟩
  exact absurd ((yt_kno_eq (w := 7) (by decide) (r := 7) rfl).mp y) (hb (a_is_n0.mp z))
/-- behind the nots: a parenthesis -/
theorem p_op40 {b : Bool} {k : Nat} {i1 : Int32} {P : am_O → am_H → Prop} (hR : q_RT G) (h : r_x tb n f0 I0 J0 W dp T out ts I J) (h40 : yt_hd ts = (4, 40)) (hw : W.length < 520) (H : ∀ I' J', r_x tb n f0 I0 J0 (12 :: W) dp T out ts.tail I' J' → q_W β xs L (d + 2) 131 0 [.ref 59] [] (G, I', J') (q_Rv (fun G3 I3 J3 => q_W β xs L (d + 3) 132 117 [.ref 59, .int i1, .int 1, .int 1, .int (nI k)] [] (G3, I3, J3) P) (fun x3 G3 I3 J3 => P (.inr x3) (G3, I3, J3)))) : q_W β xs L (d + 3) 132 18 [.ref 59, .int i1, .int (a_is b), .int 1, .int (nI k)] [] (G, I, J) P := by
  refine p_op75 hR h (fun _ q => by rw [h40] at q; cases q) ?_
  refine g_132_75 hR _ _ _ _ (q_useI (p_isG1 (β := β) (xs := xs) (L := L) (I := I) (J := J) (d := d) hR h.2.2.2.2.2.1) (by omega) ⟨fun q => absurd q (by decide), fun _ => ?_⟩)
  refine q_useI (p_isS1 (β := β) (xs := xs) (L := L) (d := d) hR h.2.1 (c := 40) (by decide)) (by omega) ⟨fun q => absurd h40 (a_is_d0.mp q), fun _ => ?_⟩
  refine g_132_96 hR _ _ _ _ _ ⟨fun q => absurd q (by decide), fun _ => ?_⟩
  refine q_useV (p_waitX (β := β) (xs := xs) (L := L) (d := d) hR h hw (o := 12) (by decide)) (by omega) (fun I1 h1 => ?_)
  refine q_useRv (p_goX (β := β) (xs := xs) (L := L) (d := d) hR h1) (by omega) (fun o h' Pq => ?_)
  obtain ⟨rfl, I2, J2, rfl, h2⟩ := Pq
  exact H I2 J2 h2
end
end Rpar2

/-! ===== the reference's parser: the pile's rules hold ===== -/
theorem yx_oP_of {t : yt_T} (h : yx_oP t ≠ 0) : (t = (4, 42) ∧ yx_oP t = 10) ∨ (t = (4, 47) ∧ yx_oP t = 11) := by
  unfold yx_oP at h ⊢
  by_cases h1 : t = (4, 42)
  · exact Or.inl ⟨h1, if_pos h1⟩
  · rw [if_neg h1] at h ⊢
    by_cases h2 : t = (4, 47)
    · exact Or.inr ⟨h2, if_pos h2⟩
    · rw [if_neg h2] at h
      exact absurd rfl h
theorem yx_oS_of {t : yt_T} (h : yx_oS t ≠ 0) : (t = (4, 43) ∧ yx_oS t = 8) ∨ (t = (4, 45) ∧ yx_oS t = 9) := by
  unfold yx_oS at h ⊢
  by_cases h1 : t = (4, 43)
  · exact Or.inl ⟨h1, if_pos h1⟩
  · rw [if_neg h1] at h ⊢
    by_cases h2 : t = (4, 45)
    · exact Or.inr ⟨h2, if_pos h2⟩
    · rw [if_neg h2] at h
      exact absurd rfl h
theorem yx_oC_of {t : yt_T} (h : yx_oC t ≠ 0) : (t = (4, 60) ∧ yx_oC t = 6) ∨ (t = (4, 61) ∧ yx_oC t = 7) := by
  unfold yx_oC at h ⊢
  by_cases h1 : t = (4, 60)
  · exact Or.inl ⟨h1, if_pos h1⟩
  · rw [if_neg h1] at h ⊢
    by_cases h2 : t = (4, 61)
    · exact Or.inr ⟨h2, if_pos h2⟩
    · rw [if_neg h2] at h
      exact absurd rfl h
theorem yx_oB_of {t : yt_T} (h : yx_oB t ≠ 0) : t = (3, 6) ∧ yx_oB t = 4 := by
  unfold yx_oB at h ⊢
  by_cases h1 : t = (3, 6)
  · exact ⟨h1, if_pos h1⟩
  · rw [if_neg h1] at h
    exact absurd rfl h
theorem yx_oE_of {t : yt_T} (h : yx_oE t ≠ 0) : t = (3, 5) ∧ yx_oE t = 5 := by
  unfold yx_oE at h ⊢
  by_cases h1 : t = (3, 5)
  · exact ⟨h1, if_pos h1⟩
  · rw [if_neg h1] at h
    exact absurd rfl h
theorem yx_ex_no {t : yt_T} (h : yx_ex t) : ¬ t = (4, 42) ∧ ¬ t = (4, 47) ∧ ¬ t = (4, 43) ∧ ¬ t = (4, 45) ∧ ¬ t = (3, 6) ∧ ¬ t = (3, 5) := by
  obtain ⟨h1, h2, h3, h4⟩ := h
  refine ⟨fun q => ?_, fun q => ?_, fun q => ?_, fun q => ?_, fun q => ?_, fun q => ?_⟩
  · rw [q] at h1; cases h1
  · rw [q] at h1; cases h1
  · rw [q] at h2; cases h2
  · rw [q] at h2; cases h2
  · rw [q] at h3; cases h3
  · rw [q] at h4; cases h4
theorem yx_drop_n {least : Nat} : ∀ (W : List Nat) (out : yx_C), (∀ o ∈ W, 3 ≤ o ∧ o ≤ 12) → yx_n (yx_drop least W out).2 + (yx_drop least W out).1.length = yx_n out + W.length ∧ (yx_drop least W out).1.length ≤ W.length
  | [], out, _ => ⟨rfl, Nat.le_refl _⟩
  | o :: W, out, h => by
    have ed : yx_drop least (o :: W) out = if o = 12 ∨ yx_str o < least then (o :: W, out) else yx_drop least W (out ++ [(nI o, 0)]) := rfl
    rw [ed]
    by_cases hc : o = 12 ∨ yx_str o < least
    · rw [if_pos hc]
      exact ⟨rfl, Nat.le_refl _⟩
    · rw [if_neg hc]
      obtain ⟨a, b⟩ := yx_drop_n (least := least) W (out ++ [(nI o, 0)]) (fun x hx => h x (by simp [hx]))
      rw [yx_n_app, yx_n_op (h o (by simp))] at a
      simp only [List.length_cons]
      exact ⟨by omega, by omega⟩
theorem yx_part_n {n : Nat} {E : yt_L → yx_R} {ts r : yt_L} {c : yx_C} (h40 : yt_hd ts ≠ (4, 40)) (e : yx_part n E ts = .inr (c, r)) : yx_n c = 2 ∧ ts.tail.length + 1 = ts.length := by
  unfold yx_part at e
  rw [if_neg h40] at e
  by_cases h2 : (yt_hd ts).1 = 3
  · rw [if_pos h2] at e
    by_cases h3 : 15 ≤ (yt_hd ts).2 ∧ (yt_hd ts).2 < 28
    · rw [if_pos h3] at e
      rw [← (Prod.mk.inj (Sum.inr.inj e)).1]
      exact ⟨yx_n2 (Or.inr rfl), yt_tl_len rfl (by rw [h2]; decide)⟩
    · rw [if_neg h3] at e
      cases e
  · rw [if_neg h2] at e
    by_cases h3 : (yt_hd ts).1 = 2
    · rw [if_pos h3] at e
      rw [← (Prod.mk.inj (Sum.inr.inj e)).1]
      exact ⟨yx_n2 (Or.inl rfl), yt_tl_len rfl (by rw [h3]; decide)⟩
    · rw [if_neg h3] at e
      cases e
section Rpar3
variable {β : Bool} {xs : Nat → Int32} {L : Nat} {G : am_G} {d : Nat} {tb : Nat → Nat} {n f0 Bd : Nat} {I0 : a_F} {J0 : Nat → Nat → Int64} {I : a_F} {J : Nat → Nat → Int64} {W : List Nat} {dp : Nat} {T : Nat → Bool} {out : yx_C} {ts : yt_L} {Q : am_O → am_H → Prop}
theorem r_x.tst (h : r_x tb n f0 I0 J0 W dp T out ts I J) (b : Bool) : r_x tb n f0 I0 J0 W dp (yx_tu T dp b) out ts (am_u I 88 dp (a_is b)) J := by
  obtain ⟨⟨f1, f2⟩, a, b1, ⟨c1, c2, c3⟩, e, g1, g2⟩ := h
  refine ⟨⟨f1.up _ rfl, f2⟩, a.keep (fun i h1 h2 => am_u_ne (Or.inl (by decide))) (am_u_row _ _ _ _ (by decide)), b1.keep (am_u_ne (Or.inl (by decide))) (am_u_row _ _ _ _ (by decide)), ⟨(am_u_ne (Or.inl (by decide))).trans c1, c2, fun j h1 h2 => ?_⟩, e.keep (am_u_ne (Or.inl (by decide))) (am_u_row _ _ _ _ (by decide)), (am_u_ne (Or.inl (by decide))).trans g1, (am_u_ne (Or.inl (by decide))).trans g2⟩
  unfold yx_tu
  by_cases hj : j = dp
  · rw [if_pos hj, hj, am_u_same]
  · rw [if_neg hj, am_u_ne (Or.inr hj)]
    exact c3 j h1 h2
/-- a call of operand() -/
theorem p_oper {b : Bool} (hR : q_RT G) (hO : r_XO β xs L d G tb n f0 Bd I0 J0 Q b 0 W dp T out ts) (h : r_x tb n f0 I0 J0 W dp T out ts I J) (hb : r_xb f0 Bd W out ts) {P : am_O → am_H → Prop} (hP : ∀ I J, r_LK β xs L d G f0 Q I J → P (.inl none) (G, I, J)) : q_W β xs L (d + 3) 132 0 [.ref 59, .int (a_is b), .retAddr 0, .retAddr 0, .retAddr 0] [] (G, I, J) P := by
  refine g_132_0 hR _ (g_132_4 hR _ _ _ _ rfl ⟨fun q => absurd q (by decide), fun _ => ?_⟩)
  exact q_useI (p_isG1 (β := β) (xs := xs) (L := L) (I := I) (J := J) (d := d) hR h.2.2.2.2.2.1) (by omega) ⟨fun q => absurd q (by decide), fun _ => hO I J _ P h hb hP⟩
/-- what follows an operand within the sign loop -/
theorem p_ret (hR : q_RT G) {i3 : Int32} {E : Nat → am_G → (Nat → Nat → Int32) → (Nat → Nat → Int64) → Prop} : ∀ I J, r_LK β xs L d G f0 Q I J → q_Rv (fun G3 I3 J3 => q_W β xs L (d + 4) 133 351 [.ref 59, .int (nI f0), .int 1, .int i3] [] (G3, I3, J3) Q) E (.inl none) (G, I, J) := fun I J h => g_133_351 hR _ _ _ (h _ rfl)
/-- at the sign loop -/
theorem p_l35 (hR : q_RT G) (h : r_x tb n f0 I0 J0 W dp T out ts I J) (HA : yt_hd ts = (3, 6) ∨ yt_hd ts = (3, 5) → q_W β xs L (d + 4) 133 62 [.ref 59, .int (nI f0), .int 1, .int (yt_kno (yt_hd ts))] [] (G, I, J) Q) (HC : yt_hd ts = (4, 60) ∨ yt_hd ts = (4, 61) → q_W β xs L (d + 4) 133 130 [.ref 59, .int (nI f0), .int 1, .int (yt_kno (yt_hd ts))] [] (G, I, J) Q)
    (H9 : ¬ yt_hd ts = (3, 6) → ¬ yt_hd ts = (3, 5) → ¬ yt_hd ts = (4, 60) → ¬ yt_hd ts = (4, 61) → q_W β xs L (d + 4) 133 189 [.ref 59, .int (nI f0), .int 1, .int (yt_kno (yt_hd ts))] [] (G, I, J) Q) : r_LK β xs L d G f0 Q I J := fun v3 n3 => by
  have k6 := yt_kno_eq (t := yt_hd ts) (w := 6) (by decide) (r := 5) rfl
  have k5 := yt_kno_eq (t := yt_hd ts) (w := 5) (by decide) (r := 6) rfl
  refine g_133_35 hR _ _ _ n3 ⟨fun q => absurd q (by decide), fun _ => ?_⟩
  refine q_useI (p_isG1 (β := β) (xs := xs) (L := L) (I := I) (J := J) (d := d) hR h.2.2.2.2.2.1) (by omega) ⟨fun q => absurd q (by decide), fun _ => ?_⟩
  refine q_useI (p_kno1 (β := β) (xs := xs) (L := L) (d := d) hR h.2.1) (by omega) ⟨fun z => HA (Or.inl (k6.mp z)), fun z => ⟨fun y => ?_, fun y => HA (Or.inr (k5.mp y))⟩⟩
  refine q_useI (p_isS1 (β := β) (xs := xs) (L := L) (d := d) hR h.2.1 (c := 60) (by decide)) (by omega) ⟨fun x => HC (Or.inl (a_is_d1.mp x)), fun x => ?_⟩
  refine q_useI (p_isS1 (β := β) (xs := xs) (L := L) (d := d) hR h.2.1 (c := 61) (by decide)) (by omega) ⟨fun u => ?_, fun u => HC (Or.inr (a_is_d1.mp u))⟩
  exact H9 (fun q => z (k6.mpr q)) (fun q => y (k5.mpr q)) (a_is_d0.mp x) (a_is_d0.mp u)
theorem p_l189 {i3 : Int32} (hR : q_RT G) (h : r_x tb n f0 I0 J0 W dp T out ts I J) (HS : yt_hd ts = (4, 43) ∨ yt_hd ts = (4, 45) → q_W β xs L (d + 4) 133 207 [.ref 59, .int (nI f0), .int 1, .int i3] [] (G, I, J) Q) (HP : yt_hd ts = (4, 42) ∨ yt_hd ts = (4, 47) → q_W β xs L (d + 4) 133 262 [.ref 59, .int (nI f0), .int 1, .int i3] [] (G, I, J) Q)
    (HZ : yt_hd ts = (4, 41) → 1 < dp → q_W β xs L (d + 3) 128 0 [.ref 59, .int 0] [] (G, I, J) (q_Rv (fun G6 I6 J6 => q_W β xs L (d + 3) 119 0 [.ref 59, .retAddr 0] [] (G6, am_u (am_u I6 59 34 (I6 59 34 - 1)) 59 35 (I6 59 35 - 1), J6) (q_Rv (fun G7 I7 J7 => q_W β xs L (d + 4) 133 351 [.ref 59, .int (nI f0), .int 1, .int i3] [] (G7, I7, J7) Q) (fun x7 G7 I7 J7 => Q (.inr x7) (G7, I7, J7)))) (fun x6 G6 I6 J6 => Q (.inr x6) (G6, I6, J6))))
    (HX : ¬ yt_hd ts = (4, 43) → ¬ yt_hd ts = (4, 45) → ¬ yt_hd ts = (4, 42) → ¬ yt_hd ts = (4, 47) → ¬ (yt_hd ts = (4, 41) ∧ 1 < dp) → q_W β xs L (d + 4) 133 349 [.ref 59, .int (nI f0), .int 1, .int i3] [] (G, I, J) Q) : q_W β xs L (d + 4) 133 189 [.ref 59, .int (nI f0), .int 1, .int i3] [] (G, I, J) Q := by
  have c1 : I 59 35 = nI dp := h.2.2.2.1.1
  have c6 := h.2.2.2.1.2.1
  refine g_133_189 hR _ _ _ ?_
  refine q_useI (p_isS1 (β := β) (xs := xs) (L := L) (d := d) hR h.2.1 (c := 43) (by decide)) (by omega) ⟨fun z => HS (Or.inl (a_is_d1.mp z)), fun z1 => ?_⟩
  refine q_useI (p_isS1 (β := β) (xs := xs) (L := L) (d := d) hR h.2.1 (c := 45) (by decide)) (by omega) ⟨fun z2 => ?_, fun z => HS (Or.inr (a_is_d1.mp z))⟩
  refine q_useI (p_isS1 (β := β) (xs := xs) (L := L) (d := d) hR h.2.1 (c := 42) (by decide)) (by omega) ⟨fun z => HP (Or.inl (a_is_d1.mp z)), fun z3 => ?_⟩
  refine q_useI (p_isS1 (β := β) (xs := xs) (L := L) (d := d) hR h.2.1 (c := 47) (by decide)) (by omega) ⟨fun z4 => ?_, fun z => HP (Or.inr (a_is_d1.mp z))⟩
  have lt : (1 : Int32) < nI dp ↔ 1 < dp := nI_ltI (a := 1) (by omega) (by omega)
  refine q_useI (p_isS1 (β := β) (xs := xs) (L := L) (d := d) hR h.2.1 (c := 41) (by decide)) (by omega) ⟨fun z5 => ?_, fun z5 => ?_⟩
  · exact HX (a_is_d0.mp z1) (a_is_d0.mp z2) (a_is_d0.mp z3) (a_is_d0.mp z4) (fun q => a_is_d0.mp z5 q.1)
  · rw [c1, lt]
    exact ⟨fun y => HX (a_is_d0.mp z1) (a_is_d0.mp z2) (a_is_d0.mp z3) (a_is_d0.mp z4) (fun q => y q.2), fun y => HZ (a_is_d1.mp z5) y⟩
/-- the loop ends -/
theorem p_l349 {i3 : Int32} (hR : q_RT G) (H : ∀ v2, q_W β xs L (d + 4) 133 354 [.ref 59, .int (nI f0), .int v2, .int i3] [] (G, I, J) Q) : q_W β xs L (d + 4) 133 349 [.ref 59, .int (nI f0), .int 1, .int i3] [] (G, I, J) Q :=
  g_133_349 hR _ _ _ (g_133_351 hR _ _ _ (g_133_35 hR _ _ _ rfl ⟨fun _ => H 0, fun q => absurd rfl q⟩))
/-- drops(), then a sign waits -/
theorem p_dropW {least o : Nat} (hR : q_RT G) (h : r_x tb n f0 I0 J0 W dp T out ts I J) (hb : r_xb f0 Bd W out ts) (hl : least ≤ 6) : q_W β xs L (d + 1) 128 0 [.ref 59, .int (nI least)] [] (G, I, J) (fun o' h => o' = .inl none ∧ ∃ I', h = (G, I', J) ∧ r_x tb n f0 I0 J0 (yx_drop least W out).1 dp T (yx_drop least W out).2 ts I' J) := by
  obtain ⟨b1, b2, b3⟩ := hb
  exact p_dropX hR hl W out I h (by omega) (by omega)
theorem r_xb.dropW {least o : Nat} (h : r_x tb n f0 I0 J0 W dp T out ts I J) (hb : r_xb f0 Bd W out ts) {t : yt_T} (ht : yt_hd ts = t) (h0 : t.1 ≠ 0) : r_xb f0 Bd (o :: (yx_drop least W out).1) (yx_drop least W out).2 ts.tail ∧ (yx_drop least W out).1.length < 520 := by
  obtain ⟨b1, b2, b3⟩ := hb
  obtain ⟨k1, k2⟩ := yx_drop_n (least := least) W out h.2.2.1.2.2
  have l1 := yt_tl_len ht h0
  refine ⟨⟨?_, ?_, b3⟩, by omega⟩
  · simp only [List.length_cons]
    omega
  · simp only [List.length_cons]
    omega
theorem p_ru (hR : q_RT G) : yx_ru n (r_XL β xs L d G tb n f0 Bd I0 J0 Q) (r_XO β xs L d G tb n f0 Bd I0 J0 Q) (r_XF β xs L d G tb n f0 Bd I0 J0 Q) (r_XE G tb n f0 I0 J0 Q) := by
  refine ⟨?_, ?_, ?_, ?_, ?_, ?_, ?_, ?_, ?_, ?_, ?_, ?_, ?_, ?_⟩
  · -- or
    intro W dp T out ts hop hO I J h hb
    obtain ⟨ht, ho⟩ := yx_oE_of hop
    rw [ho] at hO
    have ek : yt_kno (yt_hd ts) = 6 := (yt_kno_eq (w := 5) (by decide) (r := 6) rfl).mpr ht
    obtain ⟨nb, nw⟩ := hb.dropW (least := 1) (o := 5) h ht (by decide)
    refine p_l35 hR h (fun _ => ?_) (fun q => by rw [ht] at q; rcases q with q | q <;> cases q) (fun _ q => absurd ht q)
    rw [ek]
    refine g_133_62 hR _ _ _ ⟨fun _ => g_133_73 hR _ _ _ _ ?_, fun q => absurd q (by decide)⟩
    refine q_useV (p_dropW (β := β) (xs := xs) (L := L) (d := d) (o := 5) hR h hb (least := 1) (by decide)) (by omega) (fun I1 h1 => ⟨fun _ => g_133_87 hR _ _ _ _ ?_, fun q => absurd q (by decide)⟩)
    refine q_useV (p_waitX (β := β) (xs := xs) (L := L) (d := d) hR h1 nw (o := 5) (by decide)) (by omega) (fun I2 h2 => ⟨hR, ?_⟩)
    have e35 : I2 59 35 = nI dp := h2.2.2.2.1.1
    have e6 := h2.2.2.2.1.2.1
    rw [e35, vp_b0, show (nI dp).toNatClampNeg = dp from nI_clamp (by omega)]
    refine ⟨am_is_nI (by omega) (by omega), ?_⟩
    refine q_useRv (p_goX (β := β) (xs := xs) (L := L) (d := d) hR (h2.tst false)) (by omega) (fun o h' P => ?_)
    obtain ⟨rfl, I3, J3, rfl, h3⟩ := P
    exact p_oper hR hO h3 nb (p_ret hR)
  · -- and
    intro W dp T out ts hop hO I J h hb
    obtain ⟨ht, ho⟩ := yx_oB_of hop
    rw [ho] at hO
    have ek : yt_kno (yt_hd ts) = 5 := (yt_kno_eq (w := 6) (by decide) (r := 5) rfl).mpr ht
    obtain ⟨nb, nw⟩ := hb.dropW (least := 2) (o := 4) h ht (by decide)
    refine p_l35 hR h (fun _ => ?_) (fun q => by rw [ht] at q; rcases q with q | q <;> cases q) (fun q => absurd ht q)
    rw [ek]
    refine g_133_62 hR _ _ _ ⟨fun q => absurd rfl q, fun _ => g_133_73 hR _ _ _ _ ?_⟩
    refine q_useV (p_dropW (β := β) (xs := xs) (L := L) (d := d) (o := 4) hR h hb (least := 2) (by decide)) (by omega) (fun I1 h1 => ⟨fun q => absurd rfl q, fun _ => g_133_87 hR _ _ _ _ ?_⟩)
    refine q_useV (p_waitX (β := β) (xs := xs) (L := L) (d := d) hR h1 nw (o := 4) (by decide)) (by omega) (fun I2 h2 => ⟨hR, ?_⟩)
    have e35 : I2 59 35 = nI dp := h2.2.2.2.1.1
    have e6 := h2.2.2.2.1.2.1
    rw [e35, vp_b0, show (nI dp).toNatClampNeg = dp from nI_clamp (by omega)]
    refine ⟨am_is_nI (by omega) (by omega), ?_⟩
    refine q_useRv (p_goX (β := β) (xs := xs) (L := L) (d := d) hR (h2.tst false)) (by omega) (fun o h' P => ?_)
    obtain ⟨rfl, I3, J3, rfl, h3⟩ := P
    exact p_oper hR hO h3 nb (p_ret hR)
  · -- < =
    intro W dp T out ts hop hT hO I J h hb
    have hcd := h.2.2.2.1
    have e35 : I 59 35 = nI dp := hcd.1
    have e6 := hcd.2.1
    have e88 : I 88 dp = 0 := by rw [hcd.2.2 dp e6.1 (Nat.le_refl _), hT]; rfl
    have go : ∀ c o, (c = 60 ∧ o = 6) ∨ (c = 61 ∧ o = 7) → yt_hd ts = (4, c) → yx_oC (yt_hd ts) = o → q_W β xs L (d + 4) 133 130 [.ref 59, .int (nI f0), .int 1, .int (yt_kno (yt_hd ts))] [] (G, I, J) Q := fun c o hco ht ho => by
      rw [ho] at hO
      obtain ⟨nb, nw⟩ := hb.dropW (least := 4) (o := o) h ht (show ¬ (4 : Nat) = 0 by decide)
      refine g_133_130 hR _ _ _ ?_
      rw [e35, show (nI dp).toNatClampNeg = dp from nI_clamp (by omega), e88]
      refine ⟨am_is_nI (by omega) (by omega), fun q => absurd rfl q, fun _ => ?_⟩
      refine q_useV (p_dropW (β := β) (xs := xs) (L := L) (d := d) (o := o) hR h hb (least := 4) (by decide)) (by omega) (fun I1 h1 => ?_)
      have at164 : q_W β xs L (d + 4) 133 164 [.ref 59, .int (nI f0), .int 1, .int (yt_kno (yt_hd ts))] [.int (nI o), .ref 59] (G, I1, J) Q := by
        refine g_133_164 hR _ _ _ _ ?_
        refine q_useV (p_waitX (β := β) (xs := xs) (L := L) (d := d) hR h1 nw (o := o) (by omega)) (by omega) (fun I2 h2 => ⟨hR, ?_⟩)
        have e35 : I2 59 35 = nI dp := h2.2.2.2.1.1
        rw [e35, vp_b1, show (nI dp).toNatClampNeg = dp from nI_clamp (by omega)]
        refine ⟨am_is_nI (by omega) (by omega), ?_⟩
        refine q_useRv (p_goX (β := β) (xs := xs) (L := L) (d := d) hR (h2.tst true)) (by omega) (fun o h' P => ?_)
        obtain ⟨rfl, I3, J3, rfl, h3⟩ := P
        exact p_oper (b := false) hR hO h3 nb (p_ret hR)
      refine q_useI (p_isS1 (β := β) (xs := xs) (L := L) (d := d) hR h1.2.1 (c := 60) (by decide)) (by omega) ⟨fun z => ?_, fun z => ?_⟩
      · rcases hco with ⟨rfl, rfl⟩ | ⟨rfl, rfl⟩
        · exact absurd ht (a_is_d0.mp z)
        · exact at164
      · rcases hco with ⟨rfl, rfl⟩ | ⟨rfl, rfl⟩
        · exact at164
        · have := a_is_d1.mp z
          rw [ht] at this
          cases this
    refine p_l35 hR h (fun q => ?_) (fun _ => ?_) (fun _ _ q1 q2 => ?_)
    · rcases yx_oC_of hop with ⟨ht, -⟩ | ⟨ht, -⟩ <;> rw [ht] at q <;> rcases q with q | q <;> cases q
    · rcases yx_oC_of hop with ⟨ht, ho⟩ | ⟨ht, ho⟩
      · exact go 60 6 (Or.inl ⟨rfl, rfl⟩) ht ho
      · exact go 61 7 (Or.inr ⟨rfl, rfl⟩) ht ho
    · rcases yx_oC_of hop with ⟨ht, ho⟩ | ⟨ht, ho⟩
      · exact absurd ht q1
      · exact absurd ht q2
  · -- + -
    intro W dp T out ts hop hO I J h hb
    have go : ∀ c o, (c = 43 ∧ o = 8) ∨ (c = 45 ∧ o = 9) → yt_hd ts = (4, c) → yx_oS (yt_hd ts) = o → q_W β xs L (d + 4) 133 207 [.ref 59, .int (nI f0), .int 1, .int (yt_kno (yt_hd ts))] [] (G, I, J) Q := fun c o hco ht ho => by
      rw [ho] at hO
      obtain ⟨nb, nw⟩ := hb.dropW (least := 5) (o := o) h ht (show ¬ (4 : Nat) = 0 by decide)
      refine g_133_207 hR _ _ _ ?_
      refine q_useV (p_dropW (β := β) (xs := xs) (L := L) (d := d) (o := o) hR h hb (least := 5) (by decide)) (by omega) (fun I1 h1 => ?_)
      have at229 : q_W β xs L (d + 4) 133 229 [.ref 59, .int (nI f0), .int 1, .int (yt_kno (yt_hd ts))] [.int (nI o), .ref 59] (G, I1, J) Q := by
        refine g_133_229 hR _ _ _ _ ?_
        refine q_useV (p_waitX (β := β) (xs := xs) (L := L) (d := d) hR h1 nw (o := o) (by omega)) (by omega) (fun I2 h2 => ?_)
        refine q_useRv (p_goX (β := β) (xs := xs) (L := L) (d := d) hR h2) (by omega) (fun o h' P => ?_)
        obtain ⟨rfl, I3, J3, rfl, h3⟩ := P
        exact p_oper (b := false) hR hO h3 nb (p_ret hR)
      refine q_useI (p_isS1 (β := β) (xs := xs) (L := L) (d := d) hR h1.2.1 (c := 43) (by decide)) (by omega) ⟨fun z => ?_, fun z => ?_⟩
      · rcases hco with ⟨rfl, rfl⟩ | ⟨rfl, rfl⟩
        · exact absurd ht (a_is_d0.mp z)
        · exact at229
      · rcases hco with ⟨rfl, rfl⟩ | ⟨rfl, rfl⟩
        · exact at229
        · have := a_is_d1.mp z
          rw [ht] at this
          cases this
    have hh : q_W β xs L (d + 4) 133 207 [.ref 59, .int (nI f0), .int 1, .int (yt_kno (yt_hd ts))] [] (G, I, J) Q := by
      rcases yx_oS_of hop with ⟨ht, ho⟩ | ⟨ht, ho⟩
      · exact go 43 8 (Or.inl ⟨rfl, rfl⟩) ht ho
      · exact go 45 9 (Or.inr ⟨rfl, rfl⟩) ht ho
    have ht : yt_hd ts = (4, 43) ∨ yt_hd ts = (4, 45) := by
      rcases yx_oS_of hop with ⟨ht, ho⟩ | ⟨ht, ho⟩
      · exact Or.inl ht
      · exact Or.inr ht
    refine p_l35 hR h (fun q => ?_) (fun q => ?_) (fun _ _ _ _ => p_l189 hR h (fun _ => hh) (fun q => ?_) (fun q => ?_) (fun q1 q2 => ?_))
    · rcases ht with ht | ht <;> rw [ht] at q <;> rcases q with q | q <;> cases q
    · rcases ht with ht | ht <;> rw [ht] at q <;> rcases q with q | q <;> cases q
    · rcases ht with ht | ht <;> rw [ht] at q <;> rcases q with q | q <;> cases q
    · rcases ht with ht | ht <;> rw [ht] at q <;> cases q
    · rcases ht with ht | ht
      · exact absurd ht q1
      · exact absurd ht q2
  · -- * /
    intro W dp T out ts hop hO I J h hb
    have go : ∀ c o, (c = 42 ∧ o = 10) ∨ (c = 47 ∧ o = 11) → yt_hd ts = (4, c) → yx_oP (yt_hd ts) = o → q_W β xs L (d + 4) 133 262 [.ref 59, .int (nI f0), .int 1, .int (yt_kno (yt_hd ts))] [] (G, I, J) Q := fun c o hco ht ho => by
      rw [ho] at hO
      obtain ⟨nb, nw⟩ := hb.dropW (least := 6) (o := o) h ht (show ¬ (4 : Nat) = 0 by decide)
      refine g_133_262 hR _ _ _ ?_
      refine q_useV (p_dropW (β := β) (xs := xs) (L := L) (d := d) (o := o) hR h hb (least := 6) (by decide)) (by omega) (fun I1 h1 => ?_)
      have at285 : q_W β xs L (d + 4) 133 285 [.ref 59, .int (nI f0), .int 1, .int (yt_kno (yt_hd ts))] [.int (nI o), .ref 59] (G, I1, J) Q := by
        refine g_133_285 hR _ _ _ _ ?_
        refine q_useV (p_waitX (β := β) (xs := xs) (L := L) (d := d) hR h1 nw (o := o) (by omega)) (by omega) (fun I2 h2 => ?_)
        refine q_useRv (p_goX (β := β) (xs := xs) (L := L) (d := d) hR h2) (by omega) (fun o h' P => ?_)
        obtain ⟨rfl, I3, J3, rfl, h3⟩ := P
        exact p_oper (b := false) hR hO h3 nb (p_ret hR)
      refine q_useI (p_isS1 (β := β) (xs := xs) (L := L) (d := d) hR h1.2.1 (c := 42) (by decide)) (by omega) ⟨fun z => ?_, fun z => ?_⟩
      · rcases hco with ⟨rfl, rfl⟩ | ⟨rfl, rfl⟩
        · exact absurd ht (a_is_d0.mp z)
        · exact at285
      · rcases hco with ⟨rfl, rfl⟩ | ⟨rfl, rfl⟩
        · exact at285
        · have := a_is_d1.mp z
          rw [ht] at this
          cases this
    have hh : q_W β xs L (d + 4) 133 262 [.ref 59, .int (nI f0), .int 1, .int (yt_kno (yt_hd ts))] [] (G, I, J) Q := by
      rcases yx_oP_of hop with ⟨ht, ho⟩ | ⟨ht, ho⟩
      · exact go 42 10 (Or.inl ⟨rfl, rfl⟩) ht ho
      · exact go 47 11 (Or.inr ⟨rfl, rfl⟩) ht ho
    have ht : yt_hd ts = (4, 42) ∨ yt_hd ts = (4, 47) := by
      rcases yx_oP_of hop with ⟨ht, ho⟩ | ⟨ht, ho⟩
      · exact Or.inl ht
      · exact Or.inr ht
    refine p_l35 hR h (fun q => ?_) (fun q => ?_) (fun _ _ _ _ => p_l189 hR h (fun q => ?_) (fun _ => hh) (fun q => ?_) (fun _ _ q1 q2 => ?_))
    · rcases ht with ht | ht <;> rw [ht] at q <;> rcases q with q | q <;> cases q
    · rcases ht with ht | ht <;> rw [ht] at q <;> rcases q with q | q <;> cases q
    · rcases ht with ht | ht <;> rw [ht] at q <;> rcases q with q | q <;> cases q
    · rcases ht with ht | ht <;> rw [ht] at q <;> cases q
    · rcases ht with ht | ht
      · exact absurd ht q1
      · exact absurd ht q2
  · -- )
    intro W W1 dp T out out1 ts ht hdp hdr hL I J h hb
    obtain ⟨nb, nw⟩ := hb.dropW (least := 0) (o := 12) h ht (by decide)
    rw [hdr] at nb
    refine p_l35 hR h (fun q => by rw [ht] at q; rcases q with q | q <;> cases q) (fun q => by rw [ht] at q; rcases q with q | q <;> cases q) (fun _ _ _ _ => p_l189 hR h (fun q => by rw [ht] at q; rcases q with q | q <;> cases q) (fun q => by rw [ht] at q; rcases q with q | q <;> cases q) (fun _ _ => ?_) (fun _ _ _ _ q => absurd ⟨ht, by omega⟩ q))
    have hd := p_dropW (β := β) (xs := xs) (L := L) (d := d) (o := 12) hR h hb (least := 0) (by decide)
    rw [hdr] at hd
    refine q_useV hd (by omega) (fun I1 h1 => ?_)
    obtain ⟨⟨f1, f2⟩, a, ⟨b1, ⟨b2, b2'⟩, b3⟩, ⟨c1, c2, c3⟩, e, g1, g2⟩ := h1
    have b1' : I1 59 34 = nI (W1.length + 1) := b1
    rw [b1', c1, nI_pred, nI_pred]
    have h2 : r_x tb n f0 I0 J0 W1 dp T out1 ts (am_u (am_u I1 59 34 (nI W1.length)) 59 35 (nI dp)) J := by
      refine ⟨⟨(f1.up _ rfl).up _ rfl, f2⟩, a.keep (fun i h1 h2 => ?_) ?_, ⟨?_, b2', fun x hx => b3 x (by simp [hx])⟩, ⟨am_u_same, by omega, fun j h1 h2 => c3 j h1 (by omega)⟩, e.keep ?_ ?_, ?_, ?_⟩
      · rw [am_u_ne (Or.inr (by omega)), am_u_ne (Or.inr (by omega))]
      · rw [am_u_row _ _ _ _ (by decide), am_u_row _ _ _ _ (by decide)]
      · rw [am_u_ne (Or.inr (by decide)), am_u_same]
      · rw [am_u_ne (Or.inr (by decide)), am_u_ne (Or.inr (by decide))]
      · rw [am_u_row _ _ _ _ (by decide), am_u_row _ _ _ _ (by decide)]
      · rw [am_u_ne (Or.inr (by decide)), am_u_ne (Or.inr (by decide))]; exact g1
      · rw [am_u_ne (Or.inr (by decide)), am_u_ne (Or.inr (by decide))]; exact g2
    refine q_useRv (p_goX (β := β) (xs := xs) (L := L) (d := d) hR h2) (by omega) (fun o h' P => ?_)
    obtain ⟨rfl, I3, J3, rfl, h3⟩ := P
    refine p_ret hR I3 J3 (hL I3 J3 h3 ?_)
    obtain ⟨n1, n2, n3⟩ := nb
    simp only [List.length_cons] at n1 n2
    exact ⟨by omega, by omega, n3⟩
  · -- the end, parentheses being open
    intro W dp T out ts hex hC hdp h41 hF I J h hb
    obtain ⟨e1, e2, e3, e4, e5, e6⟩ := yx_ex_no hex
    have hcd := h.2.2.2.1
    have c1 : I 59 35 = nI (dp + 1) := hcd.1
    have c6 := hcd.2.1
    have fin : q_W β xs L (d + 4) 133 189 [.ref 59, .int (nI f0), .int 1, .int (yt_kno (yt_hd ts))] [] (G, I, J) Q := by
      refine p_l189 hR h (fun q => ?_) (fun q => ?_) (fun q => absurd q h41) (fun _ _ _ _ _ => p_l349 hR (fun v2 => ?_))
      · rcases q with q | q
        · exact absurd q e3
        · exact absurd q e4
      · rcases q with q | q
        · exact absurd q e1
        · exact absurd q e2
      · refine g_133_354 hR _ _ _ rfl (q_useI (p_isG1 (β := β) (xs := xs) (L := L) (I := I) (J := J) (d := d) hR h.2.2.2.2.2.1) (by omega) ⟨fun q => absurd q (by decide), fun _ => ?_⟩)
        rw [c1]
        refine ⟨fun q => absurd ((nI_ltI (a := 1) (by omega) (by omega)).mpr (by omega)) q, fun _ => ?_⟩
        obtain ⟨b1, b2, b3⟩ := hb
        refine q_useV (p_wrongE (β := β) (xs := xs) (L := L) (d := d) hR h (k := 1) (by decide)) (by omega) (fun I' h' => hF I' J v2 _ rfl (h'.1.e (by omega) (by omega)))
    refine p_l35 hR h (fun q => ?_) (fun q => ?_) (fun _ _ _ _ => fin)
    · rcases q with q | q
      · exact absurd q e5
      · exact absurd q e6
    · have hc : yx_oC (yt_hd ts) ≠ 0 := by rcases q with q | q <;> rw [q] <;> decide
      have hT := hC hc
      have e88 : I 88 (dp + 1) = 1 := by rw [hcd.2.2 (dp + 1) c6.1 (Nat.le_refl _), hT]; rfl
      refine g_133_130 hR _ _ _ ?_
      rw [c1, show (nI (dp + 1)).toNatClampNeg = dp + 1 from nI_clamp (by omega), e88]
      exact ⟨am_is_nI (by omega) (by omega), fun _ => fin, fun q => absurd q (by decide)⟩
  · -- the end
    intro W T out ts hex hC hE I J h hb
    obtain ⟨e1, e2, e3, e4, e5, e6⟩ := yx_ex_no hex
    have hcd := h.2.2.2.1
    have c1 : I 59 35 = nI 1 := hcd.1
    have fin : q_W β xs L (d + 4) 133 189 [.ref 59, .int (nI f0), .int 1, .int (yt_kno (yt_hd ts))] [] (G, I, J) Q := by
      refine p_l189 hR h (fun q => ?_) (fun q => ?_) (fun _ q => absurd q (by decide)) (fun _ _ _ _ _ => p_l349 hR (fun v2 => ?_))
      · rcases q with q | q
        · exact absurd q e3
        · exact absurd q e4
      · rcases q with q | q
        · exact absurd q e1
        · exact absurd q e2
      · refine g_133_354 hR _ _ _ rfl (q_useI (p_isG1 (β := β) (xs := xs) (L := L) (I := I) (J := J) (d := d) hR h.2.2.2.2.2.1) (by omega) ⟨fun q => absurd q (by decide), fun _ => ?_⟩)
        rw [c1]
        refine ⟨fun _ => g_133_374 hR _ _ _ rfl ?_, fun q => absurd q (by decide)⟩
        refine q_useV (p_dropW (β := β) (xs := xs) (L := L) (d := d) (o := 12) hR h hb (least := 0) (by decide)) (by omega) (fun I1 h1 => ?_)
        obtain ⟨k1, k2⟩ := yx_drop_n (least := 0) W out h.2.2.1.2.2
        obtain ⟨b1, b2, b3⟩ := hb
        have e33 : I1 59 33 = nI (f0 + yx_n (yx_drop 0 W out).2) := h1.2.2.2.2.1.1
        have put : q_W β xs L d 126 0 [.ref 59, .int 0] [] (G, I1, J) (fun o h => o = .inl none ∧ h = (G, am_u (am_u I1 86 (f0 + yx_n (yx_drop 0 W out).2) 0) 59 33 (nI (f0 + yx_n (yx_drop 0 W out).2 + 1)), J)) := by
          refine g_126_0 hR _ ?_
          rw [e33, show (nI (f0 + yx_n (yx_drop 0 W out).2)).toNatClampNeg = f0 + yx_n (yx_drop 0 W out).2 from nI_clamp (by omega), nI_1]
          exact ⟨am_is_nI (by omega) (by omega), rfl, rfl⟩
        exact q_useF put (by omega) (hE I1 J _ T h1 (by omega))
    refine p_l35 hR h (fun q => ?_) (fun q => ?_) (fun _ _ _ _ => fin)
    · rcases q with q | q
      · exact absurd q e5
      · exact absurd q e6
    · have hc : yx_oC (yt_hd ts) ≠ 0 := by rcases q with q | q <;> rw [q] <;> decide
      have hT := hC hc
      have e88 : I 88 1 = 1 := by rw [hcd.2.2 1 (Nat.le_refl _) (Nat.le_refl _), hT]; rfl
      refine g_133_130 hR _ _ _ ?_
      rw [c1, show (nI 1).toNatClampNeg = 1 from nI_clamp (by omega), e88]
      exact ⟨am_is_nI (by omega) (by omega), fun _ => fin, fun q => absurd q (by decide)⟩
  · -- not
    intro k W dp T out ts hk h7 hO I J i1 P h hb hP
    have l1 := yt_tl_len h7 (by decide)
    obtain ⟨b1, b2, b3⟩ := hb
    have ek : yt_kno (yt_hd ts) = 7 := (yt_kno_eq (w := 7) (by decide) (r := 7) rfl).mpr h7
    have e6 : nI k = 6 ↔ k = 6 := nI_eq (b := 6) (by omega) (by omega)
    refine g_132_18 hR _ _ _ _ (q_useI (p_isG1 (β := β) (xs := xs) (L := L) (I := I) (J := J) (d := d) hR h.2.2.2.2.2.1) (by omega) ⟨fun q => absurd q (by decide), fun _ => ⟨fun q => absurd q (by decide), fun _ => ?_⟩⟩)
    refine q_useI (p_kno1 (β := β) (xs := xs) (L := L) (d := d) hR h.2.1) (by omega) ?_
    rw [ek, e6]
    refine ⟨fun q => absurd rfl q, fun _ => ⟨fun _ => ?_, fun q => absurd q (by omega)⟩⟩
    refine g_132_50 hR _ _ _ _ (q_useI (p_isG1 (β := β) (xs := xs) (L := L) (I := I) (J := J) (d := d) hR h.2.2.2.2.2.1) (by omega) ⟨fun _ => ?_, fun q => absurd q (by decide)⟩)
    rw [nI_1]
    refine q_useV (p_waitX (β := β) (xs := xs) (L := L) (d := d) hR h (by omega) (o := 3) (by decide)) (by omega) (fun I1 h1 => ?_)
    refine q_useRv (p_goX (β := β) (xs := xs) (L := L) (d := d) hR h1) (by omega) (fun o h' Pq => ?_)
    obtain ⟨rfl, I2, J2, rfl, h2⟩ := Pq
    refine hO I2 J2 i1 P h2 ⟨?_, ?_, b3⟩ hP
    · simp only [List.length_cons]; omega
    · simp only [List.length_cons]; omega
  · -- the seventh not
    intro W dp T out ts h7 hF I J i1 P h hb hP
    obtain ⟨b1, b2, b3⟩ := hb
    have ek : yt_kno (yt_hd ts) = 7 := (yt_kno_eq (w := 7) (by decide) (r := 7) rfl).mpr h7
    refine g_132_18 hR _ _ _ _ (q_useI (p_isG1 (β := β) (xs := xs) (L := L) (I := I) (J := J) (d := d) hR h.2.2.2.2.2.1) (by omega) ⟨fun q => absurd q (by decide), fun _ => ⟨fun q => absurd q (by decide), fun _ => ?_⟩⟩)
    refine q_useI (p_kno1 (β := β) (xs := xs) (L := L) (d := d) hR h.2.1) (by omega) ?_
    rw [ek]
    refine ⟨fun q => absurd rfl q, fun _ => ⟨fun q => absurd rfl q, fun _ => ?_⟩⟩
    refine q_useV (p_wrongE (β := β) (xs := xs) (L := L) (d := d) hR h (k := 2) (by decide)) (by omega) (fun I' h' => ?_)
    have he : r_xe tb n f0 I0 J0 Bd 2 (yt_pl n ts) I' J := h'.1.e (by omega) (by omega)
    refine g_132_50 hR _ _ _ _ (q_useI (p_isG0 (β := β) (xs := xs) (L := L) (I := I') (J := J) (d := d) hR he.n0) (by omega) ⟨fun q => absurd rfl q, fun _ => ?_⟩)
    exact p_opE18 hR he.n0 (hP I' J (p_lkE hR hF he)) _ _ _ _
  · -- (
    intro b k W dp T out ts h40 h6 hO I J i1 P h hb hP
    have l1 := yt_tl_len h40 (by decide)
    obtain ⟨b1, b2, b3⟩ := hb
    refine p_op40 hR h h40 (by omega) (fun I1 J1 h1 => ?_)
    refine q_useV (p_beg1 (β := β) (xs := xs) (L := L) (d := d) hR h1 h6) (by omega) (fun I2 h2 => ?_)
    refine g_132_117 hR _ _ _ _ (g_132_4 hR _ _ _ _ rfl ⟨fun q => absurd q (by decide), fun _ => ?_⟩)
    refine q_useI (p_isG1 (β := β) (xs := xs) (L := L) (I := I2) (J := J1) (d := d) hR h2.2.2.2.2.2.1) (by omega) ⟨fun q => absurd q (by decide), fun _ => hO I2 J1 i1 P h2 ⟨?_, ?_, b3⟩ hP⟩
    · simp only [List.length_cons]; omega
    · simp only [List.length_cons]; omega
  · -- ( within six others
    intro b k W T out ts e h40 he hF I J i1 P h hb hP
    have l1 := yt_tl_len h40 (by decide)
    obtain ⟨b1, b2, b3⟩ := hb
    refine p_op40 hR h h40 (by omega) (fun I1 J1 h1 => ?_)
    refine q_useV (p_beg6 (β := β) (xs := xs) (L := L) (d := d) (Bd := Bd) hR h1 he (by simp only [List.length_cons]; omega) (by simp only [List.length_cons]; omega)) (by omega) (fun I2 h2 => ?_)
    exact g_132_117 hR _ _ _ _ (p_opE4 hR h2.n0 (hP I2 J1 (p_lkE hR hF h2)) _ _ _ _ rfl)
  · -- a part
    intro b k W dp T out ts c h40 h7 hp hL I J i1 P h hb hP
    have hst := hb
    obtain ⟨b1, b2, b3⟩ := hb
    obtain ⟨p1, p2⟩ := yx_part_n h40 hp
    refine p_op75 hR h h7 ?_
    refine g_132_75 hR _ _ _ _ (q_useI (p_isG1 (β := β) (xs := xs) (L := L) (I := I) (J := J) (d := d) hR h.2.2.2.2.2.1) (by omega) ⟨fun q => absurd q (by decide), fun _ => ?_⟩)
    refine q_useI (p_isS1 (β := β) (xs := xs) (L := L) (d := d) hR h.2.1 (c := 40) (by decide)) (by omega) ⟨fun _ => ?_, fun q => absurd (a_is_d1.mp q) h40⟩
    refine g_132_95 hR _ _ _ _ (g_132_96 hR _ _ _ _ _ ⟨fun _ => g_132_117 hR _ _ _ _ (g_132_4 hR _ _ _ _ rfl ⟨fun _ => g_132_120 hR _ _ _ _ rfl ?_, fun q => absurd rfl q⟩), fun q => absurd rfl q⟩)
    refine q_useRv (p_part (β := β) (xs := xs) (L := L) (d := d) hR h hst h40) (Nat.le_refl _) (fun o h' Pq => ?_)
    obtain ⟨rfl, I2, J2, rfl, h2⟩ := Pq
    rw [hp] at h2
    refine hP I2 J2 (hL I2 J2 h2 ⟨?_, by omega, b3⟩)
    rw [yx_n_app]
    omega
  · -- no part
    intro b k W dp T out ts e h40 h7 hp hF I J i1 P h hb hP
    refine p_op75 hR h h7 ?_
    refine g_132_75 hR _ _ _ _ (q_useI (p_isG1 (β := β) (xs := xs) (L := L) (I := I) (J := J) (d := d) hR h.2.2.2.2.2.1) (by omega) ⟨fun q => absurd q (by decide), fun _ => ?_⟩)
    refine q_useI (p_isS1 (β := β) (xs := xs) (L := L) (d := d) hR h.2.1 (c := 40) (by decide)) (by omega) ⟨fun _ => ?_, fun q => absurd (a_is_d1.mp q) h40⟩
    refine g_132_95 hR _ _ _ _ (g_132_96 hR _ _ _ _ _ ⟨fun _ => g_132_117 hR _ _ _ _ (g_132_4 hR _ _ _ _ rfl ⟨fun _ => g_132_120 hR _ _ _ _ rfl ?_, fun q => absurd rfl q⟩), fun q => absurd rfl q⟩)
    refine q_useRv (p_part (β := β) (xs := xs) (L := L) (d := d) hR h hb h40) (Nat.le_refl _) (fun o h' Pq => ?_)
    obtain ⟨rfl, I2, J2, rfl, h2⟩ := Pq
    rw [hp] at h2
    exact hP I2 J2 (p_lkE hR hF h2)
end Rpar3

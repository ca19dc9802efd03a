/-! ===== the reference's parser: expression(), number(), struck() ===== -/
theorem r_xsc_59 {f0 i : Nat} (h : i < 21 ∨ i = 23 ∨ i = 32 ∨ 35 < i) : r_xsc f0 59 i = false := by
  unfold r_xsc
  rcases h with h | h | h | h
  · have : Nat.ble 21 i = false := by
      cases hh : Nat.ble 21 i with
      | false => rfl
      | true => rw [Nat.ble_eq] at hh; omega
    rw [this]
    rfl
  · subst h; rfl
  · subst h; rfl
  · have : Nat.ble i 35 = false := by
      cases hh : Nat.ble i 35 with
      | false => rfl
      | true => rw [Nat.ble_eq] at hh; omega
    rw [this]
    cases Nat.ble 21 i <;> rfl
theorem r_xsc_r {f0 c i : Nat} (h : c ≠ 59 ∧ c ≠ 86 ∧ c ≠ 87 ∧ c ≠ 88) : r_xsc f0 c i = false := by
  unfold r_xsc
  rw [yt_bf h.1, yt_bf h.2.1, yt_bf h.2.2.1, yt_bf h.2.2.2]
  rfl
theorem r_xsc_lo {f0 i : Nat} (h : i < f0) : r_xsc f0 86 i = false := by
  unfold r_xsc
  have : Nat.ble f0 i = false := by
    cases hh : Nat.ble f0 i with
    | false => rfl
    | true => rw [Nat.ble_eq] at hh; omega
  rw [this]
  rfl
/-- a fault in the reference -/
def r_fe (e : Nat × Nat) (I : a_F) : Prop := (I 59 21 = nI e.1 ∧ 1 ≤ e.1 ∧ e.1 ≤ 4) ∧ I 59 22 = nI e.2
theorem r_fe.n0 {e : Nat × Nat} {I : a_F} (h : r_fe e I) : ¬ I 59 21 = 0 := by
  rw [h.1.1]
  exact nI_ne0 (by have := h.1.2.1; omega) (by have := h.1.2.2; omega)
/-- what expression() leaves where all is well -/
def r_fx2 (tb : Nat → Nat) (n t : Nat) (c : yx_C) (r : yt_L) (I I' : a_F) (J' : Nat → Nat → Int64) : Prop := r_xA tb n r I' J' ∧ (I' 59 21 = 0 ∧ I' 59 22 = I 59 22) ∧ I' 59 33 = nI (t + yx_n c + 1) ∧ r_sp (I' 86) t c ∧ I' 86 (t + yx_n c) = 0 ∧ ∀ x ∈ c, yx_wo x
def r_EP (tb : Nat → Nat) (n t : Nat) (ts : yt_L) (G : am_G) (I : a_F) (J : Nat → Nat → Int64) : am_O → am_H → Prop := fun o h => ∃ y I' J', o = .inl (some (.int y)) ∧ h = (G, I', J') ∧ (q_F (r_xsc t) I I' ∧ r_nj J J') ∧ match yx_E n 6 ts with
  | .inl e => r_fe e I'
  | .inr z => y = nI t ∧ r_fx2 tb n t z.1 z.2 I I' J'
section Rpar4
variable {β : Bool} {xs : Nat → Int32} {L : Nat} {G : am_G} {I : a_F} {J : Nat → Nat → Int64} {d : Nat} {tb : Nat → Nat} {n : Nat} {ts : yt_L}
theorem p_expr {t : Nat} (hR : q_RT G) (hA : r_xA tb n ts I J) (h21 : I 59 21 = 0) (h33 : I 59 33 = nI t) (hb : t + 1 + 2 * ts.length ≤ 14500) (hl : ts.length ≤ 500) : q_W β xs L (d + 4) 133 0 [.ref 59, .retAddr 0, .retAddr 0, .retAddr 0] [] (G, I, J) (r_EP tb n t ts G I J) := by
  refine g_133_0 hR (q_useI (p_isG1 (β := β) (xs := xs) (L := L) (d := d) hR h21) (by omega) ⟨fun _ => ?_, fun q => absurd q (by decide)⟩)
  rw [h33]
  have e35 : am_u (am_u I 59 34 0) 59 35 0 59 35 = 0 := am_u_same
  have hI1 : r_x tb n t I J [] 1 (fun _ => false) [] ts (am_u (am_u (am_u (am_u I 59 34 0) 59 35 0) 59 35 1) 88 1 0) J := by
    refine ⟨⟨((((q_F.rf _ I).up _ rfl).up _ rfl).up _ rfl).up _ rfl, r_nj.rf J⟩, hA.keep (fun i h1 h2 => ?_) ?_, ⟨?_, trivial, fun o ho => by cases ho⟩, ⟨?_, by decide, fun j h1 h2 => ?_⟩, ⟨?_, trivial, fun x hx => by cases hx⟩, ?_, ?_⟩
    · rw [am_u_ne (Or.inl (by decide)), am_u_ne (Or.inr (by omega)), am_u_ne (Or.inr (by omega)), am_u_ne (Or.inr (by omega))]
    · rw [am_u_row _ _ _ _ (by decide), am_u_row _ _ _ _ (by decide), am_u_row _ _ _ _ (by decide), am_u_row _ _ _ _ (by decide)]
    · rw [am_u_ne (Or.inl (by decide)), am_u_ne (Or.inr (by decide)), am_u_ne (Or.inr (by decide)), am_u_same]; rfl
    · rw [am_u_ne (Or.inl (by decide)), am_u_same]; rfl
    · have e : j = 1 := by omega
      rw [e, am_u_same]; rfl
    · rw [am_u_ne (Or.inl (by decide)), am_u_ne (Or.inr (by decide)), am_u_ne (Or.inr (by decide)), am_u_ne (Or.inr (by decide))]; exact h33
    · rw [am_u_ne (Or.inl (by decide)), am_u_ne (Or.inr (by decide)), am_u_ne (Or.inr (by decide)), am_u_ne (Or.inr (by decide))]; exact h21
    · rw [am_u_ne (Or.inl (by decide)), am_u_ne (Or.inr (by decide)), am_u_ne (Or.inr (by decide)), am_u_ne (Or.inr (by decide))]
  have beg : q_W β xs L (d + 3) 131 0 [.ref 59] [] (G, am_u (am_u I 59 34 0) 59 35 0, J) (fun o h => o = .inl none ∧ h = (G, am_u (am_u (am_u (am_u I 59 34 0) 59 35 0) 59 35 1) 88 1 0, J)) := by
    refine g_131_0 hR ?_
    rw [e35, vp_b0]
    exact ⟨fun z => absurd (by decide) z, fun _ => ⟨by decide, rfl, rfl⟩⟩
  refine q_useF beg (Nat.le_refl _) ?_
  have hru := p_ru (β := β) (xs := xs) (L := L) (d := d) (tb := tb) (n := n) (f0 := t) (Bd := 14590) (I0 := I) (J0 := J) (Q := r_EP tb n t ts G I J) hR
  obtain ⟨w1, w2⟩ := yx_whole hru (T := fun _ => false) rfl hl
  have hO : r_XO β xs L d G tb n t 14590 I J (r_EP tb n t ts G I J) true 0 [] 1 (fun _ => false) [] ts := by
    cases hx : yx_E n 6 ts with
    | inl e =>
      refine w1 e hx (fun I2 J2 v2 v3 n3 h2 => ?_)
      refine g_133_374 hR _ _ _ n3 ?_
      obtain ⟨f2, k2, p2, w, t2, a1, a2, a3, a4, a5⟩ := h2
      refine q_useV (p_dropE (β := β) (xs := xs) (L := L) (d := d) (tb := tb) (n := n) hR (Nat.le_refl _) w t2 I2 f2 k2 p2 a1 a2 a3 a4 a5) (by omega) (fun I3 h3 => ?_)
      obtain ⟨f3, k3, p3, w', t3, b1, b2, b3, b4, b5⟩ := h3
      have put : q_W β xs L d 126 0 [.ref 59, .int 0] [] (G, I3, J2) (fun o h => o = .inl none ∧ h = (G, am_u (am_u I3 86 t3 0) 59 33 (nI (t3 + 1)), J2)) := by
        refine g_126_0 hR _ ?_
        rw [b3, show (nI t3).toNatClampNeg = t3 from nI_clamp (by omega), nI_1]
        exact ⟨am_is_nI (by omega) (by omega), rfl, rfl⟩
      refine q_useF put (by omega) ⟨_, _, J2, rfl, rfl, ⟨(f3.1.up _ (r_xsc_86 b4)).up _ rfl, f3.2⟩, ?_⟩
      rw [hx]
      refine ⟨⟨?_, k3.2⟩, ?_⟩
      · rw [am_u_ne (Or.inr (by decide)), am_u_ne (Or.inl (by decide))]; exact k3.1
      · rw [am_u_ne (Or.inr (by decide)), am_u_ne (Or.inl (by decide))]; exact p3
    | inr z =>
      obtain ⟨c, r⟩ := z
      refine w2 c r hx (fun I2 J2 W T h2 hlt => ?_)
      obtain ⟨⟨f1, f2⟩, a, b, c', ⟨e1, e2, e3⟩, g1, g2⟩ := h2
      refine ⟨_, _, J2, rfl, rfl, ⟨(f1.up _ (r_xsc_86 (Nat.le_add_right _ _))).up _ rfl, f2⟩, ?_⟩
      rw [hx]
      refine ⟨rfl, a.keep (fun i h1 h2 => ?_) ?_, ⟨?_, ?_⟩, am_u_same, r_sp_cong c t (fun i h1 h2 => ?_) e2, ?_, e3⟩
      · rw [am_u_ne (Or.inr (by omega)), am_u_ne (Or.inl (by decide))]
      · rw [am_u_row _ _ _ _ (by decide), am_u_row _ _ _ _ (by decide)]
      · rw [am_u_ne (Or.inr (by decide)), am_u_ne (Or.inl (by decide))]; exact g1
      · rw [am_u_ne (Or.inr (by decide)), am_u_ne (Or.inl (by decide))]; exact g2
      · rw [am_u_ne (Or.inl (by decide)), am_u_ne (Or.inr (by omega))]
      · rw [am_u_ne (Or.inl (by decide)), am_u_same]
  exact p_oper (b := true) hR hO hI1 ⟨by show t + 0 + 0 + 1 + 2 * ts.length ≤ 14590; omega, by show 0 + ts.length ≤ 500; omega, Nat.le_refl _⟩ (fun I2 J2 h2 => h2 _ rfl)
/-- wrong() behind a clause's word -/
theorem p_wrongK (hR : q_RT G) (hA : r_xA tb n ts I J) (h21 : I 59 21 = 0) {k : Nat} (hk : 1 ≤ k ∧ k ≤ 4) : q_W β xs L d 123 0 [.ref 59, .int (nI k)] [] (G, I, J) (fun o' h => o' = .inl none ∧ ∃ I', h = (G, I', J) ∧ (∀ t, q_F (r_xsc t) I I') ∧ r_fe (k, yt_pl n ts) I' ∧ I' 59 28 = I 59 28) := by
  refine g_123_0 hR _ ⟨fun _ => ⟨rfl, _, rfl, fun t => ((q_F.rf _ I).up _ rfl).up _ rfl, ⟨⟨?_, hk⟩, ?_⟩, ?_⟩, fun z => absurd h21 z⟩
  · rw [am_u_ne (Or.inr (by decide)), am_u_same]
  · rw [am_u_same]; exact hA.2.1.1.2
  · rw [am_u_ne (Or.inr (by decide)), am_u_ne (Or.inr (by decide))]
theorem p_wrong0 (hR : q_RT G) (h21 : ¬ I 59 21 = 0) (x : Int32) : q_W β xs L d 123 0 [.ref 59, .int x] [] (G, I, J) (fun o' h => o' = .inl none ∧ h = (G, I, J)) :=
  g_123_0 hR _ ⟨fun z => absurd z h21, fun _ => ⟨rfl, rfl⟩⟩
/-- goes() behind a clause's word -/
theorem p_goK (hR : q_RT G) (hA : r_xA tb n ts I J) : q_W β xs L (d + 1) 119 0 [.ref 59, .retAddr 0] [] (G, I, J) (fun o h => o = .inl none ∧ ∃ I' J', h = (G, I', J') ∧ q_F r_nsc I I' ∧ r_nj J J' ∧ r_xA tb n ts.tail I' J') := by
  obtain ⟨a1, ⟨a2, q, q1, q2, q3⟩, a3, a4⟩ := hA
  refine q_mono (p_goes (β := β) (xs := xs) (L := L) (d := d) (J := J) hR a1 q1 q2) (Nat.le_refl _) (fun o h' P => ?_)
  obtain ⟨rfl, I', J', rfl, k1, k2, k3⟩ := P
  exact ⟨rfl, I', J', rfl, k1, k2, a1.F k1, by rw [q3]; exact k3, yt_tl_ok a3, fun i hi => (k2 73 i (by omega)).trans (a4 i hi)⟩
/-- number() -/
theorem p_num (hR : q_RT G) (hA : r_xA tb n ts I J) (h21 : I 59 21 = 0) : q_W β xs L (d + 2) 134 0 [.ref 59, .retAddr 0] [] (G, I, J) (fun o h => ∃ y I' J', o = .inl (some (.int y)) ∧ h = (G, I', J') ∧ ((∀ t, q_F (r_xsc t) I I') ∧ r_nj J J') ∧ if (yt_hd ts).1 = 2 then y = nI (yt_hd ts).2 ∧ q_F r_nsc I I' ∧ r_xA tb n ts.tail I' J' else r_fe (if (yt_hd ts).1 = 5 then 2 else 1, yt_pl n ts) I') := by
  obtain ⟨s1, s2, s3, s4, s5, s6, s7, s8⟩ := hA.sort
  have bad : ∀ (k : Nat) (I' : a_F), k = (if (yt_hd ts).1 = 5 then 2 else 1) → ¬ (yt_hd ts).1 = 2 → (∀ t, q_F (r_xsc t) I I') → r_fe (k, yt_pl n ts) I' → q_W β xs L (d + 2) 134 38 [.ref 59, .retAddr 0] [] (G, I', J) (fun o h => ∃ y I' J', o = .inl (some (.int y)) ∧ h = (G, I', J') ∧ ((∀ t, q_F (r_xsc t) I I') ∧ r_nj J J') ∧ if (yt_hd ts).1 = 2 then y = nI (yt_hd ts).2 ∧ q_F r_nsc I I' ∧ r_xA tb n ts.tail I' J' else r_fe (if (yt_hd ts).1 = 5 then 2 else 1, yt_pl n ts) I') := fun k I' hk h2 hf he => by
    refine g_134_38 hR (q_useI (p_isG0 (β := β) (xs := xs) (L := L) (I := I') (J := J) (d := d) hR he.n0) (by omega) ⟨fun _ => g_134_54 hR _ ⟨_, I', J, rfl, rfl, ⟨hf, r_nj.rf J⟩, ?_⟩, fun q => absurd rfl q⟩)
    rw [if_neg h2, ← hk]
    exact he
  refine g_134_0 hR (q_useI (p_isG1 (β := β) (xs := xs) (L := L) (d := d) hR h21) (by omega) ⟨fun _ => ⟨fun z => ⟨fun y => ?_, fun y => ?_⟩, fun z => ?_⟩, fun q => absurd q (by decide)⟩)
  · have h2 : (yt_hd ts).1 = 2 := by
      rcases s5.mp z with q | q
      · exact q
      · exact absurd (hA.2.1.1.1.2.2.1 q) y
    have e28 : I 59 28 = nI (yt_hd ts).2 := (hA.2.1.1.1.2.1 h2).2
    refine g_134_38 hR (q_useI (p_isG1 (β := β) (xs := xs) (L := L) (d := d) hR h21) (by omega) ⟨fun q => absurd q (by decide), fun _ => ?_⟩)
    rw [e28]
    refine q_useRv (p_goK (β := β) (xs := xs) (L := L) (d := d) hR hA) (by omega) (fun o h' P => ?_)
    obtain ⟨rfl, I', J', rfl, k1, k2, k3⟩ := P
    refine g_134_54 hR _ ⟨_, I', J', rfl, rfl, ⟨fun t => k1.rn, k2⟩, ?_⟩
    rw [if_pos h2]
    exact ⟨rfl, k1, k3⟩
  · have h2 : ¬ (yt_hd ts).1 = 2 := fun q => (hA.2.1.1.1.2.1 q).1 y
    have h5 : (yt_hd ts).1 = 5 := by
      rcases s5.mp z with q | q
      · exact absurd q h2
      · exact q
    exact q_useV (p_wrongK (β := β) (xs := xs) (L := L) (d := d) hR hA h21 (k := 2) (by decide)) (by omega) (fun I' h' => bad 2 I' (by rw [if_pos h5]) h2 h'.1 h'.2.1)
  · have h2 : ¬ (yt_hd ts).1 = 2 := fun q => z (s5.mpr (Or.inl q))
    have h5 : ¬ (yt_hd ts).1 = 5 := fun q => z (s5.mpr (Or.inr q))
    exact q_useV (p_wrongK (β := β) (xs := xs) (L := L) (d := d) hR hA h21 (k := 1) (by decide)) (by omega) (fun I' h' => bad 1 I' (by rw [if_neg h5]) h2 h'.1 h'.2.1)
theorem p_num0 (hR : q_RT G) (h21 : ¬ I 59 21 = 0) : q_W β xs L (d + 2) 134 0 [.ref 59, .retAddr 0] [] (G, I, J) (fun o h => o = .inl (some (.int 0)) ∧ h = (G, I, J)) :=
  g_134_0 hR (q_useI (p_isG0 (β := β) (xs := xs) (L := L) (d := d) hR h21) (by omega) ⟨fun q => absurd rfl q, fun _ => ⟨rfl, rfl⟩⟩)
/-- struck() -/
theorem p_struck {a : Nat} {ok : Nat → Bool} (hR : q_RT G) (ha : a < 12) (h32 : I 59 32 = nI a) (hok : ∀ v, v < 100000 → (ok v = true ↔ v < a ∧ I 74 v = I 74 a)) (hA : r_xA tb n ts I J) (h21 : I 59 21 = 0) : q_W β xs L (d + 3) 136 0 [.ref 59, .int (nI a), .retAddr 0] [] (G, I, J) (fun o h => o = .inl none ∧ ∃ I' J', h = (G, I', J') ∧ r_nj J J' ∧ (∀ t, q_F (fun c i => r_xsc t c i || (Nat.beq c 80 && Nat.beq i a)) I I') ∧ match yx_body n ok 2 ts with
    | .inl e => r_fe e I'
    | .inr (k, r) => (k.1 = 2 ∧ I' 80 a = I 80 a ||| (1 <<< (nI k.2.2.2.2.2 &&& 31))) ∧ r_xA tb n r I' J' ∧ I' 59 21 = 0 ∧ I' 59 22 = I 59 22 ∧ I' 59 33 = I 59 33) := by
  obtain ⟨s1, s2, s3, s4, s5, s6, s7, s8⟩ := hA.sort
  have ea : (nI a).toNatClampNeg = a := nI_clamp (by omega)
  have ia : am_is (nI a) 12 = true := am_is_nI ha (by omega)
  unfold yx_body
  rw [if_pos rfl]
  generalize hQ : (fun (o : am_O) (h : am_H) => o = .inl none ∧ ∃ I' J', h = (G, I', J') ∧ r_nj J J' ∧ (∀ t, q_F (fun c i => r_xsc t c i || (Nat.beq c 80 && Nat.beq i a)) I I') ∧ match (if (yt_hd ts).1 = 2 then (if ok (yt_hd ts).2 = true then .inr ((2, 0, [], none, none, (yt_hd ts).2), ts.tail) else .inl (4, yt_pl n ts)) else .inl (if (yt_hd ts).1 = 5 then 2 else 1, yt_pl n ts) : Sum (Nat × Nat) (yx_K × yt_L)) with
    | .inl e => r_fe e I'
    | .inr (k, r) => (k.1 = 2 ∧ I' 80 a = I 80 a ||| (1 <<< (nI k.2.2.2.2.2 &&& 31))) ∧ r_xA tb n r I' J' ∧ I' 59 21 = 0 ∧ I' 59 22 = I 59 22 ∧ I' 59 33 = I 59 33) = Q
  have fw : ∀ I' : a_F, (∀ t, q_F (r_xsc t) I I') → ∀ t, q_F (fun c i => r_xsc t c i || (Nat.beq c 80 && Nat.beq i a)) I I' := fun I' hf t c i hc => hf t c i (Bool.or_eq_false_iff.mp hc).1
  have fin : ∀ (e : Nat × Nat) (I' : a_F) (J' : Nat → Nat → Int64), (if (yt_hd ts).1 = 2 then (if ok (yt_hd ts).2 = true then .inr ((2, 0, [], none, none, (yt_hd ts).2), ts.tail) else .inl (4, yt_pl n ts)) else .inl (if (yt_hd ts).1 = 5 then 2 else 1, yt_pl n ts) : Sum (Nat × Nat) (yx_K × yt_L)) = .inl e → (∀ t, q_F (r_xsc t) I I') → r_nj J J' → r_fe e I' → Q (.inl none) (G, I', J') := fun e I' J' he hf hj hfe => by
    rw [← hQ, he]
    exact ⟨rfl, I', J', rfl, hj, fw I' hf, hfe⟩
  -- a fault of the fourth kind
  have bad4 : (yt_hd ts).1 = 2 → ¬ ok (yt_hd ts).2 = true → q_W β xs L (d + 3) 136 45 [.ref 59, .int (nI a), .retAddr 0] [] (G, I, J) Q := fun h2 hb => by
    refine g_136_45 hR _ (q_useV (p_wrongK (β := β) (xs := xs) (L := L) (d := d) hR hA h21 (k := 4) (by decide)) (by omega) (fun I1 h1 => g_136_50 hR _ ?_))
    refine q_useI (p_num0 (β := β) (xs := xs) (L := L) (I := I1) (J := J) (d := d) hR h1.2.1.n0) (by omega) ?_
    refine q_useI (p_isG0 (β := β) (xs := xs) (L := L) (I := I1) (J := J) (d := d) hR h1.2.1.n0) (by omega) ⟨hR, fun _ => g_136_74 hR _ _ (fin (4, yt_pl n ts) I1 J (by rw [if_pos h2, if_neg hb]) h1.1 (r_nj.rf J) h1.2.1), fun q => absurd rfl q⟩
  -- number() and what follows
  have at50 : (¬ (yt_hd ts).1 = 2 ∨ ((yt_hd ts).1 = 2 ∧ ok (yt_hd ts).2 = true)) → q_W β xs L (d + 3) 136 50 [.ref 59, .int (nI a), .retAddr 0] [] (G, I, J) Q := fun hc => by
    refine g_136_50 hR _ (q_useR (p_num (β := β) (xs := xs) (L := L) (d := d) hR hA h21) (by omega) (fun o h' P => ?_))
    obtain ⟨y, I1, J1, rfl, rfl, ⟨f1, j1⟩, P⟩ := P
    rcases hc with hc | ⟨hc, hk⟩
    · rw [if_neg hc] at P
      exact q_useI (p_isG0 (β := β) (xs := xs) (L := L) (I := I1) (J := J1) (d := d) hR P.n0) (by omega) ⟨hR, fun _ => g_136_74 hR _ _ (fin _ I1 J1 (by rw [if_neg hc]) f1 j1 P), fun q => absurd rfl q⟩
    · rw [if_pos hc] at P
      obtain ⟨rfl, f2, hA1⟩ := P
      have g21 : I1 59 21 = 0 := (f2 59 21 rfl).trans h21
      refine q_useI (p_isG1 (β := β) (xs := xs) (L := L) (I := I1) (J := J1) (d := d) hR g21) (by omega) ⟨hR, fun q => absurd q (by decide), fun _ => ⟨ia, ia, g_136_74 hR _ _ ?_⟩⟩
      rw [← hQ, if_pos hc, if_pos hk, ea]
      refine ⟨rfl, _, J1, rfl, j1, fun t c i hci => ?_, ⟨rfl, ?_⟩, hA1.keep (fun i h1 h2 => ?_) ?_, ?_, ?_, ?_⟩
      · rw [Bool.or_eq_false_iff] at hci
        rw [am_u_ne, f1 t c i hci.1]
        by_cases q1 : c = 80
        · refine Or.inr (fun q2 => ?_)
          subst q1; subst q2
          have := hci.2
          rw [show Nat.beq i i = true from Nat.beq_refl i] at this
          cases this
        · exact Or.inl q1
      · rw [am_u_same, f2 80 a rfl]
      · rw [am_u_ne (Or.inl (by decide))]
      · rw [am_u_row _ _ _ _ (by decide)]
      · rw [am_u_ne (Or.inl (by decide))]; exact g21
      · rw [am_u_ne (Or.inl (by decide))]; exact f2 59 22 rfl
      · rw [am_u_ne (Or.inl (by decide))]; exact f2 59 33 rfl
  refine g_136_0 hR _ ⟨fun z => at50 (Or.inl (fun q => z (s5.mpr (Or.inl q)))), fun z => ⟨fun y => at50 (Or.inl (fun q => (hA.2.1.1.1.2.1 q).1 y)), fun y => ?_⟩⟩
  have h2 : (yt_hd ts).1 = 2 := by
    rcases s5.mp z with q | q
    · exact q
    · exact absurd (hA.2.1.1.1.2.2.1 q) y
  have e28 : I 59 28 = nI (yt_hd ts).2 := (hA.2.1.1.1.2.1 h2).2
  have hv := s8 h2
  rw [e28, h32, nI_ltI (by omega) (by omega), ea, show (nI (yt_hd ts).2).toNatClampNeg = (yt_hd ts).2 from nI_clamp (by omega)]
  refine ⟨fun x => bad4 h2 (fun q => x ((hok _ hv).mp q).1), fun x => ⟨am_is_nI (by omega) (by omega), ia, fun u => at50 (Or.inr ⟨h2, (hok _ hv).mpr ⟨x, u⟩⟩), fun u => bad4 h2 (fun q => u ((hok _ hv).mp q).2)⟩⟩
end Rpar4

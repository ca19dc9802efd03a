/-! ===== the class: a change, with the children ===== -/
theorem a_gain_0 (s : a_F) (today fact : Int32) (p l k : Nat) (on ch : Int32) (x : Nat) : a_gain s today fact p l k on ch 0 x = if x = p then s 0 p ||| a_bit l else s 0 x := by
  simp [am_u, a_gain, a_rec]
theorem a_gain_8 (s : a_F) (today fact : Int32) (p l k : Nat) (on ch : Int32) (y : Nat) : a_gain s today fact p l k on ch 8 y = if y = 5 * p + l then s 17 0 else s 8 y := by
  simp [am_u, a_gain, a_rec]
theorem a_lose_0 (s : a_F) (p l x : Nat) : a_lose s p l 0 x = if x = p then s 0 p &&& (a_bit l ^^^ (-1)) else s 0 x := by
  simp [am_u, a_lose]
theorem a_lose_8 (s : a_F) (p l y : Nat) : a_lose s p l 8 y = if y = 5 * p + l then -1 else s 8 y := by
  simp [am_u, a_lose]
theorem a_gain_bt (s : a_F) (today fact : Int32) (p l k : Nat) (on ch : Int32) (x : Nat) {l' : Nat} (hl : l < 32) (hl' : l' < 32) : bt (a_gain s today fact p l k on ch 0 x) l' = (bt (s 0 x) l' || decide (x = p ∧ l' = l)) := by
  rw [a_gain_0]
  by_cases h : x = p
  · subst h
    rw [if_pos rfl]
    show bt (s 0 x ||| (1 <<< (nI l &&& 31))) l' = _
    rw [b_set _ hl hl']
    simp
  · rw [if_neg h]
    simp [h]
theorem a_lose_bt (s : a_F) (p l x : Nat) {l' : Nat} (hl : l < 32) (hl' : l' < 32) : bt (a_lose s p l 0 x) l' = (bt (s 0 x) l' && !decide (x = p ∧ l' = l)) := by
  rw [a_lose_0]
  by_cases h : x = p
  · subst h
    rw [if_pos rfl]
    show bt (s 0 x &&& ((1 <<< (nI l &&& 31)) ^^^ (-1))) l' = _
    rw [b_clr _ hl hl']
    simp
  · rw [if_neg h]
    simp [h]
theorem c_loseS {nq j : Nat} {I s : a_F} (hS : c_S nq j I s) {p l : Nat} (hp : p < 20) (hl : l < 5) : c_S nq j (am_u (am_u I 47 p (s 0 p &&& (a_bit l ^^^ (-1)))) 45 (5 * p + l) (I 45 (5 * p + l) + 1)) (a_lose s p l) := by
  obtain ⟨h1, h2, h3, h4, h5, h6⟩ := hS
  have hr := c_row_ne (j := j)
  refine ⟨fun x hx => ?_, h2, fun x l' hx hl' => ?_, h4, h5, fun m hm => ?_⟩
  · obtain ⟨b1, b2, b3, b4, b5, b6⟩ := h1 x hx
    refine ⟨?_, b2, b3, b4, b5, b6⟩
    rw [a_lose_0]
    by_cases hxp : x = p
    · subst hxp; simp [am_u]
    · simp [am_u, hxp, b1]
  · obtain ⟨b1, b2, b3⟩ := h3 x l' hx hl'
    refine ⟨fun h => ?_, b2, ?_⟩
    · rw [a_lose_bt _ _ _ _ (by omega) (by omega), Bool.and_eq_true] at h
      have hne : ¬ (x = p ∧ l' = l) := by
        have h2 := h.2
        rw [Bool.not_eq_true'] at h2
        exact of_decide_eq_false h2
      rw [a_lose_8, if_neg (by omega)]
      exact b1 h.1
    · have p3 := (h3 p l hp hl).2.2
      by_cases he : 5 * x + l' = 5 * p + l
      · rw [he]; simp [am_u, a_lose, p3]
      · simp [am_u, a_lose, he, b3]
  · have z : ∀ i, am_u (am_u I 47 p (s 0 p &&& (a_bit l ^^^ (-1)))) 45 (5 * p + l) (I 45 (5 * p + l) + 1) (c_row j) i = I (c_row j) i := fun i => by
      rw [am_u_ne (Or.inl (by omega)), am_u_ne (Or.inl (by omega))]
    rw [z, z, z, z, z, z, z]
    exact h6 m hm
theorem a_kids_none {D : a_F} {T np : Nat} (hT : T < 2 ^ 31) {k : Nat} (h85 : D 85 k = -1) (fact : Int32) (p l : Nat) (gains : Bool) {s : a_F} (hb : a_bo T np s) : ∀ n c, c + n ≤ np → a_kids D (nI T) fact p l k gains n c s = s
  | 0, _, _ => rfl
  | n + 1, c, hc => by
    have hno : a_isk D s (nI T) p l k gains c = false := by
      unfold a_isk
      rcases hb c (by omega) with h | ⟨b, hb2, h⟩
      · simp [h]
      · have e : (nI T - s 1 c) / 365 = nI ((T - b) / 365) := by rw [h, pk_sub hb2, s_lit, pk_div (by omega) (by decide) (by decide)]
        have : ¬ nI ((T - b) / 365) < -1 := fun z => by
          have h0 : nI ((T - b) / 365) < 0 := Int32.lt_trans z (by decide)
          exact nI_pos (by omega) h0
        rw [e, h85]
        simp [this]
    unfold a_kids
    rw [if_neg (by rw [hno]; decide)]
    exact a_kids_none hT h85 fact p l gains hb n (c + 1) (by omega)
section C3
variable {β : Bool} {xs : Nat → Int32} {L : Nat}
theorem a_is_eq {a b : Bool} : a_is a = a_is b ↔ a = b := by cases a <;> cases b <;> simp [a_is]
theorem c_kids {d e nq np : Nat} {D I0 s0 : a_F} {J0 : Nat → Nat → Int64} {p l k : Nat} (hp : p < 20) (hl : l < 5) (hk : k < 144) (hnp : I0 3 3 = nI np) (hnp2 : np ≤ 20) (h56 : ∀ c, c < np → I0 5 c = D 62 c ∧ I0 6 c = D 63 c) (h30 : I0 30 k = D 85 k) {T : Nat} (hT : T < 2 ^ 31) (ht : I0 41 0 = nI T) {fact : Int32} (hfa : I0 41 4 = fact) (gains : Bool) {ent : Int32} {Q : am_O → am_H → Prop} :
    ∀ m c (G : am_G) (I : a_F) (J : Nat → Nat → Int64) (j : Nat) (s : a_F) (n : Nat) (v7 v8 : Value), am_nl v7 = true → am_nl v8 = true → c + m = np → c_L e j G → c_J J0 J → q_F c_sc I0 I → c_ct I0 I → (∀ i, I 55 i = I0 55 i) →
      (gains = true → ∀ x l', x < 20 → l' < 5 → (l' ≠ l ∨ bt (s0 0 x) l' = true) → I 43 (5 * x + l') = I0 43 (5 * x + l')) → (gains = false → ∀ i, I 43 i = I0 43 i) → (gains = true → ∀ x, bt (s0 0 x) l = true → bt (s 0 x) l = true) →
      c_S nq j I s → a_bo T np s → bt (s 0 p) l = gains → (gains = true → s 8 (5 * p + l) = ent) → s 17 0 = nI n → n + m < 30000 →
      (∀ (G' : am_G) (I' : a_F) (J' : Nat → Nat → Int64) (j' : Nat), c_L e j' G' → c_J J0 J' → q_F c_sc I0 I' → c_ct I0 I' → (∀ i, I' 55 i = I0 55 i) → (gains = true → ∀ x l', x < 20 → l' < 5 → (l' ≠ l ∨ bt (s0 0 x) l' = true) → I' 43 (5 * x + l') = I0 43 (5 * x + l')) → (gains = false → ∀ i, I' 43 i = I0 43 i) → c_S nq j' I' (a_kids D (nI T) fact p l k gains m c s) → Q (.inl none) (G', I', J')) →
      q_W β xs L (d + 2) 67 109 [.ref 38, .int (nI p), .int (nI l), .int (nI k), .int (a_is gains), .int ent, .int (nI c), v7, v8] [] (G, I, J) Q
  | 0, c, G, I, J, j, s, n, v7, v8, n7, n8, hcm, hL, hJ, hf, hct, h55, h43, h43b, hmon, hS, hbo, hbp, hent, hn, hb, hQ => by
    refine g_67_109 hL.2.1 _ _ _ _ _ _ _ _ n7 n8 ⟨fun _ => hQ G I J j hL hJ hf hct h55 h43 h43b hS, fun z => ?_⟩
    rw [hf 3 3 rfl, hnp, nI_ltI (by omega) (by omega)] at z
    omega
  | m + 1, c, G, I, J, j, s, n, v7, v8, n7, n8, hcm, hL, hJ, hf, hct, h55, h43, h43b, hmon, hS, hbo, hbp, hent, hn, hb, hQ => by
    have hR := hL.2.1
    have hc20 : c < 20 := by omega
    have ec : (nI c).toNatClampNeg = c := nI_clamp (by omega)
    have ek : (nI k).toNatClampNeg = k := nI_clamp (by omega)
    have ic : am_is (nI c) 20 = true := am_is_nI hc20 (by omega)
    have ik : am_is (nI k) 144 = true := am_is_nI hk (by omega)
    have e5 : (nI c * 5 + nI l : Int32) = nI (5 * c + l) := by rw [s_lit, pk_mul, nI_add, Nat.mul_comm]
    have c5 : (nI (5 * c + l)).toNatClampNeg = 5 * c + l := nI_clamp (by omega)
    have i5 : am_is (nI (5 * c + l)) 100 = true := am_is_nI (by omega) (by omega)
    obtain ⟨q5, q6⟩ := h56 c (by omega)
    have e48 : I 48 c = s 1 c := (hS.1 c hc20).2.1
    have e47 : I 47 c = s 0 c := (hS.1 c hc20).1
    have e30 : I 30 k = D 85 k := (hf 30 k rfl).trans h30
    have e41 : I 41 0 = nI T := (hct.1 0).trans ht
    have e414 : I 41 4 = fact := (hct.1 4).trans hfa
    have next : ∀ (G1 : am_G) (I1 : a_F) (J1 : Nat → Nat → Int64) (j1 : Nat) (s1 : a_F) (n1 : Nat) (x y : Int32), a_kids D (nI T) fact p l k gains (m + 1) c s = a_kids D (nI T) fact p l k gains m (c + 1) s1 → c_L e j1 G1 → c_J J0 J1 → q_F c_sc I0 I1 → c_ct I0 I1 → (∀ i, I1 55 i = I0 55 i) →
        (gains = true → ∀ x l', x < 20 → l' < 5 → (l' ≠ l ∨ bt (s0 0 x) l' = true) → I1 43 (5 * x + l') = I0 43 (5 * x + l')) → (gains = false → ∀ i, I1 43 i = I0 43 i) → (gains = true → ∀ x, bt (s0 0 x) l = true → bt (s1 0 x) l = true) →
        c_S nq j1 I1 s1 → a_bo T np s1 → bt (s1 0 p) l = gains → (gains = true → s1 8 (5 * p + l) = ent) → s1 17 0 = nI n1 → n1 ≤ n + 1 →
        q_W β xs L (d + 2) 67 287 [.ref 38, .int (nI p), .int (nI l), .int (nI k), .int (a_is gains), .int ent, .int (nI c), .int x, .int y] [] (G1, I1, J1) Q := by
      intro G1 I1 J1 j1 s1 n1 x y he w1 w2 w3 w4 w5 w6 w7 w8 w9 w10 w11 w12 w13 w14
      refine g_67_287 w1.2.1 _ _ _ _ _ _ _ _ ?_
      rw [nI_1]
      exact c_kids (d := d) hp hl hk hnp hnp2 h56 h30 hT ht hfa gains m (c + 1) G1 I1 J1 j1 s1 n1 _ _ rfl rfl (by omega) w1 w2 w3 w4 w5 w6 w7 w8 w9 w10 w11 w12 w13 (by omega) (fun G' I' J' j' z1 z2 z3 z4 z5 z6 z7 z8 => hQ G' I' J' j' z1 z2 z3 z4 z5 z6 z7 (he ▸ z8))
    have skip : a_isk D s (nI T) p l k gains c = false → ∀ x y, q_W β xs L (d + 2) 67 287 [.ref 38, .int (nI p), .int (nI l), .int (nI k), .int (a_is gains), .int ent, .int (nI c), .int x, .int y] [] (G, I, J) Q := fun h x y =>
      next G I J j s n x y (by show a_kids D (nI T) fact p l k gains m (c + 1) (if _ then _ else _) = _; rw [if_neg (by rw [h]; decide)]) hL hJ hf hct h55 h43 h43b hmon hS hbo hbp hent hn (by omega)
    have at189 : ∀ (y h : Bool) (v8 : Value), am_nl v8 = true → y = (!decide (s 1 c = -1) && decide ((nI T - s 1 c) / 365 < D 85 k)) → h = bt (s 0 c) l → q_W β xs L (d + 2) 67 189 [.ref 38, .int (nI p), .int (nI l), .int (nI k), .int (a_is gains), .int ent, .int (nI c), .int (a_is y), v8] [.int (a_is h)] (G, I, J) Q := by
      intro y h v8 n8 hy hh
      refine g_67_189 hR _ _ _ _ _ _ _ _ _ n8 ⟨fun z => skip ?_ _ _, fun z => ⟨fun w => skip ?_ _ _, fun w => ?_⟩⟩
      · have := a_is_0.mp z
        rw [hy] at this
        unfold a_isk
        rw [← Bool.and_assoc (!decide (s 1 c = -1)), this, Bool.false_and, Bool.and_false]
      · have := a_is_eq.mp w
        rw [hh] at this
        unfold a_isk
        simp [this]
      · have hy1 : y = true := by
          cases y
          · exact absurd rfl z
          · rfl
        have hng : ¬ bt (s 0 c) l = gains := fun q => w (a_is_eq.mpr (hh.trans q))
        refine q_useI (c_isChild (β := β) (xs := xs) (L := L) (d := d + 1) hR (D := D) hc20 ((hf 5 c rfl).trans q5) ((hf 6 c rfl).trans q6) hp) (Nat.le_refl _) ⟨hR, fun v => ?_, fun v => skip ?_ _ _⟩
        · have hkid : a_kid D p c = true := by
            cases hz : a_kid D p c with
            | true => rfl
            | false => exact absurd (a_is_0.mpr hz) v
          have yes : a_isk D s (nI T) p l k gains c = true := by
            have h2 := hy.symm.trans hy1
            rw [Bool.and_eq_true] at h2
            show (a_kid D p c && _) = true
            rw [hkid, h2.1, h2.2]
            simp [hng]
          refine ⟨ic, ic, ?_⟩
          rw [ec, e5, c5, e47]
          refine ⟨fun g0 => ⟨i5, i5, ?_⟩, fun g0 => ?_⟩
          · have gf : gains = false := a_is_0.mp g0
            have hbc : bt (s 0 c) l = true := by
              cases hz : bt (s 0 c) l with
              | true => rfl
              | false => exact absurd (hz.trans gf.symm) hng
            have hcp : p ≠ c := fun q => by
              rw [q] at hbp
              exact hng hbp
            rw [b_flp_clr (by omega) hbc]
            have hSl := c_loseS hS hc20 hl
            refine next G _ J j (a_lose s c l) n _ _ ?_ hL hJ ((hf.up _ rfl).up _ rfl) ((hct.up _ _ (by decide) (by decide) (by decide) (by decide)).up _ _ (by decide) (by decide) (by decide) (by decide)) h55 (fun q => absurd (gf.symm.trans q) (by decide)) h43b (fun q => absurd (gf.symm.trans q) (by decide)) hSl (hbo.kp (a_kp_lose s c l)) ?_ (fun q => absurd (gf.symm.trans q) (by decide)) hn (by omega)
            · show a_kids D (nI T) fact p l k gains m (c + 1) (if _ then _ else _) = _
              rw [if_pos yes, if_neg (by rw [gf]; decide)]
            · rw [a_lose_bt _ _ _ _ (by omega) (by omega), hbp, gf]
              rfl
          · have gt : gains = true := by
              cases hg : gains with
              | true => rfl
              | false => exact absurd (by rw [hg]; rfl) g0
            have hbc : bt (s 0 c) l = false := by
              cases hz : bt (s 0 c) l with
              | false => rfl
              | true => exact absurd (hz.trans gt.symm) hng
            have hcp : p ≠ c := fun q => by
              rw [q] at hbp
              exact hng hbp
            rw [b_flp_set (by omega) hbc, e41, e414]
            refine c_gainS (d := d) hL hS hn (by omega) hc20 hl hk hbc (nI T) fact 1 ent (fun G' I' J' j' w1 w2 w3 w4 w5 w6 w7 => ?_)
            refine next G' I' J' j' _ (n + 1) _ _ ?_ w1 (hJ.tr w2) (hf.tr w3) (hct.tr w4) (fun i => (w5 i).trans (h55 i)) (fun q x l' hx hl' hh => ?_) (fun q => absurd (gt.symm.trans q) (by decide)) (fun q x hx => ?_) w7 (hbo.kp (a_kp_gain _ _ _ _ _ _ _ _)) ?_ (fun q => ?_) (a_gain_n hn (by omega) _ _ _ _ _ _ _) (Nat.le_refl _)
            · show a_kids D (nI T) fact p l k gains m (c + 1) (if _ then _ else _) = _
              rw [if_pos yes, if_pos gt, hent gt]
            · rw [w6 x l' hx hl' (hh.elim Or.inl (fun hq => ?_))]
              · exact h43 q x l' hx hl' hh
              · by_cases hll : l' = l
                · subst hll; exact Or.inr (hmon q x hq)
                · exact Or.inl hll
            · rw [a_gain_bt _ _ _ _ _ _ _ _ _ (by omega) (by omega), hmon q x hx]
              rfl
            · rw [a_gain_bt _ _ _ _ _ _ _ _ _ (by omega) (by omega), hbp, gt]
              rfl
            · rw [a_gain_8, if_neg (by omega)]
              exact hent gt
        · have := a_is_0.mp v
          show (a_kid D p c && _) = false
          rw [this]
          rfl
    have at167 : ∀ (y : Bool), y = (!decide (s 1 c = -1) && decide ((nI T - s 1 c) / 365 < D 85 k)) → q_W β xs L (d + 2) 67 167 [.ref 38, .int (nI p), .int (nI l), .int (nI k), .int (a_is gains), .int ent, .int (nI c), v7, v8] [.int (a_is y)] (G, I, J) Q := by
      intro y hy
      refine g_67_167 hR _ _ _ _ _ _ _ _ _ n7 n8 ?_
      rw [ec, e47, s_bit1 _ (by omega)]
      exact ⟨ic, fun z => at189 y false v8 n8 hy (by simpa using z), fun z => at189 y true v8 n8 hy z.symm⟩
    refine g_67_109 hR _ _ _ _ _ _ _ _ n7 n8 ⟨fun z => absurd (by rw [hf 3 3 rfl, hnp]; exact (nI_ltI (by omega) (by omega)).mpr (by omega)) z, fun _ => ?_⟩
    rw [ec, ek, e48, e30, e41]
    have at166 : (!decide (s 1 c = -1) && decide ((nI T - s 1 c) / 365 < D 85 k)) = false → q_W β xs L (d + 2) 67 166 [.ref 38, .int (nI p), .int (nI l), .int (nI k), .int (a_is gains), .int ent, .int (nI c), v7, v8] [] (G, I, J) Q := fun h => g_67_166 hR _ _ _ _ _ _ _ _ n7 n8 (at167 false h.symm)
    rcases hbo c (by omega) with h | ⟨b, hb2, h⟩
    · exact ⟨ic, fun z => at166 (by simp [h]), fun z => absurd (by rw [h]; decide) z⟩
    · have hm1 : ¬ s 1 c = -1 := by rw [h]; exact nI_m1 (by omega)
      exact ⟨ic, fun z => absurd z (by rw [h]; exact nI_pos (by omega)), fun z => ⟨ic, by decide, ik, fun y => at166 (by simp [y]), fun y => at167 true (by simp [hm1, y])⟩⟩
theorem c_change {d e j nq np : Nat} {G : am_G} {I s : a_F} {J : Nat → Nat → Int64} (hL : c_L e j G) (hS : c_S nq j I s) {D : a_F} {p l k w n T : Nat} (hp : p < np) (hl : l < 5) (hk : k < 144) (hnp : I 3 3 = nI np) (hnp2 : np ≤ 20) (hDn : D 59 5 = nI np) (h56 : ∀ c, c < np → I 5 c = D 62 c ∧ I 6 c = D 63 c) (hDR : a_DR np D) (h25 : I 25 k = D 81 k) (h30 : I 30 k = D 85 k)
    {c : a_C} (hC : c_C I c p w) (hT : T < 2 ^ 31) (hcT : c.1 = nI T) {fact : Int32} (hfa : I 41 4 = fact) (hbo : a_bo T np s) (hk0 : D 81 k = 0 → bt (s 0 p) l = false) (hn : s 17 0 = nI n) (hb : n + 21 < 30000) {wc : Nat → Int32} (hwd : w = 1 → bt c.2.2.2.2 l = true → ∃ q, q < 20 ∧ I 50 p = nI q ∧ I 43 (5 * q + l) = wc l) {Q : am_O → am_H → Prop}
    (hQ : ∀ (G' : am_G) (I' : a_F) (J' : Nat → Nat → Int64) (j' : Nat), c_L e j' G' → c_J J J' → q_F c_sc I I' → c_ct I I' → (∀ i, I' 55 i = I 55 i) → c_43 I I' s l → c_S nq j' I' (a_change D s c fact wc p l k) → Q (.inl none) (G', I', J')) :
    q_W β xs L (d + 2) 67 0 [.ref 38, .int (nI p), .int (nI l), .int (nI k), .retAddr 0, .retAddr 0, .retAddr 0, .retAddr 0, .retAddr 0] [] (G, I, J) Q := by
  have hR := hL.2.1
  have hp20 : p < 20 := by omega
  have ek : (nI k).toNatClampNeg = k := nI_clamp (by omega)
  have ep : (nI p).toNatClampNeg = p := nI_clamp (by omega)
  have ik : am_is (nI k) 144 = true := am_is_nI hk (by omega)
  have ip : am_is (nI p) 20 = true := am_is_nI hp20 (by omega)
  have e5 : (nI p * 5 + nI l : Int32) = nI (5 * p + l) := by rw [s_lit, pk_mul, nI_add, Nat.mul_comm]
  have c5 : (nI (5 * p + l)).toNatClampNeg = 5 * p + l := nI_clamp (by omega)
  have i5 : am_is (nI (5 * p + l)) 100 = true := am_is_nI (by omega) (by omega)
  have e47 : I 47 p = s 0 p := (hS.1 p hp20).1
  have enp : a_ix (D 59 5) = np := by rw [hDn]; exact nI_clamp (by omega)
  have e41 : I 41 0 = nI T := hC.2.1.trans hcT
  -- behind the change of the person itself
  have at106 : ∀ (gains : Bool) (G1 : am_G) (I1 : a_F) (J1 : Nat → Nat → Int64) (j1 : Nat) (s1 : a_F) (n1 : Nat) (ent : Int32), gains = decide (D 81 k = 0) → (if decide (D 81 k = 0) = true then a_gain s c.1 fact p l k (a_lean D s c wc p l) 0 else a_lose s p l) = s1 → c_L e j1 G1 → c_J J J1 → q_F c_sc I I1 → c_ct I I1 → (∀ i, I1 55 i = I 55 i) →
      (gains = true → c_43 I I1 s l) → (gains = false → ∀ i, I1 43 i = I 43 i) → (gains = true → ∀ x, bt (s 0 x) l = true → bt (s1 0 x) l = true) → c_S nq j1 I1 s1 → a_bo T np s1 → bt (s1 0 p) l = gains → (gains = true → s1 8 (5 * p + l) = ent) → s1 17 0 = nI n1 → n1 ≤ n + 1 →
      q_W β xs L (d + 2) 67 106 [.ref 38, .int (nI p), .int (nI l), .int (nI k), .int (a_is gains), .int ent, .retAddr 0, .retAddr 0, .retAddr 0] [] (G1, I1, J1) Q := by
    intro gains G1 I1 J1 j1 s1 n1 ent hg hs1 w1 w2 w3 w4 w5 w6 w7 w8 w9 w10 w11 w12 w13 w14
    refine g_67_106 w1.2.1 _ _ _ _ _ ?_
    refine c_kids (d := d) (s0 := s) (I0 := I) (J0 := J) hp20 hl hk hnp hnp2 h56 h30 hT e41 hfa gains np 0 G1 I1 J1 j1 s1 n1 _ _ rfl rfl (by omega) w1 w2 w3 w4 w5 (fun q x l' a b c => w6 q x l' a b c) w7 w8 w9 w10 w11 w12 w13 (by omega) (fun G' I' J' j' z1 z2 z3 z4 z5 z6 z7 z8 => ?_)
    refine hQ G' I' J' j' z1 z2 z3 z4 z5 (fun x l' hx hl' hh => ?_) ?_
    · cases hgg : gains with
      | true => exact z6 hgg x l' hx hl' hh
      | false => exact z7 hgg _
    · have e : a_change D s c fact wc p l k = a_kids D (nI T) fact p l k gains np 0 s1 := by
        unfold a_change
        simp only [hs1]
        by_cases h85 : D 85 k = -1
        · rw [if_pos h85, a_kids_none hT h85 fact p l gains w10 np 0 (by omega)]
        · rw [if_neg h85, enp, hcT, hg]
      rw [e]
      exact z8
  have at17 : ∀ g : Bool, g = decide (D 81 k = 0) → q_W β xs L (d + 2) 67 17 [.ref 38, .int (nI p), .int (nI l), .int (nI k), .retAddr 0, .retAddr 0, .retAddr 0, .retAddr 0, .retAddr 0] [.int (a_is g)] (G, I, J) Q := by
    intro g hg
    refine g_67_17 hR _ _ _ _ ?_
    rw [ep, e5, c5, e47]
    refine ⟨fun z => ⟨ip, ip, i5, i5, ?_⟩, fun z => ⟨ip, ip, ?_⟩⟩
    · have gf : g = false := a_is_0.mp z
      have hS2 := c_loseS hS hp20 hl
      refine at106 g G _ J j (a_lose s p l) n _ hg (by rw [← hg, gf]; rfl) hL (c_J.rf J) (((q_F.rf c_sc I).up _ rfl).up _ rfl) (((c_ct.rf I).up _ _ (by decide) (by decide) (by decide) (by decide)).up _ _ (by decide) (by decide) (by decide) (by decide)) (fun _ => rfl) (fun q => absurd (gf.symm.trans q) (by decide)) (fun _ _ => rfl) (fun q => absurd (gf.symm.trans q) (by decide)) hS2 (hbo.kp (a_kp_lose s p l)) ?_ (fun q => absurd (gf.symm.trans q) (by decide)) hn (by omega)
      rw [a_lose_bt _ _ _ _ (by omega) (by omega), gf]
      simp
    · have gt : g = true := by
        cases g
        · exact absurd rfl z
        · rfl
      have h81 : D 81 k = 0 := by rw [gt] at hg; exact of_decide_eq_true hg.symm
      have hpl := hk0 h81
      have hle := c_leans (β := β) (xs := xs) (L := L) (G := G) (I := am_u I 47 p (s 0 p ||| a_bit l)) (J := J) (d := d + 1) hR (D := D) (s := s) (c := c) (wc := wc) hp20 hl hC (h56 p hp).1 (h56 p hp).2 (hDR p hp).1 (hDR p hp).2 (fun x hx hxp => by rw [am_u_ne (Or.inr hxp)]; exact (hS.1 x hx).1) (fun x hx hb2 => (hS.2.2.1 x l hx hl).1 hb2) hwd
      refine q_useI hle (Nat.le_refl _) ?_
      rw [hC.2.1, hfa]
      refine c_gainS (d := d) hL hS hn (by omega) hp20 hl hk hpl c.1 fact 0 (a_lean D s c wc p l) (fun G' I' J' j' w1 w2 w3 w4 w5 w6 w7 => ?_)
      refine at106 g G' I' J' j' _ (n + 1) (nI n) hg (by rw [← hg, gt]; rfl) w1 w2 w3 w4 w5 (fun _ => w6) (fun q => absurd (gt.symm.trans q) (by decide)) (fun _ x hx => ?_) w7 (hbo.kp (a_kp_gain _ _ _ _ _ _ _ _)) ?_ (fun _ => ?_) (a_gain_n hn (by omega) _ _ _ _ _ _ _) (Nat.le_refl _)
      · rw [a_gain_bt _ _ _ _ _ _ _ _ _ (by omega) (by omega), hx]
        rfl
      · rw [a_gain_bt _ _ _ _ _ _ _ _ _ (by omega) (by omega), gt]
        simp
      · rw [a_gain_8, if_pos rfl]
        exact hn
  refine g_67_0 hR _ _ _ ?_
  rw [ek, h25]
  exact ⟨ik, fun z => at17 false (by simp [z]), fun z => at17 true (by simp [z])⟩
end C3

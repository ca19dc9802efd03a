/-! ===== the class: a person is asked ===== -/
theorem a_kids_bt (D : a_F) (today fact : Int32) (p l k : Nat) (gains : Bool) (hl : l < 32) {x l' : Nat} (hl' : l' < 32) (hne : l' ≠ l) : ∀ n c s, bt (a_kids D today fact p l k gains n c s 0 x) l' = bt (s 0 x) l'
  | 0, c, s => rfl
  | n + 1, c, s => by
    unfold a_kids
    rw [a_kids_bt D today fact p l k gains hl hl' hne n (c + 1)]
    split
    · split
      · rw [a_gain_bt _ _ _ _ _ _ _ _ _ hl hl']
        simp [hne]
      · rw [a_lose_bt _ _ _ _ hl hl']
        simp [hne]
    · rfl
theorem a_change_bt (D s : a_F) (c : a_C) (fact : Int32) (wc : Nat → Int32) (p l k : Nat) (hl : l < 32) {x l' : Nat} (hl' : l' < 32) (hne : l' ≠ l) : bt (a_change D s c fact wc p l k 0 x) l' = bt (s 0 x) l' := by
  have key : bt ((if decide (D 81 k = 0) = true then a_gain s c.1 fact p l k (a_lean D s c wc p l) 0 else a_lose s p l) 0 x) l' = bt (s 0 x) l' := by
    split
    · rw [a_gain_bt _ _ _ _ _ _ _ _ _ hl hl']
      simp [hne]
    · rw [a_lose_bt _ _ _ _ hl hl']
      simp [hne]
  unfold a_change
  try dsimp only
  split
  · exact key
  · rw [a_kids_bt _ _ _ _ _ _ _ hl hl' hne]
    exact key
/-- came stays where bonds stood -/
def c_4s (I I' s : a_F) : Prop := ∀ x l', x < 20 → l' < 5 → bt (s 0 x) l' = true → I' 43 (5 * x + l') = I 43 (5 * x + l')
section C7
variable {β : Bool} {xs : Nat → Int32} {L : Nat}
/-- all that the asking leans on -/
theorem c_choose {d nl nq np nf na j T : Nat} {G : am_G} {J : Nat → Nat → Int64} (hR : q_RT G) {D I s : a_F} (hD : c_D nl nq np nf na D I) (hP : a_DP nl nq np na D) (hA : a_DA nl na D) (hS : c_S nq j I s) (hok : a_ok np nq s) (hbo : a_bo T np s) (hmv : a_mv nq s) (hbb : a_bb nl s) (hT : T < 2 ^ 31) {c : a_C} {p l w : Nat} (hp : p < np) (hl : l < 5) (hC : c_C I c p w) (hpl : a_nn nq c.2.2.1) (h6w : w = 6 → I 41 3 = nI l)
    {force : Int32} (hask : ∀ a, a < na → bt (I 41 5) a = (bt force a && bt (I 23 a) w)) : q_W β xs L (d + 3) 63 0 [.ref 38, .int (nI p), .int (nI l), .retAddr 0, .retAddr 0, .retAddr 0, .retAddr 0, .retAddr 0] [] (G, I, J) (fun o h => ∃ v I', o = .inl (some (.int v)) ∧ h = (G, I', J) ∧ v = a_pick D s c force p l ∧ r_fw 56 I I') := by
  obtain ⟨⟨p3, p5, p32⟩, ⟨b1, b2, b3, b4⟩, hpp⟩ := hP
  have hp20 : p < 20 := by omega
  have ep : (nI p).toNatClampNeg = p := nI_clamp (by omega)
  have ip : am_is (nI p) 20 = true := am_is_nI hp20 (by omega)
  obtain ⟨e4, e5, e6⟩ := hD.2.2.1 p hp
  have ew : c.2.1 = nI (w + 8) := hC.2.2.2.1
  have hv : ∀ I', r_fw 56 I I' → ∀ i, i < 13 → q_W β xs L (d + 1) 66 0 [.ref 38, .int (nI i), .int (nI p), .int (nI l), .retAddr 0, .retAddr 0, .retAddr 0, .retAddr 0, .retAddr 0, .retAddr 0, .retAddr 0] [] (G, I', J) (fun o h => o = .inl (some (.int (a_val D s c p l i))) ∧ h = (G, I', J)) := by
    intro I' hf i hi
    have f1 : c_f I I' := (c_f.rf I).fw hf
    refine c_val (β := β) (xs := xs) (L := L) (d := d) hR (hS.f f1) b1 b2 p3 hok hbo hmv hbb hT b3 hp hl ?_ ?_ ?_ ((hpp p hp).1.mono b3) ((hpp p hp).2.mono b3) (hC.ct f1.ct) hpl (fun q => (f1.ct.1 3).trans (h6w q)) hi
    · rw [hf 4 (by decide)]; exact e4
    · rw [hf 5 (by decide)]; exact e5
    · rw [hf 6 (by decide)]; exact e6
  have at19 : ∀ b : Bool, b = bt (s 0 p) l → q_W β xs L (d + 3) 63 19 [.ref 38, .int (nI p), .int (nI l), .retAddr 0, .retAddr 0, .retAddr 0, .retAddr 0, .retAddr 0] [.int (a_is b)] (G, I, J) (fun o h => ∃ v I', o = .inl (some (.int v)) ∧ h = (G, I', J) ∧ v = a_pick D s c force p l ∧ r_fw 56 I I') := by
    intro b hb
    refine g_63_19 hR _ _ _ ?_
    refine c_chooseL (d := d) hR (I0 := I) hD hA b4 hl hC.1 hC.2.2.1 hask hv na 0 I _ _ _ rfl rfl rfl (by omega) (r_fw.rf 56 I) (fun I' q => ⟨_, I', rfl, rfl, ?_, q⟩)
    unfold a_pick
    rw [p32, show a_ix (nI na) = na from nI_clamp (by omega), ew, hb]
    rfl
  refine g_63_0 hR _ _ ?_
  rw [ep, (hS.1 p hp20).1, s_bit1 _ (by omega)]
  exact ⟨ip, fun z => at19 false (by simpa using z), fun z => at19 true z.symm⟩
theorem c_ask1 {d nl nq np nf na j T : Nat} {G : am_G} {J : Nat → Nat → Int64} (hR : q_RT G) {D I0 s : a_F} (hD : c_D nl nq np nf na D I0) (hP : a_DP nl nq np na D) (hA : a_DA nl na D) (hS : c_S nq j I0 s) (hok : a_ok np nq s) (hbo : a_bo T np s) (hmv : a_mv nq s) (hbb : a_bb nl s) (hT : T < 2 ^ 31) {c : a_C} {p w lo hi : Nat} (hp : p < np) (hC : c_C I0 c p w) (hpl : a_nn nq c.2.2.1) (h6w : w = 6 → ∀ l, lo ≤ l → l < hi → I0 41 3 = nI l)
    {force : Int32} (hask : ∀ a, a < na → bt (I0 41 5) a = (bt force a && bt (I0 23 a) w)) (hhi : hi ≤ 5) (h3 : ∀ l, l ≤ 5 → (I0 41 11 < nI l ↔ hi ≤ l)) {Q : am_O → am_H → Prop} :
    ∀ m l (I : a_F), lo ≤ l → l + m = hi → c_f I0 I → (∀ i, lo ≤ i → i < l → I 55 i = a_pick D s c force p i) →
      (∀ I' i2, c_f I0 I' → (∀ i, lo ≤ i → i < hi → I' 55 i = a_pick D s c force p i) → q_W β xs L (d + 4) 62 42 [.ref 38, .int (nI p), .int i2] [] (G, I', J) Q) →
      q_W β xs L (d + 4) 62 8 [.ref 38, .int (nI p), .int (nI l)] [] (G, I, J) Q
  | 0, l, I, hlo, hlm, hf, hch, hQ => by
    have e : l = hi := by omega
    subst e
    have r41 : I 41 11 = I0 41 11 := congrFun (hf 41 (by decide) (by decide)) 11
    exact g_62_8 hR _ _ ⟨fun _ => hQ I _ hf hch, fun z => absurd ((h3 l hhi).mpr (Nat.le_refl _)) (by rw [← r41]; exact z)⟩
  | m + 1, l, I, hlo, hlm, hf, hch, hQ => by
    have el : (nI l).toNatClampNeg = l := nI_clamp (by omega)
    have r41 : ∀ i, I 41 i = I0 41 i := fun i => congrFun (hf 41 (by decide) (by decide)) i
    have r23 : ∀ i, I 23 i = I0 23 i := fun i => congrFun (hf 23 (by decide) (by decide)) i
    refine g_62_8 hR _ _ ⟨fun z => absurd ((h3 l (by omega)).mp (by rw [← r41]; exact z)) (by omega), fun _ => ⟨fun z => absurd ((nI_ltI (b := 5) (by omega) (by omega)).mpr (by omega)) z, fun _ => ?_⟩⟩
    refine q_useVI (c_choose (β := β) (xs := xs) (L := L) (d := d) hR (hD.F hf.F) hP hA (hS.f hf) hok hbo hmv hbb hT hp (by omega) (hC.ct hf.ct) hpl (fun q => (r41 3).trans (h6w q l hlo (by omega))) (force := force) (fun a ha => by rw [r41, r23]; exact hask a ha)) (Nat.le_refl _) (fun v I1 hB => ?_)
    obtain ⟨q1, q2⟩ := hB
    rw [el, nI_1]
    refine ⟨am_is_nI (by omega) (by omega), ?_⟩
    refine c_ask1 (d := d) hR hD hP hA hS hok hbo hmv hbb hT hp hC hpl h6w hask hhi h3 m (l + 1) _ (by omega) (by omega) ((hf.fw q2).up _ _) (fun i h1 h2 => ?_) hQ
    by_cases hil : i = l
    · subst hil
      rw [am_u_same]
      exact q1
    · rw [am_u_ne (Or.inr hil), q2 55 (by decide)]
      exact hch i h1 (by omega)
theorem c_ask2 {d e nl nq np nf na T : Nat} {D I0 s0 : a_F} {J0 : Nat → Nat → Int64} (hD : c_D nl nq np nf na D I0) (hP : a_DP nl nq np na D) (hA : a_DA nl na D) (hDR : a_DR np D) (hT : T < 2 ^ 31) {c : a_C} (hcT : c.1 = nI T) {p w lo hi : Nat} (hp : p < np) (hC : c_C I0 c p w) {fact force : Int32} (hfa : I0 41 4 = fact) (hhi : hi ≤ 5) (h3 : ∀ l, l ≤ 5 → (I0 41 11 < nI l ↔ hi ≤ l)) {wc : Nat → Int32} {sp : Int32} (hsp : w = 1 → ∃ q, q < 20 ∧ sp = nI q ∧ ∀ l, l < 5 → bt c.2.2.2.2 l = true → I0 43 (5 * q + l) = wc l) {Q : am_O → am_H → Prop} :
    ∀ m l (G : am_G) (I : a_F) (J : Nat → Nat → Int64) (j : Nat) (s : a_F) (n : Nat), lo ≤ l → l + m = hi → c_L e j G → c_J J0 J → q_F c_sc I0 I → c_ct I0 I → (∀ i, lo ≤ i → i < hi → I 55 i = a_pick D s0 c force p i) → c_4s I0 I s0 → (∀ x l', l ≤ l' → l' < 5 → bt (s 0 x) l' = bt (s0 0 x) l') → (w = 1 → ∀ q l', sp = nI q → l ≤ l' → l' < 5 → q < 20 → I 43 (5 * q + l') = I0 43 (5 * q + l')) → c_S nq j I s → a_bo T np s → s 3 p = sp → s 17 0 = nI n → n + 21 * m < 29900 →
      (∀ (G' : am_G) (I' : a_F) (J' : Nat → Nat → Int64) (j' : Nat), c_L e j' G' → c_J J0 J' → q_F c_sc I0 I' → c_ct I0 I' → c_4s I0 I' s0 → c_S nq j' I' (a_changes D c fact wc (a_pick D s0 c force p) p m l s) → Q (.inl none) (G', I', J')) →
      q_W β xs L (d + 4) 62 50 [.ref 38, .int (nI p), .int (nI l)] [] (G, I, J) Q
  | 0, l, G, I, J, j, s, n, hlo, hlm, hL, hJ, hf, hct, hch, h4, hbts, hw43, hS, hbo, hs3, hn, hb, hQ => by
    have e : l = hi := by omega
    subst e
    exact g_62_50 hL.2.1 _ _ ⟨fun _ => g_62_94 hL.2.1 _ _ (hQ G I J j hL hJ hf hct h4 hS), fun z => absurd ((h3 l hhi).mpr (Nat.le_refl _)) (by rw [← hct.1 11]; exact z)⟩
  | m + 1, l, G, I, J, j, s, n, hlo, hlm, hL, hJ, hf, hct, hch, h4, hbts, hw43, hS, hbo, hs3, hn, hb, hQ => by
    have hR := hL.2.1
    have hn5 := hP.2.1
    have el : (nI l).toNatClampNeg = l := nI_clamp (by omega)
    have il : am_is (nI l) 5 = true := am_is_nI (by omega) (by omega)
    have hc := hch l hlo (by omega)
    have next : ∀ (G1 : am_G) (I1 : a_F) (J1 : Nat → Nat → Int64) (j1 : Nat) (s1 : a_F) (n1 : Nat), a_changes D c fact wc (a_pick D s0 c force p) p (m + 1) l s = a_changes D c fact wc (a_pick D s0 c force p) p m (l + 1) s1 → c_L e j1 G1 → c_J J0 J1 → q_F c_sc I0 I1 → c_ct I0 I1 → (∀ i, lo ≤ i → i < hi → I1 55 i = a_pick D s0 c force p i) → c_4s I0 I1 s0 → (∀ x l', l + 1 ≤ l' → l' < 5 → bt (s1 0 x) l' = bt (s0 0 x) l') → (w = 1 → ∀ q l', sp = nI q → l + 1 ≤ l' → l' < 5 → q < 20 → I1 43 (5 * q + l') = I0 43 (5 * q + l')) → c_S nq j1 I1 s1 → a_bo T np s1 → s1 3 p = sp → s1 17 0 = nI n1 → n1 ≤ n + 21 →
        q_W β xs L (d + 4) 62 88 [.ref 38, .int (nI p), .int (nI l)] [] (G1, I1, J1) Q := by
      intro G1 I1 J1 j1 s1 n1 he w1 w2 w3 w4 w5 w6 w7 w8 w9 w10 w11 w12 w13
      refine g_62_88 w1.2.1 _ _ ?_
      rw [nI_1]
      exact c_ask2 (d := d) hD hP hA hDR hT hcT hp hC hfa hhi h3 hsp m (l + 1) G1 I1 J1 j1 s1 n1 (by omega) (by omega) w1 w2 w3 w4 w5 w6 w7 w8 w9 w10 w11 w12 (by omega) (fun G' I' J' j' z1 z2 z3 z4 z5 z6 => hQ G' I' J' j' z1 z2 z3 z4 z5 (he ▸ z6))
    refine g_62_50 hR _ _ ⟨fun z => absurd ((h3 l (by omega)).mp (by rw [← hct.1 11]; exact z)) (by omega), fun _ => ⟨fun z => absurd ((nI_ltI (b := 5) (by omega) (by omega)).mpr (by omega)) z, fun _ => ⟨il, ?_⟩⟩⟩
    rw [el, hc]
    refine ⟨fun z => next G I J j s n (by show a_changes D c fact wc _ p m (l + 1) (if _ then _ else _) = _; rw [if_pos z]) hL hJ hf hct hch h4 (fun x l' h1 h2 => hbts x l' (by omega) h2) (fun q x l' h1 h2 h3 h4 => hw43 q x l' h1 (by omega) h3 h4) hS hbo hs3 hn (by omega), fun z => ⟨il, ?_⟩⟩
    -- the clause
    have hsp2 := a_choose_sp hA (a_val D s0 c p l) c.2.1 (if bt (s0 0 p) l = true then 1 else 0) force l na 0 (by omega)
    have epk : a_pick D s0 c force p l = a_choose D (a_val D s0 c p l) c.2.1 (if bt (s0 0 p) l = true then 1 else 0) force l na 0 := by
      unfold a_pick
      rw [hP.1.2.2, show a_ix (nI na) = na from nI_clamp (by omega)]
    rw [← epk] at hsp2
    rcases hsp2 with h | ⟨a', c', cn, ha', hcn, hcn2, hc', hk, hkw⟩
    · exact absurd h z
    obtain ⟨-, -, -, -, -, -, -, d8⟩ := hD.2.2.2.2 a' ha'
    rw [hcn2, show a_ix (nI cn) = cn from nI_clamp (by omega)] at d8
    have h01 : D 81 (12 * a' + c') = 0 ∨ D 81 (12 * a' + c') = 1 := by
      rw [hkw]
      split
      · exact Or.inr rfl
      · exact Or.inl rfl
    have hne4 : ¬ D 81 (12 * a' + c') = 4 := fun q => by
      rcases h01 with h | h <;> (rw [h] at q; exact absurd q (by decide))
    rcases d8 c' hc' with ⟨q1, -⟩ | ⟨-, q2, -, ⟨q7, -⟩, -⟩
    · exact absurd q1 hne4
    have hbl : bt (s 0 p) l = bt (s0 0 p) l := hbts p l (Nat.le_refl _) (by omega)
    rw [hk]
    refine c_change (d := d + 1) hL hS (D := D) (k := 12 * a' + c') hp (by omega) (by omega) ((hf 3 3 rfl).trans hD.1.2.2.1) hn5.2.2.1 hP.1.2.1 (fun x hx => ⟨(hf 5 x rfl).trans (hD.2.2.1 x hx).2.1, (hf 6 x rfl).trans (hD.2.2.1 x hx).2.2⟩) hDR ((hf 25 _ rfl).trans q2) ((hf 30 _ rfl).trans q7) (hC.ct hct) hT hcT ((hct.1 4).trans hfa) hbo (fun q => ?_) hn (by omega) (wc := wc) (fun hw hbw => ?_) (fun G' I' J' j' w1 w2 w3 w4 w5 w6 w7 => ?_)
    · rw [hbl]
      rw [hkw] at q
      cases hz : bt (s0 0 p) l with
      | false => rfl
      | true => rw [if_pos hz] at q; exact absurd q (by decide)
    · obtain ⟨q, hq, hq2, hq3⟩ := hsp hw
      refine ⟨q, hq, ?_, ?_⟩
      · rw [(hS.1 p (by omega)).2.2.2.1, hs3, hq2]
      · rw [hw43 hw q l hq2 (Nat.le_refl _) (by omega) hq]
        exact hq3 l (by omega) hbw
    · obtain ⟨n1, y1, y2⟩ := a_change_n hP.1.2.1 hn5.2.2.1 c fact wc p l (12 * a' + c') hn (by omega)
      have k1 := a_kn_le (D := D) (p := p) np 0
      refine next G' I' J' j' (a_change D s c fact wc p l (12 * a' + c')) n1 ?_ w1 (hJ.tr w2) (hf.tr w3) (hct.tr w4) (fun i h1 h2 => (w5 i).trans (hch i h1 h2)) (fun x l' hx hl' hh => ?_) (fun x l' h1 h2 => ?_) (fun hw q l' h1 h2 h3 h4 => ?_) w7 (hbo.kp (a_kp_change _ _ _ _ _ _ _ _)) ?_ y1 (by omega)
      · show a_changes D c fact wc _ p m (l + 1) (if _ then _ else _) = _
        rw [if_neg z, hk, show a_ix (nI (12 * a' + c')) = 12 * a' + c' from nI_clamp (by omega)]
      · rw [w6 x l' hx hl' ?_]
        · exact h4 x l' hx hl' hh
        · by_cases hll : l' = l
          · subst hll
            exact Or.inr (by rw [hbts x l' (Nat.le_refl _) hl']; exact hh)
          · exact Or.inl hll
      · rw [a_change_bt _ _ _ _ _ _ _ _ (by omega) (by omega) (by omega)]
        exact hbts x l' (by omega) h2
      · rw [w6 q l' h4 h3 (Or.inl (by omega))]
        exact hw43 hw q l' h1 (by omega) h3 h4
      · rw [a_kp_change D s c fact wc p l _ 3 (by decide) (by decide)]
        exact hs3
theorem c_ask {d e j nl nq np nf na T : Nat} {G : am_G} {D I s : a_F} {J : Nat → Nat → Int64} (hL : c_L e j G) (hD : c_D nl nq np nf na D I) (hP : a_DP nl nq np na D) (hA : a_DA nl na D) (hDR : a_DR np D) (hS : c_S nq j I s) (hok : a_ok np nq s) (hbo : a_bo T np s) (hmv : a_mv nq s) (hbb : a_bb nl s) (hT : T < 2 ^ 31) {c : a_C} (hcT : c.1 = nI T) {p w lo m : Nat} (hp : p < np) (hC : c_C I c p w) (hpl : a_nn nq c.2.2.1) (h6w : w = 6 → ∀ l, lo ≤ l → l < lo + m → I 41 3 = nI l)
    {fact force : Int32} (hfa : I 41 4 = fact) (hask : ∀ a, a < na → bt (I 41 5) a = (bt force a && bt (I 23 a) w)) (h10 : I 41 10 = nI lo) (hhi : lo + m ≤ 5) (h3 : ∀ l, l ≤ 5 → (I 41 11 < nI l ↔ lo + m ≤ l)) {wc : Nat → Int32} (hsp : w = 1 → ∃ q, q < 20 ∧ s 3 p = nI q ∧ ∀ l, l < 5 → bt c.2.2.2.2 l = true → I 43 (5 * q + l) = wc l) {n : Nat} (hn : s 17 0 = nI n) (hb : n + 21 * m < 29900) {Q : am_O → am_H → Prop}
    (hQ : ∀ (G' : am_G) (I' : a_F) (J' : Nat → Nat → Int64) (j' : Nat), c_L e j' G' → c_J J J' → q_F c_sc I I' → c_ct I I' → c_4s I I' s → c_S nq j' I' (a_ask D c fact force wc lo m p s) → Q (.inl none) (G', I', J')) :
    q_W β xs L (d + 4) 62 0 [.ref 38, .int (nI p), .retAddr 0] [] (G, I, J) Q := by
  have hR := hL.2.1
  refine g_62_0 hR _ ?_
  rw [h10]
  refine c_ask1 (d := d) hR (I0 := I) (force := force) hD hP hA hS hok hbo hmv hbb hT hp hC hpl h6w hask hhi h3 m lo I (Nat.le_refl _) rfl (c_f.rf I) (fun i h1 h2 => absurd h1 (by omega)) (fun I1 i2 f1 hch => ?_)
  refine g_62_42 hR _ _ ?_
  rw [show I1 41 10 = nI lo from (congrFun (f1 41 (by decide) (by decide)) 10).trans h10]
  have r43 : ∀ i, I1 43 i = I 43 i := fun i => congrFun (f1 43 (by decide) (by decide)) i
  exact c_ask2 (d := d) (I0 := I) (J0 := J) (s0 := s) (force := force) hD hP hA hDR hT hcT hp hC hfa hhi h3 (sp := s 3 p) hsp m lo G I1 J j s n (Nat.le_refl _) rfl hL (c_J.rf J) f1.F f1.ct hch (fun x l' _ _ _ => r43 _) (fun _ _ _ _ => rfl) (fun _ q l' _ _ _ _ => r43 _) (hS.f f1) hbo rfl hn hb hQ
end C7

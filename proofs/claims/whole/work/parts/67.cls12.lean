/-! ===== the class: one event of the calendar ===== -/
theorem c_ok_fact {nl nq np nf na T : Nat} {D s : a_F} (hP : a_DP nl nq np na D) (hF : a_DF nl nq np nf D) (hT : T < 2 ^ 31) (hok : c_ok T nl np nq s) (force : Int32) {f : Nat} (hf : f < nf) : c_ok T nl np nq (a_fact D (nI T) force f s) := by
  have hn5 := hP.2.1
  have e3 : a_ix (D 59 3) = nl := by rw [hP.1.1]; exact nI_clamp (by omega)
  obtain ⟨⟨kd, hk, hk2, hp, hl, hq⟩, -⟩ := hF f hf
  obtain ⟨o1, o2, o3, o4⟩ := hok
  unfold a_fact
  split
  · rename_i z
    have hkd : kd = 0 := nI_inj2 (b := 0) (by omega) (by omega) (hk2.symm.trans z)
    obtain ⟨q, hq1, hq2⟩ := hq (by omega)
    unfold a_birth
    split
    · rw [hq2, e3]
      refine c_ok.ask ⟨a_ok_b o1 _ _ hq1, fun x hx => ?_, o3, o4⟩ D _ _ _ _ (by omega) _
      by_cases hxp : x = a_ix (D 65 f)
      · subst hxp
        refine Or.inr ⟨T, Nat.le_refl _, ?_⟩
        rw [am_u_ne (Or.inl (by decide)), am_u_same]
      · rw [am_u_ne (Or.inl (by decide)), am_u_ne (Or.inr hxp)]
        exact o2 x hx
    · exact ⟨o1, o2, o3, o4⟩
  · split
    · rename_i z
      have hkd : kd = 1 := nI_inj2 (b := 1) (by omega) (by omega) (hk2.symm.trans z)
      obtain ⟨p, hp1, hp2, hp3⟩ := hp (by omega)
      obtain ⟨q, hq1, -, hq3⟩ := hp3 hkd
      rw [hp2, hq3, show a_ix (nI p) = p from nI_clamp (by omega), show a_ix (nI q) = q from nI_clamp (by omega)]
      unfold a_wed
      rw [e3]
      exact c_ok.ask (c_ok.ask ⟨a_ok_w o1 hp1 hq1, o2, o3, o4⟩ D _ _ _ _ (by omega) _) D _ _ _ _ (by omega) _
    · split
      · rw [e3]
        refine c_ok.all D _ _ _ _ (by omega) _ _ ⟨fun p hp => o1 p hp, o2, fun x hx => ?_, o4⟩
        by_cases hxq : x = a_ix (D 67 f)
        · subst hxq
          exact Or.inr ⟨T, hT, am_u_same⟩
        · rw [am_u_ne (Or.inr hxq), am_u_ne (Or.inl (by decide))]
          exact o3 x hx
      · split
        · rename_i z
          have hkd : kd = 6 := nI_inj2 (b := 6) (by omega) (by omega) (hk2.symm.trans z)
          obtain ⟨q, hq1, hq2⟩ := hq (by omega)
          rw [hq2]
          exact ⟨a_ok_s o1 _ _ hq1, o2, o3, o4⟩
        · rw [e3]
          exact c_ok.ask ⟨o1, o2, o3, o4⟩ D _ _ _ _ (by omega) _
theorem c_ok_act {nl nq np na T : Nat} {D s : a_F} (hP : a_DP nl nq np na D) (hA : a_DA nl na D) (hok : c_ok T nl np nq s) (today force : Int32) {a : Nat} (ha : a < na) : c_ok T nl np nq (a_act D today force a s) := by
  have hn5 := hP.2.1
  obtain ⟨⟨l, hl, hl2⟩, -⟩ := hA a ha
  unfold a_act
  split
  · rw [hl2, show a_ix (nI l) = l from nI_clamp (by omega)]
    exact c_ok.all D _ _ _ _ (by omega) _ _ hok
  · exact hok
theorem c_ok.mono {T T' nl np nq : Nat} {s : a_F} (h : c_ok T nl np nq s) (hT : T ≤ T') : c_ok T' nl np nq s := ⟨h.1, fun p hp => (h.2.1 p hp).imp id (fun ⟨b, h1, h2⟩ => ⟨b, by omega, h2⟩), h.2.2⟩
section C12
variable {β : Bool} {xs : Nat → Int32} {L : Nat}
theorem c_beginAct {d nl nq np nf na : Nat} {G : am_G} {D I : a_F} {J : Nat → Nat → Int64} (hR : q_RT G) (hD : c_D nl nq np nf na D I) (hDn : D 59 32 = nI na) (hna : na ≤ 12) {k wo : Int32} (hkn : ∀ a, a < na → bt (I 38 18) a = a_knA D k wo a) {today : Int32} (ht : I 41 0 = today) {a l : Nat} (ha : a < na) (hl : D 74 a = nI l) {Q : am_O → am_H → Prop}
    (hQ : ∀ I', r_fw 41 I I' → I' 41 0 = I 41 0 → I' 41 4 = I 41 4 → I' 41 1 = nI 6 → I' 41 2 = -1 → I' 41 3 = nI l → I' 41 5 = (if bt (a_force D today k wo) a = true then s_bits (fun a => bt (a_force D today k wo) a && bt (I 23 a) 6) na else 0) → I' 41 6 = -1 → I' 41 7 = -1 → I' 41 10 = nI l → I' 41 11 = nI l → Q (.inl none) (G, I', J)) :
    q_W β xs L (d + 1) 56 0 [.ref 38, .int (nI a), .retAddr 0, .retAddr 0] [] (G, I, J) Q := by
  have ea : (nI a).toNatClampNeg = a := nI_clamp (by omega)
  have ia : am_is (nI a) 12 = true := am_is_nI (by omega) (by omega)
  have e17 : I 17 a = nI l := (hD.2.2.2.2 a ha).1.trans hl
  have at89 : ∀ (i2 i3 asked : Int32), asked = (if bt (a_force D today k wo) a = true then s_bits (fun a => bt (a_force D today k wo) a && bt (I 23 a) 6) na else 0) → q_W β xs L (d + 1) 56 89 [.ref 38, .int (nI a), .int i2, .int i3] [.int asked, .ref 41] (G, am_u (am_u (am_u I 41 1 6) 41 2 (-1)) 41 3 (nI l), J) Q := by
    intro i2 i3 asked h
    refine g_56_89 hR _ _ _ _ ⟨ia, ia, ?_⟩
    have z17 : am_u (am_u (am_u I 41 1 6) 41 2 (-1)) 41 3 (nI l) 17 a = nI l := e17
    rw [ea, z17]
    refine hQ _ ((((((((r_fw.rf 41 I).up _ _).up _ _).up _ _).up _ _).up _ _).up _ _).up _ _ |>.up _ _) rfl rfl rfl rfl ?_ ?_ ?_ ?_ ?_ ?_
    · rw [am_u_ne (Or.inr (by decide)), am_u_ne (Or.inr (by decide)), am_u_ne (Or.inr (by decide)), am_u_ne (Or.inr (by decide)), am_u_ne (Or.inr (by decide)), am_u_same]
    · rw [am_u_ne (Or.inr (by decide)), am_u_ne (Or.inr (by decide)), am_u_ne (Or.inr (by decide)), am_u_ne (Or.inr (by decide)), am_u_same]
      exact h
    · rw [am_u_ne (Or.inr (by decide)), am_u_ne (Or.inr (by decide)), am_u_ne (Or.inr (by decide)), am_u_same]
    · rw [am_u_ne (Or.inr (by decide)), am_u_ne (Or.inr (by decide)), am_u_same]
    · rw [am_u_ne (Or.inr (by decide)), am_u_same]
    · rw [am_u_same]
  have at33 : ∀ b : Bool, b = bt (a_force D today k wo) a → q_W β xs L (d + 1) 56 33 [.ref 38, .int (nI a), .int (a_force D today k wo), .retAddr 0] [.int (a_is b)] (G, I, J) Q := by
    intro b hb
    refine g_56_33 hR _ _ _ ?_
    rw [ea, e17]
    refine ⟨ia, fun z => ?_, fun z => ?_⟩
    · have bf : b = false := a_is_0.mp z
      exact at89 _ _ _ (by rw [← hb, bf]; rfl)
    · have btr : b = true := by cases b; exact absurd rfl z; rfl
      have f1 : r_fw 41 I (am_u (am_u (am_u I 41 1 6) 41 2 (-1)) 41 3 (nI l)) := (((r_fw.rf 41 I).up _ _).up _ _).up _ _
      refine q_useI (c_having (β := β) (xs := xs) (L := L) (d := d) hR (hD.F f1.F41).1.2.2.2.2 hna (w := 6) (by decide) _) (Nat.le_refl _) ?_
      exact at89 _ _ _ (by rw [← hb, if_pos btr]; rfl)
  refine g_56_0 hR _ ?_
  rw [ht]
  refine q_useI (c_force (β := β) (xs := xs) (L := L) (d := d) hR hD hDn hna today k wo hkn) (Nat.le_refl _) ?_
  rw [s_bit1 _ (by omega)]
  exact ⟨fun z => at33 false (by simpa using z), fun z => at33 true z.symm⟩
theorem c_event {d e j nl nq np nf na : Nat} {G : am_G} {D I s : a_F} {J : Nat → Nat → Int64} (hL : c_L e j G) (hD : c_D nl nq np nf na D I) (hW : a_D nl nq np nf na D) (hDR : a_DR np D) (hS : c_S nq j I s) {l : List Nat} (hc : c_cal I l) (hl : l.length ≤ 112) (hB : ∀ y ∈ l, y < 128 * 73000) {i x : Nat} (hi : l[i]? = some x) (hx : x % 128 < na ∨ 12 ≤ x % 128 ∧ x % 128 - 12 < nf) (hok : c_ok (x / 128) nl np nq s) {k wo : Int32} (hkn : ∀ a, a < na → bt (I 38 18) a = a_knA D k wo a) {n : Nat} (hn : s 17 0 = nI n) (hb : n < 27700)
    {Q : am_O → am_H → Prop} (i1 i2 i3 : Int32) (l4 : Int64) (v7 v8 : Value) (n7 : am_nl v7 = true) (n8 : am_nl v8 = true)
    (hN : ∀ (G' : am_G) (I' : a_F) (J' : Nat → Nat → Int64) (j' : Nat) (x' y' : Int32), c_L e j' G' → c_J J J' → q_F c_sc I I' → c_cc I I' → c_S nq j' I' (a_event D k wo s x) → q_W β xs L (d + 5) 52 104 [.ref 38, .int i1, .int i2, .int i3, .long l4, .retAddr 0, .int (nI i + 1), .int x', .int y'] [] (G', I', J') Q) :
    q_W β xs L (d + 5) 52 104 [.ref 38, .int i1, .int i2, .int i3, .long l4, .retAddr 0, .int (nI i), v7, v8] [] (G, I, J) Q := by
  have hR := hL.2.1
  obtain ⟨hP, hA, hF, hTT, h6, hf2⟩ := hW
  have hn5 := hP.2.1
  have hil := (List.getElem?_eq_some_iff.mp hi).1
  have hxb := hB x (List.mem_of_getElem? hi)
  have hT : x / 128 < 2 ^ 31 := by omega
  have e3 : a_ix (D 59 3) = nl := by rw [hP.1.1]; exact nI_clamp (by omega)
  have e5 : a_ix (D 59 5) = np := by rw [hP.1.2.1]; exact nI_clamp (by omega)
  refine g_52_104 hR _ _ _ _ _ _ _ n7 n8 ⟨fun z => absurd (by rw [hc.1]; exact (nI_ltI (by omega) (by omega)).mpr hil) z, fun _ => ?_⟩
  refine q_useI (c_dayAt (β := β) (xs := xs) (L := L) (d := d + 4) hR hc hl hB hi) (Nat.le_refl _) ⟨hR, ?_⟩
  refine q_useI (c_factAt (β := β) (xs := xs) (L := L) (d := d + 4) (I := am_u I 41 0 (nI (x / 128))) hR (l := l) hc hl hB hi) (Nat.le_refl _) ⟨hR, ?_⟩
  by_cases hlt : x % 128 < 12
  · -- an act begins
    have ha : x % 128 < na := by omega
    obtain ⟨⟨la, hla, hla2⟩, -⟩ := hA (x % 128) ha
    have he : a_event D k wo s x = a_act D (nI (x / 128)) (a_force D (nI (x / 128)) k wo) (x % 128) s := by
      unfold a_event
      dsimp only
      rw [if_pos hlt]
    rw [he] at hN
    rw [if_pos hlt]
    refine ⟨fun z => absurd rfl z, fun _ => ?_⟩
    have f1 : r_fw 41 I (am_u (am_u I 41 0 (nI (x / 128))) 41 4 (-1)) := ((r_fw.rf 41 I).up _ _).up _ _
    have t1 : am_u (am_u I 41 0 (nI (x / 128))) 41 4 (-1) 41 0 = nI (x / 128) := by rw [am_u_ne (Or.inr (by decide)), am_u_same]
    have t4 : am_u (am_u I 41 0 (nI (x / 128))) 41 4 (-1) 41 4 = -1 := am_u_same
    refine q_useI (c_actAt (β := β) (xs := xs) (L := L) (d := d + 4) (I := am_u (am_u I 41 0 (nI (x / 128))) 41 4 (-1)) hR (l := l) hc hl hB hi) (Nat.le_refl _) ?_
    generalize am_u (am_u I 41 0 (nI (x / 128))) 41 4 (-1) = I1 at f1 t1 t4 ⊢
    have D1 := hD.F f1.F41
    refine c_beginAct (d := d + 3) hR D1 hP.1.2.2 hn5.2.2.2 (k := k) (wo := wo) (fun a ha => by rw [f1.cc.2.2]; exact hkn a ha) t1 ha hla2 (fun I2 w0 w1 w2 w3 w4 w5 w6 w7 w8 w9 w10 => ?_)
    have F2 : r_fw 41 I I2 := fun c hc => (w0 c hc).trans (f1 c hc)
    have D2 := D1.F w0.F41
    have S2 := hS.row F2 (Or.inl rfl)
    by_cases hfb : bt (a_force D (nI (x / 128)) k wo) (x % 128) = true
    · rw [if_pos hfb] at w6
      have e2 : a_act D (nI (x / 128)) (a_force D (nI (x / 128)) k wo) (x % 128) s = a_all D (nI (x / 128), 14, -1, nI la, 0) (-1) (a_force D (nI (x / 128)) k wo) (fun _ => -1) la 1 np 0 s := by
        unfold a_act
        rw [if_pos hfb, hla2, show a_ix (nI la) = la from nI_clamp (by omega), e5]
      rw [e2] at hN
      refine c_tailA (d := d) hL D2 hP hA hDR S2 hok hT (c := (nI (x / 128), 14, -1, nI la, 0)) rfl (w := 6) (lo := la) (m := 1) (fun p _ => ⟨by decide, w1.trans t1, w3, rfl, fun h => by omega, fun _ => rfl, fun h => absurd rfl h, fun h => absurd h (by decide)⟩) (by decide) rfl (by decide) (Or.inl rfl) (fun _ l' h1 h2 => by rw [w5, show l' = la by omega]) (w2.trans t4) (force := a_force D (nI (x / 128)) k wo) (by rw [w6, show I2 23 = I1 23 from w0 23 (by decide)]) w9 (by omega) (fun l' hl' => by rw [w10, nI_ltI (by omega) (by omega)]; omega) w7 (wc := fun _ => -1) hn hb _ _ _ _ _ _ _ n7 n8 (fun G' I' J' j' x' y' u1 u2 u3 u4 u5 => hN G' I' J' j' x' y' u1 u2 (F2.F41.tr u3) (F2.cc.tr u4) u5)
    · rw [if_neg hfb] at w6
      have e2 : a_act D (nI (x / 128)) (a_force D (nI (x / 128)) k wo) (x % 128) s = s := by
        unfold a_act
        rw [if_neg hfb]
      rw [e2] at hN
      exact c_tail0 hR w6 _ _ _ _ _ _ _ n7 n8 (fun x' y' => hN G I2 J j x' y' hL (c_J.rf J) F2.F41 F2.cc S2)
  · -- a fact
    have hfx : x % 128 - 12 < nf := by omega
    have he : a_event D k wo s x = a_fact D (nI (x / 128)) (a_force D (nI (x / 128)) k wo) (x % 128 - 12) s := by
      unfold a_event
      dsimp only
      rw [if_neg hlt]
    rw [he] at hN
    rw [if_neg hlt]
    refine ⟨fun _ => ?_, fun z => absurd z (nI_m1 (by omega))⟩
    generalize x % 128 - 12 = f at hfx hN ⊢
    have f1 : r_fw 41 I (am_u (am_u I 41 0 (nI (x / 128))) 41 4 (nI f)) := ((r_fw.rf 41 I).up _ _).up _ _
    have t1 : am_u (am_u I 41 0 (nI (x / 128))) 41 4 (nI f) 41 0 = nI (x / 128) := by rw [am_u_ne (Or.inr (by decide)), am_u_same]
    have t4 : am_u (am_u I 41 0 (nI (x / 128))) 41 4 (nI f) 41 4 = nI f := am_u_same
    generalize am_u (am_u I 41 0 (nI (x / 128))) 41 4 (nI f) = I1 at f1 t1 t4 ⊢
    generalize x / 128 = T at hT hok hN t1 ⊢
    have D1 := hD.F f1.F41
    have S1 := hS.row f1 (Or.inl rfl)
    obtain ⟨⟨kd, hk, hk2, hp, hl2, hq⟩, -⟩ := hF f hfx
    have k0 : ¬ kd = 0 → ¬ nI kd = 0 := fun h z => h (nI_inj2 (b := 0) (by omega) (by omega) z)
    have k1 : ¬ kd = 1 → ¬ nI kd = 1 := fun h z => h (nI_inj2 (b := 1) (by omega) (by omega) z)
    have k5 : ¬ kd = 5 → ¬ nI kd = 5 := fun h z => h (nI_inj2 (b := 5) (by omega) (by omega) z)
    have k6 : ¬ kd = 6 → ¬ nI kd = 6 := fun h z => h (nI_inj2 (b := 6) (by omega) (by omega) z)
    have r23 : ∀ {I' : a_F}, q_F c_sc I1 I' → ∀ a, I' 23 a = I1 23 a := fun h a => h 23 a rfl
    refine c_happen (d := d + 3) hL D1 hP hF hf2 S1 (k := k) (wo := wo) (fun a ha => by rw [f1.cc.2.2]; exact hkn a ha) hT t1 hfx hk hk2 ?_ ?_ ?_ ?_ ?_ ?_
    · -- a birth
      intro p q I2 hkd hp1 hq1 hp2 hq2 hs1 ⟨u1, u2, u3, u4, u5, u6, u7, u8, u9, u10, u11, u12⟩ u13 u14
      have e2 : a_fact D (nI T) (a_force D (nI T) k wo) f s = a_ask D (nI T, 8, nI q, -1, 0) (nI f) (a_force D (nI T) k wo) (fun _ => -1) 0 nl p (am_u (am_u s 1 p (nI T)) 2 p (nI q)) := by
        unfold a_fact a_birth
        rw [hk2, if_pos (by rw [hkd]; rfl), hp2, show a_ix (nI p) = p from nI_clamp (by omega), if_pos hs1, hq2, e3]
      rw [e2] at hN
      have ok2 : c_ok T nl np nq (am_u (am_u s 1 p (nI T)) 2 p (nI q)) := by
        refine ⟨a_ok_b hok.1 _ _ hq1, fun x hx => ?_, hok.2.2.1, hok.2.2.2⟩
        by_cases hxp : x = p
        · subst hxp
          refine Or.inr ⟨T, Nat.le_refl _, ?_⟩
          rw [am_u_ne (Or.inl (by decide)), am_u_same]
        · rw [am_u_ne (Or.inl (by decide)), am_u_ne (Or.inr hxp)]
          exact hok.2.1 x hx
      refine c_tailB (d := d) hL (D1.F u1) hP hA hDR u14 ok2 hT (c := (nI T, 8, nI q, -1, 0)) rfl hp1 (w := 0) ⟨by decide, u4.trans t1, u6, rfl, fun _ => ⟨u7, nI_m1 (by omega)⟩, fun h => absurd (Or.inl rfl) h, fun _ => u8, fun h => absurd h (by decide)⟩ (by decide) (by decide) (Or.inr ⟨q, hq1, rfl⟩) (u5.trans t4) (force := a_force D (nI T) k wo) ?_ u11 u12 u9 u10 (wc := fun _ => -1) hn hb _ _ _ _ _ _ _ n7 n8 (fun G' I' J' j' x' y' w1 w2 w3 w4 w5 => hN G' I' J' j' x' y' w1 w2 ((f1.F41.tr u1).tr w3) ((f1.cc.tr u2).tr w4) w5)
      rw [u13, show I2 23 = I1 23 from funext (r23 u1)]
    · -- a second birth
      intro p I2 hkd hp1 hp2 hs1 ⟨u1, u2, u3, u4, u5, u6, u7, u8, u9, u10, u11, u12⟩ u13 u14
      have e2 : a_fact D (nI T) (a_force D (nI T) k wo) f s = s := by
        unfold a_fact a_birth
        rw [hk2, if_pos (by rw [hkd]; rfl), hp2, show a_ix (nI p) = p from nI_clamp (by omega), if_neg hs1]
      rw [e2] at hN
      exact c_tail0 hR u13 _ _ _ _ _ _ _ n7 n8 (fun x' y' => hN G I2 J j x' y' hL (c_J.rf J) (f1.F41.tr u1) (f1.cc.tr u2) u14)
    · -- a wedding
      intro p q z I2 hkd hp1 hq1 hpq hz hp2 hq2 hz2 ⟨u1, u2, u3, u4, u5, u6, u7, u8, u9, u10, u11, u12⟩ u13 u14 u15 u16
      have e2 : a_fact D (nI T) (a_force D (nI T) k wo) f s = a_ask D (nI T, 9, nI z, -1, s 0 p) (nI f) (a_force D (nI T) k wo) (fun l => s 8 (5 * p + l)) 0 nl q (a_ask D (nI T, 9, nI z, -1, s 0 q) (nI f) (a_force D (nI T) k wo) (fun l => s 8 (5 * q + l)) 0 nl p (am_u (am_u s 3 p (nI q)) 3 q (nI p))) := by
        unfold a_fact a_wed
        rw [hk2, if_neg (k0 (by omega)), if_pos (by rw [hkd]; rfl), hp2, hq2, show a_ix (nI p) = p from nI_clamp (by omega), show a_ix (nI q) = q from nI_clamp (by omega), hz2, e3]
      rw [e2] at hN
      refine c_tailC (d := d) (s := s) hL (D1.F u1) hP hA hDR hp1 hq1 hpq hz rfl u16 ⟨a_ok_w hok.1 hp1 hq1, hok.2.1, hok.2.2.1, hok.2.2.2⟩ hT (u4.trans t1) u6 u7 u8 (u5.trans t4) (force := a_force D (nI T) k wo) ?_ u11 u12 u9 u10 u14 u15 hn hb _ _ _ _ _ _ _ n7 n8 (fun G' I' J' j' x' y' w1 w2 w3 w4 w5 => hN G' I' J' j' x' y' w1 w2 ((f1.F41.tr u1).tr w3) ((f1.cc.tr u2).tr w4) w5)
      rw [u13, show I2 23 = I1 23 from funext (r23 u1)]
    · -- one person
      intro p I2 hk2' hk4 hp1 hp2 ⟨u1, u2, u3, u4, u5, u6, u7, u8, u9, u10, u11, u12⟩ u13 u14
      have ew : nI kd + 8 = nI (kd + 8) := nI_add kd 8
      have e2 : a_fact D (nI T) (a_force D (nI T) k wo) f s = a_ask D (nI T, nI (kd + 8), -1, D 66 f, 0) (nI f) (a_force D (nI T) k wo) (fun _ => -1) 0 nl p s := by
        unfold a_fact
        rw [hk2, if_neg (k0 (by omega)), if_neg (k1 (by omega)), if_neg (k5 (by omega)), if_neg (k6 (by omega)), hp2, show a_ix (nI p) = p from nI_clamp (by omega), e3, ew]
      rw [e2] at hN
      refine c_tailB (d := d) hL (D1.F u1) hP hA hDR u14 hok hT (c := (nI T, nI (kd + 8), -1, D 66 f, 0)) rfl hp1 (w := kd) ⟨by omega, u4.trans t1, u6, rfl, fun h => by omega, fun _ => rfl, fun _ => u8, fun h => by omega⟩ (by omega) (by omega) (Or.inl rfl) (u5.trans t4) (force := a_force D (nI T) k wo) ?_ u11 u12 u9 u10 (wc := fun _ => -1) hn hb _ _ _ _ _ _ _ n7 n8 (fun G' I' J' j' x' y' w1 w2 w3 w4 w5 => hN G' I' J' j' x' y' w1 w2 ((f1.F41.tr u1).tr w3) ((f1.cc.tr u2).tr w4) w5)
      rw [u13, show I2 23 = I1 23 from funext (r23 u1)]
    · -- a border
      intro q I2 hkd hq1 hq2 ⟨u1, u2, u3, u4, u5, u6, u7, u8, u9, u10, u11, u12⟩ u13 u14
      have e2 : a_fact D (nI T) (a_force D (nI T) k wo) f s = a_all D (nI T, 13, nI q, D 66 f, 0) (nI f) (a_force D (nI T) k wo) (fun _ => -1) 0 nl np 0 (am_u (am_u s 6 q (D 66 f)) 7 q (nI T)) := by
        unfold a_fact
        rw [hk2, if_neg (k0 (by omega)), if_neg (k1 (by omega)), if_pos (by rw [hkd]; rfl), hq2, show a_ix (nI q) = q from nI_clamp (by omega), e3, e5]
      rw [e2] at hN
      have ok2 : c_ok T nl np nq (am_u (am_u s 6 q (D 66 f)) 7 q (nI T)) := by
        refine ⟨fun p hp => hok.1 p hp, hok.2.1, fun x hx => ?_, hok.2.2.2⟩
        by_cases hxq : x = q
        · subst hxq
          exact Or.inr ⟨T, hT, am_u_same⟩
        · rw [am_u_ne (Or.inr hxq), am_u_ne (Or.inl (by decide))]
          exact hok.2.2.1 x hx
      refine c_tailA (d := d) hL (D1.F u1) hP hA hDR u14 ok2 hT (c := (nI T, 13, nI q, D 66 f, 0)) rfl (w := 5) (lo := 0) (m := nl) (fun p _ => ⟨by decide, u4.trans t1, u6, rfl, fun _ => ⟨u7, nI_m1 (by omega)⟩, fun h => absurd (Or.inr (Or.inr rfl)) h, fun _ => u8, fun h => absurd h (by decide)⟩) (by decide) rfl (by decide) (Or.inr ⟨q, hq1, rfl⟩) (fun h => absurd h (by decide)) (u5.trans t4) (force := a_force D (nI T) k wo) ?_ u11 (by omega) (fun l' hl' => by rw [u12]; exact r_all hn5.1 l' hl') u9 (wc := fun _ => -1) hn hb _ _ _ _ _ _ _ n7 n8 (fun G' I' J' j' x' y' w1 w2 w3 w4 w5 => hN G' I' J' j' x' y' w1 w2 ((f1.F41.tr u1).tr w3) ((f1.cc.tr u2).tr w4) w5)
      rw [u13, show I2 23 = I1 23 from funext (r23 u1)]
    · -- a stay
      intro p q I2 hkd hp1 hq1 hp2 hq2 ⟨u1, u2, u3, u4, u5, u6, u7, u8, u9, u10, u11, u12⟩ u13 u14
      have e2 : a_fact D (nI T) (a_force D (nI T) k wo) f s = am_u (am_u s 4 p (nI q)) 5 p (nI T) := by
        unfold a_fact
        rw [hk2, if_neg (k0 (by omega)), if_neg (k1 (by omega)), if_neg (k5 (by omega)), if_pos (by rw [hkd]; rfl), hp2, hq2, show a_ix (nI p) = p from nI_clamp (by omega)]
      rw [e2] at hN
      exact c_tail0 hR u13 _ _ _ _ _ _ _ n7 n8 (fun x' y' => hN G I2 J j x' y' hL (c_J.rf J) (f1.F41.tr u1) (f1.cc.tr u2) u14)
end C12

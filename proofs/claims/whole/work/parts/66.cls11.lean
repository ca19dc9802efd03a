/-! ===== the class: whom a happening asks ===== -/
section C11
variable {β : Bool} {xs : Nat → Int32} {L : Nat}
theorem c_tail0 {d : Nat} {G : am_G} {I : a_F} {J : Nat → Nat → Int64} (hR : q_RT G) (h5 : I 41 5 = 0) {Q : am_O → am_H → Prop} (i1 i2 i3 : Int32) (l4 : Int64) (i6 : Int32) (v7 v8 : Value) (n7 : am_nl v7 = true) (n8 : am_nl v8 = true)
    (hN : ∀ x y : Int32, q_W β xs L (d + 5) 52 104 [.ref 38, .int i1, .int i2, .int i3, .long l4, .retAddr 0, .int (i6 + 1), .int x, .int y] [] (G, I, J) Q) :
    q_W β xs L (d + 5) 52 186 [.ref 38, .int i1, .int i2, .int i3, .long l4, .retAddr 0, .int i6, v7, v8] [] (G, I, J) Q := by
  refine g_52_186 hR _ _ _ _ _ _ _ n7 n8 ?_
  have h60 : q_W β xs L (d + 4) 60 0 [.ref 38] [] (G, I, J) (fun o h => o = .inl (some (.int 0)) ∧ h = (G, I, J)) := g_60_0 hR ⟨fun z => absurd h5 z, fun _ => ⟨rfl, rfl⟩⟩
  refine q_useI h60 (Nat.le_refl _) ?_
  exact g_52_195 hR _ _ _ _ _ _ _ ⟨fun _ => hN _ _, fun z => absurd z (by decide)⟩
theorem c_bits {na : Nat} {p : Nat → Bool} (hna : na ≤ 12) {x : Int32} (h : x = s_bits p na) : ∀ a, a < na → bt x a = p a := fun a ha => by
  rw [h, s_bits_bt p na a (by omega) (by omega)]
  simp [ha]
theorem c_tailA {d e j nl nq np nf na T : Nat} {G : am_G} {D I s : a_F} {J : Nat → Nat → Int64} (hL : c_L e j G) (hD : c_D nl nq np nf na D I) (hP : a_DP nl nq np na D) (hA : a_DA nl na D) (hDR : a_DR np D) (hS : c_S nq j I s) (hok : c_ok T nl np nq s) (hT : T < 2 ^ 31) {c : a_C} (hcT : c.1 = nI T) {w lo m : Nat} (hC : ∀ p, p < np → c_C I c p w) (hw7 : w < 7) (hcw : c.2.1 = nI (w + 8)) (hw1 : w ≠ 1) (hpl : a_nn nq c.2.2.1) (h6w : w = 6 → ∀ l, lo ≤ l → l < lo + m → I 41 3 = nI l)
    {fact force : Int32} (hfa : I 41 4 = fact) (h5 : I 41 5 = s_bits (fun a => bt force a && bt (I 23 a) w) na) (h10 : I 41 10 = nI lo) (hhi2 : lo + m ≤ nl) (h3 : ∀ l, l ≤ 5 → (I 41 11 < nI l ↔ lo + m ≤ l)) (h416 : I 41 6 = -1) {wc : Nat → Int32} {n : Nat} (hn : s 17 0 = nI n) (hb : n < 27700) {Q : am_O → am_H → Prop} (i1 i2 i3 : Int32) (l4 : Int64) (i6 : Int32) (v7 v8 : Value) (n7 : am_nl v7 = true) (n8 : am_nl v8 = true)
    (hN : ∀ (G' : am_G) (I' : a_F) (J' : Nat → Nat → Int64) (j' : Nat) (x y : Int32), c_L e j' G' → c_J J J' → q_F c_sc I I' → c_cc I I' → c_S nq j' I' (a_all D c fact force wc lo m np 0 s) → q_W β xs L (d + 5) 52 104 [.ref 38, .int i1, .int i2, .int i3, .long l4, .retAddr 0, .int (i6 + 1), .int x, .int y] [] (G', I', J') Q) :
    q_W β xs L (d + 5) 52 186 [.ref 38, .int i1, .int i2, .int i3, .long l4, .retAddr 0, .int i6, v7, v8] [] (G, I, J) Q := by
  have hR := hL.2.1
  have hn5 := hP.2.1
  by_cases h0 : I 41 5 = 0
  · have hno := s_bits_0 (by omega) (h5.symm.trans h0)
    have e : a_all D c fact force wc lo m np 0 s = s := a_all_none (fun s p l => a_pick_none hD hP hA hw7 hcw hno s p l) fact wc lo m np 0 s
    rw [e] at hN
    exact c_tail0 hR h0 i1 i2 i3 l4 i6 v7 v8 n7 n8 (fun x y => hN G I J j x y hL (c_J.rf J) (q_F.rf _ I) (c_cc.rf I) hS)
  · refine g_52_186 hR _ _ _ _ _ _ _ n7 n8 ?_
    have h60 : q_W β xs L (d + 4) 60 0 [.ref 38] [] (G, I, J) (fun o h => o = .inl (some (.int (nI np))) ∧ h = (G, I, J)) := g_60_0 hR ⟨fun _ => ⟨fun z => absurd h416 z, fun _ => ⟨by rw [hD.1.2.2.1], rfl⟩⟩, fun z => absurd z h0⟩
    refine q_useI h60 (Nat.le_refl _) ?_
    exact c_allL (d := d) (I0 := I) (J0 := J) (force := force) (wc := wc) hD hP hA hDR hT hcT hC hw1 hpl h6w hfa (c_bits hn5.2.2.2 h5) h10 (by omega) hhi2 h3 h416 i1 i2 i3 l4 i6 np 0 G I J j s n (by omega) hL (c_J.rf J) (q_F.rf _ I) (c_ct.rf I) hS hok hn (by omega) hN
theorem c_tailB {d e j nl nq np nf na T : Nat} {G : am_G} {D I s : a_F} {J : Nat → Nat → Int64} (hL : c_L e j G) (hD : c_D nl nq np nf na D I) (hP : a_DP nl nq np na D) (hA : a_DA nl na D) (hDR : a_DR np D) (hS : c_S nq j I s) (hok : c_ok T nl np nq s) (hT : T < 2 ^ 31) {c : a_C} (hcT : c.1 = nI T) {p w : Nat} (hp : p < np) (hC : c_C I c p w) (hw1 : w ≠ 1) (hw6 : w ≠ 6) (hpl : a_nn nq c.2.2.1)
    {fact force : Int32} (hfa : I 41 4 = fact) (h5 : I 41 5 = s_bits (fun a => bt force a && bt (I 23 a) w) na) (h10 : I 41 10 = 0) (h11 : I 41 11 = nI nl - 1) (h416 : I 41 6 = nI p) (h417 : I 41 7 = -1) {wc : Nat → Int32} {n : Nat} (hn : s 17 0 = nI n) (hb : n < 27700) {Q : am_O → am_H → Prop} (i1 i2 i3 : Int32) (l4 : Int64) (i6 : Int32) (v7 v8 : Value) (n7 : am_nl v7 = true) (n8 : am_nl v8 = true)
    (hN : ∀ (G' : am_G) (I' : a_F) (J' : Nat → Nat → Int64) (j' : Nat) (x y : Int32), c_L e j' G' → c_J J J' → q_F c_sc I I' → c_cc I I' → c_S nq j' I' (a_ask D c fact force wc 0 nl p s) → q_W β xs L (d + 5) 52 104 [.ref 38, .int i1, .int i2, .int i3, .long l4, .retAddr 0, .int (i6 + 1), .int x, .int y] [] (G', I', J') Q) :
    q_W β xs L (d + 5) 52 186 [.ref 38, .int i1, .int i2, .int i3, .long l4, .retAddr 0, .int i6, v7, v8] [] (G, I, J) Q := by
  have hR := hL.2.1
  have hn5 := hP.2.1
  by_cases h0 : I 41 5 = 0
  · have hno := s_bits_0 (by omega) (h5.symm.trans h0)
    have e : a_ask D c fact force wc 0 nl p s = s := a_changes_none _ _ _ _ _ _ (fun l => a_pick_none hD hP hA hC.1 hC.2.2.2.1 hno s p l) nl 0 s
    rw [e] at hN
    exact c_tail0 hR h0 i1 i2 i3 l4 i6 v7 v8 n7 n8 (fun x y => hN G I J j x y hL (c_J.rf J) (q_F.rf _ I) (c_cc.rf I) hS)
  · have hm1 : ¬ I 41 6 = -1 := by rw [h416]; exact nI_m1 (by omega)
    refine g_52_186 hR _ _ _ _ _ _ _ n7 n8 ?_
    have h60 : q_W β xs L (d + 4) 60 0 [.ref 38] [] (G, I, J) (fun o h => o = .inl (some (.int 1)) ∧ h = (G, I, J)) := g_60_0 hR ⟨fun _ => ⟨fun _ => ⟨fun z => absurd h417 z, fun _ => g_60_47 hR _ ⟨rfl, rfl⟩⟩, fun z => absurd z hm1⟩, fun z => absurd z h0⟩
    refine q_useI h60 (Nat.le_refl _) ?_
    refine c_step (d := d) hL hD hP hA hDR hS hok hT hcT hp hC hpl (lo := 0) (m := nl) (fun q => absurd q hw6) hfa (force := force) (c_bits hn5.2.2.2 h5) h10 (by omega) (fun l hl => by rw [h11]; exact r_all hn5.1 l hl) (wc := wc) (fun q => absurd q hw1) hn (by omega) _ _ _ _ _ _ _ (by decide) (Or.inr ⟨hm1, Or.inl ⟨rfl, h416⟩⟩) (fun G' I' J' j' w1 w2 w3 w4 w5 w6 => ?_)
    exact g_52_195 w1.2.1 _ _ _ _ _ _ _ ⟨fun _ => hN G' I' J' j' _ _ w1 w2 w3 w4.cc w6, fun z => absurd z (by decide)⟩
theorem c_tailC {d e j nl nq np nf na T : Nat} {G : am_G} {D I s s1 : a_F} {J : Nat → Nat → Int64} (hL : c_L e j G) (hD : c_D nl nq np nf na D I) (hP : a_DP nl nq np na D) (hA : a_DA nl na D) (hDR : a_DR np D) {p q z : Nat} (hp : p < np) (hq : q < np) (hpq : q ≠ p) (hz : z < nq) (hs1 : s1 = am_u (am_u s 3 p (nI q)) 3 q (nI p)) (hS : c_S nq j I s1) (hok : c_ok T nl np nq s1) (hT : T < 2 ^ 31) (h410 : I 41 0 = nI T) (h411 : I 41 1 = nI 1) (h412 : I 41 2 = nI z) (h413 : I 41 3 = -1)
    {fact force : Int32} (hfa : I 41 4 = fact) (h5 : I 41 5 = s_bits (fun a => bt force a && bt (I 23 a) 1) na) (h10 : I 41 10 = 0) (h11 : I 41 11 = nI nl - 1) (h416 : I 41 6 = nI p) (h417 : I 41 7 = nI q) (h418 : I 41 8 = s 0 p) (h419 : I 41 9 = s 0 q) {n : Nat} (hn : s1 17 0 = nI n) (hb : n < 27700) {Q : am_O → am_H → Prop} (i1 i2 i3 : Int32) (l4 : Int64) (i6 : Int32) (v7 v8 : Value) (n7 : am_nl v7 = true) (n8 : am_nl v8 = true)
    (hN : ∀ (G' : am_G) (I' : a_F) (J' : Nat → Nat → Int64) (j' : Nat) (x y : Int32), c_L e j' G' → c_J J J' → q_F c_sc I I' → c_cc I I' → c_S nq j' I' (a_ask D (nI T, 9, nI z, -1, s 0 p) fact force (fun l => s 8 (5 * p + l)) 0 nl q (a_ask D (nI T, 9, nI z, -1, s 0 q) fact force (fun l => s 8 (5 * q + l)) 0 nl p s1)) → q_W β xs L (d + 5) 52 104 [.ref 38, .int i1, .int i2, .int i3, .long l4, .retAddr 0, .int (i6 + 1), .int x, .int y] [] (G', I', J') Q) :
    q_W β xs L (d + 5) 52 186 [.ref 38, .int i1, .int i2, .int i3, .long l4, .retAddr 0, .int i6, v7, v8] [] (G, I, J) Q := by
  have hR := hL.2.1
  have hn5 := hP.2.1
  have hne : ¬ nI q = nI p := fun h => hpq (nI_inj2 (by omega) (by omega) h)
  have Cp : c_C I (nI T, 9, nI z, -1, s 0 q) p 1 := ⟨by decide, h410, h411, rfl, fun _ => ⟨h412, nI_m1 (by omega)⟩, fun h => absurd (Or.inr (Or.inl rfl)) h, fun _ => h413, fun _ => by rw [h416, if_pos rfl]; exact h419⟩
  have Cq : c_C I (nI T, 9, nI z, -1, s 0 p) q 1 := ⟨by decide, h410, h411, rfl, fun _ => ⟨h412, nI_m1 (by omega)⟩, fun h => absurd (Or.inr (Or.inl rfl)) h, fun _ => h413, fun _ => by rw [h416, if_neg hne]; exact h418⟩
  have b1 : ∀ x, s1 0 x = s 0 x := fun x => by rw [hs1]; rfl
  have b8 : ∀ x, s1 8 x = s 8 x := fun x => by rw [hs1]; rfl
  have p3 : s1 3 p = nI q := by rw [hs1, am_u_ne (Or.inr (Ne.symm hpq)), am_u_same]
  have q3 : s1 3 q = nI p := by rw [hs1, am_u_same]
  by_cases h0 : I 41 5 = 0
  · have hno := s_bits_0 (by omega) (h5.symm.trans h0)
    have e1 : ∀ c wc p s, c.2.1 = nI (1 + 8) → a_ask D c fact force wc 0 nl p s = s := fun c wc p s hc => a_changes_none _ _ _ _ _ _ (fun l => a_pick_none hD hP hA (w := 1) (by decide) hc hno s p l) nl 0 s
    rw [e1 (nI T, 9, nI z, -1, s 0 q) _ _ _ rfl, e1 (nI T, 9, nI z, -1, s 0 p) _ _ _ rfl] at hN
    exact c_tail0 hR h0 i1 i2 i3 l4 i6 v7 v8 n7 n8 (fun x y => hN G I J j x y hL (c_J.rf J) (q_F.rf _ I) (c_cc.rf I) hS)
  · have hm1 : ¬ I 41 6 = -1 := by rw [h416]; exact nI_m1 (by omega)
    have hm2 : ¬ I 41 7 = -1 := by rw [h417]; exact nI_m1 (by omega)
    refine g_52_186 hR _ _ _ _ _ _ _ n7 n8 ?_
    have h60 : q_W β xs L (d + 4) 60 0 [.ref 38] [] (G, I, J) (fun o h => o = .inl (some (.int 2)) ∧ h = (G, I, J)) := g_60_0 hR ⟨fun _ => ⟨fun _ => ⟨fun _ => g_60_47 hR _ ⟨rfl, rfl⟩, fun z => absurd z hm2⟩, fun z => absurd z hm1⟩, fun z => absurd z h0⟩
    refine q_useI h60 (Nat.le_refl _) ?_
    refine c_step (d := d) hL hD hP hA hDR hS hok hT (c := (nI T, 9, nI z, -1, s 0 q)) rfl hp Cp (Or.inr ⟨z, hz, rfl⟩) (lo := 0) (m := nl) (fun q => absurd q (by decide)) hfa (force := force) (c_bits hn5.2.2.2 h5) h10 (by omega) (fun l hl => by rw [h11]; exact r_all hn5.1 l hl) (wc := fun l => s 8 (5 * q + l)) (fun _ => ⟨q, by omega, p3, fun l hl hbl => ?_⟩) hn (by omega) _ _ _ _ _ _ _ (by decide) (Or.inr ⟨hm1, Or.inl ⟨rfl, h416⟩⟩) (fun G' I' J' j' w1 w2 w3 w4 w5 w6 => ?_)
    · rw [(hS.2.2.1 q l (by omega) hl).1 (by rw [b1]; exact hbl), b8]
    · obtain ⟨n2, y1, y2⟩ := a_ask_le hP.1.2.1 hn5.2.2.1 (nI T, 9, nI z, -1, s 0 q) fact force (fun l => s 8 (5 * q + l)) 0 nl p hn5.1 hn (by omega)
      have k1 := a_kn_le (D := D) (p := p) np 0
      have k2 : nl * (1 + a_kn D p np 0) ≤ 5 * 21 := Nat.mul_le_mul hn5.1 (by omega)
      refine c_step (d := d) w1 (hD.F w3) hP hA hDR w6 (hok.ask D _ fact force _ (by omega) p) hT (c := (nI T, 9, nI z, -1, s 0 p)) rfl hq (Cq.ct w4) (Or.inr ⟨z, hz, rfl⟩) (lo := 0) (m := nl) (fun q => absurd q (by decide)) ((w4.1 4).trans hfa) (force := force) (fun a ha => by rw [w4.1 5, w3 23 a rfl]; exact c_bits hn5.2.2.2 h5 a ha) ((w4.1 10).trans h10) (by omega) (fun l hl => by rw [w4.1 11, h11]; exact r_all hn5.1 l hl) (wc := fun l => s 8 (5 * p + l)) (fun _ => ⟨p, by omega, ?_, fun l hl hbl => ?_⟩) y1 (by omega) _ _ _ _ _ _ _ (by decide) (Or.inr ⟨by rw [w4.1 6]; exact hm1, Or.inr ⟨by decide, (w4.1 7).trans h417⟩⟩) (fun G2 I2 J2 j2 u1 u2 u3 u4 u5 u6 => ?_)
      · rw [a_kp_ask D _ fact force _ 0 nl p s1 3 (by decide) (by decide)]
        exact q3
      · rw [w5 p l (by omega) hl (by rw [b1]; exact hbl), (hS.2.2.1 p l (by omega) hl).1 (by rw [b1]; exact hbl), b8]
      · exact g_52_195 u1.2.1 _ _ _ _ _ _ _ ⟨fun _ => hN G2 I2 J2 j2 _ _ u1 (w2.tr u2) (w3.tr u3) (w4.cc.tr u4.cc) u6, fun z => absurd z (by decide)⟩
end C11

/-! ===== the reference: a border, counted well; what happens ===== -/
section R22
variable {β : Bool} {xs : Nat → Int32} {L : Nat} {G : am_G} {J : Nat → Nat → Int64}
theorem r_borderL2 {d nl nq np nf na : Nat} (hR : q_RT G) {D I0 : a_F} (hD : r_D nl nq np nf na D I0) (hP : a_DP nl nq np na D) (hA : a_DA nl na D) {c : a_C} (hC : r_C I0 c) (hpl : a_nn nq c.2.2.1) (h9 : c.2.1 ≠ 9) {force fact : Int32} (hfo : I0 59 77 = force) (hfa : I0 59 81 = fact) {wc : Nat → Int32} (i1 : Int32) {Q : am_O → am_H → Prop} :
    ∀ m p (I s : a_F) (n : Nat), p + m = np → r_fr I0 I → r_cx I0 I → r_S nq I s → a_ok np nq s → s 17 0 = nI n → n + nl * (m + a_kS D np 0 m p) + 105 < 23000 →
      (∀ I' n', r_fr I0 I' → r_cx I0 I' → r_S nq I' (a_all D c fact force wc 0 nl m p s) → a_all D c fact force wc 0 nl m p s 17 0 = nI n' → Q (.inl none) (G, I', J)) →
      q_W β xs L (d + 5) 153 28 [.ref 59, .int i1, .int (nI p)] [] (G, I, J) Q
  | 0, p, I, s, n, hpm, hf, hx, hS, hok, hn, hb, hQ => by
    refine g_153_28 hR _ _ ⟨fun _ => hQ I n hf hx hS hn, fun z => ?_⟩
    rw [(hD.fr hf).1.2.2.1, nI_ltI (by have := hP.2.1.2.2.1; omega) (by have := hP.2.1.2.2.1; omega)] at z
    omega
  | m + 1, p, I, s, n, hpm, hf, hx, hS, hok, hn, hb, hQ => by
    have hn5 := hP.2.1
    have D1 := hD.fr hf
    have e : nl * (m + 1 + a_kS D np 0 (m + 1) p) = nl * (1 + a_kn D p np 0) + nl * (m + a_kS D np 0 m (p + 1)) := by
      rw [← Nat.mul_add]
      congr 1
      show m + 1 + (a_kn D p np 0 + a_kS D np 0 m (p + 1)) = _
      omega
    rw [e] at hb
    refine g_153_28 hR _ _ ⟨fun z => absurd (by rw [D1.1.2.2.1]; exact (nI_ltI (by omega) (by omega)).mpr (by omega)) z, fun _ => ?_⟩
    rw [D1.1.1]
    refine q_useV (r_asks (β := β) (xs := xs) (L := L) (d := d) hR D1 hP hA hS hok (c := c) (hC.cx hx) hpl ((hx.1 77 (by decide) (by decide)).trans hfo) ((hx.1 81 (by decide) (by decide)).trans hfa) (wc := wc) (fun w => absurd w h9) (p := p) (lo := 0) (m := nl) (by omega) (by omega) (r_all hn5.1) hn (by omega)) (Nat.le_refl _) (fun I' hI' => ?_)
    obtain ⟨q1, q2, q3, -⟩ := hI'
    obtain ⟨n', q4, q5⟩ := a_ask_n hP.1.2.1 hn5.2.2.1 c fact force wc 0 nl p hn (by omega)
    rw [nI_1]
    exact r_borderL2 (d := d) hR hD hP hA hC hpl h9 hfo hfa i1 m (p + 1) I' _ n' (by omega) (hf.tr q1) (hx.tr q2) q3 (hok.kp (a_kp_ask _ _ _ _ _ _ _ _ _)) q4 (by omega) (fun I2 n2 z1 z2 z3 z4 => hQ I2 n2 z1 z2 z3 z4)
theorem r_border2 {d nl nq np nf na : Nat} {I : a_F} (hR : q_RT G) {D s : a_F} (hD : r_D nl nq np nf na D I) (hP : a_DP nl nq np na D) (hA : a_DA nl na D) (hS : r_S nq I s) (hok : a_ok np nq s) {today force to fact : Int32} (ht : I 59 76 = today) (hfo : I 59 77 = force) {q : Nat} (hq : q < nq) (hat : I 59 79 = nI q) (hto : I 59 80 = to) (hfa : I 59 81 = fact) {n : Nat} (hn : s 17 0 = nI n) (hb : n + 305 < 23000) :
    q_W β xs L (d + 5) 153 0 [.ref 59, .int (nI q), .retAddr 0] [] (G, I, J) (r_poe nq I G J (a_all D (today, 13, nI q, to, 0) fact force (fun _ => -1) 0 nl np 0 (am_u (am_u s 6 q to) 7 q today)) 100000) := by
  have hn5 := hP.2.1
  have eq : (nI q).toNatClampNeg = q := nI_clamp (by omega)
  have f1 : r_fr I (am_u (am_u (am_u I 97 q to) 98 q today) 59 78 13) := (((r_fr.rf I).up _ rfl).up _ rfl).up _ rfl
  have u : ∀ i, i ≠ 78 → am_u (am_u (am_u I 97 q to) 98 q today) 59 78 13 59 i = I 59 i := fun i h1 => by
    rw [am_u_ne (Or.inr h1), am_u_ne (Or.inl (by decide)), am_u_ne (Or.inl (by decide))]
  have iq : am_is (nI q) 12 = true := am_is_nI (by omega) (by omega)
  refine g_153_0 hR _ ⟨iq, iq, ?_⟩
  rw [eq, hto, ht]
  have S1 : r_S nq (am_u (am_u (am_u I 97 q to) 98 q today) 59 78 13) (am_u (am_u s 6 q to) 7 q today) := by
    refine r_S.c59 ?_ (by decide) _
    obtain ⟨h1, h2, h3, h4, h5⟩ := hS
    refine ⟨h1, fun j hj => ?_, h3, h4, h5⟩
    by_cases hjq : j = q
    · subst hjq; simp [am_u]
    · simp [am_u, hjq, h2 j hj]
  have ok1 : a_ok np nq (am_u (am_u s 6 q to) 7 q today) := fun p hp => hok p hp
  have k1 := a_kS_le (D := D) np 0 np 0 (by omega)
  have k2 : nl * (np + a_kS D np 0 np 0) ≤ 5 * 40 := Nat.mul_le_mul hn5.1 (by omega)
  refine r_borderL2 (d := d) hR (hD.fr f1) hP hA (c := (today, 13, nI q, to, 0)) ⟨(u 76 (by decide)).trans ht, am_u_same, (u 79 (by decide)).trans hat, (u 80 (by decide)).trans hto, fun w => absurd w (by show ¬ (13 : Int32) = 9; decide)⟩ (Or.inr ⟨q, hq, rfl⟩) (by show (13 : Int32) ≠ 9; decide) (force := force) (fact := fact) ((u 77 (by decide)).trans hfo) ((u 81 (by decide)).trans hfa) (wc := fun _ => -1) _ np 0 _ _ n (by omega) (r_fr.rf _) (r_cx.rf _) S1 ok1 hn (by omega) (fun I' n' z1 z2 z3 z4 => ?_)
  obtain ⟨n2, y1, y2⟩ := a_all_le hP.1.2.1 hn5.2.2.1 (today, 13, nI q, to, 0) fact force (fun _ => -1) 0 nl hn5.1 (s := am_u (am_u s 6 q to) 7 q today) hn (by omega)
  exact ⟨rfl, I', rfl, f1.tr z1, ⟨z2.2.2.2.1, z2.2.2.2.2.1, z2.2.2.2.2.2.trans (u 73 (by decide)), (z2.1 76 (by decide) (by decide)).trans (u 76 (by decide)), (z2.1 77 (by decide) (by decide)).trans (u 77 (by decide))⟩, z3, n2, y1, by omega⟩
theorem r_hap64 {d nl nq np nf na : Nat} {I : a_F} (hR : q_RT G) {D s : a_F} (hD : r_D nl nq np nf na D I) (hP : a_DP nl nq np na D) (hA : a_DA nl na D) (hS : r_S nq I s) (hok : a_ok np nq s) {today force : Int32} (ht : I 59 76 = today) (hfo : I 59 77 = force) {f : Nat} (hf : f < nf) (hf2 : nf ≤ 100) {kd : Nat} (hk : kd ≤ 6) (hk2 : D 64 f = nI kd)
    (hp : kd ≠ 5 → ∃ p, p < np ∧ D 65 f = nI p ∧ (kd = 1 → ∃ q, q < np ∧ q ≠ p ∧ D 66 f = nI q)) (hq : kd < 2 ∨ 5 ≤ kd → ∃ q, q < nq ∧ D 67 f = nI q) {n : Nat} (hn : s 17 0 = nI n) (hb : n + 305 < 23000) {pl to : Int32} (hpl : kd < 2 ∨ kd = 5 → pl = D 67 f) (hpl2 : 2 ≤ kd → kd ≠ 5 → pl = -1) (hto : 2 ≤ kd → kd ≤ 5 → to = D 66 f) (hto2 : kd < 2 → to = -1) (h80 : I 59 80 = to) (h81 : I 59 81 = nI f) :
    q_W β xs L (d + 7) 149 64 [.ref 59, .int (nI f), .int (D 65 f), .int (nI kd)] [.int pl, .ref 59] (G, I, J) (r_poe nq I G J (a_fact D today force f s) 100000) := by
  have hn5 := hP.2.1
  have e3 : a_ix (D 59 3) = nl := by rw [hP.1.1]; exact nI_clamp (by omega)
  have e5 : a_ix (D 59 5) = np := by rw [hP.1.2.1]; exact nI_clamp (by omega)
  have ef : (nI f).toNatClampNeg = f := nI_clamp (by omega)
  have jf : am_is (nI f) 100 = true := am_is_nI (by omega) (by omega)
  have f1 : r_fr I (am_u I 59 79 pl) := (r_fr.rf I).up _ rfl
  have u : ∀ i, i ≠ 79 → am_u I 59 79 pl 59 i = I 59 i := fun i h1 => am_u_ne (Or.inr h1)
  have S1 : r_S nq (am_u I 59 79 pl) s := hS.c59 (by decide) _
  have D1 := hD.fr f1
  have v79 : am_u I 59 79 pl 59 79 = pl := am_u_same
  have u108 : ∀ i, am_u I 59 79 pl 108 i = I 108 i := fun _ => rfl
  have u109 : ∀ i, am_u I 59 79 pl 109 i = I 109 i := fun _ => rfl
  generalize hI1 : am_u I 59 79 pl = I1 at f1 u S1 D1 v79 u108 u109
  have fin : ∀ (v2 : Int32) (n1 : Nat) (s' : a_F), a_fact D today force f s = s' → n1 ≤ 100000 → ∀ I', (r_fr I1 I' ∧ ((∀ i, I' 108 i = I1 108 i) ∧ (∀ i, I' 109 i = I1 109 i) ∧ I' 59 73 = I1 59 73 ∧ I' 59 76 = I1 59 76 ∧ I' 59 77 = I1 59 77) ∧ r_S nq I' s' ∧ ∃ n', s' 17 0 = nI n' ∧ n' ≤ n1) →
      q_W β xs L (d + 7) 149 147 [.ref 59, .int (nI f), .int v2, .int (nI kd)] [] (G, I', J) (r_poe nq I G J (a_fact D today force f s) 100000) := by
    intro v2 n1 s' es hn1 I' hI'
    obtain ⟨q1, ⟨q2, q3, q4, q5, q6⟩, q7, n', q8, q9⟩ := hI'
    refine g_149_147 hR _ _ _ ⟨rfl, I', rfl, f1.tr q1, ⟨fun i => (q2 i).trans (u108 i), fun i => (q3 i).trans (u109 i), q4.trans (u 73 (by decide)), q5.trans (u 76 (by decide)), q6.trans (u 77 (by decide))⟩, es ▸ q7, n', es ▸ q8, by omega⟩
  have k0 : ¬ kd = 0 → ¬ nI kd = 0 := fun h z => h (nI_inj2 (b := 0) (by omega) (by omega) z)
  have k1 : ¬ kd = 1 → ¬ nI kd = 1 := fun h z => h (nI_inj2 (b := 1) (by omega) (by omega) z)
  have k5 : ¬ kd = 5 → ¬ nI kd = 5 := fun h z => h (nI_inj2 (b := 5) (by omega) (by omega) z)
  have k6 : ¬ kd = 6 → ¬ nI kd = 6 := fun h z => h (nI_inj2 (b := 6) (by omega) (by omega) z)
  have lt5 : nI kd < 5 ↔ kd < 5 := nI_ltI (a := kd) (b := 5) (by omega) (by omega)
  have h67 : I 67 f = D 67 f := (hD.2.2.2.1 f hf).2.2.2.1
  have h66 : I 66 f = D 66 f := (hD.2.2.2.1 f hf).2.2.1
  have x76 := (u 76 (by decide)).trans ht
  have x77 := (u 77 (by decide)).trans hfo
  have x80 := (u 80 (by decide)).trans h80
  have x81 := (u 81 (by decide)).trans h81
  refine g_149_64 hR _ _ _ _ ⟨fun z0 => ⟨fun z1 => ⟨fun z5 => ⟨fun y5 => ⟨jf, ?_⟩, fun y5 => ⟨jf, ?_⟩⟩, fun z5 => ?_⟩, fun z1 => ⟨jf, ?_⟩⟩, fun z0 => ?_⟩
  · -- a stay
    have a0 : ¬ kd = 0 := fun h => z0 (by rw [h]; rfl)
    have a1 : ¬ kd = 1 := fun h => z1 (by rw [h]; rfl)
    have a4 : ¬ kd < 5 := fun h => z5 (lt5.mpr h)
    have a5 : ¬ kd = 5 := fun h => y5 (by rw [h]; rfl)
    have hkd : kd = 6 := by omega
    obtain ⟨p, hp1, hp2, -⟩ := hp a5
    rw [ef, h67, hp2, hI1]
    refine q_useV (r_stays (β := β) (xs := xs) (L := L) (d := d + 6) hR S1 x76 (by omega) (D 67 f) hn) (Nat.le_refl _) (fun I' hI' => fin _ n _ ?_ (by omega) I' hI')
    unfold a_fact
    rw [hk2, if_neg (k0 a0), if_neg (k1 a1), if_neg (k5 a5), if_pos (by rw [hkd]; rfl), hp2, show a_ix (nI p) = p from nI_clamp (by omega)]
  · -- a border
    have hkd : kd = 5 := nI_inj2 (b := 5) (by omega) (by omega) y5
    obtain ⟨q, hq1, hq2⟩ := hq (by omega)
    have hto' := hto (by omega) (by omega)
    rw [ef, h67, hI1, hq2]
    refine q_useV (q_mono (r_border2 (β := β) (xs := xs) (L := L) (d := d) hR D1 hP hA S1 hok x76 x77 hq1 (v79.trans ((hpl (Or.inr hkd)).trans hq2)) x80 x81 hn hb) (Nat.le_succ _) (fun _ _ w => w)) (Nat.le_refl _) (fun I' hI' => fin _ 100000 _ ?_ (by omega) I' hI')
    unfold a_fact
    rw [hk2, if_neg (k0 (by omega)), if_neg (k1 (by omega)), if_pos (by rw [hkd]; rfl), hq2, show a_ix (nI q) = q from nI_clamp (by omega), e3, e5, hto']
  · -- one person
    have a0 : ¬ kd = 0 := fun h => z0 (by rw [h]; rfl)
    have a1 : ¬ kd = 1 := fun h => z1 (by rw [h]; rfl)
    have a5 := lt5.mp z5
    obtain ⟨p, hp1, hp2, -⟩ := hp (by omega)
    have hkk : kd = 2 ∨ kd = 3 ∨ kd = 4 := by omega
    have ew : (10 + nI kd - 2 : Int32) = D 64 f + 8 := by
      rw [hk2]
      rcases hkk with h | h | h <;> (rw [h]; decide)
    have e9 : D 64 f + 8 ≠ 9 := by
      rw [hk2]
      rcases hkk with h | h | h <;> (rw [h]; decide)
    rw [ew, hp2, hI1]
    refine q_useV (q_mono (r_oneE (β := β) (xs := xs) (L := L) (d := d) (J := J) hR D1 hP hA S1 hok (c := (today, D 64 f + 8, -1, to, 0)) ⟨x76, v79.trans (hpl2 (by omega) (by omega)), x80⟩ (Or.inl rfl) x77 x81 (wc := fun _ => -1) e9 hp1 hn (by omega)) (Nat.le_succ _) (fun _ _ w => w)) (Nat.le_refl _) (fun I' hI' => fin _ (n + 21 * nl) _ ?_ (by omega) I' hI')
    unfold a_fact
    rw [hk2, if_neg (k0 a0), if_neg (k1 a1), if_neg (k5 (by omega)), if_neg (k6 (by omega)), hp2, show a_ix (nI p) = p from nI_clamp (by omega), e3, hto (by omega) (by omega)]
  · -- a wedding
    have hkd : kd = 1 := nI_inj2 (b := 1) (by omega) (by omega) z1
    obtain ⟨p, hp1, hp2, hp3⟩ := hp (by omega)
    obtain ⟨q, hq1, hq2, hq3⟩ := hp3 hkd
    obtain ⟨w, hw1, hw2⟩ := hq (by omega)
    rw [ef, h66, hp2, hq3, hI1]
    refine q_useV (q_mono (r_wedding (β := β) (xs := xs) (L := L) (d := d) hR D1 hP hA S1 hok x76 x77 (f := f) (Or.inr ⟨w, hw1, hw2⟩) (v79.trans (hpl (by omega))) (x80.trans (hto2 (by omega))) x81 hp1 hq1 hn (by omega)) (Nat.le_succ _) (fun _ _ w => w)) (Nat.le_refl _) (fun I' hI' => fin _ (n + 42 * nl) _ ?_ (by omega) I' hI')
    unfold a_fact
    rw [hk2, if_neg (k0 (by omega)), if_pos (by rw [hkd]; rfl), hp2, hq3, show a_ix (nI p) = p from nI_clamp (by omega), show a_ix (nI q) = q from nI_clamp (by omega)]
  · -- a birth
    have hkd : kd = 0 := nI_inj2 (b := 0) (by omega) (by omega) z0
    obtain ⟨p, hp1, hp2, -⟩ := hp (by omega)
    obtain ⟨w, hw1, hw2⟩ := hq (by omega)
    rw [hp2, hI1]
    refine q_useV (r_birth (β := β) (xs := xs) (L := L) (d := d) hR D1 hP hA S1 hok x76 x77 hf hf2 hw1 hw2 (v79.trans (hpl (by omega))) (x80.trans (hto2 (by omega))) x81 hp1 hn (by omega)) (Nat.le_refl _) (fun I' hI' => fin _ (n + 21 * nl) _ ?_ (by omega) I' hI')
    unfold a_fact
    rw [hk2, if_pos (by rw [hkd]; rfl), hp2, show a_ix (nI p) = p from nI_clamp (by omega)]
theorem r_poe.fr {nq : Nat} {I I2 : a_F} {s' : a_F} {n m : Nat} {o : am_O} {h : am_H} (hf : r_fr I I2) (hc : (∀ i, I2 108 i = I 108 i) ∧ (∀ i, I2 109 i = I 109 i) ∧ I2 59 73 = I 59 73 ∧ I2 59 76 = I 59 76 ∧ I2 59 77 = I 59 77) (hn : ∃ n', s' 17 0 = nI n' ∧ n' ≤ m) (hq : r_poe nq I2 G J s' n o h) : r_poe nq I G J s' m o h := by
  obtain ⟨e1, I', e2, q1, ⟨q2, q3, q4, q5, q6⟩, q7, -⟩ := hq
  obtain ⟨c1, c2, c3, c4, c5⟩ := hc
  exact ⟨e1, I', e2, hf.tr q1, ⟨fun i => (q2 i).trans (c1 i), fun i => (q3 i).trans (c2 i), q4.trans c3, q5.trans c4, q6.trans c5⟩, q7, hn⟩
theorem r_happens {d nl nq np nf na : Nat} {I : a_F} (hR : q_RT G) {D s : a_F} (hD : r_D nl nq np nf na D I) (hP : a_DP nl nq np na D) (hA : a_DA nl na D) (hF : a_DF nl nq np nf D) (hS : r_S nq I s) (hok : a_ok np nq s) {today force : Int32} (ht : I 59 76 = today) (hfo : I 59 77 = force) {f : Nat} (hf : f < nf) (hf2 : nf ≤ 100) {n : Nat} (hn : s 17 0 = nI n) (hb : n + 305 < 23000) :
    q_W β xs L (d + 7) 149 0 [.ref 59, .int (nI f), .retAddr 0, .retAddr 0] [] (G, I, J) (r_poe nq I G J (a_fact D today force f s) (n + 200)) := by
  have ef : (nI f).toNatClampNeg = f := nI_clamp (by omega)
  have jf : am_is (nI f) 100 = true := am_is_nI (by omega) (by omega)
  have hrec := a_fact_n hP hF today force hf hn (by omega)
  obtain ⟨⟨kd, hk, hk2, hp, hl, hq⟩, -⟩ := hF f hf
  obtain ⟨d64, d65, d66, d67, -⟩ := hD.2.2.2.1 f hf
  have at64 : ∀ pl to : Int32, (kd < 2 ∨ kd = 5 → pl = D 67 f) → (2 ≤ kd → kd ≠ 5 → pl = -1) → (2 ≤ kd → kd ≤ 5 → to = D 66 f) → (kd < 2 → to = -1) → q_W β xs L (d + 7) 149 64 [.ref 59, .int (nI f), .int (D 65 f), .int (nI kd)] [.int pl, .ref 59] (G, am_u (am_u I 59 81 (nI f)) 59 80 to, J) (r_poe nq I G J (a_fact D today force f s) (n + 200)) := by
    intro pl to w1 w2 w3 w4
    have f1 : r_fr I (am_u (am_u I 59 81 (nI f)) 59 80 to) := ((r_fr.rf I).up _ rfl).up _ rfl
    refine q_mono (r_hap64 (β := β) (xs := xs) (L := L) (J := J) (d := d) hR (hD.fr f1) hP hA ((hS.c59 (by decide) _).c59 (by decide) _) hok ht hfo hf hf2 hk hk2 hp hq hn hb w1 w2 w3 w4 am_u_same ?_) (Nat.le_refl _) (fun o h w => w.fr f1 ⟨fun _ => rfl, fun _ => rfl, rfl, rfl, rfl⟩ hrec)
    rw [am_u_ne (Or.inr (by decide)), am_u_same]
  have lt2 : nI kd < 2 ↔ kd < 2 := nI_ltI (a := kd) (b := 2) (by omega) (by omega)
  have lt5 : 5 < nI kd ↔ 5 < kd := nI_ltI (a := 5) (b := kd) (by omega) (by omega)
  have at40 : ∀ to : Int32, (2 ≤ kd → kd ≤ 5 → to = D 66 f) → (kd < 2 → to = -1) → q_W β xs L (d + 7) 149 40 [.ref 59, .int (nI f), .int (D 65 f), .int (nI kd)] [.int to, .ref 59] (G, am_u I 59 81 (nI f), J) (r_poe nq I G J (a_fact D today force f s) (n + 200)) := by
    intro to w3 w4
    have at54 : kd < 2 ∨ kd = 5 → q_W β xs L (d + 7) 149 54 [.ref 59, .int (nI f), .int (D 65 f), .int (nI kd)] [.ref 59] (G, am_u (am_u I 59 81 (nI f)) 59 80 to, J) (r_poe nq I G J (a_fact D today force f s) (n + 200)) := fun w => by
      refine g_149_54 hR _ _ _ ⟨jf, ?_⟩
      rw [ef]
      exact at64 _ _ (fun _ => d67) (fun w1 w2 => by omega) w3 w4
    refine g_149_40 hR _ _ _ _ ⟨fun z => at54 (Or.inl (lt2.mp z)), fun z => ⟨fun y => at64 _ _ (fun w => ?_) (fun _ _ => rfl) w3 w4, fun y => at54 (Or.inr (nI_inj2 (b := 5) (by omega) (by omega) y))⟩⟩
    rcases w with w | w
    · exact absurd (lt2.mpr w) z
    · exact absurd (by rw [w]; rfl) y
  refine g_149_0 hR _ ?_
  rw [ef, d64, d65, d66, hk2]
  have at39 : ¬ (2 ≤ kd ∧ kd ≤ 5) → q_W β xs L (d + 7) 149 39 [.ref 59, .int (nI f), .int (D 65 f), .int (nI kd)] [.ref 59] (G, am_u I 59 81 (nI f), J) (r_poe nq I G J (a_fact D today force f s) (n + 200)) := fun w => g_149_39 hR _ _ _ (at40 _ (fun w1 w2 => absurd ⟨w1, w2⟩ w) (fun _ => rfl))
  exact ⟨jf, jf, fun z => at39 (by have := lt2.mp z; omega), fun z => ⟨fun y => at39 (by have := lt5.mp y; omega), fun y => ⟨jf, at40 _ (fun _ _ => rfl) (fun w => absurd (lt2.mpr w) z)⟩⟩⟩
end R22

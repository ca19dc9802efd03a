/-! ===== were an act struck: counts, one act less ===== -/
def a_cnt (P : Nat → Bool) : Nat → Nat
  | 0 => 0
  | n + 1 => a_cnt P n + (if P n = true then 1 else 0)
theorem a_cnt_eq {P P' : Nat → Bool} : ∀ n, (∀ i, i < n → P i = P' i) → a_cnt P n = a_cnt P' n
  | 0, _ => rfl
  | n + 1, h => by
    unfold a_cnt
    rw [a_cnt_eq n (fun i hi => h i (by omega)), h n (by omega)]
theorem a_cnt_ext {P : Nat → Bool} : ∀ m n, (∀ i, n ≤ i → i < n + m → P i = false) → a_cnt P (n + m) = a_cnt P n
  | 0, n, _ => rfl
  | m + 1, n, h => by
    show a_cnt P (n + m) + (if P (n + m) = true then 1 else 0) = _
    rw [a_cnt_ext m n (fun i h1 h2 => h i h1 (by omega)), h (n + m) (by omega) (by omega), if_neg (by decide), Nat.add_zero]
theorem a_cnt_le (P : Nat → Bool) : ∀ n, a_cnt P n ≤ n
  | 0 => Nat.le_refl _
  | n + 1 => by
    have := a_cnt_le P n
    unfold a_cnt
    split <;> omega
theorem pcs_cnt {m : Nat} (hm : m < 2 ^ 31) : ∀ n, n ≤ 32 → pcs m n = a_cnt (fun i => bt (nI m) i) n
  | 0, _ => rfl
  | n + 1, hn => by
    have e : bt (nI m) n = decide (m / 2 ^ n % 2 = 1) := by
      show (nI m).toBitVec.toNat.testBit n = _
      rw [pc_nat hm, Nat.testBit_eq_decide_div_mod_eq]
    show pcs m n + m / 2 ^ n % 2 = a_cnt _ n + (if bt (nI m) n = true then 1 else 0)
    rw [pcs_cnt hm n (by omega), e]
    rcases Nat.mod_two_eq_zero_or_one (m / 2 ^ n) with h | h
    · rw [h]; rfl
    · rw [h]; rfl
theorem b_m20 : ∀ i, i < 32 → bt 1048575 i = decide (i < 20) := by decide +kernel
theorem b_small20 {y : Int32} (h : ∀ i, 20 ≤ i → i < 32 → bt y i = false) : ∃ m, m < 2 ^ 20 ∧ y = nI m := by
  obtain ⟨m, hm, hm2⟩ := pk_andE y (m := 1048575) 20 (by decide)
  refine ⟨m, hm, ?_⟩
  rw [← hm2]
  apply b_ext
  intro i hi
  rw [b_and, b_m20 i hi]
  by_cases h5 : i < 20
  · simp [h5]
  · rw [h i (by omega) hi]
    rfl
/-- as many bits as there are -/
theorem c_bcP {y : Int32} {P : Nat → Bool} {n : Nat} (hn : n ≤ 20) (h : ∀ i, i < 32 → bt y i = (decide (i < n) && P i)) : c_bc y = nI (a_cnt P n) := by
  obtain ⟨m, hm, hm2⟩ := b_small20 (y := y) (fun i h1 h2 => by rw [h i h2, decide_eq_false (by omega)]; rfl)
  have e := a_cnt_ext (P := fun i => bt (nI m) i) (20 - n) n (fun i h1 h2 => by show bt (nI m) i = false; rw [← hm2, h i (by omega), decide_eq_false (by omega)]; rfl)
  rw [show n + (20 - n) = 20 by omega] at e
  rw [hm2, c_bc20 hm, pcs_cnt (by omega) 20 (by decide), e]
  congr 1
  refine a_cnt_eq n (fun i hi => ?_)
  show bt (nI m) i = P i
  rw [← hm2, h i (by omega), decide_eq_true hi, Bool.true_and]
theorem a_frc_kn {D : a_F} {k wo wo' : Int32} {na : Nat} (h : ∀ b, b < na → a_knA D k wo b = a_knA D k wo' b) (day : Int32) : ∀ m, m ≤ na → a_frc D day k wo na m = a_frc D day k wo' na m
  | 0, _ => rfl
  | m + 1, hm => by
    have ih := a_frc_kn h day m (by omega)
    simp only [a_frc]
    rw [ih, h (na - (m + 1)) (by omega)]
theorem a_calA_kn {D : a_F} {k wo wo' : Int32} {na : Nat} (h : ∀ b, b < na → a_knA D k wo b = a_knA D k wo' b) (last : Int32) : ∀ n a c, a + n ≤ na → a_calA D k wo last n a c = a_calA D k wo' last n a c
  | 0, a, c, _ => rfl
  | n + 1, a, c, hn => by
    unfold a_calA
    rw [h a (by omega)]
    exact a_calA_kn h last n (a + 1) _ (by omega)
theorem a_run_kn {D : a_F} {k wo wo' : Int32} {na : Nat} (e : a_ix (D 59 32) = na) (h : ∀ b, b < na → a_knA D k wo b = a_knA D k wo' b) (way : Nat) (last : Int32) : a_run D way last k wo = a_run D way last k wo' := by
  have hf : ∀ day, a_force D day k wo = a_force D day k wo' := fun day => by unfold a_force; rw [e, a_frc_kn h day na (Nat.le_refl _)]
  have hev : a_event D k wo = a_event D k wo' := funext fun s => funext fun y => by
    unfold a_event
    dsimp only
    rw [hf]
  unfold a_run a_cal
  rw [e, a_calA_kn h last na 0 [] (by omega), hev]
/-- who stands in the act's bond in one of two worlds alone -/
def a_str (s1 s2 : a_F) (l : Nat) (b : Bool) (p : Nat) : Bool := if b = true then bt (s2 0 p) l && !bt (s1 0 p) l else bt (s1 0 p) l && !bt (s2 0 p) l
def o_ifs (x1 x2 x3 x4 : Int32) : w_T → Nat × Int32 := fun w => match w with
  | ((nl, nq, np, nf, na, tn, tp), tb, fp, D) => (a_bt (a_lt x1 na && (a_dy x2 && a_lt x3 2)) (a_ev x4 tn), nI (a_cnt (a_str (a_run D 0 x2 x4 (-1)) (a_run D 0 x2 x4 x1) (a_ix (D 74 (a_ix x1))) (decide (x3 = 0))) np))
section Struck1
variable {β : Bool} {xs : Nat → Int32} {L : Nat} {G : am_G} {I : a_F} {J : Nat → Nat → Int64}
theorem k_holdL {d np l : Nat} {s : a_F} (hR : q_RT G) (h3 : I 3 3 = nI np) (hp : np ≤ 20) (hl : l < 5) (hs : ∀ p, p < 20 → I 47 p = s 0 p) {Q : am_O → am_H → Prop} (hQ : Q (.inl (some (.int (s_bits (fun p => bt (s 0 p) l) np)))) (G, I, J)) : ∀ m p, p + m = np →
    q_W β xs L d 53 4 [.ref 38, .int (nI l), .int (s_bits (fun p => bt (s 0 p) l) p), .int (nI p)] [] (G, I, J) Q
  | 0, p, hm => by
    have e : p = np := by omega
    subst e
    refine g_53_4 hR _ _ _ ⟨fun _ => hQ, fun z => ?_⟩
    rw [h3, nI_ltI (by omega) (by omega)] at z
    omega
  | m + 1, p, hm => by
    refine g_53_4 hR _ _ _ ⟨fun z => absurd (by rw [h3]; exact (nI_ltI (by omega) (by omega)).mpr (by omega)) z, fun _ => ⟨am_is_nI (by omega) (by omega), ?_⟩⟩
    have ih := k_holdL (d := d) hR h3 hp hl hs hQ m (p + 1) (by omega)
    rw [show (nI p).toNatClampNeg = p from nI_clamp (by omega), hs p (by omega), s_bit _ (by omega), nI_1]
    have e : (s_bits (fun p => bt (s 0 p) l) p ||| ((if bt (s 0 p) l = true then (1 : Int32) else 0) <<< (nI p &&& 31))) = s_bits (fun p => bt (s 0 p) l) (p + 1) := by
      show _ = (if bt (s 0 p) l = true then s_bits (fun p => bt (s 0 p) l) p ||| (1 <<< (nI p &&& 31)) else s_bits (fun p => bt (s 0 p) l) p)
      by_cases hb : bt (s 0 p) l = true
      · rw [if_pos hb, if_pos hb]
      · rw [if_neg hb, if_neg hb]
        apply b_ext
        intro i hi
        rw [b_or, b_shl p (by omega) 0 hi, b_0, Bool.and_false, Bool.or_false]
    rw [e]
    exact ih
theorem k_hold {d np l : Nat} {s : a_F} (hR : q_RT G) (h3 : I 3 3 = nI np) (hp : np ≤ 20) (hl : l < 5) (hs : ∀ p, p < 20 → I 47 p = s 0 p) : q_W β xs L d 53 0 [.ref 38, .int (nI l), .retAddr 0, .retAddr 0] [] (G, I, J) (fun o h => o = .inl (some (.int (s_bits (fun p => bt (s 0 p) l) np))) ∧ h = (G, I, J)) :=
  g_53_0 hR _ (k_holdL hR h3 hp hl hs ⟨rfl, rfl⟩ np 0 (Nat.zero_add _))
theorem k_liveW {d e : Nat} {w : w_T} (hC : c_I e w G I J) (hw : w_O w) {day k way x : Nat} {wo : Int32} (hday : day ≤ 72999) (hk : k ≤ 999) (hway : way < 27) (hx : x < 13) (b1 : c_db w.2.2.2 I (a_doubts w.2.2.2 (nI k))) (h6 : I 34 6 = nI k) (hwo : wo = c_wo x) {Q : am_O → am_H → Prop}
    (hQ : ∀ (G' : am_G) (I' : a_F) (J' : Nat → Nat → Int64) (j' : Nat), f_c I I' → f_c J J' → c_I e w G' I' J' → c_L e j' G' → c_S w.1.2.1 j' I' (a_run w.2.2.2 way (nI day) (nI k) wo) → c_db w.2.2.2 I' (a_doubts w.2.2.2 (nI k)) → I' 34 6 = nI k → Q (.inl none) (G', I', J')) :
    q_W β xs L (d + 5) 52 0 [.ref 38, .int (nI way), .int (nI day), .int wo, .retAddr 0, .retAddr 0, .retAddr 0, .retAddr 0, .retAddr 0] [] (G, I, J) Q := by
  subst hwo
  exact k_live hC hw hday hk hway hx b1 h6 (fun G' I' J' j' a1 a2 a3 a4 a5 a6 a7 _ => hQ G' I' J' j' a1 a2 a3 a4 a5 a6 a7)
theorem k_ifs {d e : Nat} {w : w_T} (hC : c_I e w G I J) (hw : w_O w) (x1 x2 x3 x4 : Int32) : q_W β xs L (d + 6) 89 0 [.ref 0, .int x1, .int x2, .int x3, .int x4, .retAddr 0, .retAddr 0] [] (G, I, J) (k_T (o_ifs x1 x2 x3 x4 w).1 w e I J (o_ifs x1 x2 x3 x4 w).2) := by
  obtain ⟨⟨nl, nq, np, nf, na, tn, tp⟩, tb, fp, D⟩ := w
  have hC0 := hC
  obtain ⟨j, hL, hD, h3, h4, h5, h6⟩ := hC
  have hn5 := hw.1.1.2.1
  have hl5 : nl ≤ 5 := hn5.1
  have hp20 : np ≤ 20 := hn5.2.2.1
  have hna : na ≤ 12 := hn5.2.2.2
  have ht : tn ≤ 999 := hw.2.2.1
  have e32 : a_ix (D 59 32) = na := by rw [show D 59 32 = nI na from hw.1.1.1.2.2]; exact nI_clamp (by omega)
  have hR := hL.2.1
  have e16 : I 16 15 = nI na := hD.1.2.2.2.2
  have bad : ∀ t : Nat, t ≠ 0 → a_bt (a_lt x1 na && (a_dy x2 && a_lt x3 2)) (a_ev x4 tn) = t → k_T (o_ifs x1 x2 x3 x4 ((nl, nq, np, nf, na, tn, tp), tb, fp, D)).1 ((nl, nq, np, nf, na, tn, tp), tb, fp, D) e I J (o_ifs x1 x2 x3 x4 ((nl, nq, np, nf, na, tn, tp), tb, fp, D)).2 (.inr t) ((am_thr (G, I, J)).1, I, J) := fun t ht0 hto => by
    have ev : (o_ifs x1 x2 x3 x4 ((nl, nq, np, nf, na, tn, tp), tb, fp, D)).1 = t := hto
    rw [ev]
    exact k_bad hC0 ht0 _
  refine g_89_0 hR _ _ _ _ ?_
  rw [e16]
  refine q_needN (d := d) hR x1 na (by omega) (fun b1 => ?_) (fun b1 => bad 1 (by decide) (a_bt1 (by rw [b1]; rfl)))
  refine q_needD (d := d) hR x2 (by omega) (fun b2 => ?_) (fun b2 => bad 1 (by decide) (a_bt1 (by rw [b1, b2]; rfl)))
  refine q_needN (d := d) hR x3 2 (by omega) (fun b3 => ?_) (fun b3 => bad 1 (by decide) (a_bt1 (by rw [b1, b2, b3]; rfl)))
  refine q_needE (d := d) (tn := tn) hR h3.1 x4 (by omega) (fun b4 => ⟨hR, ?_⟩) (fun b4 => bad 2 (by decide) (a_bt2 (by rw [b1, b2, b3]; rfl) b4))
  obtain ⟨a, ha, rfl⟩ := a_lt_of (by omega) b1
  obtain ⟨day, hd, rfl⟩ := a_dy_of b2
  obtain ⟨k, hk, rfl⟩ := a_ev_of ht b4
  obtain ⟨⟨l, hl, hl2⟩, -⟩ := hw.1.2.1 a ha
  have hl' : l < nl := hl
  have ev : o_ifs (nI a) (nI day) x3 (nI k) ((nl, nq, np, nf, na, tn, tp), tb, fp, D) = (0, nI (a_cnt (a_str (a_run D 0 (nI day) (nI k) (-1)) (a_run D 0 (nI day) (nI k) (nI a)) l (decide (x3 = 0))) np)) := by
    unfold o_ifs
    dsimp only
    rw [a_bt0 (by rw [b1, b2, b3]; rfl) b4, show a_ix (nI a) = a from nI_clamp (by omega), show D 74 a = nI l from hl2, show a_ix (nI l) = l from nI_clamp (by omega)]
  rw [ev]
  refine q_useI (s_known (β := β) (xs := xs) (L := L) (d := d) hR (n := na) e16 (by omega) (nI k)) (by omega) ⟨hR, ?_⟩
  have hsb : bt (s_bits (s_kn (I 20) (I 21) (nI k)) na) a = s_kn (D 77) (D 78) (nI k) a := by
    obtain ⟨-, -, -, d4, d5, -⟩ := hD.2.2.2.2 a ha
    rw [s_bits_bt _ na a (by omega) (by omega), decide_eq_true ha, Bool.true_and]
    unfold s_kn
    rw [d4, d5]
  rw [s_bit0 _ (by omega), hsb]
  refine ⟨fun z => ?_, fun z => ?_⟩
  · refine k_find (d := d + 4) hC0 hw k (fun I1 f1 C1 c1 k1 => ⟨hR, ?_⟩)
    refine k_live (d := d) (x := 0) (way := 0) C1 hw hd (k := k) (by omega) (by omega) (by decide) c1 k1 (fun G2 I2 J2 j2 f2 g2 C2 L2 S2 c2 k2 _ => ⟨L2.2.1, am_is_nI (by omega) (by omega), ?_⟩)
    have C2' := C2
    obtain ⟨j2', -, D2, -⟩ := C2'
    dsimp only
    rw [show (nI a).toNatClampNeg = a from nI_clamp (by omega), show I2 17 a = nI l from ((D2.2.2.2.2 a ha).1).trans hl2]
    refine q_useI (k_hold (β := β) (xs := xs) (L := L) (d := d) (s := a_run D 0 (nI day) (nI k) (-1)) L2.2.1 D2.1.2.2.1 hp20 (by omega) (fun p hp => (S2.1 p hp).1)) (by omega) ⟨L2.2.1, ?_⟩
    refine k_liveW (d := d) (x := a + 1) (way := 0) C2 hw hd (k := k) (by omega) (by omega) (by omega) c2 k2 (c_wo_s a).symm (fun G3 I3 J3 j3 f3 g3 C3 L3 S3 c3 k3 => ⟨L3.2.1, am_is_nI (by omega) (by omega), ?_⟩)
    have C3' := C3
    obtain ⟨j3', -, D3, -⟩ := C3'
    have S3' : c_S nq j3 I3 (a_run D 0 (nI day) (nI k) (nI a)) := S3
    dsimp only
    rw [show I3 17 a = nI l from ((D3.2.2.2.2 a ha).1).trans hl2]
    refine q_useI (k_hold (β := β) (xs := xs) (L := L) (d := d) (s := a_run D 0 (nI day) (nI k) (nI a)) L3.2.1 D3.1.2.2.1 hp20 (by omega) (fun p hp => (S3'.1 p hp).1)) (by omega) ?_
    have bits : ∀ (s : a_F) (i : Nat), i < 32 → bt (s_bits (fun p => bt (s 0 p) l) np) i = (decide (i < np) && bt (s 0 i) l) := fun s i hi => s_bits_bt _ np i (by omega) hi
    refine ⟨fun y => g_89_130 L3.2.1 _ _ _ _ _ _ _ (q_useI (c_count (β := β) (xs := xs) (L := L) (d := d) L3.2.1 _) (by omega) ?_), fun y => g_89_130 L3.2.1 _ _ _ _ _ _ _ (q_useI (c_count (β := β) (xs := xs) (L := L) (d := d) L3.2.1 _) (by omega) ?_)⟩
    · rw [c_bcP (P := a_str (a_run D 0 (nI day) (nI k) (-1)) (a_run D 0 (nI day) (nI k) (nI a)) l (decide (x3 = 0))) hp20 (fun i hi => by
        rw [b_and, b_xor, b_m1 i hi, bits _ i hi, bits _ i hi, decide_eq_false y]
        unfold a_str
        rw [if_neg (by decide)]
        cases decide (i < np) <;> cases bt (a_run D 0 (nI day) (nI k) (-1) 0 i) l <;> cases bt (a_run D 0 (nI day) (nI k) (nI a) 0 i) l <;> rfl)]
      exact k_good ((f1.tr f2).tr f3) (g2.tr g3) C3 _
    · rw [c_bcP (P := a_str (a_run D 0 (nI day) (nI k) (-1)) (a_run D 0 (nI day) (nI k) (nI a)) l (decide (x3 = 0))) hp20 (fun i hi => by
        rw [b_and, b_xor, b_m1 i hi, bits _ i hi, bits _ i hi, decide_eq_true y]
        unfold a_str
        rw [if_pos rfl]
        cases decide (i < np) <;> cases bt (a_run D 0 (nI day) (nI k) (-1) 0 i) l <;> cases bt (a_run D 0 (nI day) (nI k) (nI a) 0 i) l <;> rfl)]
      exact k_good ((f1.tr f2).tr f3) (g2.tr g3) C3 _
  · have same : a_run D 0 (nI day) (nI k) (nI a) = a_run D 0 (nI day) (nI k) (-1) := a_run_kn e32 (fun b hb => by
      unfold a_knA
      by_cases hba : b = a
      · subst hba; rw [z, Bool.and_false, Bool.and_false]
      · rw [decide_eq_false (fun q => hba (nI_inj2 (by omega) (by omega) q)), decide_eq_false (nI_m1 (by omega))]) 0 (nI day)
    rw [same]
    have e0 : ∀ b n, a_cnt (a_str (a_run D 0 (nI day) (nI k) (-1)) (a_run D 0 (nI day) (nI k) (-1)) l b) n = 0 := fun b n => by
      induction n with
      | zero => rfl
      | succ n ih =>
        have : a_str (a_run D 0 (nI day) (nI k) (-1)) (a_run D 0 (nI day) (nI k) (-1)) l b n = false := by
          unfold a_str
          cases bt (a_run D 0 (nI day) (nI k) (-1) 0 n) l <;> cases b <;> rfl
        unfold a_cnt
        rw [ih, this]
        rfl
    rw [e0]
    exact k_good (f_c.rf I) (f_c.rf J) hC0 _
end Struck1

/-! ===== the class's tokens: next() ===== -/
/-- a token's code in the class -/
def yt_code (t : yt_T) : Nat := if t.1 = 4 then t.2 else if t.1 = 5 then 2 else t.1
def c_tk (t : yt_T) (I : a_F) : Prop := I 32 4 = nI (yt_code t) ∧ (t.1 = 2 → ¬ 5 < I 32 6 ∧ I 32 7 = nI t.2) ∧ (t.1 = 5 → 5 < I 32 6) ∧ (t.1 = 3 → I 32 8 = nI t.2)
/-- the class stands before these tokens -/
def c_ts (tb : Nat → Nat) (n : Nat) (ts : yt_L) (I : a_F) : Prop := (c_tk (yt_hd ts) I ∧ I 32 5 = nI (yt_pl n ts)) ∧ ∃ q, q ≤ n ∧ I 32 3 = nI q ∧ ts.tail = yt_ts tb n q
theorem yt_ts0 {tb : Nat → Nat} {n : Nat} : yt_ts tb n n = [] := by
  unfold yt_ts
  rw [Nat.sub_self]
  rfl
theorem a_is_n0 {b : Bool} : ¬ a_is b = 0 ↔ b = true := by cases b <;> simp [a_is]
section Ctok3
variable {β : Bool} {xs : Nat → Int32} {L : Nat} {G : am_G} {J : Nat → Nat → Int64} {d : Nat} {Q : am_O → am_H → Prop}
theorem k_letL (hR : q_RT G) {tb : Nat → Nat} {n q1 : Nat} {I0 : a_F} (hX : c_tx tb n G I0) (hQ : ∀ I : a_F, q_F c_nsc I0 I → I 32 3 = nI q1 → I 32 4 = I0 32 4 → I 32 5 = I0 32 5 → q_W β xs L (d + 1) 43 138 [.ref 32, .retAddr 0] [] (G, I, J) Q) : ∀ m q (I : a_F), q + m = n → q_F c_nsc I0 I → I 32 3 = nI q → I 32 4 = I0 32 4 → I 32 5 = I0 32 5 → yt_past (fun j => yt_let (tb j)) m q = q1 → q_W β xs L (d + 1) 43 99 [.ref 32, .retAddr 0] [] (G, I, J) Q
  | 0, q, I, hq, hf, h3, h4, h5, he => by
    have e2 : I 32 2 = nI n := (hf 32 2 rfl).trans hX.2.1
    have n5 := hX.2.2.1
    refine g_43_99 hR ⟨fun _ => hQ I hf (h3.trans (congrArg nI he)) h4 h5, fun z => ?_⟩
    rw [h3, e2, nI_ltI (by omega) (by omega)] at z
    omega
  | m + 1, q, I, hq, hf, h3, h4, h5, he => by
    have e2 : I 32 2 = nI n := (hf 32 2 rfl).trans hX.2.1
    have n5 := hX.2.2.1
    obtain ⟨b1, b2⟩ := (hX.F hf).2.2.2 q (by omega)
    have he2 : (if yt_let (tb q) = true then yt_past (fun j => yt_let (tb j)) m (q + 1) else q) = q1 := he
    refine g_43_99 hR ?_
    rw [h3, e2, nI_ltI (by omega) (by omega), show (nI q).toNatClampNeg = q from nI_clamp (by omega)]
    refine ⟨fun z => absurd (show q < n by omega) z, fun _ => ⟨57, hX.1, 500, rfl, am_is_nI (by omega) (by omega), ?_⟩⟩
    rw [b2]
    refine q_useI (k_isL (β := β) (xs := xs) (L := L) (d := d) hR (c_byte (tb q))) (Nat.le_refl _) ?_
    rw [(yt_b2 _ b1).1, h3, nI_1]
    refine ⟨fun z => ?_, fun z => ?_⟩
    · rw [if_neg (by rw [a_is_0.mp z]; decide)] at he2
      exact hQ I hf (h3.trans (congrArg nI he2)) h4 h5
    · rw [if_pos (a_is_n0.mp z)] at he2
      exact k_letL hR hX hQ m (q + 1) _ (by omega) (hf.up _ rfl) am_u_same ((am_u_ne (Or.inr (by decide))).trans h4) ((am_u_ne (Or.inr (by decide))).trans h5) he2
/-- the digits -/
theorem k_digL (hR : q_RT G) {tb : Nat → Nat} {n p q1 : Nat} {I0 : a_F} (hX : c_tx tb n G I0) (hQ : ∀ I : a_F, q_F c_nsc I0 I → I 32 3 = nI q1 → I 32 4 = I0 32 4 → I 32 5 = I0 32 5 → I 32 6 = nI (q1 - p) → I 32 7 = nI (yt_val tb p (min 5 (q1 - p))) → Q (.inl none) (G, I, J)) : ∀ m q (I : a_F), p ≤ q → q + m = n → q_F c_nsc I0 I → I 32 3 = nI q → I 32 4 = I0 32 4 → I 32 5 = I0 32 5 → I 32 6 = nI (q - p) → I 32 7 = nI (yt_val tb p (min 5 (q - p))) → yt_past (fun j => yt_dig (tb j)) m q = q1 → q_W β xs L (d + 1) 44 10 [.ref 32] [] (G, I, J) Q
  | 0, q, I, hp, hq, hf, h3, h4, h5, h6, h7, he => by
    have e2 : I 32 2 = nI n := (hf 32 2 rfl).trans hX.2.1
    have n5 := hX.2.2.1
    have he1 : q = q1 := he
    subst he1
    refine g_44_10 hR ⟨fun _ => g_44_91 hR (hQ I hf h3 h4 h5 h6 h7), fun z => ?_⟩
    rw [h3, e2, nI_ltI (by omega) (by omega)] at z
    omega
  | m + 1, q, I, hp, hq, hf, h3, h4, h5, h6, h7, he => by
    have e2 : I 32 2 = nI n := (hf 32 2 rfl).trans hX.2.1
    have n5 := hX.2.2.1
    obtain ⟨b1, b2⟩ := (hX.F hf).2.2.2 q (by omega)
    have he2 : (if yt_dig (tb q) = true then yt_past (fun j => yt_dig (tb j)) m (q + 1) else q) = q1 := he
    have eq : (nI q).toNatClampNeg = q := nI_clamp (by omega)
    refine g_44_10 hR ?_
    rw [h3, e2, nI_ltI (by omega) (by omega), eq]
    refine ⟨fun z => absurd (show q < n by omega) z, fun _ => ⟨57, hX.1, 500, rfl, am_is_nI (by omega) (by omega), ?_⟩⟩
    rw [b2]
    refine q_useI (k_isD (β := β) (xs := xs) (L := L) (d := d) hR (c_byte (tb q))) (Nat.le_refl _) ?_
    rw [(yt_b2 _ b1).2, h3, h6, h7, eq, nI_1]
    refine ⟨fun z => ?_, fun z => ?_⟩
    · rw [if_neg (by rw [a_is_0.mp z]; decide)] at he2
      subst he2
      exact g_44_91 hR (hQ I hf h3 h4 h5 h6 h7)
    · have hd := a_is_n0.mp z
      obtain ⟨d1, d2⟩ := yt_dig_of hd
      rw [if_pos hd] at he2
      have lt : (5 : Int32) < nI (q - p + 1) ↔ 5 < q - p + 1 := nI_ltI (a := 5) (by omega) (by omega)
      have ec : c_byte (tb q) = nI (tb q) := if_pos (by omega)
      rw [lt]
      refine ⟨fun y => g_44_78 hR ?_, fun y => ⟨57, hX.1, 500, rfl, am_is_nI (by omega) (by omega), g_44_78 hR ?_⟩⟩
      · rw [am_u_ne (Or.inr (by decide)), h3, nI_1]
        refine k_digL hR hX hQ m (q + 1) _ (by omega) (by omega) ((hf.up _ rfl).up _ rfl) am_u_same ?_ ?_ ?_ ?_ he2
        · rw [am_u_ne (Or.inr (by decide)), am_u_ne (Or.inr (by decide))]; exact h4
        · rw [am_u_ne (Or.inr (by decide)), am_u_ne (Or.inr (by decide))]; exact h5
        · rw [am_u_ne (Or.inr (by decide)), am_u_same, show q + 1 - p = q - p + 1 by omega]
        · rw [am_u_ne (Or.inr (by decide)), am_u_ne (Or.inr (by decide)), h7, show min 5 (q + 1 - p) = min 5 (q - p) by omega]
      · have ev : (nI (yt_val tb p (min 5 (q - p))) * 10 + (am_u I 32 6 (nI (q - p + 1)) 57 q - 48) : Int32) = nI (yt_val tb p (min 5 (q + 1 - p))) := by
          rw [am_u_ne (Or.inl (by decide)), b2, ec, show (10 : Int32) = nI 10 from rfl, show (48 : Int32) = nI 48 from rfl, pk_mul, pk_sub d1, nI_add, show min 5 (q - p) = q - p by omega, show min 5 (q + 1 - p) = (q - p) + 1 by omega]
          show _ = nI (yt_val tb p (q - p) * 10 + (tb (p + (q - p)) - 48))
          rw [show p + (q - p) = q by omega]
        rw [ev, am_u_ne (Or.inr (by decide)), am_u_ne (Or.inr (by decide)), h3, nI_1]
        refine k_digL hR hX hQ m (q + 1) _ (by omega) (by omega) (((hf.up _ rfl).up _ rfl).up _ rfl) am_u_same ?_ ?_ ?_ ?_ he2
        · rw [am_u_ne (Or.inr (by decide)), am_u_ne (Or.inr (by decide)), am_u_ne (Or.inr (by decide))]; exact h4
        · rw [am_u_ne (Or.inr (by decide)), am_u_ne (Or.inr (by decide)), am_u_ne (Or.inr (by decide))]; exact h5
        · rw [am_u_ne (Or.inr (by decide)), am_u_ne (Or.inr (by decide)), am_u_same, show q + 1 - p = q - p + 1 by omega]
        · rw [am_u_ne (Or.inr (by decide)), am_u_same]
/-- behind the blanks -/
theorem k_nx1 (hR : q_RT G) {tb : Nat → Nat} {n p : Nat} {I0 I : a_F} (hX : c_tx tb n G I0) (hf : q_F c_nsc I0 I) (hp : p ≤ n) (h3 : I 32 3 = nI p) (ts : yt_L) (hts : if p < n then ts = ((yt_tok tb n p).1, p) :: yt_ts tb n (yt_tok tb n p).2 else ts = []) (hQ : ∀ I' : a_F, q_F c_nsc I0 I' → c_ts tb n ts I' → Q (.inl none) (G, I', J)) : q_W β xs L (d + 5) 43 52 [.ref 32, .retAddr 0] [] (G, I, J) Q := by
  have e2 : I 32 2 = nI n := (hf 32 2 rfl).trans hX.2.1
  have n5 := hX.2.2.1
  refine g_43_52 hR ?_
  rw [h3, e2, nI_ltI (by omega) (by omega), show (nI p).toNatClampNeg = p from nI_clamp (by omega)]
  refine ⟨fun z => ⟨57, hX.1, 500, rfl, am_is_nI (by omega) (by omega), ?_⟩, fun z => ?_⟩
  · rw [if_pos z] at hts
    subst hts
    obtain ⟨b1, b2⟩ := (hX.F hf).2.2.2 p z
    have f5 : q_F c_nsc I0 (am_u I 32 5 (nI p)) := hf.up _ rfl
    have e53 : am_u I 32 5 (nI p) 32 3 = nI p := (am_u_ne (Or.inr (by decide))).trans h3
    have e57 : am_u I 32 5 (nI p) 57 p = c_byte (tb p) := (am_u_ne (Or.inl (by decide))).trans b2
    have epc : (nI p).toNatClampNeg = p := nI_clamp (by omega)
    rw [e57]
    refine q_useI (k_isL (β := β) (xs := xs) (L := L) (d := d + 4) hR (c_byte (tb p))) (Nat.le_refl _) ?_
    rw [(yt_b2 _ b1).1]
    refine ⟨fun y => ?_, fun y => ?_⟩
    · have y1 := a_is_0.mp y
      refine ⟨57, hX.1, 500, rfl, ?_⟩
      rw [e53, epc, e57]
      refine ⟨am_is_nI (by omega) (by omega), ?_⟩
      refine q_useI (k_isD (β := β) (xs := xs) (L := L) (d := d + 4) hR (c_byte (tb p))) (Nat.le_refl _) ?_
      rw [(yt_b2 _ b1).2]
      refine ⟨fun x => ?_, fun x => ?_⟩
      · have x1 := a_is_0.mp x
        refine ⟨57, hX.1, 500, rfl, ?_⟩
        rw [e53, epc, e57]
        refine ⟨am_is_nI (by omega) (by omega), ?_⟩
        have h0 := yt_b3 _ b1
        have fin1 : ¬ tb p ∈ yt_sgn → q_W β xs L (d + 5) 43 210 [.ref 32, .retAddr 0] [] (G, am_u I 32 5 (nI p), J) Q := fun hn => by
          refine g_43_210 hR (g_43_211 hR _ ⟨fun _ => g_43_230 hR _ _ (g_43_243 hR _ rfl ?_), fun q => absurd rfl q⟩)
          rw [e53, nI_1]
          have et : yt_tok tb n p = ((1, 0), p + 1) := by
            unfold yt_tok
            rw [if_neg (by rw [y1]; decide), if_neg (by rw [x1]; decide), if_neg hn]
          rw [et] at hQ
          exact hQ _ ((f5.up _ rfl).up _ rfl) ⟨⟨⟨rfl, fun q => (by cases q), fun q => (by cases q), fun q => by cases q⟩, rfl⟩, p + 1, by omega, am_u_same, rfl⟩
        refine ⟨fun w => fin1 (fun hm => w ?_), fun w => ⟨57, hX.1, 500, rfl, ?_⟩⟩
        · have hb : 0 < tb p ∧ tb p < 128 := by
            revert hm
            exact (by decide : ∀ c ∈ yt_sgn, 0 < c ∧ c < 128) _
          have : decide (0 < c_byte (tb p)) = true := by
            rw [h0, Bool.and_eq_true, Nat.blt_eq, Nat.blt_eq]
            exact hb
          exact of_decide_eq_true this
        · have hb : tb p < 128 := by
            have : decide (0 < c_byte (tb p)) = true := decide_eq_true w
            rw [h0, Bool.and_eq_true, Nat.blt_eq, Nat.blt_eq] at this
            exact this.2
          have ec : c_byte (tb p) = nI (tb p) := if_pos hb
          rw [e57, ec, (yt_b4 _ hb).1]
          refine ⟨am_is_nI (by omega) (by omega), Or.inr rfl, ?_⟩
          refine q_useR (k_sgn (β := β) (xs := xs) (L := L) (d := d) hR hb) (Nat.le_refl _) (fun o h' P => ?_)
          obtain ⟨y, rfl, rfl, hy⟩ := P
          refine ⟨fun u => fin1 (hy.mp u), fun u => ?_⟩
          have hm : tb p ∈ yt_sgn := Decidable.byContradiction (fun q => u (hy.mpr q))
          refine g_43_211 hR _ ⟨fun q => absurd q (by decide), fun _ => ⟨57, hX.1, 500, rfl, ?_⟩⟩
          dsimp only
          rw [e53, epc, e57, ec]
          refine ⟨am_is_nI (by omega) (by omega), g_43_230 hR _ _ (g_43_243 hR _ rfl ?_)⟩
          rw [e53, nI_1]
          have et : yt_tok tb n p = ((4, tb p), p + 1) := by
            unfold yt_tok
            rw [if_neg (by rw [y1]; decide), if_neg (by rw [x1]; decide), if_pos hm]
          rw [et] at hQ
          refine hQ _ ((f5.up _ rfl).up _ rfl) ⟨⟨⟨?_, fun q => (by cases q), fun q => (by cases q), fun q => by cases q⟩, rfl⟩, p + 1, by omega, am_u_same, rfl⟩
          exact (am_u_ne (Or.inr (by decide))).trans am_u_same
      · have x1 := a_is_n0.mp x
        have f4 : q_F c_nsc I0 (am_u (am_u I 32 5 (nI p)) 32 4 2) := f5.up _ rfl
        refine q_mono (g_44_0 hR ?_) (Nat.le_refl _) (fun o h' q => q)
        have g0 : q_F c_nsc I0 (am_u (am_u (am_u (am_u I 32 5 (nI p)) 32 4 2) 32 6 0) 32 7 0) := (f4.up _ rfl).up _ rfl
        generalize hq1 : yt_past (fun j => yt_dig (tb j)) (n - p) p = q1
        have hle := yt_past_le (fun j => yt_dig (tb j)) (n - p) p
        rw [hq1] at hle
        refine k_digL (d := d + 3) (p := p) (q1 := q1) hR (hX.F g0) (fun I2 k1 k2 k3 k4 k5 k6 => g_43_243 hR _ rfl ?_) (n - p) p _ (Nat.le_refl _) (by omega) (q_F.rf _ _) (by rw [am_u_ne (Or.inr (by decide)), am_u_ne (Or.inr (by decide)), am_u_ne (Or.inr (by decide))]; exact e53) rfl rfl ?_ ?_ hq1
        · have et : yt_tok tb n p = (if 5 < q1 - p then (5, 0) else (2, yt_val tb p (q1 - p)), q1) := by
            unfold yt_tok
            rw [if_neg (by rw [y1]; decide), if_pos x1, hq1]
          rw [et] at hQ
          refine hQ I2 (g0.tr k1) ⟨⟨?_, k4⟩, q1, by omega, k2, rfl⟩
          have e4 : I2 32 4 = nI 2 := k3
          by_cases h5 : 5 < q1 - p
          · rw [if_pos h5]
            refine ⟨e4, fun q => (by cases q), fun _ => ?_, fun q => by cases q⟩
            rw [k5]
            exact (nI_ltI (a := 5) (by omega) (by omega)).mpr h5
          · rw [if_neg h5]
            refine ⟨e4, fun _ => ⟨?_, ?_⟩, fun q => (by cases q), fun q => by cases q⟩
            · rw [k5]
              exact fun q => h5 ((nI_ltI (a := 5) (by omega) (by omega)).mp q)
            · rw [k6, show min 5 (q1 - p) = q1 - p by omega]; rfl
        · rw [am_u_ne (Or.inr (by decide)), am_u_same, Nat.sub_self]; rfl
        · rw [am_u_same, Nat.sub_self]; rfl
    · have y1 := a_is_n0.mp y
      have f4 : q_F c_nsc I0 (am_u (am_u I 32 5 (nI p)) 32 4 3) := f5.up _ rfl
      generalize hq1 : yt_past (fun j => yt_let (tb j)) (n - p) p = q1
      have hle := yt_past_le (fun j => yt_let (tb j)) (n - p) p
      rw [hq1] at hle
      refine k_letL (d := d + 4) (q1 := q1) hR (hX.F f4) (fun I2 k1 k2 k3 k4 => g_43_138 hR ?_) (n - p) p _ (by omega) (q_F.rf _ _) ((am_u_ne (Or.inr (by decide))).trans e53) rfl rfl hq1
      refine q_useI (k_wd (β := β) (xs := xs) (L := L) (d := d) hR ((hX.F f4).F k1) k2 k4 (show p ≤ q1 by omega) (by omega)) (Nat.le_refl _) (g_43_243 hR _ rfl ?_)
      have et : yt_tok tb n p = ((3, yt_word tb p q1), q1) := by
        unfold yt_tok
        rw [if_pos y1, hq1]
      rw [et] at hQ
      refine hQ _ ((f4.tr k1).up _ rfl) ⟨⟨⟨?_, fun q => (by cases q), fun q => (by cases q), fun _ => am_u_same⟩, ?_⟩, q1, by omega, (am_u_ne (Or.inr (by decide))).trans k2, rfl⟩
      · exact (am_u_ne (Or.inr (by decide))).trans k3
      · exact (am_u_ne (Or.inr (by decide))).trans k4
  · rw [if_neg z] at hts
    subst hts
    have e : p = n := by omega
    subst e
    refine g_43_243 hR _ rfl (hQ _ ((hf.up _ rfl).up _ rfl) ⟨⟨⟨am_u_same, fun q => (by cases q), fun q => (by cases q), fun q => by cases q⟩, ?_⟩, p, Nat.le_refl _, ?_, yt_ts0.symm⟩)
    · rw [am_u_ne (Or.inr (by decide)), am_u_same]; rfl
    · rw [am_u_ne (Or.inr (by decide)), am_u_ne (Or.inr (by decide))]; exact h3
/-- past the blanks -/
theorem k_nx0 (hR : q_RT G) {tb : Nat → Nat} {n q1 : Nat} {I0 : a_F} (hX : c_tx tb n G I0) (hQ : ∀ I : a_F, q_F c_nsc I0 I → I 32 3 = nI q1 → q_W β xs L (d + 1) 43 52 [.ref 32, .retAddr 0] [] (G, I, J) Q) : ∀ m q (I : a_F), q + m = n → q_F c_nsc I0 I → I 32 3 = nI q → yt_past (fun j => yt_blk (tb j)) m q = q1 → q_W β xs L (d + 1) 43 0 [.ref 32, .retAddr 0] [] (G, I, J) Q
  | 0, q, I, hq, hf, h3, he => by
    have e2 : I 32 2 = nI n := (hf 32 2 rfl).trans hX.2.1
    have n5 := hX.2.2.1
    refine g_43_0 hR ⟨fun _ => hQ I hf (h3.trans (congrArg nI he)), fun z => ?_⟩
    rw [h3, e2, nI_ltI (by omega) (by omega)] at z
    omega
  | m + 1, q, I, hq, hf, h3, he => by
    have e2 : I 32 2 = nI n := (hf 32 2 rfl).trans hX.2.1
    have n5 := hX.2.2.1
    obtain ⟨b1, b2⟩ := (hX.F hf).2.2.2 q (by omega)
    have he2 : (if yt_blk (tb q) = true then yt_past (fun j => yt_blk (tb j)) m (q + 1) else q) = q1 := he
    have bt := yt_b1 _ b1
    have at39 : yt_blk (tb q) = true → q_W β xs L (d + 1) 43 39 [.ref 32, .retAddr 0] [] (G, I, J) Q := fun hb => by
      rw [if_pos hb] at he2
      refine g_43_39 hR ?_
      rw [h3, nI_1]
      exact k_nx0 hR hX hQ m (q + 1) _ (by omega) (hf.up _ rfl) am_u_same he2
    refine g_43_0 hR ?_
    rw [h3, e2, nI_ltI (by omega) (by omega), show (nI q).toNatClampNeg = q from nI_clamp (by omega)]
    refine ⟨fun z => absurd (show q < n by omega) z, fun _ => ⟨57, hX.1, 500, rfl, am_is_nI (by omega) (by omega), ?_⟩⟩
    rw [b2]
    refine ⟨fun z => at39 ?_, fun z => ⟨57, hX.1, 500, rfl, am_is_nI (by omega) (by omega), ?_⟩⟩
    · unfold yt_blk
      rw [← bt.1, decide_eq_true z]; rfl
    · rw [b2]
      refine ⟨fun y => ?_, fun y => at39 ?_⟩
      · have hb : yt_blk (tb q) = false := by
          unfold yt_blk
          rw [← bt.1, ← bt.2, decide_eq_false z, decide_eq_false y]; rfl
        rw [if_neg (by rw [hb]; decide)] at he2
        exact hQ I hf (h3.trans (congrArg nI he2))
      · unfold yt_blk
        rw [← bt.2, decide_eq_true y, Bool.or_true]
/-- next() -/
theorem k_next (hR : q_RT G) {tb : Nat → Nat} {n q : Nat} {I : a_F} (hX : c_tx tb n G I) (hq : q ≤ n) (h3 : I 32 3 = nI q) : q_W β xs L (d + 5) 43 0 [.ref 32, .retAddr 0] [] (G, I, J) (fun o h => o = .inl none ∧ ∃ I', h = (G, I', J) ∧ q_F c_nsc I I' ∧ c_ts tb n (yt_ts tb n q) I') := by
  have hs := yt_skip_le (tb := tb) hq
  refine k_nx0 (d := d + 4) hR hX (q1 := yt_skip tb n q) (fun I1 h1 h2 => ?_) (n - q) q I (by omega) (q_F.rf _ _) h3 rfl
  refine k_nx1 (d := d) hR hX h1 hs.2 h2 (yt_ts tb n q) ?_ (fun I' k1 k2 => ⟨rfl, I', rfl, k1, k2⟩)
  split
  · rename_i z; exact yt_ts_c hq z
  · rename_i z; exact yt_ts_n z
end Ctok3

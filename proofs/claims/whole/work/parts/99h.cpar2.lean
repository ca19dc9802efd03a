/-! ===== the class's parser: expressions ===== -/
/-- a method that reads what x reads -/
def c_nt (β : Bool) (xs : Nat → Int32) (L : Nat) (tb : Nat → Nat) (n : Nat) (G : am_G) (J : Nat → Nat → Int64) (dd K : Nat) (ls : List Value) (x : yt_L → yx_R) : Prop := ∀ s ts I, c_ge tb n s ts G I → s + ts.length ≤ 6000 → q_W β xs L dd K 0 ls [] (G, I, J) (fun o h => o = .inl none ∧ ∃ I', h = (G, I', J) ∧ c_po tb n s (x ts) G I I')
theorem c_op_val : ∀ v, v < 28 → 15 ≤ v → c_op ((-1) - (nI v - 15)) = (nI 2, nI (v - 15)) := by decide +kernel
theorem c_op_num {v : Nat} (h : v < 2 ^ 31) : c_op (nI v) = (nI 1, nI v) := if_pos (nI_pos h)
theorem c_op_sgn : c_op (-(nI 42)) = (nI 10, 0) ∧ c_op (-(nI 47)) = (nI 11, 0) ∧ c_op (-(nI 43)) = (nI 8, 0) ∧ c_op (-(nI 45)) = (nI 9, 0) ∧ c_op (-(nI 60)) = (nI 6, 0) ∧ c_op (-(nI 61)) = (nI 7, 0) ∧ c_op (-201) = (nI 4, 0) ∧ c_op (-202) = (nI 5, 0) ∧ c_op (-203) = (nI 3, 0) := by decide +kernel
theorem yx_oP_c {t : yt_T} {c : Nat} (hc : c = 42 ∨ c = 47) (h : t = (4, c)) : yx_oP t ≠ 0 ∧ c_op (-(nI c)) = (nI (yx_oP t), 0) := by
  subst h
  rcases hc with e | e <;> subst e
  · exact ⟨by decide, c_op_sgn.1⟩
  · exact ⟨by decide, c_op_sgn.2.1⟩
theorem yx_oS_c {t : yt_T} {c : Nat} (hc : c = 43 ∨ c = 45) (h : t = (4, c)) : yx_oS t ≠ 0 ∧ c_op (-(nI c)) = (nI (yx_oS t), 0) := by
  subst h
  rcases hc with e | e <;> subst e
  · exact ⟨by decide, c_op_sgn.2.2.1⟩
  · exact ⟨by decide, c_op_sgn.2.2.2.1⟩
theorem yx_oC_c {t : yt_T} {c : Nat} (hc : c = 60 ∨ c = 61) (h : t = (4, c)) : yx_oC t ≠ 0 ∧ c_op (-(nI c)) = (nI (yx_oC t), 0) := by
  subst h
  rcases hc with e | e <;> subst e
  · exact ⟨by decide, c_op_sgn.2.2.2.2.1⟩
  · exact ⟨by decide, c_op_sgn.2.2.2.2.2.1⟩
theorem yx_oP_n {t : yt_T} (h1 : ¬ t = (4, 42)) (h2 : ¬ t = (4, 47)) : yx_oP t = 0 := by
  unfold yx_oP
  rw [if_neg h1, if_neg h2]
theorem yx_oS_n {t : yt_T} (h1 : ¬ t = (4, 43)) (h2 : ¬ t = (4, 45)) : yx_oS t = 0 := by
  unfold yx_oS
  rw [if_neg h1, if_neg h2]
theorem yx_oC_n {t : yt_T} (h1 : ¬ t = (4, 60)) (h2 : ¬ t = (4, 61)) : yx_oC t = 0 := by
  unfold yx_oC
  rw [if_neg h1, if_neg h2]
theorem a_is_d0 {p : Prop} [Decidable p] : a_is (decide p) = 0 ↔ ¬ p := by rw [a_is_0]; exact decide_eq_false_iff_not
theorem a_is_d1 {p : Prop} [Decidable p] : ¬ a_is (decide p) = 0 ↔ p := by rw [a_is_n0]; exact decide_eq_true_iff
section Cpar2
variable {β : Bool} {xs : Nat → Int32} {L : Nat} {G : am_G} {J : Nat → Nat → Int64} {tb : Nat → Nat} {n : Nat}
theorem k_part {w dE H : Nat} {E : yt_L → yx_R} (hR : q_RT G) (hE : c_nt β xs L tb n G J dE 31 [.ref 32, .int (nI (w + 1)), .retAddr 0] E) (hg : yx_g H E) (hd : 6 ≤ dE) : c_nt β xs L tb n G J (dE + 1) 36 [.ref 32, .int (nI w)] (yx_part n E) := fun s ts I h hs => by
  obtain ⟨d, rfl⟩ : ∃ d, dE = d + 6 := ⟨dE - 6, by omega⟩
  have h0 := c_st.rf h
  refine g_36_0 hR _ ?_
  refine q_useI (k_isS1 (β := β) (xs := xs) (L := L) (J := J) (d := d + 6) hR h (c := 40) (by decide)) (Nat.le_refl _) ⟨fun z => ⟨fun y => ?_, fun y => ?_⟩, fun z => ?_⟩
  · have z1 := a_is_d0.mp z
    have y1 : ¬ (yt_hd ts).1 = 3 := fun q => y (h.hd.1.mpr q)
    refine q_useVI (k_num1 (β := β) (xs := xs) (L := L) (J := J) (d := d) hR h (by omega)) (by omega) (fun v I1 q => ?_)
    have hd1 := yt_hd_ok h.2.2.2.2
    unfold yx_part
    rw [if_neg z1, if_neg y1]
    by_cases h2 : (yt_hd ts).1 = 2
    · rw [if_pos h2] at q ⊢
      obtain ⟨rfl, rfl, q3⟩ := q
      have l1 := yt_tl_len (ts := ts) rfl (by rw [h2]; decide)
      refine ⟨fun x => absurd x (by decide), fun _ => ?_⟩
      rw [q3]
      have hv : (yt_hd ts).2 < 100000 := by
        rcases hd1 with q | q | q | q | q | q
        · rw [q] at h2; cases h2
        · rw [q] at h2; cases h2
        · exact q.2
        · omega
        · omega
        · rw [q] at h2; cases h2
      refine q_useV (k_put1 (β := β) (xs := xs) (L := L) (J := J) (d := d) hR h0 (by show s + 0 < 6000; omega) (nI (yt_hd ts).2)) (by omega) (fun I2 g2 => ?_)
      refine q_useV (k_next1 (β := β) (xs := xs) (L := L) (J := J) (d := d) hR g2) (by omega) (fun I3 g3 => g_36_100 hR _ ⟨rfl, I3, rfl, ?_⟩)
      rw [c_op_num (by omega)] at g3
      exact g3
    · rw [if_neg h2] at q ⊢
      obtain ⟨rfl, q2⟩ := q
      exact ⟨fun _ => g_36_100 hR _ ⟨rfl, I1, rfl, q2⟩, fun x => absurd rfl x⟩
  · have z1 := a_is_d0.mp z
    have y1 := h.hd.1.mp y
    have e8 : I 32 8 = nI (yt_hd ts).2 := h.2.1.1.1.2.2.2 y1
    have hv : (yt_hd ts).2 ≤ 28 := by
      rcases yt_hd_ok h.2.2.2.2 with q | q | q | q | q | q
      · rw [q] at y1; cases y1
      · rw [q] at y1; cases y1
      · omega
      · exact q.2
      · omega
      · rw [q] at y1; cases y1
    have l1 := yt_tl_len (ts := ts) rfl (by rw [y1]; decide)
    rw [e8]
    have lt1 : nI (yt_hd ts).2 < 15 ↔ (yt_hd ts).2 < 15 := nI_ltI (b := 15) (by omega) (by omega)
    have lt2 : nI (yt_hd ts).2 < 28 ↔ (yt_hd ts).2 < 28 := nI_ltI (b := 28) (by omega) (by omega)
    rw [lt1, lt2]
    have bad : ¬ (15 ≤ (yt_hd ts).2 ∧ (yt_hd ts).2 < 28) → q_W β xs L (d + 6 + 1) 36 55 [.ref 32, .int (nI w)] [] (G, I, J) (fun o h => o = .inl none ∧ ∃ I', h = (G, I', J) ∧ c_po tb n s (yx_part n E ts) G I I') := fun hb => by
      refine g_36_55 hR _ (q_useV (k_fail1 (β := β) (xs := xs) (L := L) (J := J) (d := d) hR h (by omega) (k := 3) (by decide)) (by omega) (fun I1 q => ⟨rfl, I1, rfl, ?_⟩))
      unfold yx_part
      rw [if_neg z1, if_pos y1, if_neg hb]
      exact q
    refine ⟨fun x => bad (by omega), fun x => ⟨fun u => ?_, fun u => bad (by omega)⟩⟩
    refine q_useV (k_put1 (β := β) (xs := xs) (L := L) (J := J) (d := d) hR h0 (by show s + 0 < 6000; omega) _) (by omega) (fun I2 g2 => ?_)
    refine q_useV (k_next1 (β := β) (xs := xs) (L := L) (J := J) (d := d) hR g2) (by omega) (fun I3 g3 => g_36_100 hR _ ⟨rfl, I3, rfl, ?_⟩)
    rw [c_op_val _ u (by omega)] at g3
    unfold yx_part
    rw [if_neg z1, if_pos y1, if_pos ⟨by omega, u⟩]
    exact g3
  · have z1 := a_is_d1.mp z
    have l1 := yt_tl_len z1 (by decide)
    refine q_useV (k_next1 (β := β) (xs := xs) (L := L) (J := J) (d := d) hR h0) (by omega) (fun I1 g1 => ?_)
    rw [nI_1]
    refine q_useV (hE s ts.tail I1 g1.2.1 (by omega)) (by omega) (fun I2 g2 => ?_)
    have ep : yx_part n E ts = (match E ts.tail with
      | .inl e => .inl e
      | .inr (c, r) => if yt_hd r = (4, 41) then .inr (c, r.tail) else .inl (1, yt_pl n r)) := if_pos z1
    cases hx : E ts.tail with
    | inl e =>
      rw [hx] at g2 ep
      have g2' : c_sb tb n s e G I I2 := g1.seqb g2
      refine q_useV (k_exp0 (β := β) (xs := xs) (L := L) (J := J) (d := d) hR g2' 41) (by omega) (fun I3 g3 => g_36_100 hR _ ⟨rfl, I3, rfl, ?_⟩)
      rw [ep]
      exact g3
    | inr y =>
      obtain ⟨c, r⟩ := y
      rw [hx] at g2 ep
      have g2' : c_st tb n s c r G I I2 := g1.seq g2
      have b := (hg _ _ _ hx).1
      refine q_useV (k_exp1 (β := β) (xs := xs) (L := L) (J := J) (d := d) hR g2' (by omega) (c := 41) (by decide)) (by omega) (fun I3 g3 => g_36_100 hR _ ⟨rfl, I3, rfl, ?_⟩)
      rw [ep]
      dsimp only
      by_cases h4 : yt_hd r = (4, 41)
      · rw [if_pos h4] at g3 ⊢
        exact g3
      · rw [if_neg h4] at g3 ⊢
        exact g3
theorem k_prodB {w d s : Nat} {I0 I : a_F} {e : Nat × Nat} (hR : q_RT G) (h : c_sb tb n s e G I0 I) (i : Nat) (v3 : Value) (n3 : am_nl v3 = true) : q_W β xs L (d + 1) 35 7 [.ref 32, .int (nI w), .int (nI i), v3] [] (G, I, J) (fun o h => o = .inl none ∧ ∃ I', h = (G, I', J) ∧ c_sb tb n s e G I0 I') := by
  have fin : q_W β xs L (d + 1) 35 58 [.ref 32, .int (nI w), .int (nI i), v3] [] (G, I, J) (fun o h => o = .inl none ∧ ∃ I', h = (G, I', J) ∧ c_sb tb n s e G I0 I') := g_35_58 hR _ _ _ n3 ⟨rfl, I, rfl, h⟩
  refine g_35_7 hR _ _ _ n3 ⟨fun _ => fin, fun _ => ?_⟩
  refine q_useI (k_isS0 (β := β) (xs := xs) (L := L) (J := J) (d := d) hR h.2 42) (Nat.le_refl _) ⟨fun z => absurd rfl z, fun _ => ?_⟩
  exact q_useI (k_isS0 (β := β) (xs := xs) (L := L) (J := J) (d := d) hR h.2 47) (Nat.le_refl _) ⟨fun _ => fin, fun z => absurd rfl z⟩
theorem k_prodL {w dS H s : Nat} {S : yt_L → yx_R} {I0 : a_F} (hR : q_RT G) (hS : c_nt β xs L tb n G J dS 36 [.ref 32, .int (nI w)] S) (hg : yx_g H S) (hd : 5 ≤ dS) : ∀ f i acc ts (I : a_F) (v3 : Value), am_nl v3 = true → i + f = 500 → c_st tb n s acc ts G I0 I → s + acc.length + ts.length ≤ 6000 → q_W β xs L (dS + 1) 35 7 [.ref 32, .int (nI w), .int (nI i), v3] [] (G, I, J) (fun o h => o = .inl none ∧ ∃ I', h = (G, I', J) ∧ c_po tb n s (yx_binL yx_oP S f acc ts) G I0 I')
  | 0, i, acc, ts, I, v3, n3, hi, h, hs => by
    have e : i = 500 := by omega
    subst e
    exact g_35_7 hR _ _ _ n3 ⟨fun _ => g_35_58 hR _ _ _ n3 ⟨rfl, I, rfl, h⟩, fun z => absurd z (by decide)⟩
  | f + 1, i, acc, ts, I, v3, n3, hi, h, hs => by
    obtain ⟨d, rfl⟩ : ∃ d, dS = d + 5 := ⟨dS - 5, by omega⟩
    have at32 : ∀ c, c = 42 ∨ c = 47 → yt_hd ts = (4, c) → q_W β xs L (d + 5 + 1) 35 32 [.ref 32, .int (nI w), .int (nI i), v3] [] (G, I, J) (fun o h => o = .inl none ∧ ∃ I', h = (G, I', J) ∧ c_po tb n s (yx_binL yx_oP S (f + 1) acc ts) G I0 I') := fun c hc ht => by
      obtain ⟨o1, o2⟩ := yx_oP_c hc ht
      have l1 := yt_tl_len ht (show ¬ (4 : Nat) = 0 by decide)
      have e4 : I 32 4 = nI c := (h.2.1.hd.2.2.2 c (by omega) (by omega)).mpr ht
      have eb : yx_binL yx_oP S (f + 1) acc ts = (match S ts.tail with
        | .inl e => .inl e
        | .inr (c, r) => yx_binL yx_oP S f (acc ++ c ++ [(nI (yx_oP (yt_hd ts)), 0)]) r) := if_neg o1
      refine g_35_32 hR _ _ _ n3 ?_
      rw [e4, nI_1]
      refine q_useV (k_next1 (β := β) (xs := xs) (L := L) (J := J) (d := d) hR h) (by omega) (fun I1 g1 => ?_)
      refine q_useV (hS (s + acc.length) ts.tail I1 g1.2.1 (by omega)) (Nat.le_refl _) (fun I2 g2 => ?_)
      cases hx : S ts.tail with
      | inl e =>
        rw [hx] at g2 eb
        refine q_useV (k_put0 (β := β) (xs := xs) (L := L) (J := J) (d := d) hR (g1.seqb g2) _) (by omega) (fun I3 g3 => ?_)
        rw [eb]
        exact k_prodB hR g3 _ _ rfl
      | inr y =>
        obtain ⟨c1, r⟩ := y
        rw [hx] at g2 eb
        have b := (hg _ _ _ hx).1
        have g2' : c_st tb n s (acc ++ c1) r G I0 I2 := g1.seq g2
        have bl : (acc ++ c1).length = acc.length + c1.length := List.length_append
        refine q_useV (k_put1 (β := β) (xs := xs) (L := L) (J := J) (d := d) hR g2' (by omega) (-(nI c))) (by omega) (fun I3 g3 => ?_)
        rw [eb]
        rw [o2] at g3
        refine k_prodL hR hS hg hd f (i + 1) _ r I3 _ rfl (by omega) g3 ?_
        simp only [List.length_append, List.length_singleton]
        omega
    refine g_35_7 hR _ _ _ n3 ⟨fun z => absurd ((nI_ltI (b := 500) (by omega) (by omega)).mpr (by omega)) z, fun _ => ?_⟩
    refine q_useI (k_isS1 (β := β) (xs := xs) (L := L) (J := J) (d := d + 5) hR h.2.1 (c := 42) (by decide)) (Nat.le_refl _) ⟨fun z => at32 42 (Or.inl rfl) (a_is_d1.mp z), fun z => ?_⟩
    refine q_useI (k_isS1 (β := β) (xs := xs) (L := L) (J := J) (d := d + 5) hR h.2.1 (c := 47) (by decide)) (Nat.le_refl _) ⟨fun y => ?_, fun y => at32 47 (Or.inr rfl) (a_is_d1.mp y)⟩
    have eb : yx_binL yx_oP S (f + 1) acc ts = .inr (acc, ts) := if_pos (yx_oP_n (a_is_d0.mp z) (a_is_d0.mp y))
    rw [eb]
    exact g_35_58 hR _ _ _ n3 ⟨rfl, I, rfl, h⟩
theorem k_prod {w dS H : Nat} {S : yt_L → yx_R} (hR : q_RT G) (hS : c_nt β xs L tb n G J dS 36 [.ref 32, .int (nI w)] S) (hg : yx_g H S) (hd : 5 ≤ dS) : c_nt β xs L tb n G J (dS + 1) 35 [.ref 32, .int (nI w), .retAddr 0, .retAddr 0] (yx_bin yx_oP S) := fun s ts I h hs => by
  refine g_35_0 hR _ (q_useV (hS s ts I h hs) (Nat.le_refl _) (fun I1 g1 => ?_))
  unfold yx_bin
  cases hx : S ts with
  | inl e =>
    rw [hx] at g1
    exact k_prodB hR g1 0 _ rfl
  | inr y =>
    obtain ⟨c, r⟩ := y
    rw [hx] at g1
    have b := (hg _ _ _ hx).1
    exact k_prodL hR hS hg hd 500 0 c r I1 _ rfl rfl g1 (by omega)
theorem k_sumB {w d s : Nat} {I0 I : a_F} {e : Nat × Nat} (hR : q_RT G) (h : c_sb tb n s e G I0 I) (i : Nat) (v3 : Value) (n3 : am_nl v3 = true) : q_W β xs L (d + 1) 34 7 [.ref 32, .int (nI w), .int (nI i), v3] [] (G, I, J) (fun o h => o = .inl none ∧ ∃ I', h = (G, I', J) ∧ c_sb tb n s e G I0 I') := by
  have fin : q_W β xs L (d + 1) 34 58 [.ref 32, .int (nI w), .int (nI i), v3] [] (G, I, J) (fun o h => o = .inl none ∧ ∃ I', h = (G, I', J) ∧ c_sb tb n s e G I0 I') := g_34_58 hR _ _ _ n3 ⟨rfl, I, rfl, h⟩
  refine g_34_7 hR _ _ _ n3 ⟨fun _ => fin, fun _ => ?_⟩
  refine q_useI (k_isS0 (β := β) (xs := xs) (L := L) (J := J) (d := d) hR h.2 43) (Nat.le_refl _) ⟨fun z => absurd rfl z, fun _ => ?_⟩
  exact q_useI (k_isS0 (β := β) (xs := xs) (L := L) (J := J) (d := d) hR h.2 45) (Nat.le_refl _) ⟨fun _ => fin, fun z => absurd rfl z⟩
theorem k_sumL {w dS H s : Nat} {S : yt_L → yx_R} {I0 : a_F} (hR : q_RT G) (hS : c_nt β xs L tb n G J dS 35 [.ref 32, .int (nI w), .retAddr 0, .retAddr 0] S) (hg : yx_g H S) (hd : 5 ≤ dS) : ∀ f i acc ts (I : a_F) (v3 : Value), am_nl v3 = true → i + f = 500 → c_st tb n s acc ts G I0 I → s + acc.length + ts.length ≤ 6000 → q_W β xs L (dS + 1) 34 7 [.ref 32, .int (nI w), .int (nI i), v3] [] (G, I, J) (fun o h => o = .inl none ∧ ∃ I', h = (G, I', J) ∧ c_po tb n s (yx_binL yx_oS S f acc ts) G I0 I')
  | 0, i, acc, ts, I, v3, n3, hi, h, hs => by
    have e : i = 500 := by omega
    subst e
    exact g_34_7 hR _ _ _ n3 ⟨fun _ => g_34_58 hR _ _ _ n3 ⟨rfl, I, rfl, h⟩, fun z => absurd z (by decide)⟩
  | f + 1, i, acc, ts, I, v3, n3, hi, h, hs => by
    obtain ⟨d, rfl⟩ : ∃ d, dS = d + 5 := ⟨dS - 5, by omega⟩
    have at32 : ∀ c, c = 43 ∨ c = 45 → yt_hd ts = (4, c) → q_W β xs L (d + 5 + 1) 34 32 [.ref 32, .int (nI w), .int (nI i), v3] [] (G, I, J) (fun o h => o = .inl none ∧ ∃ I', h = (G, I', J) ∧ c_po tb n s (yx_binL yx_oS S (f + 1) acc ts) G I0 I') := fun c hc ht => by
      obtain ⟨o1, o2⟩ := yx_oS_c hc ht
      have l1 := yt_tl_len ht (show ¬ (4 : Nat) = 0 by decide)
      have e4 : I 32 4 = nI c := (h.2.1.hd.2.2.2 c (by omega) (by omega)).mpr ht
      have eb : yx_binL yx_oS S (f + 1) acc ts = (match S ts.tail with
        | .inl e => .inl e
        | .inr (c, r) => yx_binL yx_oS S f (acc ++ c ++ [(nI (yx_oS (yt_hd ts)), 0)]) r) := if_neg o1
      refine g_34_32 hR _ _ _ n3 ?_
      rw [e4, nI_1]
      refine q_useV (k_next1 (β := β) (xs := xs) (L := L) (J := J) (d := d) hR h) (by omega) (fun I1 g1 => ?_)
      refine q_useV (hS (s + acc.length) ts.tail I1 g1.2.1 (by omega)) (Nat.le_refl _) (fun I2 g2 => ?_)
      cases hx : S ts.tail with
      | inl e =>
        rw [hx] at g2 eb
        refine q_useV (k_put0 (β := β) (xs := xs) (L := L) (J := J) (d := d) hR (g1.seqb g2) _) (by omega) (fun I3 g3 => ?_)
        rw [eb]
        exact k_sumB hR g3 _ _ rfl
      | inr y =>
        obtain ⟨c1, r⟩ := y
        rw [hx] at g2 eb
        have b := (hg _ _ _ hx).1
        have g2' : c_st tb n s (acc ++ c1) r G I0 I2 := g1.seq g2
        have bl : (acc ++ c1).length = acc.length + c1.length := List.length_append
        refine q_useV (k_put1 (β := β) (xs := xs) (L := L) (J := J) (d := d) hR g2' (by omega) (-(nI c))) (by omega) (fun I3 g3 => ?_)
        rw [eb]
        rw [o2] at g3
        refine k_sumL hR hS hg hd f (i + 1) _ r I3 _ rfl (by omega) g3 ?_
        simp only [List.length_append, List.length_singleton]
        omega
    refine g_34_7 hR _ _ _ n3 ⟨fun z => absurd ((nI_ltI (b := 500) (by omega) (by omega)).mpr (by omega)) z, fun _ => ?_⟩
    refine q_useI (k_isS1 (β := β) (xs := xs) (L := L) (J := J) (d := d + 5) hR h.2.1 (c := 43) (by decide)) (Nat.le_refl _) ⟨fun z => at32 43 (Or.inl rfl) (a_is_d1.mp z), fun z => ?_⟩
    refine q_useI (k_isS1 (β := β) (xs := xs) (L := L) (J := J) (d := d + 5) hR h.2.1 (c := 45) (by decide)) (Nat.le_refl _) ⟨fun y => ?_, fun y => at32 45 (Or.inr rfl) (a_is_d1.mp y)⟩
    have eb : yx_binL yx_oS S (f + 1) acc ts = .inr (acc, ts) := if_pos (yx_oS_n (a_is_d0.mp z) (a_is_d0.mp y))
    rw [eb]
    exact g_34_58 hR _ _ _ n3 ⟨rfl, I, rfl, h⟩
theorem k_sum {w dS H : Nat} {S : yt_L → yx_R} (hR : q_RT G) (hS : c_nt β xs L tb n G J dS 35 [.ref 32, .int (nI w), .retAddr 0, .retAddr 0] S) (hg : yx_g H S) (hd : 5 ≤ dS) : c_nt β xs L tb n G J (dS + 1) 34 [.ref 32, .int (nI w), .retAddr 0, .retAddr 0] (yx_bin yx_oS S) := fun s ts I h hs => by
  refine g_34_0 hR _ (q_useV (hS s ts I h hs) (Nat.le_refl _) (fun I1 g1 => ?_))
  unfold yx_bin
  cases hx : S ts with
  | inl e =>
    rw [hx] at g1
    exact k_sumB hR g1 0 _ rfl
  | inr y =>
    obtain ⟨c, r⟩ := y
    rw [hx] at g1
    have b := (hg _ _ _ hx).1
    exact k_sumL hR hS hg hd 500 0 c r I1 _ rfl rfl g1 (by omega)
/-- the nots behind a test -/
theorem k_nots {w s k : Nat} {I0 : a_F} {acc : yx_C} {r : yt_L} {d : Nat} (hR : q_RT G) (hs : s + acc.length + k ≤ 6000) (hk : k ≤ 6) : ∀ m i (I : a_F), i + m = k → c_st tb n s (acc ++ List.replicate i (nI 3, 0)) r G I0 I → q_W β xs L (d + 1) 33 84 [.ref 32, .int (nI w), .int (nI k), .int (nI i)] [] (G, I, J) (fun o h => o = .inl none ∧ ∃ I', h = (G, I', J) ∧ c_st tb n s (acc ++ List.replicate k (nI 3, 0)) r G I0 I')
  | 0, i, I, hi, h => by
    have e : i = k := by omega
    subst e
    exact g_33_84 hR _ _ _ ⟨fun _ => ⟨rfl, I, rfl, h⟩, fun z => absurd ((nI_ltI (by omega) (by omega)).mp z) (Nat.lt_irrefl _)⟩
  | m + 1, i, I, hi, h => by
    refine g_33_84 hR _ _ _ ⟨fun z => absurd ((nI_ltI (by omega) (by omega)).mpr (by omega)) z, fun _ => ?_⟩
    rw [nI_1]
    have bl : (acc ++ List.replicate i ((nI 3, 0) : Int32 × Int32)).length = acc.length + i := by rw [List.length_append, List.length_replicate]
    refine q_useV (k_put1 (β := β) (xs := xs) (L := L) (J := J) (d := d) hR h (by omega) (-203)) (by omega) (fun I1 g1 => ?_)
    refine k_nots hR hs hk m (i + 1) I1 (by omega) ?_
    rw [show c_op (-203) = (nI 3, 0) by decide +kernel, List.append_assoc] at g1
    rw [List.replicate_succ']
    exact g1
theorem k_notsB {w s k : Nat} {I0 : a_F} {e : Nat × Nat} {d : Nat} (hR : q_RT G) (hk : k ≤ 6) : ∀ m i (I : a_F), i + m = k → c_sb tb n s e G I0 I → q_W β xs L (d + 1) 33 84 [.ref 32, .int (nI w), .int (nI k), .int (nI i)] [] (G, I, J) (fun o h => o = .inl none ∧ ∃ I', h = (G, I', J) ∧ c_sb tb n s e G I0 I')
  | 0, i, I, hi, h => by
    have e : i = k := by omega
    subst e
    exact g_33_84 hR _ _ _ ⟨fun _ => ⟨rfl, I, rfl, h⟩, fun z => absurd ((nI_ltI (by omega) (by omega)).mp z) (Nat.lt_irrefl _)⟩
  | m + 1, i, I, hi, h => by
    refine g_33_84 hR _ _ _ ⟨fun z => absurd ((nI_ltI (by omega) (by omega)).mpr (by omega)) z, fun _ => ?_⟩
    rw [nI_1]
    refine q_useV (k_put0 (β := β) (xs := xs) (L := L) (J := J) (d := d) hR h (-203)) (by omega) (fun I1 g1 => ?_)
    exact k_notsB hR hk m (i + 1) I1 (by omega) g1
/-- k nots behind -/
def yx_nk (k : Nat) (r : yx_R) : yx_R := match r with
  | .inl e => .inl e
  | .inr (c, ts) => .inr (c ++ List.replicate k (nI 3, 0), ts)
/-- a test, k nots having been read -/
theorem k_cmp {w dS H s k : Nat} {S : yt_L → yx_R} {I0 I : a_F} {ts : yt_L} (hR : q_RT G) (hS : c_nt β xs L tb n G J dS 34 [.ref 32, .int (nI w), .retAddr 0, .retAddr 0] S) (hg : yx_g H S) (hd : 5 ≤ dS) (hk : k ≤ 6) (h : c_st tb n s [] ts G I0 I) (hs : s + k + ts.length ≤ 6000) : q_W β xs L (dS + 1) 33 39 [.ref 32, .int (nI w), .int (nI k), .retAddr 0] [] (G, I, J) (fun o h => o = .inl none ∧ ∃ I', h = (G, I', J) ∧ c_po tb n s (yx_nk k (yx_cmp S ts)) G I0 I') := by
  obtain ⟨d, rfl⟩ : ∃ d, dS = d + 5 := ⟨dS - 5, by omega⟩
  have bad : ∀ (e : Nat × Nat) (I1 : a_F) (v3 : Value), am_nl v3 = true → c_sb tb n s e G I0 I1 → q_W β xs L (d + 5 + 1) 33 82 [.ref 32, .int (nI w), .int (nI k), v3] [] (G, I1, J) (fun o h => o = .inl none ∧ ∃ I', h = (G, I', J) ∧ c_sb tb n s e G I0 I') := fun e I1 v3 n3 q => g_33_82 hR _ _ _ n3 (k_notsB hR hk k 0 I1 (Nat.zero_add _) q)
  have good : ∀ (c : yx_C) (r : yt_L) (I1 : a_F) (v3 : Value), am_nl v3 = true → c_st tb n s c r G I0 I1 → s + c.length + k ≤ 6000 → q_W β xs L (d + 5 + 1) 33 82 [.ref 32, .int (nI w), .int (nI k), v3] [] (G, I1, J) (fun o h => o = .inl none ∧ ∃ I', h = (G, I', J) ∧ c_st tb n s (c ++ List.replicate k (nI 3, 0)) r G I0 I') := fun c r I1 v3 n3 q hb => g_33_82 hR _ _ _ n3 (k_nots hR hb hk k 0 I1 (Nat.zero_add _) (by rw [List.replicate_zero, List.append_nil]; exact q))
  refine g_33_39 hR _ _ (q_useV (hS s ts I h.2.1 (by omega)) (Nat.le_refl _) (fun I1 g1 => ?_))
  unfold yx_cmp
  cases hx : S ts with
  | inl e =>
    rw [hx] at g1
    have g1' : c_sb tb n s e G I0 I1 := h.seqb g1
    refine q_useI (k_isS0 (β := β) (xs := xs) (L := L) (J := J) (d := d + 5) hR g1'.2 60) (Nat.le_refl _) ⟨fun z => absurd rfl z, fun _ => ?_⟩
    exact q_useI (k_isS0 (β := β) (xs := xs) (L := L) (J := J) (d := d + 5) hR g1'.2 61) (Nat.le_refl _) ⟨fun _ => bad e I1 _ rfl g1', fun z => absurd rfl z⟩
  | inr y =>
    obtain ⟨c, r⟩ := y
    rw [hx] at g1
    have b := (hg _ _ _ hx).1
    have g1' : c_st tb n s c r G I0 I1 := h.seq g1
    have at62 : ∀ cc, cc = 60 ∨ cc = 61 → yt_hd r = (4, cc) → q_W β xs L (d + 5 + 1) 33 62 [.ref 32, .int (nI w), .int (nI k), .retAddr 0] [] (G, I1, J) (fun o h => o = .inl none ∧ ∃ I', h = (G, I', J) ∧ c_po tb n s (yx_nk k (if yx_oC (yt_hd r) = 0 then .inr (c, r) else (match S r.tail with
      | .inl e => .inl e
      | .inr (c2, r2) => .inr (c ++ c2 ++ [(nI (yx_oC (yt_hd r)), 0)], r2)))) G I0 I') := fun cc hc ht => by
      obtain ⟨o1, o2⟩ := yx_oC_c hc ht
      have l1 := yt_tl_len ht (show ¬ (4 : Nat) = 0 by decide)
      have e4 : I1 32 4 = nI cc := (g1'.2.1.hd.2.2.2 cc (by omega) (by omega)).mpr ht
      rw [if_neg o1]
      refine g_33_62 hR _ _ ?_
      rw [e4]
      refine q_useV (k_next1 (β := β) (xs := xs) (L := L) (J := J) (d := d) hR g1') (by omega) (fun I2 g2 => ?_)
      refine q_useV (hS (s + c.length) r.tail I2 g2.2.1 (by omega)) (Nat.le_refl _) (fun I3 g3 => ?_)
      cases hy : S r.tail with
      | inl e =>
        rw [hy] at g3
        exact q_useV (k_put0 (β := β) (xs := xs) (L := L) (J := J) (d := d) hR (g2.seqb g3) _) (by omega) (fun I4 g4 => bad e I4 _ rfl g4)
      | inr y =>
        obtain ⟨c2, r2⟩ := y
        rw [hy] at g3
        have b2 := (hg _ _ _ hy).1
        have g3' : c_st tb n s (c ++ c2) r2 G I0 I3 := g2.seq g3
        have bl : (c ++ c2).length = c.length + c2.length := List.length_append
        refine q_useV (k_put1 (β := β) (xs := xs) (L := L) (J := J) (d := d) hR g3' (by omega) (-(nI cc))) (by omega) (fun I4 g4 => ?_)
        rw [o2] at g4
        refine good _ r2 I4 _ rfl g4 ?_
        simp only [List.length_append, List.length_singleton]
        omega
    refine q_useI (k_isS1 (β := β) (xs := xs) (L := L) (J := J) (d := d + 5) hR g1'.2.1 (c := 60) (by decide)) (Nat.le_refl _) ⟨fun z => at62 60 (Or.inl rfl) (a_is_d1.mp z), fun z => ?_⟩
    refine q_useI (k_isS1 (β := β) (xs := xs) (L := L) (J := J) (d := d + 5) hR g1'.2.1 (c := 61) (by decide)) (Nat.le_refl _) ⟨fun y => ?_, fun y => at62 61 (Or.inr rfl) (a_is_d1.mp y)⟩
    dsimp only
    rw [if_pos (yx_oC_n (a_is_d0.mp z) (a_is_d0.mp y))]
    exact good c r I1 _ rfl g1' (by omega)
theorem k_notL {w dS H s : Nat} {S : yt_L → yx_R} {I0 : a_F} (hR : q_RT G) (hS : c_nt β xs L tb n G J dS 34 [.ref 32, .int (nI w), .retAddr 0, .retAddr 0] S) (hg : yx_g H S) (hd : 5 ≤ dS) : ∀ m k ts (I : a_F), k + m = 6 → c_st tb n s [] ts G I0 I → s + k + ts.length ≤ 6000 → q_W β xs L (dS + 1) 33 2 [.ref 32, .int (nI w), .int (nI k), .retAddr 0] [] (G, I, J) (fun o h => o = .inl none ∧ ∃ I', h = (G, I', J) ∧ c_po tb n s (yx_nk k (yx_not n S m ts)) G I0 I')
  | 0, k, ts, I, hk, h, hs => by
    have e : k = 6 := by omega
    subst e
    refine g_33_2 hR _ _ ⟨fun z => absurd z (by decide), fun _ => ?_⟩
    refine q_useI (k_isW1 (β := β) (xs := xs) (L := L) (J := J) (d := dS) hR h.2.1 (w := 7) (by decide)) (Nat.le_refl _) ⟨fun z => ?_, fun z => ⟨fun y => absurd rfl y, fun _ => ?_⟩⟩
    · have ex : yx_not n S 0 ts = yx_cmp S ts := if_neg (a_is_d0.mp z)
      rw [ex]
      exact k_cmp hR hS hg hd (by decide) h hs
    · have ex : yx_not n S 0 ts = .inl (2, yt_pl n ts) := if_pos (a_is_d1.mp z)
      rw [ex]
      refine q_useV (k_fail1 (β := β) (xs := xs) (L := L) (J := J) (d := dS) hR h.2.1 (by show s + 0 ≤ 6000; omega) (k := 2) (by decide)) (Nat.le_refl _) (fun I1 g1 => ⟨rfl, I1, rfl, ?_⟩)
      exact h.seqb g1
  | m + 1, k, ts, I, hk, h, hs => by
    obtain ⟨d, rfl⟩ : ∃ d, dS = d + 5 := ⟨dS - 5, by omega⟩
    have ek : nI k = 6 ↔ k = 6 := nI_eq (b := 6) (by omega) (by omega)
    have lk : (6 : Int32) < nI k ↔ 6 < k := nI_ltI (a := 6) (by omega) (by omega)
    refine g_33_2 hR _ _ ?_
    rw [ek, lk]
    refine ⟨fun z => absurd z (by omega), fun _ => ?_⟩
    refine q_useI (k_isW1 (β := β) (xs := xs) (L := L) (J := J) (d := d + 5) hR h.2.1 (w := 7) (by decide)) (Nat.le_refl _) ⟨fun z => ?_, fun z => ⟨fun _ => ?_, fun y => absurd y (by omega)⟩⟩
    · have ex : yx_not n S (m + 1) ts = yx_cmp S ts := if_neg (a_is_d0.mp z)
      rw [ex]
      exact k_cmp hR hS hg hd (by omega) h hs
    · have ht := a_is_d1.mp z
      have l1 := yt_tl_len ht (by decide)
      rw [nI_1]
      refine q_useV (k_next1 (β := β) (xs := xs) (L := L) (J := J) (d := d) hR h) (by omega) (fun I1 g1 => ?_)
      have ih := k_notL hR hS hg hd m (k + 1) ts.tail I1 (by omega) g1 (by omega)
      have ex : yx_nk k (yx_not n S (m + 1) ts) = yx_nk (k + 1) (yx_not n S m ts.tail) := by
        have e0 : yx_not n S (m + 1) ts = (match yx_not n S m ts.tail with
          | .inl e => .inl e
          | .inr (c, r) => .inr (c ++ [(nI 3, 0)], r)) := if_pos ht
        rw [e0]
        cases yx_not n S m ts.tail with
        | inl e => rfl
        | inr y =>
          show (Sum.inr (y.1 ++ [(nI 3, 0)] ++ List.replicate k (nI 3, 0), y.2) : yx_R) = .inr (y.1 ++ List.replicate (k + 1) (nI 3, 0), y.2)
          rw [List.append_assoc]
          rfl
      rw [ex]
      exact ih
theorem yx_nk0 (r : yx_R) : yx_nk 0 r = r := by
  cases r with
  | inl e => rfl
  | inr y =>
    show (Sum.inr (y.1 ++ [], y.2) : yx_R) = .inr y
    rw [List.append_nil]
theorem k_test {w dS H : Nat} {S : yt_L → yx_R} (hR : q_RT G) (hS : c_nt β xs L tb n G J dS 34 [.ref 32, .int (nI w), .retAddr 0, .retAddr 0] S) (hg : yx_g H S) (hd : 5 ≤ dS) : c_nt β xs L tb n G J (dS + 1) 33 [.ref 32, .int (nI w), .retAddr 0, .retAddr 0] (yx_not n S 6) := fun s ts I h hs => by
  have q := k_notL (s := s) (I0 := I) hR hS hg hd 6 0 ts I rfl (c_st.rf h) (by omega)
  rw [yx_nk0] at q
  exact g_33_0 hR _ q
theorem k_bothB {w d s : Nat} {I0 I : a_F} {e : Nat × Nat} (hR : q_RT G) (h : c_sb tb n s e G I0 I) (i : Nat) : q_W β xs L (d + 1) 32 7 [.ref 32, .int (nI w), .int (nI i)] [] (G, I, J) (fun o h => o = .inl none ∧ ∃ I', h = (G, I', J) ∧ c_sb tb n s e G I0 I') := by
  have fin : q_W β xs L (d + 1) 32 45 [.ref 32, .int (nI w), .int (nI i)] [] (G, I, J) (fun o h => o = .inl none ∧ ∃ I', h = (G, I', J) ∧ c_sb tb n s e G I0 I') := g_32_45 hR _ _ ⟨rfl, I, rfl, h⟩
  refine g_32_7 hR _ _ ⟨fun _ => fin, fun _ => ?_⟩
  exact q_useI (k_isW0 (β := β) (xs := xs) (L := L) (J := J) (d := d) hR h.2 6) (Nat.le_refl _) ⟨fun _ => fin, fun z => absurd rfl z⟩
theorem k_bothL {w dS H s : Nat} {S : yt_L → yx_R} {I0 : a_F} (hR : q_RT G) (hS : c_nt β xs L tb n G J dS 33 [.ref 32, .int (nI w), .retAddr 0, .retAddr 0] S) (hg : yx_g H S) (hd : 5 ≤ dS) : ∀ f i acc ts (I : a_F), i + f = 500 → c_st tb n s acc ts G I0 I → s + acc.length + ts.length ≤ 6000 → q_W β xs L (dS + 1) 32 7 [.ref 32, .int (nI w), .int (nI i)] [] (G, I, J) (fun o h => o = .inl none ∧ ∃ I', h = (G, I', J) ∧ c_po tb n s (yx_binL yx_oB S f acc ts) G I0 I')
  | 0, i, acc, ts, I, hi, h, hs => by
    have e : i = 500 := by omega
    subst e
    exact g_32_7 hR _ _ ⟨fun _ => g_32_45 hR _ _ ⟨rfl, I, rfl, h⟩, fun z => absurd z (by decide)⟩
  | f + 1, i, acc, ts, I, hi, h, hs => by
    obtain ⟨d, rfl⟩ : ∃ d, dS = d + 5 := ⟨dS - 5, by omega⟩
    refine g_32_7 hR _ _ ⟨fun z => absurd ((nI_ltI (b := 500) (by omega) (by omega)).mpr (by omega)) z, fun _ => ?_⟩
    refine q_useI (k_isW1 (β := β) (xs := xs) (L := L) (J := J) (d := d + 5) hR h.2.1 (w := 6) (by decide)) (Nat.le_refl _) ⟨fun z => ?_, fun z => ?_⟩
    · have o1 : yx_oB (yt_hd ts) = 0 := if_neg (a_is_d0.mp z)
      have eb : yx_binL yx_oB S (f + 1) acc ts = .inr (acc, ts) := if_pos o1
      rw [eb]
      exact g_32_45 hR _ _ ⟨rfl, I, rfl, h⟩
    · have ht := a_is_d1.mp z
      have o0 : yx_oB (yt_hd ts) = 4 := if_pos ht
      have o1 : ¬ yx_oB (yt_hd ts) = 0 := by rw [o0]; decide
      have l1 := yt_tl_len ht (by decide)
      have eb : yx_binL yx_oB S (f + 1) acc ts = (match S ts.tail with
        | .inl e => .inl e
        | .inr (c, r) => yx_binL yx_oB S f (acc ++ c ++ [(nI (yx_oB (yt_hd ts)), 0)]) r) := if_neg o1
      rw [o0] at eb
      rw [nI_1]
      refine q_useV (k_next1 (β := β) (xs := xs) (L := L) (J := J) (d := d) hR h) (by omega) (fun I1 g1 => ?_)
      refine q_useV (hS (s + acc.length) ts.tail I1 g1.2.1 (by omega)) (Nat.le_refl _) (fun I2 g2 => ?_)
      cases hx : S ts.tail with
      | inl e =>
        rw [hx] at g2 eb
        refine q_useV (k_put0 (β := β) (xs := xs) (L := L) (J := J) (d := d) hR (g1.seqb g2) _) (by omega) (fun I3 g3 => ?_)
        rw [eb]
        exact k_bothB hR g3 _
      | inr y =>
        obtain ⟨c1, r⟩ := y
        rw [hx] at g2 eb
        have b := (hg _ _ _ hx).1
        have g2' : c_st tb n s (acc ++ c1) r G I0 I2 := g1.seq g2
        have bl : (acc ++ c1).length = acc.length + c1.length := List.length_append
        refine q_useV (k_put1 (β := β) (xs := xs) (L := L) (J := J) (d := d) hR g2' (by omega) (-201)) (by omega) (fun I3 g3 => ?_)
        rw [eb]
        rw [show c_op (-201) = (nI 4, 0) by decide +kernel] at g3
        refine k_bothL hR hS hg hd f (i + 1) _ r I3 (by omega) g3 ?_
        simp only [List.length_append, List.length_singleton]
        omega
theorem k_both {w dS H : Nat} {S : yt_L → yx_R} (hR : q_RT G) (hS : c_nt β xs L tb n G J dS 33 [.ref 32, .int (nI w), .retAddr 0, .retAddr 0] S) (hg : yx_g H S) (hd : 5 ≤ dS) : c_nt β xs L tb n G J (dS + 1) 32 [.ref 32, .int (nI w), .retAddr 0] (yx_bin yx_oB S) := fun s ts I h hs => by
  refine g_32_0 hR _ (q_useV (hS s ts I h hs) (Nat.le_refl _) (fun I1 g1 => ?_))
  unfold yx_bin
  cases hx : S ts with
  | inl e =>
    rw [hx] at g1
    exact k_bothB hR g1 0
  | inr y =>
    obtain ⟨c, r⟩ := y
    rw [hx] at g1
    have b := (hg _ _ _ hx).1
    exact k_bothL hR hS hg hd 500 0 c r I1 rfl g1 (by omega)
theorem k_eitherB {w d s : Nat} {I0 I : a_F} {e : Nat × Nat} (hR : q_RT G) (h : c_sb tb n s e G I0 I) (i : Nat) : q_W β xs L (d + 1) 31 48 [.ref 32, .int (nI w), .int (nI i)] [] (G, I, J) (fun o h => o = .inl none ∧ ∃ I', h = (G, I', J) ∧ c_sb tb n s e G I0 I') := by
  have fin : q_W β xs L (d + 1) 31 85 [.ref 32, .int (nI w), .int (nI i)] [] (G, I, J) (fun o h => o = .inl none ∧ ∃ I', h = (G, I', J) ∧ c_sb tb n s e G I0 I') := g_31_85 hR _ _ ⟨rfl, I, rfl, h⟩
  refine g_31_48 hR _ _ ⟨fun _ => fin, fun _ => ?_⟩
  exact q_useI (k_isW0 (β := β) (xs := xs) (L := L) (J := J) (d := d) hR h.2 5) (Nat.le_refl _) ⟨fun _ => fin, fun z => absurd rfl z⟩
theorem k_eitherL {w dS H s : Nat} {S : yt_L → yx_R} {I0 : a_F} (hR : q_RT G) (hS : c_nt β xs L tb n G J dS 32 [.ref 32, .int (nI w), .retAddr 0] S) (hg : yx_g H S) (hd : 5 ≤ dS) : ∀ f i acc ts (I : a_F), i + f = 500 → c_st tb n s acc ts G I0 I → s + acc.length + ts.length ≤ 6000 → q_W β xs L (dS + 1) 31 48 [.ref 32, .int (nI w), .int (nI i)] [] (G, I, J) (fun o h => o = .inl none ∧ ∃ I', h = (G, I', J) ∧ c_po tb n s (yx_binL yx_oE S f acc ts) G I0 I')
  | 0, i, acc, ts, I, hi, h, hs => by
    have e : i = 500 := by omega
    subst e
    exact g_31_48 hR _ _ ⟨fun _ => g_31_85 hR _ _ ⟨rfl, I, rfl, h⟩, fun z => absurd z (by decide)⟩
  | f + 1, i, acc, ts, I, hi, h, hs => by
    obtain ⟨d, rfl⟩ : ∃ d, dS = d + 5 := ⟨dS - 5, by omega⟩
    refine g_31_48 hR _ _ ⟨fun z => absurd ((nI_ltI (b := 500) (by omega) (by omega)).mpr (by omega)) z, fun _ => ?_⟩
    refine q_useI (k_isW1 (β := β) (xs := xs) (L := L) (J := J) (d := d + 5) hR h.2.1 (w := 5) (by decide)) (Nat.le_refl _) ⟨fun z => ?_, fun z => ?_⟩
    · have o1 : yx_oE (yt_hd ts) = 0 := if_neg (a_is_d0.mp z)
      have eb : yx_binL yx_oE S (f + 1) acc ts = .inr (acc, ts) := if_pos o1
      rw [eb]
      exact g_31_85 hR _ _ ⟨rfl, I, rfl, h⟩
    · have ht := a_is_d1.mp z
      have o0 : yx_oE (yt_hd ts) = 5 := if_pos ht
      have o1 : ¬ yx_oE (yt_hd ts) = 0 := by rw [o0]; decide
      have l1 := yt_tl_len ht (by decide)
      have eb : yx_binL yx_oE S (f + 1) acc ts = (match S ts.tail with
        | .inl e => .inl e
        | .inr (c, r) => yx_binL yx_oE S f (acc ++ c ++ [(nI (yx_oE (yt_hd ts)), 0)]) r) := if_neg o1
      rw [o0] at eb
      rw [nI_1]
      refine q_useV (k_next1 (β := β) (xs := xs) (L := L) (J := J) (d := d) hR h) (by omega) (fun I1 g1 => ?_)
      refine q_useV (hS (s + acc.length) ts.tail I1 g1.2.1 (by omega)) (Nat.le_refl _) (fun I2 g2 => ?_)
      cases hx : S ts.tail with
      | inl e =>
        rw [hx] at g2 eb
        refine q_useV (k_put0 (β := β) (xs := xs) (L := L) (J := J) (d := d) hR (g1.seqb g2) _) (by omega) (fun I3 g3 => ?_)
        rw [eb]
        exact k_eitherB hR g3 _
      | inr y =>
        obtain ⟨c1, r⟩ := y
        rw [hx] at g2 eb
        have b := (hg _ _ _ hx).1
        have g2' : c_st tb n s (acc ++ c1) r G I0 I2 := g1.seq g2
        have bl : (acc ++ c1).length = acc.length + c1.length := List.length_append
        refine q_useV (k_put1 (β := β) (xs := xs) (L := L) (J := J) (d := d) hR g2' (by omega) (-202)) (by omega) (fun I3 g3 => ?_)
        rw [eb]
        rw [show c_op (-202) = (nI 5, 0) by decide +kernel] at g3
        refine k_eitherL hR hS hg hd f (i + 1) _ r I3 (by omega) g3 ?_
        simp only [List.length_append, List.length_singleton]
        omega
theorem k_either {w dS H : Nat} {S : yt_L → yx_R} (hR : q_RT G) (hw : w < 6) (hS : c_nt β xs L tb n G J dS 32 [.ref 32, .int (nI w), .retAddr 0] S) (hg : yx_g H S) (hd : 5 ≤ dS) : c_nt β xs L tb n G J (dS + 1) 31 [.ref 32, .int (nI w), .retAddr 0] (yx_bin yx_oE S) := fun s ts I h hs => by
  refine g_31_0 hR _ ⟨fun _ => q_useV (hS s ts I h hs) (Nat.le_refl _) (fun I1 g1 => ?_), fun z => absurd ((nI_ltI (b := 6) (by omega) (by omega)).mpr hw) z⟩
  unfold yx_bin
  cases hx : S ts with
  | inl e =>
    rw [hx] at g1
    exact k_eitherB hR g1 0
  | inr y =>
    obtain ⟨c, r⟩ := y
    rw [hx] at g1
    have b := (hg _ _ _ hx).1
    exact k_eitherL hR hS hg hd 500 0 c r I1 rfl g1 (by omega)
/-- within six others -/
theorem k_deep {d : Nat} (hR : q_RT G) : c_nt β xs L tb n G J (d + 1) 31 [.ref 32, .int (nI 6), .retAddr 0] (yx_E n 0) := fun s ts I h hs => by
  have fin : ∀ k, k = 1 ∨ k = 2 → yx_E n 0 ts = .inl (k, yt_pl n ts) → q_W β xs L (d + 1) 31 37 [.ref 32, .int (nI 6), .retAddr 0] [.int (nI k), .ref 32] (G, I, J) (fun o h => o = .inl none ∧ ∃ I', h = (G, I', J) ∧ c_po tb n s (yx_E n 0 ts) G I I') := fun k hk he => by
    refine g_31_37 hR _ _ (q_useV (k_fail1 (β := β) (xs := xs) (L := L) (J := J) (d := d) hR h (by omega) (k := k) (by omega)) (Nat.le_refl _) (fun I1 g1 => ⟨rfl, I1, rfl, ?_⟩))
    rw [he]
    exact g1
  have two : ((yt_hd ts).1 = 2 ∨ (yt_hd ts).1 = 5 ∨ (yt_hd ts).1 = 3 ∨ yt_hd ts = (4, 40)) → q_W β xs L (d + 1) 31 32 [.ref 32, .int (nI 6), .retAddr 0] [.ref 32] (G, I, J) (fun o h => o = .inl none ∧ ∃ I', h = (G, I', J) ∧ c_po tb n s (yx_E n 0 ts) G I I') := fun q => g_31_32 hR _ (fin 2 (Or.inr rfl) (by
    show (Sum.inl (if _ then 2 else 1, yt_pl n ts) : yx_R) = _
    rw [if_pos q]))
  have w := h.hd
  refine g_31_0 hR _ ⟨fun z => absurd z (by decide), fun _ => ⟨fun z => two ?_, fun z => ⟨fun y => two ?_, fun y => ⟨fun x => fin 1 (Or.inl rfl) ?_, fun x => two ?_⟩⟩⟩⟩
  · rcases w.2.1.mp z with q | q
    · exact Or.inl q
    · exact Or.inr (Or.inl q)
  · exact Or.inr (Or.inr (Or.inl (w.1.mp y)))
  · show (Sum.inl (if _ then 2 else 1, yt_pl n ts) : yx_R) = _
    rw [if_neg]
    rintro (q | q | q | q)
    · exact z (w.2.1.mpr (Or.inl q))
    · exact z (w.2.1.mpr (Or.inr q))
    · exact y (w.1.mpr q)
    · exact x ((w.2.2.2 40 (by decide) (by decide)).mpr q)
  · exact Or.inr (Or.inr (Or.inr ((w.2.2.2 40 (by decide) (by decide)).mp x)))
/-- readEither() -/
theorem k_E (hR : q_RT G) : ∀ m w, w + m = 6 → c_nt β xs L tb n G J (7 + 6 * m) 31 [.ref 32, .int (nI w), .retAddr 0] (yx_E n m)
  | 0, w, hw => by
    have e : w = 6 := by omega
    subst e
    exact k_deep (d := 6) hR
  | m + 1, w, hw => by
    have g0 := yx_part_g (n := n) (yx_E_g (n := n) m) (by omega)
    have h1 := k_part (w := w) hR (k_E hR m (w + 1) (by omega)) (yx_E_g m) (by omega)
    have h2 := k_prod hR h1 g0 (by omega)
    have h3 := k_sum hR h2 (yx_bin_g yx_oP_op g0) (by omega)
    have g3 := yx_bin_g yx_oS_op (yx_bin_g yx_oP_op g0)
    have h4 := k_test hR h3 g3 (by omega)
    have h5 := k_both hR h4 (yx_not_g g3 6) (by omega)
    have h6 := k_either hR (by omega) h5 (yx_bin_g yx_oB_op (yx_not_g g3 6)) (by omega)
    rw [show 7 + 6 * (m + 1) = 7 + 6 * m + 1 + 1 + 1 + 1 + 1 + 1 by omega]
    exact h6
end Cpar2

/-! ===== the class's parser: its small methods ===== -/
/-- cells that an expression may change, from the code s on -/
def c_xsc (s c i : Nat) : Bool := (Nat.beq c 32 && (Nat.ble 3 i && Nat.ble i 11)) || (Nat.beq c 31 && Nat.ble s i)
theorem c_xsc_n {s c i : Nat} (h : c_xsc s c i = false) : c_nsc c i = false := by
  unfold c_nsc
  cases hh : (Nat.beq c 32 && (Nat.ble 3 i && Nat.ble i 8)) with
  | false => rfl
  | true =>
    simp only [Bool.and_eq_true, Nat.beq_eq, Nat.ble_eq] at hh
    unfold c_xsc at h
    have : (Nat.beq c 32 && (Nat.ble 3 i && Nat.ble i 11)) = true := by
      simp only [Bool.and_eq_true, Nat.beq_eq, Nat.ble_eq]
      omega
    rw [this] at h
    cases h
theorem c_xsc_s {s s' c i : Nat} (hs : s ≤ s') (h : c_xsc s c i = false) : c_xsc s' c i = false := by
  unfold c_xsc at h ⊢
  rw [Bool.or_eq_false_iff] at h ⊢
  refine ⟨h.1, ?_⟩
  have h2 := h.2
  cases hh : (Nat.beq c 31 && Nat.ble s' i) with
  | false => rfl
  | true =>
    simp only [Bool.and_eq_true, Nat.beq_eq, Nat.ble_eq] at hh
    have : (Nat.beq c 31 && Nat.ble s i) = true := by
      simp only [Bool.and_eq_true, Nat.beq_eq, Nat.ble_eq]
      omega
    rw [this] at h2
    cases h2
theorem q_F.xn {s : Nat} {I I' : a_F} (h : q_F c_nsc I I') : q_F (c_xsc s) I I' := fun c i hc => h c i (c_xsc_n hc)
theorem q_F.xs {s s' : Nat} {I I' : a_F} (hs : s ≤ s') (h : q_F (c_xsc s') I I') : q_F (c_xsc s) I I' := fun c i hc => h c i (c_xsc_s hs hc)
theorem c_tx.X {tb : Nat → Nat} {n s : Nat} {G : am_G} {I I' : a_F} (h : c_tx tb n G I) (hf : q_F (c_xsc s) I I') : c_tx tb n G I' := by
  obtain ⟨h1, h2, h3, h4⟩ := h
  refine ⟨h1, (hf 32 2 rfl).trans h2, h3, fun i hi => ?_⟩
  rw [hf 57 i rfl]
  exact h4 i hi
/-- all is well: s codes lie, the tokens ts are to come -/
def c_ge (tb : Nat → Nat) (n s : Nat) (ts : yt_L) (G : am_G) (I : a_F) : Prop := c_tx tb n G I ∧ c_ts tb n ts I ∧ I 32 10 = 0 ∧ I 32 9 = nI s ∧ ∀ x ∈ ts, yt_ok n x
/-- a fault has been found -/
def c_er (tb : Nat → Nat) (n s k p : Nat) (G : am_G) (I : a_F) : Prop := c_tx tb n G I ∧ (∃ q, q ≤ n ∧ I 32 3 = nI q) ∧ (I 32 10 = nI k ∧ 1 ≤ k ∧ k ≤ 4) ∧ I 32 11 = nI p ∧ ∃ z, s ≤ z ∧ z ≤ 6000 ∧ I 32 9 = nI z
/-- since I0 the codes acc have come, from s on; ts are to come -/
def c_st (tb : Nat → Nat) (n s : Nat) (acc : yx_C) (ts : yt_L) (G : am_G) (I0 I : a_F) : Prop := q_F (c_xsc s) I0 I ∧ c_ge tb n (s + acc.length) ts G I ∧ I 32 11 = I0 32 11 ∧ c_ops (I 31) acc.length s = acc
def c_sb (tb : Nat → Nat) (n s : Nat) (e : Nat × Nat) (G : am_G) (I0 I : a_F) : Prop := q_F (c_xsc s) I0 I ∧ c_er tb n s e.1 e.2 G I
def c_po (tb : Nat → Nat) (n s : Nat) (r : yx_R) (G : am_G) (I0 I : a_F) : Prop := match r with
  | .inl e => c_sb tb n s e G I0 I
  | .inr y => c_st tb n s y.1 y.2 G I0 I
theorem c_ops_add (f : Nat → Int32) : ∀ a b u, c_ops f (a + b) u = c_ops f a u ++ c_ops f b (u + a)
  | 0, b, u => by rw [Nat.zero_add]; rfl
  | a + 1, b, u => by
    rw [show a + 1 + b = (a + b) + 1 by omega]
    show c_op (f u) :: c_ops f (a + b) (u + 1) = c_op (f u) :: c_ops f a (u + 1) ++ c_ops f b (u + (a + 1))
    rw [c_ops_add f a b (u + 1), show u + 1 + a = u + (a + 1) by omega, List.cons_append]
theorem c_ops_cong {f g : Nat → Int32} : ∀ n u, (∀ i, u ≤ i → i < u + n → f i = g i) → c_ops f n u = c_ops g n u
  | 0, _, _ => rfl
  | n + 1, u, h => by
    show c_op (f u) :: c_ops f n (u + 1) = c_op (g u) :: c_ops g n (u + 1)
    rw [h u (Nat.le_refl _) (by omega), c_ops_cong n (u + 1) (fun i a b => h i (by omega) (by omega))]
theorem c_st.seq {tb : Nat → Nat} {n s : Nat} {acc : yx_C} {ts : yt_L} {G : am_G} {I0 I I' : a_F} (h : c_st tb n s acc ts G I0 I) {c : yx_C} {ts' : yt_L} (h2 : c_st tb n (s + acc.length) c ts' G I I') : c_st tb n s (acc ++ c) ts' G I0 I' := by
  obtain ⟨a1, a2, a3, a4⟩ := h
  obtain ⟨b1, b2, b3, b4⟩ := h2
  refine ⟨a1.tr (b1.xs (Nat.le_add_right _ _)), ?_, b3.trans a3, ?_⟩
  · rw [List.length_append, ← Nat.add_assoc]
    exact b2
  · rw [List.length_append, c_ops_add, b4, c_ops_cong acc.length s (g := I 31), a4]
    intro i i1 i2
    refine b1 31 i ?_
    unfold c_xsc
    have : Nat.ble (s + acc.length) i = false := by
      cases hh : Nat.ble (s + acc.length) i with
      | false => rfl
      | true => rw [Nat.ble_eq] at hh; omega
    rw [this]
    rfl
theorem c_er.le {tb : Nat → Nat} {n s s' k p : Nat} {G : am_G} {I : a_F} (hs : s' ≤ s) (h : c_er tb n s k p G I) : c_er tb n s' k p G I := by
  obtain ⟨h1, h2, h3, h4, z, z1, z2, z3⟩ := h
  exact ⟨h1, h2, h3, h4, z, by omega, z2, z3⟩
theorem c_st.seqb {tb : Nat → Nat} {n s : Nat} {acc : yx_C} {ts : yt_L} {G : am_G} {I0 I I' : a_F} (h : c_st tb n s acc ts G I0 I) {e : Nat × Nat} (h2 : c_sb tb n (s + acc.length) e G I I') : c_sb tb n s e G I0 I' :=
  ⟨h.1.tr (h2.1.xs (Nat.le_add_right _ _)), h2.2.le (Nat.le_add_right _ _)⟩
theorem c_st.rf {tb : Nat → Nat} {n s : Nat} {ts : yt_L} {G : am_G} {I : a_F} (h : c_ge tb n s ts G I) : c_st tb n s [] ts G I I := ⟨q_F.rf _ _, h, rfl, rfl⟩
theorem c_sb.tr {tb : Nat → Nat} {n s : Nat} {e : Nat × Nat} {G : am_G} {I0 I I' : a_F} (h : c_sb tb n s e G I0 I) (h2 : c_sb tb n s e G I I') : c_sb tb n s e G I0 I' := ⟨h.1.tr h2.1, h2.2⟩
theorem yt_code_w {n : Nat} {ts : yt_L} (h : ∀ x ∈ ts, yt_ok n x) : yt_code (yt_hd ts) < 128 ∧ (yt_code (yt_hd ts) = 3 ↔ (yt_hd ts).1 = 3) ∧ (yt_code (yt_hd ts) = 2 ↔ (yt_hd ts).1 = 2 ∨ (yt_hd ts).1 = 5) ∧ (yt_code (yt_hd ts) = 0 ↔ (yt_hd ts).1 = 0) ∧ (∀ c, 40 ≤ c → (yt_code (yt_hd ts) = c ↔ yt_hd ts = (4, c))) := by
  have key : ∀ t : yt_T, (t = (0, 0) ∨ t = (1, 0) ∨ (t.1 = 2 ∧ t.2 < 100000) ∨ (t.1 = 3 ∧ t.2 ≤ 28) ∨ (t.1 = 4 ∧ t.2 ∈ yt_sgn) ∨ t = (5, 0)) → yt_code t < 128 ∧ (yt_code t = 3 ↔ t.1 = 3) ∧ (yt_code t = 2 ↔ t.1 = 2 ∨ t.1 = 5) ∧ (yt_code t = 0 ↔ t.1 = 0) ∧ (∀ c, 40 ≤ c → (yt_code t = c ↔ t = (4, c))) := by
    rintro ⟨k, v⟩ h
    have small : ∀ m, k = m → m ≠ 4 → m ≠ 5 → m < 4 → yt_code (k, v) = m := fun m h1 h2 h3 _ => by
      subst h1
      unfold yt_code
      rw [if_neg h2, if_neg h3]
    rcases h with h | h | h | h | h | h
    · cases h
      exact ⟨by decide, by decide, by decide, by decide, fun c hc => ⟨fun q => absurd q (by show ¬ (0 : Nat) = c; omega), fun q => by cases q⟩⟩
    · cases h
      exact ⟨by decide, by decide, by decide, by decide, fun c hc => ⟨fun q => absurd q (by show ¬ (1 : Nat) = c; omega), fun q => by cases q⟩⟩
    · obtain ⟨h1, -⟩ := h
      dsimp only at h1
      subst h1
      exact ⟨(by decide : (2 : Nat) < 128), ⟨fun q => (by cases q), fun q => (by cases q)⟩, ⟨fun _ => Or.inl rfl, fun _ => rfl⟩, ⟨fun q => (by cases q), fun q => (by cases q)⟩, fun c hc => ⟨fun q => absurd q (by show ¬ (2 : Nat) = c; omega), fun q => by cases q⟩⟩
    · obtain ⟨h1, -⟩ := h
      dsimp only at h1
      subst h1
      exact ⟨(by decide : (3 : Nat) < 128), ⟨fun _ => rfl, fun _ => rfl⟩, ⟨fun q => (by cases q), fun q => (by rcases q with q | q <;> cases q)⟩, ⟨fun q => (by cases q), fun q => (by cases q)⟩, fun c hc => ⟨fun q => absurd q (by show ¬ (3 : Nat) = c; omega), fun q => by cases q⟩⟩
    · obtain ⟨h1, h2⟩ := h
      dsimp only at h1 h2
      subst h1
      have hv : 40 ≤ v ∧ v < 128 := (by decide : ∀ c ∈ yt_sgn, 40 ≤ c ∧ c < 128) v h2
      have e : yt_code (4, v) = v := rfl
      rw [e]
      exact ⟨hv.2, ⟨fun q => (by omega), fun q => (by cases q)⟩, ⟨fun q => (by omega), fun q => (by rcases q with q | q <;> cases q)⟩, ⟨fun q => (by omega), fun q => (by cases q)⟩, fun c hc => ⟨fun q => by rw [q], fun q => (Prod.mk.inj q).2⟩⟩
    · cases h
      exact ⟨by decide, by decide, by decide, by decide, fun c hc => ⟨fun q => absurd q (by show ¬ (2 : Nat) = c; omega), fun q => by cases q⟩⟩
  exact key _ (yt_hd_ok h)
theorem c_ge.hd {tb : Nat → Nat} {n s : Nat} {ts : yt_L} {G : am_G} {I : a_F} (h : c_ge tb n s ts G I) : (I 32 4 = 3 ↔ (yt_hd ts).1 = 3) ∧ (I 32 4 = 2 ↔ (yt_hd ts).1 = 2 ∨ (yt_hd ts).1 = 5) ∧ (I 32 4 = 0 ↔ (yt_hd ts).1 = 0) ∧ (∀ c, 40 ≤ c → c < 128 → (I 32 4 = nI c ↔ yt_hd ts = (4, c))) := by
  obtain ⟨h1, h2, h3, h4, h5⟩ := h
  obtain ⟨w0, w1, w2, w3, w4⟩ := yt_code_w h5
  have e : I 32 4 = nI (yt_code (yt_hd ts)) := h2.1.1.1
  rw [e]
  refine ⟨(nI_eq (b := 3) (by omega) (by omega)).trans w1, (nI_eq (b := 2) (by omega) (by omega)).trans w2, (nI_eq (b := 0) (by omega) (by omega)).trans w3, fun c hc hc2 => (nI_eq (by omega) (by omega)).trans (w4 c hc)⟩
section Cpar1
variable {β : Bool} {xs : Nat → Int32} {L : Nat} {G : am_G} {I : a_F} {J : Nat → Nat → Int64} {d : Nat} {tb : Nat → Nat} {n s : Nat}
theorem k_isW (hR : q_RT G) (x : Int32) : q_W β xs L d 37 0 [.ref 32, .int x] [] (G, I, J) (fun o h => o = .inl (some (.int (a_is (decide (I 32 10 = 0) && (decide (I 32 4 = 3) && decide (I 32 8 = x)))))) ∧ h = (G, I, J)) := by
  refine g_37_0 hR _ ⟨fun z => g_37_27 hR _ (g_37_28 hR _ _ ⟨Or.inl rfl, by simp [z, a_is], rfl⟩), fun z => ⟨fun y => g_37_27 hR _ (g_37_28 hR _ _ ⟨Or.inl rfl, by simp [y, a_is], rfl⟩), fun y => ⟨fun w => g_37_27 hR _ (g_37_28 hR _ _ ⟨Or.inl rfl, by simp [w, a_is], rfl⟩), fun w => g_37_28 hR _ _ ⟨Or.inr rfl, by simp [z, y, w, a_is], rfl⟩⟩⟩⟩
theorem k_isS (hR : q_RT G) (x : Int32) : q_W β xs L d 38 0 [.ref 32, .int x] [] (G, I, J) (fun o h => o = .inl (some (.int (a_is (decide (I 32 10 = 0) && decide (I 32 4 = x))))) ∧ h = (G, I, J)) := by
  refine g_38_0 hR _ ⟨fun z => g_38_19 hR _ (g_38_20 hR _ _ ⟨Or.inl rfl, by simp [z, a_is], rfl⟩), fun z => ⟨fun y => g_38_19 hR _ (g_38_20 hR _ _ ⟨Or.inl rfl, by simp [y, a_is], rfl⟩), fun y => g_38_20 hR _ _ ⟨Or.inr rfl, by simp [z, y, a_is], rfl⟩⟩⟩
theorem k_isW1 {ts : yt_L} (hR : q_RT G) (h : c_ge tb n s ts G I) {w : Nat} (hw : w < 100) : q_W β xs L d 37 0 [.ref 32, .int (nI w)] [] (G, I, J) (fun o h => o = .inl (some (.int (a_is (decide (yt_hd ts = (3, w)))))) ∧ h = (G, I, J)) := by
  have e : (decide (I 32 10 = 0) && (decide (I 32 4 = 3) && decide (I 32 8 = nI w))) = decide (yt_hd ts = (3, w)) := by
    rw [decide_eq_true h.2.2.1, Bool.true_and]
    by_cases h3 : (yt_hd ts).1 = 3
    · rw [decide_eq_true (h.hd.1.mpr h3), Bool.true_and]
      have e8 : I 32 8 = nI (yt_hd ts).2 := h.2.1.1.1.2.2.2 h3
      have hb : (yt_hd ts).2 ≤ 28 := by
        rcases yt_hd_ok h.2.2.2.2 with q | q | q | q | q | q
        · rw [q] at h3; cases h3
        · rw [q] at h3; cases h3
        · omega
        · exact q.2
        · omega
        · rw [q] at h3; cases h3
      rw [e8]
      refine decide_eq_decide.mpr ⟨fun q => ?_, fun q => by rw [q]⟩
      have := nI_inj2 (by omega) (by omega) q
      rw [← h3, ← this]
    · rw [decide_eq_false (fun q => h3 (h.hd.1.mp q)), Bool.false_and, decide_eq_false (fun q => h3 (by rw [q]))]
  rw [← e]
  exact k_isW hR _
theorem k_isS1 {ts : yt_L} (hR : q_RT G) (h : c_ge tb n s ts G I) {c : Nat} (hc : 40 ≤ c ∧ c < 128) : q_W β xs L d 38 0 [.ref 32, .int (nI c)] [] (G, I, J) (fun o h => o = .inl (some (.int (a_is (decide (yt_hd ts = (4, c)))))) ∧ h = (G, I, J)) := by
  have e : (decide (I 32 10 = 0) && decide (I 32 4 = nI c)) = decide (yt_hd ts = (4, c)) := by
    rw [decide_eq_true h.2.2.1, Bool.true_and]
    exact decide_eq_decide.mpr (h.hd.2.2.2 c hc.1 hc.2)
  rw [← e]
  exact k_isS hR _
theorem c_er.n0 {k p : Nat} (h : c_er tb n s k p G I) : ¬ I 32 10 = 0 := by
  rw [h.2.2.1.1]
  exact fun q => by
    have := nI_inj2 (b := 0) (by have := h.2.2.1.2.2; omega) (by omega) q
    have := h.2.2.1.2.1
    omega
theorem k_isW0 {k p : Nat} (hR : q_RT G) (h : c_er tb n s k p G I) (x : Int32) : q_W β xs L d 37 0 [.ref 32, .int x] [] (G, I, J) (fun o h => o = .inl (some (.int 0)) ∧ h = (G, I, J)) := by
  have e := k_isW (β := β) (xs := xs) (L := L) (d := d) (I := I) (J := J) hR x
  rw [decide_eq_false h.n0] at e
  exact e
theorem k_isS0 {k p : Nat} (hR : q_RT G) (h : c_er tb n s k p G I) (x : Int32) : q_W β xs L d 38 0 [.ref 32, .int x] [] (G, I, J) (fun o h => o = .inl (some (.int 0)) ∧ h = (G, I, J)) := by
  have e := k_isS (β := β) (xs := xs) (L := L) (d := d) (I := I) (J := J) hR x
  rw [decide_eq_false h.n0] at e
  exact e
/-- fail(), where all was well -/
theorem k_fail1 {ts : yt_L} (hR : q_RT G) (h : c_ge tb n s ts G I) (hs : s ≤ 6000) {k : Nat} (hk : 1 ≤ k ∧ k ≤ 4) : q_W β xs L d 41 0 [.ref 32, .int (nI k)] [] (G, I, J) (fun o h => o = .inl none ∧ ∃ I', h = (G, I', J) ∧ c_sb tb n s (k, yt_pl n ts) G I I') := by
  obtain ⟨h1, ⟨⟨h2, h3⟩, q, q1, q2, q3⟩, h4, h5, h6⟩ := h
  have f : q_F (c_xsc s) I (am_u (am_u I 32 10 (nI k)) 32 11 (I 32 5)) := ((q_F.rf _ I).up _ rfl).up _ rfl
  refine g_41_0 hR _ ⟨fun z => absurd h4 z, fun _ => g_41_20 hR _ ⟨rfl, _, rfl, f, h1.X f, ⟨q, q1, q2⟩, ⟨?_, hk⟩, ?_, s, Nat.le_refl _, hs, h5⟩⟩
  · rw [am_u_ne (Or.inr (by decide)), am_u_same]
  · rw [am_u_same]
    exact h3
theorem k_fail0 {k p : Nat} (hR : q_RT G) (h : c_er tb n s k p G I) (x : Int32) : q_W β xs L d 41 0 [.ref 32, .int x] [] (G, I, J) (fun o h => o = .inl none ∧ h = (G, I, J)) :=
  g_41_0 hR _ ⟨fun _ => g_41_20 hR _ ⟨rfl, rfl⟩, fun z => absurd z h.n0⟩
/-- put() -/
theorem k_put1 {ts : yt_L} {acc : yx_C} {I0 : a_F} (hR : q_RT G) (h : c_st tb n s acc ts G I0 I) (hs : s + acc.length < 6000) (x : Int32) : q_W β xs L d 42 0 [.ref 32, .int x] [] (G, I, J) (fun o h => o = .inl none ∧ ∃ I', h = (G, I', J) ∧ c_st tb n s (acc ++ [c_op x]) ts G I0 I') := by
  have hst := h
  obtain ⟨a1, ⟨h1, h2, h3, h4, h5⟩, a3, a4⟩ := h
  have ec : (nI (s + acc.length)).toNatClampNeg = s + acc.length := nI_clamp (by omega)
  refine g_42_0 hR _ ?_
  rw [h4, ec, nI_1]
  have hb : c_xsc (s + acc.length) 31 (s + acc.length) = true := by
    unfold c_xsc
    rw [show Nat.ble (s + acc.length) (s + acc.length) = true from Nat.ble_eq.mpr (Nat.le_refl _)]
    rfl
  have f : q_F (c_xsc (s + acc.length)) I (am_u (am_u I 31 (s + acc.length) x) 32 9 (nI (s + acc.length + 1))) := ((q_F.rf _ I).up _ hb).up _ rfl
  refine ⟨fun z => absurd z (nI_pos (by omega)), fun _ => ⟨fun z => absurd ((nI_ltI (b := 6000) (by omega) (by omega)).mpr hs) z, fun _ => ⟨am_is_nI hs (by omega), g_42_45 hR _ ⟨rfl, _, rfl, hst.seq (c := [c_op x]) ⟨f, ⟨h1.X f, ?_, ?_, ?_, h5⟩, ?_, ?_⟩⟩⟩⟩⟩
  · obtain ⟨⟨⟨t1, t2, t3, t4⟩, t5⟩, q, q1, q2, q3⟩ := h2
    exact ⟨⟨⟨t1, t2, t3, t4⟩, t5⟩, q, q1, q2, q3⟩
  · exact h3
  · exact am_u_same
  · rfl
  · show [c_op (am_u (am_u I 31 (s + acc.length) x) 32 9 (nI (s + acc.length + 1)) 31 (s + acc.length))] = _
    rw [am_u_ne (Or.inl (by decide)), am_u_same]
theorem k_put0 {e : Nat × Nat} {I0 : a_F} (hR : q_RT G) (h : c_sb tb n s e G I0 I) (x : Int32) : q_W β xs L d 42 0 [.ref 32, .int x] [] (G, I, J) (fun o h => o = .inl none ∧ ∃ I', h = (G, I', J) ∧ c_sb tb n s e G I0 I') := by
  have hst := h
  obtain ⟨a1, h1, ⟨q, q1, q2⟩, h3, h4, z, z1, z2, z3⟩ := h
  have ec : (nI z).toNatClampNeg = z := nI_clamp (by omega)
  refine g_42_0 hR _ ?_
  rw [z3, ec, nI_1]
  have hb : c_xsc s 31 z = true := by
    unfold c_xsc
    rw [show Nat.ble s z = true from Nat.ble_eq.mpr z1]
    rfl
  have f : q_F (c_xsc s) I (am_u (am_u I 31 z x) 32 9 (nI (z + 1))) := ((q_F.rf _ I).up _ hb).up _ rfl
  refine ⟨fun y => absurd y (nI_pos (by omega)), fun _ => ⟨fun y => g_42_45 hR _ ⟨rfl, I, rfl, hst⟩, fun y => ?_⟩⟩
  have y1 : z < 6000 := (nI_ltI (b := 6000) (by omega) (by omega)).mp y
  exact ⟨am_is_nI y1 (by omega), g_42_45 hR _ ⟨rfl, _, rfl, a1.tr f, h1.X f, ⟨q, q1, q2⟩, h3, h4, z + 1, by omega, by omega, am_u_same⟩⟩
/-- next() -/
theorem k_next1 {ts : yt_L} {acc : yx_C} {I0 : a_F} (hR : q_RT G) (h : c_st tb n s acc ts G I0 I) : q_W β xs L (d + 5) 43 0 [.ref 32, .retAddr 0] [] (G, I, J) (fun o h => o = .inl none ∧ ∃ I', h = (G, I', J) ∧ c_st tb n s acc ts.tail G I0 I') := by
  obtain ⟨a1, ⟨h1, ⟨h2, q, q1, q2, q3⟩, h4, h5, h6⟩, a3, a4⟩ := h
  refine q_mono (k_next (β := β) (xs := xs) (L := L) (d := d) (J := J) hR h1 q1 q2) (Nat.le_refl _) (fun o h' P => ?_)
  obtain ⟨rfl, I', rfl, f, t⟩ := P
  refine ⟨rfl, I', rfl, a1.tr f.xn, ⟨h1.F f, by rw [q3]; exact t, (f 32 10 rfl).trans h4, (f 32 9 rfl).trans h5, yt_tl_ok h6⟩, (f 32 11 rfl).trans a3, ?_⟩
  rw [c_ops_cong acc.length s (g := I 31) (fun i _ _ => f 31 i rfl)]
  exact a4
theorem k_next0 {e : Nat × Nat} {I0 : a_F} (hR : q_RT G) (h : c_sb tb n s e G I0 I) : q_W β xs L (d + 5) 43 0 [.ref 32, .retAddr 0] [] (G, I, J) (fun o h => o = .inl none ∧ ∃ I', h = (G, I', J) ∧ c_sb tb n s e G I0 I') := by
  obtain ⟨a1, h1, ⟨q, q1, q2⟩, h3, h4, z, z1, z2, z3⟩ := h
  refine q_mono (k_next (β := β) (xs := xs) (L := L) (d := d) (J := J) hR h1 q1 q2) (Nat.le_refl _) (fun o h' P => ?_)
  obtain ⟨rfl, I', rfl, f, ⟨-, q', u1, u2, -⟩⟩ := P
  exact ⟨rfl, I', rfl, a1.tr f.xn, h1.F f, ⟨q', u1, u2⟩, ⟨(f 32 10 rfl).trans h3.1, h3.2⟩, (f 32 11 rfl).trans h4, z, z1, z2, (f 32 9 rfl).trans z3⟩
/-- expect() -/
theorem k_exp1 {ts : yt_L} {acc : yx_C} {I0 : a_F} (hR : q_RT G) (h : c_st tb n s acc ts G I0 I) (hs : s + acc.length ≤ 6000) {c : Nat} (hc : 40 ≤ c ∧ c < 128) : q_W β xs L (d + 6) 40 0 [.ref 32, .int (nI c)] [] (G, I, J) (fun o h => o = .inl none ∧ ∃ I', h = (G, I', J) ∧ (if yt_hd ts = (4, c) then c_st tb n s acc ts.tail G I0 I' else c_sb tb n s (1, yt_pl n ts) G I0 I')) := by
  have e := h.2.1.hd.2.2.2 c hc.1 hc.2
  refine g_40_0 hR _ ⟨fun z => ?_, fun z => ?_⟩
  · refine q_useV (k_fail1 (β := β) (xs := xs) (L := L) (d := d) (J := J) hR h.2.1 hs (k := 1) (by decide)) (by omega) (fun I' h' => g_40_20 hR _ ⟨rfl, I', rfl, ?_⟩)
    rw [if_neg (fun q => z (e.mpr q))]
    exact h.seqb h'
  · refine q_useV (k_next1 (β := β) (xs := xs) (L := L) (d := d) (J := J) hR h) (by omega) (fun I' h' => g_40_20 hR _ ⟨rfl, I', rfl, ?_⟩)
    rw [if_pos (e.mp z)]
    exact h'
theorem k_exp0 {e : Nat × Nat} {I0 : a_F} (hR : q_RT G) (h : c_sb tb n s e G I0 I) (x : Int32) : q_W β xs L (d + 6) 40 0 [.ref 32, .int x] [] (G, I, J) (fun o h => o = .inl none ∧ ∃ I', h = (G, I', J) ∧ c_sb tb n s e G I0 I') := by
  refine g_40_0 hR _ ⟨fun z => ?_, fun z => ?_⟩
  · exact q_useF (k_fail0 (β := β) (xs := xs) (L := L) (d := d) (J := J) hR h.2 1) (by omega) (g_40_20 hR _ ⟨rfl, I, rfl, h⟩)
  · exact q_useV (k_next0 (β := β) (xs := xs) (L := L) (d := d) (J := J) hR h) (by omega) (fun I' h' => g_40_20 hR _ ⟨rfl, I', rfl, h'⟩)
/-- isNumberHere() -/
theorem k_num1 {ts : yt_L} (hR : q_RT G) (h : c_ge tb n s ts G I) (hs : s ≤ 6000) : q_W β xs L (d + 1) 39 0 [.ref 32] [] (G, I, J) (fun o h => ∃ v I', o = .inl (some (.int v)) ∧ h = (G, I', J) ∧ (if (yt_hd ts).1 = 2 then v = 1 ∧ I' = I ∧ I 32 7 = nI (yt_hd ts).2 else v = 0 ∧ c_sb tb n s (if (yt_hd ts).1 = 5 then 2 else 1, yt_pl n ts) G I I')) := by
  have w := h.hd.2.1
  have tk := h.2.1.1.1
  have bad : ∀ I' k, k = (if (yt_hd ts).1 = 5 then 2 else 1) → ¬ (yt_hd ts).1 = 2 → c_sb tb n s (k, yt_pl n ts) G I I' → q_W β xs L (d + 1) 39 29 [.ref 32] [] (G, I', J) (fun o h => ∃ v I', o = .inl (some (.int v)) ∧ h = (G, I', J) ∧ (if (yt_hd ts).1 = 2 then v = 1 ∧ I' = I ∧ I 32 7 = nI (yt_hd ts).2 else v = 0 ∧ c_sb tb n s (if (yt_hd ts).1 = 5 then 2 else 1, yt_pl n ts) G I I')) := fun I' k hk h2 hb => by
    refine g_39_29 hR ⟨fun _ => g_39_41 hR _ ⟨Or.inl rfl, 0, I', rfl, rfl, ?_⟩, fun q => absurd q hb.2.n0⟩
    rw [if_neg h2, ← hk]
    exact ⟨rfl, hb⟩
  refine g_39_0 hR ⟨fun z => ⟨fun y => ?_, fun y => ?_⟩, fun z => ?_⟩
  · have h2 : (yt_hd ts).1 = 2 := by
      rcases w.mp z with q | q
      · exact q
      · exact absurd (tk.2.2.1 q) y
    refine g_39_29 hR ⟨fun q => absurd h.2.2.1 q, fun _ => g_39_41 hR _ ⟨Or.inr rfl, 1, I, rfl, rfl, ?_⟩⟩
    rw [if_pos h2]
    exact ⟨rfl, rfl, (tk.2.1 h2).2⟩
  · have h2 : ¬ (yt_hd ts).1 = 2 := fun q => (tk.2.1 q).1 y
    have h5 : (yt_hd ts).1 = 5 := by
      rcases w.mp z with q | q
      · exact absurd q h2
      · exact q
    exact q_useV (k_fail1 (β := β) (xs := xs) (L := L) (d := d) (J := J) hR h hs (k := 2) (by decide)) (by omega) (fun I' h' => bad I' 2 (by rw [if_pos h5]) h2 h')
  · have h2 : ¬ (yt_hd ts).1 = 2 := fun q => z (w.mpr (Or.inl q))
    have h5 : ¬ (yt_hd ts).1 = 5 := fun q => z (w.mpr (Or.inr q))
    exact q_useV (k_fail1 (β := β) (xs := xs) (L := L) (d := d) (J := J) hR h hs (k := 1) (by decide)) (by omega) (fun I' h' => bad I' 1 (by rw [if_neg h5]) h2 h')
theorem k_num0 {k p : Nat} (hR : q_RT G) (h : c_er tb n s k p G I) : q_W β xs L (d + 1) 39 0 [.ref 32] [] (G, I, J) (fun o h => o = .inl (some (.int 0)) ∧ h = (G, I, J)) := by
  have at29 : q_W β xs L (d + 1) 39 29 [.ref 32] [] (G, I, J) (fun o h => o = .inl (some (.int 0)) ∧ h = (G, I, J)) := g_39_29 hR ⟨fun _ => g_39_41 hR _ ⟨Or.inl rfl, rfl, rfl⟩, fun q => absurd q h.n0⟩
  exact g_39_0 hR ⟨fun z => ⟨fun y => at29, fun y => q_useF (k_fail0 (β := β) (xs := xs) (L := L) (d := d) (J := J) hR h 2) (by omega) at29⟩, fun z => q_useF (k_fail0 (β := β) (xs := xs) (L := L) (d := d) (J := J) hR h 1) (by omega) at29⟩
end Cpar1

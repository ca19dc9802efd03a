/-! ===== the class: children, leaning ===== -/
/-- a code of the class, as an operation -/
def c_op (x : Int32) : Int32 × Int32 := if ¬ x < 0 then (1, x) else if ¬ x < -13 then (2, -1 - x) else if x = -203 then (3, 0) else if x = -201 then (4, 0) else if x = -60 then (6, 0) else if x = -61 then (7, 0) else if x = -43 then (8, 0) else if x = -45 then (9, 0) else if x = -42 then (10, 0) else if x = -47 then (11, 0) else (5, 0)
def c_ops (f : Nat → Int32) : Nat → Nat → List (Int32 × Int32)
  | 0, _ => []
  | n + 1, u => c_op (f u) :: c_ops f n (u + 1)
/-- the codes from lo up to hi are these operations -/
def c_e (I : a_F) (lo hi : Int32) (ops : List (Int32 × Int32)) : Prop := ∃ u n, lo = nI u ∧ hi = nI (u + n) ∧ u + n ≤ 6000 ∧ c_ops (I 31) n u = ops
/-- a clause -/
def c_cl (D I : a_F) (a k : Nat) : Prop := (D 81 k = 4 ∧ I 25 k = 2) ∨ ((D 81 k = 0 ∨ D 81 k = 1) ∧ I 25 k = D 81 k ∧ (∃ w, w < 7 ∧ D 82 k = nI (w + 8) ∧ I 26 k = nI w ∧ bt (I 23 a) w = true) ∧ (I 30 k = D 85 k ∧ (D 85 k = -1 ∨ ∃ n, n < 100000 ∧ D 85 k = nI n) ∧ ∃ h, h ≤ 500 * (a + 1) ∧ I 29 k = nI h) ∧ c_e I (I 27 k) (I 28 k) (a_ops (D 86) 1211 (a_ix (D 83 k))) ∧ (D 84 k = -1 → c_e I (I 28 k) (I 29 k) []) ∧ (D 84 k ≠ -1 → c_e I (I 28 k) (I 29 k) (a_ops (D 86) 1211 (a_ix (D 84 k)))))
/-- the class's cells agree with the data -/
def c_D (nl nq np nf na : Nat) (D I : a_F) : Prop :=
  (I 1 2 = nI nl ∧ I 1 1 = nI nq ∧ I 3 3 = nI np ∧ I 7 8 = nI nf ∧ I 16 15 = nI na) ∧ (∀ q, q < nq → I 2 q = D 60 q) ∧ (∀ p, p < np → I 4 p = D 61 p ∧ I 5 p = D 62 p ∧ I 6 p = D 63 p) ∧
  (∀ f, f < nf → I 8 f = D 64 f ∧ I 9 f = (if D 64 f = 5 then -1 else D 65 f) ∧ I 10 f = (if D 64 f = 0 ∨ D 64 f = 6 then -1 else D 66 f) ∧ I 11 f = (if D 64 f < 2 ∨ ¬ D 64 f < 5 then D 67 f else -1) ∧ I 12 f = D 68 f ∧ I 13 f = D 69 f ∧ I 15 f = D 70 f ∧ ∀ i, i < a_ix (D 70 f) → I 14 (3 * f + i) = D 71 (3 * f + i)) ∧
  (∀ a, a < na → I 17 a = D 74 a ∧ I 18 a = D 75 a ∧ I 19 a = D 76 a ∧ I 20 a = D 77 a ∧ I 21 a = D 78 a ∧ I 24 a = D 79 a ∧ I 22 a = D 80 a ∧ ∀ c, c < a_ix (D 79 a) → c_cl D I a (12 * a + c))
/-- the cells of the class's data -/
def c_dc (c i : Nat) : Bool := (Nat.ble 2 c && Nat.ble c 6 && !Nat.beq c 3) || ((Nat.ble 8 c && Nat.ble c 31 && !Nat.beq c 16) || ((Nat.beq c 1 && (Nat.beq i 1 || Nat.beq i 2)) || ((Nat.beq c 3 && Nat.beq i 3) || ((Nat.beq c 7 && Nat.beq i 8) || (Nat.beq c 16 && Nat.beq i 15)))))
theorem c_e.keep {I I' : a_F} {lo hi : Int32} {ops : List (Int32 × Int32)} (h : c_e I lo hi ops) (h31 : I' 31 = I 31) : c_e I' lo hi ops := by
  unfold c_e
  rw [h31]
  exact h
theorem c_D.keep {nl nq np nf na : Nat} {D I I' : a_F} (h : c_D nl nq np nf na D I) (hf : ∀ c i, c_dc c i = true → I' c i = I c i) : c_D nl nq np nf na D I' := by
  obtain ⟨⟨h1, h2, h3, h4, h5⟩, h6, h7, h8, h9⟩ := h
  have h31 : I' 31 = I 31 := funext (fun i => hf 31 i rfl)
  refine ⟨⟨?_, ?_, ?_, ?_, ?_⟩, fun q hq => ?_, fun p hp => ?_, fun f hf2 => ?_, fun a ha => ?_⟩
  · rw [hf 1 2 rfl]; exact h1
  · rw [hf 1 1 rfl]; exact h2
  · rw [hf 3 3 rfl]; exact h3
  · rw [hf 7 8 rfl]; exact h4
  · rw [hf 16 15 rfl]; exact h5
  · rw [hf 2 q rfl]; exact h6 q hq
  · rw [hf 4 p rfl, hf 5 p rfl, hf 6 p rfl]; exact h7 p hp
  · rw [hf 8 f rfl, hf 9 f rfl, hf 10 f rfl, hf 11 f rfl, hf 12 f rfl, hf 13 f rfl, hf 15 f rfl]
    obtain ⟨b1, b2, b3, b4, b5, b6, b7, b8⟩ := h8 f hf2
    exact ⟨b1, b2, b3, b4, b5, b6, b7, fun i hi => by rw [hf 14 _ rfl]; exact b8 i hi⟩
  · rw [hf 17 a rfl, hf 18 a rfl, hf 19 a rfl, hf 20 a rfl, hf 21 a rfl, hf 24 a rfl, hf 22 a rfl]
    obtain ⟨b1, b2, b3, b4, b5, b6, b7, b8⟩ := h9 a ha
    refine ⟨b1, b2, b3, b4, b5, b6, b7, fun c hc => ?_⟩
    unfold c_cl
    rw [hf 25 _ rfl, hf 26 _ rfl, hf 23 _ rfl, hf 30 _ rfl, hf 27 _ rfl, hf 28 _ rfl, hf 29 _ rfl]
    rcases b8 c hc with q | ⟨q1, q2, q3, q4, q5, q6, q7⟩
    · exact Or.inl q
    · exact Or.inr ⟨q1, q2, q3, q4, q5.keep h31, fun z => (q6 z).keep h31, fun z => (q7 z).keep h31⟩
theorem c_sc_D : ∀ c i, c_dc c i = true → c_sc c i = false := fun c i h => by
  cases hh : c_sc c i with
  | false => rfl
  | true =>
    simp only [c_sc, Bool.or_eq_true, Bool.and_eq_true, Nat.beq_eq, Nat.ble_eq] at hh
    simp only [c_dc, Bool.or_eq_true, Bool.and_eq_true, Nat.beq_eq, Nat.ble_eq] at h
    omega
theorem c_D.F {nl nq np nf na : Nat} {D I I' : a_F} (h : c_D nl nq np nf na D I) (hf : q_F c_sc I I') : c_D nl nq np nf na D I' := h.keep (fun c i hc => hf c i (c_sc_D c i hc))
/-- births lie behind -/
def a_bo (T np : Nat) (s : a_F) : Prop := ∀ p, p < np → s 1 p = -1 ∨ ∃ b, b ≤ T ∧ s 1 p = nI b
theorem a_bo.kp {T np : Nat} {s s' : a_F} (h : a_bo T np s) (hk : a_kp s s') : a_bo T np s' := fun p hp => by
  rw [hk 1 (by decide) (by decide)]
  exact h p hp
/-- parents come ahead of their children -/
def a_DR (np : Nat) (D : a_F) : Prop := ∀ p, p < np → a_nn p (D 62 p) ∧ a_nn p (D 63 p)
theorem s_lt0 {n : Nat} (h : n < 2 ^ 31) : ¬ nI n < 0 := nI_pos h
section C2
variable {β : Bool} {xs : Nat → Int32} {L : Nat} {G : am_G} {I : Nat → Nat → Int32} {J : Nat → Nat → Int64}
theorem c_isChild {d : Nat} (hR : q_RT G) {D : a_F} {c p : Nat} (hc : c < 20) (h5 : I 5 c = D 62 c) (h6 : I 6 c = D 63 c) (hp : p < 20) :
    q_W β xs L d 49 0 [.ref 3, .int (nI c), .int (nI p), .retAddr 0] [] (G, I, J) (fun o h => o = .inl (some (.int (a_is (a_kid D p c)))) ∧ h = (G, I, J)) := by
  have ec : (nI c).toNatClampNeg = c := nI_clamp (by omega)
  have ic : am_is (nI c) 20 = true := am_is_nI hc (by omega)
  have fin : ∀ v : Int32, a_kid D p c = decide (v = nI p) → q_W β xs L d 49 25 [.ref 3, .int (nI c), .int (nI p), .retAddr 0] [.int v] (G, I, J) (fun o h => o = .inl (some (.int (a_is (a_kid D p c)))) ∧ h = (G, I, J)) := fun v hv => by
    refine g_49_25 hR _ _ _ ⟨fun z => g_49_36 hR _ _ _ _ ⟨Or.inl rfl, ?_, rfl⟩, fun z => g_49_36 hR _ _ _ _ ⟨Or.inr rfl, ?_, rfl⟩⟩
    · rw [hv, decide_eq_false z]; rfl
    · rw [hv, decide_eq_true z]; rfl
  refine g_49_0 hR _ _ ?_
  rw [ec, h5, h6]
  refine ⟨ic, fun z => ⟨ic, fin _ ?_⟩, fun z => ⟨ic, fin _ ?_⟩⟩
  · simp [a_kid, z]
  · have : ¬ (-1 : Int32) = nI p := fun q => nI_m1 (by omega) q.symm
    simp [a_kid, z, this]
/-- what is asked of person p, in the class's cells -/
def c_C (I : a_F) (c : a_C) (p w : Nat) : Prop := w < 7 ∧ I 41 0 = c.1 ∧ I 41 1 = nI w ∧ c.2.1 = nI (w + 8) ∧ (w = 0 ∨ w = 1 ∨ w = 5 → I 41 2 = c.2.2.1 ∧ c.2.2.1 ≠ -1) ∧ (¬ (w = 0 ∨ w = 1 ∨ w = 5) → c.2.2.1 = -1) ∧ (w ≠ 6 → I 41 3 = c.2.2.2.1) ∧ (w = 1 → (if nI p = I 41 6 then I 41 9 else I 41 8) = c.2.2.2.2)
theorem c_leans {d : Nat} (hR : q_RT G) {D s : a_F} {c : a_C} {wc : Nat → Int32} {p l w : Nat} (hp : p < 20) (hl : l < 5) (hC : c_C I c p w) (h5 : I 5 p = D 62 p) (h6 : I 6 p = D 63 p) (hf : a_nn p (D 62 p)) (hm : a_nn p (D 63 p)) (h47 : ∀ x, x < 20 → x ≠ p → I 47 x = s 0 x) (h43 : ∀ x, x < 20 → bt (s 0 x) l = true → I 43 (5 * x + l) = s 8 (5 * x + l))
    (hwd : w = 1 → bt c.2.2.2.2 l = true → ∃ q, q < 20 ∧ I 50 p = nI q ∧ I 43 (5 * q + l) = wc l) :
    q_W β xs L d 68 0 [.ref 38, .int (nI p), .int (nI l), .retAddr 0, .retAddr 0, .retAddr 0, .retAddr 0] [] (G, I, J) (fun o h => o = .inl (some (.int (a_lean D s c wc p l))) ∧ h = (G, I, J)) := by
  have ep : (nI p).toNatClampNeg = p := nI_clamp (by omega)
  have ip : am_is (nI p) 20 = true := am_is_nI hp (by omega)
  obtain ⟨w7, c0, c1, c2, c3, c4, c5, c6⟩ := hC
  have k1 : ∀ x : Nat, x < 7 → (nI w = nI x ↔ w = x) := fun x hx => nI_eq (by omega) (by omega)
  have k8 : c.2.1 = 8 ↔ w = 0 := by
    rw [c2]
    exact (nI_eq (a := w + 8) (b := 8) (by omega) (by omega)).trans (by omega)
  have k9 : c.2.1 = 9 ↔ w = 1 := by
    rw [c2]
    exact (nI_eq (a := w + 8) (b := 9) (by omega) (by omega)).trans (by omega)
  have w0 : nI w = 0 ↔ w = 0 := k1 0 (by decide)
  have w1 : nI w = 1 ↔ w = 1 := k1 1 (by decide)
  have at154 : ∀ (i3 i4 i5 v : Int32), (v = -1 → a_lean D s c wc p l = -1) → (v ≠ -1 → ∃ q, q < 20 ∧ v = nI q ∧ I 43 (5 * q + l) = a_lean D s c wc p l) → q_W β xs L d 68 154 [.ref 38, .int (nI p), .int (nI l), .int i3, .int i4, .int i5, .int v] [] (G, I, J) (fun o h => o = .inl (some (.int (a_lean D s c wc p l))) ∧ h = (G, I, J)) := by
    intro i3 i4 i5 v hv1 hv2
    by_cases hv : v = -1
    · refine g_68_154 hR _ _ _ _ _ _ ⟨fun _ => g_68_177 hR _ _ _ _ _ _ _ ⟨by rw [hv1 hv], rfl⟩, fun z => absurd (by rw [hv]; decide) z⟩
    · obtain ⟨q, hq, hq2, hq3⟩ := hv2 hv
      have e5 : (nI q * 5 + nI l : Int32) = nI (5 * q + l) := by rw [s_lit, pk_mul, nI_add, Nat.mul_comm]
      refine g_68_154 hR _ _ _ _ _ _ ⟨fun z => absurd z (by rw [hq2]; exact nI_pos (by omega)), fun _ => ?_⟩
      rw [hq2, e5, show (nI (5 * q + l)).toNatClampNeg = 5 * q + l from nI_clamp (by omega), hq3]
      exact ⟨am_is_nI (by omega) (by omega), g_68_177 hR _ _ _ _ _ _ _ ⟨rfl, rfl⟩⟩
  -- a parent that has it
  have par : ∀ x, a_nn p x → a_has s x l = true → ∃ q, q < 20 ∧ q ≠ p ∧ x = nI q ∧ I 43 (5 * q + l) = s 8 (5 * a_ix x + l) := by
    intro x hx hh
    rcases hx with hx | ⟨q, hq, hx⟩
    · rw [hx] at hh; simp [a_has] at hh
    · have eq : a_ix x = q := by rw [hx]; exact nI_clamp (by omega)
      have hb : bt (s 0 q) l = true := by
        unfold a_has at hh
        rw [eq, Bool.and_eq_true] at hh
        exact hh.2
      exact ⟨q, by omega, by omega, hx, by rw [eq]; exact h43 q (by omega) hb⟩
  have at120 : ∀ (i5 i6 : Int32), i6 = -1 → (w = 0 → a_has s (D 62 p) l = false) → (w = 1 → bt c.2.2.2.2 l = false) → q_W β xs L d 68 120 [.ref 38, .int (nI p), .int (nI l), .int (D 62 p), .int (D 63 p), .int i5, .int i6] [] (G, I, J) (fun o h => o = .inl (some (.int (a_lean D s c wc p l))) ∧ h = (G, I, J)) := by
    intro i5 i6 h6 hw0 hw1
    subst h6
    have none1 : w ≠ 0 → a_lean D s c wc p l = -1 := fun hw => by
      unfold a_lean
      rw [if_neg (fun q => hw (k8.mp q)), if_neg (fun q => by
        have := hw1 (k9.mp q.1)
        rw [this] at q
        exact absurd q.2 (by decide))]
    have none2 : w = 0 → a_has s (D 63 p) l = false → a_lean D s c wc p l = -1 := fun hw hh => by
      unfold a_lean
      rw [if_pos (k8.mpr hw), if_neg (by rw [hw0 hw]; decide), if_neg (by rw [hh]; decide)]
    have some2 : w = 0 → a_has s (D 63 p) l = true → a_lean D s c wc p l = s 8 (5 * a_ix (D 63 p) + l) := fun hw hh => by
      unfold a_lean
      rw [if_pos (k8.mpr hw), if_neg (by rw [hw0 hw]; decide), if_pos hh]
    refine g_68_120 hR _ _ _ _ _ _ ?_
    rw [c1, w0]
    refine ⟨fun z => at154 _ _ _ _ (fun _ => none1 z) (fun q => absurd rfl q), fun z => ⟨fun y => at154 _ _ _ _ (fun _ => none2 z ?_) (fun q => absurd rfl q), fun y => ?_⟩⟩
    · rcases hm with h | ⟨q, hq, h⟩
      · simp [a_has, h]
      · rw [h] at y; exact absurd y (nI_pos (by omega))
    · rcases hm with h | ⟨q, hq, h⟩
      · rw [h] at y; exact absurd (by decide) y
      · have hbit := s_bit1 (s 0 q) (a := l) (by omega)
        have hh : a_has s (D 63 p) l = bt (s 0 q) l := by
          unfold a_has
          rw [h, show a_ix (nI q) = q from nI_clamp (by omega)]
          simp [nI_m1 (a := q) (by omega)]
        rw [h, show (nI q).toNatClampNeg = q from nI_clamp (by omega), h47 q (by omega) (by omega), hbit]
        refine ⟨am_is_nI (by omega) (by omega), fun x => at154 _ _ _ _ (fun _ => none2 z (by rw [hh]; simpa using x)) (fun q => absurd rfl q), fun x => at154 _ _ _ _ (fun e => absurd e (nI_m1 (by omega))) (fun _ => ?_)⟩
        have hh2 := hh.trans x
        obtain ⟨q', hq', -, hx', h43'⟩ := par (D 63 p) (Or.inr ⟨q, hq, h⟩) hh2
        have : q = q' := nI_inj2 (by omega) (by omega) (h.symm.trans hx')
        subst this
        exact ⟨q, hq', rfl, by rw [h43', some2 z hh2]⟩
  have at86 : ∀ (i5 i6 : Int32), i6 = -1 → (w = 1 → bt c.2.2.2.2 l = false) → q_W β xs L d 68 86 [.ref 38, .int (nI p), .int (nI l), .int (D 62 p), .int (D 63 p), .int i5, .int i6] [] (G, I, J) (fun o h => o = .inl (some (.int (a_lean D s c wc p l))) ∧ h = (G, I, J)) := by
    intro i5 i6 h6 hw1
    have some1 : w = 0 → a_has s (D 62 p) l = true → a_lean D s c wc p l = s 8 (5 * a_ix (D 62 p) + l) := fun hw hh => by
      unfold a_lean
      rw [if_pos (k8.mpr hw), if_pos hh]
    refine g_68_86 hR _ _ _ _ _ _ ?_
    rw [c1, w0]
    refine ⟨fun z => at120 _ _ h6 (fun q => absurd q z) hw1, fun z => ⟨fun y => at120 _ _ h6 (fun _ => ?_) hw1, fun y => ?_⟩⟩
    · rcases hf with h | ⟨q, hq, h⟩
      · simp [a_has, h]
      · rw [h] at y; exact absurd y (nI_pos (by omega))
    · rcases hf with h | ⟨q, hq, h⟩
      · rw [h] at y; exact absurd (by decide) y
      · have hbit := s_bit1 (s 0 q) (a := l) (by omega)
        have hh : a_has s (D 62 p) l = bt (s 0 q) l := by
          unfold a_has
          rw [h, show a_ix (nI q) = q from nI_clamp (by omega)]
          simp [nI_m1 (a := q) (by omega)]
        have e47 : I 47 (D 62 p).toNatClampNeg = s 0 q := by
          rw [h, show (nI q).toNatClampNeg = q from nI_clamp (by omega)]
          exact h47 q (by omega) (by omega)
        rw [e47, hbit]
        refine ⟨by rw [h]; exact am_is_nI (by omega) (by omega), fun x => at120 _ _ h6 (fun _ => by rw [hh]; simpa using x) hw1, fun x => at154 _ _ _ _ (fun e => absurd (h.symm.trans e) (nI_m1 (by omega))) (fun _ => ?_)⟩
        have hh2 := hh.trans x
        obtain ⟨q', hq', -, hx', h43'⟩ := par (D 62 p) (Or.inr ⟨q, hq, h⟩) hh2
        exact ⟨q', hq', hx', by rw [h43', some1 z hh2]⟩
  have at49 : ∀ v : Int32, (w = 1 → v = c.2.2.2.2) → q_W β xs L d 68 49 [.ref 38, .int (nI p), .int (nI l), .int (D 62 p), .int (D 63 p), .retAddr 0, .retAddr 0] [.int v] (G, I, J) (fun o h => o = .inl (some (.int (a_lean D s c wc p l))) ∧ h = (G, I, J)) := by
    intro v hv
    refine g_68_49 hR _ _ _ _ _ ?_
    rw [c1, w1]
    refine ⟨fun z => at86 _ _ rfl (fun q => absurd q z), fun z => ⟨fun y => at86 _ _ rfl (fun _ => ?_), fun y => ⟨ip, ?_⟩⟩⟩
    · rw [hv z, s_bit1 _ (by omega)] at y
      simpa using y
    · rw [hv z, s_bit1 _ (by omega)] at y
      obtain ⟨q, hq, hq2, hq3⟩ := hwd z y
      rw [ep, hq2]
      refine at154 _ _ _ _ (fun e => absurd e (nI_m1 (by omega))) (fun _ => ⟨q, hq, rfl, ?_⟩)
      rw [hq3]
      unfold a_lean
      rw [if_neg (fun q => by have := k8.mp q; omega), if_pos ⟨k9.mpr z, y⟩]
  refine g_68_0 hR _ _ ?_
  rw [ep, h5, h6]
  refine ⟨ip, ip, fun z => at49 _ (fun hw => ?_), fun z => at49 _ (fun hw => ?_)⟩
  · have := c6 hw
    rwa [if_neg z] at this
  · have := c6 hw
    rwa [if_pos z] at this
end C2

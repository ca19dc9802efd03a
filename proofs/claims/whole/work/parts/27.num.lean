/-! ===== numbers and bits (the first rows stand in kit/laws/BITS) ===== -/
def bt (x : Int32) (i : Nat) : Bool := x.toBitVec.getLsbD i
theorem b_ext {x y : Int32} (h : ∀ i, i < 32 → bt x i = bt y i) : x = y := Int32.toBitVec_inj.mp (BitVec.eq_of_getLsbD_eq (fun i hi => h i hi))
theorem b_or (x y : Int32) (i : Nat) : bt (x ||| y) i = (bt x i || bt y i) := by unfold bt; rw [Int32.toBitVec_or, BitVec.getLsbD_or]
theorem b_and (x y : Int32) (i : Nat) : bt (x &&& y) i = (bt x i && bt y i) := by unfold bt; rw [Int32.toBitVec_and, BitVec.getLsbD_and]
theorem b_xor (x y : Int32) (i : Nat) : bt (x ^^^ y) i = (bt x i ^^ bt y i) := by unfold bt; rw [Int32.toBitVec_xor, BitVec.getLsbD_xor]
theorem b_big {x : Int32} {i : Nat} (h : 32 ≤ i) : bt x i = false := BitVec.getLsbD_of_ge _ _ h
theorem b_255 (i : Nat) : bt 255 i = decide (i < 8) := by
  rcases Nat.lt_or_ge i 32 with h | h
  · exact (by decide +kernel : ∀ i, i < 32 → bt 255 i = decide (i < 8)) i h
  · rw [b_big h, decide_eq_false (by omega)]
theorem b_65535 (i : Nat) : bt 65535 i = decide (i < 16) := by
  rcases Nat.lt_or_ge i 32 with h | h
  · exact (by decide +kernel : ∀ i, i < 32 → bt 65535 i = decide (i < 16)) i h
  · rw [b_big h, decide_eq_false (by omega)]
theorem b_m1 : ∀ i, i < 32 → bt (-1) i = true := by decide +kernel
theorem b_0 (i : Nat) : bt 0 i = false := BitVec.getLsbD_zero
theorem s_l : ∀ n, n < 32 → ((nI n &&& 31).toBitVec.smod 32).toNat = n := by decide +kernel
theorem s_u : ∀ n, n < 32 → (((nI n).toUInt32 &&& Int32.toUInt32 31).toBitVec % 32).toNat = n := by decide +kernel
theorem b_shl (n : Nat) (hn : n < 32) (x : Int32) {i : Nat} (hi : i < 32) : bt (x <<< (nI n &&& 31)) i = (decide (n ≤ i) && bt x (i - n)) := by
  unfold bt
  rw [Int32.toBitVec_shiftLeft]
  show (x.toBitVec <<< ((nI n &&& 31).toBitVec.smod 32).toNat).getLsbD i = _
  rw [s_l n hn, BitVec.getLsbD_shiftLeft]
  rcases Nat.lt_or_ge i n with h | h
  · simp [h, Nat.not_le.mpr h]
  · simp [hi, h, Nat.not_lt.mpr h]
theorem b_ushr (n : Nat) (hn : n < 32) (x : Int32) (i : Nat) : bt ((x.toUInt32 >>> ((nI n).toUInt32 &&& Int32.toUInt32 31)).toInt32) i = bt x (n + i) := by
  show (x.toUInt32 >>> ((nI n).toUInt32 &&& Int32.toUInt32 31)).toBitVec.getLsbD i = x.toUInt32.toBitVec.getLsbD (n + i)
  rw [UInt32.toBitVec_shiftRight]
  show (x.toUInt32.toBitVec >>> (((nI n).toUInt32 &&& Int32.toUInt32 31).toBitVec % 32).toNat).getLsbD i = _
  rw [s_u n hn, BitVec.getLsbD_ushiftRight]
theorem b_sshr (n : Nat) (hn : n < 32) (x : Int32) {i : Nat} (hi : i < 32) : bt (x >>> (nI n &&& 31)) i = if n + i < 32 then bt x (n + i) else bt x 31 := by
  unfold bt
  rw [Int32.toBitVec_shiftRight]
  show (x.toBitVec.sshiftRight ((nI n &&& 31).toBitVec.smod 32).toNat).getLsbD i = _
  rw [s_l n hn, BitVec.getLsbD_sshiftRight, BitVec.msb_eq_getLsbD_last]
  simp [hi]
theorem s_lit (n : Nat) : (OfNat.ofNat n : Int32) = nI n := rfl
theorem am_is_nI {n N : Nat} (h : n < N) (hN : N < 2 ^ 31) : am_is (nI n) N = true := by
  simp only [am_is, Bool.not_eq_true', Bool.or_eq_false_iff, decide_eq_false_iff_not]
  exact ⟨nI_pos (by omega), by rw [nI_clamp (by omega)]; omega⟩
theorem am_is_of {j : Int32} {N : Nat} (h : am_is j N = true) (hN : N < 2 ^ 31) : ∃ n, n < N ∧ j = nI n := by
  obtain ⟨n, h1, h2⟩ := vp_in_of (am_is_in h) hN
  exact ⟨n, h1, h2⟩
theorem b_1 : ∀ i, i < 32 → bt 1 i = decide (i = 0) := by decide +kernel
theorem s_bit (x : Int32) {a : Nat} (h : a < 32) : ((x >>> (nI a &&& 31)) &&& 1) = if bt x a = true then 1 else 0 := by
  apply b_ext
  intro i hi
  rw [b_and, b_1 i hi, b_sshr a h x hi]
  by_cases h0 : i = 0
  · subst h0
    rw [if_pos (by omega)]
    cases hb : bt x a
    · simp [hb, b_0]
    · simp [hb, b_1]
  · cases hb : bt x a
    · simp [h0, b_0]
    · simp [h0, b_1 i hi]
theorem s_bit1 (x : Int32) {a : Nat} (h : a < 32) : ((x >>> (nI a &&& 31)) &&& 1) = 1 ↔ bt x a = true := by
  rw [s_bit x h]
  cases bt x a <;> simp
theorem s_bit0 (x : Int32) {a : Nat} (h : a < 32) : ((x >>> (nI a &&& 31)) &&& 1) = 0 ↔ bt x a = false := by
  rw [s_bit x h]
  cases bt x a <;> simp
theorem b_shl1 {a i : Nat} (h : a < 32) (hi : i < 32) : bt (1 <<< (nI a &&& 31)) i = decide (i = a) := by
  rw [b_shl a h 1 hi]
  by_cases h1 : a ≤ i
  · rw [b_1 (i - a) (by omega)]
    by_cases h2 : i = a
    · simp [h2]
    · have : ¬ i - a = 0 := by omega
      simp [h2, this]
  · have : ¬ i = a := by omega
    simp [h1, this]
theorem b_set (x : Int32) {a i : Nat} (h : a < 32) (hi : i < 32) : bt (x ||| (1 <<< (nI a &&& 31))) i = (bt x i || decide (i = a)) := by rw [b_or, b_shl1 h hi]
theorem b_clr (x : Int32) {a i : Nat} (h : a < 32) (hi : i < 32) : bt (x &&& ((1 <<< (nI a &&& 31)) ^^^ (-1))) i = (bt x i && !decide (i = a)) := by
  rw [b_and, b_xor, b_shl1 h hi, b_m1 i hi]
  simp
theorem b_flp (x : Int32) {a i : Nat} (h : a < 32) (hi : i < 32) : bt (x ^^^ (1 <<< (nI a &&& 31))) i = (bt x i ^^ decide (i = a)) := by rw [b_xor, b_shl1 h hi]
/-- the bits of those below n that p holds of -/
def s_bits (p : Nat → Bool) : Nat → Int32
  | 0 => 0
  | n + 1 => if p n = true then s_bits p n ||| (1 <<< (nI n &&& 31)) else s_bits p n
theorem s_bits_bt (p : Nat → Bool) : ∀ n i, n ≤ 32 → i < 32 → bt (s_bits p n) i = (decide (i < n) && p i)
  | 0, i, _, _ => by simp [s_bits, b_0]
  | n + 1, i, hn, hi => by
    unfold s_bits
    have ih := s_bits_bt p n i (by omega) hi
    by_cases hp : p n = true
    · rw [if_pos hp, b_set _ (by omega) hi, ih]
      by_cases h1 : i = n
      · subst h1; simp [hp]
      · have : (i < n + 1) = (i < n) := propext ⟨fun h => by omega, fun h => by omega⟩
        simp [h1, this]
    · rw [if_neg hp, ih]
      by_cases h1 : i = n
      · subst h1; simp [hp]
      · have : (i < n + 1) = (i < n) := propext ⟨fun h => by omega, fun h => by omega⟩
        simp [this]
theorem s_ext {x y : Int32} (h : ∀ i, i < 32 → bt x i = bt y i) : x = y := b_ext h
/-! the first method, as a pattern: acts that are known -/
def s_kn (told back : Nat → Int32) (k : Int32) (a : Nat) : Bool := !decide (k < told a) && (decide (back a = -1) || decide (k < back a))
section S1
variable {β : Bool} {xs : Nat → Int32} {L : Nat} {G : am_G} {I : Nat → Nat → Int32} {J : Nat → Nat → Int64}
theorem s_known_loop (hR : q_RT G) {d n : Nat} (hn : I 16 15 = nI n) (hle : n ≤ 12) (k : Int32) {Q : am_O → am_H → Prop} (hQ : Q (.inl (some (.int (s_bits (s_kn (I 20) (I 21) k) n)))) (G, I, J)) : ∀ m a, a + m = n →
    q_W β xs L d 1 4 [.ref 16, .int k, .int (s_bits (s_kn (I 20) (I 21) k) a), .int (nI a)] [] (G, I, J) Q
  | 0, a, ha => by
    have e : a = n := by omega
    subst e
    refine g_1_4 hR _ _ _ ⟨fun _ => hQ, fun c => ?_⟩
    rw [hn, nI_ltI (by omega) (by omega)] at c
    omega
  | m + 1, a, ha => by
    have ih := s_known_loop (d := d) hR hn hle k hQ m (a + 1) (by omega)
    have hi : am_is (nI a) 12 = true := am_is_nI (by omega) (by omega)
    have hc : (nI a).toNatClampNeg = a := nI_clamp (by omega)
    have go : ∀ v, s_bits (s_kn (I 20) (I 21) k) (a + 1) = v → q_W β xs L d 1 48 [.ref 16, .int k, .int v, .int (nI a)] [] (G, I, J) Q := fun v hv => g_1_48 hR _ _ _ (by rw [nI_1, ← hv]; exact ih)
    have y : s_kn (I 20) (I 21) k a = true → q_W β xs L d 1 42 [.ref 16, .int k, .int (s_bits (s_kn (I 20) (I 21) k) a), .int (nI a)] [] (G, I, J) Q := fun h => g_1_42 hR _ _ _ (go _ (by show (if _ then _ else _) = _; rw [if_pos h]))
    have z : s_kn (I 20) (I 21) k a = false → q_W β xs L d 1 48 [.ref 16, .int k, .int (s_bits (s_kn (I 20) (I 21) k) a), .int (nI a)] [] (G, I, J) Q := fun h => go _ (by show (if _ then _ else _) = _; rw [if_neg (by rw [h]; decide)])
    refine g_1_4 hR _ _ _ ⟨fun c => absurd (by rw [hn]; exact (nI_ltI (by omega) (by omega)).mpr (by omega)) c, fun _ => ⟨hi, ?_⟩⟩
    rw [hc]
    exact ⟨fun c => z (by simp [s_kn, c]), fun c => ⟨hi, fun c1 => y (by simp [s_kn, c, c1]), fun c1 => ⟨hi, fun c2 => z (by simp [s_kn, c1, c2]), fun c2 => y (by simp [s_kn, c, c2])⟩⟩⟩
theorem s_known (hR : q_RT G) {d n : Nat} (hn : I 16 15 = nI n) (hle : n ≤ 12) (k : Int32) : q_W β xs L d 1 0 [.ref 16, .int k, .retAddr 0, .retAddr 0] [] (G, I, J) (fun o h => o = .inl (some (.int (s_bits (s_kn (I 20) (I 21) k) n))) ∧ h = (G, I, J)) :=
  g_1_0 hR _ (s_known_loop hR hn hle k ⟨rfl, rfl⟩ n 0 (by omega))
end S1

/-! ===== how many bits ===== -/
theorem pc_nat {m : Nat} (hm : m < 2 ^ 31) : (nI m).toBitVec.toNat = m := by
  show (BitVec.ofNat 32 m).toNat = m
  rw [BitVec.toNat_ofNat, Nat.mod_eq_of_lt (by omega)]
theorem pc_shr {m : Nat} (hm : m < 2 ^ 31) (k : Int32) (kn : Nat) (hk : ((k.toUInt32 &&& Int32.toUInt32 31).toBitVec % 32).toNat = kn) : ((nI m).toUInt32 >>> (k.toUInt32 &&& Int32.toUInt32 31)).toInt32 = nI (m >>> kn) := by
  apply Int32.toBitVec_inj.mp
  apply BitVec.eq_of_toNat_eq
  have h1 : m >>> kn ≤ m := by rw [Nat.shiftRight_eq_div_pow]; exact Nat.div_le_self _ _
  rw [pc_nat (by omega)]
  show ((nI m).toUInt32 >>> (k.toUInt32 &&& Int32.toUInt32 31)).toBitVec.toNat = _
  rw [UInt32.toBitVec_shiftRight, BitVec.ushiftRight_eq', BitVec.toNat_ushiftRight, hk]
  show (nI m).toBitVec.toNat >>> kn = _
  rw [pc_nat hm]
theorem pc_and {a b : Nat} (ha : a < 2 ^ 31) (hb : b < 2 ^ 31) : nI a &&& nI b = nI (a &&& b) := by
  apply Int32.toBitVec_inj.mp
  apply BitVec.eq_of_toNat_eq
  have h1 : a &&& b ≤ a := Nat.and_le_left
  rw [pc_nat (by omega), Int32.toBitVec_and, BitVec.toNat_and, pc_nat ha, pc_nat hb]
def p_f1 (M m : Nat) : Nat := m - ((m >>> 1) &&& M)
def p_f2 (M v : Nat) : Nat := (v &&& M) + ((v >>> 2) &&& M)
def p_f4 (M v : Nat) : Nat := (v + (v >>> 4)) &&& M
theorem pc_land {u w m0 M : Nat} (hu : u < 256) (hm : m0 < 256) : (u + 256 * w) &&& (m0 + 256 * M) = (u &&& m0) + 256 * (w &&& M) := by
  have e1 : ((u + 256 * w) &&& (m0 + 256 * M)) % 2 ^ 8 = u &&& m0 := by
    rw [Nat.and_mod_two_pow, show (u + 256 * w) % 2 ^ 8 = u by omega, show (m0 + 256 * M) % 2 ^ 8 = m0 by omega]
  have e2 : ((u + 256 * w) &&& (m0 + 256 * M)) / 2 ^ 8 = w &&& M := by
    rw [Nat.and_div_two_pow, show (u + 256 * w) / 2 ^ 8 = w by omega, show (m0 + 256 * M) / 2 ^ 8 = M by omega]
  omega
theorem p_t1 : ∀ a, a < 256 → ∀ e, e < 2 → ((a / 2 + 128 * e) &&& 85) = ((a >>> 1) &&& 85) := by decide +kernel
theorem p_t2 : ∀ a, a < 256 → ∀ e, e < 4 → ((a / 4 + 64 * e) &&& 51) = ((a >>> 2) &&& 51) := by decide +kernel
theorem p_t4 : ∀ a, a < 69 → ∀ e, e < 5 → ((a + a / 16 + 16 * e) &&& 15) = ((a + (a >>> 4)) &&& 15) := by decide +kernel
def pcs (m : Nat) : Nat → Nat
  | 0 => 0
  | n + 1 => pcs m n + m / 2 ^ n % 2
theorem p_t8 : ∀ a, a < 256 → p_f1 85 a < 256 ∧ p_f2 51 (p_f1 85 a) < 69 ∧ p_f2 51 (p_f1 85 a) % 16 < 5 ∧ p_f4 15 (p_f2 51 (p_f1 85 a)) = pcs a 8 ∧ pcs a 8 ≤ 8 := by decide +kernel
theorem p_tc : ∀ c, c < 16 → p_f1 21845 c < 256 ∧ p_f2 13107 (p_f1 21845 c) % 16 < 5 ∧ p_f4 3855 (p_f2 13107 (p_f1 21845 c)) = pcs c 4 ∧ pcs c 4 ≤ 4 := by decide +kernel
theorem p_s1 {a : Nat} (ha : a < 256) (y M : Nat) : p_f1 (85 + 256 * M) (a + 256 * y) = p_f1 85 a + 256 * p_f1 M y := by
  unfold p_f1
  have e : (a + 256 * y) >>> 1 = (a / 2 + 128 * (y % 2)) + 256 * (y >>> 1) := by
    rw [Nat.shiftRight_eq_div_pow, Nat.shiftRight_eq_div_pow]
    omega
  rw [e, pc_land (by omega) (by omega), p_t1 a ha (y % 2) (by omega)]
  have h1 : (a >>> 1) &&& 85 ≤ a := Nat.le_trans Nat.and_le_left (by rw [Nat.shiftRight_eq_div_pow]; exact Nat.div_le_self _ _)
  have h2 : (y >>> 1) &&& M ≤ y := Nat.le_trans Nat.and_le_left (by rw [Nat.shiftRight_eq_div_pow]; exact Nat.div_le_self _ _)
  generalize (a >>> 1) &&& 85 = p at h1 ⊢
  generalize (y >>> 1) &&& M = q at h2 ⊢
  omega
theorem p_s2 {a : Nat} (ha : a < 256) (y M : Nat) : p_f2 (51 + 256 * M) (a + 256 * y) = p_f2 51 a + 256 * p_f2 M y := by
  unfold p_f2
  have e : (a + 256 * y) >>> 2 = (a / 4 + 64 * (y % 4)) + 256 * (y >>> 2) := by
    rw [Nat.shiftRight_eq_div_pow, Nat.shiftRight_eq_div_pow]
    omega
  rw [e, pc_land ha (by omega), pc_land (by omega) (by omega), p_t2 a ha (y % 4) (by omega)]
  omega
theorem p_s4 {a : Nat} (ha : a < 69) {y : Nat} (hy : y % 16 < 5) (M : Nat) : p_f4 (15 + 256 * M) (a + 256 * y) = p_f4 15 a + 256 * p_f4 M y := by
  unfold p_f4
  have e : a + 256 * y + (a + 256 * y) >>> 4 = (a + a / 16 + 16 * (y % 16)) + 256 * (y + y >>> 4) := by
    rw [Nat.shiftRight_eq_div_pow, Nat.shiftRight_eq_div_pow]
    omega
  rw [e, pc_land (by omega) (by omega), p_t4 a ha (y % 16) hy]
theorem pcs_lo (a y : Nat) (ha : a < 256) : pcs (a + 256 * y) 8 = pcs a 8 := by
  simp only [pcs]
  omega
theorem pcs_hi (a y : Nat) (ha : a < 256) : ∀ n, pcs (a + 256 * y) (8 + n) = pcs a 8 + pcs y n
  | 0 => pcs_lo a y ha
  | n + 1 => by
    show pcs (a + 256 * y) (8 + n) + (a + 256 * y) / 2 ^ (8 + n) % 2 = pcs a 8 + (pcs y n + y / 2 ^ n % 2)
    rw [pcs_hi a y ha n, Nat.pow_add, ← Nat.div_div_eq_div_mul, show (a + 256 * y) / 2 ^ 8 = y by omega, Nat.add_assoc]
theorem p_all {m : Nat} (hm : m < 2 ^ 20) : ∃ v, p_f4 252645135 (p_f2 858993459 (p_f1 1431655765 m)) = v ∧ v < 2 ^ 21 ∧ p_f2 858993459 (p_f1 1431655765 m) < 2 ^ 29 ∧ (v + v / 256 + (v + v / 256) / 65536) % 64 = pcs m 20 ∧ pcs m 20 ≤ 20 := by
  obtain ⟨a, y, ha, hy, e⟩ : ∃ a y, a < 256 ∧ y < 4096 ∧ m = a + 256 * y := ⟨m % 256, m / 256, by omega, by omega, by omega⟩
  obtain ⟨b, c, hb, hc, e2⟩ : ∃ b c, b < 256 ∧ c < 16 ∧ y = b + 256 * c := ⟨y % 256, y / 256, by omega, by omega, by omega⟩
  subst e2
  subst e
  obtain ⟨a1, a2, a3, a4, a5⟩ := p_t8 a ha
  obtain ⟨b1, b2, b3, b4, b5⟩ := p_t8 b hb
  obtain ⟨c1, c2, c3, c4⟩ := p_tc c hc
  have e1 : p_f1 1431655765 (a + 256 * (b + 256 * c)) = p_f1 85 a + 256 * (p_f1 85 b + 256 * p_f1 21845 c) := by
    rw [show (1431655765 : Nat) = 85 + 256 * (85 + 256 * 21845) from rfl, p_s1 ha, p_s1 hb]
  have e2 : p_f2 858993459 (p_f1 1431655765 (a + 256 * (b + 256 * c))) = p_f2 51 (p_f1 85 a) + 256 * (p_f2 51 (p_f1 85 b) + 256 * p_f2 13107 (p_f1 21845 c)) := by
    rw [e1, show (858993459 : Nat) = 51 + 256 * (51 + 256 * 13107) from rfl, p_s2 a1, p_s2 b1]
  have e4 : p_f4 252645135 (p_f2 858993459 (p_f1 1431655765 (a + 256 * (b + 256 * c)))) = pcs a 8 + 256 * (pcs b 8 + 256 * pcs c 4) := by
    rw [e2, show (252645135 : Nat) = 15 + 256 * (15 + 256 * 3855) from rfl, p_s4 a2 (by omega), p_s4 b2 (by omega), a4, b4, c3]
  have e5 : pcs (a + 256 * (b + 256 * c)) 20 = pcs a 8 + (pcs b 8 + pcs c 4) := by
    rw [show (20 : Nat) = 8 + (8 + 4) from rfl, pcs_hi a _ ha, pcs_hi b c hb]
  have c2' : p_f2 13107 (p_f1 21845 c) < 2 ^ 10 := by
    have : ∀ c, c < 16 → p_f2 13107 (p_f1 21845 c) < 2 ^ 10 := by decide +kernel
    exact this c hc
  refine ⟨_, rfl, ?_, ?_, ?_, ?_⟩
  · rw [e4]; omega
  · rw [e2]; omega
  · rw [e4, e5]
    generalize pcs a 8 = A at a5 ⊢
    generalize pcs b 8 = B at b5 ⊢
    generalize pcs c 4 = C at c4 ⊢
    have d1 : (A + 256 * (B + 256 * C)) / 256 = B + 256 * C := by omega
    have d2 : (A + 256 * (B + 256 * C) + (B + 256 * C)) / 65536 = C := by omega
    rw [d1, d2]
    omega
  · rw [e5]; omega
theorem c_bc20 {m : Nat} (hm : m < 2 ^ 20) : c_bc (nI m) = nI (pcs m 20) := by
  obtain ⟨v, h4, hv, h2, h5, h6⟩ := p_all hm
  have r1 : ((nI m).toUInt32 >>> ((1 : Int32).toUInt32 &&& Int32.toUInt32 31)).toInt32 = nI (m >>> 1) := pc_shr (by omega) 1 1 (by decide)
  have l1 : m >>> 1 ≤ m := by rw [Nat.shiftRight_eq_div_pow]; exact Nat.div_le_self _ _
  have l1' : (m >>> 1) &&& 1431655765 ≤ m >>> 1 := Nat.and_le_left
  have s1 : nI m - (nI (m >>> 1) &&& (1431655765 : Int32)) = nI (p_f1 1431655765 m) := by
    rw [show (1431655765 : Int32) = nI 1431655765 from rfl, pc_and (by omega) (by omega), pk_sub (by omega)]
    rfl
  have hw : p_f1 1431655765 m ≤ m := by unfold p_f1; omega
  generalize hwe : p_f1 1431655765 m = w at s1 hw h4 h2
  have r2 : ((nI w).toUInt32 >>> ((2 : Int32).toUInt32 &&& Int32.toUInt32 31)).toInt32 = nI (w >>> 2) := pc_shr (by omega) 2 2 (by decide)
  have l2 : w >>> 2 ≤ w := by rw [Nat.shiftRight_eq_div_pow]; exact Nat.div_le_self _ _
  have s2 : (nI w &&& (858993459 : Int32)) + (nI (w >>> 2) &&& (858993459 : Int32)) = nI (p_f2 858993459 w) := by
    rw [show (858993459 : Int32) = nI 858993459 from rfl, pc_and (by omega) (by omega), pc_and (by omega) (by omega), nI_add]
    rfl
  generalize hue : p_f2 858993459 w = u at s2 h4 h2
  have r4 : ((nI u).toUInt32 >>> ((4 : Int32).toUInt32 &&& Int32.toUInt32 31)).toInt32 = nI (u >>> 4) := pc_shr (by omega) 4 4 (by decide)
  have l4 : u >>> 4 ≤ u := by rw [Nat.shiftRight_eq_div_pow]; exact Nat.div_le_self _ _
  have s4 : (nI u + nI (u >>> 4)) &&& (252645135 : Int32) = nI v := by
    rw [nI_add, show (252645135 : Int32) = nI 252645135 from rfl, pc_and (by omega) (by omega)]
    exact congrArg nI h4
  have r8 : ((nI v).toUInt32 >>> ((8 : Int32).toUInt32 &&& Int32.toUInt32 31)).toInt32 = nI (v >>> 8) := pc_shr (by omega) 8 8 (by decide)
  have l8 : v >>> 8 = v / 256 := Nat.shiftRight_eq_div_pow _ _
  have r16 : ((nI (v + v >>> 8)).toUInt32 >>> ((16 : Int32).toUInt32 &&& Int32.toUInt32 31)).toInt32 = nI ((v + v >>> 8) >>> 16) := pc_shr (by omega) 16 16 (by decide)
  have l16 : (v + v / 256) >>> 16 = (v + v / 256) / 65536 := Nat.shiftRight_eq_div_pow _ _
  unfold c_bc
  rw [r1, s1, r2, s2, r4, s4, r8, nI_add, r16, nI_add, l8, l16, show (63 : Int32) = nI 63 from rfl, pc_and (by omega) (by omega), show (63 : Nat) = 2 ^ 6 - 1 from rfl, Nat.and_two_pow_sub_one_eq_mod]
  exact congrArg nI h5

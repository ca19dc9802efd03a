/-! ===== the class: data, state, ledger ===== -/
/-- the ledger's rows after j growths -/
def c_row (j : Nat) : Nat := if j = 0 then 46 else 117 + j
theorem c_row_SH {j : Nat} : q_SH (c_row j) = .inl (.int, 448 * 2 ^ j) := by
  unfold c_row q_SH
  by_cases h : j = 0
  · subst h
    rfl
  · rw [if_neg h, if_neg (by omega), show 117 + j - 117 = j by omega]
theorem c_row_ne {j : Nat} : c_row j = 46 ∨ 118 ≤ c_row j := by
  unfold c_row
  split <;> omega
/-- the machine after e throws and j growths -/
def c_L (e j : Nat) (G : am_G) : Prop := j ≤ 9 ∧ q_RT G ∧ G.1 = 118 + j ∧ G.2.1 42 3 = some (c_row j) ∧ G.2.2.1 = 118 + j + e ∧ G.2.2.2 = 167762 + (448 * 2 ^ (j + 1) - 896) + 6 * e
def c_J (J J' : Nat → Nat → Int64) : Prop := ∀ i, i < 118 → J' i = J i
theorem c_J.rf (J : Nat → Nat → Int64) : c_J J J := fun _ _ => rfl
theorem c_J.tr {J J1 J2 : Nat → Nat → Int64} (h1 : c_J J J1) (h2 : c_J J1 J2) : c_J J J2 := fun i hi => (h2 i hi).trans (h1 i hi)
theorem q_rtl_bd : ∀ e ∈ q_rtl, e.1 < 6000 ∧ e.1 ≠ 4203 := by decide
theorem q_rt_bd {i k j : Nat} (h : q_rt i k = some j) : i < 60 ∧ ¬ (i = 42 ∧ k = 3) := by
  unfold q_rt at h
  split at h
  · have h1 := q_rtl_bd _ (q_lookup_mem h)
    dsimp only at h1
    omega
  · cases h
theorem c_pow {j : Nat} (h : j ≤ 9) : 2 ^ j ≤ 512 := by
  have := Nat.pow_le_pow_right (n := 2) (by decide) h
  simpa using this
/-- the rows of the ledger -/
def c_rw (I : a_F) (r : Nat) (s : a_F) (n : Nat) : Prop := ∀ m, m < n → I r (7 * m) = s 11 m ∧ I r (7 * m + 1) = s 12 m ∧ I r (7 * m + 2) = s 13 m / 12 ∧ I r (7 * m + 3) = s 13 m - s 13 m / 12 * 12 ∧ I r (7 * m + 4) = s 14 m ∧ I r (7 * m + 5) = s 16 m ∧ I r (7 * m + 6) = s 15 m
/-- the class's cells hold the state s -/
def c_S (nq j : Nat) (I s : a_F) : Prop :=
  (∀ p, p < 20 → I 47 p = s 0 p ∧ I 48 p = s 1 p ∧ I 49 p = (if s 1 p = -1 then -1 else s 2 p) ∧ I 50 p = s 3 p ∧ I 51 p = s 4 p ∧ (s 4 p ≠ -1 → I 52 p = s 5 p)) ∧ (∀ q, q < nq → I 53 q = s 6 q ∧ I 54 q = s 7 q) ∧
  (∀ p l, p < 20 → l < 5 → (bt (s 0 p) l = true → I 43 (5 * p + l) = s 8 (5 * p + l)) ∧ I 44 (5 * p + l) = s 9 (5 * p + l) ∧ I 45 (5 * p + l) = s 10 (5 * p + l)) ∧ I 42 4 = s 17 0 ∧ 7 * a_ix (s 17 0) ≤ 448 * 2 ^ j ∧ c_rw I (c_row j) s (a_ix (s 17 0))
/-- the cells that a step of the world may change -/
def c_sc (c i : Nat) : Bool := (Nat.ble 39 c && Nat.ble c 56) || (Nat.ble 118 c || (Nat.beq c 38 && Nat.beq i 18))
theorem c_sc_row {j i : Nat} : c_sc (c_row j) i = true := by
  rcases c_row_ne (j := j) with h | h
  · rw [h]; rfl
  · unfold c_sc
    rw [Nat.ble_eq_true_of_le h]
    simp
/-- happening, calendar, what is known stay -/
def c_ct (I I' : a_F) : Prop := (∀ i, I' 41 i = I 41 i) ∧ (∀ i, I' 40 i = I 40 i) ∧ (∀ i, I' 39 i = I 39 i) ∧ I' 38 18 = I 38 18
theorem c_ct.rf (I : a_F) : c_ct I I := ⟨fun _ => rfl, fun _ => rfl, fun _ => rfl, rfl⟩
theorem c_ct.tr {I I1 I2 : a_F} (h1 : c_ct I I1) (h2 : c_ct I1 I2) : c_ct I I2 := ⟨fun i => (h2.1 i).trans (h1.1 i), fun i => (h2.2.1 i).trans (h1.2.1 i), fun i => (h2.2.2.1 i).trans (h1.2.2.1 i), h2.2.2.2.trans h1.2.2.2⟩
theorem c_ct.up {I I1 : a_F} (h : c_ct I I1) {c : Nat} (i : Nat) (x : Int32) (h1 : c ≠ 41) (h2 : c ≠ 40) (h3 : c ≠ 39) (h4 : c ≠ 38) : c_ct I (am_u I1 c i x) := by
  refine ⟨fun k => ?_, fun k => ?_, fun k => ?_, ?_⟩
  · rw [am_u_ne (Or.inl (Ne.symm h1))]; exact h.1 k
  · rw [am_u_ne (Or.inl (Ne.symm h2))]; exact h.2.1 k
  · rw [am_u_ne (Or.inl (Ne.symm h3))]; exact h.2.2.1 k
  · rw [am_u_ne (Or.inl (Ne.symm h4))]; exact h.2.2.2
/-- a gain's row -/
def c_gI (I : a_F) (r n p l k : Nat) (today fact ch on : Int32) : a_F := am_u (am_u (am_u (am_u (am_u (am_u (am_u (am_u (am_u (am_u I r (7 * n) (nI p)) r (7 * n + 1) today) r (7 * n + 2) (nI k / 12)) r (7 * n + 3) (nI k - nI k / 12 * 12)) r (7 * n + 4) fact) r (7 * n + 5) ch) r (7 * n + 6) on) 43 (5 * p + l) (nI n)) 44 (5 * p + l) (I 44 (5 * p + l) + 1)) 42 4 (nI n + 1)
section C1
variable {β : Bool} {xs : Nat → Int32} {L : Nat}
theorem c_gain40 {d e j : Nat} {G : am_G} {I : a_F} {J : Nat → Nat → Int64} (hL : c_L e j G) {n p l k : Nat} (hn : I 42 4 = nI n) (hb : 7 * n + 7 ≤ 448 * 2 ^ j) (hp : p < 20) (hl : l < 5) (hk : k < 144) (today fact ch on : Int32) {Q : am_O → am_H → Prop} (hQ : Q (.inl (some (.int (nI n)))) (G, c_gI I (c_row j) n p l k today fact ch on, J)) :
    q_W β xs L (d + 1) 23 40 [.ref 42, .int (nI p), .int (nI l), .int today, .int (nI k), .int fact, .int ch, .int on, .int (nI (7 * n))] [] (G, I, J) Q := by
  obtain ⟨hj, hR, h1, h2, h3, h4⟩ := hL
  have hpw := c_pow hj
  have hr := c_row_ne (j := j)
  have e5 : (nI p * 5 + nI l : Int32) = nI (5 * p + l) := by rw [s_lit, pk_mul, nI_add, Nat.mul_comm]
  have c5 : (nI (5 * p + l)).toNatClampNeg = 5 * p + l := nI_clamp (by omega)
  have i5 : am_is (nI (5 * p + l)) 100 = true := am_is_nI (by omega) (by omega)
  have k0 : (nI (7 * n)).toNatClampNeg = 7 * n := nI_clamp (by omega)
  have a : ∀ i : Nat, i < 7 → am_is (nI (7 * n + i)) (448 * 2 ^ j) = true := fun i hi => am_is_nI (by omega) (by omega)
  have c : ∀ i : Nat, i < 7 → (nI (7 * n + i)).toNatClampNeg = 7 * n + i := fun i hi => nI_clamp (by omega)
  have b1 : nI (7 * n) + 1 = nI (7 * n + 1) := nI_add _ 1
  have b2 : nI (7 * n) + 2 = nI (7 * n + 2) := nI_add _ 2
  have b3 : nI (7 * n) + 3 = nI (7 * n + 3) := nI_add _ 3
  have b4 : nI (7 * n) + 4 = nI (7 * n + 4) := nI_add _ 4
  have b5 : nI (7 * n) + 5 = nI (7 * n + 5) := nI_add _ 5
  have b6 : nI (7 * n) + 6 = nI (7 * n + 6) := nI_add _ 6
  refine g_23_40 hR _ _ _ _ _ _ _ _ ⟨_, h2, _, c_row_SH, a 0 (by decide), _, h2, _, c_row_SH, by rw [b1]; exact a 1 (by decide), _, h2, by decide, _, c_row_SH, by rw [b2]; exact a 2 (by decide), _, h2, by decide, _, c_row_SH, by rw [b3]; exact a 3 (by decide), _, h2, _, c_row_SH, by rw [b4]; exact a 4 (by decide), _, h2, _, c_row_SH, by rw [b5]; exact a 5 (by decide), _, h2, _, c_row_SH, by rw [b6]; exact a 6 (by decide), ?_⟩
  rw [e5, c5, b1, b2, b3, b4, b5, b6, k0, c 1 (by decide), c 2 (by decide), c 3 (by decide), c 4 (by decide), c 5 (by decide), c 6 (by decide)]
  refine ⟨i5, i5, i5, ?_⟩
  have n42 : (42 : Nat) ≠ c_row j := by omega
  have n44 : (44 : Nat) ≠ c_row j := by omega
  have z42 : ∀ y, am_u (am_u (am_u (am_u (am_u (am_u (am_u I (c_row j) (7 * n) (nI p)) (c_row j) (7 * n + 1) today) (c_row j) (7 * n + 2) (nI k / 12)) (c_row j) (7 * n + 3) (nI k - nI k / 12 * 12)) (c_row j) (7 * n + 4) fact) (c_row j) (7 * n + 5) ch) (c_row j) (7 * n + 6) on 42 y = I 42 y := fun y => by
    rw [am_u_ne (Or.inl n42), am_u_ne (Or.inl n42), am_u_ne (Or.inl n42), am_u_ne (Or.inl n42), am_u_ne (Or.inl n42), am_u_ne (Or.inl n42), am_u_ne (Or.inl n42)]
  have z44 : ∀ y, am_u (am_u (am_u (am_u (am_u (am_u (am_u I (c_row j) (7 * n) (nI p)) (c_row j) (7 * n + 1) today) (c_row j) (7 * n + 2) (nI k / 12)) (c_row j) (7 * n + 3) (nI k - nI k / 12 * 12)) (c_row j) (7 * n + 4) fact) (c_row j) (7 * n + 5) ch) (c_row j) (7 * n + 6) on 44 y = I 44 y := fun y => by
    rw [am_u_ne (Or.inl n44), am_u_ne (Or.inl n44), am_u_ne (Or.inl n44), am_u_ne (Or.inl n44), am_u_ne (Or.inl n44), am_u_ne (Or.inl n44), am_u_ne (Or.inl n44)]
  rw [z42, z44, hn, show nI n + 1 - 1 = nI n by rw [nI_1, nI_pred]]
  exact hQ
theorem c_gain {d e j : Nat} {G : am_G} {I : a_F} {J : Nat → Nat → Int64} (hL : c_L e j G) {n p l k : Nat} (hn : I 42 4 = nI n) (hb : n < 30000) (hb2 : 7 * n ≤ 448 * 2 ^ j) (hp : p < 20) (hl : l < 5) (hk : k < 144) (today fact ch on : Int32) {Q : am_O → am_H → Prop}
    (hQ : ∀ (G' : am_G) (I' : a_F) (J' : Nat → Nat → Int64) (j' : Nat), c_L e j' G' → c_J J J' → (∀ c, c ≠ c_row j' → c ≠ c_row j → I' c = I c) → (∀ i, i < 7 * n → I' (c_row j') i = I (c_row j) i) → (7 * n + 7 ≤ 448 * 2 ^ j') → Q (.inl (some (.int (nI n)))) (G', c_gI I' (c_row j') n p l k today fact ch on, J')) :
    q_W β xs L (d + 1) 23 0 [.ref 42, .int (nI p), .int (nI l), .int today, .int (nI k), .int fact, .int ch, .int on, .retAddr 0] [] (G, I, J) Q := by
  have hL0 := hL
  obtain ⟨hj, hR, h1, h2, h3, h4⟩ := hL
  have hpw := c_pow hj
  have e7 : (nI n * 7 : Int32) = nI (7 * n) := by rw [s_lit, pk_mul, Nat.mul_comm]
  have e77 : nI (7 * n) + 7 = nI (7 * n + 7) := nI_add _ 7
  refine g_23_0 hR _ _ _ _ _ _ _ ⟨_, h2, _, c_row_SH, fun z => ?_, fun z => ⟨_, h2, _, h2, _, c_row_SH, ?_⟩⟩
  · rw [hn, e7, e77] at z
    have z2 : ¬ 448 * 2 ^ j < 7 * n + 7 := fun q => z ((nI_ltI (a := 448 * 2 ^ j) (by omega) (by omega)).mpr q)
    rw [hn, e7]
    exact c_gain40 (d := d) hL0 hn (by omega) hp hl hk today fact ch on (hQ G I J j hL0 (c_J.rf J) (fun c _ _ => rfl) (fun i _ => rfl) (by omega))
  · rw [hn, e7, e77] at z
    have z2 : 448 * 2 ^ j < 7 * n + 7 := (nI_ltI (a := 448 * 2 ^ j) (by omega) (by omega)).mp z
    have hj8 : j ≤ 8 := by
      rcases Nat.lt_or_ge 8 j with h | h
      · have : j = 9 := by omega
        subst this
        have : (2 : Nat) ^ 9 = 512 := rfl
        omega
      · exact h
    have hps : 2 ^ (j + 1) = 2 ^ j * 2 := Nat.pow_succ 2 j
    have hps2 : 2 ^ (j + 1 + 1) = 2 ^ j * 2 * 2 := by rw [Nat.pow_succ, Nat.pow_succ]
    have hp1 : 1 ≤ 2 ^ j := Nat.one_le_two_pow
    have e2 : (Int32.ofNat (448 * 2 ^ j) * 2 : Int32) = nI (448 * 2 ^ (j + 1)) := by
      show nI (448 * 2 ^ j) * nI 2 = _
      rw [pk_mul, hps, Nat.mul_assoc]
    have cN : (nI (448 * 2 ^ (j + 1))).toNatClampNeg = 448 * 2 ^ (j + 1) := nI_clamp (by omega)
    have SHn : q_SH G.1 = .inl (.int, 448 * 2 ^ (j + 1)) := by
      rw [h1]
      unfold q_SH
      rw [if_neg (by omega), show 118 + j - 117 = j + 1 by omega]
    rw [e2]
    refine g_202_0 hR _ _ ⟨_, c_row_SH, fun _ => ⟨⟨by rw [cN]; exact SHn, nI_pos (by omega), by rw [cN]; omega⟩, _, c_row_SH, _, c_row_SH, _, SHn, ?_⟩, fun q => ?_⟩
    · have nlt : ¬ nI (448 * 2 ^ (j + 1)) < Int32.ofNat (448 * 2 ^ j) := fun q => by
        have := (nI_ltI (b := 448 * 2 ^ j) (by omega) (by omega)).mp q
        omega
      have cM : (Int32.ofNat (448 * 2 ^ j)).toNatClampNeg = 448 * 2 ^ j := nI_clamp (n := 448 * 2 ^ j) (by omega)
      have c0 : (0 : Int32).toNatClampNeg = 0 := rfl
      rw [if_neg nlt, cM, cN, c0]
      refine ⟨⟨by decide, by decide, nI_pos (n := 448 * 2 ^ j) (by omega), by omega, by omega⟩, ?_⟩
      have hRT : q_RT (G.1 + 1, am_row G.2.1 G.1 (fun _ => none), G.2.2.1 + 1, G.2.2.2 + 448 * 2 ^ (j + 1)) := fun i k j2 hh => by
        have h9 := q_rt_bd hh
        show am_row G.2.1 G.1 (fun _ => none) i k = _
        rw [am_row_ne _ _ _ (by omega)]
        exact hR i k j2 hh
      refine ⟨hRT, ?_⟩
      have hrn : c_row j ≠ G.1 := by
        rw [h1]
        unfold c_row
        split <;> omega
      have er1 : c_row (j + 1) = G.1 := by
        rw [h1]
        unfold c_row
        rw [if_neg (by omega)]
        omega
      have hL1 : c_L e (j + 1) (G.1 + 1, am_u (am_row G.2.1 G.1 (fun _ => none)) 42 3 (some G.1), G.2.2.1 + 1, G.2.2.2 + 448 * 2 ^ (j + 1)) := by
        refine ⟨by omega, fun i k j2 hh => ?_, by show G.1 + 1 = _; omega, ?_, by show G.2.2.1 + 1 = _; omega, by show G.2.2.2 + 448 * 2 ^ (j + 1) = _; omega⟩
        · have h9 := q_rt_bd hh
          show am_u (am_row G.2.1 G.1 (fun _ => none)) 42 3 (some G.1) i k = _
          rw [am_u_ne (by omega)]
          exact hRT i k j2 hh
        · show am_u (am_row G.2.1 G.1 (fun _ => none)) 42 3 (some G.1) 42 3 = _
          rw [am_u_same, er1]
      have rowI : ∀ c, c ≠ G.1 → am_row (am_row I G.1 (fun _ => 0)) G.1 (va_cpy (am_row I G.1 (fun _ => 0) (c_row j)) (am_row I G.1 (fun _ => 0) G.1) 0 0 (448 * 2 ^ j)) c = I c := fun c hc => by
        rw [am_row_ne _ _ _ hc, am_row_ne _ _ _ hc]
      rw [hn, e7]
      refine c_gain40 (d := d) hL1 ((congrFun (rowI 42 (by omega)) 4).trans hn) (by omega) hp hl hk today fact ch on ?_
      rw [er1]
      have := hQ _ (am_row (am_row I G.1 (fun _ => 0)) G.1 (va_cpy (am_row I G.1 (fun _ => 0) (c_row j)) (am_row I G.1 (fun _ => 0) G.1) 0 0 (448 * 2 ^ j))) (am_row J G.1 (fun _ => 0)) (j + 1) hL1 (fun i hi => am_row_ne _ _ _ (by omega)) (fun c hc1 hc2 => rowI c (by rw [← er1]; exact hc1)) (fun i hi => ?_) (by omega)
      · rw [er1] at this
        exact this
      · rw [er1, am_row_eq, pk_cpy_in (Nat.zero_le _) (by omega), am_row_ne _ _ _ hrn, Nat.zero_add, Nat.sub_zero]
    · have := nI_inj2 (b := 448 * 2 ^ j) (by omega) (by omega) q
      omega
theorem b_flp_set {x : Int32} {l : Nat} (hl : l < 32) (h : bt x l = false) : x ^^^ (1 <<< (nI l &&& 31)) = x ||| a_bit l := by
  apply b_ext
  intro i hi
  rw [b_flp x hl hi]
  show _ = bt (x ||| (1 <<< (nI l &&& 31))) i
  rw [b_set x hl hi]
  by_cases h1 : i = l
  · subst h1; simp [h]
  · simp [h1]
theorem b_flp_clr {x : Int32} {l : Nat} (hl : l < 32) (h : bt x l = true) : x ^^^ (1 <<< (nI l &&& 31)) = x &&& (a_bit l ^^^ (-1)) := by
  apply b_ext
  intro i hi
  rw [b_flp x hl hi]
  show _ = bt (x &&& ((1 <<< (nI l &&& 31)) ^^^ (-1))) i
  rw [b_clr x hl hi]
  by_cases h1 : i = l
  · subst h1; simp [h]
  · simp [h1]
/-- came stays but where bonds are gained -/
def c_43 (I I' s : a_F) (l : Nat) : Prop := ∀ x l', x < 20 → l' < 5 → (l' ≠ l ∨ bt (s 0 x) l' = true) → I' 43 (5 * x + l') = I 43 (5 * x + l')
theorem c_43.rf (I s : a_F) (l : Nat) : c_43 I I s l := fun _ _ _ _ _ => rfl
theorem c_gainS {d e j nq : Nat} {G : am_G} {I s : a_F} {J : Nat → Nat → Int64} (hL : c_L e j G) (hS : c_S nq j I s) {n p l k : Nat} (hn : s 17 0 = nI n) (hb : n < 30000) (hp : p < 20) (hl : l < 5) (hk : k < 144) (hpl : bt (s 0 p) l = false) (today fact ch on : Int32) {Q : am_O → am_H → Prop}
    (hQ : ∀ (G' : am_G) (I' : a_F) (J' : Nat → Nat → Int64) (j' : Nat), c_L e j' G' → c_J J J' → q_F c_sc I I' → c_ct I I' → (∀ i, I' 55 i = I 55 i) → c_43 I I' s l → c_S nq j' I' (a_gain s today fact p l k on ch) → Q (.inl (some (.int (nI n)))) (G', I', J')) :
    q_W β xs L (d + 1) 23 0 [.ref 42, .int (nI p), .int (nI l), .int today, .int (nI k), .int fact, .int ch, .int on, .retAddr 0] [] (G, am_u I 47 p (s 0 p ||| a_bit l), J) Q := by
  obtain ⟨h1, h2, h3, h4, h5, h6⟩ := hS
  have en : a_ix (s 17 0) = n := by rw [hn]; exact nI_clamp (by omega)
  rw [en] at h5 h6
  have hr := c_row_ne (j := j)
  refine c_gain (d := d) hL (I := am_u I 47 p (s 0 p ||| a_bit l)) (by rw [am_u_ne (Or.inl (by decide))]; exact h4.trans hn) hb h5 hp hl hk today fact ch on (fun G' I' J' j' q1 q2 q3 q4 q5 => ?_)
  have hr' := c_row_ne (j := j')
  have u : ∀ c, c ≠ 46 → c < 118 → ∀ i, I' c i = am_u I 47 p (s 0 p ||| a_bit l) c i := fun c z1 z2 i => congrFun (q3 c (by omega) (by omega)) i
  have low : ∀ c, c ≠ 46 → c < 118 → c ≠ 43 → c ≠ 44 → c ≠ 42 → c ≠ 47 → ∀ i, c_gI I' (c_row j') n p l k today fact ch on c i = I c i := fun c z1 z2 z3 z4 z5 z6 i => by
    unfold c_gI
    have zr : c ≠ c_row j' := by omega
    rw [am_u_ne (Or.inl z5), am_u_ne (Or.inl z4), am_u_ne (Or.inl z3), am_u_ne (Or.inl zr), am_u_ne (Or.inl zr), am_u_ne (Or.inl zr), am_u_ne (Or.inl zr), am_u_ne (Or.inl zr), am_u_ne (Or.inl zr), am_u_ne (Or.inl zr), u c z1 z2, am_u_ne (Or.inl z6)]
  have g47 : ∀ i, c_gI I' (c_row j') n p l k today fact ch on 47 i = am_u I 47 p (s 0 p ||| a_bit l) 47 i := fun i => by
    unfold c_gI
    have zr : 47 ≠ c_row j' := by omega
    rw [am_u_ne (Or.inl (by decide)), am_u_ne (Or.inl (by decide)), am_u_ne (Or.inl (by decide)), am_u_ne (Or.inl zr), am_u_ne (Or.inl zr), am_u_ne (Or.inl zr), am_u_ne (Or.inl zr), am_u_ne (Or.inl zr), am_u_ne (Or.inl zr), am_u_ne (Or.inl zr), u 47 (by decide) (by decide)]
  have g43 : ∀ i, c_gI I' (c_row j') n p l k today fact ch on 43 i = if i = 5 * p + l then nI n else I 43 i := fun i => by
    unfold c_gI
    have zr : 43 ≠ c_row j' := by omega
    rw [am_u_ne (Or.inl (by decide)), am_u_ne (Or.inl (by decide))]
    by_cases hi : i = 5 * p + l
    · rw [if_pos hi, hi, am_u_same]
    · rw [if_neg hi, am_u_ne (Or.inr hi), am_u_ne (Or.inl zr), am_u_ne (Or.inl zr), am_u_ne (Or.inl zr), am_u_ne (Or.inl zr), am_u_ne (Or.inl zr), am_u_ne (Or.inl zr), am_u_ne (Or.inl zr), u 43 (by decide) (by decide), am_u_ne (Or.inl (by decide))]
  have g44 : ∀ i, c_gI I' (c_row j') n p l k today fact ch on 44 i = if i = 5 * p + l then I 44 i + 1 else I 44 i := fun i => by
    unfold c_gI
    have zr : 44 ≠ c_row j' := by omega
    rw [am_u_ne (Or.inl (by decide))]
    have e44 : I' 44 (5 * p + l) = I 44 (5 * p + l) := by rw [u 44 (by decide) (by decide), am_u_ne (Or.inl (by decide))]
    by_cases hi : i = 5 * p + l
    · rw [if_pos hi, hi, am_u_same, e44]
    · rw [if_neg hi, am_u_ne (Or.inr hi), am_u_ne (Or.inl (by decide)), am_u_ne (Or.inl zr), am_u_ne (Or.inl zr), am_u_ne (Or.inl zr), am_u_ne (Or.inl zr), am_u_ne (Or.inl zr), am_u_ne (Or.inl zr), am_u_ne (Or.inl zr), u 44 (by decide) (by decide), am_u_ne (Or.inl (by decide))]
  have g42 : ∀ i, c_gI I' (c_row j') n p l k today fact ch on 42 i = if i = 4 then nI n + 1 else I 42 i := fun i => by
    unfold c_gI
    have zr : 42 ≠ c_row j' := by omega
    by_cases hi : i = 4
    · rw [if_pos hi, hi, am_u_same]
    · rw [if_neg hi, am_u_ne (Or.inr hi), am_u_ne (Or.inl (by decide)), am_u_ne (Or.inl (by decide)), am_u_ne (Or.inl zr), am_u_ne (Or.inl zr), am_u_ne (Or.inl zr), am_u_ne (Or.inl zr), am_u_ne (Or.inl zr), am_u_ne (Or.inl zr), am_u_ne (Or.inl zr), u 42 (by decide) (by decide), am_u_ne (Or.inl (by decide))]
  have grow : ∀ i, c_gI I' (c_row j') n p l k today fact ch on (c_row j') i = am_u (am_u (am_u (am_u (am_u (am_u (am_u I' (c_row j') (7 * n) (nI p)) (c_row j') (7 * n + 1) today) (c_row j') (7 * n + 2) (nI k / 12)) (c_row j') (7 * n + 3) (nI k - nI k / 12 * 12)) (c_row j') (7 * n + 4) fact) (c_row j') (7 * n + 5) ch) (c_row j') (7 * n + 6) on (c_row j') i := fun i => by
    unfold c_gI
    rw [am_u_ne (Or.inl (by omega)), am_u_ne (Or.inl (by omega)), am_u_ne (Or.inl (by omega))]
  refine hQ _ _ _ j' q1 q2 ?_ ⟨low 41 (by decide) (by decide) (by decide) (by decide) (by decide) (by decide), low 40 (by decide) (by decide) (by decide) (by decide) (by decide) (by decide), low 39 (by decide) (by decide) (by decide) (by decide) (by decide) (by decide), low 38 (by decide) (by decide) (by decide) (by decide) (by decide) (by decide) 18⟩ (low 55 (by decide) (by decide) (by decide) (by decide) (by decide) (by decide)) ?_ ?_
  · intro c i hc
    have h46 : c ≠ 46 := fun h => by subst h; cases hc
    have h118 : c < 118 := by
      rcases Nat.lt_or_ge c 118 with h | h
      · exact h
      · unfold c_sc at hc
        rw [Nat.ble_eq_true_of_le h] at hc
        simp at hc
    exact low c h46 h118 (fun h => by subst h; cases hc) (fun h => by subst h; cases hc) (fun h => by subst h; cases hc) (fun h => by subst h; cases hc) i
  · intro x l' hx hl' hh
    rw [g43, if_neg]
    intro q
    have e1 : x = p := by omega
    have e2 : l' = l := by omega
    subst e1; subst e2
    rcases hh with h | h
    · exact h rfl
    · rw [hpl] at h; cases h
  · have hcnt : a_ix (a_gain s today fact p l k on ch 17 0) = n + 1 := by
      rw [a_gain_n hn (by omega)]
      exact nI_clamp (by omega)
    refine ⟨fun x hx => ?_, fun q hq => ?_, fun x l' hx hl' => ?_, ?_, by rw [hcnt]; omega, ?_⟩
    · obtain ⟨b1, b2, b3, b4, b5, b6⟩ := h1 x hx
      rw [g47, low 48 (by decide) (by decide) (by decide) (by decide) (by decide) (by decide), low 49 (by decide) (by decide) (by decide) (by decide) (by decide) (by decide), low 50 (by decide) (by decide) (by decide) (by decide) (by decide) (by decide), low 51 (by decide) (by decide) (by decide) (by decide) (by decide) (by decide), low 52 (by decide) (by decide) (by decide) (by decide) (by decide) (by decide)]
      refine ⟨?_, b2, b3, b4, b5, b6⟩
      by_cases hxp : x = p
      · subst hxp; simp [am_u, a_gain, a_rec]
      · simp [am_u, a_gain, a_rec, hxp, b1]
    · rw [low 53 (by decide) (by decide) (by decide) (by decide) (by decide) (by decide), low 54 (by decide) (by decide) (by decide) (by decide) (by decide) (by decide)]
      exact h2 q hq
    · obtain ⟨b1, b2, b3⟩ := h3 x l' hx hl'
      rw [g43, g44, low 45 (by decide) (by decide) (by decide) (by decide) (by decide) (by decide)]
      by_cases hxp : 5 * x + l' = 5 * p + l
      · have e1 : x = p := by omega
        have e2 : l' = l := by omega
        subst e1; subst e2
        rw [if_pos rfl, if_pos rfl]
        refine ⟨fun _ => ?_, ?_, ?_⟩
        · simp [am_u, a_gain, a_rec, hn]
        · simp [am_u, a_gain, a_rec, b2]
        · simp [am_u, a_gain, a_rec, b3]
      · rw [if_neg hxp, if_neg hxp]
        refine ⟨fun h => ?_, ?_, ?_⟩
        · have h0 : bt (s 0 x) l' = true := by
            by_cases hxp2 : x = p
            · subst hxp2
              have hll : l' ≠ l := fun q => hxp (by rw [q])
              have h9 : bt (s 0 x ||| (1 <<< (nI l &&& 31))) l' = true := by
                have e : a_gain s today fact x l k on ch 0 x = s 0 x ||| (1 <<< (nI l &&& 31)) := by simp [am_u, a_gain, a_rec, a_bit]
                rw [← e]; exact h
              rw [b_set _ (by omega) (by omega)] at h9
              simpa [hll] using h9
            · have e : a_gain s today fact p l k on ch 0 x = s 0 x := by simp [am_u, a_gain, a_rec, hxp2]
              rw [← e]; exact h
          rw [b1 h0]
          simp [am_u, a_gain, a_rec, hxp]
        · rw [b2]; simp [am_u, a_gain, a_rec, hxp]
        · rw [b3]; simp [am_u, a_gain, a_rec]
    · rw [g42, if_pos rfl, a_gain_n hn (by omega), nI_1]
    · intro m hm
      rw [hcnt] at hm
      rw [grow, grow, grow, grow, grow, grow, grow]
      by_cases hmn : m = n
      · subst hmn
        have e11 : a_gain s today fact p l k on ch 11 m = nI p := by simp [am_u, a_gain, a_rec, en]
        have e12 : a_gain s today fact p l k on ch 12 m = today := by simp [am_u, a_gain, a_rec, en]
        have e13 : a_gain s today fact p l k on ch 13 m = nI k := by simp [am_u, a_gain, a_rec, en]
        have e14 : a_gain s today fact p l k on ch 14 m = fact := by simp [am_u, a_gain, a_rec, en]
        have e15 : a_gain s today fact p l k on ch 15 m = on := by simp [am_u, a_gain, a_rec, en]
        have e16 : a_gain s today fact p l k on ch 16 m = ch := by simp [am_u, a_gain, a_rec, en]
        rw [e11, e12, e13, e14, e15, e16]
        refine ⟨?_, ?_, ?_, ?_, ?_, ?_, ?_⟩ <;> simp [am_u]
      · have hm2 : m < n := by omega
        obtain ⟨b1, b2, b3, b4, b5, b6, b7⟩ := h6 m hm2
        have old : ∀ i, i < 7 * n → am_u (am_u (am_u (am_u (am_u (am_u (am_u I' (c_row j') (7 * n) (nI p)) (c_row j') (7 * n + 1) today) (c_row j') (7 * n + 2) (nI k / 12)) (c_row j') (7 * n + 3) (nI k - nI k / 12 * 12)) (c_row j') (7 * n + 4) fact) (c_row j') (7 * n + 5) ch) (c_row j') (7 * n + 6) on (c_row j') i = I (c_row j) i := fun i hi => by
          rw [am_u_ne (Or.inr (by omega)), am_u_ne (Or.inr (by omega)), am_u_ne (Or.inr (by omega)), am_u_ne (Or.inr (by omega)), am_u_ne (Or.inr (by omega)), am_u_ne (Or.inr (by omega)), am_u_ne (Or.inr (by omega)), q4 i hi, am_u_ne (Or.inl (by omega))]
        have e11 : a_gain s today fact p l k on ch 11 m = s 11 m := by simp [am_u, a_gain, a_rec, en, hmn]
        have e12 : a_gain s today fact p l k on ch 12 m = s 12 m := by simp [am_u, a_gain, a_rec, en, hmn]
        have e13 : a_gain s today fact p l k on ch 13 m = s 13 m := by simp [am_u, a_gain, a_rec, en, hmn]
        have e14 : a_gain s today fact p l k on ch 14 m = s 14 m := by simp [am_u, a_gain, a_rec, en, hmn]
        have e15 : a_gain s today fact p l k on ch 15 m = s 15 m := by simp [am_u, a_gain, a_rec, en, hmn]
        have e16 : a_gain s today fact p l k on ch 16 m = s 16 m := by simp [am_u, a_gain, a_rec, en, hmn]
        rw [e11, e12, e13, e14, e15, e16, old _ (by omega), old _ (by omega), old _ (by omega), old _ (by omega), old _ (by omega), old _ (by omega), old _ (by omega)]
        exact ⟨b1, b2, b3, b4, b5, b6, b7⟩
end C1

/-! ===== how many records a happening makes ===== -/
theorem nI_inj2 {a b : Nat} (ha : a < 2 ^ 31) (hb : b < 2 ^ 31) (h : nI a = nI b) : a = b := by
  have w := congrArg Int32.toInt h
  rw [nI_toInt ha, nI_toInt hb] at w
  omega
theorem nI_m1 {a : Nat} (ha : a < 2 ^ 31) : ¬ nI a = -1 := fun h => by
  have w := congrArg Int32.toInt h
  rw [nI_toInt ha] at w
  have : (-1 : Int32).toInt = -1 := by decide
  omega
def a_kid (D : a_F) (p c : Nat) : Bool := decide (D 62 c = nI p) || (decide (D 62 c = -1) && decide (D 63 c = nI p))
/-- how many of the n persons from c on are p's children -/
def a_kn (D : a_F) (p : Nat) : Nat → Nat → Nat
  | 0, _ => 0
  | n + 1, c => (if a_kid D p c = true then 1 else 0) + a_kn D p n (c + 1)
def a_kS (D : a_F) (n c : Nat) : Nat → Nat → Nat
  | 0, _ => 0
  | m + 1, p => a_kn D p n c + a_kS D n c m (p + 1)
def a_i1 (D : a_F) (c : Nat) : Nat → Nat → Nat
  | 0, _ => 0
  | m + 1, p => (if a_kid D p c = true then 1 else 0) + a_i1 D c m (p + 1)
theorem a_kid_one {D : a_F} {p q c : Nat} (hp : p < 2 ^ 31) (hq : q < 2 ^ 31) (h1 : a_kid D p c = true) (h2 : a_kid D q c = true) : p = q := by
  simp only [a_kid, Bool.or_eq_true, Bool.and_eq_true, decide_eq_true_eq] at h1 h2
  rcases h1 with h1 | ⟨h1, h1'⟩
  · rcases h2 with h2 | ⟨h2, h2'⟩
    · exact nI_inj2 hp hq (h1.symm.trans h2)
    · exact absurd (h1.symm.trans h2) (nI_m1 hp)
  · rcases h2 with h2 | ⟨h2, h2'⟩
    · exact absurd (h2.symm.trans h1) (nI_m1 hq)
    · exact nI_inj2 hp hq (h1'.symm.trans h2')
theorem a_i1_0 {D : a_F} {p c : Nat} (hp : p < 2 ^ 31) (h1 : a_kid D p c = true) : ∀ m q, p < q → q + m ≤ 2 ^ 31 → a_i1 D c m q = 0
  | 0, q, _, _ => rfl
  | m + 1, q, hq, hm => by
    unfold a_i1
    rw [a_i1_0 hp h1 m (q + 1) (by omega) (by omega)]
    by_cases h : a_kid D q c = true
    · have := a_kid_one hp (by omega) h1 h
      omega
    · rw [if_neg h]
theorem a_i1_le {D : a_F} {c : Nat} : ∀ m p, p + m ≤ 2 ^ 31 → a_i1 D c m p ≤ 1
  | 0, p, _ => Nat.zero_le _
  | m + 1, p, hm => by
    unfold a_i1
    by_cases h : a_kid D p c = true
    · rw [if_pos h, a_i1_0 (by omega) h m (p + 1) (by omega) (by omega)]
      omega
    · rw [if_neg h]
      have := a_i1_le (D := D) (c := c) m (p + 1) (by omega)
      omega
theorem a_kS_0 {D : a_F} {c : Nat} : ∀ m p, a_kS D 0 c m p = 0
  | 0, _ => rfl
  | m + 1, p => by
    unfold a_kS
    rw [a_kS_0 m (p + 1)]
    rfl
theorem a_kS_s {D : a_F} {n c : Nat} : ∀ m p, a_kS D (n + 1) c m p = a_i1 D c m p + a_kS D n (c + 1) m p
  | 0, _ => rfl
  | m + 1, p => by
    unfold a_kS a_i1
    rw [a_kS_s m (p + 1)]
    show (if a_kid D p c = true then 1 else 0) + a_kn D p n (c + 1) + _ = _
    omega
theorem a_kS_le {D : a_F} : ∀ n c m p, p + m ≤ 2 ^ 31 → a_kS D n c m p ≤ n
  | 0, c, m, p, _ => by rw [a_kS_0]; exact Nat.le_refl _
  | n + 1, c, m, p, h => by
    rw [a_kS_s]
    have h1 := a_i1_le (D := D) (c := c) m p h
    have h2 := a_kS_le (D := D) n (c + 1) m p h
    omega
theorem a_kn_le {D : a_F} {p : Nat} : ∀ n c, a_kn D p n c ≤ n
  | 0, _ => Nat.le_refl _
  | n + 1, c => by
    unfold a_kn
    have := a_kn_le (D := D) (p := p) n (c + 1)
    split <;> omega
theorem a_kids_n (D : a_F) (today fact : Int32) (p l k : Nat) (gains : Bool) : ∀ n c s m, s 17 0 = nI m → m + n < 2 ^ 31 → ∃ m', a_kids D today fact p l k gains n c s 17 0 = nI m' ∧ m' ≤ m + a_kn D p n c
  | 0, c, s, m, h, _ => ⟨m, h, Nat.le_refl _⟩
  | n + 1, c, s, m, h, hb => by
    unfold a_kids a_kn
    by_cases hk : a_isk D s today p l k gains c = true
    · have hk2 : a_kid D p c = true := by
        unfold a_isk at hk
        rw [Bool.and_eq_true] at hk
        exact hk.1
      rw [if_pos hk, if_pos hk2]
      by_cases hg : gains = true
      · rw [if_pos hg]
        obtain ⟨m', h1, h2⟩ := a_kids_n D today fact p l k gains n (c + 1) _ (m + 1) (a_gain_n h (by omega) today fact c l k (s 8 (5 * p + l)) 1) (by omega)
        exact ⟨m', h1, by omega⟩
      · rw [if_neg hg]
        obtain ⟨m', h1, h2⟩ := a_kids_n D today fact p l k gains n (c + 1) (a_lose s c l) m h (by omega)
        exact ⟨m', h1, by omega⟩
    · rw [if_neg hk]
      obtain ⟨m', h1, h2⟩ := a_kids_n D today fact p l k gains n (c + 1) s m h (by omega)
      refine ⟨m', h1, ?_⟩
      split <;> omega
theorem a_change_n {D s : a_F} {np : Nat} (hD : D 59 5 = nI np) (hnp : np ≤ 20) (c : a_C) (fact : Int32) (wc : Nat → Int32) (p l k : Nat) {m : Nat} (h : s 17 0 = nI m) (hb : m + 30 < 2 ^ 31) : ∃ m', a_change D s c fact wc p l k 17 0 = nI m' ∧ m' ≤ m + (1 + a_kn D p np 0) := by
  have e : a_ix (D 59 5) = np := by rw [hD]; exact nI_clamp (by omega)
  have key : ∃ m1, (if decide (D 81 k = 0) = true then a_gain s c.1 fact p l k (a_lean D s c wc p l) 0 else a_lose s p l) 17 0 = nI m1 ∧ m1 ≤ m + 1 := by
    split
    · exact ⟨m + 1, a_gain_n h (by omega) _ _ _ _ _ _ _, Nat.le_refl _⟩
    · exact ⟨m, h, by omega⟩
  obtain ⟨m1, h1, h2⟩ := key
  unfold a_change
  try dsimp only
  split
  · exact ⟨m1, h1, by omega⟩
  · rw [e]
    obtain ⟨m', h3, h4⟩ := a_kids_n D c.1 fact p l k (decide (D 81 k = 0)) np 0 _ m1 h1 (by omega)
    exact ⟨m', h3, by omega⟩
theorem a_changes_n {D : a_F} {np : Nat} (hD : D 59 5 = nI np) (hnp : np ≤ 20) (c : a_C) (fact : Int32) (wc ch : Nat → Int32) (p : Nat) : ∀ n l s m, s 17 0 = nI m → m + n * (1 + a_kn D p np 0) + 30 < 2 ^ 31 → ∃ m', a_changes D c fact wc ch p n l s 17 0 = nI m' ∧ m' ≤ m + n * (1 + a_kn D p np 0)
  | 0, l, s, m, h, _ => ⟨m, h, by omega⟩
  | n + 1, l, s, m, h, hb => by
    rw [Nat.succ_mul] at hb ⊢
    unfold a_changes
    split
    · obtain ⟨m', h1, h2⟩ := a_changes_n hD hnp c fact wc ch p n (l + 1) s m h (by omega)
      exact ⟨m', h1, by omega⟩
    · obtain ⟨m1, h1, h2⟩ := a_change_n hD hnp c fact wc p l (a_ix (ch l)) h (by omega)
      obtain ⟨m', h3, h4⟩ := a_changes_n hD hnp c fact wc ch p n (l + 1) _ m1 h1 (by omega)
      exact ⟨m', h3, by omega⟩
theorem a_ask_n {D : a_F} {np : Nat} (hD : D 59 5 = nI np) (hnp : np ≤ 20) (c : a_C) (fact force : Int32) (wc : Nat → Int32) (lo n p : Nat) {s : a_F} {m : Nat} (h : s 17 0 = nI m) (hb : m + n * (1 + a_kn D p np 0) + 30 < 2 ^ 31) : ∃ m', a_ask D c fact force wc lo n p s 17 0 = nI m' ∧ m' ≤ m + n * (1 + a_kn D p np 0) := a_changes_n hD hnp c fact wc _ p n lo s m h hb
theorem a_all_n {D : a_F} {np : Nat} (hD : D 59 5 = nI np) (hnp : np ≤ 20) (c : a_C) (fact force : Int32) (wc : Nat → Int32) (lo n : Nat) : ∀ m p s r, s 17 0 = nI r → r + n * (m + a_kS D np 0 m p) + 30 < 2 ^ 31 → ∃ r', a_all D c fact force wc lo n m p s 17 0 = nI r' ∧ r' ≤ r + n * (m + a_kS D np 0 m p)
  | 0, p, s, r, h, _ => ⟨r, h, by omega⟩
  | m + 1, p, s, r, h, hb => by
    have e : n * (m + 1 + a_kS D np 0 (m + 1) p) = n * (1 + a_kn D p np 0) + n * (m + a_kS D np 0 m (p + 1)) := by
      rw [← Nat.mul_add]
      congr 1
      show m + 1 + (a_kn D p np 0 + a_kS D np 0 m (p + 1)) = _
      omega
    rw [e] at hb ⊢
    unfold a_all
    obtain ⟨m1, h1, h2⟩ := a_ask_n hD hnp c fact force wc lo n p h (by omega)
    obtain ⟨r', h3, h4⟩ := a_all_n hD hnp c fact force wc lo n m (p + 1) _ m1 h1 (by omega)
    exact ⟨r', h3, by omega⟩
theorem a_all_le {D : a_F} {np : Nat} (hD : D 59 5 = nI np) (hnp : np ≤ 20) (c : a_C) (fact force : Int32) (wc : Nat → Int32) (lo n : Nat) (hn : n ≤ 5) {s : a_F} {r : Nat} (h : s 17 0 = nI r) (hb : r < 100000) : ∃ r', a_all D c fact force wc lo n np 0 s 17 0 = nI r' ∧ r' ≤ r + 200 := by
  have h1 := a_kS_le (D := D) np 0 np 0 (by omega)
  have h2 : n * (np + a_kS D np 0 np 0) ≤ 5 * 40 := Nat.mul_le_mul hn (by omega)
  obtain ⟨r', h3, h4⟩ := a_all_n hD hnp c fact force wc lo n np 0 s r h (by omega)
  exact ⟨r', h3, by omega⟩
theorem a_ask_le {D : a_F} {np : Nat} (hD : D 59 5 = nI np) (hnp : np ≤ 20) (c : a_C) (fact force : Int32) (wc : Nat → Int32) (lo n p : Nat) (hn : n ≤ 5) {s : a_F} {r : Nat} (h : s 17 0 = nI r) (hb : r < 100000) : ∃ r', a_ask D c fact force wc lo n p s 17 0 = nI r' ∧ r' ≤ r + n * (1 + a_kn D p np 0) := by
  have h1 := a_kn_le (D := D) (p := p) np 0
  have h2 : n * (1 + a_kn D p np 0) ≤ 5 * 21 := Nat.mul_le_mul hn (by omega)
  exact a_ask_n hD hnp c fact force wc lo n p h (by omega)
theorem a_kn_two {D : a_F} {p q : Nat} (hpq : p ≠ q) (hp : p < 2 ^ 31) (hq : q < 2 ^ 31) : ∀ n c, a_kn D p n c + a_kn D q n c ≤ n
  | 0, _ => Nat.le_refl _
  | n + 1, c => by
    unfold a_kn
    have := a_kn_two (D := D) hpq hp hq n (c + 1)
    by_cases h1 : a_kid D p c = true
    · have h2 : ¬ a_kid D q c = true := fun h => hpq (a_kid_one hp hq h1 h)
      rw [if_pos h1, if_neg h2]
      omega
    · rw [if_neg h1]
      split <;> omega
/-- well-formed facts -/
def a_DF (nl nq np nf : Nat) (D : a_F) : Prop := ∀ f, f < nf → (∃ kd, kd ≤ 6 ∧ D 64 f = nI kd ∧ (kd ≠ 5 → ∃ p, p < np ∧ D 65 f = nI p ∧ (kd = 1 → ∃ q, q < np ∧ q ≠ p ∧ D 66 f = nI q)) ∧ (2 ≤ kd → kd ≤ 5 → ∃ l, l < nl ∧ D 66 f = nI l) ∧ (kd < 2 ∨ 5 ≤ kd → ∃ q, q < nq ∧ D 67 f = nI q)) ∧
  ∃ cn, 1 ≤ cn ∧ cn ≤ 3 ∧ D 70 f = nI cn ∧ ∀ i, i < cn → ∃ e, e ≤ 72999 ∧ D 71 (3 * f + i) = nI e
theorem a_fact_n {nl nq np nf na : Nat} {D : a_F} (hP : a_DP nl nq np na D) (hF : a_DF nl nq np nf D) (today force : Int32) {f : Nat} (hf : f < nf) {s : a_F} {r : Nat} (h : s 17 0 = nI r) (hb : r < 100000) : ∃ r', a_fact D today force f s 17 0 = nI r' ∧ r' ≤ r + 200 := by
  obtain ⟨⟨h3, h5, h32⟩, ⟨b1, b2, b3, b4⟩, hpp⟩ := hP
  obtain ⟨⟨kd, hk, hk2, hp, hl, hq⟩, -⟩ := hF f hf
  have e3 : a_ix (D 59 3) = nl := by rw [h3]; exact nI_clamp (by omega)
  have e5 : a_ix (D 59 5) = np := by rw [h5]; exact nI_clamp (by omega)
  have one : ∀ (c : a_C) (fact : Int32) (wc : Nat → Int32) (p : Nat) (s1 : a_F), s1 17 0 = nI r → ∃ r', a_ask D c fact force wc 0 nl p s1 17 0 = nI r' ∧ r' ≤ r + 200 := fun c fact wc p s1 h1 => by
    obtain ⟨r', q1, q2⟩ := a_ask_le h5 b3 c fact force wc 0 nl p b1 h1 hb
    have k1 := a_kn_le (D := D) (p := p) np 0
    have k2 : nl * (1 + a_kn D p np 0) ≤ 5 * 21 := Nat.mul_le_mul b1 (by omega)
    exact ⟨r', q1, by omega⟩
  unfold a_fact
  rw [e3, e5]
  split
  · unfold a_birth
    rw [e3]
    split
    · exact one _ _ _ _ _ h
    · exact ⟨r, h, by omega⟩
  · rename_i n0
    split
    · rename_i n1
      have hkd : kd = 1 := nI_inj2 (by omega) (by omega) (hk2.symm.trans n1)
      obtain ⟨p, hp1, hp2, hp3⟩ := hp (by omega)
      obtain ⟨q, hq1, hq2, hq3⟩ := hp3 hkd
      rw [hp2, hq3, show a_ix (nI p) = p from nI_clamp (by omega), show a_ix (nI q) = q from nI_clamp (by omega)]
      unfold a_wed
      rw [e3]
      obtain ⟨r1, q1, q2⟩ := a_ask_le h5 b3 (today, 9, D 67 f, -1, s 0 q) (nI f) force (fun l => s 8 (5 * q + l)) 0 nl p b1 (s := am_u (am_u s 3 p (nI q)) 3 q (nI p)) h hb
      have k1 := a_kn_le (D := D) (p := p) np 0
      have k2 : nl * (1 + a_kn D p np 0) ≤ 5 * (1 + a_kn D p np 0) := Nat.mul_le_mul b1 (Nat.le_refl _)
      have k3 : nl * (1 + a_kn D q np 0) ≤ 5 * (1 + a_kn D q np 0) := Nat.mul_le_mul b1 (Nat.le_refl _)
      have k4 := a_kn_two (D := D) (p := p) (q := q) (Ne.symm hq2) (by omega) (by omega) np 0
      obtain ⟨r2, q3, q4⟩ := a_ask_n h5 b3 (today, 9, D 67 f, -1, s 0 p) (nI f) force (fun l => s 8 (5 * p + l)) 0 nl q q1 (by omega)
      exact ⟨r2, q3, by omega⟩
    · split
      · exact a_all_le h5 b3 _ _ _ _ _ _ b1 h hb
      · split
        · exact ⟨r, h, by omega⟩
        · exact one _ _ _ _ _ h
theorem a_act_n {nl nq np na : Nat} {D : a_F} (hP : a_DP nl nq np na D) (today force : Int32) (a : Nat) {s : a_F} {r : Nat} (h : s 17 0 = nI r) (hb : r < 100000) : ∃ r', a_act D today force a s 17 0 = nI r' ∧ r' ≤ r + 200 := by
  obtain ⟨⟨h3, h5, h32⟩, ⟨b1, b2, b3, b4⟩, hpp⟩ := hP
  have e5 : a_ix (D 59 5) = np := by rw [h5]; exact nI_clamp (by omega)
  unfold a_act
  split
  · rw [e5]
    exact a_all_le h5 b3 _ _ _ _ _ _ (by omega) h hb
  · exact ⟨r, h, by omega⟩

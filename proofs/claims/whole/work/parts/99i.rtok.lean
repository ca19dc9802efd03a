/-! ===== the reference's tokens ===== -/
/-- letters, five bits each -/
def yt_pk (f : Nat → Nat) : Nat → Nat
  | 0 => 0
  | k + 1 => yt_pk f k * 32 + (f k - 96)
theorem yt_pk_lt {f : Nat → Nat} : ∀ k, (∀ i, i < k → f i ≤ 122) → yt_pk f k < 32 ^ k
  | 0, _ => (by decide : 0 < 1)
  | k + 1, h => by
    have ih := yt_pk_lt (f := f) k (fun i hi => h i (by omega))
    have := h k (Nat.lt_succ_self k)
    show yt_pk f k * 32 + (f k - 96) < 32 ^ (k + 1)
    rw [Nat.pow_succ]
    omega
theorem yt_pk_inj {f g : Nat → Nat} : ∀ k k', (∀ i, i < k → 97 ≤ f i ∧ f i ≤ 122) → (∀ i, i < k' → 97 ≤ g i ∧ g i ≤ 122) → yt_pk f k = yt_pk g k' → k = k' ∧ ∀ i, i < k → f i = g i
  | 0, 0, _, _, _ => ⟨rfl, fun i hi => absurd hi (Nat.not_lt_zero i)⟩
  | 0, k' + 1, _, hg, h => by
    have := hg k' (Nat.lt_succ_self k')
    have h2 : 0 = yt_pk g k' * 32 + (g k' - 96) := h
    omega
  | k + 1, 0, hf, _, h => by
    have := hf k (Nat.lt_succ_self k)
    have h2 : yt_pk f k * 32 + (f k - 96) = 0 := h
    omega
  | k + 1, k' + 1, hf, hg, h => by
    have h1 := hf k (Nat.lt_succ_self k)
    have h2 := hg k' (Nat.lt_succ_self k')
    have h3 : yt_pk f k * 32 + (f k - 96) = yt_pk g k' * 32 + (g k' - 96) := h
    obtain ⟨e1, e2⟩ := yt_pk_inj k k' (fun i hi => hf i (by omega)) (fun i hi => hg i (by omega)) (by omega)
    subst e1
    refine ⟨rfl, fun i hi => ?_⟩
    by_cases e : i = k
    · subst e; omega
    · exact e2 i (by omega)
theorem yt_pk_cong {f g : Nat → Nat} : ∀ k, (∀ i, i < k → f i = g i) → yt_pk f k = yt_pk g k
  | 0, _ => rfl
  | k + 1, h => by
    show yt_pk f k * 32 + (f k - 96) = yt_pk g k * 32 + (g k - 96)
    rw [yt_pk_cong k (fun i hi => h i (by omega)), h k (Nat.lt_succ_self k)]
/-- the reference's number of a word -/
def yt_rw (w : Nat) : Nat := ([0, 1, 4, 2, 3, 6, 5] : List Nat).getD w w
theorem yt_kw : ∀ w, w < 28 → q_kw (yt_rw w) = lN (yt_pk (fun i => (yt_ws.getD w []).getD i 0) (yt_ws.getD w []).length) ∧ (yt_ws.getD w []).length ≤ 8 ∧ yt_rw w < 28 := by decide +kernel
theorem yt_wsl : ∀ w, w < 28 → ∀ i, i < (yt_ws.getD w []).length → 97 ≤ (yt_ws.getD w []).getD i 0 ∧ (yt_ws.getD w []).getD i 0 ≤ 122 := by decide +kernel
theorem yt_rw_on : ∀ k, k < 28 → ∃ w, w < 28 ∧ yt_rw w = k := by decide +kernel
theorem yt_kw_ne : ∀ w, w < 28 → ∀ k, k < yt_rw w → q_kw k ≠ q_kw (yt_rw w) := by decide +kernel
theorem lN_inj {a b : Nat} (ha : a < 2 ^ 63) (hb : b < 2 ^ 63) (h : lN a = lN b) : a = b := by
  have h2 := congrArg (fun x => x.toBitVec.toNat) h
  have e : ∀ n : Nat, n < 2 ^ 63 → (lN n).toBitVec.toNat = n := fun n hn => Nat.mod_eq_of_lt (by omega)
  have h3 : (lN a).toBitVec.toNat = (lN b).toBitVec.toNat := h2
  rw [e a ha, e b hb] at h3
  exact h3
theorem yt_shl {a c : Nat} (ha : a < 2 ^ 50) (hc : c < 32) : (lN a <<< ((5 : Int32).toInt64 &&& 63)) ||| (nI c).toInt64 = lN (a * 32 + c) := by
  rw [nI_l (by omega)]
  refine Int64.toBitVec_inj.mp ?_
  rw [Int64.toBitVec_or, Int64.toBitVec_shiftLeft]
  have e5 : (((5 : Int32).toInt64 &&& 63).toBitVec.smod 64) = 5#64 := by decide +kernel
  rw [e5]
  refine BitVec.eq_of_toNat_eq ?_
  rw [BitVec.toNat_or]
  have e1 : (lN a).toBitVec.toNat = a := Nat.mod_eq_of_lt (by omega)
  have e2 : (lN c).toBitVec.toNat = c := Nat.mod_eq_of_lt (by omega)
  have e3 : (lN (a * 32 + c)).toBitVec.toNat = a * 32 + c := Nat.mod_eq_of_lt (by omega)
  rw [e2, e3]
  have e4 : ((lN a).toBitVec <<< 5#64).toNat = a * 32 := by
    show ((lN a).toBitVec <<< 5).toNat = _
    rw [BitVec.toNat_shiftLeft, e1, Nat.shiftLeft_eq, Nat.mod_eq_of_lt (by omega)]
  rw [e4, show a * 32 = a <<< 5 by rw [Nat.shiftLeft_eq], Nat.shiftLeft_add_eq_or_of_lt (b := c) (i := 5) (by omega) a]
theorem yt_find_is {tb : Nat → Nat} {p q : Nat} : ∀ (l : List (List Nat)) (k : Nat), yt_find tb p q l k < k + l.length → yt_is tb p q (l.getD (yt_find tb p q l k - k) []) = true
  | [], k, h => by
    simp only [List.length_nil] at h
    have := (yt_find_le tb p q [] k).1
    omega
  | w :: r, k, h => by
    have e : yt_find tb p q (w :: r) k = if yt_is tb p q w = true then k else yt_find tb p q r (k + 1) := rfl
    rw [e] at h ⊢
    by_cases hw : yt_is tb p q w = true
    · rw [if_pos hw, Nat.sub_self]
      exact hw
    · rw [if_neg hw] at h ⊢
      have hle := (yt_find_le tb p q r (k + 1)).1
      have ih := yt_find_is (tb := tb) (p := p) (q := q) r (k + 1) (by simp only [List.length_cons] at h; omega)
      rw [show yt_find tb p q r (k + 1) - k = (yt_find tb p q r (k + 1) - (k + 1)) + 1 by omega]
      exact ih
theorem yt_find_no {tb : Nat → Nat} {p q : Nat} : ∀ (l : List (List Nat)) (k : Nat), (∃ w ∈ l, yt_is tb p q w = true) → yt_find tb p q l k < k + l.length
  | [], k, h => by
    obtain ⟨w, hw, -⟩ := h
    cases hw
  | w :: r, k, h => by
    have e : yt_find tb p q (w :: r) k = if yt_is tb p q w = true then k else yt_find tb p q r (k + 1) := rfl
    rw [e]
    simp only [List.length_cons]
    by_cases hw : yt_is tb p q w = true
    · rw [if_pos hw]
      omega
    · rw [if_neg hw]
      have ih := yt_find_no (tb := tb) (p := p) (q := q) r (k + 1) (by
        obtain ⟨v, hv, hv2⟩ := h
        rcases List.mem_cons.mp hv with e2 | e2
        · rw [e2] at hv2; exact absurd hv2 hw
        · exact ⟨v, e2, hv2⟩)
      omega
theorem yt_is_of {tb : Nat → Nat} {p q : Nat} {w : List Nat} (h : yt_is tb p q w = true) : q - p = w.length ∧ ∀ i, i < q - p → tb (p + i) = w.getD i 0 := by
  have h1 : (List.range (q - p)).map (fun i => tb (p + i)) = w := of_decide_eq_true h
  refine ⟨by rw [← h1]; simp, fun i hi => ?_⟩
  rw [← h1, List.getD_eq_getElem?_getD, List.getElem?_map, List.getElem?_range hi]
  rfl
theorem yt_is_mk {tb : Nat → Nat} {p q : Nat} {w : List Nat} (h1 : q - p = w.length) (h2 : ∀ i, i < q - p → tb (p + i) = w.getD i 0) : yt_is tb p q w = true := by
  refine decide_eq_true (List.ext_getElem (by simp [h1]) (fun i a b => ?_))
  rw [List.getElem_map, List.getElem_range, h2 i (by rw [h1]; exact b), List.getD_eq_getElem?_getD, List.getElem?_eq_getElem b]
  rfl
/-- the bits of a word tell which one it is -/
theorem yt_word_kw {tb : Nat → Nat} {p q : Nat} (hl : ∀ i, i < q - p → 97 ≤ tb (p + i) ∧ tb (p + i) ≤ 122) {j : Int64} (hj : q - p ≤ 9 → j = lN (yt_pk (fun i => tb (p + i)) (q - p))) : (yt_word tb p q < 28 → q - p ≤ 8 ∧ j = q_kw (yt_rw (yt_word tb p q))) ∧ (yt_word tb p q = 28 → 8 < q - p ∨ ∀ k, k < 28 → q_kw k ≠ j) := by
  constructor
  · intro h
    have h1 := yt_find_is (tb := tb) (p := p) (q := q) yt_ws 0 h
    rw [Nat.sub_zero] at h1
    obtain ⟨l1, l2⟩ := yt_is_of h1
    obtain ⟨k1, k2, k3⟩ := yt_kw (yt_word tb p q) h
    have l1' : q - p = (yt_ws.getD (yt_word tb p q) []).length := l1
    refine ⟨by omega, ?_⟩
    rw [hj (by omega), k1, ← l1']
    exact congrArg lN (yt_pk_cong _ l2)
  · intro h
    by_cases h8 : 8 < q - p
    · exact Or.inl h8
    · refine Or.inr (fun k hk hkj => ?_)
      obtain ⟨w, hw, rfl⟩ := yt_rw_on k hk
      obtain ⟨k1, k2, k3⟩ := yt_kw w hw
      rw [k1, hj (by omega)] at hkj
      have b1 := yt_pk_lt (f := fun i => tb (p + i)) (q - p) (fun i hi => (hl i hi).2)
      have b2 := yt_pk_lt (f := fun i => (yt_ws.getD w []).getD i 0) (yt_ws.getD w []).length (fun i hi => (yt_wsl w hw i hi).2)
      have b3 : 32 ^ (q - p) ≤ 32 ^ 8 := Nat.pow_le_pow_right (by decide) (by omega)
      have b4 : 32 ^ (yt_ws.getD w []).length ≤ 32 ^ 8 := Nat.pow_le_pow_right (by decide) (by omega)
      have e := lN_inj (by omega) (by omega) hkj
      obtain ⟨e1, e2⟩ := yt_pk_inj _ _ (yt_wsl w hw) hl e
      have hm : yt_ws.getD w [] ∈ yt_ws := by
        have hl28 : yt_ws.length = 28 := rfl
        rw [List.getD_eq_getElem?_getD, List.getElem?_eq_getElem (by omega)]
        exact List.getElem_mem _
      have := yt_find_no (tb := tb) (p := p) (q := q) yt_ws 0 ⟨_, hm, yt_is_mk e1.symm (fun i hi => (e2 i (by omega)).symm)⟩
      have hlt : yt_word tb p q < 28 := this
      omega
/-- the reference stands before a text of n bytes -/
def r_tx (tb : Nat → Nat) (n : Nat) (I : a_F) : Prop := I 59 23 = nI n ∧ n ≤ 500 ∧ ∀ i, i < n → tb i < 256 ∧ I 72 i = nI (tb i)
/-- what goes() changes -/
def r_nsc (c i : Nat) : Bool := Nat.beq c 59 && (Nat.ble 24 i && Nat.ble i 29)
theorem r_tx.F {tb : Nat → Nat} {n : Nat} {I I' : a_F} (h : r_tx tb n I) (hf : q_F r_nsc I I') : r_tx tb n I' := by
  obtain ⟨h2, h3, h4⟩ := h
  refine ⟨(hf 59 23 rfl).trans h2, h3, fun i hi => ?_⟩
  rw [hf 72 i rfl]
  exact h4 i hi
/-- but the word's bits all longs stay -/
def r_nj (J J' : Nat → Nat → Int64) : Prop := ∀ c i, ¬ (c = 59 ∧ i = 30) → J' c i = J c i
theorem r_nj.rf (J : Nat → Nat → Int64) : r_nj J J := fun _ _ _ => rfl
theorem r_nj.tr {J J1 J2 : Nat → Nat → Int64} (h1 : r_nj J J1) (h2 : r_nj J1 J2) : r_nj J J2 := fun c i h => (h2 c i h).trans (h1 c i h)
theorem r_nj.up {J J1 : Nat → Nat → Int64} (h : r_nj J J1) (x : Int64) : r_nj J (am_u J1 59 30 x) := fun c i hc => (am_u_ne (by by_cases h1 : c = 59; exact Or.inr (fun q => hc ⟨h1, q⟩); exact Or.inl h1)).trans (h c i hc)
def yt_sort (t : yt_T) : Nat := ([0, 4, 2, 1, 3, 2] : List Nat).getD t.1 0
def r_tk (t : yt_T) (I : a_F) (J : Nat → Nat → Int64) : Prop := I 59 25 = nI (yt_sort t) ∧ (t.1 = 2 → ¬ 5 < I 59 27 ∧ I 59 28 = nI t.2) ∧ (t.1 = 5 → 5 < I 59 27) ∧ (t.1 = 4 → I 59 29 = nI t.2) ∧ (t.1 = 3 → (t.2 < 28 → ¬ 8 < I 59 27 ∧ J 59 30 = q_kw (yt_rw t.2)) ∧ (t.2 = 28 → 8 < I 59 27 ∨ ∀ k, k < 28 → q_kw k ≠ J 59 30))
/-- the reference stands before these tokens -/
def r_ts (tb : Nat → Nat) (n : Nat) (ts : yt_L) (I : a_F) (J : Nat → Nat → Int64) : Prop := (r_tk (yt_hd ts) I J ∧ I 59 26 = nI (yt_pl n ts)) ∧ ∃ q, q ≤ n ∧ I 59 24 = nI q ∧ ts.tail = yt_ts tb n q
theorem yt_c1 : ∀ b, b < 256 → (!decide (nI b < 97) && !decide (122 < nI b)) = yt_let b ∧ (!decide (nI b < 48) && !decide (57 < nI b)) = yt_dig b := by decide +kernel
theorem yt_bf {a b : Nat} (h : ¬ a = b) : Nat.beq a b = false := by
  cases hh : Nat.beq a b with
  | false => rfl
  | true => exact absurd (Nat.eq_of_beq_eq_true hh) h
section Rtok
variable {β : Bool} {xs : Nat → Int32} {L : Nat} {G : am_G} {I : a_F} {J : Nat → Nat → Int64} {d : Nat} {Q : am_O → am_H → Prop} {tb : Nat → Nat} {n : Nat}
theorem p_isL (hR : q_RT G) (x : Int32) : q_W β xs L d 117 0 [.int x] [] (G, I, J) (fun o h => o = .inl (some (.int (a_is (!decide (x < 97) && !decide (122 < x))))) ∧ h = (G, I, J)) := by
  refine g_117_0 hR _ ⟨fun z => g_117_16 hR _ (g_117_17 hR _ _ ⟨Or.inl rfl, by simp [z, a_is], rfl⟩), fun z => ⟨fun y => g_117_16 hR _ (g_117_17 hR _ _ ⟨Or.inl rfl, by simp [y, a_is], rfl⟩), fun y => g_117_17 hR _ _ ⟨Or.inr rfl, by simp [z, y, a_is], rfl⟩⟩⟩
theorem p_isD (hR : q_RT G) (x : Int32) : q_W β xs L d 118 0 [.int x] [] (G, I, J) (fun o h => o = .inl (some (.int (a_is (!decide (x < 48) && !decide (57 < x))))) ∧ h = (G, I, J)) := by
  refine g_118_0 hR _ ⟨fun z => g_118_16 hR _ (g_118_17 hR _ _ ⟨Or.inl rfl, by simp [z, a_is], rfl⟩), fun z => ⟨fun y => g_118_16 hR _ (g_118_17 hR _ _ ⟨Or.inl rfl, by simp [y, a_is], rfl⟩), fun y => g_118_17 hR _ _ ⟨Or.inr rfl, by simp [z, y, a_is], rfl⟩⟩⟩
/-- a byte, 0 behind the end -/
def yt_by (tb : Nat → Nat) (n i : Nat) : Nat := if i < n then tb i else 0
theorem p_byte (hR : q_RT G) (hX : r_tx tb n I) {i : Nat} (hi : i < 2 ^ 31) : q_W β xs L d 116 0 [.ref 59, .int (nI i)] [] (G, I, J) (fun o h => o = .inl (some (.int (nI (yt_by tb n i)))) ∧ h = (G, I, J)) := by
  obtain ⟨h1, h2, h3⟩ := hX
  refine g_116_0 hR _ ?_
  rw [h1, nI_ltI hi (by omega), show (nI i).toNatClampNeg = i from nI_clamp hi]
  refine ⟨fun z => g_116_18 hR _ _ ⟨?_, rfl⟩, fun z => ⟨am_is_nI (by omega) (by omega), g_116_18 hR _ _ ⟨?_, rfl⟩⟩⟩
  · unfold yt_by
    rw [if_neg z]; rfl
  · unfold yt_by
    rw [if_pos z, (h3 i z).2]
theorem yt_by_lt {tb : Nat → Nat} {n : Nat} {I : a_F} (hX : r_tx tb n I) (i : Nat) : yt_by tb n i < 256 := by
  unfold yt_by
  split
  · rename_i z; exact (hX.2.2 i z).1
  · decide
/-- letters -/
theorem p_letL (hR : q_RT G) {p q1 : Nat} {I0 : a_F} {i1 : Int32} (hX : r_tx tb n I0) (hQ : ∀ (I : a_F) (J' : Nat → Nat → Int64), q_F r_nsc I0 I → r_nj J J' → I 59 24 = nI q1 → I 59 26 = nI p → (q1 - p ≤ 9 → J' 59 30 = lN (yt_pk (fun i => tb (p + i)) (q1 - p))) → q_W β xs L (d + 1) 119 331 [.ref 59, .int i1] [] (G, am_u I 59 25 1, J') Q) : ∀ m q (I : a_F) (J' : Nat → Nat → Int64), q + m = n → p ≤ q → q_F r_nsc I0 I → r_nj J J' → I 59 24 = nI q → I 59 26 = nI p → (q - p ≤ 9 → J' 59 30 = lN (yt_pk (fun i => tb (p + i)) (q - p))) → (∀ i, i < q - p → tb (p + i) ≤ 122) → yt_past (fun j => yt_let (tb j)) m q = q1 → q_W β xs L (d + 1) 119 108 [.ref 59, .int i1] [] (G, I, J') Q
  | m, q, I, J', hq, hpq, hf, hj, h4, h6, hw, hle, he => by
    have n5 := hX.2.1
    have hX1 := hX.F hf
    refine g_119_108 hR _ ?_
    rw [h4]
    refine q_useI (p_byte (β := β) (xs := xs) (L := L) (d := d) hR hX1 (i := q) (by omega)) (Nat.le_refl _) ?_
    refine q_useI (p_isL (β := β) (xs := xs) (L := L) (d := d) hR (nI (yt_by tb n q))) (Nat.le_refl _) ?_
    rw [(yt_c1 _ (yt_by_lt hX1 q)).1, h4, h6, pk_sub hpq]
    have lt9 : nI (q - p) < 9 ↔ q - p < 9 := nI_ltI (b := 9) (by omega) (by omega)
    rw [lt9]
    refine ⟨fun z => ?_, fun z => ?_⟩
    · have z1 := a_is_0.mp z
      have e : q = q1 := by
        cases m with
        | zero => exact he
        | succ m =>
          have he2 : (if yt_let (tb q) = true then yt_past (fun j => yt_let (tb j)) m (q + 1) else q) = q1 := he
          have eb : yt_by tb n q = tb q := if_pos (by omega)
          rw [eb] at z1
          rw [if_neg (by rw [z1]; decide)] at he2
          exact he2
      subst e
      exact hQ I J' hf hj h4 h6 hw
    · have z1 := a_is_n0.mp z
      cases m with
      | zero =>
        have eb : yt_by tb n q = 0 := if_neg (by omega)
        rw [eb] at z1
        cases z1
      | succ m =>
        have eb : yt_by tb n q = tb q := if_pos (by omega)
        rw [eb] at z1
        obtain ⟨l1, l2⟩ := yt_let_of z1
        have he2 : (if yt_let (tb q) = true then yt_past (fun j => yt_let (tb j)) m (q + 1) else q) = q1 := he
        rw [if_pos z1] at he2
        have hle2 : ∀ i, i < q + 1 - p → tb (p + i) ≤ 122 := fun i hi => by
          by_cases e : i = q - p
          · rw [e, show p + (q - p) = q by omega]; exact l2
          · exact hle i (by omega)
        refine ⟨fun y => g_119_159 hR _ ?_, fun y => ?_⟩
        · rw [h4, nI_1]
          exact p_letL hR hX hQ m (q + 1) _ J' (by omega) (by omega) (hf.up _ rfl) hj am_u_same ((am_u_ne (Or.inr (by decide))).trans h6) (fun h9 => absurd y (by omega)) hle2 he2
        · refine q_useI (p_byte (β := β) (xs := xs) (L := L) (d := d) hR hX1 (i := q) (by omega)) (Nat.le_refl _) (g_119_159 hR _ ?_)
          have b1 := yt_pk_lt (f := fun i => tb (p + i)) (q - p) hle
          have b2 : 32 ^ (q - p) ≤ 32 ^ 9 := Nat.pow_le_pow_right (by decide) (by omega)
          rw [eb, hw (by omega), show (96 : Int32) = nI 96 from rfl, pk_sub (show 96 ≤ tb q by omega), yt_shl (by omega) (by omega), h4, nI_1]
          refine p_letL hR hX hQ m (q + 1) _ _ (by omega) (by omega) (hf.up _ rfl) (hj.up _) am_u_same ((am_u_ne (Or.inr (by decide))).trans h6) (fun _ => ?_) hle2 he2
          rw [am_u_same, show q + 1 - p = (q - p) + 1 by omega]
          show _ = lN (yt_pk (fun i => tb (p + i)) (q - p) * 32 + (tb (p + (q - p)) - 96))
          rw [show p + (q - p) = q by omega]
/-- digits -/
theorem p_digL (hR : q_RT G) {p q1 : Nat} {I0 : a_F} {i1 : Int32} (hX : r_tx tb n I0) (hQ : ∀ (I : a_F), q_F r_nsc I0 I → I 59 24 = nI q1 → I 59 26 = nI p → I 59 28 = nI (yt_val tb p (min 5 (q1 - p))) → q_W β xs L (d + 1) 119 331 [.ref 59, .int i1] [] (G, am_u I 59 25 2, J) Q) : ∀ m q (I : a_F), q + m = n → p ≤ q → q_F r_nsc I0 I → I 59 24 = nI q → I 59 26 = nI p → I 59 28 = nI (yt_val tb p (min 5 (q - p))) → yt_past (fun j => yt_dig (tb j)) m q = q1 → q_W β xs L (d + 1) 119 187 [.ref 59, .int i1] [] (G, I, J) Q
  | m, q, I, hq, hpq, hf, h4, h6, hv, he => by
    have n5 := hX.2.1
    have hX1 := hX.F hf
    refine g_119_187 hR _ ?_
    rw [h4]
    refine q_useI (p_byte (β := β) (xs := xs) (L := L) (d := d) hR hX1 (i := q) (by omega)) (Nat.le_refl _) ?_
    refine q_useI (p_isD (β := β) (xs := xs) (L := L) (d := d) hR (nI (yt_by tb n q))) (Nat.le_refl _) ?_
    rw [(yt_c1 _ (yt_by_lt hX1 q)).2, h4, h6, pk_sub hpq]
    have lt5 : nI (q - p) < 5 ↔ q - p < 5 := nI_ltI (b := 5) (by omega) (by omega)
    rw [lt5]
    refine ⟨fun z => ?_, fun z => ?_⟩
    · have z1 := a_is_0.mp z
      have e : q = q1 := by
        cases m with
        | zero => exact he
        | succ m =>
          have he2 : (if yt_dig (tb q) = true then yt_past (fun j => yt_dig (tb j)) m (q + 1) else q) = q1 := he
          have eb : yt_by tb n q = tb q := if_pos (by omega)
          rw [eb] at z1
          rw [if_neg (by rw [z1]; decide)] at he2
          exact he2
      subst e
      exact hQ I hf h4 h6 hv
    · have z1 := a_is_n0.mp z
      cases m with
      | zero =>
        have eb : yt_by tb n q = 0 := if_neg (by omega)
        rw [eb] at z1
        cases z1
      | succ m =>
        have eb : yt_by tb n q = tb q := if_pos (by omega)
        rw [eb] at z1
        obtain ⟨l1, l2⟩ := yt_dig_of z1
        have he2 : (if yt_dig (tb q) = true then yt_past (fun j => yt_dig (tb j)) m (q + 1) else q) = q1 := he
        rw [if_pos z1] at he2
        refine ⟨fun y => g_119_237 hR _ ?_, fun y => ?_⟩
        · rw [h4, nI_1]
          refine p_digL hR hX hQ m (q + 1) _ (by omega) (by omega) (hf.up _ rfl) am_u_same ((am_u_ne (Or.inr (by decide))).trans h6) ?_ he2
          rw [am_u_ne (Or.inr (by decide)), hv, show min 5 (q + 1 - p) = min 5 (q - p) by omega]
        · refine q_useI (p_byte (β := β) (xs := xs) (L := L) (d := d) hR hX1 (i := q) (by omega)) (Nat.le_refl _) (g_119_237 hR _ ?_)
          have ev : (10 * nI (yt_val tb p (min 5 (q - p))) + nI (tb q) - 48 : Int32) = nI (yt_val tb p (min 5 (q + 1 - p))) := by
            rw [show (10 : Int32) = nI 10 from rfl, show (48 : Int32) = nI 48 from rfl, pk_mul, nI_add, pk_sub (by omega), show min 5 (q - p) = q - p by omega, show min 5 (q + 1 - p) = (q - p) + 1 by omega]
            refine congrArg nI ?_
            show _ = yt_val tb p (q - p) * 10 + (tb (p + (q - p)) - 48)
            rw [show p + (q - p) = q by omega]
            omega
          rw [eb, hv, ev, am_u_ne (Or.inr (by decide)), h4, nI_1]
          refine p_digL hR hX hQ m (q + 1) _ (by omega) (by omega) ((hf.up _ rfl).up _ rfl) am_u_same ?_ ?_ he2
          · rw [am_u_ne (Or.inr (by decide)), am_u_ne (Or.inr (by decide))]; exact h6
          · rw [am_u_ne (Or.inr (by decide)), am_u_same]
/-- behind the blanks -/
theorem p_go1 (hR : q_RT G) {p : Nat} {I0 I : a_F} (hX : r_tx tb n I0) (hf : q_F r_nsc I0 I) (hp : p ≤ n) (h4 : I 59 24 = nI p) (ts : yt_L) (hts : if p < n then ts = ((yt_tok tb n p).1, p) :: yt_ts tb n (yt_tok tb n p).2 else ts = []) (hQ : ∀ (I' : a_F) (J' : Nat → Nat → Int64), q_F r_nsc I0 I' → r_nj J J' → r_ts tb n ts I' J' → Q (.inl none) (G, I', J')) : q_W β xs L (d + 1) 119 50 [.ref 59, .retAddr 0] [] (G, I, J) Q := by
  have n5 := hX.2.1
  have e3 : I 59 23 = nI n := (hf 59 23 rfl).trans hX.1
  refine g_119_50 hR ?_
  rw [h4]
  have f0 : q_F r_nsc I0 (am_u (am_u I 59 26 (nI p)) 59 28 0) := (hf.up _ rfl).up _ rfl
  have j0 : r_nj J (am_u J 59 30 0) := (r_nj.rf J).up _
  refine q_useI (p_byte (β := β) (xs := xs) (L := L) (d := d) (J := am_u J 59 30 0) hR (hX.F f0) (i := p) (by omega)) (Nat.le_refl _) ?_
  have e24 : am_u (am_u I 59 26 (nI p)) 59 28 0 59 24 = nI p := by rw [am_u_ne (Or.inr (by decide)), am_u_ne (Or.inr (by decide))]; exact h4
  have e23 : am_u (am_u I 59 26 (nI p)) 59 28 0 59 23 = nI n := by rw [am_u_ne (Or.inr (by decide)), am_u_ne (Or.inr (by decide))]; exact e3
  rw [e24, e23, nI_ltI (by omega) (by omega)]
  generalize hI1 : am_u (am_u I 59 26 (nI p)) 59 28 0 = I1 at f0 e24 e23 ⊢
  have e26 : I1 59 26 = nI p := by rw [← hI1, am_u_ne (Or.inr (by decide)), am_u_same]
  have e28 : I1 59 28 = 0 := by rw [← hI1, am_u_same]
  have f29 : q_F r_nsc I0 (am_u I1 59 29 (nI (yt_by tb n p))) := f0.up _ rfl
  refine ⟨fun z => ?_, fun z => ?_⟩
  · rw [if_pos z] at hts
    subst hts
    have eb : yt_by tb n p = tb p := if_pos z
    have b1 := (hX.2.2 p z).1
    rw [eb] at f29 ⊢
    refine q_useI (p_isL (β := β) (xs := xs) (L := L) (d := d) hR (nI (tb p))) (Nat.le_refl _) ?_
    rw [(yt_c1 _ b1).1]
    refine ⟨fun y => ?_, fun y => ?_⟩
    · have y1 := a_is_0.mp y
      refine q_useI (p_isD (β := β) (xs := xs) (L := L) (d := d) hR (nI (tb p))) (Nat.le_refl _) ?_
      rw [(yt_c1 _ b1).2]
      refine ⟨fun x => ?_, fun x => ?_⟩
      · have x1 := a_is_0.mp x
        have e24' : am_u I1 59 29 (nI (tb p)) 59 24 = nI p := (am_u_ne (Or.inr (by decide))).trans e24
        rw [e24', nI_1]
        have fin : ∀ (sd : Nat) (t : yt_T), yt_tok tb n p = (t, p + 1) → yt_sort t = sd → t.1 ≠ 2 → t.1 ≠ 5 → t.1 ≠ 3 → (t.1 = 4 → t.2 = tb p) → q_W β xs L (d + 1) 119 328 [.ref 59, .int (nI (tb p))] [.int (nI sd), .ref 59] (G, am_u (am_u I1 59 29 (nI (tb p))) 59 24 (nI (p + 1)), am_u J 59 30 0) Q := fun sd t et es t2 t5 t3 t4 => by
          refine g_119_328 hR _ _ (g_119_331 hR _ ?_)
          rw [et] at hQ
          refine hQ _ _ (((f29.up _ rfl).up _ rfl).up _ rfl) j0 ⟨⟨⟨?_, fun q => absurd q t2, fun q => absurd q t5, fun q => ?_, fun q => absurd q t3⟩, ?_⟩, p + 1, by omega, ?_, rfl⟩
          · rw [am_u_ne (Or.inr (by decide)), am_u_same, ← es]; rfl
          · rw [am_u_ne (Or.inr (by decide)), am_u_ne (Or.inr (by decide)), am_u_ne (Or.inr (by decide)), am_u_same]
            exact congrArg nI (t4 q).symm
          · rw [am_u_ne (Or.inr (by decide)), am_u_ne (Or.inr (by decide)), am_u_ne (Or.inr (by decide)), am_u_ne (Or.inr (by decide)), e26]; rfl
          · rw [am_u_ne (Or.inr (by decide)), am_u_ne (Or.inr (by decide)), am_u_same]
        have sg : tb p ∈ yt_sgn → q_W β xs L (d + 1) 119 323 [.ref 59, .int (nI (tb p))] [.ref 59] (G, am_u (am_u I1 59 29 (nI (tb p))) 59 24 (nI (p + 1)), am_u J 59 30 0) Q := fun hm => by
          refine g_119_323 hR _ (fin 3 (4, tb p) ?_ rfl (by show ¬ (4 : Nat) = 2; decide) (by show ¬ (4 : Nat) = 5; decide) (by show ¬ (4 : Nat) = 3; decide) (fun _ => rfl))
          unfold yt_tok
          rw [if_neg (by rw [y1]; decide), if_neg (by rw [x1]; decide), if_pos hm]
        have ne : ∀ c : Nat, c < 128 → (nI (tb p) = nI c ↔ tb p = c) := fun c hc => nI_eq (by omega) (by omega)
        have m1 : tb p = 59 → tb p ∈ yt_sgn := fun q => by rw [q]; decide
        have m2 : tb p = 40 → tb p ∈ yt_sgn := fun q => by rw [q]; decide
        have m3 : tb p = 41 → tb p ∈ yt_sgn := fun q => by rw [q]; decide
        have m4 : tb p = 43 → tb p ∈ yt_sgn := fun q => by rw [q]; decide
        have m5 : tb p = 45 → tb p ∈ yt_sgn := fun q => by rw [q]; decide
        have m6 : tb p = 42 → tb p ∈ yt_sgn := fun q => by rw [q]; decide
        have m7 : tb p = 47 → tb p ∈ yt_sgn := fun q => by rw [q]; decide
        have m8 : tb p = 60 → tb p ∈ yt_sgn := fun q => by rw [q]; decide
        have m9 : tb p = 61 → tb p ∈ yt_sgn := fun q => by rw [q]; decide
        refine ⟨fun w => sg (m1 ((ne 59 (by decide)).mp w)), fun w1 => ⟨fun w => sg (m2 ((ne 40 (by decide)).mp w)), fun w2 => ⟨fun w => sg (m3 ((ne 41 (by decide)).mp w)), fun w3 => ⟨fun w => sg (m4 ((ne 43 (by decide)).mp w)), fun w4 => ⟨fun w => sg (m5 ((ne 45 (by decide)).mp w)), fun w5 => ⟨fun w => sg (m6 ((ne 42 (by decide)).mp w)), fun w6 => ⟨fun w => sg (m7 ((ne 47 (by decide)).mp w)), fun w7 => ⟨fun w => sg (m8 ((ne 60 (by decide)).mp w)), fun w8 => ⟨fun w9 => ?_, fun w => sg (m9 ((ne 61 (by decide)).mp w))⟩⟩⟩⟩⟩⟩⟩⟩⟩
        refine fin 4 (1, 0) ?_ rfl (by decide) (by decide) (by decide) (fun q => by cases q)
        have hn : ¬ tb p ∈ yt_sgn := fun hm => by
          have : tb p = 59 ∨ tb p = 40 ∨ tb p = 41 ∨ tb p = 43 ∨ tb p = 45 ∨ tb p = 42 ∨ tb p = 47 ∨ tb p = 60 ∨ tb p = 61 := by
            simpa [yt_sgn] using hm
          rcases this with q | q | q | q | q | q | q | q | q
          · exact w1 ((ne 59 (by decide)).mpr q)
          · exact w2 ((ne 40 (by decide)).mpr q)
          · exact w3 ((ne 41 (by decide)).mpr q)
          · exact w4 ((ne 43 (by decide)).mpr q)
          · exact w5 ((ne 45 (by decide)).mpr q)
          · exact w6 ((ne 42 (by decide)).mpr q)
          · exact w7 ((ne 47 (by decide)).mpr q)
          · exact w8 ((ne 60 (by decide)).mpr q)
          · exact w9 ((ne 61 (by decide)).mpr q)
        unfold yt_tok
        rw [if_neg (by rw [y1]; decide), if_neg (by rw [x1]; decide), if_neg hn]
      · have x1 := a_is_n0.mp x
        generalize hq1 : yt_past (fun j => yt_dig (tb j)) (n - p) p = q1
        have hle := yt_past_le (fun j => yt_dig (tb j)) (n - p) p
        rw [hq1] at hle
        refine p_digL (d := d) (p := p) (q1 := q1) hR (hX.F f29) (fun I2 k1 k2 k3 k4 => g_119_331 hR _ ?_) (n - p) p _ (by omega) (Nat.le_refl _) (q_F.rf _ _) ((am_u_ne (Or.inr (by decide))).trans e24) ((am_u_ne (Or.inr (by decide))).trans e26) ?_ hq1
        · have et : yt_tok tb n p = (if 5 < q1 - p then (5, 0) else (2, yt_val tb p (q1 - p)), q1) := by
            unfold yt_tok
            rw [if_neg (by rw [y1]; decide), if_pos x1, hq1]
          have e24 : am_u I2 59 25 2 59 24 = nI q1 := (am_u_ne (Or.inr (by decide))).trans k2
          have e26 : am_u I2 59 25 2 59 26 = nI p := (am_u_ne (Or.inr (by decide))).trans k3
          rw [e24, e26, pk_sub hle.1]
          rw [et] at hQ
          refine hQ _ _ (((f29.tr k1).up _ rfl).up _ rfl) j0 ⟨⟨?_, (am_u_ne (Or.inr (by decide))).trans e26⟩, q1, by omega, (am_u_ne (Or.inr (by decide))).trans e24, rfl⟩
          by_cases h5 : 5 < q1 - p
          · rw [if_pos h5]
            refine ⟨?_, fun q => (by cases q), fun _ => ?_, fun q => (by cases q), fun q => (by cases q)⟩
            · rw [am_u_ne (Or.inr (by decide)), am_u_same]; rfl
            · rw [am_u_same]
              exact (nI_ltI (a := 5) (by omega) (by omega)).mpr h5
          · rw [if_neg h5]
            refine ⟨?_, fun _ => ⟨?_, ?_⟩, fun q => (by cases q), fun q => (by cases q), fun q => (by cases q)⟩
            · rw [am_u_ne (Or.inr (by decide)), am_u_same]; rfl
            · rw [am_u_same]
              exact fun q => h5 ((nI_ltI (a := 5) (by omega) (by omega)).mp q)
            · rw [am_u_ne (Or.inr (by decide)), am_u_ne (Or.inr (by decide)), k4, show min 5 (q1 - p) = q1 - p by omega]; rfl
        · rw [am_u_ne (Or.inr (by decide)), e28, Nat.sub_self]; rfl
    · have y1 := a_is_n0.mp y
      generalize hq1 : yt_past (fun j => yt_let (tb j)) (n - p) p = q1
      have hle := yt_past_le (fun j => yt_let (tb j)) (n - p) p
      rw [hq1] at hle
      refine p_letL (d := d) (p := p) (q1 := q1) hR (hX.F f29) (fun I2 J2 k1 k2 k3 k4 k5 => g_119_331 hR _ ?_) (n - p) p _ _ (by omega) (Nat.le_refl _) (q_F.rf _ _) (r_nj.rf _) ((am_u_ne (Or.inr (by decide))).trans e24) ((am_u_ne (Or.inr (by decide))).trans e26) (fun _ => ?_) (fun i hi => absurd hi (by omega)) hq1
      · have et : yt_tok tb n p = ((3, yt_word tb p q1), q1) := by
          unfold yt_tok
          rw [if_pos y1, hq1]
        have e24 : am_u I2 59 25 1 59 24 = nI q1 := (am_u_ne (Or.inr (by decide))).trans k3
        have e26 : am_u I2 59 25 1 59 26 = nI p := (am_u_ne (Or.inr (by decide))).trans k4
        rw [e24, e26, pk_sub hle.1]
        rw [et] at hQ
        have lets : ∀ i, i < q1 - p → 97 ≤ tb (p + i) ∧ tb (p + i) ≤ 122 := fun i hi => yt_let_of (yt_past_in (fun j => yt_let (tb j)) (n - p) p (p + i) (by omega) (by omega))
        obtain ⟨w1, w2⟩ := yt_word_kw lets k5
        refine hQ _ _ (((f29.tr k1).up _ rfl).up _ rfl) (j0.tr k2) ⟨⟨⟨?_, fun q => (by cases q), fun q => (by cases q), fun q => (by cases q), fun _ => ⟨fun q => ?_, fun q => ?_⟩⟩, (am_u_ne (Or.inr (by decide))).trans e26⟩, q1, by omega, (am_u_ne (Or.inr (by decide))).trans e24, rfl⟩
        · rw [am_u_ne (Or.inr (by decide)), am_u_same]; rfl
        · obtain ⟨w3, w4⟩ := w1 q
          rw [am_u_same]
          exact ⟨fun u => absurd ((nI_ltI (a := 8) (by omega) (by omega)).mp u) (by omega), w4⟩
        · rw [am_u_same]
          rcases w2 q with u | u
          · exact Or.inl ((nI_ltI (a := 8) (by omega) (by omega)).mpr u)
          · exact Or.inr u
      · rw [am_u_same, Nat.sub_self]; rfl
  · rw [if_neg z] at hts
    subst hts
    have e : p = n := by omega
    subst e
    have eb : yt_by tb p p = 0 := if_neg z
    rw [eb] at f29 ⊢
    refine g_119_331 hR _ (hQ _ _ ((f29.up _ rfl).up _ rfl) j0 ⟨⟨⟨?_, fun q => (by cases q), fun q => (by cases q), fun q => (by cases q), fun q => (by cases q)⟩, ?_⟩, p, Nat.le_refl _, ?_, yt_ts0.symm⟩)
    · rw [am_u_ne (Or.inr (by decide)), am_u_same]; rfl
    · rw [am_u_ne (Or.inr (by decide)), am_u_ne (Or.inr (by decide)), am_u_ne (Or.inr (by decide)), e26]; rfl
    · rw [am_u_ne (Or.inr (by decide)), am_u_ne (Or.inr (by decide)), am_u_ne (Or.inr (by decide)), e24]
/-- past the blanks -/
theorem p_go0 (hR : q_RT G) {q1 : Nat} {I0 : a_F} (hX : r_tx tb n I0) (hQ : ∀ I : a_F, q_F r_nsc I0 I → I 59 24 = nI q1 → q_W β xs L (d + 1) 119 50 [.ref 59, .retAddr 0] [] (G, I, J) Q) : ∀ m q (I : a_F), q + m = n → q_F r_nsc I0 I → I 59 24 = nI q → yt_past (fun j => yt_blk (tb j)) m q = q1 → q_W β xs L (d + 1) 119 0 [.ref 59, .retAddr 0] [] (G, I, J) Q
  | 0, q, I, hq, hf, h4, he => by
    have e3 : I 59 23 = nI n := (hf 59 23 rfl).trans hX.1
    have n5 := hX.2.1
    refine g_119_0 hR ⟨fun _ => hQ I hf (h4.trans (congrArg nI he)), fun z => ?_⟩
    rw [h4, e3, nI_ltI (by omega) (by omega)] at z
    omega
  | m + 1, q, I, hq, hf, h4, he => by
    have e3 : I 59 23 = nI n := (hf 59 23 rfl).trans hX.1
    have n5 := hX.2.1
    have hX1 := hX.F hf
    have eb : yt_by tb n q = tb q := if_pos (by omega)
    have b1 := (hX.2.2 q (by omega)).1
    have he2 : (if yt_blk (tb q) = true then yt_past (fun j => yt_blk (tb j)) m (q + 1) else q) = q1 := he
    have at37 : yt_blk (tb q) = true → q_W β xs L (d + 1) 119 37 [.ref 59, .retAddr 0] [] (G, I, J) Q := fun hb => by
      rw [if_pos hb] at he2
      refine g_119_37 hR ?_
      rw [h4, nI_1]
      exact p_go0 hR hX hQ m (q + 1) _ (by omega) (hf.up _ rfl) am_u_same he2
    have n32 : nI (tb q) = 32 ↔ tb q = 32 := nI_eq (b := 32) (by omega) (by omega)
    have n10 : nI (tb q) = 10 ↔ tb q = 10 := nI_eq (b := 10) (by omega) (by omega)
    refine g_119_0 hR ?_
    rw [h4, e3, nI_ltI (by omega) (by omega)]
    refine ⟨fun z => absurd (show q < n by omega) z, fun _ => ?_⟩
    refine q_useI (p_byte (β := β) (xs := xs) (L := L) (d := d) hR hX1 (i := q) (by omega)) (Nat.le_refl _) ?_
    rw [eb, n32, h4]
    refine ⟨fun z => at37 ?_, fun z => ?_⟩
    · unfold yt_blk
      rw [z]; rfl
    · refine q_useI (p_byte (β := β) (xs := xs) (L := L) (d := d) hR hX1 (i := q) (by omega)) (Nat.le_refl _) ?_
      rw [eb, n10]
      refine ⟨fun y => ?_, fun y => at37 ?_⟩
      · have hb : yt_blk (tb q) = false := by
          unfold yt_blk
          rw [Bool.or_eq_false_iff]
          exact ⟨yt_bf z, yt_bf y⟩
        rw [if_neg (by rw [hb]; decide)] at he2
        exact hQ I hf (h4.trans (congrArg nI he2))
      · unfold yt_blk
        rw [y]; rfl
/-- goes() -/
theorem p_goes (hR : q_RT G) {q : Nat} (hX : r_tx tb n I) (hq : q ≤ n) (h4 : I 59 24 = nI q) : q_W β xs L (d + 1) 119 0 [.ref 59, .retAddr 0] [] (G, I, J) (fun o h => o = .inl none ∧ ∃ I' J', h = (G, I', J') ∧ q_F r_nsc I I' ∧ r_nj J J' ∧ r_ts tb n (yt_ts tb n q) I' J') := by
  have hs := yt_skip_le (tb := tb) hq
  refine p_go0 (d := d) hR hX (q1 := yt_skip tb n q) (fun I1 h1 h2 => ?_) (n - q) q I (by omega) (q_F.rf _ _) h4 rfl
  refine p_go1 (d := d) hR hX h1 hs.2 h2 (yt_ts tb n q) ?_ (fun I' J' k1 k2 k3 => ⟨rfl, I', J', rfl, k1, k2, k3⟩)
  split
  · rename_i z; exact yt_ts_c hq z
  · rename_i z; exact yt_ts_n z
/-- knownWord() -/
def yt_kno (t : yt_T) : Int32 := if t.1 = 3 ∧ t.2 < 28 then nI (yt_rw t.2) else -1
theorem p_knoL (hR : q_RT G) {j : Int64} (hk : ∀ i, i < 28 → J 73 i = q_kw i) (hj : J 59 30 = j) (h0 : (∀ k, k < 28 → q_kw k ≠ j) → Q (.inl (some (.int (-1)))) (G, I, J)) (h1 : ∀ k, k < 28 → q_kw k = j → (∀ i, i < k → q_kw i ≠ j) → Q (.inl (some (.int (nI k)))) (G, I, J)) : ∀ m k, k + m = 28 → (∀ i, i < k → q_kw i ≠ j) → q_W β xs L d 122 21 [.ref 59, .int (nI k)] [] (G, I, J) Q
  | 0, k, hkm, hn => by
    have e : k = 28 := by omega
    subst e
    exact g_122_21 hR _ ⟨fun _ => h0 hn, fun z => absurd z (by decide)⟩
  | m + 1, k, hkm, hn => by
    have ek : (nI k).toNatClampNeg = k := nI_clamp (by omega)
    refine g_122_21 hR _ ⟨fun z => absurd ((nI_ltI (b := 28) (by omega) (by omega)).mpr (by omega)) z, fun _ => ⟨am_is_nI (by omega) (by omega), ?_⟩⟩
    rw [ek, hk k (by omega), hj, nI_1]
    have cmp : (if q_kw k > j then (1 : Int32) else if q_kw k = j then 0 else -1) = 0 ↔ q_kw k = j := by
      constructor
      · intro h
        by_cases e : q_kw k = j
        · exact e
        · by_cases g : q_kw k > j
          · rw [if_pos g] at h; exact absurd h (by decide)
          · rw [if_neg g, if_neg e] at h; exact absurd h (by decide)
      · intro h
        rw [h, if_neg Int64.lt_irrefl, if_pos rfl]
    rw [cmp]
    refine ⟨fun z => p_knoL hR hk hj h0 h1 m (k + 1) (by omega) (fun i hi => ?_), fun z => h1 k (by omega) z hn⟩
    by_cases e : i = k
    · subst e; exact z
    · exact hn i (by omega)
theorem p_kno (hR : q_RT G) {t : yt_T} (hk : ∀ i, i < 28 → J 73 i = q_kw i) (ht : r_tk t I J) (h4 : t.1 ≤ 5) (h28 : t.1 = 3 → t.2 ≤ 28) : q_W β xs L d 122 0 [.ref 59, .retAddr 0] [] (G, I, J) (fun o h => o = .inl (some (.int (yt_kno t))) ∧ h = (G, I, J)) := by
  obtain ⟨t1, t2, t3, t4, t5⟩ := ht
  have no : ∀ h : yt_kno t = -1, q_W β xs L d 122 17 [.ref 59, .retAddr 0] [] (G, I, J) (fun o h => o = .inl (some (.int (yt_kno t))) ∧ h = (G, I, J)) := fun h => g_122_17 hR ⟨by rw [h], rfl⟩
  have e1 : I 59 25 = 1 ↔ t.1 = 3 := by
    rw [t1]
    have : ∀ k, k ≤ 5 → (nI (([0, 4, 2, 1, 3, 2] : List Nat).getD k 0) = 1 ↔ k = 3) := by decide +kernel
    exact this t.1 h4
  refine g_122_0 hR ⟨fun z => no (if_neg (fun q => z (e1.mpr q.1))), fun z => ?_⟩
  have h3 := e1.mp z
  obtain ⟨w1, w2⟩ := t5 h3
  have hle := h28 h3
  have unk : ∀ h : ¬ t.2 < 28, yt_kno t = -1 := fun h => if_neg (fun q => h q.2)
  refine ⟨fun y => ?_, fun y => no (unk (fun q => (w1 q).1 y))⟩
  by_cases h : t.2 < 28
  · obtain ⟨w3, w4⟩ := w1 h
    have ev : yt_kno t = nI (yt_rw t.2) := if_pos ⟨h3, h⟩
    have lt := (yt_kw t.2 h).2.2
    refine p_knoL hR hk w4 (fun q => absurd rfl (q _ lt)) (fun k hk2 q1 q2 => ?_) 28 0 rfl (fun i hi => absurd hi (Nat.not_lt_zero i))
    have ek : k = yt_rw t.2 := by
      rcases Nat.lt_trichotomy k (yt_rw t.2) with g | g | g
      · exact absurd q1 (yt_kw_ne t.2 h k g)
      · exact g
      · exact absurd rfl (q2 _ g)
    rw [ev, ek]
    exact ⟨rfl, rfl⟩
  · have hn : ∀ k, k < 28 → q_kw k ≠ J 59 30 := by
      rcases w2 (by omega) with q | q
      · exact absurd q y
      · exact q
    refine p_knoL hR hk rfl (fun _ => ⟨by rw [unk h], rfl⟩) (fun k hk2 q1 _ => absurd q1 (hn k hk2)) 28 0 rfl (fun i hi => absurd hi (Nat.not_lt_zero i))
end Rtok

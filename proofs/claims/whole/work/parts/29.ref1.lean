/-! ===== the reference: bonds gained and lost ===== -/
section R1
variable {β : Bool} {xs : Nat → Int32} {L : Nat} {G : am_G} {I : Nat → Nat → Int32} {J : Nat → Nat → Int64}
/-- a callee that leaves everything as it was -/
theorem q_useI {d d' k pc : Nat} {ls st : List Value} {h : am_H} {v : Int32} {A : Int32 → am_G → (Nat → Nat → Int32) → (Nat → Nat → Int64) → Prop} {E : Nat → am_G → (Nat → Nat → Int32) → (Nat → Nat → Int64) → Prop} (hw : q_W β xs L d k pc ls st h (fun o h1 => o = .inl (some (.int v)) ∧ h1 = (G, I, J))) (hd : d ≤ d') (hA : A v G I J) : q_W β xs L d' k pc ls st h (q_Ri A E) :=
  q_mono hw hd (fun o h1 q => by obtain ⟨e1, e2⟩ := q; subst e1; subst e2; exact hA)
/-- a callee that changes ints alone -/
theorem q_useV {d d' k pc : Nat} {ls st : List Value} {h : am_H} {B : (Nat → Nat → Int32) → Prop} {A : am_G → (Nat → Nat → Int32) → (Nat → Nat → Int64) → Prop} {E : Nat → am_G → (Nat → Nat → Int32) → (Nat → Nat → Int64) → Prop} (hw : q_W β xs L d k pc ls st h (fun o h1 => o = .inl none ∧ ∃ I', h1 = (G, I', J) ∧ B I')) (hd : d ≤ d') (hA : ∀ I', B I' → A G I' J) : q_W β xs L d' k pc ls st h (q_Rv A E) :=
  q_mono hw hd (fun o h1 q => by obtain ⟨e1, I', e2, hB⟩ := q; subst e1; subst e2; exact hA I' hB)
theorem q_useVI {d d' k pc : Nat} {ls st : List Value} {h : am_H} {B : Int32 → (Nat → Nat → Int32) → Prop} {A : Int32 → am_G → (Nat → Nat → Int32) → (Nat → Nat → Int64) → Prop} {E : Nat → am_G → (Nat → Nat → Int32) → (Nat → Nat → Int64) → Prop} (hw : q_W β xs L d k pc ls st h (fun o h1 => ∃ v I', o = .inl (some (.int v)) ∧ h1 = (G, I', J) ∧ B v I')) (hd : d ≤ d') (hA : ∀ v I', B v I' → A v G I' J) : q_W β xs L d' k pc ls st h (q_Ri A E) :=
  q_mono hw hd (fun o h1 q => by obtain ⟨v, I', e1, e2, hB⟩ := q; subst e1; subst e2; exact hA v I' hB)
/-- the reference's cells hold the state s -/
def r_S (nq : Nat) (I s : a_F) : Prop :=
  (∀ p, p < 20 → I 91 p = s 0 p ∧ I 92 p = s 1 p ∧ (s 1 p ≠ -1 → I 93 p = s 2 p) ∧ I 94 p = s 3 p ∧ I 95 p = s 4 p ∧ (s 4 p ≠ -1 → I 96 p = s 5 p)) ∧ (∀ q, q < nq → I 97 q = s 6 q ∧ I 98 q = s 7 q) ∧
  (∀ j, j < 100 → I 99 j = s 8 j ∧ I 100 j = s 9 j ∧ I 101 j = s 10 j) ∧ I 59 66 = s 17 0 ∧ ∀ n, n < a_ix (s 17 0) → I 102 n = s 11 n ∧ I 103 n = s 12 n ∧ I 104 n = s 13 n ∧ I 105 n = s 14 n ∧ I 106 n = s 15 n ∧ I 107 n = s 16 n
/-- the cells that a run of the reference may change -/
def r_sc (c i : Nat) : Bool := (Nat.ble 90 c && Nat.ble c 114) || (Nat.beq c 59 && (Nat.beq i 66 || (Nat.beq i 73 || (Nat.ble 76 i && Nat.ble i 82))))
def r_fr (I I' : a_F) : Prop := ∀ c i, r_sc c i = false → I' c i = I c i
theorem r_fr.rf (I : a_F) : r_fr I I := fun _ _ _ => rfl
theorem r_fr.tr {I I1 I2 : a_F} (h1 : r_fr I I1) (h2 : r_fr I1 I2) : r_fr I I2 := fun c i h => (h2 c i h).trans (h1 c i h)
theorem r_fr.up {I I1 : a_F} (h : r_fr I I1) {c i : Nat} (x : Int32) (hc : r_sc c i = true) : r_fr I (am_u I1 c i x) := fun a b hab => by
  rw [am_u_ne]
  · exact h a b hab
  · by_cases h1 : a = c
    · by_cases h2 : b = i
      · subst h1; subst h2; rw [hc] at hab; cases hab
      · exact Or.inr h2
    · exact Or.inl h1
/-- the cells of what is asked now stay -/
def r_ct (I I' : a_F) : Prop := (∀ i, 76 ≤ i → i ≤ 82 → I' 59 i = I 59 i) ∧ (∀ l, I' 113 l = I 113 l) ∧ (∀ l, I' 114 l = I 114 l) ∧ (∀ i, I' 108 i = I 108 i) ∧ (∀ i, I' 109 i = I 109 i) ∧ I' 59 73 = I 59 73 ∧ ∀ l, I' 112 l = I 112 l
theorem r_bit {d : Nat} (hR : q_RT G) (x : Int32) : q_W β xs L d 155 0 [.int x] [] (G, I, J) (fun o h => o = .inl (some (.int (if x = 0 then 0 else 1))) ∧ h = (G, I, J)) := by
  exact g_155_0 hR _ ⟨fun c => g_155_9 hR _ _ ⟨by simp [c], rfl⟩, fun c => g_155_9 hR _ _ ⟨by simp [c], rfl⟩⟩
theorem r_bitB {d : Nat} (hR : q_RT G) (b : Bool) : q_W β xs L d 155 0 [.int (a_is b)] [] (G, I, J) (fun o h => o = .inl (some (.int (a_is b))) ∧ h = (G, I, J)) := by
  have h := r_bit (β := β) (xs := xs) (L := L) (G := G) (I := I) (J := J) (d := d) hR (a_is b)
  cases b <;> exact h
theorem a_is_0 {b : Bool} : a_is b = 0 ↔ b = false := by cases b <;> simp [a_is]
theorem r_has {d : Nat} (hR : q_RT G) {p : Int32} {l : Nat} (hl : l < 32) (hp : p = -1 ∨ ∃ n, n < 20 ∧ p = nI n) : q_W β xs L d 156 0 [.ref 59, .int p, .int (nI l)] [] (G, I, J) (fun o h => o = .inl (some (.int (a_is (!decide (p = -1) && bt (I 91 (a_ix p)) l)))) ∧ h = (G, I, J)) := by
  have hb := s_bit1 (I 91 p.toNatClampNeg) hl
  refine g_156_0 hR _ _ ⟨fun c => ?_, fun c => ⟨?_, fun c1 => ?_, fun c1 => ?_⟩⟩
  · subst c
    exact g_156_23 hR _ _ (g_156_24 hR _ _ _ ⟨Or.inl rfl, rfl, rfl⟩)
  · rcases hp with hp | ⟨n, hn, hp⟩
    · exact absurd hp c
    · rw [hp]; exact am_is_nI hn (by omega)
  · have e : bt (I 91 (a_ix p)) l = false := by
      cases hz : bt (I 91 (a_ix p)) l with
      | false => rfl
      | true => exact absurd (hb.mpr hz) c1
    rw [e]
    exact g_156_23 hR _ _ (g_156_24 hR _ _ _ ⟨Or.inl rfl, by simp [a_is], rfl⟩)
  · have e : bt (I 91 (a_ix p)) l = true := hb.mp c1
    rw [e]
    exact g_156_24 hR _ _ _ ⟨Or.inr rfl, by simp [a_is, c], rfl⟩
theorem r_nz (n : Nat) : nI (n + 1) = nI n + 1 := nI_succ n
theorem r_gains {d nq : Nat} (hR : q_RT G) {s : a_F} (hS : r_S nq I s) {n p l k : Nat} (hn : s 17 0 = nI n) (hb : n < 23000) (hp : p < 20) (hl : l < 5) (on ch : Int32) (hch : vp_nar .boolean ch = ch) :
    q_W β xs L d 164 0 [.ref 59, .int (nI p), .int (nI l), .int (nI k), .int on, .int ch] [] (G, I, J) (fun o h => o = .inl none ∧ ∃ I', h = (G, I', J) ∧ r_fr I I' ∧ r_ct I I' ∧ r_S nq I' (a_gain s (I 59 76) (I 59 81) p l k on ch)) := by
  obtain ⟨h1, h2, h3, h4, h5⟩ := hS
  have e1 : (nI p).toNatClampNeg = p := nI_clamp (by omega)
  have e2 : (5 * nI p + nI l : Int32) = nI (5 * p + l) := by rw [s_lit, pk_mul, nI_add]
  have e3 : (nI (5 * p + l)).toNatClampNeg = 5 * p + l := nI_clamp (by omega)
  have e4 : I 59 66 = nI n := h4.trans hn
  have e5 : (nI n).toNatClampNeg = n := nI_clamp (by omega)
  have e6 : a_ix (s 17 0) = n := by rw [hn]; exact e5
  have i1 : am_is (nI p) 20 = true := am_is_nI hp (by omega)
  have i2 : am_is (nI (5 * p + l)) 100 = true := am_is_nI (by omega) (by omega)
  have i3 : am_is (nI n) 23000 = true := am_is_nI hb (by omega)
  refine g_164_0 hR _ _ _ _ _ ?_
  rw [e2, e4, e1, e3, e5, hch]
  refine ⟨i1, i1, i2, i2, i2, i3, i3, i3, i3, i3, i3, rfl, _, rfl, ?_, ?_, ?_⟩
  · exact ((((((((((r_fr.rf I).up _ rfl).up _ rfl).up _ rfl).up _ rfl).up _ rfl).up _ rfl).up _ rfl).up _ rfl).up _ rfl).up _ rfl
  · refine ⟨fun i ha hb2 => ?_, fun _ => rfl, fun _ => rfl, fun _ => rfl, fun _ => rfl, rfl, fun _ => rfl⟩
    have : i ≠ 66 := by omega
    simp [am_u, this]
  · unfold a_gain
    rw [e6]
    refine ⟨fun q hq => ?_, fun q hq => ?_, fun j hj => ?_, ?_, fun m hm => ?_⟩
    · obtain ⟨b1, b2, b3, b4, b5, b6⟩ := h1 q hq
      obtain ⟨p1, -⟩ := h1 p hp
      refine ⟨?_, b2, b3, b4, b5, b6⟩
      by_cases hqp : q = p
      · subst hqp; simp [am_u, a_rec, a_bit, p1]
      · simp [am_u, a_rec, hqp, b1]
    · exact h2 q hq
    · obtain ⟨b1, b2, b3⟩ := h3 j hj
      obtain ⟨p1, p2, p3⟩ := h3 (5 * p + l) (by omega)
      by_cases hjp : j = 5 * p + l
      · subst hjp; simp [am_u, a_rec, p2, b3, hn]
      · simp [am_u, a_rec, hjp, b1, b2, b3]
    · simp [am_u, a_rec, nI_1]
    · have hm2 : m < n + 1 := by
        have : a_ix (a_rec (am_u (am_u (am_u s 0 p (s 0 p ||| a_bit l)) 9 (5 * p + l) (s 9 (5 * p + l) + 1)) 8 (5 * p + l) (s 17 0)) n p k (I 59 76) (I 59 81) on ch 17 0) = n + 1 := by
          show a_ix (am_u _ 17 0 (nI (n + 1)) 17 0) = n + 1
          rw [am_u_same]
          exact nI_clamp (by omega)
        omega
      by_cases hmn : m = n
      · subst hmn; simp [am_u, a_rec]
      · obtain ⟨b1, b2, b3, b4, b5, b6⟩ := h5 m (by omega)
        simp [am_u, a_rec, hmn, b1, b2, b3, b4, b5, b6]
theorem r_loses {d nq : Nat} (hR : q_RT G) {s : a_F} (hS : r_S nq I s) {p l : Nat} (hp : p < 20) (hl : l < 5) :
    q_W β xs L d 165 0 [.ref 59, .int (nI p), .int (nI l)] [] (G, I, J) (fun o h => o = .inl none ∧ ∃ I', h = (G, I', J) ∧ r_fr I I' ∧ r_ct I I' ∧ r_S nq I' (a_lose s p l)) := by
  obtain ⟨h1, h2, h3, h4, h5⟩ := hS
  have e1 : (nI p).toNatClampNeg = p := nI_clamp (by omega)
  have e2 : (5 * nI p + nI l : Int32) = nI (5 * p + l) := by rw [s_lit, pk_mul, nI_add]
  have e3 : (nI (5 * p + l)).toNatClampNeg = 5 * p + l := nI_clamp (by omega)
  have i1 : am_is (nI p) 20 = true := am_is_nI hp (by omega)
  have i2 : am_is (nI (5 * p + l)) 100 = true := am_is_nI (by omega) (by omega)
  refine g_165_0 hR _ _ ?_
  rw [e2, e1, e3]
  refine ⟨i1, i1, i2, i2, i2, rfl, _, rfl, ?_, ?_, ?_⟩
  · exact (((r_fr.rf I).up _ rfl).up _ rfl).up _ rfl
  · exact ⟨fun i ha hb2 => rfl, fun _ => rfl, fun _ => rfl, fun _ => rfl, fun _ => rfl, rfl, fun _ => rfl⟩
  · refine ⟨fun q hq => ?_, fun q hq => h2 q hq, fun j hj => ?_, h4, h5⟩
    · obtain ⟨b1, b2, b3, b4, b5, b6⟩ := h1 q hq
      obtain ⟨p1, -⟩ := h1 p hp
      refine ⟨?_, b2, b3, b4, b5, b6⟩
      by_cases hqp : q = p
      · subst hqp; simp [am_u, a_lose, a_bit, p1]
      · simp [am_u, a_lose, hqp, b1]
    · obtain ⟨b1, b2, b3⟩ := h3 j hj
      obtain ⟨p1, p2, p3⟩ := h3 (5 * p + l) (by omega)
      by_cases hjp : j = 5 * p + l
      · subst hjp; simp [am_u, a_lose, b2, p3]
      · simp [am_u, a_lose, hjp, b1, b2, b3]
end R1

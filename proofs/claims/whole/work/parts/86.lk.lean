/-! ===== leans stay within the records ===== -/
def a_ir (n : Nat) (x : Int32) : Prop := x = -1 ∨ ∃ m, m < n ∧ x = nI m
theorem a_ir.mono {n n' : Nat} {x : Int32} (h : a_ir n x) (hn : n ≤ n') : a_ir n' x := by
  rcases h with h | ⟨m, h1, h2⟩
  · exact Or.inl h
  · exact Or.inr ⟨m, by omega, h2⟩
def a_lk (n : Nat) (s : a_F) : Prop := s 17 0 = nI n ∧ (∀ j, a_ir n (s 8 j)) ∧ (∀ m, m < n → a_ir n (s 15 m) ∧ (s 16 m = 0 ∨ s 16 m = 1)) ∧ ∀ p l, l < 5 → bt (s 0 p) l = false → s 8 (5 * p + l) = -1
theorem a_lk.up {n : Nat} {s : a_F} (h : a_lk n s) {c : Nat} (hc : 1 ≤ c ∧ c ≤ 7) (i : Nat) (x : Int32) : a_lk n (am_u s c i x) := by
  obtain ⟨h1, h2, h3, h4⟩ := h
  have row : ∀ d, d = 17 ∨ d = 8 ∨ d = 15 ∨ d = 16 ∨ d = 0 → ∀ j, am_u s c i x d j = s d j := fun d hd j => am_u_ne (Or.inl (by omega))
  exact ⟨(row 17 (by simp) 0).trans h1, fun j => by rw [row 8 (by simp)]; exact h2 j, fun m hm => by rw [row 15 (by simp), row 16 (by simp)]; exact h3 m hm, fun p l hl hb => by rw [row 0 (by simp)] at hb; rw [row 8 (by simp)]; exact h4 p l hl hb⟩
theorem a_lk_gain {n : Nat} {s : a_F} (h : a_lk n s) (hn : n < 2 ^ 31) (today fact : Int32) {p l : Nat} (hl : l < 5) (k : Nat) {on ch : Int32} (ho : a_ir n on) (hch : ch = 0 ∨ ch = 1) : a_lk (n + 1) (a_gain s today fact p l k on ch) := by
  obtain ⟨h1, h2, h3, h4⟩ := h
  have en : a_ix (s 17 0) = n := by rw [h1]; exact nI_clamp hn
  have v17 : a_gain s today fact p l k on ch 17 0 = nI (n + 1) := by unfold a_gain a_rec; rw [am_u_same, en]
  have v8 : ∀ j, a_gain s today fact p l k on ch 8 j = if j = 5 * p + l then nI n else s 8 j := fun j => by unfold a_gain a_rec; rw [h1]; simp [am_u]
  have v15 : ∀ j, a_gain s today fact p l k on ch 15 j = if j = n then on else s 15 j := fun j => by unfold a_gain a_rec; rw [en]; simp [am_u]
  have v16 : ∀ j, a_gain s today fact p l k on ch 16 j = if j = n then ch else s 16 j := fun j => by unfold a_gain a_rec; rw [en]; simp [am_u]
  have v0 : ∀ j, a_gain s today fact p l k on ch 0 j = if j = p then s 0 p ||| a_bit l else s 0 j := fun j => by unfold a_gain a_rec; simp [am_u]
  refine ⟨v17, fun j => ?_, fun m hm => ?_, fun q l' hl' hb => ?_⟩
  · rw [v8]
    by_cases hj : j = 5 * p + l
    · rw [if_pos hj]; exact Or.inr ⟨n, by omega, rfl⟩
    · rw [if_neg hj]; exact (h2 j).mono (Nat.le_succ _)
  · rw [v15, v16]
    by_cases hj : m = n
    · rw [if_pos hj, if_pos hj]; exact ⟨ho.mono (Nat.le_succ _), hch⟩
    · rw [if_neg hj, if_neg hj]; exact ⟨(h3 m (by omega)).1.mono (Nat.le_succ _), (h3 m (by omega)).2⟩
  · rw [v0] at hb
    rw [v8]
    by_cases hq : q = p
    · rw [if_pos hq] at hb
      unfold a_bit at hb
      rw [b_set _ (by omega) (by omega), Bool.or_eq_false_iff] at hb
      have hne : ¬ l' = l := of_decide_eq_false hb.2
      subst hq
      rw [if_neg (by omega)]
      exact h4 q l' hl' hb.1
    · rw [if_neg hq] at hb
      rw [if_neg (by omega)]
      exact h4 q l' hl' hb
theorem a_lk_lose {n : Nat} {s : a_F} (h : a_lk n s) {p l : Nat} (hl : l < 5) : a_lk n (a_lose s p l) := by
  obtain ⟨h1, h2, h3, h4⟩ := h
  have v8 : ∀ j, a_lose s p l 8 j = if j = 5 * p + l then -1 else s 8 j := fun j => by unfold a_lose; simp [am_u]
  have v0 : ∀ j, a_lose s p l 0 j = if j = p then s 0 p &&& (a_bit l ^^^ (-1)) else s 0 j := fun j => by unfold a_lose; simp [am_u]
  refine ⟨h1, fun j => ?_, h3, fun q l' hl' hb => ?_⟩
  · rw [v8]
    by_cases hj : j = 5 * p + l
    · rw [if_pos hj]; exact Or.inl rfl
    · rw [if_neg hj]; exact h2 j
  · rw [v0] at hb
    rw [v8]
    by_cases hj : 5 * q + l' = 5 * p + l
    · rw [if_pos hj]
    · rw [if_neg hj]
      by_cases hq : q = p
      · rw [if_pos hq] at hb
        unfold a_bit at hb
        rw [b_clr _ (by omega) (by omega), Bool.and_eq_false_iff] at hb
        rcases hb with hb | hb
        · subst hq; exact h4 q l' hl' hb
        · exfalso
          have : decide (l' = l) = true := by simpa using hb
          have := of_decide_eq_true this
          omega
      · rw [if_neg hq] at hb
        exact h4 q l' hl' hb
theorem a_lk_kids (D : a_F) (today fact : Int32) {p l : Nat} (hl : l < 5) (k : Nat) (gains : Bool) : ∀ N c n s, a_lk n s → n + N < 2 ^ 31 → ∃ n', n ≤ n' ∧ n' ≤ n + N ∧ a_lk n' (a_kids D today fact p l k gains N c s)
  | 0, c, n, s, h, hb => ⟨n, Nat.le_refl _, Nat.le_refl _, h⟩
  | N + 1, c, n, s, h, hb => by
    have st : ∃ n1, n ≤ n1 ∧ n1 ≤ n + 1 ∧ a_lk n1 (if a_isk D s today p l k gains c = true then (if gains = true then a_gain s today fact c l k (s 8 (5 * p + l)) 1 else a_lose s c l) else s) := by
      split
      · split
        · exact ⟨n + 1, by omega, by omega, a_lk_gain h (by omega) today fact hl k (h.2.1 _) (Or.inr rfl)⟩
        · exact ⟨n, by omega, by omega, a_lk_lose h hl⟩
      · exact ⟨n, by omega, by omega, h⟩
    obtain ⟨n1, q1, q2, q3⟩ := st
    obtain ⟨n', z1, z2, z3⟩ := a_lk_kids D today fact hl k gains N (c + 1) n1 _ q3 (by omega)
    exact ⟨n', by omega, by omega, z3⟩
theorem a_lk_change {D : a_F} {np : Nat} (h5 : a_ix (D 59 5) = np) {s : a_F} (c : a_C) (fact : Int32) {wc : Nat → Int32} {p l k n : Nat} (hl : l < 5) (h : a_lk n s) (hwc : ∀ l, a_ir n (wc l)) (hb : n + (np + 1) < 2 ^ 31) : ∃ n', n ≤ n' ∧ n' ≤ n + (np + 1) ∧ a_lk n' (a_change D s c fact wc p l k) := by
  have hlean : a_ir n (a_lean D s c wc p l) := by
    unfold a_lean
    split
    · split
      · exact h.2.1 _
      · split
        · exact h.2.1 _
        · exact Or.inl rfl
    · split
      · exact hwc l
      · exact Or.inl rfl
  have st : ∃ n1, n ≤ n1 ∧ n1 ≤ n + 1 ∧ a_lk n1 (if decide (D 81 k = 0) = true then a_gain s c.1 fact p l k (a_lean D s c wc p l) 0 else a_lose s p l) := by
    split
    · exact ⟨n + 1, by omega, by omega, a_lk_gain h (by omega) _ _ hl k hlean (Or.inl rfl)⟩
    · exact ⟨n, by omega, by omega, a_lk_lose h hl⟩
  obtain ⟨n1, q1, q2, q3⟩ := st
  by_cases hk : D 85 k = -1
  · have e : a_change D s c fact wc p l k = (if decide (D 81 k = 0) = true then a_gain s c.1 fact p l k (a_lean D s c wc p l) 0 else a_lose s p l) := if_pos hk
    rw [e]
    exact ⟨n1, q1, by omega, q3⟩
  · have e : a_change D s c fact wc p l k = a_kids D c.1 fact p l k (decide (D 81 k = 0)) (a_ix (D 59 5)) 0 (if decide (D 81 k = 0) = true then a_gain s c.1 fact p l k (a_lean D s c wc p l) 0 else a_lose s p l) := if_neg hk
    rw [e, h5]
    obtain ⟨n', z1, z2, z3⟩ := a_lk_kids D c.1 fact hl k (decide (D 81 k = 0)) np 0 n1 _ q3 (by omega)
    exact ⟨n', by omega, by omega, z3⟩
theorem a_lk_changes {D : a_F} {np : Nat} (h5 : a_ix (D 59 5) = np) (c : a_C) (fact : Int32) {wc ch : Nat → Int32} {p : Nat} : ∀ N l n s, l + N ≤ 5 → a_lk n s → (∀ l, a_ir n (wc l)) → n + N * (np + 1) < 2 ^ 31 → ∃ n', n ≤ n' ∧ n' ≤ n + N * (np + 1) ∧ a_lk n' (a_changes D c fact wc ch p N l s)
  | 0, l, n, s, _, h, _, _ => ⟨n, Nat.le_refl _, by omega, h⟩
  | N + 1, l, n, s, hN, h, hwc, hb => by
    rw [Nat.succ_mul] at hb ⊢
    have st : ∃ n1, n ≤ n1 ∧ n1 ≤ n + (np + 1) ∧ a_lk n1 (if ch l = -1 then s else a_change D s c fact wc p l (a_ix (ch l))) := by
      split
      · exact ⟨n, by omega, by omega, h⟩
      · exact a_lk_change h5 c fact (by omega) h hwc (by omega)
    obtain ⟨n1, q1, q2, q3⟩ := st
    obtain ⟨n', z1, z2, z3⟩ := a_lk_changes h5 c fact (ch := ch) (p := p) N (l + 1) n1 _ (by omega) q3 (fun l => (hwc l).mono q1) (by omega)
    exact ⟨n', by omega, by omega, z3⟩
theorem a_lk_ask {D : a_F} {np : Nat} (h5 : a_ix (D 59 5) = np) (hp : np ≤ 20) (c : a_C) (fact force : Int32) {wc : Nat → Int32} {lo N p n : Nat} {s : a_F} (hN : lo + N ≤ 5) (h : a_lk n s) (hwc : ∀ l, a_ir n (wc l)) (hb : n + 105 < 2 ^ 31) : ∃ n', n ≤ n' ∧ n' ≤ n + 105 ∧ a_lk n' (a_ask D c fact force wc lo N p s) := by
  have h1 : N * (np + 1) ≤ 5 * 21 := Nat.mul_le_mul (by omega) (by omega)
  obtain ⟨n', z1, z2, z3⟩ := a_lk_changes h5 c fact (ch := a_pick D s c force p) (p := p) N lo n s hN h hwc (by omega)
  exact ⟨n', z1, by omega, z3⟩
theorem a_lk_all {D : a_F} {np : Nat} (h5 : a_ix (D 59 5) = np) (hp : np ≤ 20) (c : a_C) (fact force : Int32) {wc : Nat → Int32} {lo N : Nat} (hN : lo + N ≤ 5) : ∀ m p n s, a_lk n s → (∀ l, a_ir n (wc l)) → n + m * 105 < 2 ^ 31 → ∃ n', n ≤ n' ∧ n' ≤ n + m * 105 ∧ a_lk n' (a_all D c fact force wc lo N m p s)
  | 0, p, n, s, h, _, _ => ⟨n, Nat.le_refl _, by omega, h⟩
  | m + 1, p, n, s, h, hwc, hb => by
    obtain ⟨n1, q1, q2, q3⟩ := a_lk_ask h5 hp c fact force (p := p) hN h hwc (by omega)
    obtain ⟨n', z1, z2, z3⟩ := a_lk_all h5 hp c fact force (wc := wc) hN m (p + 1) n1 _ q3 (fun l => (hwc l).mono q1) (by omega)
    exact ⟨n', by omega, by omega, z3⟩
theorem a_lk_event {nl nq np nf na : Nat} {D : a_F} (hW : a_D nl nq np nf na D) (k wo : Int32) {key : Nat} (hk : key % 128 < na ∨ 12 ≤ key % 128 ∧ key % 128 - 12 < nf) {n : Nat} {s : a_F} (h : a_lk n s) (hb : n + 2100 < 2 ^ 31) : ∃ n', n ≤ n' ∧ n' ≤ n + 2100 ∧ a_lk n' (a_event D k wo s key) := by
  obtain ⟨⟨⟨p3, p5, p32⟩, ⟨b1, b2, b3, b4⟩, -⟩, hA, hF, -, -, hf2⟩ := hW
  have e3 : a_ix (D 59 3) = nl := by rw [p3]; exact nI_clamp (by omega)
  have e5 : a_ix (D 59 5) = np := by rw [p5]; exact nI_clamp (by omega)
  have hm1 : ∀ n, ∀ l : Nat, a_ir n ((fun _ => (-1 : Int32)) l) := fun n l => Or.inl rfl
  have hall : np * 105 ≤ 20 * 105 := Nat.mul_le_mul b3 (Nat.le_refl _)
  unfold a_event
  dsimp only
  split
  · unfold a_act
    split
    · rename_i h12 _
      have hlt : key % 128 < na := by omega
      obtain ⟨⟨l, hl1, hl2⟩, -⟩ := hA _ hlt
      rw [e5, hl2, show a_ix (nI l) = l from nI_clamp (by omega)]
      obtain ⟨n', z1, z2, z3⟩ := a_lk_all e5 b3 (nI (key / 128), 14, -1, nI l, 0) (-1) (a_force D (nI (key / 128)) k wo) (wc := fun _ => -1) (lo := l) (N := 1) (by omega) np 0 n s h (hm1 n) (by omega)
      exact ⟨n', z1, by omega, z3⟩
    · exact ⟨n, by omega, by omega, h⟩
  · generalize hf : key % 128 - 12 = f
    generalize a_force D (nI (key / 128)) k wo = force
    generalize nI (key / 128) = today
    unfold a_fact
    rw [e3, e5]
    split
    · unfold a_birth
      rw [e3]
      split
      · obtain ⟨n', z1, z2, z3⟩ := a_lk_ask e5 b3 (today, 8, D 67 f, -1, 0) (nI f) force (wc := fun _ => -1) (lo := 0) (N := nl) (p := a_ix (D 65 f)) (by omega) ((h.up (c := 1) (by omega) (a_ix (D 65 f)) today).up (c := 2) (by omega) (a_ix (D 65 f)) (D 67 f)) (hm1 n) (by omega)
        exact ⟨n', z1, by omega, z3⟩
      · exact ⟨n, by omega, by omega, h⟩
    · split
      · unfold a_wed
        dsimp only
        rw [e3]
        have h1 := (h.up (c := 3) (by omega) (a_ix (D 65 f)) (nI (a_ix (D 66 f)))).up (c := 3) (by omega) (a_ix (D 66 f)) (nI (a_ix (D 65 f)))
        obtain ⟨n1, z1, z2, z3⟩ := a_lk_ask e5 b3 (today, 9, D 67 f, -1, s 0 (a_ix (D 66 f))) (nI f) force (wc := fun l => s 8 (5 * a_ix (D 66 f) + l)) (lo := 0) (N := nl) (p := a_ix (D 65 f)) (by omega) h1 (fun l => h.2.1 _) (by omega)
        obtain ⟨n2, y1, y2, y3⟩ := a_lk_ask e5 b3 (today, 9, D 67 f, -1, s 0 (a_ix (D 65 f))) (nI f) force (wc := fun l => s 8 (5 * a_ix (D 65 f) + l)) (lo := 0) (N := nl) (p := a_ix (D 66 f)) (by omega) z3 (fun l => (h.2.1 _).mono z1) (by omega)
        exact ⟨n2, by omega, by omega, y3⟩
      · split
        · obtain ⟨n', z1, z2, z3⟩ := a_lk_all e5 b3 (today, 13, D 67 f, D 66 f, 0) (nI f) force (wc := fun _ => -1) (lo := 0) (N := nl) (by omega) np 0 n _ ((h.up (c := 6) (by omega) (a_ix (D 67 f)) (D 66 f)).up (c := 7) (by omega) (a_ix (D 67 f)) today) (hm1 n) (by omega)
          exact ⟨n', z1, by omega, z3⟩
        · split
          · exact ⟨n, by omega, by omega, (h.up (c := 4) (by omega) _ _).up (c := 5) (by omega) _ _⟩
          · obtain ⟨n', z1, z2, z3⟩ := a_lk_ask e5 b3 (today, D 64 f + 8, -1, D 66 f, 0) (nI f) force (wc := fun _ => -1) (lo := 0) (N := nl) (p := a_ix (D 65 f)) (by omega) h (hm1 n) (by omega)
            exact ⟨n', z1, by omega, z3⟩
theorem a_lk_num (a b c n : Nat) (h1 : c = b * 2100) (h2 : n ≤ a + 2100) (h : a + (c + 2100) < 2 ^ 31) : a + 2100 < 2 ^ 31 ∧ n + c < 2 ^ 31 := by omega
theorem a_lk_fold {nl nq np nf na : Nat} {D : a_F} (hW : a_D nl nq np nf na D) (k wo : Int32) : ∀ (l : List Nat) n s, (∀ y ∈ l, y % 128 < na ∨ 12 ≤ y % 128 ∧ y % 128 - 12 < nf) → a_lk n s → n + l.length * 2100 < 2 ^ 31 → ∃ n', n ≤ n' ∧ n' ≤ n + l.length * 2100 ∧ a_lk n' (l.foldl (a_event D k wo) s)
  | [], n, s, _, h, _ => ⟨n, Nat.le_refl _, by rw [List.length_nil, Nat.zero_mul]; exact Nat.le_refl _, h⟩
  | y :: r, n, s, hm, h, hb => by
    rw [List.length_cons, Nat.succ_mul] at hb ⊢
    have hb1 := (a_lk_num n r.length _ n rfl (Nat.le_add_right _ _) hb).1
    obtain ⟨n1, q1, q2, q3⟩ := a_lk_event hW k wo (hm y List.mem_cons_self) h hb1
    obtain ⟨n', z1, z2, z3⟩ := a_lk_fold hW k wo r n1 _ (fun x hx => hm x (List.mem_cons_of_mem _ hx)) q3 (a_lk_num n r.length _ n1 rfl q2 hb).2
    refine ⟨n', Nat.le_trans q1 z1, Nat.le_trans z2 ?_, z3⟩
    rw [Nat.add_comm (r.length * 2100) 2100, ← Nat.add_assoc]
    exact Nat.add_le_add_right q2 _
theorem a_calA_le (D : a_F) (k wo last : Int32) : ∀ n a c, (a_calA D k wo last n a c).length ≤ c.length + n
  | 0, a, c => Nat.le_refl _
  | n + 1, a, c => by
    unfold a_calA
    split
    · have := a_calA_le D k wo last n (a + 1) (a_ins (a_ix (D 75 a) * 128 + a) c)
      rw [a_ins_len] at this
      omega
    · have := a_calA_le D k wo last n (a + 1) c
      omega
theorem a_calF_le (D : a_F) (k last : Int32) (way : Nat) : ∀ n f c, (a_calF D k last way n f c).length ≤ c.length + n
  | 0, f, c => Nat.le_refl _
  | n + 1, f, c => by
    unfold a_calF
    split
    · have := a_calF_le D k last way n (f + 1) (a_ins (a_ix (a_on D k way f) * 128 + (12 + f)) c)
      rw [a_ins_len] at this
      omega
    · have := a_calF_le D k last way n (f + 1) c
      omega
theorem a_lk_run {nl nq np nf na : Nat} {D : a_F} (hW : a_D nl nq np nf na D) (way : Nat) (last k wo : Int32) : ∃ n, n ≤ 235200 ∧ a_lk n (a_run D way last k wo) := by
  have e6 : a_ix (D 59 6) = nf := by rw [hW.2.2.2.2.1]; exact nI_clamp (by have := hW.2.2.2.2.2; omega)
  have e32 : a_ix (D 59 32) = na := by rw [hW.1.1.2.2]; exact nI_clamp (by have := hW.1.2.1.2.2.2; omega)
  have hlen : (a_cal D k wo last way).length ≤ 112 := by
    have h1 := a_calF_le D k last way (a_ix (D 59 6)) 0 (a_calA D k wo last (a_ix (D 59 32)) 0 [])
    have h2 := a_calA_le D k wo last (a_ix (D 59 32)) 0 []
    have h3 := hW.2.2.2.2.2
    have h4 := hW.1.2.1.2.2.2
    rw [e6] at h1
    rw [e32] at h2
    unfold a_cal
    rw [e6, e32]
    rw [e32] at h1
    have h5 : ([] : List Nat).length = 0 := rfl
    omega
  have h0 : a_lk 0 (a_init D) := ⟨rfl, fun j => Or.inl rfl, fun m hm => absurd hm (Nat.not_lt_zero m), fun p l _ _ => rfl⟩
  obtain ⟨n', z1, z2, z3⟩ := a_lk_fold hW k wo (a_cal D k wo last way) 0 _ (fun y hy => (a_cal_mem hW k wo last way hy).2) h0 (by omega)
  exact ⟨n', by omega, z3⟩

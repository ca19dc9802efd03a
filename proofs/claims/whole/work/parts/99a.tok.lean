/-! ===== tokens of a text, without a machine ===== -/
/-- a token: (0,0) the end, (1,0) none that is, (2,v) a number, (3,w) a word (28: unknown), (4,c) a sign, (5,0) a number that is too long -/
abbrev yt_T : Type := Nat × Nat
abbrev yt_L : Type := List (yt_T × Nat)
def yt_let (c : Nat) : Bool := Nat.ble 97 c && Nat.ble c 122
def yt_dig (c : Nat) : Bool := Nat.ble 48 c && Nat.ble c 57
def yt_blk (c : Nat) : Bool := Nat.beq c 32 || Nat.beq c 10
/-- past what is so, at most m steps -/
def yt_past (f : Nat → Bool) : Nat → Nat → Nat
  | 0, i => i
  | m + 1, i => if f i = true then yt_past f m (i + 1) else i
theorem yt_past_le (f : Nat → Bool) : ∀ m i, i ≤ yt_past f m i ∧ yt_past f m i ≤ i + m
  | 0, i => ⟨Nat.le_refl _, Nat.le_refl _⟩
  | m + 1, i => by
    unfold yt_past
    have h := yt_past_le f m (i + 1)
    split <;> omega
theorem yt_past_in (f : Nat → Bool) : ∀ m i j, i ≤ j → j < yt_past f m i → f j = true
  | 0, i, j, h1, h2 => by
    unfold yt_past at h2
    omega
  | m + 1, i, j, h1, h2 => by
    unfold yt_past at h2
    by_cases hf : f i = true
    · rw [if_pos hf] at h2
      by_cases e : j = i
      · subst e; exact hf
      · exact yt_past_in f m (i + 1) j (by omega) h2
    · rw [if_neg hf] at h2
      omega
theorem yt_past_gt {f : Nat → Bool} {m i : Nat} (h : f i = true) : i < yt_past f (m + 1) i := by
  unfold yt_past
  rw [if_pos h]
  have := yt_past_le f m (i + 1)
  omega
/-- the words, in the order of the class -/
def yt_ws : List (List Nat) := [[103, 97, 105, 110], [108, 111, 115, 101], [115, 116, 114, 105, 107, 101], [117, 110, 108, 101, 115, 115], [99, 104, 105, 108, 100, 114, 101, 110], [111, 114], [97, 110, 100], [110, 111, 116], [98, 105, 114, 116, 104], [119, 101, 100], [111, 97, 116, 104], [99, 104, 111, 111, 115, 101], [115, 101, 114, 118, 101], [98, 111, 114, 100, 101, 114], [97, 99, 116], [104, 101, 114, 101], [102, 97, 116, 104, 101, 114], [109, 111, 116, 104, 101, 114], [119, 101, 100, 100, 101, 100], [115, 112, 111, 117, 115, 101], [115, 101, 120], [97, 103, 101], [115, 116, 97, 121], [104, 97, 115], [111, 116, 104, 101, 114, 115], [116, 111], [121, 101, 97, 114], [109, 111, 118, 101, 100]]
/-- the letters from p to q are this word -/
def yt_is (tb : Nat → Nat) (p q : Nat) (w : List Nat) : Bool := decide ((List.range (q - p)).map (fun i => tb (p + i)) = w)
def yt_find (tb : Nat → Nat) (p q : Nat) : List (List Nat) → Nat → Nat
  | [], k => k
  | w :: r, k => if yt_is tb p q w = true then k else yt_find tb p q r (k + 1)
def yt_word (tb : Nat → Nat) (p q : Nat) : Nat := yt_find tb p q yt_ws 0
theorem yt_find_le (tb : Nat → Nat) (p q : Nat) : ∀ l k, k ≤ yt_find tb p q l k ∧ yt_find tb p q l k ≤ k + l.length
  | [], k => ⟨Nat.le_refl _, Nat.le_refl _⟩
  | w :: r, k => by
    unfold yt_find
    have h := yt_find_le tb p q r (k + 1)
    simp only [List.length_cons]
    split <;> omega
theorem yt_word_le (tb : Nat → Nat) (p q : Nat) : yt_word tb p q ≤ 28 := (yt_find_le tb p q yt_ws 0).2
/-- the value of k digits -/
def yt_val (tb : Nat → Nat) (p : Nat) : Nat → Nat
  | 0 => 0
  | k + 1 => yt_val tb p k * 10 + (tb (p + k) - 48)
def yt_sgn : List Nat := [59, 40, 41, 43, 45, 42, 47, 60, 61]
/-- the token at p, and where it ends -/
def yt_tok (tb : Nat → Nat) (n p : Nat) : yt_T × Nat :=
  if yt_let (tb p) = true then ((3, yt_word tb p (yt_past (fun j => yt_let (tb j)) (n - p) p)), yt_past (fun j => yt_let (tb j)) (n - p) p)
  else if yt_dig (tb p) = true then (if 5 < yt_past (fun j => yt_dig (tb j)) (n - p) p - p then (5, 0) else (2, yt_val tb p (yt_past (fun j => yt_dig (tb j)) (n - p) p - p)), yt_past (fun j => yt_dig (tb j)) (n - p) p)
  else if tb p ∈ yt_sgn then ((4, tb p), p + 1) else ((1, 0), p + 1)
def yt_skip (tb : Nat → Nat) (n i : Nat) : Nat := yt_past (fun j => yt_blk (tb j)) (n - i) i
theorem yt_skip_le {tb : Nat → Nat} {n i : Nat} (hi : i ≤ n) : i ≤ yt_skip tb n i ∧ yt_skip tb n i ≤ n := by
  have h := yt_past_le (fun j => yt_blk (tb j)) (n - i) i
  unfold yt_skip
  omega
theorem yt_tok_le {tb : Nat → Nat} {n p : Nat} (hp : p < n) : p < (yt_tok tb n p).2 ∧ (yt_tok tb n p).2 ≤ n := by
  unfold yt_tok
  obtain ⟨m, hm⟩ : ∃ m, n - p = m + 1 := ⟨n - p - 1, by omega⟩
  have h1 := yt_past_le (fun j => yt_let (tb j)) (n - p) p
  have h2 := yt_past_le (fun j => yt_dig (tb j)) (n - p) p
  split
  · rename_i h
    have := yt_past_gt (f := fun j => yt_let (tb j)) (m := m) (i := p) h
    rw [← hm] at this
    exact ⟨this, by omega⟩
  · split
    · rename_i h
      have := yt_past_gt (f := fun j => yt_dig (tb j)) (m := m) (i := p) h
      rw [← hm] at this
      exact ⟨this, by omega⟩
    · split <;> exact ⟨by dsimp only; omega, by dsimp only; omega⟩
/-- the tokens from i on -/
def yt_l (tb : Nat → Nat) (n : Nat) : Nat → Nat → yt_L
  | 0, _ => []
  | f + 1, i => if yt_skip tb n i < n then ((yt_tok tb n (yt_skip tb n i)).1, yt_skip tb n i) :: yt_l tb n f (yt_tok tb n (yt_skip tb n i)).2 else []
theorem yt_l_eq {tb : Nat → Nat} {n : Nat} : ∀ f g i, i ≤ n → n - i ≤ f → n - i ≤ g → yt_l tb n f i = yt_l tb n g i
  | 0, 0, i, _, _, _ => rfl
  | 0, g + 1, i, hi, hf, hg => by
    have e : i = n := by omega
    have h := yt_skip_le (tb := tb) hi
    show [] = yt_l tb n (g + 1) i
    unfold yt_l
    rw [if_neg (by omega)]
  | f + 1, 0, i, hi, hf, hg => by
    have e : i = n := by omega
    have h := yt_skip_le (tb := tb) hi
    show yt_l tb n (f + 1) i = []
    unfold yt_l
    rw [if_neg (by omega)]
  | f + 1, g + 1, i, hi, hf, hg => by
    have h := yt_skip_le (tb := tb) hi
    unfold yt_l
    by_cases hs : yt_skip tb n i < n
    · have h2 := yt_tok_le (tb := tb) hs
      rw [if_pos hs, if_pos hs, yt_l_eq f g _ h2.2 (by omega) (by omega)]
    · rw [if_neg hs, if_neg hs]
def yt_ts (tb : Nat → Nat) (n i : Nat) : yt_L := yt_l tb n (n - i) i
theorem yt_ts_c {tb : Nat → Nat} {n i : Nat} (hi : i ≤ n) (hs : yt_skip tb n i < n) : yt_ts tb n i = ((yt_tok tb n (yt_skip tb n i)).1, yt_skip tb n i) :: yt_ts tb n (yt_tok tb n (yt_skip tb n i)).2 := by
  have h := yt_skip_le (tb := tb) hi
  have h2 := yt_tok_le (tb := tb) hs
  obtain ⟨m, hm⟩ : ∃ m, n - i = m + 1 := ⟨n - i - 1, by omega⟩
  unfold yt_ts
  rw [hm]
  show (if yt_skip tb n i < n then _ else _) = _
  rw [if_pos hs, yt_l_eq m (n - (yt_tok tb n (yt_skip tb n i)).2) _ h2.2 (by omega) (Nat.le_refl _)]
theorem yt_ts_n {tb : Nat → Nat} {n i : Nat} (hs : ¬ yt_skip tb n i < n) : yt_ts tb n i = [] := by
  unfold yt_ts
  cases n - i with
  | zero => rfl
  | succ m =>
    show (if yt_skip tb n i < n then _ else _) = _
    rw [if_neg hs]
theorem yt_l_len {tb : Nat → Nat} {n : Nat} : ∀ f i, (yt_l tb n f i).length ≤ f
  | 0, _ => Nat.le_refl _
  | f + 1, i => by
    unfold yt_l
    have h := yt_l_len (tb := tb) (n := n) f
    split
    · simp only [List.length_cons]
      have := h (yt_tok tb n (yt_skip tb n i)).2
      omega
    · exact Nat.zero_le _
theorem yt_ts_len {tb : Nat → Nat} {n i : Nat} : (yt_ts tb n i).length ≤ n - i := yt_l_len _ _
/-- a token as it can be -/
def yt_ok (n : Nat) (x : yt_T × Nat) : Prop := x.2 < n ∧ (x.1 = (1, 0) ∨ (x.1.1 = 2 ∧ x.1.2 < 100000) ∨ (x.1.1 = 3 ∧ x.1.2 ≤ 28) ∨ (x.1.1 = 4 ∧ x.1.2 ∈ yt_sgn) ∨ x.1 = (5, 0))
theorem yt_val_lt {tb : Nat → Nat} {p : Nat} : ∀ k, (∀ i, i < k → tb (p + i) ≤ 57) → yt_val tb p k < 10 ^ k
  | 0, _ => (by decide : 0 < 1)
  | k + 1, h => by
    have ih := yt_val_lt (tb := tb) (p := p) k (fun i hi => h i (by omega))
    have := h k (Nat.lt_succ_self k)
    show yt_val tb p k * 10 + (tb (p + k) - 48) < 10 ^ (k + 1)
    rw [Nat.pow_succ]
    omega
theorem yt_dig_of {c : Nat} (h : yt_dig c = true) : 48 ≤ c ∧ c ≤ 57 := by
  unfold yt_dig at h
  simpa only [Bool.and_eq_true, Nat.ble_eq] using h
theorem yt_let_of {c : Nat} (h : yt_let c = true) : 97 ≤ c ∧ c ≤ 122 := by
  unfold yt_let at h
  simpa only [Bool.and_eq_true, Nat.ble_eq] using h
theorem yt_tok_ok {tb : Nat → Nat} {n p : Nat} (hp : p < n) : yt_ok n ((yt_tok tb n p).1, p) := by
  refine ⟨hp, ?_⟩
  unfold yt_tok
  split
  · exact Or.inr (Or.inr (Or.inl ⟨rfl, yt_word_le _ _ _⟩))
  · split
    · dsimp only
      split
      · exact Or.inr (Or.inr (Or.inr (Or.inr rfl)))
      · rename_i h5
        refine Or.inr (Or.inl ⟨rfl, ?_⟩)
        have hv := yt_val_lt (tb := tb) (p := p) (yt_past (fun j => yt_dig (tb j)) (n - p) p - p) (fun i hi => by
          have := yt_past_in (fun j => yt_dig (tb j)) (n - p) p (p + i) (by omega) (by omega)
          exact (yt_dig_of this).2)
        have h10 : 10 ^ (yt_past (fun j => yt_dig (tb j)) (n - p) p - p) ≤ 10 ^ 5 := Nat.pow_le_pow_right (by decide) (by omega)
        show yt_val tb p _ < 100000
        omega
    · split
      · rename_i h
        exact Or.inr (Or.inr (Or.inr (Or.inl ⟨rfl, h⟩)))
      · exact Or.inl rfl
theorem yt_l_ok {tb : Nat → Nat} {n : Nat} : ∀ f i, ∀ x ∈ yt_l tb n f i, yt_ok n x
  | 0, _, x, hx => by cases hx
  | f + 1, i, x, hx => by
    unfold yt_l at hx
    by_cases hs : yt_skip tb n i < n
    · rw [if_pos hs] at hx
      rcases List.mem_cons.mp hx with e | e
      · rw [e]; exact yt_tok_ok hs
      · exact yt_l_ok f _ x e
    · rw [if_neg hs] at hx
      cases hx
theorem yt_ts_ok {tb : Nat → Nat} {n i : Nat} : ∀ x ∈ yt_ts tb n i, yt_ok n x := yt_l_ok _ _
def yt_hd : yt_L → yt_T
  | [] => (0, 0)
  | x :: _ => x.1
def yt_pl (n : Nat) : yt_L → Nat
  | [] => n
  | x :: _ => x.2
theorem yt_pl_le {n : Nat} : ∀ {ts : yt_L}, (∀ x ∈ ts, yt_ok n x) → yt_pl n ts ≤ n
  | [], _ => Nat.le_refl _
  | x :: r, h => Nat.le_of_lt (h x (by simp)).1
theorem yt_tl_len {ts : yt_L} {t : yt_T} (h : yt_hd ts = t) (h0 : t.1 ≠ 0) : ts.tail.length + 1 = ts.length := by
  cases ts with
  | nil => subst h; exact absurd rfl h0
  | cons x r => simp
theorem yt_tl_ok {n : Nat} {ts : yt_L} (h : ∀ x ∈ ts, yt_ok n x) : ∀ x ∈ ts.tail, yt_ok n x := fun x hx => h x (List.mem_of_mem_tail hx)
theorem yt_hd_ok {n : Nat} {ts : yt_L} (h : ∀ x ∈ ts, yt_ok n x) : yt_hd ts = (0, 0) ∨ yt_hd ts = (1, 0) ∨ ((yt_hd ts).1 = 2 ∧ (yt_hd ts).2 < 100000) ∨ ((yt_hd ts).1 = 3 ∧ (yt_hd ts).2 ≤ 28) ∨ ((yt_hd ts).1 = 4 ∧ (yt_hd ts).2 ∈ yt_sgn) ∨ yt_hd ts = (5, 0) := by
  cases ts with
  | nil => exact Or.inl rfl
  | cons x r => exact Or.inr (h x (by simp)).2

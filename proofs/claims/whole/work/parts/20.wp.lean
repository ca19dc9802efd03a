/-! ===== running the little machine with variables ===== -/
/-- the references that stay: by 100 times the cell and the field -/
def q_rtl : List (Nat × Nat) := [(0, 1), (1, 3), (2, 7), (3, 16), (4, 32), (5, 34), (6, 38), (7, 57), (8, 58), (100, 2), (300, 4), (301, 5), (302, 6), (700, 8), (701, 9), (702, 10), (703, 11), (704, 12), (705, 13), (706, 14), (707, 15), (1600, 17), (1601, 18), (1602, 19), (1603, 20), (1604, 21), (1605, 22), (1606, 23), (1607, 24), (1608, 25), (1609, 26), (1610, 27), (1611, 28), (1612, 29), (1613, 30), (1614, 31), (3200, 16), (3400, 35), (3401, 36), (3402, 37), (3403, 7), (3800, 3), (3801, 1), (3802, 7), (3803, 16), (3804, 34), (3805, 39), (3806, 41), (3807, 42), (3808, 47), (3809, 48), (3810, 49), (3811, 50), (3812, 51), (3813, 52), (3814, 53), (3815, 54), (3816, 55), (3817, 56), (3900, 40), (4200, 43), (4201, 44), (4202, 45), (5907, 60), (5908, 61), (5909, 62), (5910, 63), (5911, 64), (5912, 65), (5913, 66), (5914, 67), (5915, 68), (5916, 69), (5917, 70), (5918, 71), (5919, 72), (5931, 73), (5936, 74), (5937, 75), (5938, 76), (5939, 77), (5940, 78), (5941, 79), (5942, 80), (5943, 81), (5944, 82), (5945, 83), (5946, 84), (5947, 85), (5948, 86), (5949, 87), (5950, 88), (5953, 89), (5954, 90), (5955, 91), (5956, 92), (5957, 93), (5958, 94), (5959, 95), (5960, 96), (5961, 97), (5962, 98), (5963, 99), (5964, 100), (5965, 101), (5967, 102), (5968, 103), (5969, 104), (5970, 105), (5971, 106), (5972, 107), (5974, 108), (5975, 109), (5983, 110), (5984, 111), (5985, 112), (5986, 113), (5987, 114), (5991, 115), (5992, 116)]
def q_rt (i k : Nat) : Option Nat := if k < 100 then q_rtl.lookup (100 * i + k) else none
section Wp
variable {β : Bool} {xs : Nat → Int32} {L : Nat}
/-- the run from here ends, in an end that has Q -/
def q_W (β : Bool) (xs : Nat → Int32) (L : Nat) (d k pc : Nat) (ls st : List Value) (h : am_H) (Q : am_O → am_H → Prop) : Prop := ∃ (n : Nat) (o : am_O) (h1 : am_H), am_ex (q_P β xs L) q_ML q_HD q_NT n d k pc ls st h = some (o, h1) ∧ Q o h1
/-- the static references -/
def q_RT (G : am_G) : Prop := ∀ i k j, q_rt i k = some j → G.2.1 i k = some j
def q_Rv (A : am_G → (Nat → Nat → Int32) → (Nat → Nat → Int64) → Prop) (E : Nat → am_G → (Nat → Nat → Int32) → (Nat → Nat → Int64) → Prop) : am_O → am_H → Prop := fun o h => match o with
  | .inl none => A h.1 h.2.1 h.2.2
  | .inr x => E x h.1 h.2.1 h.2.2
  | _ => False
def q_Ri (A : Int32 → am_G → (Nat → Nat → Int32) → (Nat → Nat → Int64) → Prop) (E : Nat → am_G → (Nat → Nat → Int32) → (Nat → Nat → Int64) → Prop) : am_O → am_H → Prop := fun o h => match o with
  | .inl (some (.int v)) => A v h.1 h.2.1 h.2.2
  | .inr x => E x h.1 h.2.1 h.2.2
  | _ => False
def q_Rl (A : Int64 → am_G → (Nat → Nat → Int32) → (Nat → Nat → Int64) → Prop) (E : Nat → am_G → (Nat → Nat → Int32) → (Nat → Nat → Int64) → Prop) : am_O → am_H → Prop := fun o h => match o with
  | .inl (some (.long v)) => A v h.1 h.2.1 h.2.2
  | .inr x => E x h.1 h.2.1 h.2.2
  | _ => False
def q_Rr (A : Nat → am_G → (Nat → Nat → Int32) → (Nat → Nat → Int64) → Prop) (E : Nat → am_G → (Nat → Nat → Int32) → (Nat → Nat → Int64) → Prop) : am_O → am_H → Prop := fun o h => match o with
  | .inl (some (.ref v)) => A v h.1 h.2.1 h.2.2
  | .inr x => E x h.1 h.2.1 h.2.2
  | _ => False
variable {d k pc : Nat} {ls st : List Value} {h : am_H} {Q : am_O → am_H → Prop}
theorem q_am_mo : ∀ k pc f, q_P β xs L k pc = some f → am_mo f := fun k pc f h => (q_OK (ξ := fun _ => 0) k pc f h).1
theorem q_mono {Q' : am_O → am_H → Prop} {d' : Nat} (hw : q_W β xs L d k pc ls st h Q) (hd : d ≤ d') (hq : ∀ o h1, Q o h1 → Q' o h1) : q_W β xs L d' k pc ls st h Q' := by
  obtain ⟨n, o, h1, e, q⟩ := hw
  exact ⟨n, o, h1, am_ex_up n n d d' k pc ls st h _ (Nat.le_refl _) hd e, hq _ _ q⟩
theorem q_le (hw : q_W β xs L d k pc ls st h Q) : q_W β xs L d k pc ls st h (fun o h1 => Q o h1 ∧ am_leH h h1) := by
  obtain ⟨n, o, h1, e, q⟩ := hw
  exact ⟨n, o, h1, e, q, am_ex_le q_am_mo _ _ _ _ _ _ _ _ e⟩
theorem r_next {f : am_F} {t : Nat} {ls' st' : List Value} {h' : am_H} (hf : q_P β xs L k pc = some f) (hx : f ls st h = some (.inl (t, ls', st', h'))) (hk : q_W β xs L d k t ls' st' h' Q) : q_W β xs L d k pc ls st h Q := by
  obtain ⟨n, o, h1, e, q⟩ := hk
  refine ⟨n + 1, o, h1, ?_, q⟩
  unfold am_ex
  rw [hf]
  simp only [hx]
  exact e
theorem r_end {f : am_F} {o : am_O} {h' : am_H} (hf : q_P β xs L k pc = some f) (hx : f ls st h = some (.inr (.inr (o, h')))) (hq : Q o h') : q_W β xs L d k pc ls st h Q := by
  refine ⟨1, o, h', ?_, hq⟩
  unfold am_ex
  rw [hf]
  simp only [hx]
/-- what is owed where a callee throws -/
def q_X (β : Bool) (xs : Nat → Int32) (L : Nat) (d k pc : Nat) (ls : List Value) (Q : am_O → am_H → Prop) (x : Nat) (h' : am_H) : Prop := match q_HD k pc x with
  | none => q_NT k = true ∧ Q (.inr x) h'
  | some y => q_W β xs L d k y.1 (am_set ls y.2 (.retAddr 0)) [] h' Q
theorem r_call {f : am_F} {t k' : Nat} {as ls' st' : List Value} {Q1 : am_O → am_H → Prop} (hf : q_P β xs L k pc = some f) (hx : f ls st h = some (.inr (.inl (k', as, t, ls', st')))) (hc : q_W β xs L d k' 0 (as ++ List.replicate (q_ML k' - as.length) (.retAddr 0)) [] h Q1)
    (hk : ∀ v h', Q1 (.inl v) h' → q_W β xs L (d + 1) k t ls' (v.toList ++ st') h' Q) (he : ∀ x h', Q1 (.inr x) h' → q_X β xs L (d + 1) k pc ls' Q x h') : q_W β xs L (d + 1) k pc ls st h Q := by
  obtain ⟨n, o, h1, e, q⟩ := hc
  cases o with
  | inl v =>
    obtain ⟨n2, o2, h2, e2, q2⟩ := hk v h1 q
    refine ⟨n + n2 + 1, o2, h2, ?_, q2⟩
    unfold am_ex
    rw [hf]
    simp only [hx]
    rw [am_ex_up n (n + n2) d d k' 0 _ _ _ _ (by omega) (Nat.le_refl _) e]
    exact am_ex_up n2 (n + n2) (d + 1) (d + 1) k t _ _ _ _ (by omega) (Nat.le_refl _) e2
  | inr x =>
    have hx2 := he x h1 q
    unfold q_X at hx2
    split at hx2
    · rename_i hh
      refine ⟨n + 1, .inr x, h1, ?_, hx2.2⟩
      unfold am_ex
      rw [hf]
      simp only [hx]
      rw [e]
      simp only [hh, hx2.1, if_true]
    · rename_i y hh
      obtain ⟨n2, o2, h2, e2, q2⟩ := hx2
      refine ⟨n + n2 + 1, o2, h2, ?_, q2⟩
      unfold am_ex
      rw [hf]
      simp only [hx]
      rw [am_ex_up n (n + n2) d d k' 0 _ _ _ _ (by omega) (Nat.le_refl _) e]
      simp only [hh]
      exact am_ex_up n2 (n + n2) (d + 1) (d + 1) k y.1 _ _ _ _ (by omega) (Nat.le_refl _) e2
variable {t u : Nat}
theorem w_ic {v : Int32} (hf : q_P β xs L k pc = some (im_ic v t)) (hk : q_W β xs L d k t ls (.int v :: st) h Q) : q_W β xs L d k pc ls st h Q := r_next hf rfl hk
theorem w_lc {v : Int64} (hf : q_P β xs L k pc = some (im_lc v t)) (hk : q_W β xs L d k t ls (.long v :: st) h Q) : q_W β xs L d k pc ls st h Q := r_next hf rfl hk
theorem w_go (hf : q_P β xs L k pc = some (im_go t)) (hk : q_W β xs L d k t ls st h Q) : q_W β xs L d k pc ls st h Q := r_next hf rfl hk
theorem w_es {e : Nat} (hf : q_P β xs L k pc = some (im_es e t)) (hk : q_W β xs L d k t ls (.retAddr e :: st) h Q) : q_W β xs L d k pc ls st h Q := r_next hf rfl hk
theorem w_il {j : Nat} {x : Int32} (hf : q_P β xs L k pc = some (im_il j t)) (hl : ls[j]? = some (.int x)) (hk : q_W β xs L d k t ls (.int x :: st) h Q) : q_W β xs L d k pc ls st h Q := r_next hf (by unfold im_il; rw [hl]) hk
theorem w_ll {j : Nat} {x : Int64} (hf : q_P β xs L k pc = some (im_ll j t)) (hl : ls[j]? = some (.long x)) (hk : q_W β xs L d k t ls (.long x :: st) h Q) : q_W β xs L d k pc ls st h Q := r_next hf (by unfold im_ll; rw [hl]) hk
theorem w_al {j x : Nat} (hf : q_P β xs L k pc = some (im_al j t)) (hl : ls[j]? = some (.ref x)) (hk : q_W β xs L d k t ls (.ref x :: st) h Q) : q_W β xs L d k pc ls st h Q := r_next hf (by unfold im_al; rw [hl]) hk
theorem w_ae {j x : Nat} (hf : q_P β xs L k pc = some (im_al j t)) (hl : ls[j]? = some (.retAddr (x + 1))) (hk : q_W β xs L d k t ls (.retAddr (x + 1) :: st) h Q) : q_W β xs L d k pc ls st h Q := r_next hf (by unfold im_al; rw [hl]) hk
theorem w_is {j : Nat} {x : Int32} {ls' : List Value} (hf : q_P β xs L k pc = some (im_is j t)) (hl : am_set ls j (.int x) = ls') (hk : q_W β xs L d k t ls' st h Q) : q_W β xs L d k pc ls (.int x :: st) h Q := r_next hf (by unfold im_is; rw [← hl]) hk
theorem w_ls {j : Nat} {x : Int64} {ls' : List Value} (hf : q_P β xs L k pc = some (im_ls j t)) (hl : am_set2 ls j (.long x) = ls') (hk : q_W β xs L d k t ls' st h Q) : q_W β xs L d k pc ls (.long x :: st) h Q := r_next hf (by unfold im_ls; rw [← hl]) hk
theorem w_as {j : Nat} {x : Nat} {ls' : List Value} (hf : q_P β xs L k pc = some (im_as j t)) (hl : am_set ls j (.ref x) = ls') (hk : q_W β xs L d k t ls' st h Q) : q_W β xs L d k pc ls (.ref x :: st) h Q := r_next hf (by unfold im_as; rw [← hl]) hk
theorem w_ase {j : Nat} {x : Nat} {ls' : List Value} (hf : q_P β xs L k pc = some (im_as j t)) (hl : am_set ls j (.retAddr (x + 1)) = ls') (hk : q_W β xs L d k t ls' st h Q) : q_W β xs L d k pc ls (.retAddr (x + 1) :: st) h Q := r_next hf (by unfold im_as; rw [← hl]) hk
theorem w_iinc {j : Nat} {n x : Int32} {ls' : List Value} (hf : q_P β xs L k pc = some (im_iinc j n t)) (hg : ls[j]? = some (.int x)) (hl : am_set ls j (.int (x + n)) = ls') (hk : q_W β xs L d k t ls' st h Q) : q_W β xs L d k pc ls st h Q := r_next hf (by unfold im_iinc; rw [hg, ← hl]) hk
theorem w_bin {g : Int32 → Int32 → Int32} {x y : Int32} (hf : q_P β xs L k pc = some (im_bin g t)) (hk : q_W β xs L d k t ls (.int (g x y) :: st) h Q) : q_W β xs L d k pc ls (.int y :: .int x :: st) h Q := r_next hf rfl hk
theorem w_div {g : Int32 → Int32 → Int32} {x y : Int32} (hf : q_P β xs L k pc = some (im_div g t)) (hy : y ≠ 0) (hk : q_W β xs L d k t ls (.int (g x y) :: st) h Q) : q_W β xs L d k pc ls (.int y :: .int x :: st) h Q := r_next hf (by unfold im_div; exact if_neg hy) hk
theorem w_un {g : Int32 → Int32} {x : Int32} (hf : q_P β xs L k pc = some (im_un g t)) (hk : q_W β xs L d k t ls (.int (g x) :: st) h Q) : q_W β xs L d k pc ls (.int x :: st) h Q := r_next hf rfl hk
theorem w_lbin {g : Int64 → Int64 → Int64} {x y : Int64} (hf : q_P β xs L k pc = some (im_lbin g t)) (hk : q_W β xs L d k t ls (.long (g x y) :: st) h Q) : q_W β xs L d k pc ls (.long y :: .long x :: st) h Q := r_next hf rfl hk
theorem w_lsh {g : Int64 → Int32 → Int64} {x : Int64} {y : Int32} (hf : q_P β xs L k pc = some (im_lsh g t)) (hk : q_W β xs L d k t ls (.long (g x y) :: st) h Q) : q_W β xs L d k pc ls (.int y :: .long x :: st) h Q := r_next hf rfl hk
theorem w_lcmp {x y : Int64} (hf : q_P β xs L k pc = some (im_lcmp t)) (hk : q_W β xs L d k t ls (.int (if x > y then 1 else if x = y then 0 else -1) :: st) h Q) : q_W β xs L d k pc ls (.long y :: .long x :: st) h Q := r_next hf rfl hk
theorem w_i2l {x : Int32} (hf : q_P β xs L k pc = some (im_i2l t)) (hk : q_W β xs L d k t ls (.long x.toInt64 :: st) h Q) : q_W β xs L d k pc ls (.int x :: st) h Q := r_next hf rfl hk
theorem w_dupi {x : Int32} (hf : q_P β xs L k pc = some (im_dup t)) (hk : q_W β xs L d k t ls (.int x :: .int x :: st) h Q) : q_W β xs L d k pc ls (.int x :: st) h Q := r_next hf rfl hk
theorem w_dupr {x : Nat} (hf : q_P β xs L k pc = some (im_dup t)) (hk : q_W β xs L d k t ls (.ref x :: .ref x :: st) h Q) : q_W β xs L d k pc ls (.ref x :: st) h Q := r_next hf rfl hk
theorem w_dup2 {y : Int32} {x : Nat} (hf : q_P β xs L k pc = some (im_dup2 t)) (hk : q_W β xs L d k t ls (.int y :: .ref x :: .int y :: .ref x :: st) h Q) : q_W β xs L d k pc ls (.int y :: .ref x :: st) h Q := r_next hf rfl hk
theorem w_pop {x : Int32} (hf : q_P β xs L k pc = some (im_pop t)) (hk : q_W β xs L d k t ls st h Q) : q_W β xs L d k pc ls (.int x :: st) h Q := r_next hf rfl hk
theorem w_obj {x : Nat} (hf : q_P β xs L k pc = some (im_obj t)) (hk : q_W β xs L d k t ls [] h Q) : q_W β xs L d k pc ls [.ref x] h Q := r_next hf rfl hk
theorem w_ifeq {x : Int32} (hf : q_P β xs L k pc = some (im_if1 ib_eq t u)) (h1 : x = 0 → q_W β xs L d k t ls st h Q) (h2 : ¬ x = 0 → q_W β xs L d k u ls st h Q) : q_W β xs L d k pc ls (.int x :: st) h Q := by
  by_cases hc : ib_eq x = true
  · exact r_next hf (by unfold im_if1; simp only [hc, if_true]) (h1 (by simpa [ib_eq] using hc))
  · exact r_next hf (by unfold im_if1; simp only [hc]; rfl) (h2 (by simpa [ib_eq] using hc))
theorem w_ifne {x : Int32} (hf : q_P β xs L k pc = some (im_if1 ib_ne t u)) (h1 : ¬ x = 0 → q_W β xs L d k t ls st h Q) (h2 : x = 0 → q_W β xs L d k u ls st h Q) : q_W β xs L d k pc ls (.int x :: st) h Q := by
  by_cases hc : ib_ne x = true
  · exact r_next hf (by unfold im_if1; simp only [hc, if_true]) (h1 (by simpa [ib_ne] using hc))
  · exact r_next hf (by unfold im_if1; simp only [hc]; rfl) (h2 (by simpa [ib_ne] using hc))
theorem w_iflt {x : Int32} (hf : q_P β xs L k pc = some (im_if1 ib_lt t u)) (h1 : x < 0 → q_W β xs L d k t ls st h Q) (h2 : ¬ x < 0 → q_W β xs L d k u ls st h Q) : q_W β xs L d k pc ls (.int x :: st) h Q := by
  by_cases hc : ib_lt x = true
  · exact r_next hf (by unfold im_if1; simp only [hc, if_true]) (h1 (by simpa [ib_lt] using hc))
  · exact r_next hf (by unfold im_if1; simp only [hc]; rfl) (h2 (by simpa [ib_lt] using hc))
theorem w_ifge {x : Int32} (hf : q_P β xs L k pc = some (im_if1 ib_ge t u)) (h1 : ¬ x < 0 → q_W β xs L d k t ls st h Q) (h2 : x < 0 → q_W β xs L d k u ls st h Q) : q_W β xs L d k pc ls (.int x :: st) h Q := by
  by_cases hc : ib_ge x = true
  · exact r_next hf (by unfold im_if1; simp only [hc, if_true]) (h1 (by simpa [ib_ge] using hc))
  · exact r_next hf (by unfold im_if1; simp only [hc]; rfl) (h2 (by simpa [ib_ge] using hc))
theorem w_ifgt {x : Int32} (hf : q_P β xs L k pc = some (im_if1 ib_gt t u)) (h1 : 0 < x → q_W β xs L d k t ls st h Q) (h2 : ¬ 0 < x → q_W β xs L d k u ls st h Q) : q_W β xs L d k pc ls (.int x :: st) h Q := by
  by_cases hc : ib_gt x = true
  · exact r_next hf (by unfold im_if1; simp only [hc, if_true]) (h1 (by simpa [ib_gt] using hc))
  · exact r_next hf (by unfold im_if1; simp only [hc]; rfl) (h2 (by simpa [ib_gt] using hc))
theorem w_ifle {x : Int32} (hf : q_P β xs L k pc = some (im_if1 ib_le t u)) (h1 : ¬ 0 < x → q_W β xs L d k t ls st h Q) (h2 : 0 < x → q_W β xs L d k u ls st h Q) : q_W β xs L d k pc ls (.int x :: st) h Q := by
  by_cases hc : ib_le x = true
  · exact r_next hf (by unfold im_if1; simp only [hc, if_true]) (h1 (by simpa [ib_le] using hc))
  · exact r_next hf (by unfold im_if1; simp only [hc]; rfl) (h2 (by simpa [ib_le] using hc))
theorem w_iceq {x y : Int32} (hf : q_P β xs L k pc = some (im_if2 ic_eq t u)) (h1 : x = y → q_W β xs L d k t ls st h Q) (h2 : ¬ x = y → q_W β xs L d k u ls st h Q) : q_W β xs L d k pc ls (.int y :: .int x :: st) h Q := by
  by_cases hc : ic_eq x y = true
  · exact r_next hf (by unfold im_if2; simp only [hc, if_true]) (h1 (by simpa [ic_eq] using hc))
  · exact r_next hf (by unfold im_if2; simp only [hc]; rfl) (h2 (by simpa [ic_eq] using hc))
theorem w_icne {x y : Int32} (hf : q_P β xs L k pc = some (im_if2 ic_ne t u)) (h1 : ¬ x = y → q_W β xs L d k t ls st h Q) (h2 : x = y → q_W β xs L d k u ls st h Q) : q_W β xs L d k pc ls (.int y :: .int x :: st) h Q := by
  by_cases hc : ic_ne x y = true
  · exact r_next hf (by unfold im_if2; simp only [hc, if_true]) (h1 (by simpa [ic_ne] using hc))
  · exact r_next hf (by unfold im_if2; simp only [hc]; rfl) (h2 (by simpa [ic_ne] using hc))
theorem w_iclt {x y : Int32} (hf : q_P β xs L k pc = some (im_if2 ic_lt t u)) (h1 : x < y → q_W β xs L d k t ls st h Q) (h2 : ¬ x < y → q_W β xs L d k u ls st h Q) : q_W β xs L d k pc ls (.int y :: .int x :: st) h Q := by
  by_cases hc : ic_lt x y = true
  · exact r_next hf (by unfold im_if2; simp only [hc, if_true]) (h1 (by simpa [ic_lt] using hc))
  · exact r_next hf (by unfold im_if2; simp only [hc]; rfl) (h2 (by simpa [ic_lt] using hc))
theorem w_icge {x y : Int32} (hf : q_P β xs L k pc = some (im_if2 ic_ge t u)) (h1 : ¬ x < y → q_W β xs L d k t ls st h Q) (h2 : x < y → q_W β xs L d k u ls st h Q) : q_W β xs L d k pc ls (.int y :: .int x :: st) h Q := by
  by_cases hc : ic_ge x y = true
  · exact r_next hf (by unfold im_if2; simp only [hc, if_true]) (h1 (by simpa [ic_ge] using hc))
  · exact r_next hf (by unfold im_if2; simp only [hc]; rfl) (h2 (by simpa [ic_ge] using hc))
theorem w_icgt {x y : Int32} (hf : q_P β xs L k pc = some (im_if2 ic_gt t u)) (h1 : y < x → q_W β xs L d k t ls st h Q) (h2 : ¬ y < x → q_W β xs L d k u ls st h Q) : q_W β xs L d k pc ls (.int y :: .int x :: st) h Q := by
  by_cases hc : ic_gt x y = true
  · exact r_next hf (by unfold im_if2; simp only [hc, if_true]) (h1 (by simpa [ic_gt] using hc))
  · exact r_next hf (by unfold im_if2; simp only [hc]; rfl) (h2 (by simpa [ic_gt] using hc))
theorem w_icle {x y : Int32} (hf : q_P β xs L k pc = some (im_if2 ic_le t u)) (h1 : ¬ y < x → q_W β xs L d k t ls st h Q) (h2 : y < x → q_W β xs L d k u ls st h Q) : q_W β xs L d k pc ls (.int y :: .int x :: st) h Q := by
  by_cases hc : ic_le x y = true
  · exact r_next hf (by unfold im_if2; simp only [hc, if_true]) (h1 (by simpa [ic_le] using hc))
  · exact r_next hf (by unfold im_if2; simp only [hc]; rfl) (h2 (by simpa [ic_le] using hc))
variable {G : am_G} {I : Nat → Nat → Int32} {J : Nat → Nat → Int64}
theorem w_gi {ci kf i : Nat} (hf : q_P β xs L k pc = some (im_gi q_SH ci kf t)) (hs : q_SH i = .inr ci) (hk : q_W β xs L d k t ls (.int (I i kf) :: st) (G, I, J) Q) : q_W β xs L d k pc ls (.ref i :: st) (G, I, J) Q := r_next hf (by unfold im_gi; exact if_pos hs) hk
theorem w_gi' {ci kf i : Nat} {x : Int32} (hf : q_P β xs L k pc = some (im_gi q_SH ci kf t)) (hs : q_SH i = .inr ci) (he : I i kf = x) (hk : q_W β xs L d k t ls (.int x :: st) (G, I, J) Q) : q_W β xs L d k pc ls (.ref i :: st) (G, I, J) Q := by
  subst he
  exact w_gi hf hs hk
theorem w_ald' {ty : FieldType} {j : Int32} {i N : Nat} {x : Int32} (hf : q_P β xs L k pc = some (im_ald q_SH ty t)) (hs : q_SH i = .inl (ty, N)) (hj : am_is j N = true) (he : I i j.toNatClampNeg = x) (hk : q_W β xs L d k t ls (.int x :: st) (G, I, J) Q) : q_W β xs L d k pc ls (.int j :: .ref i :: st) (G, I, J) Q := by
  subst he
  exact r_next hf (by unfold im_ald; simp only [hs, hj, and_self, if_true]) hk
theorem w_gl {ci kf i : Nat} (hf : q_P β xs L k pc = some (im_gl q_SH ci kf t)) (hs : q_SH i = .inr ci) (hk : q_W β xs L d k t ls (.long (J i kf) :: st) (G, I, J) Q) : q_W β xs L d k pc ls (.ref i :: st) (G, I, J) Q := r_next hf (by unfold im_gl; exact if_pos hs) hk
theorem w_gr {ci kf i j : Nat} (hf : q_P β xs L k pc = some (im_gr q_SH ci kf t)) (hs : q_SH i = .inr ci) (hr : G.2.1 i kf = some j) (hk : q_W β xs L d k t ls (.ref j :: st) (G, I, J) Q) : q_W β xs L d k pc ls (.ref i :: st) (G, I, J) Q := r_next hf (by unfold im_gr; simp only [hs, if_true, hr]) hk
theorem w_pi {ci kf i : Nat} {x : Int32} (hf : q_P β xs L k pc = some (im_pi q_SH ci kf t)) (hs : q_SH i = .inr ci) (hk : q_W β xs L d k t ls st (G, am_u I i kf x, J) Q) : q_W β xs L d k pc ls (.int x :: .ref i :: st) (G, I, J) Q := r_next hf (by unfold im_pi; exact if_pos hs) hk
theorem w_pl {ci kf i : Nat} {x : Int64} (hf : q_P β xs L k pc = some (im_pl q_SH ci kf t)) (hs : q_SH i = .inr ci) (hk : q_W β xs L d k t ls st (G, I, am_u J i kf x) Q) : q_W β xs L d k pc ls (.long x :: .ref i :: st) (G, I, J) Q := r_next hf (by unfold im_pl; exact if_pos hs) hk
theorem w_pr {ci kf i x : Nat} (hf : q_P β xs L k pc = some (im_pr q_SH ci kf t)) (hs : q_SH i = .inr ci) (hk : q_W β xs L d k t ls st ((G.1, am_u G.2.1 i kf (some x), G.2.2), I, J) Q) : q_W β xs L d k pc ls (.ref x :: .ref i :: st) (G, I, J) Q := r_next hf (by unfold im_pr; exact if_pos hs) hk
theorem w_ald {ty : FieldType} {j : Int32} {i N : Nat} (hf : q_P β xs L k pc = some (im_ald q_SH ty t)) (hs : q_SH i = .inl (ty, N)) (hj : am_is j N = true) (hk : q_W β xs L d k t ls (.int (I i j.toNatClampNeg) :: st) (G, I, J) Q) : q_W β xs L d k pc ls (.int j :: .ref i :: st) (G, I, J) Q := r_next hf (by unfold im_ald; simp only [hs, hj, and_self, if_true]) hk
theorem w_lald {j : Int32} {i N : Nat} (hf : q_P β xs L k pc = some (im_lald q_SH t)) (hs : q_SH i = .inl (.long, N)) (hj : am_is j N = true) (hk : q_W β xs L d k t ls (.long (J i j.toNatClampNeg) :: st) (G, I, J) Q) : q_W β xs L d k pc ls (.int j :: .ref i :: st) (G, I, J) Q := r_next hf (by unfold im_lald; simp only [hs, hj, and_self, if_true]) hk
theorem w_ast {ty : FieldType} {g : Int32 → Int32} {j x : Int32} {i N : Nat} (hf : q_P β xs L k pc = some (im_ast q_SH ty g t)) (hs : q_SH i = .inl (ty, N)) (hj : am_is j N = true) (hk : q_W β xs L d k t ls st (G, am_u I i j.toNatClampNeg (g x), J) Q) : q_W β xs L d k pc ls (.int x :: .int j :: .ref i :: st) (G, I, J) Q := r_next hf (by unfold im_ast; simp only [hs, hj, and_self, if_true]) hk
theorem w_last {j : Int32} {x : Int64} {i N : Nat} (hf : q_P β xs L k pc = some (im_last q_SH t)) (hs : q_SH i = .inl (.long, N)) (hj : am_is j N = true) (hk : q_W β xs L d k t ls st (G, I, am_u J i j.toNatClampNeg x) Q) : q_W β xs L d k pc ls (.long x :: .int j :: .ref i :: st) (G, I, J) Q := r_next hf (by unfold im_last; simp only [hs, hj, and_self, if_true]) hk
theorem w_alen {ty : FieldType} {i N : Nat} (hf : q_P β xs L k pc = some (im_alen q_SH ty t)) (hs : q_SH i = .inl (ty, N)) (hk : q_W β xs L d k t ls (.int (Int32.ofNat N) :: st) (G, I, J) Q) : q_W β xs L d k pc ls (.ref i :: st) (G, I, J) Q := r_next hf (by unfold im_alen; simp only [hs, if_true]) hk
theorem w_eld {e n : Nat} {f : Nat → Int32} {j : Int32} (hf : q_P β xs L k pc = some (im_eld e n f t)) (hj : am_is j n = true) (hk : q_W β xs L d k t ls (.int (f j.toNatClampNeg) :: st) h Q) : q_W β xs L d k pc ls (.int j :: .retAddr e :: st) h Q := r_next hf (by unfold im_eld; exact if_pos ⟨rfl, hj⟩) hk
theorem w_elen {e n : Nat} (hf : q_P β xs L k pc = some (im_elen e n t)) (hk : q_W β xs L d k t ls (.int (Int32.ofNat n) :: st) h Q) : q_W β xs L d k pc ls (.retAddr e :: st) h Q := r_next hf (by unfold im_elen; exact if_pos rfl) hk
theorem w_mm {g : Int32 → Int32 → Int32} {x y : Int32} (hf : q_P β xs L k pc = some (im_mm g t)) (hl : Nat.ble st.length 20 = true) (hk : q_W β xs L d k t ls (.int (g x y) :: st) h Q) : q_W β xs L d k pc ls (.int y :: .int x :: st) h Q := r_next hf (by unfold im_mm; exact if_pos (Nat.le_of_ble_eq_true hl)) hk
theorem w_acopy {n dp sp : Int32} {i1 i0 N0 N1 : Nat} (hf : q_P β xs L k pc = some (im_acopy q_SH t)) (h0 : q_SH i0 = .inl (.int, N0)) (h1 : q_SH i1 = .inl (.int, N1)) (hc : ¬ sp < 0 ∧ ¬ dp < 0 ∧ ¬ n < 0 ∧ sp.toNatClampNeg + n.toNatClampNeg ≤ N0 ∧ dp.toNatClampNeg + n.toNatClampNeg ≤ N1) (hl : Nat.ble st.length 20 = true)
    (hk : q_W β xs L d k t ls st (G, am_row I i1 (va_cpy (I i0) (I i1) sp.toNatClampNeg dp.toNatClampNeg n.toNatClampNeg), J) Q) : q_W β xs L d k pc ls (.int n :: .int dp :: .ref i1 :: .int sp :: .ref i0 :: st) (G, I, J) Q :=
  r_next hf (by unfold im_acopy; simp only [h0, h1]; exact if_pos ⟨trivial, trivial, hc.1, hc.2.1, hc.2.2.1, hc.2.2.2.1, hc.2.2.2.2, Nat.le_of_ble_eq_true hl⟩) hk
theorem w_new {ci N : Nat} (hf : q_P β xs L k pc = some (im_new q_SH ci N t)) (hs : q_SH h.1.1 = .inr ci) (hk : q_W β xs L d k t ls (.ref h.1.1 :: st) (am_fresh h N) Q) : q_W β xs L d k pc ls st h Q := r_next hf (by unfold im_new; exact if_pos hs) hk
theorem w_newa {ty : FieldType} {n : Int32} (hf : q_P β xs L k pc = some (im_newa q_SH ty t)) (hs : q_SH h.1.1 = .inl (ty, n.toNatClampNeg) ∧ ¬ n < 0 ∧ n.toNatClampNeg ≤ 1000000) (hk : q_W β xs L d k t ls (.ref h.1.1 :: st) (am_fresh h n.toNatClampNeg) Q) : q_W β xs L d k pc ls (.int n :: st) h Q := r_next hf (by unfold im_newa; exact if_pos hs) hk
theorem w_sw {g : Int32 → Option Nat} {x : Int32} (hf : q_P β xs L k pc = some (im_sw g)) {v : Nat} (hg : g x = some v) (hk : q_W β xs L d k v ls st h Q) : q_W β xs L d k pc ls (.int x :: st) h Q := r_next hf (by unfold im_sw; simp only [hg]) hk
theorem w_xr {e : Nat} (hf : q_P β xs L k pc = some (im_xr t)) (he : e = 3 ∨ e = 4) (hk : q_W β xs L d k t ls (.retAddr (e + 2) :: st) h Q) : q_W β xs L d k pc ls (.retAddr e :: st) h Q := r_next hf (by unfold im_xr; exact if_pos he) hk
theorem w_xc {e : Nat} (hf : q_P β xs L k pc = some (im_xc t)) (he : e = 3 ∨ e = 4) (hk : q_W β xs L d k t ls (.int 0 :: st) h Q) : q_W β xs L d k pc ls (.retAddr e :: st) h Q := r_next hf (by unfold im_xc; exact if_pos he) hk
theorem w_xl {e : Nat} (hf : q_P β xs L k pc = some (im_xl t)) (he : e = 5 ∨ e = 6) (hk : q_W β xs L d k t ls (.int (Int32.ofNat (q_len.getD (e - 5) 0)) :: st) h Q) : q_W β xs L d k pc ls (.retAddr e :: st) h Q := r_next hf (by unfold im_xl; exact if_pos he) hk
theorem w_xb {e : Nat} {j : Int32} (hf : q_P β xs L k pc = some (im_xb t)) (he : (e = 5 ∨ e = 6) ∧ am_is j (q_len.getD (e - 5) 0) = true) (hk : q_W β xs L d k t ls (.int ((q_byt.getD (e - 5) []).getD j.toNatClampNeg 0) :: st) h Q) : q_W β xs L d k pc ls (.int j :: .retAddr e :: st) h Q := r_next hf (by unfold im_xb; exact if_pos he) hk
theorem w_fm (hf : q_P β xs L k pc = some (im_fm β t)) (hk : q_W β xs L d k t ls ((if β = true then .null else .retAddr 7) :: st) h Q) : q_W β xs L d k pc ls st h Q := r_next hf rfl hk
theorem w_ret0 (hf : q_P β xs L k pc = some im_ret0e) (hq : Q (.inl none) h) : q_W β xs L d k pc ls [] h Q := r_end hf rfl hq
theorem w_reti {x : Int32} (hf : q_P β xs L k pc = some im_reti) (hq : Q (.inl (some (.int x))) h) : q_W β xs L d k pc ls [.int x] h Q := r_end hf rfl hq
theorem w_retz {x : Int32} (hf : q_P β xs L k pc = some im_retz) (hx : x = 0 ∨ x = 1) (hq : Q (.inl (some (.int x))) h) : q_W β xs L d k pc ls [.int x] h Q := r_end hf (by unfold im_retz; exact if_pos hx) hq
theorem w_retl {x : Int64} (hf : q_P β xs L k pc = some im_retl) (hq : Q (.inl (some (.long x))) h) : q_W β xs L d k pc ls [.long x] h Q := r_end hf rfl hq
theorem w_reta {x : Nat} (hf : q_P β xs L k pc = some im_reta) (hq : Q (.inl (some (.ref x))) h) : q_W β xs L d k pc ls [.ref x] h Q := r_end hf rfl hq
theorem w_retn {ty : FieldType} {x : Int32} (hf : q_P β xs L k pc = some (im_retn ty)) (hx : narrow ty (.int x) = .int x) (hq : Q (.inl (some (.int x))) h) : q_W β xs L d k pc ls [.int x] h Q := r_end hf (by unfold im_retn; exact if_pos hx) hq
theorem w_thr {x : Nat} (hf : q_P β xs L k pc = some (im_thr x)) (hq : Q (.inr x) (am_thr h)) : q_W β xs L d k pc ls [] h Q := r_end hf rfl hq
/-! calls -/
theorem w_invs {k' n : Nat} {as st' : List Value} {Q1 : am_O → am_H → Prop} (hf : q_P β xs L k pc = some (im_invs k' n t)) (h1 : Nat.ble n st.length = true) (h2 : Nat.ble (am_cat (st.drop n)) 8 = true) (h3 : am_c1 (st.take n) = true) (ha : (st.take n).reverse ++ List.replicate (q_ML k' - (st.take n).reverse.length) (.retAddr 0) = as) (hs : st.drop n = st')
    (hc : q_W β xs L d k' 0 as [] h Q1) (hk : ∀ v h', Q1 (.inl v) h' → q_W β xs L (d + 1) k t ls (v.toList ++ st') h' Q) (he : ∀ x h', Q1 (.inr x) h' → q_X β xs L (d + 1) k pc ls Q x h') : q_W β xs L (d + 1) k pc ls st h Q := by
  subst ha; subst hs
  exact r_call hf (by unfold im_invs; exact if_pos ⟨Nat.le_of_ble_eq_true h1, Nat.le_of_ble_eq_true h2, h3⟩) hc hk he
theorem w_inv {ci k' n i : Nat} {as st' : List Value} {Q1 : am_O → am_H → Prop} (hf : q_P β xs L k pc = some (im_inv q_SH ci k' n t)) (h1 : Nat.ble n st.length = true) (h2 : Nat.ble (am_cat st') 8 = true) (h3 : am_c1 (st.take n) = true) (hi : q_SH i = .inr ci) (ha : (.ref i :: (st.take n).reverse) ++ List.replicate (q_ML k' - (.ref i :: (st.take n).reverse : List Value).length) (.retAddr 0) = as) (hs : st.drop n = .ref i :: st')
    (hc : q_W β xs L d k' 0 as [] h Q1) (hk : ∀ v h', Q1 (.inl v) h' → q_W β xs L (d + 1) k t ls (v.toList ++ st') h' Q) (he : ∀ x h', Q1 (.inr x) h' → q_X β xs L (d + 1) k pc ls Q x h') : q_W β xs L (d + 1) k pc ls st h Q := by
  subst ha
  exact r_call hf (by unfold im_inv; simp only [hs]; exact if_pos ⟨Nat.le_of_ble_eq_true h1, Nat.le_of_ble_eq_true h2, hi, h3⟩) hc hk he
theorem w_invx {k' n e : Nat} {as st' : List Value} {Q1 : am_O → am_H → Prop} (hf : q_P β xs L k pc = some (im_invx k' n t)) (h1 : Nat.ble n st.length = true) (h2 : Nat.ble (am_cat st') 8 = true) (h3 : am_c1 (st.take n) = true) (hi : e = 3 ∨ e = 4) (ha : (.retAddr e :: (st.take n).reverse) ++ List.replicate (q_ML k' - (.retAddr e :: (st.take n).reverse : List Value).length) (.retAddr 0) = as) (hs : st.drop n = .retAddr e :: st')
    (hc : q_W β xs L d k' 0 as [] h Q1) (hk : ∀ v h', Q1 (.inl v) h' → q_W β xs L (d + 1) k t ls (v.toList ++ st') h' Q) (he : ∀ x h', Q1 (.inr x) h' → q_X β xs L (d + 1) k pc ls Q x h') : q_W β xs L (d + 1) k pc ls st h Q := by
  subst ha
  exact r_call hf (by unfold im_invx; simp only [hs]; exact if_pos ⟨Nat.le_of_ble_eq_true h1, Nat.le_of_ble_eq_true h2, hi, h3⟩) hc hk he
theorem k_v {A : am_G → (Nat → Nat → Int32) → (Nat → Nat → Int64) → Prop} {E : Nat → am_G → (Nat → Nat → Int32) → (Nat → Nat → Int64) → Prop} {st' : List Value} (hk : ∀ (G : am_G) (I : Nat → Nat → Int32) (J : Nat → Nat → Int64), A G I J → q_W β xs L d k t ls (st') (G, I, J) Q) : ∀ v h', q_Rv A E (.inl v) h' → q_W β xs L d k t ls (v.toList ++ st') h' Q := by
  intro v h' hq
  obtain ⟨G', I', J'⟩ := h'
  cases v with
  | none => exact hk _ _ _ hq
  | some v => exact absurd hq id
theorem k_i {A : Int32 → am_G → (Nat → Nat → Int32) → (Nat → Nat → Int64) → Prop} {E : Nat → am_G → (Nat → Nat → Int32) → (Nat → Nat → Int64) → Prop} {st' : List Value} (hk : ∀ (v : Int32) (G : am_G) (I : Nat → Nat → Int32) (J : Nat → Nat → Int64), A v G I J → q_W β xs L d k t ls (.int v :: st') (G, I, J) Q) : ∀ v h', q_Ri A E (.inl v) h' → q_W β xs L d k t ls (v.toList ++ st') h' Q := by
  intro v h' hq
  obtain ⟨G', I', J'⟩ := h'
  cases v with
  | none => exact absurd hq id
  | some v => cases v <;> first | exact hk _ _ _ _ hq | exact absurd hq id
theorem k_l {A : Int64 → am_G → (Nat → Nat → Int32) → (Nat → Nat → Int64) → Prop} {E : Nat → am_G → (Nat → Nat → Int32) → (Nat → Nat → Int64) → Prop} {st' : List Value} (hk : ∀ (v : Int64) (G : am_G) (I : Nat → Nat → Int32) (J : Nat → Nat → Int64), A v G I J → q_W β xs L d k t ls (.long v :: st') (G, I, J) Q) : ∀ v h', q_Rl A E (.inl v) h' → q_W β xs L d k t ls (v.toList ++ st') h' Q := by
  intro v h' hq
  obtain ⟨G', I', J'⟩ := h'
  cases v with
  | none => exact absurd hq id
  | some v => cases v <;> first | exact hk _ _ _ _ hq | exact absurd hq id
theorem k_r {A : Nat → am_G → (Nat → Nat → Int32) → (Nat → Nat → Int64) → Prop} {E : Nat → am_G → (Nat → Nat → Int32) → (Nat → Nat → Int64) → Prop} {st' : List Value} (hk : ∀ (v : Nat) (G : am_G) (I : Nat → Nat → Int32) (J : Nat → Nat → Int64), A v G I J → q_W β xs L d k t ls (.ref v :: st') (G, I, J) Q) : ∀ v h', q_Rr A E (.inl v) h' → q_W β xs L d k t ls (v.toList ++ st') h' Q := by
  intro v h' hq
  obtain ⟨G', I', J'⟩ := h'
  cases v with
  | none => exact absurd hq id
  | some v => cases v <;> first | exact hk _ _ _ _ hq | exact absurd hq id
theorem x_n {A : am_O → am_H → Prop} (hh : ∀ x, q_HD k pc x = none) (hn : q_NT k = true) (he : ∀ x h', A (.inr x) h' → Q (.inr x) h') : ∀ x h', A (.inr x) h' → q_X β xs L d k pc ls Q x h' := by
  intro x h' ha
  unfold q_X
  rw [hh x]
  exact ⟨hn, he x h' ha⟩
theorem x_0 {A : am_O → am_H → Prop} (he : ∀ x h', A (.inr x) h' → False) : ∀ x h', A (.inr x) h' → q_X β xs L d k pc ls Q x h' := fun x h' ha => (he x h' ha).elim
end Wp

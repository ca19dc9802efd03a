/-! ===== the invariant of the law ===== -/
def c_byte (b : Nat) : Int32 := if b < 128 then nI b else nI b - 256
/-- the class's bits of all ways -/
def c_Wk (D I : a_F) : Prop := I 0 11 = -1 ∨ ∃ day k, day ≤ 72999 ∧ k ≤ 999 ∧ I 0 11 = nI (day * 1000 + k) ∧ ∀ w, w < a_ways D (a_doubts D (nI k)) → ∀ p, p < 20 → I 58 (20 * w + p) = a_run D w (nI day) (nI k) (-1) 0 p
/-- the reference's bits of all ways -/
def r_Bk (D I : a_F) : Prop := ∃ day k, day ≤ 72999 ∧ k ≤ 999 ∧ I 59 89 = nI day ∧ I 59 90 = nI k ∧ ∀ w, w < a_ways D (a_doubts D (nI k)) → ∀ p, p < 20 → I 115 (20 * w + p) = a_run D w (nI day) (nI k) (-1) 0 p
/-- the class stands well -/
def c_inv (e nl nq np nf na tn tp : Nat) (tb : Nat → Nat) (fp : Int32) (D : a_F) (G : am_G) (I : a_F) (J : Nat → Nat → Int64) : Prop :=
  ∃ j, c_L e j G ∧ c_D nl nq np nf na D I ∧ (I 0 10 = nI tn ∧ I 0 9 = nI tp ∧ I 32 11 = fp) ∧ (∀ i, i < tp → I 57 i = c_byte (tb i)) ∧ c_K nq j D I J ∧ c_Wk D I
/-- the reference's words -/
def q_kw (i : Nat) : Int64 := ([230702, 409189, 719722099, 111983872174, 659105125, 1476, 498, 14836, 2411144, 23716, 493192, 109559397, 20105925, 83431602, 1140, 267845, 203038898, 452599986, 777130148, 654825061, 19640, 1253, 643129, 8243, 524555859, 655, 824370, 14145700] : List Int64).getD i 0
/-- the reference stands well -/
def r_inv (v nl nq np nf na tn tp : Nat) (tb : Nat → Nat) (fp : Int32) (D I : a_F) (J : Nat → Nat → Int64) : Prop :=
  r_D nl nq np nf na D I ∧ (I 59 1 = nI tn ∧ I 59 20 = nI tp ∧ I 59 22 = fp) ∧ (∀ i, i < tp → tb i < 256 ∧ I 72 i = nI (tb i)) ∧ (∃ ve fv, ve ≤ v ∧ I 59 2 = nI ve ∧ I 59 88 = nI fv ∧ fv ≤ ve ∧ (fv = ve → r_Bk D I)) ∧ (∀ i, i < 28 → J 73 i = q_kw i) ∧ ∀ j, 3 * nf ≤ j → I 71 j = D 71 j
/-- what is told is well-formed -/
def w_ok (nl nq np nf na tn tp : Nat) (D : a_F) : Prop := a_D nl nq np nf na D ∧ a_DR np D ∧ tn ≤ 999 ∧ tp ≤ 500
/-- the reference's cells stay -/
def f_c {α : Type} (I I' : Nat → Nat → α) : Prop := ∀ c, 59 ≤ c → c < 117 → I' c = I c
/-- the class's cells stay -/
def f_r {α : Type} (I I' : Nat → Nat → α) : Prop := ∀ c, c < 59 ∨ 117 ≤ c → I' c = I c
theorem f_c.rf {α : Type} (I : Nat → Nat → α) : f_c I I := fun _ _ _ => rfl
theorem f_r.rf {α : Type} (I : Nat → Nat → α) : f_r I I := fun _ _ => rfl
theorem f_c.tr {α : Type} {I I1 I2 : Nat → Nat → α} (h1 : f_c I I1) (h2 : f_c I1 I2) : f_c I I2 := fun c a b => (h2 c a b).trans (h1 c a b)
theorem f_r.tr {α : Type} {I I1 I2 : Nat → Nat → α} (h1 : f_r I I1) (h2 : f_r I1 I2) : f_r I I2 := fun c a => (h2 c a).trans (h1 c a)
theorem f_c.up {α : Type} {I I1 : Nat → Nat → α} (h : f_c I I1) {c : Nat} (i : Nat) (x : α) (hc : c < 59 ∨ 117 ≤ c) : f_c I (am_u I1 c i x) := fun a h1 h2 => (am_u_row _ _ _ _ (by omega)).trans (h a h1 h2)
theorem f_r.up {α : Type} {I I1 : Nat → Nat → α} (h : f_r I I1) {c : Nat} (i : Nat) (x : α) (hc : 59 ≤ c ∧ c < 117) : f_r I (am_u I1 c i x) := fun a h1 => (am_u_row _ _ _ _ (by omega)).trans (h a h1)
theorem c_Wk.keep {D I I' : a_F} (h : c_Wk D I) (h0 : I' 0 = I 0) (h58 : I' 58 = I 58) : c_Wk D I' := by
  unfold c_Wk at h ⊢
  rw [h0, h58]
  exact h
theorem r_Bk.keep {D I I' : a_F} (h : r_Bk D I) (h59 : I' 59 89 = I 59 89) (h59' : I' 59 90 = I 59 90) (h115 : I' 115 = I 115) : r_Bk D I' := by
  unfold r_Bk at h ⊢
  rw [h59, h59', h115]
  exact h
theorem c_S.keep {nq j : Nat} {I I' s : a_F} (h : c_S nq j I s) (hf : ∀ c, 42 ≤ c → c < 55 ∨ 118 ≤ c → I' c = I c) : c_S nq j I' s := by
  have hr := c_row_ne (j := j)
  unfold c_S c_rw at h ⊢
  rw [hf 47 (by decide) (by decide), hf 48 (by decide) (by decide), hf 49 (by decide) (by decide), hf 50 (by decide) (by decide), hf 51 (by decide) (by decide), hf 52 (by decide) (by decide), hf 53 (by decide) (by decide), hf 54 (by decide) (by decide), hf 43 (by decide) (by decide), hf 44 (by decide) (by decide), hf 45 (by decide) (by decide), hf 42 (by decide) (by decide), hf (c_row j) (by omega) (by omega)]
  exact h
theorem c_K.keep {nq j : Nat} {D I I' : a_F} {J J' : Nat → Nat → Int64} (h : c_K nq j D I J) (hf : ∀ c, 42 ≤ c → c < 55 ∨ 118 ≤ c → I' c = I c) (hJ : J' 38 19 = J 38 19) : c_K nq j D I' J' := by
  unfold c_K at h ⊢
  rw [hJ]
  rcases h with h | ⟨k, way, last, w, h1, h2, h3, h4, h5, h6⟩
  · exact Or.inl h
  · exact Or.inr ⟨k, way, last, w, h1, h2, h3, h4, h5, h6.keep hf⟩
theorem c_dc_lt {c i : Nat} (h : c_dc c i = true) : c < 32 := by
  simp only [c_dc, Bool.or_eq_true, Bool.and_eq_true, Nat.beq_eq, Nat.ble_eq] at h
  omega
theorem r_dc_rng {c i : Nat} (h : r_dc c i = true) : 59 ≤ c ∧ c ≤ 86 := by
  simp only [r_dc, Bool.or_eq_true, Bool.and_eq_true, Nat.beq_eq, Nat.ble_eq] at h
  omega
theorem c_inv.fr {e nl nq np nf na tn tp : Nat} {tb : Nat → Nat} {fp : Int32} {D : a_F} {G : am_G} {I I' : a_F} {J J' : Nat → Nat → Int64} (h : c_inv e nl nq np nf na tn tp tb fp D G I J) (hI : f_r I I') (hJ : f_r J J') : c_inv e nl nq np nf na tn tp tb fp D G I' J' := by
  obtain ⟨j, h1, h2, ⟨h3, h4, h5⟩, h6, h7, h8⟩ := h
  refine ⟨j, h1, h2.keep (fun c i hc => by rw [hI c (Or.inl (by have := c_dc_lt hc; omega))]), ⟨by rw [hI 0 (by decide)]; exact h3, by rw [hI 0 (by decide)]; exact h4, by rw [hI 32 (by decide)]; exact h5⟩, fun i hi => by rw [hI 57 (by decide)]; exact h6 i hi, h7.keep (fun c a b => hI c (by omega)) (by rw [hJ 38 (by decide)]), h8.keep (hI 0 (by decide)) (hI 58 (by decide))⟩
theorem r_inv.fc {v nl nq np nf na tn tp : Nat} {tb : Nat → Nat} {fp : Int32} {D I I' : a_F} {J J' : Nat → Nat → Int64} (h : r_inv v nl nq np nf na tn tp tb fp D I J) (hI : f_c I I') (hJ : f_c J J') : r_inv v nl nq np nf na tn tp tb fp D I' J' := by
  obtain ⟨h1, ⟨h2, h3, h4⟩, h5, ⟨ve, fv, h6, h7, h8, h9, h10⟩, h11⟩ := h
  have e59 := hI 59 (by decide) (by decide)
  refine ⟨h1.keep (fun c i hc => by rw [hI c (r_dc_rng hc).1 (by have := (r_dc_rng hc).2; omega)]), ⟨by rw [e59]; exact h2, by rw [e59]; exact h3, by rw [e59]; exact h4⟩, fun i hi => by rw [hI 72 (by decide) (by decide)]; exact h5 i hi, ⟨ve, fv, h6, by rw [e59]; exact h7, by rw [e59]; exact h8, h9, fun q => (h10 q).keep (by rw [e59]) (by rw [e59]) (hI 115 (by decide) (by decide))⟩, fun i hi => by rw [hJ 73 (by decide) (by decide)]; exact h11.1 i hi, fun j hj => by rw [hI 71 (by decide) (by decide)]; exact h11.2 j hj⟩
/-- what a reference's call may leave in its first cell -/
theorem r_inv.c0 {v nl nq np nf na tn tp : Nat} {tb : Nat → Nat} {fp : Int32} {D I : a_F} {J : Nat → Nat → Int64} (h : r_inv v nl nq np nf na tn tp tb fp D I J) (x : Int32) : r_inv v nl nq np nf na tn tp tb fp D (am_u I 59 0 x) J := by
  obtain ⟨h1, h2, h5, ⟨ve, fv, h6, h7, h8, h9, h10⟩, h11⟩ := h
  refine ⟨h1.keep (fun c i hc => ?_), h2, h5, ⟨ve, fv, h6, h7, h8, h9, fun q => h10 q⟩, h11⟩
  rw [am_u_ne]
  by_cases h59 : c = 59
  · subst h59
    refine Or.inr (fun q => ?_)
    subst q
    cases hc
  · exact Or.inl h59
theorem c_inv.tw {e nl nq np nf na tn tp : Nat} {tb : Nat → Nat} {fp : Int32} {D : a_F} {G : am_G} {I : a_F} {J : Nat → Nat → Int64} (h : c_inv e nl nq np nf na tn tp tb fp D G I J) : c_inv (e + 1) nl nq np nf na tn tp tb fp D (am_thr (G, I, J)).1 I J := by
  obtain ⟨j, ⟨h1, h2, h3, h4, h5, h6⟩, hr⟩ := h
  exact ⟨j, ⟨h1, h2, h3, h4, by show G.2.2.1 + 1 = _; omega, by show G.2.2.2 + 6 = _; omega⟩, hr⟩
section Inv1
variable {β : Bool} {xs : Nat → Int32} {L : Nat}
/-- from a post to a post -/
theorem q_useR {d d' k pc : Nat} {ls st : List Value} {h : am_H} {P : am_O → am_H → Prop} {A : Int32 → am_G → (Nat → Nat → Int32) → (Nat → Nat → Int64) → Prop} {E : Nat → am_G → (Nat → Nat → Int32) → (Nat → Nat → Int64) → Prop} (hw : q_W β xs L d k pc ls st h P) (hd : d ≤ d') (hA : ∀ o h', P o h' → q_Ri A E o h') : q_W β xs L d' k pc ls st h (q_Ri A E) := q_mono hw hd hA
theorem q_useRv {d d' k pc : Nat} {ls st : List Value} {h : am_H} {P : am_O → am_H → Prop} {A : am_G → (Nat → Nat → Int32) → (Nat → Nat → Int64) → Prop} {E : Nat → am_G → (Nat → Nat → Int32) → (Nat → Nat → Int64) → Prop} (hw : q_W β xs L d k pc ls st h P) (hd : d ≤ d') (hA : ∀ o h', P o h' → q_Rv A E o h') : q_W β xs L d' k pc ls st h (q_Rv A E) := q_mono hw hd hA
variable {G : am_G} {I : a_F} {J : Nat → Nat → Int64}
/-- a check of the reference's: right(b, t) -/
theorem r_right {d : Nat} (hR : q_RT G) (b : Bool) (t : Int32) (h0 : I 59 0 = 0) (ht : ¬ t = 0) : q_W β xs L d 103 0 [.ref 59, .int (a_is b), .int t] [] (G, I, J) (fun o h => o = .inl (some (.int (a_is b))) ∧ h = (G, (if b = true then I else am_u I 59 0 t), J)) := by
  refine g_103_0 hR _ _ ⟨fun z => absurd h0 z, fun _ => ⟨fun z => ?_, fun z => ?_⟩⟩
  · have hb : b = true := by cases b; exact absurd rfl z; rfl
    subst hb
    exact g_103_16 hR _ _ ⟨fun q => absurd h0 q, fun _ => g_103_28 hR _ _ _ ⟨Or.inr rfl, rfl, rfl⟩⟩
  · have hb : b = false := a_is_0.mp z
    subst hb
    exact g_103_16 hR _ _ ⟨fun _ => g_103_28 hR _ _ _ ⟨Or.inl rfl, rfl, rfl⟩, fun q => absurd (am_u_same.symm.trans q) ht⟩
/-- a number below a count -/
def a_lt (x : Int32) (n : Nat) : Bool := !decide (x < 0) && decide (x < nI n)
theorem a_lt_of {x : Int32} {n : Nat} (hn : n < 2 ^ 31) (h : a_lt x n = true) : ∃ i, i < n ∧ x = nI i := by
  unfold a_lt at h
  rw [Bool.and_eq_true] at h
  have h1 : ¬ x < 0 := by simpa using h.1
  have h2 : x < nI n := of_decide_eq_true h.2
  obtain ⟨i, hi, hx⟩ := nI_of h1
  rw [hx, nI_ltI hi hn] at h2
  exact ⟨i, h2, hx⟩
theorem c_needN {d : Nat} (hR : q_RT G) (x : Int32) (n : Nat) : q_W β xs L d 91 0 [.int x, .int (nI n)] [] (G, I, J) (fun o h => (a_lt x n = true ∧ o = .inl none ∧ h = (G, I, J)) ∨ (a_lt x n = false ∧ o = .inr 1 ∧ h = am_thr (G, I, J))) := by
  refine g_91_0 hR _ _ ⟨fun z => g_91_9 hR _ _ (Or.inr ⟨by simp [a_lt, z], rfl, rfl⟩), fun z => ⟨fun y => Or.inl ⟨by simp [a_lt, z, y], rfl, rfl⟩, fun y => g_91_9 hR _ _ (Or.inr ⟨by simp [a_lt, y], rfl, rfl⟩)⟩⟩
/-- a day -/
def a_dy (x : Int32) : Bool := !decide (x < 0) && !decide (72999 < x)
theorem a_dy_of {x : Int32} (h : a_dy x = true) : ∃ i, i ≤ 72999 ∧ x = nI i := by
  unfold a_dy at h
  rw [Bool.and_eq_true] at h
  have h1 : ¬ x < 0 := by simpa using h.1
  have h2 : ¬ 72999 < x := by
    have := h.2
    rw [Bool.not_eq_true'] at this
    exact of_decide_eq_false this
  obtain ⟨i, hi, hx⟩ := nI_of h1
  have h3 : ¬ (nI 72999 < nI i) := by rw [← hx]; exact h2
  rw [nI_ltI (by omega) hi] at h3
  exact ⟨i, by omega, hx⟩
theorem c_isDay {d : Nat} (hR : q_RT G) (x : Int32) : q_W β xs L d 95 0 [.int x] [] (G, I, J) (fun o h => o = .inl (some (.int (a_is (a_dy x)))) ∧ h = (G, I, J)) := by
  refine g_95_0 hR _ ⟨fun z => g_95_14 hR _ (g_95_15 hR _ _ ⟨Or.inl rfl, by simp [a_dy, z, a_is], rfl⟩), fun z => ⟨fun y => g_95_14 hR _ (g_95_15 hR _ _ ⟨Or.inl rfl, by simp [a_dy, y, a_is], rfl⟩), fun y => g_95_15 hR _ _ ⟨Or.inr rfl, by simp [a_dy, z, y, a_is], rfl⟩⟩⟩
theorem r_isDay {d : Nat} (hR : q_RT G) (x : Int32) : q_W β xs L d 109 0 [.int x] [] (G, I, J) (fun o h => o = .inl (some (.int (a_is (a_dy x)))) ∧ h = (G, I, J)) := by
  refine g_109_0 hR _ ⟨fun z => g_109_14 hR _ (g_109_15 hR _ _ ⟨Or.inl rfl, by simp [a_dy, z, a_is], rfl⟩), fun z => ⟨fun y => g_109_14 hR _ (g_109_15 hR _ _ ⟨Or.inl rfl, by simp [a_dy, y, a_is], rfl⟩), fun y => g_109_15 hR _ _ ⟨Or.inr rfl, by simp [a_dy, z, y, a_is], rfl⟩⟩⟩
/-- an evening -/
def a_ev (x : Int32) (tn : Nat) : Bool := !decide (x < 0) && !decide (nI tn < x)
theorem a_ev_of {x : Int32} {tn : Nat} (ht : tn ≤ 999) (h : a_ev x tn = true) : ∃ i, i ≤ tn ∧ x = nI i := by
  unfold a_ev at h
  rw [Bool.and_eq_true] at h
  have h1 : ¬ x < 0 := by simpa using h.1
  have h2 : ¬ nI tn < x := by
    have := h.2
    rw [Bool.not_eq_true'] at this
    exact of_decide_eq_false this
  obtain ⟨i, hi, hx⟩ := nI_of h1
  rw [hx, nI_ltI (by omega) hi] at h2
  exact ⟨i, by omega, hx⟩
theorem c_needD {d : Nat} (hR : q_RT G) (x : Int32) : q_W β xs L (d + 1) 92 0 [.int x] [] (G, I, J) (fun o h => (a_dy x = true ∧ o = .inl none ∧ h = (G, I, J)) ∨ (a_dy x = false ∧ o = .inr 1 ∧ h = am_thr (G, I, J))) := by
  refine g_92_0 hR _ (q_useI (c_isDay (β := β) (xs := xs) (L := L) (d := d) hR x) (Nat.le_refl _) ⟨fun z => Or.inl ⟨?_, rfl, rfl⟩, fun z => Or.inr ⟨a_is_0.mp z, rfl, rfl⟩⟩)
  cases h : a_dy x with
  | true => rfl
  | false => exact absurd (a_is_0.mpr h) z
theorem c_needE {d tn : Nat} (hR : q_RT G) (h10 : I 0 10 = nI tn) (x : Int32) : q_W β xs L d 93 0 [.ref 0, .int x] [] (G, I, J) (fun o h => (a_ev x tn = true ∧ o = .inl none ∧ h = (G, I, J)) ∨ (a_ev x tn = false ∧ o = .inr 2 ∧ h = am_thr (G, I, J))) := by
  refine g_93_0 hR _ ?_
  rw [h10]
  exact ⟨fun z => g_93_12 hR _ (Or.inr ⟨by simp [a_ev, z], rfl, rfl⟩), fun z => ⟨fun y => Or.inl ⟨by simp [a_ev, z, y], rfl, rfl⟩, fun y => g_93_12 hR _ (Or.inr ⟨by simp [a_ev, y], rfl, rfl⟩)⟩⟩
end Inv1

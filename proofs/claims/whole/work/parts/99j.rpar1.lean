/-! ===== the reference's parser: its state, its small methods ===== -/
/-- how many cells codes take -/
def yx_n : yx_C → Nat
  | [] => 0
  | x :: r => (if x.1 = 1 ∨ x.1 = 2 then 2 else 1) + yx_n r
/-- the cells from u on spell these codes -/
def r_sp (f : Nat → Int32) : Nat → yx_C → Prop
  | _, [] => True
  | u, x :: r => f u = x.1 ∧ (if x.1 = 1 ∨ x.1 = 2 then f (u + 1) = x.2 ∧ r_sp f (u + 2) r else r_sp f (u + 1) r)
def yx_wo (x : Int32 × Int32) : Prop := x.1 = nI 1 ∨ x.1 = nI 2 ∨ ∃ o, 3 ≤ o ∧ o ≤ 11 ∧ x = (nI o, 0)
theorem yx_n_app : ∀ a b : yx_C, yx_n (a ++ b) = yx_n a + yx_n b
  | [], b => (Nat.zero_add _).symm
  | x :: r, b => by
    show _ + yx_n (r ++ b) = _ + yx_n r + yx_n b
    rw [yx_n_app r b, Nat.add_assoc]
theorem yx_no12 {o : Nat} (h : 3 ≤ o ∧ o ≤ 12) : ¬ (nI o = (1 : Int32) ∨ nI o = 2) := fun q => by
  rcases q with q | q
  · have := (nI_eq (b := 1) (by omega) (by omega)).mp q; omega
  · have := (nI_eq (b := 2) (by omega) (by omega)).mp q; omega
theorem yx_n_op {o : Nat} (h : 3 ≤ o ∧ o ≤ 12) : yx_n [(nI o, 0)] = 1 := by
  show (if nI o = 1 ∨ nI o = 2 then 2 else 1) + 0 = 1
  rw [if_neg (yx_no12 h)]
theorem r_sp_app {f : Nat → Int32} : ∀ (a : yx_C) (u : Nat) (b : yx_C), r_sp f u (a ++ b) ↔ r_sp f u a ∧ r_sp f (u + yx_n a) b
  | [], u, b => ⟨fun h => ⟨trivial, h⟩, fun h => h.2⟩
  | x :: r, u, b => by
    show (f u = x.1 ∧ (if x.1 = 1 ∨ x.1 = 2 then f (u + 1) = x.2 ∧ r_sp f (u + 2) (r ++ b) else r_sp f (u + 1) (r ++ b))) ↔ (f u = x.1 ∧ (if x.1 = 1 ∨ x.1 = 2 then f (u + 1) = x.2 ∧ r_sp f (u + 2) r else r_sp f (u + 1) r)) ∧ r_sp f (u + ((if x.1 = 1 ∨ x.1 = 2 then 2 else 1) + yx_n r)) b
    by_cases h : x.1 = 1 ∨ x.1 = 2
    · rw [if_pos h, if_pos h, if_pos h, r_sp_app r (u + 2) b, ← Nat.add_assoc]
      constructor
      · rintro ⟨h1, h2, h3, h4⟩; exact ⟨⟨h1, h2, h3⟩, h4⟩
      · rintro ⟨⟨h1, h2, h3⟩, h4⟩; exact ⟨h1, h2, h3, h4⟩
    · rw [if_neg h, if_neg h, if_neg h, r_sp_app r (u + 1) b, ← Nat.add_assoc]
      constructor
      · rintro ⟨h1, h3, h4⟩; exact ⟨⟨h1, h3⟩, h4⟩
      · rintro ⟨⟨h1, h3⟩, h4⟩; exact ⟨h1, h3, h4⟩
theorem r_sp_cong {f g : Nat → Int32} : ∀ (a : yx_C) (u : Nat), (∀ i, u ≤ i → i < u + yx_n a → f i = g i) → r_sp g u a → r_sp f u a
  | [], _, _, _ => trivial
  | x :: r, u, h, hg => by
    have h' : ∀ i, u ≤ i → i < u + ((if x.1 = 1 ∨ x.1 = 2 then 2 else 1) + yx_n r) → f i = g i := h
    have hg' : g u = x.1 ∧ (if x.1 = 1 ∨ x.1 = 2 then g (u + 1) = x.2 ∧ r_sp g (u + 2) r else r_sp g (u + 1) r) := hg
    show f u = x.1 ∧ (if x.1 = 1 ∨ x.1 = 2 then f (u + 1) = x.2 ∧ r_sp f (u + 2) r else r_sp f (u + 1) r)
    by_cases hx : x.1 = 1 ∨ x.1 = 2
    · rw [if_pos hx] at h' hg' ⊢
      exact ⟨(h' u (by omega) (by omega)).trans hg'.1, (h' (u + 1) (by omega) (by omega)).trans hg'.2.1, r_sp_cong r (u + 2) (fun i a b => h' i (by omega) (by omega)) hg'.2.2⟩
    · rw [if_neg hx] at h' hg' ⊢
      exact ⟨(h' u (by omega) (by omega)).trans hg'.1, r_sp_cong r (u + 1) (fun i a b => h' i (by omega) (by omega)) hg'.2⟩
/-- codes that end are these operations -/
theorem r_sp_ops {f : Nat → Int32} : ∀ (c : yx_C) (u m : Nat), (∀ x ∈ c, yx_wo x) → r_sp f u c → f (u + yx_n c) = 0 → c.length < m → a_ops f m u = c
  | [], u, 0, _, _, _, hm => absurd hm (Nat.not_lt_zero _)
  | [], u, m + 1, _, _, h0, _ => if_pos h0
  | x :: r, u, 0, _, _, _, hm => absurd hm (Nat.not_lt_zero _)
  | x :: r, u, m + 1, hw, h, h0, hm => by
    have h' : f u = x.1 ∧ (if x.1 = 1 ∨ x.1 = 2 then f (u + 1) = x.2 ∧ r_sp f (u + 2) r else r_sp f (u + 1) r) := h
    have h0' : f (u + ((if x.1 = 1 ∨ x.1 = 2 then 2 else 1) + yx_n r)) = 0 := h0
    have hx := hw x (by simp)
    have hne : ¬ f u = 0 := by
      rw [h'.1]
      rcases hx with q | q | ⟨o, o1, o2, q⟩
      · rw [q]; decide
      · rw [q]; decide
      · rw [q]
        exact nI_ne0 (by omega) (by omega)
    show (if f u = 0 then [] else if f u = 1 ∨ f u = 2 then (f u, f (u + 1)) :: a_ops f m (u + 2) else (f u, 0) :: a_ops f m (u + 1)) = x :: r
    simp only [List.length_cons] at hm
    rw [if_neg hne, h'.1]
    by_cases hx2 : x.1 = 1 ∨ x.1 = 2
    · rw [if_pos hx2] at h' h0' ⊢
      rw [h'.2.1, r_sp_ops r (u + 2) m (fun y hy => hw y (by simp [hy])) h'.2.2 (by rw [← h0']; exact congrArg f (by omega)) (by omega)]
    · rw [if_neg hx2] at h' h0' ⊢
      rw [r_sp_ops r (u + 1) m (fun y hy => hw y (by simp [hy])) h'.2 (by rw [← h0']; exact congrArg f (by omega)) (by omega)]
      rcases hx with q | q | ⟨o, o1, o2, q⟩
      · exact absurd (Or.inl q) hx2
      · exact absurd (Or.inr q) hx2
      · rw [q]
theorem r_sp_in {f : Nat → Int32} {hi : Nat} : ∀ (c : yx_C) (u m : Nat), (∀ x ∈ c, yx_wo x) → r_sp f u c → f (u + yx_n c) = 0 → c.length < m → u + yx_n c < hi → a_in f hi m u = true
  | [], u, 0, _, _, _, hm, _ => absurd hm (Nat.not_lt_zero _)
  | [], u, m + 1, _, _, h0, _, hh => by
    have hu : u < hi := hh
    have h0' : f u = 0 := h0
    show (Nat.blt u hi && (if f u = 0 then true else _)) = true
    rw [if_pos h0', Bool.and_true]
    exact Nat.ble_eq.mpr hu
  | x :: r, u, 0, _, _, _, hm, _ => absurd hm (Nat.not_lt_zero _)
  | x :: r, u, m + 1, hw, h, h0, hm, hh => by
    have h' : f u = x.1 ∧ (if x.1 = 1 ∨ x.1 = 2 then f (u + 1) = x.2 ∧ r_sp f (u + 2) r else r_sp f (u + 1) r) := h
    have h0' : f (u + ((if x.1 = 1 ∨ x.1 = 2 then 2 else 1) + yx_n r)) = 0 := h0
    have hh' : u + ((if x.1 = 1 ∨ x.1 = 2 then 2 else 1) + yx_n r) < hi := hh
    have hx := hw x (by simp)
    have hne : ¬ f u = 0 := by
      rw [h'.1]
      rcases hx with q | q | ⟨o, o1, o2, q⟩
      · rw [q]; decide
      · rw [q]; decide
      · rw [q]
        exact nI_ne0 (by omega) (by omega)
    show (Nat.blt u hi && (if f u = 0 then true else if f u = 1 ∨ f u = 2 then Nat.blt (u + 1) hi && a_in f hi m (u + 2) else a_in f hi m (u + 1))) = true
    simp only [List.length_cons] at hm
    rw [if_neg hne, h'.1]
    by_cases hx2 : x.1 = 1 ∨ x.1 = 2
    · rw [if_pos hx2] at h' h0' hh' ⊢
      rw [r_sp_in r (u + 2) m (fun y hy => hw y (by simp [hy])) h'.2.2 (by rw [← h0']; exact congrArg f (by omega)) (by omega) (by omega), Bool.and_true, Bool.and_eq_true]
      exact ⟨Nat.ble_eq.mpr (by omega), Nat.ble_eq.mpr (by omega)⟩
    · rw [if_neg hx2] at h' h0' hh' ⊢
      rw [r_sp_in r (u + 1) m (fun y hy => hw y (by simp [hy])) h'.2 (by rw [← h0']; exact congrArg f (by omega)) (by omega) (by omega), Bool.and_true]
      exact Nat.ble_eq.mpr (by omega)
/-- what waits, the last one first -/
def r_w (f : Nat → Int32) : List Nat → Prop
  | [] => True
  | o :: r => f r.length = nI o ∧ r_w f r
theorem r_w_cong {f g : Nat → Int32} : ∀ W : List Nat, (∀ i, i < W.length → f i = g i) → r_w g W → r_w f W
  | [], _, _ => trivial
  | o :: r, h, hg => ⟨(h r.length (by simp)).trans hg.1, r_w_cong r (fun i hi => h i (by simp only [List.length_cons]; omega)) hg.2⟩
/-- tokens, what waits, depth, codes, no fault -/
def r_xA (tb : Nat → Nat) (n : Nat) (ts : yt_L) (I : a_F) (J : Nat → Nat → Int64) : Prop := r_tx tb n I ∧ r_ts tb n ts I J ∧ (∀ x ∈ ts, yt_ok n x) ∧ ∀ i, i < 28 → J 73 i = q_kw i
def r_xB (W : List Nat) (I : a_F) : Prop := I 59 34 = nI W.length ∧ r_w (I 87) W ∧ ∀ o ∈ W, 3 ≤ o ∧ o ≤ 12
def r_xC (dp : Nat) (T : Nat → Bool) (I : a_F) : Prop := I 59 35 = nI dp ∧ (1 ≤ dp ∧ dp ≤ 6) ∧ ∀ j, 1 ≤ j → j ≤ dp → I 88 j = a_is (T j)
def r_xD (f0 : Nat) (out : yx_C) (I : a_F) : Prop := I 59 33 = nI (f0 + yx_n out) ∧ r_sp (I 86) f0 out ∧ ∀ x ∈ out, yx_wo x
theorem r_xA.keep {tb : Nat → Nat} {n : Nat} {ts : yt_L} {I I' : a_F} {J : Nat → Nat → Int64} (h : r_xA tb n ts I J) (h59 : ∀ i, 23 ≤ i → i ≤ 29 → I' 59 i = I 59 i) (h72 : I' 72 = I 72) : r_xA tb n ts I' J := by
  obtain ⟨⟨a1, a2, a3⟩, ⟨⟨⟨b1, b2, b3, b4, b5⟩, b6⟩, q, b7, b8, b9⟩, c1, c2⟩ := h
  refine ⟨⟨by rw [h59 23 (by decide) (by decide)]; exact a1, a2, fun i hi => by rw [h72]; exact a3 i hi⟩, ⟨⟨⟨?_, ?_, ?_, ?_, ?_⟩, ?_⟩, q, b7, ?_, b9⟩, c1, c2⟩
  · rw [h59 25 (by decide) (by decide)]; exact b1
  · rw [h59 27 (by decide) (by decide), h59 28 (by decide) (by decide)]; exact b2
  · rw [h59 27 (by decide) (by decide)]; exact b3
  · rw [h59 29 (by decide) (by decide)]; exact b4
  · rw [h59 27 (by decide) (by decide)]; exact b5
  · rw [h59 26 (by decide) (by decide)]; exact b6
  · rw [h59 24 (by decide) (by decide)]; exact b8
theorem r_xB.keep {W : List Nat} {I I' : a_F} (h : r_xB W I) (h34 : I' 59 34 = I 59 34) (h87 : I' 87 = I 87) : r_xB W I' := by
  obtain ⟨a1, a2, a3⟩ := h
  exact ⟨h34.trans a1, by rw [h87]; exact a2, a3⟩
theorem r_xC.keep {dp : Nat} {T : Nat → Bool} {I I' : a_F} (h : r_xC dp T I) (h35 : I' 59 35 = I 59 35) (h88 : I' 88 = I 88) : r_xC dp T I' := by
  obtain ⟨a1, a2, a3⟩ := h
  exact ⟨h35.trans a1, a2, fun j h1 h2 => by rw [h88]; exact a3 j h1 h2⟩
theorem r_xD.keep {f0 : Nat} {out : yx_C} {I I' : a_F} (h : r_xD f0 out I) (h33 : I' 59 33 = I 59 33) (h86 : I' 86 = I 86) : r_xD f0 out I' := by
  obtain ⟨a1, a2, a3⟩ := h
  exact ⟨h33.trans a1, by rw [h86]; exact a2, a3⟩
/-- cells that an expression may change, from the code f0 on -/
def r_xsc (f0 c i : Nat) : Bool := (Nat.beq c 59 && (Nat.ble 21 i && (Nat.ble i 35 && (!Nat.beq i 23 && !Nat.beq i 32)))) || ((Nat.beq c 86 && Nat.ble f0 i) || (Nat.beq c 87 || Nat.beq c 88))
theorem r_xsc_n {f0 c i : Nat} (h : r_xsc f0 c i = false) : r_nsc c i = false := by
  unfold r_nsc
  cases hh : (Nat.beq c 59 && (Nat.ble 24 i && Nat.ble i 29)) with
  | false => rfl
  | true =>
    simp only [Bool.and_eq_true, Nat.beq_eq, Nat.ble_eq] at hh
    obtain ⟨rfl, h1, h2⟩ := hh
    have : i = 24 ∨ i = 25 ∨ i = 26 ∨ i = 27 ∨ i = 28 ∨ i = 29 := by omega
    rcases this with e | e | e | e | e | e <;> subst e <;> cases h
theorem q_F.rn {f0 : Nat} {I I' : a_F} (h : q_F r_nsc I I') : q_F (r_xsc f0) I I' := fun c i hc => h c i (r_xsc_n hc)
theorem r_xsc_86 {f0 i : Nat} (h : f0 ≤ i) : r_xsc f0 86 i = true := by
  unfold r_xsc
  rw [show Nat.ble f0 i = true from Nat.ble_eq.mpr h]
  rfl
theorem r_xsc_s {f0 f1 c i : Nat} (hs : f0 ≤ f1) (h : r_xsc f0 c i = false) : r_xsc f1 c i = false := by
  unfold r_xsc at h ⊢
  rw [Bool.or_eq_false_iff, Bool.or_eq_false_iff] at h ⊢
  refine ⟨h.1, ?_, h.2.2⟩
  have h2 := h.2.1
  cases hh : (Nat.beq c 86 && Nat.ble f1 i) with
  | false => rfl
  | true =>
    simp only [Bool.and_eq_true, Nat.beq_eq, Nat.ble_eq] at hh
    have : (Nat.beq c 86 && Nat.ble f0 i) = true := by
      simp only [Bool.and_eq_true, Nat.beq_eq, Nat.ble_eq]
      omega
    rw [this] at h2
    cases h2
/-- all is well within an expression -/
def r_x (tb : Nat → Nat) (n f0 : Nat) (I0 : a_F) (J0 : Nat → Nat → Int64) (W : List Nat) (dp : Nat) (T : Nat → Bool) (out : yx_C) (ts : yt_L) (I : a_F) (J : Nat → Nat → Int64) : Prop := (q_F (r_xsc f0) I0 I ∧ r_nj J0 J) ∧ r_xA tb n ts I J ∧ r_xB W I ∧ r_xC dp T I ∧ r_xD f0 out I ∧ I 59 21 = 0 ∧ I 59 22 = I0 59 22
/-- there is room -/
def r_xb (f0 Bd : Nat) (W : List Nat) (out : yx_C) (ts : yt_L) : Prop := f0 + yx_n out + W.length + 1 + 2 * ts.length ≤ Bd ∧ W.length + ts.length ≤ 500 ∧ Bd ≤ 14590
/-- a fault has been found -/
def r_xe (tb : Nat → Nat) (n f0 : Nat) (I0 : a_F) (J0 : Nat → Nat → Int64) (Bd k p : Nat) (I : a_F) (J : Nat → Nat → Int64) : Prop := (q_F (r_xsc f0) I0 I ∧ r_nj J0 J) ∧ (I 59 21 = nI k ∧ 1 ≤ k ∧ k ≤ 4) ∧ I 59 22 = nI p ∧ ∃ w t, I 59 34 = nI w ∧ w ≤ 510 ∧ I 59 33 = nI t ∧ f0 ≤ t ∧ t + w + 1 ≤ Bd + 5
section Rpar1
variable {β : Bool} {xs : Nat → Int32} {L : Nat} {G : am_G} {I : a_F} {J : Nat → Nat → Int64} {d : Nat} {tb : Nat → Nat} {n f0 : Nat} {I0 : a_F} {J0 : Nat → Nat → Int64} {W : List Nat} {dp : Nat} {T : Nat → Bool} {out : yx_C} {ts : yt_L}
theorem p_isG (hR : q_RT G) : q_W β xs L d 124 0 [.ref 59] [] (G, I, J) (fun o h => o = .inl (some (.int (a_is (decide (I 59 21 = 0))))) ∧ h = (G, I, J)) :=
  g_124_0 hR ⟨fun z => g_124_12 hR _ ⟨Or.inl rfl, by simp [z, a_is], rfl⟩, fun z => g_124_12 hR _ ⟨Or.inr rfl, by simp [z, a_is], rfl⟩⟩
theorem p_isG1 (hR : q_RT G) (h : I 59 21 = 0) : q_W β xs L d 124 0 [.ref 59] [] (G, I, J) (fun o h => o = .inl (some (.int 1)) ∧ h = (G, I, J)) := by
  have e := p_isG (β := β) (xs := xs) (L := L) (I := I) (J := J) (d := d) hR
  rw [decide_eq_true h] at e
  exact e
theorem p_isG0 (hR : q_RT G) (h : ¬ I 59 21 = 0) : q_W β xs L d 124 0 [.ref 59] [] (G, I, J) (fun o h => o = .inl (some (.int 0)) ∧ h = (G, I, J)) := by
  have e := p_isG (β := β) (xs := xs) (L := L) (I := I) (J := J) (d := d) hR
  rw [decide_eq_false h] at e
  exact e
theorem r_xA.sort (h : r_xA tb n ts I J) : (yt_hd ts).1 ≤ 5 ∧ ((yt_hd ts).1 = 3 → (yt_hd ts).2 ≤ 28) ∧ (I 59 25 = 0 ↔ (yt_hd ts).1 = 0) ∧ (I 59 25 = 1 ↔ (yt_hd ts).1 = 3) ∧ (I 59 25 = 2 ↔ (yt_hd ts).1 = 2 ∨ (yt_hd ts).1 = 5) ∧ (I 59 25 = 3 ↔ (yt_hd ts).1 = 4) ∧ ((yt_hd ts).1 = 4 → (yt_hd ts).2 ∈ yt_sgn) ∧ ((yt_hd ts).1 = 2 → (yt_hd ts).2 < 100000) := by
  have e : I 59 25 = nI (yt_sort (yt_hd ts)) := h.2.1.1.1.1
  have hd := yt_hd_ok h.2.2.1
  have h5 : (yt_hd ts).1 ≤ 5 := by
    rcases hd with q | q | q | q | q | q
    · rw [q]; decide
    · rw [q]; decide
    · omega
    · omega
    · omega
    · rw [q]; decide
  have key : ∀ k, k ≤ 5 → (nI (([0, 4, 2, 1, 3, 2] : List Nat).getD k 0) = 0 ↔ k = 0) ∧ (nI (([0, 4, 2, 1, 3, 2] : List Nat).getD k 0) = 1 ↔ k = 3) ∧ (nI (([0, 4, 2, 1, 3, 2] : List Nat).getD k 0) = 2 ↔ k = 2 ∨ k = 5) ∧ (nI (([0, 4, 2, 1, 3, 2] : List Nat).getD k 0) = 3 ↔ k = 4) := by decide +kernel
  obtain ⟨k1, k2, k3, k4⟩ := key _ h5
  rw [e]
  refine ⟨h5, fun q => ?_, k1, k2, k3, k4, fun q => ?_, fun q => ?_⟩
  · rcases hd with z | z | z | z | z | z
    · rw [z] at q; cases q
    · rw [z] at q; cases q
    · omega
    · exact z.2
    · omega
    · rw [z] at q; cases q
  · rcases hd with z | z | z | z | z | z
    · rw [z] at q; cases q
    · rw [z] at q; cases q
    · omega
    · omega
    · exact z.2
    · rw [z] at q; cases q
  · rcases hd with z | z | z | z | z | z
    · rw [z] at q; cases q
    · rw [z] at q; cases q
    · exact z.2
    · omega
    · omega
    · rw [z] at q; cases q
theorem p_isS1 (hR : q_RT G) (h : r_xA tb n ts I J) {c : Nat} (hc : c < 128) : q_W β xs L d 125 0 [.ref 59, .int (nI c)] [] (G, I, J) (fun o h => o = .inl (some (.int (a_is (decide (yt_hd ts = (4, c)))))) ∧ h = (G, I, J)) := by
  obtain ⟨s1, s2, s3, s4, s5, s6, s7, s8⟩ := h.sort
  have no : ∀ hn : ¬ yt_hd ts = (4, c), q_W β xs L d 125 20 [.ref 59, .int (nI c)] [] (G, I, J) (fun o h => o = .inl (some (.int (a_is (decide (yt_hd ts = (4, c)))))) ∧ h = (G, I, J)) := fun hn => g_125_20 hR _ (g_125_21 hR _ _ ⟨Or.inl rfl, by rw [decide_eq_false hn]; rfl, rfl⟩)
  refine g_125_0 hR _ ⟨fun z => no (fun q => z (s6.mpr (by rw [q]))), fun z => ?_⟩
  have h4 := s6.mp z
  have e29 : I 59 29 = nI (yt_hd ts).2 := h.2.1.1.1.2.2.2.1 h4
  have lt : (yt_hd ts).2 < 128 := (by decide : ∀ c ∈ yt_sgn, c < 128) _ (s7 h4)
  rw [e29, nI_eq (by omega) (by omega)]
  refine ⟨fun y => no (fun q => y (by rw [q])), fun y => g_125_21 hR _ _ ⟨Or.inr rfl, ?_, rfl⟩⟩
  have : yt_hd ts = (4, c) := by rw [← h4, ← y]
  rw [decide_eq_true this]; rfl
theorem p_kno1 (hR : q_RT G) (h : r_xA tb n ts I J) : q_W β xs L d 122 0 [.ref 59, .retAddr 0] [] (G, I, J) (fun o h => o = .inl (some (.int (yt_kno (yt_hd ts)))) ∧ h = (G, I, J)) :=
  p_kno hR h.2.2.2 h.2.1.1.1 h.sort.1 h.sort.2.1
theorem yt_rw_inj : ∀ a, a < 28 → ∀ b, b < 28 → yt_rw a = yt_rw b → a = b := by decide +kernel
theorem yt_kno_eq {t : yt_T} {w : Nat} (hw : w < 28) {r : Nat} (hr : yt_rw w = r) : yt_kno t = nI r ↔ t = (3, w) := by
  subst hr
  have lt := (yt_kw w hw).2.2
  constructor
  · intro h
    unfold yt_kno at h
    by_cases hc : t.1 = 3 ∧ t.2 < 28
    · rw [if_pos hc] at h
      have lt2 := (yt_kw t.2 hc.2).2.2
      have := yt_rw_inj _ hc.2 _ hw (nI_inj2 (by omega) (by omega) h)
      rw [← hc.1, ← this]
    · rw [if_neg hc] at h
      exact absurd h.symm (nI_m1 (by omega))
  · intro h
    subst h
    exact if_pos ⟨rfl, hw⟩
/-- goes(), within an expression -/
theorem p_goX (hR : q_RT G) (h : r_x tb n f0 I0 J0 W dp T out ts I J) : q_W β xs L (d + 1) 119 0 [.ref 59, .retAddr 0] [] (G, I, J) (fun o h => o = .inl none ∧ ∃ I' J', h = (G, I', J') ∧ r_x tb n f0 I0 J0 W dp T out ts.tail I' J') := by
  obtain ⟨⟨f1, f2⟩, ⟨a1, ⟨a2, q, q1, q2, q3⟩, a3, a4⟩, b, c, e, g1, g2⟩ := h
  refine q_mono (p_goes (β := β) (xs := xs) (L := L) (d := d) (J := J) hR a1 q1 q2) (Nat.le_refl _) (fun o h' P => ?_)
  obtain ⟨rfl, I', J', rfl, k1, k2, k3⟩ := P
  refine ⟨rfl, I', J', rfl, ⟨f1.tr k1.rn, f2.tr k2⟩, ⟨a1.F k1, by rw [q3]; exact k3, yt_tl_ok a3, fun i hi => (k2 73 i (by omega)).trans (a4 i hi)⟩, b.keep (k1 59 34 rfl) (funext fun i => k1 87 i rfl), c.keep (k1 59 35 rfl) (funext fun i => k1 88 i rfl), e.keep (k1 59 33 rfl) (funext fun i => k1 86 i rfl), (k1 59 21 rfl).trans g1, (k1 59 22 rfl).trans g2⟩
/-- waitsFor() -/
theorem p_waitX (hR : q_RT G) (h : r_x tb n f0 I0 J0 W dp T out ts I J) (hW : W.length < 520) {o : Nat} (ho : 3 ≤ o ∧ o ≤ 12) : q_W β xs L d 129 0 [.ref 59, .int (nI o)] [] (G, I, J) (fun o' h => o' = .inl none ∧ ∃ I', h = (G, I', J) ∧ r_x tb n f0 I0 J0 (o :: W) dp T out ts I' J) := by
  obtain ⟨⟨f1, f2⟩, a, ⟨b1, b2, b3⟩, c, e, g1, g2⟩ := h
  refine g_129_0 hR _ ?_
  rw [b1, show (nI W.length).toNatClampNeg = W.length from nI_clamp (by omega), nI_1]
  refine ⟨am_is_nI hW (by omega), rfl, _, rfl, ⟨(f1.up _ rfl).up _ rfl, f2⟩, a.keep (fun i h1 h2 => ?_) ?_, ⟨am_u_same, ⟨?_, ?_⟩, ?_⟩, c.keep ?_ ?_, e.keep ?_ ?_, ?_, ?_⟩
  · rw [am_u_ne (Or.inr (by omega)), am_u_ne (Or.inl (by decide))]
  · rw [am_u_row _ _ _ _ (by decide), am_u_row _ _ _ _ (by decide)]
  · rw [am_u_ne (Or.inl (by decide)), am_u_same]
  · refine r_w_cong W (fun i hi => ?_) b2
    rw [am_u_ne (Or.inl (by decide)), am_u_ne (Or.inr (by omega))]
  · intro x hx
    rcases List.mem_cons.mp hx with e | e
    · rw [e]; exact ho
    · exact b3 x e
  · rw [am_u_ne (Or.inr (by decide)), am_u_ne (Or.inl (by decide))]
  · rw [am_u_row _ _ _ _ (by decide), am_u_row _ _ _ _ (by decide)]
  · rw [am_u_ne (Or.inr (by decide)), am_u_ne (Or.inl (by decide))]
  · rw [am_u_row _ _ _ _ (by decide), am_u_row _ _ _ _ (by decide)]
  · rw [am_u_ne (Or.inr (by decide)), am_u_ne (Or.inl (by decide))]; exact g1
  · rw [am_u_ne (Or.inr (by decide)), am_u_ne (Or.inl (by decide))]; exact g2
/-- a code more -/
theorem r_xD.put {f0 : Nat} {out : yx_C} {I : a_F} (h : r_xD f0 out I) {o : Nat} (ho : 3 ≤ o ∧ o ≤ 11) : r_xD f0 (out ++ [(nI o, 0)]) (am_u (am_u I 86 (f0 + yx_n out) (nI o)) 59 33 (nI (f0 + yx_n out + 1))) := by
  obtain ⟨h1, h2, h3⟩ := h
  have e1 : yx_n (out ++ [(nI o, 0)]) = yx_n out + 1 := by rw [yx_n_app, yx_n_op (by omega)]
  refine ⟨by rw [am_u_same, e1, Nat.add_assoc], (r_sp_app out f0 _).mpr ⟨r_sp_cong out f0 (fun i a b => ?_) h2, ?_, ?_⟩, fun x hx => ?_⟩
  · rw [am_u_ne (Or.inl (by decide)), am_u_ne (Or.inr (by omega))]
  · rw [am_u_ne (Or.inl (by decide)), am_u_same]
  · rw [if_neg (yx_no12 (by omega))]
    trivial
  · rcases List.mem_append.mp hx with q | q
    · exact h3 x q
    · rw [List.mem_singleton.mp q]
      exact Or.inr (Or.inr ⟨o, ho.1, ho.2, rfl⟩)
theorem p_str (hR : q_RT G) {o : Nat} (ho : 3 ≤ o ∧ o ≤ 12) : q_W β xs L d 127 0 [.int (nI o)] [] (G, I, J) (fun o' h => o' = .inl (some (.int (nI (yx_str o)))) ∧ h = (G, I, J)) := by
  have eq : ∀ c : Nat, c < 128 → (nI o = nI c ↔ o = c) := fun c hc => nI_eq (by omega) (by omega)
  refine g_127_0 hR _ ⟨fun z1 => ⟨fun z2 => ⟨fun z3 => ⟨fun z4 => ⟨fun z5 => g_127_49 hR _ (g_127_71 hR _ _ ⟨?_, rfl⟩), fun z5 => ⟨fun z6 => ⟨fun z7 => g_127_65 hR _ (g_127_71 hR _ _ ⟨?_, rfl⟩), fun z7 => ⟨fun z8 => g_127_71 hR _ _ ⟨?_, rfl⟩, fun z8 => g_127_65 hR _ (g_127_71 hR _ _ ⟨?_, rfl⟩)⟩⟩, fun z6 => g_127_49 hR _ (g_127_71 hR _ _ ⟨?_, rfl⟩)⟩⟩, fun z4 => g_127_71 hR _ _ ⟨?_, rfl⟩⟩, fun z3 => g_127_71 hR _ _ ⟨?_, rfl⟩⟩, fun z2 => g_127_71 hR _ _ ⟨?_, rfl⟩⟩, fun z1 => g_127_71 hR _ _ ⟨?_, rfl⟩⟩
  · rw [(eq 6 (by decide)).mp z5]; rfl
  · rw [(eq 8 (by decide)).mp z7]; rfl
  · have : o = 10 ∨ o = 11 := by
      have q1 : ¬ o = 12 := fun q => z1 ((eq 12 (by decide)).mpr q)
      have q2 : ¬ o = 5 := fun q => z2 ((eq 5 (by decide)).mpr q)
      have q3 : ¬ o = 4 := fun q => z3 ((eq 4 (by decide)).mpr q)
      have q4 : ¬ o = 3 := fun q => z4 ((eq 3 (by decide)).mpr q)
      have q5 : ¬ o = 6 := fun q => z5 ((eq 6 (by decide)).mpr q)
      have q6 : ¬ o = 7 := fun q => z6 ((eq 7 (by decide)).mpr q)
      have q7 : ¬ o = 8 := fun q => z7 ((eq 8 (by decide)).mpr q)
      have q8 : ¬ o = 9 := fun q => z8 ((eq 9 (by decide)).mpr q)
      omega
    rcases this with e | e <;> rw [e] <;> rfl
  · rw [(eq 9 (by decide)).mp z8]; rfl
  · rw [(eq 7 (by decide)).mp z6]; rfl
  · rw [(eq 3 (by decide)).mp z4]; rfl
  · rw [(eq 4 (by decide)).mp z3]; rfl
  · rw [(eq 5 (by decide)).mp z2]; rfl
  · rw [(eq 12 (by decide)).mp z1]; rfl
theorem p_strA (hR : q_RT G) (x : Int32) : q_W β xs L d 127 0 [.int x] [] (G, I, J) (fun o' h => ∃ y : Int32, o' = .inl (some (.int y)) ∧ h = (G, I, J) ∧ ¬ y < 0) := by
  have fin : ∀ y : Int32, ¬ y < 0 → ∃ z : Int32, (Sum.inl (some (Value.int y)) : am_O) = .inl (some (.int z)) ∧ ((G, I, J) : am_H) = (G, I, J) ∧ ¬ z < 0 := fun y hy => ⟨y, rfl, rfl, hy⟩
  exact g_127_0 hR _ ⟨fun z1 => ⟨fun z2 => ⟨fun z3 => ⟨fun z4 => ⟨fun z5 => g_127_49 hR _ (g_127_71 hR _ _ (fin _ (by decide))), fun z5 => ⟨fun z6 => ⟨fun z7 => g_127_65 hR _ (g_127_71 hR _ _ (fin _ (by decide))), fun z7 => ⟨fun z8 => g_127_71 hR _ _ (fin _ (by decide)), fun z8 => g_127_65 hR _ (g_127_71 hR _ _ (fin _ (by decide)))⟩⟩, fun z6 => g_127_49 hR _ (g_127_71 hR _ _ (fin _ (by decide)))⟩⟩, fun z4 => g_127_71 hR _ _ (fin _ (by decide))⟩, fun z3 => g_127_71 hR _ _ (fin _ (by decide))⟩, fun z2 => g_127_71 hR _ _ (fin _ (by decide))⟩, fun z1 => g_127_71 hR _ _ (fin _ (by decide))⟩
theorem yx_str_lt (o : Nat) : yx_str o ≤ 6 := by
  unfold yx_str
  repeat' split
  all_goals omega
/-- drops() -/
theorem p_dropX (hR : q_RT G) {least : Nat} (hl : least ≤ 6) : ∀ (W : List Nat) (out : yx_C) (I : a_F), r_x tb n f0 I0 J0 W dp T out ts I J → W.length ≤ 510 → f0 + yx_n out + W.length ≤ 14590 → q_W β xs L (d + 1) 128 0 [.ref 59, .int (nI least)] [] (G, I, J) (fun o' h => o' = .inl none ∧ ∃ I', h = (G, I', J) ∧ r_x tb n f0 I0 J0 (yx_drop least W out).1 dp T (yx_drop least W out).2 ts I' J)
  | [], out, I, h, hw, hb => by
    have b1 : I 59 34 = 0 := h.2.2.1.1
    refine g_128_0 hR _ ?_
    rw [b1]
    exact ⟨fun _ => g_128_67 hR _ ⟨rfl, I, rfl, h⟩, fun q => absurd q (by decide)⟩
  | o :: W, out, I, h, hw, hb => by
    have hst := h
    obtain ⟨⟨f1, f2⟩, a, ⟨b1, ⟨b2, b2'⟩, b3⟩, c, e, g1, g2⟩ := h
    have ho := b3 o (by simp)
    have b1' : I 59 34 = nI (W.length + 1) := b1
    simp only [List.length_cons] at hw hb
    have l0 := yx_str_lt o
    have e12 : nI o = 12 ↔ o = 12 := nI_eq (b := 12) (by omega) (by omega)
    have ed : yx_drop least (o :: W) out = if o = 12 ∨ yx_str o < least then (o :: W, out) else yx_drop least W (out ++ [(nI o, 0)]) := rfl
    have ec : (nI W.length).toNatClampNeg = W.length := nI_clamp (by omega)
    refine g_128_0 hR _ ?_
    rw [b1', nI_pred, ec, b2, e12]
    have stay : ∀ hs : o = 12 ∨ yx_str o < least, q_W β xs L (d + 1) 128 67 [.ref 59, .int (nI least)] [] (G, I, J) (fun o' h => o' = .inl none ∧ ∃ I', h = (G, I', J) ∧ r_x tb n f0 I0 J0 (yx_drop least (o :: W) out).1 dp T (yx_drop least (o :: W) out).2 ts I' J) := fun hs => by
      rw [ed, if_pos hs]
      exact g_128_67 hR _ ⟨rfl, I, rfl, hst⟩
    refine ⟨fun z => absurd ((nI_ltI (a := 0) (by omega) (by omega)).mpr (Nat.succ_pos _)) z, fun _ => ⟨am_is_nI (by omega) (by omega), fun z => stay (Or.inl z), fun z => ⟨am_is_nI (by omega) (by omega), ?_⟩⟩⟩
    refine q_useI (p_str (β := β) (xs := xs) (L := L) (d := d) (I := I) (J := J) hR ho) (Nat.le_refl _) ⟨hR, fun y => stay (Or.inr ((nI_ltI (by omega) (by omega)).mp y)), fun y => ?_⟩
    have y1 : ¬ yx_str o < least := fun q => y ((nI_ltI (by omega) (by omega)).mpr q)
    rw [b1', nI_pred, ec, b2]
    refine ⟨am_is_nI (by omega) (by omega), ?_⟩
    rw [ed, if_neg (fun q => by rcases q with q | q; exact z q; exact y1 q)]
    have e33 : am_u I 59 34 (nI W.length) 59 33 = nI (f0 + yx_n out) := (am_u_ne (Or.inr (by decide))).trans e.1
    have et : (nI (f0 + yx_n out)).toNatClampNeg = f0 + yx_n out := nI_clamp (by omega)
    have put : q_W β xs L d 126 0 [.ref 59, .int (nI o)] [] (G, am_u I 59 34 (nI W.length), J) (fun o' h => o' = .inl none ∧ h = (G, am_u (am_u (am_u I 59 34 (nI W.length)) 86 (f0 + yx_n out) (nI o)) 59 33 (nI (f0 + yx_n out + 1)), J)) := by
      refine g_126_0 hR _ ?_
      rw [e33, et, nI_1]
      exact ⟨am_is_nI (by omega) (by omega), rfl, rfl⟩
    refine q_useF put (Nat.le_refl _) ?_
    have hno := yx_n_op (o := o) ho
    refine p_dropX hR hl W (out ++ [(nI o, 0)]) _ ?_ (by omega) (by rw [yx_n_app, hno]; omega)
    have e' : r_xD f0 out (am_u I 59 34 (nI W.length)) := e.keep (am_u_ne (Or.inr (by decide))) (am_u_row _ _ _ _ (by decide))
    refine ⟨⟨((f1.up _ rfl).up _ (r_xsc_86 (Nat.le_add_right _ _))).up _ rfl, f2⟩, a.keep (fun i h1 h2 => ?_) ?_, ⟨?_, ?_, fun x hx => b3 x (by simp [hx])⟩, c.keep ?_ ?_, e'.put (by omega), ?_, ?_⟩
    · rw [am_u_ne (Or.inr (by omega)), am_u_ne (Or.inl (by decide)), am_u_ne (Or.inr (by omega))]
    · rw [am_u_row _ _ _ _ (by decide), am_u_row _ _ _ _ (by decide), am_u_row _ _ _ _ (by decide)]
    · rw [am_u_ne (Or.inr (by decide)), am_u_ne (Or.inl (by decide)), am_u_same]
    · refine r_w_cong W (fun i hi => ?_) b2'
      rw [am_u_ne (Or.inl (by decide)), am_u_ne (Or.inl (by decide)), am_u_ne (Or.inl (by decide))]
    · rw [am_u_ne (Or.inr (by decide)), am_u_ne (Or.inl (by decide)), am_u_ne (Or.inr (by decide))]
    · rw [am_u_row _ _ _ _ (by decide), am_u_row _ _ _ _ (by decide), am_u_row _ _ _ _ (by decide)]
    · rw [am_u_ne (Or.inr (by decide)), am_u_ne (Or.inl (by decide)), am_u_ne (Or.inr (by decide))]; exact g1
    · rw [am_u_ne (Or.inr (by decide)), am_u_ne (Or.inl (by decide)), am_u_ne (Or.inr (by decide))]; exact g2
/-- drops(0), a fault having been found -/
theorem p_dropE (hR : q_RT G) {Bd k p : Nat} (hB : Bd ≤ 14590) : ∀ (w : Nat) (t : Nat) (I : a_F), (q_F (r_xsc f0) I0 I ∧ r_nj J0 J) → (I 59 21 = nI k ∧ 1 ≤ k ∧ k ≤ 4) → I 59 22 = nI p → I 59 34 = nI w → w ≤ 510 → I 59 33 = nI t → f0 ≤ t → t + w + 1 ≤ Bd + 5 → q_W β xs L (d + 1) 128 0 [.ref 59, .int (nI 0)] [] (G, I, J) (fun o' h => o' = .inl none ∧ ∃ I', h = (G, I', J) ∧ r_xe tb n f0 I0 J0 Bd k p I' J)
  | 0, t, I, f, hk, hp, h34, hw, h33, ht, hb => by
    refine g_128_0 hR _ ?_
    rw [h34]
    exact ⟨fun _ => g_128_67 hR _ ⟨rfl, I, rfl, f, hk, hp, 0, t, h34, by omega, h33, ht, hb⟩, fun q => absurd q (by decide)⟩
  | w + 1, t, I, f, hk, hp, h34, hw, h33, ht, hb => by
    have ec : (nI w).toNatClampNeg = w := nI_clamp (by omega)
    have fin : q_W β xs L (d + 1) 128 67 [.ref 59, .int (nI 0)] [] (G, I, J) (fun o' h => o' = .inl none ∧ ∃ I', h = (G, I', J) ∧ r_xe tb n f0 I0 J0 Bd k p I' J) := g_128_67 hR _ ⟨rfl, I, rfl, f, hk, hp, w + 1, t, h34, hw, h33, ht, hb⟩
    refine g_128_0 hR _ ?_
    rw [h34, nI_pred, ec]
    refine ⟨fun _ => fin, fun _ => ⟨am_is_nI (by omega) (by omega), fun _ => fin, fun _ => ⟨am_is_nI (by omega) (by omega), ?_⟩⟩⟩
    refine q_useR (p_strA (β := β) (xs := xs) (L := L) (d := d) (I := I) (J := J) hR _) (Nat.le_refl _) (fun o' h' P => ?_)
    obtain ⟨y, rfl, rfl, hy⟩ := P
    refine ⟨hR, fun z => absurd z hy, fun _ => ?_⟩
    dsimp only
    rw [h34, nI_pred, ec]
    refine ⟨am_is_nI (by omega) (by omega), ?_⟩
    have e33 : am_u I 59 34 (nI w) 59 33 = nI t := (am_u_ne (Or.inr (by decide))).trans h33
    have et : (nI t).toNatClampNeg = t := nI_clamp (by omega)
    have put : q_W β xs L d 126 0 [.ref 59, .int (I 87 w)] [] (G, am_u I 59 34 (nI w), J) (fun o' h => o' = .inl none ∧ h = (G, am_u (am_u (am_u I 59 34 (nI w)) 86 t (I 87 w)) 59 33 (nI (t + 1)), J)) := by
      refine g_126_0 hR _ ?_
      rw [e33, et, nI_1]
      exact ⟨am_is_nI (by omega) (by omega), rfl, rfl⟩
    refine q_useF put (Nat.le_refl _) ?_
    refine p_dropE hR hB w (t + 1) _ ⟨((f.1.up _ rfl).up _ (r_xsc_86 ht)).up _ rfl, f.2⟩ ⟨?_, hk.2⟩ ?_ ?_ (by omega) am_u_same (by omega) (by omega)
    · rw [am_u_ne (Or.inr (by decide)), am_u_ne (Or.inl (by decide)), am_u_ne (Or.inr (by decide))]; exact hk.1
    · rw [am_u_ne (Or.inr (by decide)), am_u_ne (Or.inl (by decide)), am_u_ne (Or.inr (by decide))]; exact hp
    · rw [am_u_ne (Or.inr (by decide)), am_u_ne (Or.inl (by decide)), am_u_same]
/-- wrong() -/
theorem p_wrongX (hR : q_RT G) (h : r_x tb n f0 I0 J0 W dp T out ts I J) {Bd : Nat} (hb : f0 + yx_n out + W.length + 1 ≤ Bd + 3) (hw : W.length ≤ 510) {k : Nat} (hk : 1 ≤ k ∧ k ≤ 4) : q_W β xs L d 123 0 [.ref 59, .int (nI k)] [] (G, I, J) (fun o' h => o' = .inl none ∧ ∃ I', h = (G, I', J) ∧ r_xe tb n f0 I0 J0 Bd k (yt_pl n ts) I' J ∧ I' 59 33 = nI (f0 + yx_n out) ∧ I' 59 28 = I 59 28 ∧ I' 59 34 = nI W.length) := by
  obtain ⟨⟨f1, f2⟩, a, ⟨b1, b2, b3⟩, c, e, g1, g2⟩ := h
  refine g_123_0 hR _ ⟨fun _ => ⟨rfl, _, rfl, ⟨⟨(f1.up _ rfl).up _ rfl, f2⟩, ⟨?_, hk⟩, ?_, W.length, f0 + yx_n out, ?_, hw, ?_, Nat.le_add_right _ _, by omega⟩, ?_, ?_, ?_⟩, fun z => absurd g1 z⟩
  · rw [am_u_ne (Or.inr (by decide)), am_u_same]
  · rw [am_u_same]; exact a.2.1.1.2
  · rw [am_u_ne (Or.inr (by decide)), am_u_ne (Or.inr (by decide))]; exact b1
  · rw [am_u_ne (Or.inr (by decide)), am_u_ne (Or.inr (by decide))]; exact e.1
  · rw [am_u_ne (Or.inr (by decide)), am_u_ne (Or.inr (by decide))]; exact e.1
  · rw [am_u_ne (Or.inr (by decide)), am_u_ne (Or.inr (by decide))]
  · rw [am_u_ne (Or.inr (by decide)), am_u_ne (Or.inr (by decide))]; exact b1
theorem r_xe.n0 {Bd k p : Nat} (h : r_xe tb n f0 I0 J0 Bd k p I J) : ¬ I 59 21 = 0 := by
  rw [h.2.1.1]
  exact nI_ne0 (by have := h.2.1.2.1; omega) (by have := h.2.1.2.2; omega)
end Rpar1

/-! ===== clauses, without a machine ===== -/
/-- a clause: how (0 gain, 1 lose, 2 strike), when, the expression, that behind 'unless', children, whom it strikes -/
abbrev yx_K : Type := Nat × Nat × yx_C × Option yx_C × Option Nat × Nat
/-- the ';' behind a clause -/
def yx_semi (n : Nat) (k : yx_K) (ts : yt_L) : Sum (Nat × Nat) (yx_K × yt_L) := if yt_hd ts = (4, 59) then .inr (k, ts.tail) else .inl (1, yt_pl n ts)
/-- 'children' -/
def yx_chi (n how wh : Nat) (c : yx_C) (un : Option yx_C) (ts : yt_L) : Sum (Nat × Nat) (yx_K × yt_L) :=
  if yt_hd ts = (3, 4) then (if (yt_hd ts.tail).1 = 2 then .inr ((how, wh, c, un, some (yt_hd ts.tail).2, 0), ts.tail.tail) else .inl (if (yt_hd ts.tail).1 = 5 then 2 else 1, yt_pl n ts.tail))
  else .inr ((how, wh, c, un, none, 0), ts)
/-- behind the WHEN -/
def yx_bond (n how wh : Nat) (ts : yt_L) : Sum (Nat × Nat) (yx_K × yt_L) := match yx_E n 6 ts with
  | .inl e => .inl e
  | .inr (c, r) => if yt_hd r = (3, 3) then (match yx_E n 6 r.tail with
    | .inl e => .inl e
    | .inr (c2, r2) => yx_chi n how wh c (some c2) r2) else yx_chi n how wh c none r
/-- behind the first word -/
def yx_body (n : Nat) (ok : Nat → Bool) (how : Nat) (ts : yt_L) : Sum (Nat × Nat) (yx_K × yt_L) :=
  if how = 2 then (if (yt_hd ts).1 = 2 then (if ok (yt_hd ts).2 = true then .inr ((2, 0, [], none, none, (yt_hd ts).2), ts.tail) else .inl (4, yt_pl n ts)) else .inl (if (yt_hd ts).1 = 5 then 2 else 1, yt_pl n ts))
  else if (yt_hd ts).1 = 3 ∧ 8 ≤ (yt_hd ts).2 ∧ (yt_hd ts).2 < 15 then yx_bond n how ((yt_hd ts).2 - 8) ts.tail else .inl (1, yt_pl n ts)
/-- a clause, cnt being ahead of it -/
def yx_cl (n : Nat) (ok : Nat → Bool) (cnt : Nat) (ts : yt_L) : Sum (Nat × Nat) (yx_K × yt_L) :=
  if (yt_hd ts).1 = 3 ∧ (yt_hd ts).2 ≤ 2 then (if cnt < 12 then (match yx_body n ok (yt_hd ts).2 ts.tail with
    | .inl e => .inl e
    | .inr (k, r) => yx_semi n k r) else .inl (2, yt_pl n ts)) else .inl (1, yt_pl n ts)
/-- all clauses -/
def yx_cls (n : Nat) (ok : Nat → Bool) : Nat → Nat → yt_L → Sum (Nat × Nat) (List yx_K)
  | 0, _, _ => .inr []
  | m + 1, cnt, ts => if (yt_hd ts).1 = 0 then .inr [] else match yx_cl n ok cnt ts with
    | .inl e => .inl e
    | .inr (k, r) => match yx_cls n ok m (cnt + 1) r with
      | .inl e => .inl e
      | .inr l => .inr (k :: l)
/-- whom they strike -/
def yx_stk (l : List yx_K) (s : Int32) : Int32 := l.foldl (fun s k => if k.1 = 2 then s ||| (1 <<< (nI k.2.2.2.2.2 &&& 31)) else s) s
theorem yx_stk_app (l : List yx_K) (k : yx_K) (s : Int32) : yx_stk (l ++ [k]) s = if k.1 = 2 then yx_stk l s ||| (1 <<< (nI k.2.2.2.2.2 &&& 31)) else yx_stk l s := by
  unfold yx_stk
  rw [List.foldl_append]
  rfl
theorem yx_n_le : ∀ c : yx_C, yx_n c ≤ 2 * c.length
  | [] => Nat.le_refl _
  | x :: r => by
    have := yx_n_le r
    show (if x.1 = 1 ∨ x.1 = 2 then 2 else 1) + yx_n r ≤ 2 * (r.length + 1)
    split <;> omega
theorem yx_E6_len {n : Nat} {ts r : yt_L} {c : yx_C} (h : yx_E n 6 ts = .inr (c, r)) : c.length + r.length ≤ ts.length ∧ r.length < ts.length := ⟨(yx_E_g 6 ts c r h).1, (yx_E_g 6 ts c r h).2.1⟩
/-! ===== the class's clauses ===== -/
/-- cells that an act's text may change -/
def c_ksc (a c i : Nat) : Bool := c_xsc (500 * a) c i || ((Nat.beq i a && (Nat.beq c 22 || (Nat.beq c 23 || Nat.beq c 24))) || (Nat.ble 25 c && (Nat.ble c 30 && Nat.ble (12 * a) i)))
theorem c_ksc_x {a s c i : Nat} (hs : 500 * a ≤ s) (h : c_ksc a c i = false) : c_xsc s c i = false := by
  unfold c_ksc at h
  rw [Bool.or_eq_false_iff] at h
  exact c_xsc_s hs h.1
theorem q_F.kx {a s : Nat} {I I' : a_F} (hs : 500 * a ≤ s) (h : q_F (c_xsc s) I I') : q_F (c_ksc a) I I' := fun c i hc => h c i (c_ksc_x hs hc)
theorem c_ksc_a {a c : Nat} (h : c = 22 ∨ c = 23 ∨ c = 24) : c_ksc a c a = true := by
  unfold c_ksc
  have e : Nat.beq a a = true := Nat.beq_refl a
  rw [e]
  rcases h with h | h | h <;> subst h <;> simp [c_xsc]
theorem c_ksc_k {a c i : Nat} (h : 25 ≤ c ∧ c ≤ 30) (hi : 12 * a ≤ i) : c_ksc a c i = true := by
  unfold c_ksc
  rw [Nat.ble_eq.mpr h.1, Nat.ble_eq.mpr h.2, Nat.ble_eq.mpr hi]
  simp
/-- a clause lies in the class's rows; its codes end ahead of s -/
def c_kd (a : Nat) (I : a_F) (s i : Nat) (k : yx_K) : Prop := (k.1 = 2 ∧ I 25 i = 2) ∨ (k.1 < 2 ∧ I 25 i = nI k.1 ∧ (k.2.1 < 7 ∧ I 26 i = nI k.2.1 ∧ bt (I 23 a) k.2.1 = true) ∧ I 30 i = (match k.2.2.2.2.1 with
  | none => -1
  | some v => nI v) ∧ ∃ u, I 27 i = nI u ∧ I 28 i = nI (u + k.2.2.1.length) ∧ c_ops (I 31) k.2.2.1.length u = k.2.2.1 ∧ I 29 i = nI (u + k.2.2.1.length + (k.2.2.2.1.getD []).length) ∧ c_ops (I 31) (k.2.2.2.1.getD []).length (u + k.2.2.1.length) = k.2.2.2.1.getD [] ∧ u + k.2.2.1.length + (k.2.2.2.1.getD []).length ≤ s)
theorem c_kd.keep {a s s' i : Nat} {I I' : a_F} {k : yx_K} (h : c_kd a I s i k) (hs : s ≤ s') (hc : ∀ c, 25 ≤ c → c ≤ 30 → I' c i = I c i) (h23 : ∀ w, w < 7 → bt (I 23 a) w = true → bt (I' 23 a) w = true) (h31 : ∀ j, j < s → I' 31 j = I 31 j) : c_kd a I' s' i k := by
  rcases h with ⟨h1, h2⟩ | ⟨h1, h2, ⟨h3, h4, h5⟩, h6, u, h7, h8, h9, h10, h11, h12⟩
  · exact Or.inl ⟨h1, (hc 25 (by decide) (by decide)).trans h2⟩
  · refine Or.inr ⟨h1, (hc 25 (by decide) (by decide)).trans h2, ⟨h3, (hc 26 (by decide) (by decide)).trans h4, h23 _ h3 h5⟩, (hc 30 (by decide) (by decide)).trans h6, u, (hc 27 (by decide) (by decide)).trans h7, (hc 28 (by decide) (by decide)).trans h8, ?_, (hc 29 (by decide) (by decide)).trans h10, ?_, by omega⟩
    · rw [c_ops_cong _ _ (g := I 31) (fun j a b => h31 j (by omega))]; exact h9
    · rw [c_ops_cong _ _ (g := I 31) (fun j a b => h31 j (by omega))]; exact h11
/-- these clauses have been read; ts are to come -/
def c_kt (tb : Nat → Nat) (n a : Nat) (l : List yx_K) (s : Nat) (ts : yt_L) (G : am_G) (I0 I : a_F) : Prop := q_F (c_ksc a) I0 I ∧ c_ge tb n s ts G I ∧ I 32 11 = I0 32 11 ∧ I 24 a = nI l.length ∧ I 22 a = yx_stk l 0 ∧ (500 * a ≤ s ∧ s + ts.length ≤ 500 * a + 500) ∧ ∀ c k, l[c]? = some k → c_kd a I s (12 * a + c) k
/-- a fault has been found -/
def c_ke (n a : Nat) (e : Nat × Nat) (I0 I : a_F) : Prop := q_F (c_ksc a) I0 I ∧ (I 32 10 = nI e.1 ∧ 1 ≤ e.1 ∧ e.1 ≤ 4) ∧ I 32 11 = nI e.2
theorem c_sb.ke {tb : Nat → Nat} {n a s : Nat} {e : Nat × Nat} {G : am_G} {I0 I1 I : a_F} (hf : q_F (c_ksc a) I0 I1) (hs : 500 * a ≤ s) (h : c_sb tb n s e G I1 I) : c_ke n a e I0 I := ⟨hf.tr (h.1.kx hs), h.2.2.2.1, h.2.2.2.2.1⟩
/-- a place in the row of texts is not touched -/
theorem c_ksc_c {a c i : Nat} (h : c < 22 ∨ (32 < c)) : c_ksc a c i = false := by
  unfold c_ksc c_xsc
  have b : ∀ k, 22 ≤ k → k ≤ 32 → Nat.beq c k = false := fun k h1 h2 => yt_bf (by omega)
  rw [b 32 (by decide) (by decide), b 31 (by decide) (by decide), b 22 (by decide) (by decide), b 23 (by decide) (by decide), b 24 (by decide) (by decide)]
  have e : (Nat.ble 25 c && (Nat.ble c 30 && Nat.ble (12 * a) i)) = false := by
    cases hh : (Nat.ble 25 c && (Nat.ble c 30 && Nat.ble (12 * a) i)) with
    | false => rfl
    | true =>
      simp only [Bool.and_eq_true, Nat.ble_eq] at hh
      omega
  rw [e]
  simp
section Clause
variable {β : Bool} {xs : Nat → Int32} {L : Nat} {G : am_G} {J : Nat → Nat → Int64} {d : Nat} {tb : Nat → Nat} {n : Nat}
/-- the part of the state that next() and expressions need, after a store -/
theorem c_ge.up {s : Nat} {ts : yt_L} {I : a_F} (h : c_ge tb n s ts G I) (c i : Nat) (x : Int32) (hc : c ≠ 32 ∧ c ≠ 57) : c_ge tb n s ts G (am_u I c i x) := by
  obtain ⟨⟨a1, a2, a3, a4⟩, ⟨⟨⟨b1, b2, b3, b4⟩, b5⟩, q, b6, b7, b8⟩, h3, h4, h5⟩ := h
  have e32 : am_u I c i x 32 = I 32 := am_u_row _ _ _ _ (fun q => hc.1 q.symm)
  have e57 : am_u I c i x 57 = I 57 := am_u_row _ _ _ _ (fun q => hc.2 q.symm)
  refine ⟨⟨a1, by rw [e32]; exact a2, a3, fun j hj => by rw [e57]; exact a4 j hj⟩, ⟨⟨⟨?_, ?_, ?_, ?_⟩, ?_⟩, q, b6, ?_, b8⟩, ?_, ?_, h5⟩ <;> rw [e32] <;> assumption
/-- readStrike() -/
theorem k_rstrike {a s : Nat} {ts : yt_L} {I I0 : a_F} {ok : Nat → Bool} (hR : q_RT G) (ha : a < 12) (hok : ∀ v, v < 100000 → (ok v = true ↔ v < a ∧ I 17 v = I 17 a)) (h : c_ge tb n s ts G I) (hs : s ≤ 6000) : q_W β xs L (d + 6) 29 0 [.ref 32, .int (nI a)] [] (G, I, J) (fun o h' => o = .inl none ∧ ∃ I', h' = (G, I', J) ∧ match yx_body n ok 2 ts with
    | .inl e => c_sb tb n s e G I I'
    | .inr (k, r) => c_ge tb n s r G I' ∧ (k.1 = 2 ∧ I' 22 a = I 22 a ||| (1 <<< (nI k.2.2.2.2.2 &&& 31))) ∧ q_F (fun c i => c_nsc c i || (Nat.beq c 22 && Nat.beq i a)) I I') := by
  have ea : (nI a).toNatClampNeg = a := nI_clamp (by omega)
  have ia : am_is (nI a) 12 = true := am_is_nI ha (by omega)
  refine g_29_0 hR _ ?_
  refine q_useVI (k_num1 (β := β) (xs := xs) (L := L) (J := J) (d := d) hR h hs) (by omega) (fun v I1 q => ?_)
  refine ⟨hR, ?_⟩
  unfold yx_body
  rw [if_pos rfl]
  by_cases h2 : (yt_hd ts).1 = 2
  · rw [if_pos h2] at q ⊢
    obtain ⟨rfl, rfl, q3⟩ := q
    have hv : (yt_hd ts).2 < 100000 := by
      rcases yt_hd_ok h.2.2.2.2 with q | q | q | q | q | q
      · rw [q] at h2; cases h2
      · rw [q] at h2; cases h2
      · exact q.2
      · omega
      · omega
      · rw [q] at h2; cases h2
    generalize hve : (yt_hd ts).2 = v at q3 hv
    have ev : (nI v).toNatClampNeg = v := nI_clamp (by omega)
    have bad : ¬ ok v = true → q_W β xs L (d + 6) 29 40 [.ref 32, .int (nI a)] [] (G, I1, J) (fun o h' => o = .inl none ∧ ∃ I', h' = (G, I', J) ∧ match (if ok v = true then .inr ((2, 0, [], none, none, v), ts.tail) else .inl (4, yt_pl n ts) : Sum (Nat × Nat) (yx_K × yt_L)) with
      | .inl e => c_sb tb n s e G I1 I'
      | .inr (k, r) => c_ge tb n s r G I' ∧ (k.1 = 2 ∧ I' 22 a = I1 22 a ||| (1 <<< (nI k.2.2.2.2.2 &&& 31))) ∧ q_F (fun c i => c_nsc c i || (Nat.beq c 22 && Nat.beq i a)) I1 I') := fun hb => by
      rw [if_neg hb]
      exact g_29_40 hR _ (q_useV (k_fail1 (β := β) (xs := xs) (L := L) (J := J) (d := d) hR h hs (k := 4) (by decide)) (by omega) (fun I2 h2 => ⟨rfl, I2, rfl, h2⟩))
    refine ⟨fun _ => ?_, fun q => absurd q (by decide)⟩
    rw [q3, nI_ltI (by omega) (by omega), ev, ea]
    refine ⟨fun z => bad (fun q => z ((hok v hv).mp q).1), fun z => ⟨am_is_nI (by omega) (by omega), ia, fun y => ⟨ia, ia, ?_⟩, fun y => bad (fun q => y ((hok v hv).mp q).2)⟩⟩
    have hk : ok v = true := (hok v hv).mpr ⟨z, y⟩
    rw [if_pos hk]
    have h1 := h.up 22 a (I1 22 a ||| (1 <<< (nI v &&& 31))) (by decide)
    obtain ⟨t1, ⟨t2, q, q1, q2, q3⟩, t3, t4, t5⟩ := h1
    refine q_useV (k_next (β := β) (xs := xs) (L := L) (d := d) (J := J) hR t1 q1 q2) (by omega) (fun I' h' => ⟨rfl, I', rfl, ?_⟩)
    obtain ⟨f, t⟩ := h'
    have e22 : I' 22 a = I1 22 a ||| (1 <<< (nI v &&& 31)) := (f 22 a rfl).trans am_u_same
    refine ⟨⟨t1.F f, by rw [q3]; exact t, (f 32 10 rfl).trans t3, (f 32 9 rfl).trans t4, yt_tl_ok t5⟩, ⟨rfl, e22⟩, fun c i hc => ?_⟩
    rw [Bool.or_eq_false_iff] at hc
    rw [f c i hc.1, am_u_ne]
    by_cases e1 : c = 22
    · by_cases e2 : i = a
      · subst e1; subst e2
        have := hc.2
        rw [show Nat.beq i i = true from Nat.beq_refl i] at this
        cases this
      · exact Or.inr e2
    · exact Or.inl e1
  · rw [if_neg h2] at q ⊢
    obtain ⟨rfl, q2⟩ := q
    exact ⟨fun q => absurd rfl q, fun _ => ⟨rfl, I1, rfl, q2⟩⟩
end Clause

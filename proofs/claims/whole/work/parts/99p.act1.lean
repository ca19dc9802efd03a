/-! ===== an act more ===== -/
/-- cells of the data that act na brings -/
def a_row (na c i : Nat) : Bool := (Nat.beq i na && (Nat.ble 74 c && Nat.ble c 80)) || ((Nat.ble (12 * na) i && (Nat.ble 81 c && Nat.ble c 85)) || ((Nat.beq c 86 && Nat.ble (1210 * na) i) || (Nat.beq c 59 && Nat.beq i 32)))
/-- an expression of act a, at u -/
def r_ex (D : a_F) (a u : Nat) (c : yx_C) : Prop := (1210 * a ≤ u ∧ u + yx_n c < 1210 * a + 1210) ∧ r_sp (D 86) u c ∧ D 86 (u + yx_n c) = 0 ∧ (∀ x ∈ c, yx_wo x) ∧ c.length ≤ 1000 ∧ a_gd c 0 = true
/-- a clause lies in the data -/
def r_kd (D : a_F) (a i : Nat) (k : yx_K) : Prop := (k.1 = 2 ∧ D 81 i = 4) ∨ (k.1 < 2 ∧ D 81 i = nI k.1 ∧ (k.2.1 < 7 ∧ D 82 i = nI (k.2.1 + 8)) ∧ (D 85 i = (match k.2.2.2.2.1 with
  | none => -1
  | some v => nI v) ∧ ∀ v, k.2.2.2.2.1 = some v → v < 100000) ∧ (∃ u, D 83 i = nI u ∧ r_ex D a u k.2.2.1) ∧ (k.2.2.2.1 = none → D 84 i = -1) ∧ ∀ c2, k.2.2.2.1 = some c2 → ∃ u, D 84 i = nI u ∧ r_ex D a u c2)
/-- the data with an act more -/
def a_new (D D' : a_F) (na : Nat) (l : List yx_K) (land from' to' : Int32) (tn : Nat) : Prop := (∀ c i, a_row na c i = false → D' c i = D c i) ∧ D' 59 32 = nI (na + 1) ∧ (D' 74 na = land ∧ D' 75 na = from' ∧ D' 76 na = to' ∧ D' 77 na = nI tn ∧ D' 78 na = -1 ∧ D' 79 na = nI l.length ∧ D' 80 na = yx_stk l 0) ∧ l.length ≤ 12 ∧ ∀ c k, l[c]? = some k → r_kd D' na (12 * na + c) k
theorem a_row_no {na c i : Nat} (h : (c < 74 ∧ c ≠ 59) ∨ (c = 59 ∧ i ≠ 32) ∨ (74 ≤ c ∧ c ≤ 80 ∧ i ≠ na) ∨ (81 ≤ c ∧ c ≤ 85 ∧ i < 12 * na) ∨ (c = 86 ∧ i < 1210 * na)) : a_row na c i = false := by
  cases hh : a_row na c i with
  | false => rfl
  | true =>
    simp only [a_row, Bool.or_eq_true, Bool.and_eq_true, Nat.beq_eq, Nat.ble_eq] at hh
    omega
theorem a_in_cong {f g : Nat → Int32} {hi : Nat} : ∀ m u, a_in f hi m u = true → (∀ i, i < hi → g i = f i) → a_ops g m u = a_ops f m u ∧ a_in g hi m u = true
  | 0, u, h, _ => by cases h
  | m + 1, u, h, hg => by
    have h' : (Nat.blt u hi && (if f u = 0 then true else if f u = 1 ∨ f u = 2 then Nat.blt (u + 1) hi && a_in f hi m (u + 2) else a_in f hi m (u + 1))) = true := h
    rw [Bool.and_eq_true] at h'
    have hu : u < hi := Nat.ble_eq.mp h'.1
    have e := hg u hu
    show (if g u = 0 then [] else if g u = 1 ∨ g u = 2 then (g u, g (u + 1)) :: a_ops g m (u + 2) else (g u, 0) :: a_ops g m (u + 1)) = (if f u = 0 then [] else if f u = 1 ∨ f u = 2 then (f u, f (u + 1)) :: a_ops f m (u + 2) else (f u, 0) :: a_ops f m (u + 1)) ∧ (Nat.blt u hi && (if g u = 0 then true else if g u = 1 ∨ g u = 2 then Nat.blt (u + 1) hi && a_in g hi m (u + 2) else a_in g hi m (u + 1))) = true
    rw [e, h'.1, Bool.true_and]
    have h2 := h'.2
    by_cases c0 : f u = 0
    · rw [if_pos c0, if_pos c0, if_pos c0]
      exact ⟨rfl, rfl⟩
    · rw [if_neg c0] at h2
      rw [if_neg c0, if_neg c0, if_neg c0]
      by_cases c1 : f u = 1 ∨ f u = 2
      · rw [if_pos c1, Bool.and_eq_true] at h2
        have hu1 : u + 1 < hi := Nat.ble_eq.mp h2.1
        obtain ⟨k1, k2⟩ := a_in_cong m (u + 2) h2.2 hg
        rw [if_pos c1, if_pos c1, if_pos c1, hg (u + 1) hu1, k1, k2, h2.1]
        exact ⟨rfl, rfl⟩
      · rw [if_neg c1] at h2
        obtain ⟨k1, k2⟩ := a_in_cong m (u + 1) h2 hg
        rw [if_neg c1, if_neg c1, if_neg c1, k1, k2]
        exact ⟨rfl, rfl⟩
theorem r_ex.ops {D : a_F} {a u : Nat} {c : yx_C} (h : r_ex D a u c) : a_ops (D 86) 1211 u = c := r_sp_ops c u 1211 h.2.2.2.1 h.2.1 h.2.2.1 (by have := h.2.2.2.2.1; omega)
theorem r_ex.ex {D : a_F} {a u : Nat} {c : yx_C} (ha : a < 12) (h : r_ex D a u c) : a_ex D a (nI u) := by
  refine ⟨u, rfl, h.1.1, by have := h.1.2; omega, ?_, ?_⟩
  · exact r_sp_in c u 1211 h.2.2.2.1 h.2.1 h.2.2.1 (by have := h.2.2.2.2.1; omega) h.1.2
  · rw [h.ops]
    exact h.2.2.2.2.2
theorem a_ex.new {D D' : a_F} {a na : Nat} {x : Int32} (ha : a < na) (h : a_ex D a x) (hr : ∀ i, i < 1210 * na → D' 86 i = D 86 i) : a_ex D' a x ∧ a_ops (D' 86) 1211 (a_ix x) = a_ops (D 86) 1211 (a_ix x) := by
  obtain ⟨u, rfl, h1, h2, h3, h4⟩ := h
  obtain ⟨k1, k2⟩ := a_in_cong 1211 u h3 (fun i hi => hr i (by omega))
  refine ⟨⟨u, rfl, h1, h2, k2, by rw [k1]; exact h4⟩, ?_⟩
  rw [show a_ix (nI u) = u from nI_clamp (by omega)]
  exact k1
/-- the new data are well-formed -/
theorem w_act {nl nq np nf na tn : Nat} {D D' : a_F} {l : List yx_K} {land fr to' : Int32} (h : w_ok nl nq np nf na tn 0 D) (hna : na < 12) (hl : ∃ x, x < nl ∧ land = nI x) (hf : ∃ u, u ≤ 72999 ∧ fr = nI u) (ht : ∃ u, u ≤ 72999 ∧ to' = nI u) (hD : a_new D D' na l land fr to' tn) : w_ok nl nq np nf (na + 1) tn 0 D' := by
  obtain ⟨d1, d2, ⟨d3, d4, d5, d6, d7, d8, d9⟩, d10, d11⟩ := hD
  obtain ⟨⟨⟨⟨p1, p2, p3⟩, ⟨b1, b2, b3, b4⟩, p4⟩, hA, hF, hT, h6, hf2⟩, hDR, htn, hp⟩ := h
  have r : ∀ c i, c < 74 → c ≠ 59 → D' c i = D c i := fun c i h1 h2 => d1 c i (a_row_no (Or.inl ⟨h1, h2⟩))
  have r59 : ∀ i, i ≠ 32 → D' 59 i = D 59 i := fun i h1 => d1 59 i (a_row_no (Or.inr (Or.inl ⟨rfl, h1⟩)))
  have rA : ∀ c i, 74 ≤ c → c ≤ 80 → i < na → D' c i = D c i := fun c i h1 h2 h3 => d1 c i (a_row_no (Or.inr (Or.inr (Or.inl ⟨h1, h2, by omega⟩))))
  have rK : ∀ c i, 81 ≤ c → c ≤ 85 → i < 12 * na → D' c i = D c i := fun c i h1 h2 h3 => d1 c i (a_row_no (Or.inr (Or.inr (Or.inr (Or.inl ⟨h1, h2, h3⟩)))))
  have rC : ∀ i, i < 1210 * na → D' 86 i = D 86 i := fun i h3 => d1 86 i (a_row_no (Or.inr (Or.inr (Or.inr (Or.inr ⟨rfl, h3⟩)))))
  refine ⟨⟨⟨⟨by rw [r59 3 (by decide)]; exact p1, by rw [r59 5 (by decide)]; exact p2, d2⟩, ⟨b1, b2, b3, by omega⟩, fun p hp => by rw [r 62 p (by decide) (by decide), r 63 p (by decide) (by decide)]; exact p4 p hp⟩, fun a ha => ?_, fun f hf => ?_, fun a ha => ?_, by rw [r59 6 (by decide)]; exact h6, hf2⟩, fun p hp => by rw [r 62 p (by decide) (by decide), r 63 p (by decide) (by decide)]; exact hDR p hp, htn, Nat.zero_le _⟩
  · by_cases e : a = na
    · subst e
      obtain ⟨x, hx, hx2⟩ := hl
      refine ⟨⟨x, hx, d3.trans hx2⟩, l.length, d10, d8, fun c hc h4 => ?_⟩
      obtain ⟨k, hk⟩ : ∃ k, l[c]? = some k := ⟨l[c], List.getElem?_eq_getElem hc⟩
      rcases d11 c k hk with ⟨q1, q2⟩ | ⟨q1, q2, q3, q4, ⟨u, q5, q6⟩, q7, q8⟩
      · exact absurd q2 h4
      · refine ⟨by rw [q5]; exact q6.ex hna, ?_⟩
        cases hun : k.2.2.2.1 with
        | none => exact Or.inl (q7 hun)
        | some c2 =>
          obtain ⟨u2, q9, q10⟩ := q8 c2 hun
          exact Or.inr (by rw [q9]; exact q10.ex hna)
    · have han : a < na := by omega
      obtain ⟨⟨x, hx, hx2⟩, cn, hcn, hcn2, hok⟩ := hA a han
      refine ⟨⟨x, hx, (rA 74 a (by decide) (by decide) han).trans hx2⟩, cn, hcn, (rA 79 a (by decide) (by decide) han).trans hcn2, fun c hc => ?_⟩
      rw [rK 81 _ (by decide) (by decide) (by omega), rK 83 _ (by decide) (by decide) (by omega), rK 84 _ (by decide) (by decide) (by omega)]
      intro h4
      obtain ⟨e1, e2⟩ := hok c hc h4
      refine ⟨(e1.new han rC).1, ?_⟩
      rcases e2 with e2 | e2
      · exact Or.inl e2
      · exact Or.inr (e2.new han rC).1
  · rw [r 64 f (by decide) (by decide), r 65 f (by decide) (by decide), r 66 f (by decide) (by decide), r 67 f (by decide) (by decide), r 70 f (by decide) (by decide), show D' 71 = D 71 from funext fun i => r 71 i (by decide) (by decide)]
    exact hF f hf
  · by_cases e : a = na
    · subst e
      obtain ⟨u, hu, hu2⟩ := hf
      obtain ⟨v, hv, hv2⟩ := ht
      exact ⟨u, v, hu, hv, d4.trans hu2, d5.trans hv2⟩
    · have han : a < na := by omega
      rw [rA 75 a (by decide) (by decide) han, rA 76 a (by decide) (by decide) han]
      exact hT a han
/-- cells of the class that act() changes -/
def c_asc (na c i : Nat) : Bool := (Nat.beq c 0 && (Nat.beq i 9 || Nat.beq i 11)) || (Nat.beq c 32 || ((Nat.beq c 16 && Nat.beq i 15) || ((Nat.beq i na && (Nat.ble 17 c && Nat.ble c 24)) || ((Nat.ble (12 * na) i && (Nat.ble 25 c && Nat.ble c 30)) || (Nat.beq c 31 && Nat.ble (500 * na) i)))))
theorem c_asc_no {na c i : Nat} (h : (c = 0 ∧ i ≠ 9 ∧ i ≠ 11) ∨ (0 < c ∧ c < 16) ∨ (c = 16 ∧ i ≠ 15) ∨ (17 ≤ c ∧ c ≤ 24 ∧ i ≠ na) ∨ (25 ≤ c ∧ c ≤ 30 ∧ i < 12 * na) ∨ (c = 31 ∧ i < 500 * na) ∨ 32 < c) : c_asc na c i = false := by
  cases hh : c_asc na c i with
  | false => rfl
  | true =>
    simp only [c_asc, Bool.or_eq_true, Bool.and_eq_true, Nat.beq_eq, Nat.ble_eq] at hh
    omega
theorem c_e.lo {I I' : a_F} {lo hi : Int32} {ops : yx_C} {b : Nat} (h : c_e I lo hi ops) (hb : ∀ u, u ≤ 6000 → hi = nI u → u ≤ b) (h31 : ∀ j, j < b → I' 31 j = I 31 j) : c_e I' lo hi ops := by
  obtain ⟨u, m, h1, h2, h3, h4⟩ := h
  have hub := hb (u + m) h3 h2
  refine ⟨u, m, h1, h2, h3, ?_⟩
  rw [c_ops_cong m u (g := I 31) (fun i a b => h31 i (by omega))]
  exact h4
/-- a clause of an act ahead stays -/
theorem c_cl.old {D D' I I' : a_F} {a na k : Nat} (h : c_cl D I a k) (ha : a < na) (hna : na ≤ 12) (hk : k < 12 * na) (hf : q_F (c_asc na) I I') (hD : ∀ c, 81 ≤ c → c ≤ 85 → D' c k = D c k) (ho : D 81 k ≠ 4 → a_ops (D' 86) 1211 (a_ix (D 83 k)) = a_ops (D 86) 1211 (a_ix (D 83 k)) ∧ (D 84 k ≠ -1 → a_ops (D' 86) 1211 (a_ix (D 84 k)) = a_ops (D 86) 1211 (a_ix (D 84 k)))) : c_cl D' I' a k := by
  have r : ∀ c, 25 ≤ c → c ≤ 30 → I' c k = I c k := fun c h1 h2 => hf c k (c_asc_no (Or.inr (Or.inr (Or.inr (Or.inr (Or.inl ⟨h1, h2, hk⟩))))))
  have r23 : I' 23 a = I 23 a := hf 23 a (c_asc_no (Or.inr (Or.inr (Or.inr (Or.inl ⟨by decide, by decide, by omega⟩)))))
  have r31 : ∀ j, j < 500 * na → I' 31 j = I 31 j := fun j hj => hf 31 j (c_asc_no (Or.inr (Or.inr (Or.inr (Or.inr (Or.inr (Or.inl ⟨rfl, hj⟩)))))))
  unfold c_cl
  rw [hD 81 (by decide) (by decide), hD 82 (by decide) (by decide), hD 83 (by decide) (by decide), hD 84 (by decide) (by decide), hD 85 (by decide) (by decide), r 25 (by decide) (by decide), r 26 (by decide) (by decide), r 27 (by decide) (by decide), r 28 (by decide) (by decide), r 29 (by decide) (by decide), r 30 (by decide) (by decide), r23]
  rcases h with q | ⟨q1, q2, q3, ⟨q4, q5, hh, q6, q7⟩, q8, q9, q10⟩
  · exact Or.inl q
  · have h4 : D 81 k ≠ 4 := by rcases q1 with q | q <;> rw [q] <;> decide
    obtain ⟨o1, o2⟩ := ho h4
    have b29 : ∀ u, u ≤ 6000 → I 29 k = nI u → u ≤ 500 * na := fun u hu h29 => by
      have := nI_inj2 (by omega) (by omega) (q7.symm.trans h29)
      omega
    have b28 : ∀ u, u ≤ 6000 → I 28 k = nI u → u ≤ 500 * na := fun u hu h28 => by
      by_cases hn : D 84 k = -1
      · obtain ⟨u', m', w1, w2, w3, -⟩ := q9 hn
        have e1 := nI_inj2 (by omega) (by omega) (w1.symm.trans h28)
        have e2 := b29 _ w3 w2
        omega
      · obtain ⟨u', m', w1, w2, w3, -⟩ := q10 hn
        have e1 := nI_inj2 (by omega) (by omega) (w1.symm.trans h28)
        have e2 := b29 _ w3 w2
        omega
    refine Or.inr ⟨q1, q2, q3, ⟨q4, q5, hh, q6, q7⟩, ?_, fun z => (q9 z).lo b29 r31, fun z => ?_⟩
    · rw [o1]
      exact q8.lo b28 r31
    · rw [o2 z]
      exact (q10 z).lo b29 r31
/-- the acts ahead stay -/
theorem c_D.old {nl nq np nf na : Nat} {D I I' : a_F} (h : c_D nl nq np nf na D I) (hna : na ≤ 12) (hf : q_F (c_asc na) I I') (h16 : I' 16 15 = nI na) (hcn : ∀ a, a < na → ∃ cn, cn ≤ 12 ∧ D 79 a = nI cn) : c_D nl nq np nf na D I' := by
  obtain ⟨⟨h1, h2, h3, h4, h5⟩, h6, h7, h8, h9⟩ := h
  have lo : ∀ c i, 0 < c → c < 16 → I' c i = I c i := fun c i a b => hf c i (c_asc_no (Or.inr (Or.inl ⟨a, b⟩)))
  refine ⟨⟨?_, ?_, ?_, ?_, h16⟩, fun q hq => ?_, fun p hp => ?_, fun f hf2 => ?_, fun a ha => ?_⟩
  · rw [lo 1 2 (by decide) (by decide)]; exact h1
  · rw [lo 1 1 (by decide) (by decide)]; exact h2
  · rw [lo 3 3 (by decide) (by decide)]; exact h3
  · rw [lo 7 8 (by decide) (by decide)]; exact h4
  · rw [lo 2 q (by decide) (by decide)]; exact h6 q hq
  · rw [lo 4 p (by decide) (by decide), lo 5 p (by decide) (by decide), lo 6 p (by decide) (by decide)]; exact h7 p hp
  · rw [lo 8 f (by decide) (by decide), lo 9 f (by decide) (by decide), lo 10 f (by decide) (by decide), lo 11 f (by decide) (by decide), lo 12 f (by decide) (by decide), lo 13 f (by decide) (by decide), lo 15 f (by decide) (by decide)]
    obtain ⟨b1, b2, b3, b4, b5, b6, b7, b8⟩ := h8 f hf2
    exact ⟨b1, b2, b3, b4, b5, b6, b7, fun i hi => by rw [lo 14 _ (by decide) (by decide)]; exact b8 i hi⟩
  · have r : ∀ c, 17 ≤ c → c ≤ 24 → I' c a = I c a := fun c p q => hf c a (c_asc_no (Or.inr (Or.inr (Or.inr (Or.inl ⟨p, q, by omega⟩)))))
    obtain ⟨b1, b2, b3, b4, b5, b6, b7, b8⟩ := h9 a ha
    obtain ⟨cn, c1, c2⟩ := hcn a ha
    rw [r 17 (by decide) (by decide), r 18 (by decide) (by decide), r 19 (by decide) (by decide), r 20 (by decide) (by decide), r 21 (by decide) (by decide), r 24 (by decide) (by decide), r 22 (by decide) (by decide)]
    refine ⟨b1, b2, b3, b4, b5, b6, b7, fun c hc => ?_⟩
    rw [c2, show a_ix (nI cn) = cn from nI_clamp (by omega)] at hc
    exact (b8 c (by rw [c2, show a_ix (nI cn) = cn from nI_clamp (by omega)]; exact hc)).old ha hna (by omega) hf (fun _ _ _ => rfl) (fun _ => ⟨rfl, fun _ => rfl⟩)
/-- an act more, in the class's cells -/
theorem c_D.act {nl nq np nf na tn s : Nat} {D D' I I' : a_F} {l : List yx_K} {land fr to' : Int32} (h : c_D nl nq np nf na D I) (hw : a_D nl nq np nf na D) (hna : na < 12) (hf : q_F (c_asc na) I I') (h16 : I' 16 15 = nI (na + 1)) (hD : a_new D D' na l land fr to' tn) (h17 : I' 17 na = land) (h18 : I' 18 na = fr) (h19 : I' 19 na = to') (h20 : I' 20 na = nI tn) (h21 : I' 21 na = -1) (h24 : I' 24 na = nI l.length) (h22 : I' 22 na = yx_stk l 0) (hs : s ≤ 500 * na + 500) (hk : ∀ c k, l[c]? = some k → c_kd na I' s (12 * na + c) k) : c_D nl nq np nf (na + 1) D' I' := by
  obtain ⟨d1, d2, ⟨d3, d4, d5, d6, d7, d8, d9⟩, d10, d11⟩ := hD
  obtain ⟨⟨h1, h2, h3, h4, h5⟩, h6, h7, h8, h9⟩ := h
  have hA := hw.2.1
  have r : ∀ c i, c < 74 → c ≠ 59 → D' c i = D c i := fun c i h1 h2 => d1 c i (a_row_no (Or.inl ⟨h1, h2⟩))
  have rA : ∀ c i, 74 ≤ c → c ≤ 80 → i < na → D' c i = D c i := fun c i h1 h2 h3 => d1 c i (a_row_no (Or.inr (Or.inr (Or.inl ⟨h1, h2, by omega⟩))))
  have rK : ∀ c i, 81 ≤ c → c ≤ 85 → i < 12 * na → D' c i = D c i := fun c i h1 h2 h3 => d1 c i (a_row_no (Or.inr (Or.inr (Or.inr (Or.inl ⟨h1, h2, h3⟩)))))
  have rC : ∀ i, i < 1210 * na → D' 86 i = D 86 i := fun i h3 => d1 86 i (a_row_no (Or.inr (Or.inr (Or.inr (Or.inr ⟨rfl, h3⟩)))))
  have lo : ∀ c i, 0 < c → c < 16 → I' c i = I c i := fun c i a b => hf c i (c_asc_no (Or.inr (Or.inl ⟨a, b⟩)))
  refine ⟨⟨?_, ?_, ?_, ?_, h16⟩, fun q hq => ?_, fun p hp => ?_, fun f hf2 => ?_, fun a ha => ?_⟩
  · rw [lo 1 2 (by decide) (by decide)]; exact h1
  · rw [lo 1 1 (by decide) (by decide)]; exact h2
  · rw [lo 3 3 (by decide) (by decide)]; exact h3
  · rw [lo 7 8 (by decide) (by decide)]; exact h4
  · rw [lo 2 q (by decide) (by decide), r 60 q (by decide) (by decide)]; exact h6 q hq
  · rw [lo 4 p (by decide) (by decide), lo 5 p (by decide) (by decide), lo 6 p (by decide) (by decide), r 61 p (by decide) (by decide), r 62 p (by decide) (by decide), r 63 p (by decide) (by decide)]; exact h7 p hp
  · rw [lo 8 f (by decide) (by decide), lo 9 f (by decide) (by decide), lo 10 f (by decide) (by decide), lo 11 f (by decide) (by decide), lo 12 f (by decide) (by decide), lo 13 f (by decide) (by decide), lo 15 f (by decide) (by decide), r 64 f (by decide) (by decide), r 65 f (by decide) (by decide), r 66 f (by decide) (by decide), r 67 f (by decide) (by decide), r 68 f (by decide) (by decide), r 69 f (by decide) (by decide), r 70 f (by decide) (by decide)]
    obtain ⟨b1, b2, b3, b4, b5, b6, b7, b8⟩ := h8 f hf2
    exact ⟨b1, b2, b3, b4, b5, b6, b7, fun i hi => by rw [lo 14 _ (by decide) (by decide), r 71 _ (by decide) (by decide)]; exact b8 i hi⟩
  · by_cases e : a = na
    · subst e
      refine ⟨h17.trans d3.symm, h18.trans d4.symm, h19.trans d5.symm, h20.trans d6.symm, h21.trans d7.symm, h24.trans d8.symm, h22.trans d9.symm, fun c hc => ?_⟩
      rw [d8, show a_ix (nI l.length) = l.length from nI_clamp (by omega)] at hc
      obtain ⟨k, hkc⟩ : ∃ k, l[c]? = some k := ⟨l[c], List.getElem?_eq_getElem hc⟩
      rcases d11 c k hkc with ⟨q1, q2⟩ | ⟨q1, q2, ⟨q3, q3'⟩, ⟨q4, q4'⟩, ⟨u, q5, q6⟩, q7, q8⟩
      · rcases hk c k hkc with ⟨w1, w2⟩ | ⟨w1, -⟩
        · exact Or.inl ⟨q2, w2⟩
        · omega
      · rcases hk c k hkc with ⟨w1, w2⟩ | ⟨w1, w2, ⟨w3, w4, w5⟩, w6, v, w7, w8, w9, w10, w11, w12⟩
        · omega
        · refine Or.inr ⟨?_, w2.trans q2.symm, ⟨k.2.1, w3, q3', w4, w5⟩, ⟨w6.trans q4.symm, ?_, _, ?_, w10⟩, ?_, fun z => ?_, fun z => ?_⟩
          · rcases (show k.1 = 0 ∨ k.1 = 1 by omega) with e | e
            · exact Or.inl (by rw [q2, e]; rfl)
            · exact Or.inr (by rw [q2, e]; rfl)
          · cases hch : k.2.2.2.2.1 with
            | none =>
              rw [hch] at q4
              exact Or.inl q4
            | some x =>
              rw [hch] at q4
              exact Or.inr ⟨x, q4' x hch, q4⟩
          · omega
          · rw [q5, show a_ix (nI u) = u from nI_clamp (by have := q6.1.2; omega), q6.ops]
            exact ⟨v, k.2.2.1.length, w7, w8, by omega, w9⟩
          · have hun : k.2.2.2.1 = none := by
              cases hun : k.2.2.2.1 with
              | none => rfl
              | some c2 =>
                obtain ⟨u2, q9, q10⟩ := q8 c2 hun
                rw [z] at q9
                exact absurd q9.symm (nI_m1 (by have := q10.1.2; omega))
            rw [hun] at w10 w11
            exact ⟨v + k.2.2.1.length, 0, w8, w10, by omega, rfl⟩
          · cases hun : k.2.2.2.1 with
            | none => exact absurd (q7 hun) z
            | some c2 =>
              obtain ⟨u2, q9, q10⟩ := q8 c2 hun
              rw [hun] at w10 w11 w12
              rw [q9, show a_ix (nI u2) = u2 from nI_clamp (by have := q10.1.2; omega), q10.ops]
              exact ⟨v + k.2.2.1.length, c2.length, w8, w10, by show v + k.2.2.1.length + c2.length ≤ 6000; have w12' : v + k.2.2.1.length + c2.length ≤ s := w12; omega, w11⟩
    · have han : a < na := by omega
      have rr : ∀ c, 17 ≤ c → c ≤ 24 → I' c a = I c a := fun c p q => hf c a (c_asc_no (Or.inr (Or.inr (Or.inr (Or.inl ⟨p, q, by omega⟩)))))
      obtain ⟨b1, b2, b3, b4, b5, b6, b7, b8⟩ := h9 a han
      obtain ⟨-, cn, c1, c2, hok⟩ := hA a han
      rw [rr 17 (by decide) (by decide), rr 18 (by decide) (by decide), rr 19 (by decide) (by decide), rr 20 (by decide) (by decide), rr 21 (by decide) (by decide), rr 24 (by decide) (by decide), rr 22 (by decide) (by decide), rA 74 a (by decide) (by decide) han, rA 75 a (by decide) (by decide) han, rA 76 a (by decide) (by decide) han, rA 77 a (by decide) (by decide) han, rA 78 a (by decide) (by decide) han, rA 79 a (by decide) (by decide) han, rA 80 a (by decide) (by decide) han]
      refine ⟨b1, b2, b3, b4, b5, b6, b7, fun c hc => ?_⟩
      have hc' := hc
      rw [c2, show a_ix (nI cn) = cn from nI_clamp (by omega)] at hc'
      refine (b8 c hc).old han (by omega) (by omega) hf (fun c' p q => rK c' _ p q (by omega)) (fun h4 => ?_)
      obtain ⟨e1, e2⟩ := hok c hc' h4
      refine ⟨(e1.new han rC).2, fun z => ?_⟩
      rcases e2 with e2 | e2
      · exact absurd e2 z
      · exact (e2.new han rC).2

/-! ===== chains of leans ===== -/
def a_links (s : a_F) : Nat → Int32 → Nat
  | 0, _ => 0
  | n + 1, x => if x = -1 then 0 else a_links s n (s 15 (a_ix x)) + 1
def a_link (s : a_F) : Nat → Int32 → Int32
  | 0, x => x
  | i + 1, x => a_link s i (s 15 (a_ix x))
def a_fnd (s : a_F) (x4 : Int32) : Nat → Nat → Int32 → Int32 → Int32
  | 0, _, _, f => f
  | m + 1, c, x, f => if x = -1 then f else a_fnd s x4 m (c + 1) (s 15 (a_ix x)) (if nI c = x4 then x else f)
def a_tell (s : a_F) (w m : Nat) : Int32 := if w = 0 then s 11 m else if w = 1 then s 12 m else if w = 2 then s 13 m / 12 else if w = 3 then s 13 m - s 13 m / 12 * 12 else if w = 4 then s 14 m else s 16 m
theorem a_links_le (s : a_F) : ∀ m x, a_links s m x ≤ m
  | 0, x => Nat.le_refl _
  | m + 1, x => by
    unfold a_links
    split
    · omega
    · have := a_links_le s m (s 15 (a_ix x))
      omega
theorem a_fnd_no (s : a_F) (x4 : Int32) : ∀ m c x f, (∀ i, c ≤ i → i < c + a_links s m x → ¬ nI i = x4) → a_fnd s x4 m c x f = f
  | 0, c, x, f, h => rfl
  | m + 1, c, x, f, h => by
    unfold a_fnd
    by_cases hx : x = -1
    · rw [if_pos hx]
    · rw [if_neg hx]
      have e : a_links s (m + 1) x = a_links s m (s 15 (a_ix x)) + 1 := if_neg hx
      rw [e] at h
      rw [if_neg (h c (Nat.le_refl _) (by omega))]
      exact a_fnd_no s x4 m (c + 1) _ f (fun i h1 h2 => h i (by omega) (by omega))
theorem a_fnd_yes (s : a_F) {i : Nat} (hi : i < 2 ^ 31) : ∀ m c x f, c + m < 2 ^ 31 → c ≤ i → i < c + a_links s m x → a_fnd s (nI i) m c x f = a_link s (i - c) x ∧ ¬ a_link s (i - c) x = -1
  | 0, c, x, f, _, h1, h2 => by
    have e : a_links s 0 x = 0 := rfl
    omega
  | m + 1, c, x, f, hb, h1, h2 => by
    by_cases hx : x = -1
    · have e : a_links s (m + 1) x = 0 := if_pos hx
      omega
    · have e : a_links s (m + 1) x = a_links s m (s 15 (a_ix x)) + 1 := if_neg hx
      have e2 : a_fnd s (nI i) (m + 1) c x f = a_fnd s (nI i) m (c + 1) (s 15 (a_ix x)) (if nI c = nI i then x else f) := if_neg hx
      rw [e] at h2
      rw [e2]
      by_cases hc : c = i
      · subst hc
        rw [if_pos rfl, a_fnd_no s (nI c) m (c + 1) _ x (fun i h3 h4 q => by
          have hle := a_links_le s m (s 15 (a_ix x))
          have := nI_inj2 (by omega) (by omega) q
          omega), Nat.sub_self]
        exact ⟨rfl, hx⟩
      · have ih := a_fnd_yes s hi m (c + 1) (s 15 (a_ix x)) (if nI c = nI i then x else f) (by omega) (by omega) (by omega)
        rw [show i - c = (i - (c + 1)) + 1 by omega]
        exact ih
theorem a_link_in {n : Nat} {s : a_F} (h : a_lk n s) (hn : n < 2 ^ 31) : ∀ i F x, a_ir n x → i < a_links s F x → ∃ m, m < n ∧ a_link s i x = nI m
  | 0, F, x, hx, hi => by
    cases F with
    | zero => exact absurd hi (Nat.not_lt_zero 0)
    | succ F =>
      by_cases e : x = -1
      · have : a_links s (F + 1) x = 0 := if_pos e
        omega
      · rcases hx with hx | hx
        · exact absurd hx e
        · exact hx
  | i + 1, F, x, hx, hi => by
    cases F with
    | zero => exact absurd hi (Nat.not_lt_zero (i + 1))
    | succ F =>
      by_cases e : x = -1
      · have : a_links s (F + 1) x = 0 := if_pos e
        omega
      · have e2 : a_links s (F + 1) x = a_links s F (s 15 (a_ix x)) + 1 := if_neg e
        rcases hx with hx | ⟨m, hm, rfl⟩
        · exact absurd hx e
        · rw [show a_ix (nI m) = m from nI_clamp (by omega)] at e2
          show ∃ m', m' < n ∧ a_link s i (s 15 (a_ix (nI m))) = nI m'
          rw [show a_ix (nI m) = m from nI_clamp (by omega)]
          exact a_link_in h hn i F _ (h.2.2.1 m hm).1 (by omega)
section Chain
variable {β : Bool} {xs : Nat → Int32} {L : Nat}
theorem k_lnL {d e nq j n : Nat} {G : am_G} {I s : a_F} {J : Nat → Nat → Int64} (hL : c_L e j G) (hS : c_S nq j I s) (hk : a_lk n s) (hn : n ≤ 235200) (i1 : Int32) {Q : am_O → am_H → Prop} : ∀ m c x, c + m = 40 → a_ir n x → Q (.inl (some (.int (nI (c + a_links s m x))))) (G, I, J) →
    q_W β xs L d 24 4 [.ref 42, .int i1, .int (nI c), .int x] [] (G, I, J) Q := by
  intro m
  have hR := hL.2.1
  have e42 : I 42 4 = nI n := hS.2.2.2.1.trans hk.1
  have en : a_ix (s 17 0) = n := by rw [hk.1]; exact nI_clamp (by omega)
  induction m with
  | zero =>
    intro c x hc hx hQ
    have hQ' : q_W β xs L d 24 41 [.ref 42, .int i1, .int (nI c), .int x] [] (G, I, J) Q := g_24_41 hR _ _ _ hQ
    refine g_24_4 hR _ _ _ ⟨fun _ => hQ', fun _ => ⟨fun _ => hQ', fun _ => ⟨fun _ => hQ', fun z => ?_⟩⟩⟩
    have := (nI_ltI (b := 40) (by omega) (by omega)).mp z
    omega
  | succ m ih =>
    intro c x hc hx hQ
    rcases hx with hx | ⟨y, hy, hx⟩
    · subst hx
      refine g_24_4 hR _ _ _ ⟨fun _ => g_24_41 hR _ _ _ ?_, fun z => absurd (by decide) z⟩
      have e0 : a_links s (m + 1) (-1) = 0 := if_pos rfl
      rw [e0] at hQ
      exact hQ
    · subst hx
      have ey : a_ix (nI y) = y := nI_clamp (by omega)
      have e1 : a_links s (m + 1) (nI y) = a_links s m (s 15 y) + 1 := (if_neg (nI_m1 (by omega))).trans (by rw [ey])
      rw [e1] at hQ
      refine g_24_4 hR _ _ _ ⟨fun z => absurd z (nI_pos (by omega)), fun _ => ⟨fun z => absurd (by rw [e42]; exact (nI_ltI (by omega) (by omega)).mpr hy) z, fun _ => ⟨fun z => absurd ((nI_ltI (b := 40) (by omega) (by omega)).mpr (by omega)) z, fun _ => ⟨c_row j, hL.2.2.2.1, 448 * 2 ^ j, c_row_SH, ?_⟩⟩⟩⟩
      have e7 : (nI y * 7 + 6 : Int32) = nI (7 * y + 6) := by rw [show (7 : Int32) = nI 7 from rfl, show (6 : Int32) = nI 6 from rfl, pk_mul, Nat.mul_comm, nI_add]
      have h7 : 7 * n ≤ 448 * 2 ^ j := by have := hS.2.2.2.2.1; rw [en] at this; exact this
      have hj : 2 ^ j ≤ 512 := c_pow hL.1
      rw [e7, show (nI (7 * y + 6)).toNatClampNeg = 7 * y + 6 from nI_clamp (by omega), nI_1, (hS.2.2.2.2.2 y (by omega)).2.2.2.2.2.2]
      refine ⟨am_is_nI (by omega) (by omega), ih (c + 1) _ (by omega) (hk.2.2.1 y hy).1 ?_⟩
      rw [show c + 1 + a_links s m (s 15 y) = c + (a_links s m (s 15 y) + 1) by omega]
      exact hQ
theorem k_tlL {d e nq j n i w : Nat} {G : am_G} {I s : a_F} {J : Nat → Nat → Int64} (hL : c_L e j G) (hS : c_S nq j I s) (hk : a_lk n s) (hn : n ≤ 235200) (hi : i < 40) (hw : w < 6) (i1 : Int32) {Q : am_O → am_H → Prop} : ∀ m c F x, c + m = i → a_ir n x → m < a_links s F x → Q (.inl (some (.int (a_tell s w (a_ix (a_link s m x)))))) (G, I, J) →
    q_W β xs L d 25 6 [.ref 42, .int i1, .int (nI i), .int (nI w), .int x, .int (nI c)] [] (G, I, J) Q := by
  intro m
  have hR := hL.2.1
  have e42 : I 42 4 = nI n := hS.2.2.2.1.trans hk.1
  have en : a_ix (s 17 0) = n := by rw [hk.1]; exact nI_clamp (by omega)
  have h7 : 7 * n ≤ 448 * 2 ^ j := by have := hS.2.2.2.2.1; rw [en] at this; exact this
  have hj : 2 ^ j ≤ 512 := c_pow hL.1
  induction m with
  | zero =>
    intro c F x hc hx hm hQ
    obtain ⟨y, hy, hx2⟩ := a_link_in hk (by omega) 0 F x hx hm
    have hx3 : x = nI y := hx2
    subst hx3
    have ey : a_ix (nI y) = y := nI_clamp (by omega)
    have hQ2 : Q (.inl (some (.int (a_tell s w y)))) (G, I, J) := by
      have : a_link s 0 (nI y) = nI y := rfl
      rw [this, ey] at hQ
      exact hQ
    refine g_25_6 hR _ _ _ _ _ ⟨fun _ => ?_, fun z => ?_⟩
    · refine g_25_47 hR _ _ _ _ _ ⟨fun z => absurd z (nI_pos (by omega)), fun _ => ⟨fun z => absurd (by rw [e42]; exact (nI_ltI (by omega) (by omega)).mpr hy) z, fun _ => ⟨fun z => absurd z (nI_pos (by omega)), fun _ => ⟨fun z => absurd ((nI_ltI (b := 6) (by omega) (by omega)).mpr hw) z, fun _ => ⟨c_row j, hL.2.2.2.1, 448 * 2 ^ j, c_row_SH, ?_⟩⟩⟩⟩⟩
      have e7 : (nI y * 7 + nI w : Int32) = nI (7 * y + w) := by rw [show (7 : Int32) = nI 7 from rfl, pk_mul, Nat.mul_comm, nI_add]
      rw [e7, show (nI (7 * y + w)).toNatClampNeg = 7 * y + w from nI_clamp (by omega)]
      refine ⟨am_is_nI (by omega) (by omega), g_25_87 hR _ _ _ _ _ _ ?_⟩
      obtain ⟨r0, r1, r2, r3, r4, r5, r6⟩ := hS.2.2.2.2.2 y (by omega)
      have hw6 : w = 0 ∨ w = 1 ∨ w = 2 ∨ w = 3 ∨ w = 4 ∨ w = 5 := by omega
      rcases hw6 with h | h | h | h | h | h <;> subst h
      · rw [show I (c_row j) (7 * y + 0) = s 11 y from r0]; exact hQ2
      · rw [r1]; exact hQ2
      · rw [r2]; exact hQ2
      · rw [r3]; exact hQ2
      · rw [r4]; exact hQ2
      · rw [r5]; exact hQ2
    · have := (nI_ltI (by omega) (by omega)).mp z
      omega
  | succ m ih =>
    intro c F x hc hx hm hQ
    cases F with
    | zero => exact absurd hm (Nat.not_lt_zero (m + 1))
    | succ F =>
      by_cases hx1 : x = -1
      · have : a_links s (F + 1) x = 0 := if_pos hx1
        omega
      · rcases hx with hx | ⟨y, hy, hx⟩
        · exact absurd hx hx1
        · subst hx
          have ey : a_ix (nI y) = y := nI_clamp (by omega)
          have e1 : a_links s (F + 1) (nI y) = a_links s F (s 15 y) + 1 := (if_neg hx1).trans (by rw [ey])
          have e2 : a_link s (m + 1) (nI y) = a_link s m (s 15 y) := by show a_link s m (s 15 (a_ix (nI y))) = _; rw [ey]
          rw [e2] at hQ
          refine g_25_6 hR _ _ _ _ _ ⟨fun z => absurd ((nI_ltI (by omega) (by omega)).mpr (by omega)) z, fun _ => ⟨fun z => absurd z (nI_pos (by omega)), fun _ => ⟨fun z => absurd (by rw [e42]; exact (nI_ltI (by omega) (by omega)).mpr hy) z, fun _ => ⟨c_row j, hL.2.2.2.1, 448 * 2 ^ j, c_row_SH, ?_⟩⟩⟩⟩
          have e7 : (nI y * 7 + 6 : Int32) = nI (7 * y + 6) := by rw [show (7 : Int32) = nI 7 from rfl, show (6 : Int32) = nI 6 from rfl, pk_mul, Nat.mul_comm, nI_add]
          rw [e7, show (nI (7 * y + 6)).toNatClampNeg = 7 * y + 6 from nI_clamp (by omega), nI_1, (hS.2.2.2.2.2 y (by omega)).2.2.2.2.2.2]
          exact ⟨am_is_nI (by omega) (by omega), ih (c + 1) F _ (by omega) (hk.2.2.1 y hy).1 (by omega) hQ⟩
end Chain

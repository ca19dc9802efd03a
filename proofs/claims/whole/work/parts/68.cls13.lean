/-! ===== the class: a new world; facts in doubt ===== -/
section C13
variable {β : Bool} {xs : Nat → Int32} {L : Nat} {G : am_G} {J : Nat → Nat → Int64}
theorem c_fillL {d r N : Nat} (hR : q_RT G) (hr : q_SH r = .inl (.int, N)) (hN : N < 2 ^ 31) (v : Int32) {I0 : a_F} {Q : am_O → am_H → Prop} (hQ : ∀ I', r_fw r I0 I' → (∀ i, i < N → I' r i = v) → Q (.inl none) (G, I', J)) : ∀ m i (I : a_F), i + m = N → r_fw r I0 I → (∀ j, j < i → I r j = v) →
    q_W β xs L d 201 5 [.ref r, .int v, .int (nI i), .int (nI N)] [] (G, I, J) Q
  | 0, i, I, hi, hf, h => by
    refine g_201_5 hR _ _ _ _ ⟨fun _ => hQ I hf (fun j hj => h j (by omega)), fun z => ?_⟩
    rw [nI_ltI (by omega) (by omega)] at z
    omega
  | m + 1, i, I, hi, hf, h => by
    refine g_201_5 hR _ _ _ _ ⟨fun z => absurd ((nI_ltI (by omega) (by omega)).mpr (by omega)) z, fun _ => ⟨N, hr, am_is_nI (by omega) hN, ?_⟩⟩
    rw [show (nI i).toNatClampNeg = i from nI_clamp (by omega), nI_1]
    refine c_fillL hR hr hN v hQ m (i + 1) _ (by omega) (hf.up _ _) (fun j hj => ?_)
    by_cases hji : j = i
    · subst hji; exact am_u_same
    · rw [am_u_ne (Or.inr hji)]; exact h j (by omega)
theorem c_fill {d r N : Nat} {I : a_F} (hR : q_RT G) (hr : q_SH r = .inl (.int, N)) (hN : N < 2 ^ 31) (v : Int32) : q_W β xs L d 201 0 [.ref r, .int v, .retAddr 0, .retAddr 0] [] (G, I, J) (fun o h => o = .inl none ∧ ∃ I', h = (G, I', J) ∧ r_fw r I I' ∧ ∀ i, i < N → I' r i = v) :=
  g_201_0 hR _ _ ⟨N, hr, c_fillL hR hr hN v (I0 := I) (fun I' q1 q2 => ⟨rfl, I', rfl, q1, q2⟩) N 0 I (by omega) (r_fw.rf r I) (fun j hj => absurd hj (Nat.not_lt_zero j))⟩
theorem r_fw.Fc {r : Nat} {I I' : a_F} (hf : r_fw r I I') (hr : 42 ≤ r ∧ r ≤ 56) : q_F c_sc I I' := fun c i hc => by
  rw [hf c (fun q => by
    subst q
    unfold c_sc at hc
    rw [Nat.ble_eq_true_of_le (by omega : 39 ≤ c), Nat.ble_eq_true_of_le hr.2] at hc
    cases hc)]
theorem c_clear {d j : Nat} {e : Nat} {I : a_F} (hL : c_L e j G) : q_W β xs L (d + 1) 22 0 [.ref 42] [] (G, I, J) (fun o h => o = .inl none ∧ ∃ I', h = (G, I', J) ∧ (∀ c, c ≠ 42 → c ≠ 43 → c ≠ 44 → c ≠ 45 → I' c = I c) ∧ I' 42 4 = 0 ∧ ∀ i, i < 100 → I' 43 i = -1 ∧ I' 44 i = 0 ∧ I' 45 i = 0) := by
  have hR := hL.2.1
  refine g_22_0 hR ?_
  refine q_useV (c_fill (β := β) (xs := xs) (L := L) (d := d) hR (r := 43) (N := 100) rfl (by decide) (-1)) (Nat.le_refl _) (fun I1 h1 => ⟨hR, ?_⟩)
  refine q_useV (c_fill (β := β) (xs := xs) (L := L) (d := d) hR (r := 44) (N := 100) rfl (by decide) 0) (Nat.le_refl _) (fun I2 h2 => ⟨hR, ?_⟩)
  refine q_useV (c_fill (β := β) (xs := xs) (L := L) (d := d) hR (r := 45) (N := 100) rfl (by decide) 0) (Nat.le_refl _) (fun I3 h3 => ?_)
  refine ⟨rfl, I3, rfl, fun c n2 n3 n4 n5 => ?_, ?_, fun i hi => ⟨?_, ?_, h3.2 i hi⟩⟩
  · rw [h3.1 c n5, h2.1 c n4, h1.1 c n3]
    exact am_u_row _ _ _ _ n2
  · rw [h3.1 42 (by decide), h2.1 42 (by decide), h1.1 42 (by decide), am_u_same]
  · rw [h3.1 43 (by decide), h2.1 43 (by decide)]; exact h1.2 i hi
  · rw [h3.1 44 (by decide)]; exact h2.2 i hi
theorem c_begin {d j e nq : Nat} {D I : a_F} (hL : c_L e j G) (hq : nq ≤ 12) (h2 : ∀ q, q < nq → I 2 q = D 60 q) : q_W β xs L (d + 2) 54 0 [.ref 38] [] (G, I, J) (fun o h => o = .inl none ∧ ∃ I', h = (G, I', J) ∧ q_F c_sc I I' ∧ c_ct I I' ∧ c_S nq j I' (a_init D)) := by
  have hR := hL.2.1
  refine g_54_0 hR ?_
  refine q_useV (c_clear (β := β) (xs := xs) (L := L) (d := d) (I := I) hL) (Nat.le_refl _) (fun I1 h1 => ⟨hR, ?_⟩)
  obtain ⟨a1, a2, a3⟩ := h1
  refine q_useV (c_fill (β := β) (xs := xs) (L := L) (d := d + 1) hR (r := 47) (N := 20) rfl (by decide) 0) (Nat.le_refl _) (fun I2 h2 => ⟨hR, ?_⟩)
  refine q_useV (c_fill (β := β) (xs := xs) (L := L) (d := d + 1) hR (r := 48) (N := 20) rfl (by decide) (-1)) (Nat.le_refl _) (fun I3 h3 => ⟨hR, ?_⟩)
  refine q_useV (c_fill (β := β) (xs := xs) (L := L) (d := d + 1) hR (r := 49) (N := 20) rfl (by decide) (-1)) (Nat.le_refl _) (fun I4 h4 => ⟨hR, ?_⟩)
  refine q_useV (c_fill (β := β) (xs := xs) (L := L) (d := d + 1) hR (r := 50) (N := 20) rfl (by decide) (-1)) (Nat.le_refl _) (fun I5 h5 => ⟨hR, ?_⟩)
  refine q_useV (c_fill (β := β) (xs := xs) (L := L) (d := d + 1) hR (r := 51) (N := 20) rfl (by decide) (-1)) (Nat.le_refl _) (fun I6 h6 => ⟨hR, ?_⟩)
  refine q_useV (c_fill (β := β) (xs := xs) (L := L) (d := d + 1) hR (r := 52) (N := 20) rfl (by decide) (-1)) (Nat.le_refl _) (fun I7 h7 => ⟨hR, ?_⟩)
  refine q_useV (c_fill (β := β) (xs := xs) (L := L) (d := d + 1) hR (r := 54) (N := 12) rfl (by decide) (-1)) (Nat.le_refl _) (fun I8 h8 => ⟨hR, ⟨by decide, by decide, by decide, by decide, by decide⟩, ?_⟩)
  have low : ∀ c, ¬ (42 ≤ c ∧ c ≤ 54) → am_row I8 53 (va_cpy (I8 2) (I8 53) (0 : Int32).toNatClampNeg (0 : Int32).toNatClampNeg (12 : Int32).toNatClampNeg) c = I c := fun c hc => by
    rw [am_row_ne _ _ _ (by omega), h8.1 c (by omega), h7.1 c (by omega), h6.1 c (by omega), h5.1 c (by omega), h4.1 c (by omega), h3.1 c (by omega), h2.1 c (by omega)]
    exact a1 c (by omega) (by omega) (by omega) (by omega)
  refine ⟨rfl, _, rfl, fun c i hc => ?_, ⟨fun i => ?_, fun i => ?_, fun i => ?_, ?_⟩, ⟨fun p hp => ?_, fun q hq2 => ?_, fun p l hp hl => ?_, ?_, ?_, fun m hm => absurd hm (Nat.not_lt_zero m)⟩⟩
  · rw [low c (fun q => by
      unfold c_sc at hc
      rw [Nat.ble_eq_true_of_le (by omega : 39 ≤ c), Nat.ble_eq_true_of_le (by omega : c ≤ 56)] at hc
      cases hc)]
  · rw [low 41 (by decide)]
  · rw [low 40 (by decide)]
  · rw [low 39 (by decide)]
  · rw [low 38 (by decide)]
  · rw [am_row_ne _ _ _ (by decide), am_row_ne _ _ _ (by decide), am_row_ne _ _ _ (by decide), am_row_ne _ _ _ (by decide), am_row_ne _ _ _ (by decide), am_row_ne _ _ _ (by decide)]
    refine ⟨?_, ?_, ?_, ?_, ?_, fun w => absurd rfl w⟩
    · rw [h8.1 47 (by decide), h7.1 47 (by decide), h6.1 47 (by decide), h5.1 47 (by decide), h4.1 47 (by decide), h3.1 47 (by decide)]
      exact h2.2 p hp
    · rw [h8.1 48 (by decide), h7.1 48 (by decide), h6.1 48 (by decide), h5.1 48 (by decide), h4.1 48 (by decide)]
      exact h3.2 p hp
    · rw [h8.1 49 (by decide), h7.1 49 (by decide), h6.1 49 (by decide), h5.1 49 (by decide)]
      exact h4.2 p hp
    · rw [h8.1 50 (by decide), h7.1 50 (by decide), h6.1 50 (by decide)]
      exact h5.2 p hp
    · rw [h8.1 51 (by decide), h7.1 51 (by decide)]
      exact h6.2 p hp
  · rw [am_row_eq, am_row_ne _ _ _ (by decide)]
    refine ⟨?_, h8.2 q (by omega)⟩
    have e12 : (12 : Int32).toNatClampNeg = 12 := rfl
    have e0 : (0 : Int32).toNatClampNeg = 0 := rfl
    rw [e12, e0, pk_cpy_in (Nat.zero_le _) (by omega), h8.1 2 (by decide), h7.1 2 (by decide), h6.1 2 (by decide), h5.1 2 (by decide), h4.1 2 (by decide), h3.1 2 (by decide), h2.1 2 (by decide), a1 2 (by decide) (by decide) (by decide) (by decide), Nat.zero_add, Nat.sub_zero]
    have := ‹∀ q, q < nq → I 2 q = D 60 q› q hq2
    exact this
  · have k : ∀ c, c = 43 ∨ c = 44 ∨ c = 45 ∨ c = 42 → ∀ i, am_row I8 53 (va_cpy (I8 2) (I8 53) (0 : Int32).toNatClampNeg (0 : Int32).toNatClampNeg (12 : Int32).toNatClampNeg) c i = I1 c i := fun c hc i => by
      rw [am_row_ne _ _ _ (by omega), h8.1 c (by omega), h7.1 c (by omega), h6.1 c (by omega), h5.1 c (by omega), h4.1 c (by omega), h3.1 c (by omega), h2.1 c (by omega)]
    rw [k 43 (by decide), k 44 (by decide), k 45 (by decide)]
    obtain ⟨z1, z2, z3⟩ := a3 (5 * p + l) (by omega)
    exact ⟨fun _ => z1, z2, z3⟩
  · rw [am_row_ne _ _ _ (by decide), h8.1 42 (by decide), h7.1 42 (by decide), h6.1 42 (by decide), h5.1 42 (by decide), h4.1 42 (by decide), h3.1 42 (by decide), h2.1 42 (by decide)]
    exact a2
  · show 7 * 0 ≤ _
    omega
end C13

/-! ===== the class: is it settled by a set ===== -/
/-- what a way says -/
def d_b (D : a_F) (day k p l : Nat) (w : Nat) : Bool := bt (a_run D w (nI day) (nI k) (-1) 0 p) l
/-- of the first n ways each says what the first alike says -/
def d_Sb (cs : List Nat) (b : Nat → Bool) (set : Nat) : Nat → Bool
  | 0 => true
  | n + 1 => d_Sb cs b set n && decide (b n = b (d_fst cs n set cs.length))
theorem d_Sb_iff (cs : List Nat) (b : Nat → Bool) (set : Nat) : ∀ n, d_Sb cs b set n = true ↔ ∀ w, w < n → b w = b (d_fst cs w set cs.length)
  | 0 => ⟨fun _ w hw => absurd hw (Nat.not_lt_zero w), fun _ => rfl⟩
  | n + 1 => by
    unfold d_Sb
    rw [Bool.and_eq_true, d_Sb_iff cs b set n]
    constructor
    · intro h w hw
      by_cases e : w = n
      · subst e; exact of_decide_eq_true h.2
      · exact h.1 w (by omega)
    · intro h
      exact ⟨fun w hw => h w (by omega), decide_eq_true (h n (by omega))⟩
section Sets3
variable {β : Bool} {xs : Nat → Int32} {L : Nat} {G : am_G} {I : a_F} {J : Nat → Nat → Int64}
theorem k_stL {d nl nq np nf set day k p l : Nat} {D : a_F} (hR : q_RT G) (hF : a_DF nl nq np nf D) {dl : List Nat} (hl : dl.length ≤ 3) (hm : ∀ x ∈ dl, x < nf) (hb : c_db D I dl) (hs : set < 8) (hcs : a_cs D dl ∈ d_all) (h27 : a_ways D dl ≤ 27) (hp : p < 20) (hl5 : l < 5) (ht : c_wt D I day k (a_ways D dl)) {Q : am_O → am_H → Prop} (hQ : ∀ b : Bool, b = d_Sb (a_cs D dl) (d_b D day k p l) set (a_ways D dl) → Q (.inl (some (.int (a_is b)))) (G, I, J)) : ∀ m w (v5 v6 : Value), am_nl v5 = true → am_nl v6 = true → w + m = a_ways D dl → d_Sb (a_cs D dl) (d_b D day k p l) set w = true →
    q_W β xs L (d + 2) 101 3 [.ref 0, .int (nI set), .int (nI p), .int (nI l), .int (nI w), v5, v6] [] (G, I, J) Q
  | 0, w, v5, v6, n5, n6, hw, hd => by
    have e : w = a_ways D dl := by omega
    refine g_101_3 hR _ _ _ _ _ _ n5 n6 ⟨fun _ => g_101_79 hR _ _ _ _ _ _ n5 n6 ⟨Or.inr rfl, ?_⟩, fun z => ?_⟩
    · rw [e] at hd
      exact hQ true hd.symm
    · rw [hb.2.1, nI_ltI (by omega) (by omega)] at z
      omega
  | m + 1, w, v5, v6, n5, n6, hw, hd => by
    have hwW : w < a_ways D dl := by omega
    refine g_101_3 hR _ _ _ _ _ _ n5 n6 ⟨fun z => absurd (by rw [hb.2.1]; exact (nI_ltI (by omega) (by omega)).mpr hwW) z, fun _ => ⟨fun z => absurd ((nI_ltI (b := 27) (by omega) (by omega)).mpr (by omega)) z, fun _ => ?_⟩⟩
    have hwd : w < d_w (a_cs D dl) := by rw [a_cs_w]; exact hwW
    have hf := (d_tab _ hcs w hwd set hs).1
    rw [a_cs_w, a_cs_len] at hf
    refine q_useI (k_fl (β := β) (xs := xs) (L := L) (d := d) hR hF hl hm hb (way := w) (by omega) hs) (Nat.le_refl _) ?_
    generalize hfe : d_fst (a_cs D dl) w set dl.length = f at hf
    have e20 : ∀ y, (nI y * 20 + nI p : Int32) = nI (20 * y + p) := fun y => by rw [show (20 : Int32) = nI 20 from rfl, pk_mul, Nat.mul_comm, nI_add]
    rw [e20, e20, show (nI (20 * w + p)).toNatClampNeg = 20 * w + p from nI_clamp (by omega), show (nI (20 * f + p)).toNatClampNeg = 20 * f + p from nI_clamp (by omega), ht w hwW p hp, ht f hf p hp, s_bit1 _ (by omega), b_xor, nI_1]
    have ed : d_Sb (a_cs D dl) (d_b D day k p l) set (w + 1) = decide (d_b D day k p l w = d_b D day k p l f) := by
      show (d_Sb _ _ set w && decide (_ = d_b D day k p l (d_fst (a_cs D dl) w set (a_cs D dl).length))) = _
      rw [hd, Bool.true_and, a_cs_len, hfe]
    refine ⟨hR, am_is_nI (by omega) (by omega), am_is_nI (by omega) (by omega), fun z => ?_, fun z => ⟨Or.inl rfl, ?_⟩⟩
    · refine k_stL hR hF hl hm hb hs hcs h27 hp hl5 ht hQ m (w + 1) _ _ rfl rfl (by omega) ?_
      rw [ed]
      refine decide_eq_true ?_
      unfold d_b
      cases h1 : bt (a_run D w (nI day) (nI k) (-1) 0 p) l <;> cases h2 : bt (a_run D f (nI day) (nI k) (-1) 0 p) l <;> first | rfl | (rw [h1, h2] at z; exact absurd rfl z)
    · refine hQ false ?_
      have hne : ¬ d_b D day k p l w = d_b D day k p l f := by
        unfold d_b
        intro q
        rw [q] at z
        cases h2 : bt (a_run D f (nI day) (nI k) (-1) 0 p) l <;> rw [h2] at z <;> cases z
      cases hh : d_Sb (a_cs D dl) (d_b D day k p l) set (a_ways D dl) with
      | false => rfl
      | true =>
        have := (d_Sb_iff _ _ _ _).mp hh w hwW
        rw [a_cs_len, hfe] at this
        exact absurd this hne
end Sets3

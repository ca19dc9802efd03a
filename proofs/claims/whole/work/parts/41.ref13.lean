/-! ===== the reference: a person is asked, whole ===== -/
section R13
variable {β : Bool} {xs : Nat → Int32} {L : Nat} {G : am_G} {I : Nat → Nat → Int32} {J : Nat → Nat → Int64}
/-- what an ask leaves, n records at the most -/
def r_pos (nq : Nat) (I : a_F) (G : am_G) (J : Nat → Nat → Int64) (s' : a_F) (n : Nat) : am_O → am_H → Prop := fun o h => o = .inl none ∧ ∃ I', h = (G, I', J) ∧ r_fr I I' ∧ r_cx I I' ∧ r_S nq I' s' ∧ ∃ n', s' 17 0 = nI n' ∧ n' ≤ n
theorem r_asks {d nl nq np nf na : Nat} (hR : q_RT G) {D s : a_F} (hD : r_D nl nq np nf na D I) (hP : a_DP nl nq np na D) (hA : a_DA nl na D) (hS : r_S nq I s) (hok : a_ok np nq s) {c : a_C} (hC : r_C I c) (hpl : a_nn nq c.2.2.1) {force : Int32} (hfo : I 59 77 = force) {fact : Int32} (hfa : I 59 81 = fact) {wc : Nat → Int32} (hwc : c.2.1 = 9 → ∀ l, l < 5 → I 113 l = wc l)
    {p lo m : Nat} (hp : p < np) (hhi : lo + m ≤ 5) {i3 : Int32} (h3 : ∀ l, l ≤ 5 → (i3 < nI l ↔ lo + m ≤ l)) {n : Nat} (hn : s 17 0 = nI n) (hb : n + 21 * m < 23000) :
    q_W β xs L (d + 4) 158 0 [.ref 59, .int (nI p), .int (nI lo), .int i3, .retAddr 0, .retAddr 0, .retAddr 0] [] (G, I, J) (r_pos nq I G J (a_ask D c fact force wc lo m p s) (n + 21 * m)) := by
  refine g_158_0 hR _ _ _ ?_
  refine r_asks1 (d := d) hR (I0 := I) (s := s) hD hP hA hS hok hC hpl hfo hp hhi h3 m lo I _ _ rfl rfl (Nat.le_refl _) rfl (r_f3.rf I) (fun j h1 h2 => absurd h1 (by omega)) (fun I1 v5 v6 n5 n6 f1 hch => ?_)
  refine r_asks2 (d := d) hR (I0 := I) hD hP hA hC hfa hwc hp hhi h3 (ch := a_pick D s c force p) (fun j h1 h2 => ?_) m lo I1 s n v5 v6 n5 n6 (Nat.le_refl _) rfl f1.fr f1.cx hch (hS.f3 f1) hn hb (fun I' n' z1 z2 z3 z4 z5 => ⟨rfl, I', rfl, z1, z2, z3, n', z4, z5⟩)
  unfold a_pick
  rw [hP.1.2.2, show a_ix (nI na) = na from nI_clamp (by have := hP.2.1.2.2.2; omega)]
  exact a_choose_rng hA _ _ _ _ _ na 0 (by omega)
theorem a_kp_ask (D : a_F) (c : a_C) (fact force : Int32) (wc : Nat → Int32) (lo n p : Nat) (s : a_F) : a_kp s (a_ask D c fact force wc lo n p s) := a_kp_changes _ _ _ _ _ _ _ _ _
end R13

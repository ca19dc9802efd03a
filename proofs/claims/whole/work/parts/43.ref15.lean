/-! ===== the reference: one person is asked of all lands ===== -/
theorem r_S.c59 {nq : Nat} {I s : a_F} (h : r_S nq I s) {i : Nat} (hi : i ≠ 66) (x : Int32) : r_S nq (am_u I 59 i x) s := by
  obtain ⟨h1, h2, h3, h4, h5⟩ := h
  exact ⟨h1, h2, h3, (am_u_ne (Or.inr (Ne.symm hi))).trans h4, h5⟩
section R15
variable {β : Bool} {xs : Nat → Int32} {L : Nat} {G : am_G} {I : Nat → Nat → Int32} {J : Nat → Nat → Int64}
theorem r_all {nl : Nat} (hnl : nl ≤ 5) : ∀ l, l ≤ 5 → (nI nl - 1 < nI l ↔ 0 + nl ≤ l) := by
  intro l hl
  cases nl with
  | zero =>
    have : nI 0 - 1 < nI l := by
      have h : ∀ l, l < 6 → nI 0 - 1 < nI l := by decide +kernel
      exact h l (by omega)
    exact ⟨fun _ => by omega, fun _ => this⟩
  | succ n =>
    rw [nI_pred, nI_ltI (by omega) (by omega)]
    omega
theorem r_one {d nl nq np nf na : Nat} (hR : q_RT G) {D s : a_F} (hD : r_D nl nq np nf na D I) (hP : a_DP nl nq np na D) (hA : a_DA nl na D) (hS : r_S nq I s) (hok : a_ok np nq s) {c : a_C} (hC : I 59 76 = c.1 ∧ I 59 79 = c.2.2.1 ∧ I 59 80 = c.2.2.2.1) (hpl : a_nn nq c.2.2.1) {force : Int32} (hfo : I 59 77 = force) {fact : Int32} (hfa : I 59 81 = fact) {wc : Nat → Int32} (hw9 : c.2.1 ≠ 9)
    {p : Nat} (hp : p < np) {n : Nat} (hn : s 17 0 = nI n) (hb : n + 21 * nl < 23000) :
    q_W β xs L (d + 5) 150 0 [.ref 59, .int c.2.1, .int (nI p)] [] (G, I, J) (fun o h => o = .inl none ∧ ∃ I', h = (G, I', J) ∧ r_fr I I' ∧ r_cx (am_u I 59 78 c.2.1) I' ∧ r_S nq I' (a_ask D c fact force wc 0 nl p s) ∧ ∃ n', a_ask D c fact force wc 0 nl p s 17 0 = nI n' ∧ n' ≤ n + 21 * nl) := by
  have f1 : r_fr I (am_u I 59 78 c.2.1) := (r_fr.rf I).up _ rfl
  refine g_150_0 hR _ _ ?_
  rw [hD.1.1]
  have u : ∀ i, i ≠ 78 → am_u I 59 78 c.2.1 59 i = I 59 i := fun i hi => am_u_ne (Or.inr hi)
  refine q_useV (r_asks (β := β) (xs := xs) (L := L) (d := d) hR (hD.fr f1) hP hA (hS.c59 (by decide) _) hok (c := c) ⟨(u 76 (by decide)).trans hC.1, am_u_same, (u 79 (by decide)).trans hC.2.1, (u 80 (by decide)).trans hC.2.2, fun w => absurd w hw9⟩ hpl ((u 77 (by decide)).trans hfo) ((u 81 (by decide)).trans hfa) (wc := wc) (fun w => absurd w hw9) (lo := 0) (m := nl) hp (by have := hP.2.1.1; omega) (r_all hP.2.1.1) hn hb) (Nat.le_refl _) (fun I' hI' => ?_)
  obtain ⟨q1, q2, q3, q4⟩ := hI'
  exact ⟨rfl, I', rfl, f1.tr q1, q2, q3, q4⟩
end R15

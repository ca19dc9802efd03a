/-! ===== the reference: an act begins ===== -/
theorem r_C.cx {I I' : a_F} {c : a_C} (h : r_C I c) (hx : r_cx I I') : r_C I' c :=
  ⟨(hx.1 76 (by decide) (by decide)).trans h.1, (hx.1 78 (by decide) (by decide)).trans h.2.1, (hx.1 79 (by decide) (by decide)).trans h.2.2.1, (hx.1 80 (by decide) (by decide)).trans h.2.2.2.1, fun w => (hx.1 82 (by decide) (by decide)).trans (h.2.2.2.2 w)⟩
theorem a_kp_all (D : a_F) (c : a_C) (fact force : Int32) (wc : Nat → Int32) (lo n : Nat) : ∀ m p s, a_kp s (a_all D c fact force wc lo n m p s)
  | 0, p, s => a_kp.rf s
  | m + 1, p, s => (a_kp_ask D c fact force wc lo n p s).tr (a_kp_all D c fact force wc lo n m (p + 1) _)
section R16
variable {β : Bool} {xs : Nat → Int32} {L : Nat} {G : am_G} {J : Nat → Nat → Int64}
theorem r_actL {d nl nq np nf na : Nat} (hR : q_RT G) {D I0 : a_F} (hD : r_D nl nq np nf na D I0) (hP : a_DP nl nq np na D) (hA : a_DA nl na D) {c : a_C} (hC : r_C I0 c) (hpl : a_nn nq c.2.2.1) (h9 : c.2.1 ≠ 9) {force fact : Int32} (hfo : I0 59 77 = force) (hfa : I0 59 81 = fact) {wc : Nat → Int32} {a l : Nat} (ha : a < na) (hl : D 74 a = nI l) (hll : l < nl) {Q : am_O → am_H → Prop} :
    ∀ m p (I s : a_F) (n : Nat), p + m = np → r_fr I0 I → r_cx I0 I → r_S nq I s → a_ok np nq s → s 17 0 = nI n → n + 21 * m < 23000 →
      (∀ I' n', r_fr I0 I' → r_cx I0 I' → r_S nq I' (a_all D c fact force wc l 1 m p s) → a_all D c fact force wc l 1 m p s 17 0 = nI n' → n' ≤ n + 21 * m → Q (.inl none) (G, I', J)) →
      q_W β xs L (d + 5) 148 28 [.ref 59, .int (nI a), .int (nI p)] [] (G, I, J) Q
  | 0, p, I, s, n, hpm, hf, hx, hS, hok, hn, hb, hQ => by
    refine g_148_28 hR _ _ ⟨fun _ => hQ I n hf hx hS hn (by omega), fun z => ?_⟩
    rw [(hD.fr hf).1.2.2.1, nI_ltI (by have := hP.2.1.2.2.1; omega) (by have := hP.2.1.2.2.1; omega)] at z
    omega
  | m + 1, p, I, s, n, hpm, hf, hx, hS, hok, hn, hb, hQ => by
    have hn5 := hP.2.1
    have ea : (nI a).toNatClampNeg = a := nI_clamp (by omega)
    have D1 := hD.fr hf
    have e74 : I 74 a = nI l := (D1.2.2.2.2 a ha).1.trans hl
    have ia : am_is (nI a) 12 = true := am_is_nI (by omega) (by omega)
    refine g_148_28 hR _ _ ⟨fun z => absurd (by rw [D1.1.2.2.1]; exact (nI_ltI (by omega) (by omega)).mpr (by omega)) z, fun _ => ⟨ia, ia, ?_⟩⟩
    rw [ea, e74]
    refine q_useV (r_asks (β := β) (xs := xs) (L := L) (d := d) hR D1 hP hA hS hok (c := c) (hC.cx hx) hpl ((hx.1 77 (by decide) (by decide)).trans hfo) ((hx.1 81 (by decide) (by decide)).trans hfa) (wc := wc) (fun w => absurd w h9) (p := p) (lo := l) (m := 1) (by omega) (by omega) (fun q hq => by rw [nI_ltI (by omega) (by omega)]; omega) hn (by omega)) (Nat.le_refl _) (fun I' hI' => ?_)
    obtain ⟨q1, q2, q3, n', q4, q5⟩ := hI'
    rw [nI_1]
    exact r_actL (d := d) hR hD hP hA hC hpl h9 hfo hfa ha hl hll m (p + 1) I' _ n' (by omega) (hf.tr q1) (hx.tr q2) q3 (hok.kp (a_kp_ask _ _ _ _ _ _ _ _ _)) q4 (by omega) (fun I2 n2 z1 z2 z3 z4 z5 => hQ I2 n2 z1 z2 z3 z4 (by omega))
end R16

/-! ===== the reference: a border, a stay, a birth ===== -/
section R18
variable {β : Bool} {xs : Nat → Int32} {L : Nat} {G : am_G} {J : Nat → Nat → Int64}
theorem r_borderL {d nl nq np nf na : Nat} (hR : q_RT G) {D I0 : a_F} (hD : r_D nl nq np nf na D I0) (hP : a_DP nl nq np na D) (hA : a_DA nl na D) {c : a_C} (hC : r_C I0 c) (hpl : a_nn nq c.2.2.1) (h9 : c.2.1 ≠ 9) {force fact : Int32} (hfo : I0 59 77 = force) (hfa : I0 59 81 = fact) {wc : Nat → Int32} (i1 : Int32) {Q : am_O → am_H → Prop} :
    ∀ m p (I s : a_F) (n : Nat), p + m = np → r_fr I0 I → r_cx I0 I → r_S nq I s → a_ok np nq s → s 17 0 = nI n → n + 21 * nl * m < 23000 →
      (∀ I' n', r_fr I0 I' → r_cx I0 I' → r_S nq I' (a_all D c fact force wc 0 nl m p s) → a_all D c fact force wc 0 nl m p s 17 0 = nI n' → n' ≤ n + 21 * nl * m → Q (.inl none) (G, I', J)) →
      q_W β xs L (d + 5) 153 28 [.ref 59, .int i1, .int (nI p)] [] (G, I, J) Q
  | 0, p, I, s, n, hpm, hf, hx, hS, hok, hn, hb, hQ => by
    refine g_153_28 hR _ _ ⟨fun _ => hQ I n hf hx hS hn (by omega), fun z => ?_⟩
    rw [(hD.fr hf).1.2.2.1, nI_ltI (by have := hP.2.1.2.2.1; omega) (by have := hP.2.1.2.2.1; omega)] at z
    omega
  | m + 1, p, I, s, n, hpm, hf, hx, hS, hok, hn, hb, hQ => by
    have hn5 := hP.2.1
    have D1 := hD.fr hf
    have hmul : 21 * nl * (m + 1) = 21 * nl * m + 21 * nl := Nat.mul_succ _ _
    refine g_153_28 hR _ _ ⟨fun z => absurd (by rw [D1.1.2.2.1]; exact (nI_ltI (by omega) (by omega)).mpr (by omega)) z, fun _ => ?_⟩
    rw [D1.1.1]
    refine q_useV (r_asks (β := β) (xs := xs) (L := L) (d := d) hR D1 hP hA hS hok (c := c) (hC.cx hx) hpl ((hx.1 77 (by decide) (by decide)).trans hfo) ((hx.1 81 (by decide) (by decide)).trans hfa) (wc := wc) (fun w => absurd w h9) (p := p) (lo := 0) (m := nl) (by omega) (by omega) (r_all hn5.1) hn (by omega)) (Nat.le_refl _) (fun I' hI' => ?_)
    obtain ⟨q1, q2, q3, n', q4, q5⟩ := hI'
    rw [nI_1]
    exact r_borderL (d := d) hR hD hP hA hC hpl h9 hfo hfa i1 m (p + 1) I' _ n' (by omega) (hf.tr q1) (hx.tr q2) q3 (hok.kp (a_kp_ask _ _ _ _ _ _ _ _ _)) q4 (by omega) (fun I2 n2 z1 z2 z3 z4 z5 => hQ I2 n2 z1 z2 z3 z4 (by omega))
theorem r_border {d nl nq np nf na : Nat} {I : a_F} (hR : q_RT G) {D s : a_F} (hD : r_D nl nq np nf na D I) (hP : a_DP nl nq np na D) (hA : a_DA nl na D) (hS : r_S nq I s) (hok : a_ok np nq s) {today force to fact : Int32} (ht : I 59 76 = today) (hfo : I 59 77 = force) {q : Nat} (hq : q < nq) (hat : I 59 79 = nI q) (hto : I 59 80 = to) (hfa : I 59 81 = fact) {n : Nat} (hn : s 17 0 = nI n) (hb : n + 21 * nl * np < 23000) :
    q_W β xs L (d + 5) 153 0 [.ref 59, .int (nI q), .retAddr 0] [] (G, I, J) (r_poe nq I G J (a_all D (today, 13, nI q, to, 0) fact force (fun _ => -1) 0 nl np 0 (am_u (am_u s 6 q to) 7 q today)) (n + 21 * nl * np)) := by
  have hn5 := hP.2.1
  have eq : (nI q).toNatClampNeg = q := nI_clamp (by omega)
  have f1 : r_fr I (am_u (am_u (am_u I 97 q to) 98 q today) 59 78 13) := (((r_fr.rf I).up _ rfl).up _ rfl).up _ rfl
  have u : ∀ i, i ≠ 78 → am_u (am_u (am_u I 97 q to) 98 q today) 59 78 13 59 i = I 59 i := fun i h1 => by
    rw [am_u_ne (Or.inr h1), am_u_ne (Or.inl (by decide)), am_u_ne (Or.inl (by decide))]
  have iq : am_is (nI q) 12 = true := am_is_nI (by omega) (by omega)
  refine g_153_0 hR _ ⟨iq, iq, ?_⟩
  rw [eq, hto, ht]
  have S1 : r_S nq (am_u (am_u (am_u I 97 q to) 98 q today) 59 78 13) (am_u (am_u s 6 q to) 7 q today) := by
    refine r_S.c59 ?_ (by decide) _
    obtain ⟨h1, h2, h3, h4, h5⟩ := hS
    refine ⟨h1, fun j hj => ?_, h3, h4, h5⟩
    by_cases hjq : j = q
    · subst hjq; simp [am_u]
    · simp [am_u, hjq, h2 j hj]
  have ok1 : a_ok np nq (am_u (am_u s 6 q to) 7 q today) := fun p hp => hok p hp
  refine r_borderL (d := d) hR (hD.fr f1) hP hA (c := (today, 13, nI q, to, 0)) ⟨(u 76 (by decide)).trans ht, am_u_same, (u 79 (by decide)).trans hat, (u 80 (by decide)).trans hto, fun w => absurd w (by show ¬ (13 : Int32) = 9; decide)⟩ (Or.inr ⟨q, hq, rfl⟩) (by show (13 : Int32) ≠ 9; decide) (force := force) (fact := fact) ((u 77 (by decide)).trans hfo) ((u 81 (by decide)).trans hfa) (wc := fun _ => -1) _ np 0 _ _ n (by omega) (r_fr.rf _) (r_cx.rf _) S1 ok1 hn hb (fun I' n' z1 z2 z3 z4 z5 => ?_)
  exact ⟨rfl, I', rfl, f1.tr z1, ⟨z2.2.2.2.1, z2.2.2.2.2.1, z2.2.2.2.2.2.trans (u 73 (by decide)), (z2.1 76 (by decide) (by decide)).trans (u 76 (by decide)), (z2.1 77 (by decide) (by decide)).trans (u 77 (by decide))⟩, z3, n', z4, z5⟩
theorem r_stays {d nq : Nat} {I : a_F} (hR : q_RT G) {s : a_F} (hS : r_S nq I s) {today : Int32} (ht : I 59 76 = today) {p : Nat} (hp : p < 20) (q : Int32) {n : Nat} (hn : s 17 0 = nI n) :
    q_W β xs L d 154 0 [.ref 59, .int (nI p), .int q] [] (G, I, J) (r_poe nq I G J (am_u (am_u s 4 p q) 5 p today) n) := by
  have ep : (nI p).toNatClampNeg = p := nI_clamp (by omega)
  have ip : am_is (nI p) 20 = true := am_is_nI hp (by omega)
  refine g_154_0 hR _ _ ⟨ip, ip, ?_⟩
  rw [ep, ht]
  refine ⟨rfl, _, rfl, ((r_fr.rf I).up _ rfl).up _ rfl, ⟨fun _ => rfl, fun _ => rfl, rfl, rfl, rfl⟩, ?_, n, hn, Nat.le_refl _⟩
  obtain ⟨h1, h2, h3, h4, h5⟩ := hS
  refine ⟨fun j hj => ?_, h2, h3, h4, h5⟩
  obtain ⟨b1, b2, b3, b4, b5, b6⟩ := h1 j hj
  by_cases hjp : j = p
  · subst hjp
    exact ⟨b1, b2, b3, b4, by simp [am_u], fun _ => by simp [am_u]⟩
  · refine ⟨b1, b2, b3, b4, by simp [am_u, hjp, b5], fun w => ?_⟩
    have : s 4 j ≠ -1 := by simpa [am_u, hjp] using w
    simp [am_u, hjp, b6 this]
end R18

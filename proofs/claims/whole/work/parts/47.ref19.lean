/-! ===== the reference: a birth; what one person is asked of, as a happening ===== -/
section R19
variable {β : Bool} {xs : Nat → Int32} {L : Nat} {G : am_G} {J : Nat → Nat → Int64}
theorem r_oneE {d nl nq np nf na : Nat} {I : a_F} (hR : q_RT G) {D s : a_F} (hD : r_D nl nq np nf na D I) (hP : a_DP nl nq np na D) (hA : a_DA nl na D) (hS : r_S nq I s) (hok : a_ok np nq s) {c : a_C} (hC : I 59 76 = c.1 ∧ I 59 79 = c.2.2.1 ∧ I 59 80 = c.2.2.2.1) (hpl : a_nn nq c.2.2.1) {force : Int32} (hfo : I 59 77 = force) {fact : Int32} (hfa : I 59 81 = fact) {wc : Nat → Int32} (hw9 : c.2.1 ≠ 9)
    {p : Nat} (hp : p < np) {n : Nat} (hn : s 17 0 = nI n) (hb : n + 21 * nl < 23000) : q_W β xs L (d + 5) 150 0 [.ref 59, .int c.2.1, .int (nI p)] [] (G, I, J) (r_poe nq I G J (a_ask D c fact force wc 0 nl p s) (n + 21 * nl)) := by
  refine q_mono (r_one (β := β) (xs := xs) (L := L) (d := d) hR hD hP hA hS hok hC hpl hfo hfa (wc := wc) hw9 hp hn hb) (Nat.le_refl _) (fun o h q => ?_)
  obtain ⟨e, I', e2, q1, q2, q3, q4⟩ := q
  have u : ∀ i, i ≠ 78 → am_u I 59 78 c.2.1 59 i = I 59 i := fun i hi => am_u_ne (Or.inr hi)
  exact ⟨e, I', e2, q1, ⟨q2.2.2.2.1, q2.2.2.2.2.1, q2.2.2.2.2.2.trans (u 73 (by decide)), (q2.1 76 (by decide) (by decide)).trans (u 76 (by decide)), (q2.1 77 (by decide) (by decide)).trans (u 77 (by decide))⟩, q3, q4⟩
theorem r_birth {d nl nq np nf na : Nat} {I : a_F} (hR : q_RT G) {D s : a_F} (hD : r_D nl nq np nf na D I) (hP : a_DP nl nq np na D) (hA : a_DA nl na D) (hS : r_S nq I s) (hok : a_ok np nq s) {today force : Int32} (ht : I 59 76 = today) (hfo : I 59 77 = force) {f p q : Nat} (hf : f < nf) (hf2 : nf ≤ 100) (hq : q < nq) (hq2 : D 67 f = nI q) (hat : I 59 79 = D 67 f) (hto : I 59 80 = -1) (hfa : I 59 81 = nI f) (hp : p < np) {n : Nat} (hn : s 17 0 = nI n) (hb : n + 21 * nl < 23000) :
    q_W β xs L (d + 6) 151 0 [.ref 59, .int (nI p), .int (nI f)] [] (G, I, J) (r_poe nq I G J (a_birth D today force f p s) (n + 21 * nl)) := by
  have hn5 := hP.2.1
  have ep : (nI p).toNatClampNeg = p := nI_clamp (by omega)
  have ef : (nI f).toNatClampNeg = f := nI_clamp (by omega)
  have ip : am_is (nI p) 20 = true := am_is_nI (by omega) (by omega)
  have jf : am_is (nI f) 100 = true := am_is_nI (by omega) (by omega)
  have e67 : I 67 f = D 67 f := (hD.2.2.2.1 f hf).2.2.2.1
  have e92 := (hS.1 p (by omega)).2.1
  refine g_151_0 hR _ _ ⟨ip, fun z => ⟨ip, jf, ip, ?_⟩, fun z => ?_⟩
  · rw [ep, e92] at z
    rw [ep, ef, ht, e67]
    have f1 : r_fr I (am_u (am_u I 92 p today) 93 p (D 67 f)) := ((r_fr.rf I).up _ rfl).up _ rfl
    have S1 : r_S nq (am_u (am_u I 92 p today) 93 p (D 67 f)) (am_u (am_u s 1 p today) 2 p (D 67 f)) := by
      obtain ⟨h1, h2, h3, h4, h5⟩ := hS
      refine ⟨fun j hj => ?_, h2, h3, h4, h5⟩
      obtain ⟨b1, b2, b3, b4, b5, b6⟩ := h1 j hj
      by_cases hjp : j = p
      · subst hjp
        exact ⟨b1, by simp [am_u], fun _ => by simp [am_u], b4, b5, b6⟩
      · refine ⟨b1, by simp [am_u, hjp, b2], fun w => ?_, b4, b5, b6⟩
        have : s 1 j ≠ -1 := by simpa [am_u, hjp] using w
        simp [am_u, hjp, b3 this]
    have ok1 : a_ok np nq (am_u (am_u s 1 p today) 2 p (D 67 f)) := fun j hj => by
      obtain ⟨o1, o2, o3⟩ := hok j hj
      refine ⟨o1, o2, fun w => ?_⟩
      by_cases hjp : j = p
      · subst hjp
        exact ⟨q, hq, by rw [am_u_same]; exact hq2⟩
      · have : s 1 j ≠ -1 := by simpa [am_u, hjp] using w
        obtain ⟨i, hi, hi2⟩ := o3 this
        exact ⟨i, hi, by simp [am_u, hjp, hi2]⟩
    have e : a_birth D today force f p s = a_ask D (today, 8, D 67 f, -1, 0) (nI f) force (fun _ => -1) 0 nl p (am_u (am_u s 1 p today) 2 p (D 67 f)) := by
      unfold a_birth
      rw [if_pos z, hP.1.1, show a_ix (nI nl) = nl from nI_clamp (by omega)]
    rw [e]
    refine q_useV (q_mono (r_oneE (β := β) (xs := xs) (L := L) (d := d) (J := J) hR (hD.fr f1) hP hA S1 ok1 (c := (today, 8, D 67 f, -1, 0)) ⟨ht, hat, hto⟩ (Or.inr ⟨q, hq, hq2⟩) hfo hfa (wc := fun _ => -1) (by show (8 : Int32) ≠ 9; decide) hp hn hb) (Nat.le_refl _) (fun _ _ w => w)) (Nat.le_refl _) (fun I' hI' => ?_)
    obtain ⟨q1, q2, q3, q4⟩ := hI'
    exact ⟨rfl, I', rfl, f1.tr q1, q2, q3, q4⟩
  · rw [ep, e92] at z
    have e : a_birth D today force f p s = s := by
      unfold a_birth
      rw [if_neg z]
    rw [e]
    exact ⟨rfl, I, rfl, r_fr.rf I, ⟨fun _ => rfl, fun _ => rfl, rfl, rfl, rfl⟩, hS, n, hn, by omega⟩
end R19

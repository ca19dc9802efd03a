/-! ===== the reference: an act begins, from its entry; a border ===== -/
section R17
variable {β : Bool} {xs : Nat → Int32} {L : Nat} {G : am_G} {J : Nat → Nat → Int64}
/-- what a happening leaves, n records at the most -/
def r_poe (nq : Nat) (I : a_F) (G : am_G) (J : Nat → Nat → Int64) (s' : a_F) (n : Nat) : am_O → am_H → Prop := fun o h => o = .inl none ∧ ∃ I', h = (G, I', J) ∧ r_fr I I' ∧ ((∀ i, I' 108 i = I 108 i) ∧ (∀ i, I' 109 i = I 109 i) ∧ I' 59 73 = I 59 73 ∧ I' 59 76 = I 59 76 ∧ I' 59 77 = I 59 77) ∧ r_S nq I' s' ∧ ∃ n', s' 17 0 = nI n' ∧ n' ≤ n
theorem r_act {d nl nq np nf na : Nat} {I : a_F} (hR : q_RT G) {D s : a_F} (hD : r_D nl nq np nf na D I) (hP : a_DP nl nq np na D) (hA : a_DA nl na D) (hS : r_S nq I s) (hok : a_ok np nq s) {today force : Int32} (ht : I 59 76 = today) (hfo : I 59 77 = force) {a : Nat} (ha : a < na) (hfb : bt force a = true) {n : Nat} (hn : s 17 0 = nI n) (hb : n + 21 * np < 23000) :
    q_W β xs L (d + 5) 148 0 [.ref 59, .int (nI a), .retAddr 0] [] (G, I, J) (r_poe nq I G J (a_act D today force a s) (n + 21 * np)) := by
  have hn5 := hP.2.1
  have ea : (nI a).toNatClampNeg = a := nI_clamp (by omega)
  obtain ⟨⟨l, hl, hl2⟩, -⟩ := hA a ha
  have e74 : I 74 a = nI l := (hD.2.2.2.2 a ha).1.trans hl2
  have f1 : r_fr I (am_u (am_u (am_u (am_u I 59 78 14) 59 79 (-1)) 59 80 (nI l)) 59 81 (-1)) := ((((r_fr.rf I).up _ rfl).up _ rfl).up _ rfl).up _ rfl
  have u : ∀ i, i ≠ 78 → i ≠ 79 → i ≠ 80 → i ≠ 81 → am_u (am_u (am_u (am_u I 59 78 14) 59 79 (-1)) 59 80 (nI l)) 59 81 (-1) 59 i = I 59 i := fun i h1 h2 h3 h4 => by
    rw [am_u_ne (Or.inr h4), am_u_ne (Or.inr h3), am_u_ne (Or.inr h2), am_u_ne (Or.inr h1)]
  refine g_148_0 hR _ ⟨am_is_nI (by omega) (by omega), ?_⟩
  rw [ea, e74]
  have S1 := (((hS.c59 (i := 78) (by decide) 14).c59 (i := 79) (by decide) (-1)).c59 (i := 80) (by decide) (nI l)).c59 (i := 81) (by decide) (-1)
  refine r_actL (d := d) hR (hD.fr f1) hP hA (c := (today, 14, -1, nI l, 0)) ⟨(u 76 (by decide) (by decide) (by decide) (by decide)).trans ht, by rw [am_u_ne (Or.inr (by decide)), am_u_ne (Or.inr (by decide)), am_u_ne (Or.inr (by decide)), am_u_same], by rw [am_u_ne (Or.inr (by decide)), am_u_ne (Or.inr (by decide)), am_u_same], by rw [am_u_ne (Or.inr (by decide)), am_u_same], fun w => absurd w (by show ¬ (14 : Int32) = 9; decide)⟩ (Or.inl rfl) (by show (14 : Int32) ≠ 9; decide) (force := force) (fact := -1) ((u 77 (by decide) (by decide) (by decide) (by decide)).trans hfo) am_u_same (wc := fun _ => -1) ha hl2 hl np 0 _ s n (by omega) (r_fr.rf _) (r_cx.rf _) S1 hok hn hb (fun I' n' z1 z2 z3 z4 z5 => ?_)
  have e : a_act D today force a s = a_all D (today, 14, -1, nI l, 0) (-1) force (fun _ => -1) l 1 np 0 s := by
    unfold a_act
    rw [if_pos hfb, hl2, show a_ix (nI l) = l from nI_clamp (by omega), hP.1.2.1, show a_ix (nI np) = np from nI_clamp (by omega)]
  exact ⟨rfl, I', rfl, f1.tr z1, ⟨z2.2.2.2.1, z2.2.2.2.2.1, z2.2.2.2.2.2.trans (u 73 (by decide) (by decide) (by decide) (by decide)), (z2.1 76 (by decide) (by decide)).trans (u 76 (by decide) (by decide) (by decide) (by decide)), (z2.1 77 (by decide) (by decide)).trans (u 77 (by decide) (by decide) (by decide) (by decide))⟩, e ▸ z3, n', e ▸ z4, z5⟩
end R17

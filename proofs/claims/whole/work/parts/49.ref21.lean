/-! ===== the reference: a wedding, from its entry ===== -/
section R21
variable {β : Bool} {xs : Nat → Int32} {L : Nat} {G : am_G} {J : Nat → Nat → Int64}
theorem r_wedding {d nl nq np nf na : Nat} {I : a_F} (hR : q_RT G) {D s : a_F} (hD : r_D nl nq np nf na D I) (hP : a_DP nl nq np na D) (hA : a_DA nl na D) (hS : r_S nq I s) (hok : a_ok np nq s) {today force : Int32} (ht : I 59 76 = today) (hfo : I 59 77 = force) {f p q : Nat} (hpl : a_nn nq (D 67 f)) (hat : I 59 79 = D 67 f) (hto : I 59 80 = -1) (hfa : I 59 81 = nI f) (hp : p < np) (hq : q < np) {n : Nat} (hn : s 17 0 = nI n) (hb : n + 42 * nl < 23000) :
    q_W β xs L (d + 5) 152 0 [.ref 59, .int (nI p), .int (nI q), .retAddr 0, .retAddr 0, .retAddr 0] [] (G, I, J) (r_poe nq I G J (a_wed D today force f p q s) (n + 42 * nl)) := by
  have hn5 := hP.2.1
  have ep : (nI p).toNatClampNeg = p := nI_clamp (by omega)
  have eq : (nI q).toNatClampNeg = q := nI_clamp (by omega)
  have ip : am_is (nI p) 20 = true := am_is_nI (by omega) (by omega)
  have iq : am_is (nI q) 20 = true := am_is_nI (by omega) (by omega)
  have came : ∀ j, j < 100 → I 99 j = s 8 j := fun j hj => (hS.2.2.1 j hj).1
  refine g_152_0 hR _ _ ⟨ip, iq, ip, iq, ?_⟩
  rw [ep, eq, (hS.1 p (by omega)).1, (hS.1 q (by omega)).1]
  have fa : r_fr I (am_u (am_u (am_u I 94 p (nI q)) 94 q (nI p)) 59 78 9) := (((r_fr.rf I).up _ rfl).up _ rfl).up _ rfl
  have ua : ∀ i, i ≠ 78 → am_u (am_u (am_u I 94 p (nI q)) 94 q (nI p)) 59 78 9 59 i = I 59 i := fun i h1 => by
    rw [am_u_ne (Or.inr h1), am_u_ne (Or.inl (by decide)), am_u_ne (Or.inl (by decide))]
  have S1 : r_S nq (am_u (am_u (am_u I 94 p (nI q)) 94 q (nI p)) 59 78 9) (am_u (am_u s 3 p (nI q)) 3 q (nI p)) := by
    refine r_S.c59 ?_ (by decide) _
    obtain ⟨h1, h2, h3, h4, h5⟩ := hS
    refine ⟨fun j hj => ?_, h2, h3, h4, h5⟩
    obtain ⟨b1, b2, b3, b4, b5, b6⟩ := h1 j hj
    refine ⟨b1, b2, b3, ?_, b5, b6⟩
    by_cases hjq : j = q
    · subst hjq; simp [am_u]
    · by_cases hjp : j = p
      · subst hjp; simp [am_u, hjq]
      · simp [am_u, hjq, hjp, b4]
  have ok1 : a_ok np nq (am_u (am_u s 3 p (nI q)) 3 q (nI p)) := fun j hj => by
    obtain ⟨o1, o2, o3⟩ := hok j hj
    refine ⟨?_, o2, o3⟩
    by_cases hjq : j = q
    · subst hjq; rw [am_u_same]; exact Or.inr ⟨p, hp, rfl⟩
    · by_cases hjp : j = p
      · subst hjp; rw [am_u_ne (Or.inr hjq), am_u_same]; exact Or.inr ⟨q, hq, rfl⟩
      · rw [am_u_ne (Or.inr hjq), am_u_ne (Or.inr hjp)]; exact o1
  have a99 : ∀ j, am_u (am_u (am_u I 94 p (nI q)) 94 q (nI p)) 59 78 9 99 j = I 99 j := fun _ => rfl
  generalize hIa : am_u (am_u (am_u I 94 p (nI q)) 94 q (nI p)) 59 78 9 = Ia at fa ua S1 a99 ⊢
  have ia78 : Ia 59 78 = 9 := by rw [← hIa]; exact am_u_same
  have e : a_wed D today force f p q s = a_ask D (today, 9, D 67 f, -1, s 0 p) (nI f) force (fun l => s 8 (5 * p + l)) 0 nl q (a_ask D (today, 9, D 67 f, -1, s 0 q) (nI f) force (fun l => s 8 (5 * q + l)) 0 nl p (am_u (am_u s 3 p (nI q)) 3 q (nI p))) := by
    unfold a_wed
    rw [hP.1.1, show a_ix (nI nl) = nl from nI_clamp (by omega)]
  rw [e]
  have n1 : am_u (am_u s 3 p (nI q)) 3 q (nI p) 17 0 = nI n := hn
  generalize am_u (am_u s 3 p (nI q)) 3 q (nI p) = s1 at S1 ok1 n1 ⊢
  refine r_wed38 (d := d + 4) hR (I1 := Ia) (by omega) _ _ _ 5 0 Ia (by omega) (r_fw.rf _ _) (fun j hj => absurd hj (Nat.not_lt_zero j)) (fun Ib fb vb => ?_)
  have ub : ∀ i, i ≠ 82 → am_u Ib 59 82 (s 0 q) 59 i = Ia 59 i := fun i hi => by rw [am_u_ne (Or.inr hi), fb 59 (by decide)]
  have gb : r_fr I (am_u Ib 59 82 (s 0 q)) := (fa.tr (fb.fr (Or.inl rfl))).up _ rfl
  have Sb : r_S nq (am_u Ib 59 82 (s 0 q)) s1 := (S1.fw fb (Or.inl rfl)).c59 (by decide) _
  have b113 : ∀ j, j < 5 → am_u Ib 59 82 (s 0 q) 113 j = s 8 (5 * q + j) := fun j hj => by rw [am_u_ne (Or.inl (by decide)), vb j hj, a99, came _ (by omega)]
  have b99 : ∀ j, am_u Ib 59 82 (s 0 q) 99 j = I 99 j := fun j => by rw [am_u_ne (Or.inl (by decide)), fb 99 (by decide), a99]
  have b82 : am_u Ib 59 82 (s 0 q) 59 82 = s 0 q := am_u_same
  have b108 : ∀ j, am_u Ib 59 82 (s 0 q) 108 j = I 108 j := fun j => by rw [am_u_ne (Or.inl (by decide)), fb 108 (by decide), ← hIa]; rfl
  have b109 : ∀ j, am_u Ib 59 82 (s 0 q) 109 j = I 109 j := fun j => by rw [am_u_ne (Or.inl (by decide)), fb 109 (by decide), ← hIa]; rfl
  generalize am_u Ib 59 82 (s 0 q) = Ib2 at ub gb Sb b113 b99 b82 b108 b109 ⊢
  refine r_wed77 (d := d + 4) hR (I1 := Ib2) (by omega) _ _ _ 5 0 Ib2 (by omega) (r_fw.rf _ _) (fun j hj => absurd hj (Nat.not_lt_zero j)) (fun Ic fc vc => ?_)
  have gc : r_fr I Ic := gb.tr (fc.fr (Or.inr rfl))
  have uc : ∀ i, i ≠ 82 → Ic 59 i = Ia 59 i := fun i hi => by rw [fc 59 (by decide)]; exact ub i hi
  have Dc := hD.fr gc
  rw [Dc.1.1]
  refine q_useV (r_asks (β := β) (xs := xs) (L := L) (d := d) hR Dc hP hA (Sb.fw fc (Or.inr rfl)) ok1 (c := (today, 9, D 67 f, -1, s 0 q)) ⟨(uc 76 (by decide)).trans ((ua 76 (by decide)).trans ht), (uc 78 (by decide)).trans ia78, (uc 79 (by decide)).trans ((ua 79 (by decide)).trans hat), (uc 80 (by decide)).trans ((ua 80 (by decide)).trans hto), fun _ => by rw [fc 59 (by decide)]; exact b82⟩ hpl (force := force) ((uc 77 (by decide)).trans ((ua 77 (by decide)).trans hfo)) (fact := nI f) ((uc 81 (by decide)).trans ((ua 81 (by decide)).trans hfa)) (wc := fun l => s 8 (5 * q + l)) (fun _ l hl => by rw [fc 113 (by decide)]; exact b113 l hl) (p := p) (lo := 0) (m := nl) hp (by omega) (r_all hn5.1) n1 (by omega)) (Nat.le_refl _) (fun Id hId => ?_)
  obtain ⟨q1, q2, q3, n2, q4, q5⟩ := hId
  have gd : r_fr I (am_u Id 59 82 (s 0 p)) := (gc.tr q1).up _ rfl
  have ud : ∀ i, 76 ≤ i → i ≤ 82 → i ≠ 82 → am_u Id 59 82 (s 0 p) 59 i = Ia 59 i := fun i h1 h2 hi => by rw [am_u_ne (Or.inr hi), q2.1 i h1 h2]; exact uc i hi
  have d114 : ∀ j, j < 5 → am_u Id 59 82 (s 0 p) 114 j = s 8 (5 * p + j) := fun j hj => by rw [am_u_ne (Or.inl (by decide)), q2.2.2.1, vc j hj, b99, came _ (by omega)]
  refine r_wed127 (d := d + 4) hR (I1 := am_u Id 59 82 (s 0 p)) _ _ _ _ 5 0 _ (by omega) (r_fw.rf _ _) (fun j hj => absurd hj (Nat.not_lt_zero j)) (fun Ie fe ve => ?_)
  have ge : r_fr I Ie := gd.tr (fe.fr (Or.inl rfl))
  have ue : ∀ i, 76 ≤ i → i ≤ 82 → i ≠ 82 → Ie 59 i = Ia 59 i := fun i h1 h2 hi => by rw [fe 59 (by decide)]; exact ud i h1 h2 hi
  have De := hD.fr ge
  rw [De.1.1]
  have ok2 := ok1.kp (a_kp_ask D (today, 9, D 67 f, -1, s 0 q) (nI f) force (fun l => s 8 (5 * q + l)) 0 nl p s1)
  refine q_useV (r_asks (β := β) (xs := xs) (L := L) (d := d) hR De hP hA ((q3.c59 (by decide) _).fw fe (Or.inl rfl)) ok2 (c := (today, 9, D 67 f, -1, s 0 p)) ⟨(ue 76 (by decide) (by decide) (by decide)).trans ((ua 76 (by decide)).trans ht), (ue 78 (by decide) (by decide) (by decide)).trans ia78, (ue 79 (by decide) (by decide) (by decide)).trans ((ua 79 (by decide)).trans hat), (ue 80 (by decide) (by decide) (by decide)).trans ((ua 80 (by decide)).trans hto), fun _ => by rw [fe 59 (by decide)]; exact am_u_same⟩ hpl (force := force) ((ue 77 (by decide) (by decide) (by decide)).trans ((ua 77 (by decide)).trans hfo)) (fact := nI f) ((ue 81 (by decide) (by decide) (by decide)).trans ((ua 81 (by decide)).trans hfa)) (wc := fun l => s 8 (5 * p + l)) (fun _ l hl => by rw [ve l hl]; exact d114 l hl) (p := q) (lo := 0) (m := nl) hq (by omega) (r_all hn5.1) q4 (by omega)) (Nat.le_refl _) (fun If hIf => ?_)
  obtain ⟨z1, z2, z3, n3, z4, z5⟩ := hIf
  have c108 : ∀ i, Ie 108 i = I 108 i := fun i => by rw [fe 108 (by decide), am_u_ne (Or.inl (by decide)), q2.2.2.2.1, fc 108 (by decide), b108]
  have c109 : ∀ i, Ie 109 i = I 109 i := fun i => by rw [fe 109 (by decide), am_u_ne (Or.inl (by decide)), q2.2.2.2.2.1, fc 109 (by decide), b109]
  have c73 : Ie 59 73 = I 59 73 := by rw [fe 59 (by decide), am_u_ne (Or.inr (by decide)), q2.2.2.2.2.2, uc 73 (by decide), ua 73 (by decide)]
  exact ⟨rfl, If, rfl, ge.tr z1, ⟨fun i => (z2.2.2.2.1 i).trans (c108 i), fun i => (z2.2.2.2.2.1 i).trans (c109 i), z2.2.2.2.2.2.trans c73, (z2.1 76 (by decide) (by decide)).trans ((ue 76 (by decide) (by decide) (by decide)).trans (ua 76 (by decide))), (z2.1 77 (by decide) (by decide)).trans ((ue 77 (by decide) (by decide) (by decide)).trans (ua 77 (by decide)))⟩, z3, n3, z4, by omega⟩
end R21

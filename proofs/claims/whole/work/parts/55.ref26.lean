/-! ===== the reference: starts, runs ===== -/
theorem a_ok_b {np nq : Nat} {s : a_F} (hok : a_ok np nq s) (p : Nat) (today : Int32) {q : Nat} (hq : q < nq) : a_ok np nq (am_u (am_u s 1 p today) 2 p (nI q)) := fun j hj => by
  obtain ⟨o1, o2, o3⟩ := hok j hj
  refine ⟨o1, o2, fun w => ?_⟩
  by_cases hjp : j = p
  · subst hjp
    exact ⟨q, hq, by rw [am_u_same]⟩
  · have : s 1 j ≠ -1 := by simpa [am_u, hjp] using w
    obtain ⟨i, hi, hi2⟩ := o3 this
    exact ⟨i, hi, by simp [am_u, hjp, hi2]⟩
theorem a_ok_w {np nq : Nat} {s : a_F} (hok : a_ok np nq s) {p q : Nat} (hp : p < np) (hq : q < np) : a_ok np nq (am_u (am_u s 3 p (nI q)) 3 q (nI p)) := fun j hj => by
  obtain ⟨o1, o2, o3⟩ := hok j hj
  refine ⟨?_, o2, o3⟩
  by_cases hjq : j = q
  · subst hjq; rw [am_u_same]; exact Or.inr ⟨p, hp, rfl⟩
  · by_cases hjp : j = p
    · subst hjp; rw [am_u_ne (Or.inr hjq), am_u_same]; exact Or.inr ⟨q, hq, rfl⟩
    · rw [am_u_ne (Or.inr hjq), am_u_ne (Or.inr hjp)]; exact o1
theorem a_ok_s {np nq : Nat} {s : a_F} (hok : a_ok np nq s) (p : Nat) (today : Int32) {q : Nat} (hq : q < nq) : a_ok np nq (am_u (am_u s 4 p (nI q)) 5 p today) := fun j hj => by
  obtain ⟨o1, o2, o3⟩ := hok j hj
  refine ⟨o1, ?_, o3⟩
  by_cases hjp : j = p
  · subst hjp; rw [am_u_ne (Or.inl (by decide)), am_u_same]; exact Or.inr ⟨q, hq, rfl⟩
  · rw [am_u_ne (Or.inl (by decide)), am_u_ne (Or.inr hjp)]; exact o2
theorem a_ok_fact {nl nq np nf na : Nat} {D s : a_F} (hP : a_DP nl nq np na D) (hF : a_DF nl nq np nf D) (hok : a_ok np nq s) (today force : Int32) {f : Nat} (hf : f < nf) : a_ok np nq (a_fact D today force f s) := by
  have hn5 := hP.2.1
  obtain ⟨⟨kd, hk, hk2, hp, hl, hq⟩, -⟩ := hF f hf
  unfold a_fact
  split
  · rename_i z
    have hkd : kd = 0 := nI_inj2 (b := 0) (by omega) (by omega) (hk2.symm.trans z)
    obtain ⟨q, hq1, hq2⟩ := hq (by omega)
    unfold a_birth
    split
    · rw [hq2]
      exact (a_ok_b hok _ today hq1).kp (a_kp_ask _ _ _ _ _ _ _ _ _)
    · exact hok
  · split
    · rename_i z
      have hkd : kd = 1 := nI_inj2 (b := 1) (by omega) (by omega) (hk2.symm.trans z)
      obtain ⟨p, hp1, hp2, hp3⟩ := hp (by omega)
      obtain ⟨q, hq1, -, hq3⟩ := hp3 hkd
      rw [hp2, hq3, show a_ix (nI p) = p from nI_clamp (by omega), show a_ix (nI q) = q from nI_clamp (by omega)]
      exact ((a_ok_w hok hp1 hq1).kp (a_kp_ask _ _ _ _ _ _ _ _ _)).kp (a_kp_ask _ _ _ _ _ _ _ _ _)
    · split
      · have h1 : a_ok np nq (am_u (am_u s 6 (a_ix (D 67 f)) (D 66 f)) 7 (a_ix (D 67 f)) today) := fun p hp => hok p hp
        exact h1.kp (a_kp_all _ _ _ _ _ _ _ _ _ _)
      · split
        · rename_i z
          have hkd : kd = 6 := nI_inj2 (b := 6) (by omega) (by omega) (hk2.symm.trans z)
          obtain ⟨q, hq1, hq2⟩ := hq (by omega)
          rw [hq2]
          exact a_ok_s hok _ today hq1
        · exact hok.kp (a_kp_ask _ _ _ _ _ _ _ _ _)
theorem a_ok_act {np nq : Nat} {D s : a_F} (hok : a_ok np nq s) (today force : Int32) (a : Nat) : a_ok np nq (a_act D today force a s) := by
  unfold a_act
  split
  · exact hok.kp (a_kp_all _ _ _ _ _ _ _ _ _ _)
  · exact hok
theorem a_ok_init (D : a_F) (np nq : Nat) : a_ok np nq (a_init D) := fun p _ => ⟨Or.inl rfl, Or.inl rfl, fun w => absurd rfl w⟩
theorem a_calA_mem {na : Nat} {D : a_F} (hT : a_DT na D) (k wo last : Int32) {y : Nat} : ∀ n a c, a + n ≤ na → y ∈ a_calA D k wo last n a c → y ∈ c ∨ ∃ a' u, a' < na ∧ u ≤ 72999 ∧ y = u * 128 + a'
  | 0, a, c, _, h => Or.inl h
  | n + 1, a, c, hn, h => by
    unfold a_calA at h
    rcases a_calA_mem hT k wo last n (a + 1) _ (by omega) h with h | h
    · split at h
      · rcases a_ins_mem _ h with e | e
        · obtain ⟨u, v, hu, -, hu2, -⟩ := hT a (by omega)
          rw [hu2, show a_ix (nI u) = u from nI_clamp (by omega)] at e
          exact Or.inr ⟨a, u, by omega, hu, e⟩
        · exact Or.inl e
      · exact Or.inl h
    · exact Or.inr h
theorem a_calF_mem {nl nq np nf : Nat} {D : a_F} (hF : a_DF nl nq np nf D) (k last : Int32) (way : Nat) {y : Nat} : ∀ n f c, f + n ≤ nf → y ∈ a_calF D k last way n f c → y ∈ c ∨ ∃ f' u, f' < nf ∧ u ≤ 72999 ∧ y = u * 128 + (12 + f')
  | 0, f, c, _, h => Or.inl h
  | n + 1, f, c, hn, h => by
    unfold a_calF at h
    rcases a_calF_mem hF k last way n (f + 1) _ (by omega) h with h | h
    · split at h
      · rcases a_ins_mem _ h with e | e
        · obtain ⟨u, hu, hu2⟩ := a_on_rng hF k way (f := f) (by omega)
          rw [hu2, show a_ix (nI u) = u from nI_clamp (by omega)] at e
          exact Or.inr ⟨f, u, by omega, hu, e⟩
        · exact Or.inl e
      · exact Or.inl h
    · exact Or.inr h
/-- all that is told is well-formed -/
def a_D (nl nq np nf na : Nat) (D : a_F) : Prop := a_DP nl nq np na D ∧ a_DA nl na D ∧ a_DF nl nq np nf D ∧ a_DT na D ∧ D 59 6 = nI nf ∧ nf ≤ 100
theorem a_cal_mem {nl nq np nf na : Nat} {D : a_F} (h : a_D nl nq np nf na D) (k wo last : Int32) (way : Nat) {y : Nat} (hy : y ∈ a_cal D k wo last way) : y < 128 * 73000 ∧ (y % 128 < na ∨ 12 ≤ y % 128 ∧ y % 128 - 12 < nf) := by
  obtain ⟨hP, hA, hF, hT, h6, hf2⟩ := h
  have hn5 := hP.2.1
  unfold a_cal at hy
  rw [h6, hP.1.2.2, show a_ix (nI nf) = nf from nI_clamp (by omega), show a_ix (nI na) = na from nI_clamp (by omega)] at hy
  rcases a_calF_mem hF k last way nf 0 _ (by omega) hy with h | ⟨f, u, h1, h2, h3⟩
  · rcases a_calA_mem hT k wo last na 0 _ (by omega) h with h | ⟨a, u, h1, h2, h3⟩
    · cases h
    · exact ⟨by omega, Or.inl (by omega)⟩
  · exact ⟨by omega, Or.inr ⟨by omega, by omega⟩⟩
theorem q_rows_c2 : ∀ c i, r_c2 c i = false → q_rows [90] c i = false := fun c i h => by
  cases hh : q_rows [90] c i with
  | false => rfl
  | true =>
    simp only [q_rows, List.any_cons, List.any_nil, Bool.or_false, Nat.beq_eq] at hh
    subst hh
    cases h
theorem q_rows_sc {l : List Nat} (hl : ∀ x ∈ l, 90 ≤ x ∧ x ≤ 114) : ∀ c i, r_sc c i = false → q_rows l c i = false := fun c i h => by
  cases hh : q_rows l c i with
  | false => rfl
  | true =>
    unfold q_rows at hh
    rw [List.any_eq_true] at hh
    obtain ⟨x, hx, hx2⟩ := hh
    have e : x = c := Nat.eq_of_beq_eq_true hx2
    subst e
    have := hl x hx
    have h2 : r_sc x i = true := by
      unfold r_sc
      rw [Nat.ble_eq_true_of_le this.1, Nat.ble_eq_true_of_le this.2]
      rfl
    rw [h2] at h
    cases h
section R26
variable {β : Bool} {xs : Nat → Int32} {L : Nat} {G : am_G} {J : Nat → Nat → Int64}
theorem r_starts {d nl nq np nf na : Nat} {I : a_F} (hR : q_RT G) {D : a_F} (hD : r_D nl nq np nf na D I) (hW : a_D nl nq np nf na D) {k : Int32} (hb : r_dbl D I (a_doubts D k)) {way : Nat} (hw : way < 2 ^ 31) (last wo : Int32) :
    q_W β xs L (d + 1) 145 0 [.ref 59, .int (nI way), .int last, .int k, .int wo, .retAddr 0] [] (G, I, J) (fun o h => o = .inl none ∧ ∃ I', h = (G, I', J) ∧ r_fr I I' ∧ r_S nq I' (a_init D) ∧ r_cal I' (a_cal D k wo last way) ∧ (a_cal D k wo last way).length ≤ na + nf) := by
  obtain ⟨hP, hA, hF, hT, h6, hf2⟩ := hW
  have hn5 := hP.2.1
  have hm : ∀ x ∈ a_doubts D k, x < nf := fun x hx => (a_doubts_mem h6 (by omega) hx).1
  refine g_145_0 hR _ _ _ _ ?_
  refine r_st3 (d := d) hR (I0 := I) _ _ _ _ (fun Ia fa ha => ?_) 20 0 I (by omega) (q_F.rf _ _) (fun j hj => absurd hj (Nat.not_lt_zero j))
  have ga : r_fr I Ia := fa.sub (q_rows_sc (by decide))
  refine r_st51 (d := d) hR (I0 := Ia) _ _ _ _ (fun Ib fb hb1 => ?_) 100 0 Ia (by omega) (q_F.rf _ _) (fun j hj => absurd hj (Nat.not_lt_zero j))
  have gb : r_fr I Ib := ga.tr (fb.sub (q_rows_sc (by decide)))
  have Db := hD.fr gb
  refine r_st91 (d := d) hR (I0 := Ib) Db.1.2.1 (by omega) (D := D) Db.2.1 _ _ _ _ (fun Ic fc hc => ?_) nq 0 Ib (by omega) (q_F.rf _ _) (fun j hj => absurd hj (Nat.not_lt_zero j))
  have gc : r_fr I (am_u (am_u Ic 59 66 0) 59 73 0) := ((gb.tr (fc.sub (q_rows_sc (by decide)))).up _ rfl).up _ rfl
  have Sd : r_S nq (am_u (am_u Ic 59 66 0) 59 73 0) (a_init D) := by
    refine ⟨fun p hp => ?_, fun q hq => hc q hq, fun j hj => ?_, ?_, fun n hn => absurd hn (Nat.not_lt_zero n)⟩
    · obtain ⟨x1, x2, x3, x4⟩ := ha p hp
      have k91 : Ic 91 p = Ia 91 p := (fc 91 p rfl).trans (fb 91 p rfl)
      have k92 : Ic 92 p = Ia 92 p := (fc 92 p rfl).trans (fb 92 p rfl)
      have k94 : Ic 94 p = Ia 94 p := (fc 94 p rfl).trans (fb 94 p rfl)
      have k95 : Ic 95 p = Ia 95 p := (fc 95 p rfl).trans (fb 95 p rfl)
      exact ⟨k91.trans x1, k92.trans x2, fun w => absurd rfl w, k94.trans x3, k95.trans x4, fun w => absurd rfl w⟩
    · obtain ⟨x1, x2, x3⟩ := hb1 j hj
      exact ⟨(fc 99 j rfl).trans x1, (fc 100 j rfl).trans x2, (fc 101 j rfl).trans x3⟩
    · rw [am_u_ne (Or.inr (by decide)), am_u_same]; rfl
  have Cd : r_cal (am_u (am_u Ic 59 66 0) 59 73 0) [] := ⟨by rw [am_u_same]; rfl, fun i x h => by simp at h⟩
  generalize am_u (am_u Ic 59 66 0) 59 73 0 = Id at gc Sd Cd ⊢
  refine r_st141 (d := d) hR (I0 := Id) (hD.fr gc) hT (by omega) _ last k wo na 0 Id [] (by omega) (q_F.rf _ _) Cd List.Pairwise.nil (Nat.le_refl _) (fun y hy => by cases hy) (fun Ie fe ce se le be => ?_)
  have ge : r_fr I Ie := gc.tr (fe.sub r_c2_sc)
  have Se := Sd.c2 fe
  refine r_st207 (d := d) hR (I0 := Ie) (hD.fr ge) hf2 _ _ _ _ (fun If ff h90 => ?_) nf 0 Ie (by omega) (q_F.rf _ _) (fun j hj => absurd hj (Nat.not_lt_zero j))
  have gf : r_fr I If := ge.tr (ff.sub (q_rows_sc (by decide)))
  have Sf := Se.c2 (ff.sub q_rows_c2)
  refine r_st241 (d := d) hR (I0 := If) (hD.fr gf) hF hf2 (a_doubts_len D k) hm (a_doubts_inc D k) (hb.fr gf) hw _ _ _ (fun Ig fg h91 => ?_) _ 0 If (Nat.zero_add _) (q_F.rf _ _) (fun j hj => ?_)
  · have gg : r_fr I Ig := gf.tr (fg.sub (q_rows_sc (by decide)))
    have Sg := Sf.c2 (fg.sub q_rows_c2)
    have cg : r_cal Ig (a_calA D k wo last na 0 []) := by
      refine ⟨?_, fun i x hx => ?_⟩
      · rw [fg 59 73 rfl, ff 59 73 rfl]; exact ce.1
      · rw [fg 108 i rfl, ff 108 i rfl, fg 109 i rfl, ff 109 i rfl]; exact ce.2 i x hx
    refine r_st293 (d := d) hR (I0 := Ig) (hD.fr gg) hF hf2 (by omega) _ last k wo way (fun j hj => h91 j hj) nf 0 Ig _ (by omega) (q_F.rf _ _) cg se le be (fun Ih fh ch lh => ?_)
    have e : a_cal D k wo last way = a_calF D k last way nf 0 (a_calA D k wo last na 0 []) := by
      unfold a_cal
      rw [h6, hP.1.2.2, show a_ix (nI nf) = nf from nI_clamp (by omega), show a_ix (nI na) = na from nI_clamp (by omega)]
    rw [e]
    exact ⟨rfl, Ih, rfl, gg.tr ((fh.sub r_cls_c2).sub r_c2_sc), Sg.c2 (fh.sub r_cls_c2), ch, lh⟩
  · rw [h90 j hj]
    simp
theorem r_runL {d nl nq np nf na : Nat} (hR : q_RT G) {D I0 : a_F} (hD : r_D nl nq np nf na D I0) (hW : a_D nl nq np nf na D) (i1 i2 k wo : Int32) {l : List Nat} (hl : l.length ≤ 112) (hm : ∀ y ∈ l, y < 128 * 73000 ∧ (y % 128 < na ∨ 12 ≤ y % 128 ∧ y % 128 - 12 < nf)) {Q : am_O → am_H → Prop} :
    ∀ r i (I s : a_F) (n : Nat) (v6 : Value), am_nl v6 = true → i ≤ l.length → l.drop i = r → r_fr I0 I → r_cal I l → r_S nq I s → a_ok np nq s → s 17 0 = nI n → n + 200 * r.length ≤ 22400 →
      (∀ I' n', r_fr I0 I' → r_S nq I' (r.foldl (a_event D k wo) s) → a_ok np nq (r.foldl (a_event D k wo) s) → r.foldl (a_event D k wo) s 17 0 = nI n' → n' ≤ 22400 → Q (.inl none) (G, I', J)) →
      q_W β xs L (d + 8) 147 12 [.ref 59, .int i1, .int i2, .int k, .int wo, .int (nI i), v6] [] (G, I, J) Q
  | [], i, I, s, n, v6, n6, hil, hr, hf, hc, hS, hok, hn, hb, hQ => by
    have hi : l.length ≤ i := by
      have := congrArg List.length hr
      rw [List.length_drop] at this
      simp at this
      omega
    refine g_147_12 hR _ _ _ _ _ _ n6 ⟨fun _ => hQ I n hf hS hok hn (by simpa using hb), fun z => ?_⟩
    rw [hc.1, nI_ltI (by omega) (by omega)] at z
    omega
  | x :: r, i, I, s, n, v6, n6, hil, hr, hf, hc, hS, hok, hn, hb, hQ => by
    have hlr : l.length = i + (r.length + 1) := by
      have := congrArg List.length hr
      rw [List.length_drop, List.length_cons] at this
      omega
    have hx : l[i]? = some x := by
      have : (l.drop i)[0]? = some x := by rw [hr]; rfl
      rwa [List.getElem?_drop, Nat.add_zero] at this
    have hr1 : l.drop (i + 1) = r := by
      have : (l.drop i).drop 1 = r := by rw [hr]; rfl
      rwa [List.drop_drop] at this
    obtain ⟨c1, c2⟩ := hc.2 i x hx
    obtain ⟨m1, m2⟩ := hm x (List.mem_of_getElem? hx)
    obtain ⟨hP, hA, hF, hT, h6, hf2⟩ := hW
    have hn5 := hP.2.1
    have hbn : n + 200 ≤ 22400 := by rw [List.length_cons] at hb; omega
    have ei : (nI i).toNatClampNeg = i := nI_clamp (by omega)
    have ii : am_is (nI i) 112 = true := am_is_nI (by omega) (by omega)
    have next : ∀ (I3 s3 : a_F) (v : Int32), a_event D k wo s x = s3 → r_fr I0 I3 → r_cal I3 l → r_S nq I3 s3 → a_ok np nq s3 → (∃ n', s3 17 0 = nI n' ∧ n' ≤ n + 200) → q_W β xs L (d + 8) 147 94 [.ref 59, .int i1, .int i2, .int k, .int wo, .int (nI i), .int v] [] (G, I3, J) Q := by
      intro I3 s3 v he q1 q2 q3 q4 ⟨n3, q5, q6⟩
      refine g_147_94 hR _ _ _ _ _ _ ?_
      rw [nI_1]
      have hE : (x :: r).foldl (a_event D k wo) s = r.foldl (a_event D k wo) s3 := by rw [List.foldl_cons, he]
      rw [List.length_cons] at hb
      exact r_runL hR hD ⟨hP, hA, hF, hT, h6, hf2⟩ i1 i2 k wo hl hm r (i + 1) I3 s3 n3 _ rfl (by omega) hr1 q1 q2 q3 q4 q5 (by omega) (fun I' n' z1 z2 z3 z4 z5 => hQ I' n' z1 (hE ▸ z2) (hE ▸ z3) (hE ▸ z4) z5)
    refine g_147_12 hR _ _ _ _ _ _ n6 ⟨fun z => absurd (by rw [hc.1]; exact (nI_ltI (by omega) (by omega)).mpr (by omega)) z, fun _ => ⟨ii, ?_⟩⟩
    rw [ei, c2]
    have fa : r_fr I0 (am_u I 59 76 (nI (x / 128))) := hf.up _ rfl
    refine q_useI (r_force (β := β) (xs := xs) (L := L) (d := d + 6) hR (hD.fr fa) hP.1.2.2 (by omega) (nI (x / 128)) k wo) (Nat.le_refl _) ⟨hR, ii, ?_⟩
    have e108 : am_u I 59 76 (nI (x / 128)) 108 i = nI (x % 128) := c1
    rw [e108]
    have f2 : r_fr I0 (am_u (am_u I 59 76 (nI (x / 128))) 59 77 (a_force D (nI (x / 128)) k wo)) := fa.up _ rfl
    have S2 : r_S nq (am_u (am_u I 59 76 (nI (x / 128))) 59 77 (a_force D (nI (x / 128)) k wo)) s := (hS.c59 (by decide) _).c59 (by decide) _
    have C2 : r_cal (am_u (am_u I 59 76 (nI (x / 128))) 59 77 (a_force D (nI (x / 128)) k wo)) l := hc
    have t2 : am_u (am_u I 59 76 (nI (x / 128))) 59 77 (a_force D (nI (x / 128)) k wo) 59 76 = nI (x / 128) := by rw [am_u_ne (Or.inr (by decide)), am_u_same]
    have u2 : am_u (am_u I 59 76 (nI (x / 128))) 59 77 (a_force D (nI (x / 128)) k wo) 59 77 = a_force D (nI (x / 128)) k wo := am_u_same
    generalize am_u (am_u I 59 76 (nI (x / 128))) 59 77 (a_force D (nI (x / 128)) k wo) = I2 at f2 S2 C2 t2 u2 ⊢
    have D2 := hD.fr f2
    have lt12 : nI (x % 128) < 12 ↔ x % 128 < 12 := nI_ltI (b := 12) (by omega) (by omega)
    have cal3 : ∀ I' : a_F, (∀ i, I' 108 i = I2 108 i) → (∀ i, I' 109 i = I2 109 i) → I' 59 73 = I2 59 73 → r_cal I' l := fun I' w1 w2 w3 => ⟨w3.trans C2.1, fun j y hy => ⟨(w1 j).trans (C2.2 j y hy).1, (w2 j).trans (C2.2 j y hy).2⟩⟩
    refine ⟨fun z => ?_, fun z => ?_⟩
    · rw [lt12] at z
      have ha : x % 128 < na := by omega
      have hbit := s_bit1 (a_force D (nI (x / 128)) k wo) (a := x % 128) (by omega)
      have he : a_event D k wo s x = a_act D (nI (x / 128)) (a_force D (nI (x / 128)) k wo) (x % 128) s := by
        unfold a_event
        dsimp only
        rw [if_pos z]
      refine ⟨fun w => ?_, fun w => ?_⟩
      · have hb0 : ¬ bt (a_force D (nI (x / 128)) k wo) (x % 128) = true := fun q => w (hbit.mpr q)
        have e1 : a_event D k wo s x = s := by
          rw [he]
          unfold a_act
          rw [if_neg hb0]
        exact next I2 s _ e1 f2 C2 S2 hok ⟨n, hn, by omega⟩
      · refine q_useV (r_act (β := β) (xs := xs) (L := L) (d := d + 2) (J := J) hR D2 hP hA S2 hok t2 u2 ha (hbit.mp w) hn (by omega)) (Nat.le_refl _) (fun I3 h3 => ?_)
        obtain ⟨q1, ⟨q2, q3, q4, -⟩, q5, -⟩ := h3
        exact next I3 _ _ he (f2.tr q1) (cal3 I3 q2 q3 q4) q5 (a_ok_act hok _ _ _) (a_act_n hP _ _ _ hn (by omega))
    · rw [lt12] at z
      have hf3 : 12 ≤ x % 128 ∧ x % 128 - 12 < nf := by omega
      have he : a_event D k wo s x = a_fact D (nI (x / 128)) (a_force D (nI (x / 128)) k wo) (x % 128 - 12) s := by
        unfold a_event
        dsimp only
        rw [if_neg z]
      rw [show (nI (x % 128) - 12 : Int32) = nI (x % 128 - 12) from pk_sub (b := 12) hf3.1]
      refine q_useV (r_happens (β := β) (xs := xs) (L := L) (d := d) (J := J) hR D2 hP hA hF S2 hok t2 u2 hf3.2 hf2 hn (by omega)) (Nat.le_refl _) (fun I3 h3 => ?_)
      obtain ⟨q1, ⟨q2, q3, q4, -⟩, q5, -⟩ := h3
      exact next I3 _ _ he (f2.tr q1) (cal3 I3 q2 q3 q4) q5 (a_ok_fact hP hF hok _ _ hf3.2) (a_fact_n hP hF _ _ hf3.2 hn (by omega))
/-- a way is worked out -/
theorem r_runs {d nl nq np nf na : Nat} {I : a_F} (hR : q_RT G) {D : a_F} (hD : r_D nl nq np nf na D I) (hW : a_D nl nq np nf na D) {k : Int32} (hb : r_dbl D I (a_doubts D k)) {way : Nat} (hw : way < 2 ^ 31) (last wo : Int32) :
    q_W β xs L (d + 8) 147 0 [.ref 59, .int (nI way), .int last, .int k, .int wo, .retAddr 0, .retAddr 0] [] (G, I, J) (fun o h => o = .inl none ∧ ∃ I', h = (G, I', J) ∧ r_fr I I' ∧ r_S nq I' (a_run D way last k wo) ∧ a_ok np nq (a_run D way last k wo) ∧ ∃ n', a_run D way last k wo 17 0 = nI n' ∧ n' ≤ 22400) := by
  have hn5 := hW.1.2.1
  have hf2 := hW.2.2.2.2.2
  refine g_147_0 hR _ _ _ _ ?_
  refine q_useV (r_starts (β := β) (xs := xs) (L := L) (d := d + 6) (J := J) hR hD hW hb hw last wo) (Nat.le_refl _) (fun I1 h1 => ?_)
  obtain ⟨q1, q2, q3, q4⟩ := h1
  refine r_runL (d := d) hR (I0 := I) hD hW _ _ k wo (l := a_cal D k wo last way) (by omega) (fun y hy => a_cal_mem hW k wo last way hy) _ 0 I1 (a_init D) 0 _ rfl (Nat.zero_le _) rfl q1 q3 q2 (a_ok_init D np nq) rfl (by rw [List.drop_zero]; omega) (fun I' n' z1 z2 z3 z4 z5 => ?_)
  exact ⟨rfl, I', rfl, z1, z2, z3, n', z4, z5⟩
end R26

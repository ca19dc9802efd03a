/-! ===== the class: facts in doubt ===== -/
def c_dqs (c i : Nat) : Bool := (Nat.ble 35 c && Nat.ble c 37) || (Nat.beq c 34 && (Nat.beq i 4 || (Nat.beq i 5 || Nat.beq i 6)))
theorem c_dqs_D : ∀ c i, c_dc c i = true → c_dqs c i = false := fun c i h => by
  cases hh : c_dqs c i with
  | false => rfl
  | true =>
    simp only [c_dqs, Bool.or_eq_true, Bool.and_eq_true, Nat.beq_eq, Nat.ble_eq] at hh
    simp only [c_dc, Bool.or_eq_true, Bool.and_eq_true, Nat.beq_eq, Nat.ble_eq] at h
    omega
/-- the facts in doubt as the class holds them -/
def c_db (D I : a_F) (l : List Nat) : Prop := I 34 4 = nI l.length ∧ I 34 5 = nI (a_ways D l) ∧ ∀ i x, l[i]? = some x → I 35 i = nI x ∧ I 36 i = D 70 x ∧ I 37 i = nI (a_ways D (l.drop (i + 1)))
theorem a_ways_rng {D : a_F} : ∀ l : List Nat, (∀ x ∈ l, ∃ cn, 1 ≤ cn ∧ cn ≤ 3 ∧ D 70 x = nI cn) → 1 ≤ a_ways D l ∧ a_ways D l ≤ 3 ^ l.length
  | [], _ => ⟨Nat.le_refl _, Nat.le_refl _⟩
  | x :: r, h => by
    obtain ⟨h1, h2⟩ := a_ways_rng r (fun y hy => h y (List.mem_cons_of_mem _ hy))
    obtain ⟨cn, h3, h4, h5⟩ := h x List.mem_cons_self
    have e : a_ways D (x :: r) = cn * a_ways D r := by
      show a_ix (D 70 x) * a_ways D r = _
      rw [h5, show a_ix (nI cn) = cn from nI_clamp (by omega)]
    rw [e, List.length_cons, Nat.pow_succ, Nat.mul_comm (3 ^ r.length) 3]
    exact ⟨Nat.mul_pos h3 h1, Nat.mul_le_mul h4 h2⟩
theorem a_ways_27 {D : a_F} {l : List Nat} (hl : l.length ≤ 3) (h : ∀ x ∈ l, ∃ cn, 1 ≤ cn ∧ cn ≤ 3 ∧ D 70 x = nI cn) : 1 ≤ a_ways D l ∧ a_ways D l ≤ 27 := by
  obtain ⟨h1, h2⟩ := a_ways_rng l h
  have h3 := Nat.pow_le_pow_right (n := 3) (by decide) hl
  have : (3 : Nat) ^ 3 = 27 := rfl
  omega
theorem a_ways_drop {D : a_F} {l : List Nat} (hl : l.length ≤ 3) (h : ∀ x ∈ l, ∃ cn, 1 ≤ cn ∧ cn ≤ 3 ∧ D 70 x = nI cn) (i : Nat) : 1 ≤ a_ways D (l.drop i) ∧ a_ways D (l.drop i) ≤ 27 :=
  a_ways_27 (by rw [List.length_drop]; omega) (fun x hx => h x (List.mem_of_mem_drop hx))
section C14
variable {β : Bool} {xs : Nat → Int32} {L : Nat} {G : am_G} {J : Nat → Nat → Int64}
theorem c_isKnown {d : Nat} {I : a_F} (hR : q_RT G) {D : a_F} {f : Nat} (hf : f < 100) (h12 : I 12 f = D 68 f) (h13 : I 13 f = D 69 f) (k : Int32) : q_W β xs L d 18 0 [.ref 7, .int (nI f), .int k] [] (G, I, J) (fun o h => o = .inl (some (.int (a_is (a_knF D k f)))) ∧ h = (G, I, J)) := by
  have ea : (nI f).toNatClampNeg = f := nI_clamp (by omega)
  have ia : am_is (nI f) 100 = true := am_is_nI hf (by omega)
  have y : a_knF D k f = true → q_W β xs L d 18 30 [.ref 7, .int (nI f), .int k] [] (G, I, J) (fun o h => o = .inl (some (.int (a_is (a_knF D k f)))) ∧ h = (G, I, J)) := fun h => g_18_30 hR _ _ (g_18_35 hR _ _ _ ⟨Or.inr rfl, by rw [h]; rfl, rfl⟩)
  have z : a_knF D k f = false → q_W β xs L d 18 34 [.ref 7, .int (nI f), .int k] [] (G, I, J) (fun o h => o = .inl (some (.int (a_is (a_knF D k f)))) ∧ h = (G, I, J)) := fun h => g_18_34 hR _ _ (g_18_35 hR _ _ _ ⟨Or.inl rfl, by rw [h]; rfl, rfl⟩)
  refine g_18_0 hR _ _ ?_
  rw [ea, h12, h13]
  exact ⟨ia, fun c => z (by simp [a_knF, s_kn, c]), fun c => ⟨ia, fun c1 => y (by simp [a_knF, s_kn, c, c1]), fun c1 => ⟨ia, fun c2 => z (by simp [a_knF, s_kn, c1, c2]), fun c2 => y (by simp [a_knF, s_kn, c, c2])⟩⟩⟩
theorem c_find2 {d nl nq np nf na : Nat} (hR : q_RT G) {D I0 : a_F} (hD : c_D nl nq np nf na D I0) (hF : a_DF nl nq np nf D) (hf2 : nf ≤ 100) (k : Int32) {l : List Nat} (hl : l.length ≤ 3) (hm : ∀ x ∈ l, x < nf) {Q : am_O → am_H → Prop} (hQ : ∀ I', q_F c_dqs I0 I' → I' 34 6 = I0 34 6 → c_db D I' l → Q (.inl none) (G, I', J)) : ∀ n (I : a_F), n ≤ 3 → q_F c_dqs I0 I → I 34 6 = I0 34 6 → I 34 4 = nI l.length → I 34 5 = nI (a_ways D (l.drop n)) → (∀ i x, l[i]? = some x → I 35 i = nI x) → (∀ i x, n ≤ i → l[i]? = some x → I 36 i = D 70 x ∧ I 37 i = nI (a_ways D (l.drop (i + 1)))) →
    q_W β xs L (d + 1) 13 89 [.ref 34, .int k, .int (nI n - 1)] [] (G, I, J) Q
  | 0, I, hn, hf, h6, h4, h5, h35, h36 => g_13_89 hR _ _ ⟨fun _ => hQ I hf h6 ⟨h4, h5, fun i x hx => ⟨h35 i x hx, h36 i x (Nat.zero_le _) hx⟩⟩, fun z => absurd (show nI 0 - 1 < 0 by decide) z⟩
  | n + 1, I, hn, hf, h6, h4, h5, h35, h36 => by
    have en : (nI n).toNatClampNeg = n := nI_clamp (by omega)
    have ij : am_is (nI n) 3 = true := am_is_nI (by omega) (by omega)
    have D1 : c_D nl nq np nf na D I := hD.keep (fun c i hc => hf c i (c_dqs_D c i hc))
    have at124 : ∀ sz : Int32, (∀ x, l[n]? = some x → sz = D 70 x) → nI (a_ways D (l.drop (n + 1))) * sz = nI (a_ways D (l.drop n)) → q_W β xs L (d + 1) 13 124 [.ref 34, .int k, .int (nI n)] [.int sz, .int (nI n), .ref 36] (G, I, J) Q := by
      intro sz hs1 hs2
      refine g_13_124 hR _ _ _ _ ⟨ij, ij, ij, ?_⟩
      rw [en, am_u_same, h5, hs2, s_m1]
      refine c_find2 (d := d) hR hD hF hf2 k hl hm hQ n _ (by omega) (((hf.up _ rfl).up _ rfl).up _ rfl) h6 h4 am_u_same h35 (fun i x hi hx => ?_)
      have v36 : am_u (am_u (am_u I 36 n sz) 37 n (nI (a_ways D (l.drop (n + 1))))) 34 5 (nI (a_ways D (l.drop n))) 36 i = if i = n then sz else I 36 i := by simp [am_u]
      have v37 : am_u (am_u (am_u I 36 n sz) 37 n (nI (a_ways D (l.drop (n + 1))))) 34 5 (nI (a_ways D (l.drop n))) 37 i = if i = n then nI (a_ways D (l.drop (n + 1))) else I 37 i := by simp [am_u]
      rw [v36, v37]
      by_cases hin : i = n
      · subst hin
        rw [if_pos rfl, if_pos rfl]
        exact ⟨hs1 x hx, rfl⟩
      · rw [if_neg hin, if_neg hin]
        exact h36 i x (by omega) hx
    rw [nI_pred]
    refine g_13_89 hR _ _ ⟨fun z => absurd z (nI_pos (by omega)), fun _ => ?_⟩
    rw [h4, nI_ltI (by omega) (by omega)]
    refine ⟨fun z => at124 1 (fun x hx => ?_) ?_, fun z => ?_⟩
    · rw [List.getElem?_eq_none (by omega)] at hx; cases hx
    · rw [List.drop_eq_nil_of_le (by omega : l.length ≤ n), List.drop_eq_nil_of_le (by omega : l.length ≤ n + 1)]
      rfl
    · obtain ⟨f, hfe⟩ : ∃ f, l[n]? = some f := ⟨l[n], List.getElem?_eq_getElem z⟩
      have hfn := hm f (List.mem_of_getElem? hfe)
      obtain ⟨-, cn, hc1, hc2, hc3, -⟩ := hF f hfn
      have e15 : I 15 f = D 70 f := (D1.2.2.2.1 f hfn).2.2.2.2.2.2.1
      rw [en, h35 n f hfe, show (nI f).toNatClampNeg = f from nI_clamp (by omega), e15]
      refine ⟨ij, am_is_nI (by omega) (by omega), at124 _ (fun x hx => ?_) ?_⟩
      · rw [hfe] at hx
        rw [Option.some.inj hx]
      · rw [List.drop_eq_getElem_cons z]
        have : l[n] = f := by rw [List.getElem?_eq_getElem z] at hfe; exact Option.some.inj hfe
        rw [this]
        show _ = nI (a_ix (D 70 f) * _)
        rw [hc3, show a_ix (nI cn) = cn from nI_clamp (by omega), pk_mul, Nat.mul_comm]
theorem c_find1 {d nl nq np nf na : Nat} (hR : q_RT G) {D I0 : a_F} (hD : c_D nl nq np nf na D I0) (hF : a_DF nl nq np nf D) (hf2 : nf ≤ 100) (k : Int32) {Q : am_O → am_H → Prop} : ∀ m f (I : a_F) (acc : List Nat), f + m = nf → q_F c_dqs I0 I → I 34 6 = I0 34 6 → acc.length ≤ 3 → acc ++ (a_dbs D k m f).take (3 - acc.length) = a_doubts D k → I 34 4 = nI acc.length → (∀ i x, acc[i]? = some x → I 35 i = nI x) →
    (∀ I' i2, q_F c_dqs I0 I' → I' 34 6 = I0 34 6 → I' 34 4 = nI (a_doubts D k).length → (∀ i x, (a_doubts D k)[i]? = some x → I' 35 i = nI x) → q_W β xs L (d + 1) 13 82 [.ref 34, .int k, .int i2] [] (G, I', J) Q) → q_W β xs L (d + 1) 13 12 [.ref 34, .int k, .int (nI f)] [] (G, I, J) Q
  | 0, f, I, acc, hfm, hf, h6, hl, ha, h4, h35, hQ => by
    have e : a_doubts D k = acc := by
      rw [← ha]
      simp [a_dbs]
    rw [e] at hQ
    refine g_13_12 hR _ _ ⟨fun _ => hQ I _ hf h6 h4 h35, fun z => ?_⟩
    rw [hf 7 8 rfl, hD.1.2.2.2.1, nI_ltI (by omega) (by omega)] at z
    omega
  | m + 1, f, I, acc, hfm, hf, h6, hl, ha, h4, h35, hQ => by
    have D1 : c_D nl nq np nf na D I := hD.keep (fun c i hc => hf c i (c_dqs_D c i hc))
    have ef : (nI f).toNatClampNeg = f := nI_clamp (by omega)
    have jf : am_is (nI f) 100 = true := am_is_nI (by omega) (by omega)
    obtain ⟨-, cn, hc1, hc2, hc3, -⟩ := hF f (by omega)
    obtain ⟨d1, d2, d3, d4, d5, d6, d7, -⟩ := D1.2.2.2.1 f (by omega)
    have lt3 : nI acc.length < 3 ↔ acc.length < 3 := nI_ltI (b := 3) (by omega) (by omega)
    have lt1 : 1 < D 70 f ↔ ¬ D 70 f < 2 := by
      rw [hc3]
      have h1 : (1 : Int32) < nI cn ↔ 1 < cn := nI_ltI (a := 1) (by omega) (by omega)
      have h2 : nI cn < (2 : Int32) ↔ cn < 2 := nI_ltI (b := 2) (by omega) (by omega)
      rw [h1, h2]
      omega
    have no : ¬ (a_knF D k f = true ∧ ¬ D 70 f < 2) → q_W β xs L (d + 1) 13 76 [.ref 34, .int k, .int (nI f)] [] (G, I, J) Q := fun w => by
      refine g_13_76 hR _ _ ?_
      rw [nI_1]
      refine c_find1 hR hD hF hf2 k m (f + 1) I acc (by omega) hf h6 hl ?_ h4 h35 hQ
      rw [← ha]
      show _ = acc ++ (if _ then _ else _ : List Nat).take _
      rw [if_neg w]
    refine g_13_12 hR _ _ ⟨fun z => absurd (by rw [hf 7 8 rfl, hD.1.2.2.2.1]; exact (nI_ltI (by omega) (by omega)).mpr (by omega)) z, fun _ => ⟨fun z => ?_, fun z => ⟨jf, ?_⟩⟩⟩
    · rw [h4, lt3] at z
      have e : a_doubts D k = acc := by
        rw [← ha, show 3 - acc.length = 0 by omega, List.take_zero, List.append_nil]
      rw [e] at hQ
      exact hQ I _ hf h6 h4 h35
    · rw [h4, lt3] at z
      rw [ef, d7, lt1]
      refine ⟨fun y => no (fun q => y q.2), fun y => ?_⟩
      refine q_useI (c_isKnown (β := β) (xs := xs) (L := L) (d := d) hR (by omega) d5 d6 k) (Nat.le_refl _) ⟨hR, fun w => no (fun q => ?_), fun w => ?_⟩
      · have := a_is_0.mp w
        rw [q.1] at this
        cases this
      · have hk : a_knF D k f = true := by
          cases hs : a_knF D k f with
          | true => rfl
          | false => exact absurd (a_is_0.mpr hs) w
        rw [h4, show (nI acc.length).toNatClampNeg = acc.length from nI_clamp (by omega), nI_1]
        refine ⟨am_is_nI (by omega) (by omega), g_13_76 hR _ _ ?_⟩
        rw [nI_1]
        refine c_find1 hR hD hF hf2 k m (f + 1) _ (acc ++ [f]) (by omega) ((hf.up _ rfl).up _ rfl) h6 (by simp; omega) ?_ ?_ (fun i g hg => ?_) hQ
        · rw [← ha]
          show _ = acc ++ (if _ then _ else _ : List Nat).take _
          rw [if_pos ⟨hk, y⟩, List.append_assoc, show 3 - acc.length = (3 - (acc ++ [f]).length) + 1 by simp; omega, List.take_succ_cons]
          rfl
        · rw [am_u_same]
          simp
        · rw [am_u_ne (Or.inl (by decide))]
          by_cases hi : i < acc.length
          · rw [List.getElem?_append_left hi] at hg
            rw [am_u_ne (Or.inr (by omega))]
            exact h35 i g hg
          · rw [List.getElem?_append_right (by omega)] at hg
            have hi2 : i - acc.length = 0 := by
              cases hh : i - acc.length with
              | zero => rfl
              | succ j => rw [hh] at hg; simp at hg
            have e : i = acc.length := by omega
            rw [hi2] at hg
            have e2 : f = g := by simpa using hg
            rw [e, e2, am_u_same]
theorem c_findD {d nl nq np nf na : Nat} {I : a_F} (hR : q_RT G) {D : a_F} (hD : c_D nl nq np nf na D I) (hF : a_DF nl nq np nf D) (hf2 : nf ≤ 100) (hDf : D 59 6 = nI nf) (k : Int32) :
    q_W β xs L (d + 1) 13 0 [.ref 34, .int k, .retAddr 0] [] (G, I, J) (fun o h => o = .inl none ∧ ∃ I', h = (G, I', J) ∧ q_F c_dqs I I' ∧ I' 34 6 = k ∧ c_db D I' (a_doubts D k)) := by
  have f1 : q_F c_dqs I (am_u (am_u I 34 6 k) 34 4 0) := ((q_F.rf _ I).up _ rfl).up _ rfl
  have hm : ∀ x ∈ a_doubts D k, x < nf := fun x hx => (a_doubts_mem hDf (by omega) hx).1
  have e6 : am_u (am_u I 34 6 k) 34 4 0 34 6 = k := by rw [am_u_ne (Or.inr (by decide)), am_u_same]
  refine g_13_0 hR _ ?_
  refine c_find1 hR (hD.keep (fun c i hc => f1 c i (c_dqs_D c i hc))) hF hf2 k nf 0 _ [] (by omega) (q_F.rf _ _) rfl (by simp) ?_ am_u_same (fun i x h => by simp at h) (fun I1 i2 q1 q2 q3 q4 => ?_)
  · unfold a_doubts
    rw [hDf, show a_ix (nI nf) = nf from nI_clamp (by omega)]
    rfl
  · refine g_13_82 hR _ _ ?_
    have f2 : q_F c_dqs I (am_u I1 34 5 1) := (f1.tr q1).up _ rfl
    have hl := a_doubts_len D k
    refine c_find2 hR (I0 := am_u I1 34 5 1) (hD.keep (fun c i hc => f2 c i (c_dqs_D c i hc))) hF hf2 k hl hm (fun I' z1 z2 z3 => ⟨rfl, I', rfl, f2.tr z1, (z2.trans q2).trans e6, z3⟩) 3 _ (Nat.le_refl _) (q_F.rf _ _) rfl q3 ?_ q4 (fun i x hi hx => ?_)
    · rw [am_u_same, List.drop_eq_nil_of_le hl]
      rfl
    · rw [List.getElem?_eq_none (by omega)] at hx; cases hx
/-- the day of a fact in doubt -/
theorem c_pick {d nl nq np nf : Nat} {I : a_F} (hR : q_RT G) {D : a_F} (hF : a_DF nl nq np nf D) {l : List Nat} (hl : l.length ≤ 3) (hm : ∀ x ∈ l, x < nf) (hb : c_db D I l) {way i : Nat} (hw : way < 2 ^ 31) (hi : i < l.length) :
    q_W β xs L d 14 0 [.ref 34, .int (nI i), .int (nI way)] [] (G, I, J) (fun o h => o = .inl (some (.int (nI (a_pk D l way i)))) ∧ h = (G, I, J)) := by
  obtain ⟨f, hfe⟩ : ∃ f, l[i]? = some f := ⟨l[i], List.getElem?_eq_getElem hi⟩
  obtain ⟨b1, b2, b3⟩ := hb.2.2 i f hfe
  obtain ⟨-, cn, hc1, hc2, hc3, -⟩ := hF f (hm f (List.mem_of_getElem? hfe))
  obtain ⟨w1, w2⟩ := a_ways_drop (D := D) hl (fun x hx => by obtain ⟨-, cn, h1, h2, h3, -⟩ := hF x (hm x hx); exact ⟨cn, h1, h2, h3⟩) (i + 1)
  have ei : (nI i).toNatClampNeg = i := nI_clamp (by omega)
  have ij : am_is (nI i) 3 = true := am_is_nI (by omega) (by omega)
  refine g_14_0 hR _ _ ?_
  rw [ei, b2, b3, hc3]
  have hle : way / a_ways D (l.drop (i + 1)) ≤ way := Nat.div_le_self _ _
  refine ⟨ij, fun z => absurd ((nI_ltI (a := 0) (by omega) (by omega)).mpr (by omega)) z, fun _ => ⟨ij, fun z => absurd ((nI_ltI (a := 0) (by omega) (by omega)).mpr (by omega)) z, fun _ => ⟨ij, fun z => ?_, ij, fun z => ?_, g_14_37 hR _ _ _ ⟨?_, rfl⟩⟩⟩⟩
  · have := nI_inj2 (b := 0) (by omega) (by omega) z
    omega
  · have := nI_inj2 (b := 0) (by omega) (by omega) z
    omega
  · rw [pk_div (by omega) (by omega) (by omega), pk_rem (by omega) (by omega) (by omega)]
    unfold a_pk
    rw [hfe]
    simp only [Option.getD_some]
    rw [hc3, show a_ix (nI cn) = cn from nI_clamp (by omega)]
theorem c_dayL {d nl nq np nf na : Nat} {I : a_F} (hR : q_RT G) {D : a_F} (hD : c_D nl nq np nf na D I) (hF : a_DF nl nq np nf D) (hf2 : nf ≤ 100) {l : List Nat} (hl : l.length ≤ 3) (hm : ∀ x ∈ l, x < nf) (hinc : l.Pairwise (· < ·)) (hb : c_db D I l) {way f : Nat} (hw : way < 2 ^ 31) (hf : f < nf) : ∀ m i, i + m = l.length → (∀ j x, j < i → l[j]? = some x → x ≠ f) →
    q_W β xs L (d + 1) 15 2 [.ref 34, .int (nI way), .int (nI f), .int (nI i)] [] (G, I, J) (fun o h => o = .inl (some (.int (D 71 (3 * f + a_day D way l f)))) ∧ h = (G, I, J))
  | 0, i, hi, hno => by
    have e3 : (nI f * 3 : Int32) = nI (3 * f) := by rw [s_lit, pk_mul, Nat.mul_comm]
    have hnm : ¬ f ∈ l := fun h => by
      obtain ⟨j, hj⟩ := List.getElem?_of_mem h
      have := (List.getElem?_eq_some_iff.mp hj).1
      exact hno j f (by omega) hj rfl
    obtain ⟨cn, h2, h3, h4, -⟩ := a_day_cn hF way l hf
    refine g_15_2 hR _ _ _ ⟨fun _ => ?_, fun z => ?_⟩
    · rw [e3, show (nI (3 * f)).toNatClampNeg = 3 * f from nI_clamp (by omega)]
      refine ⟨am_is_nI (by omega) (by omega), ?_, rfl⟩
      have := (hD.2.2.2.1 f hf).2.2.2.2.2.2.2 0 (by rw [h3, show a_ix (nI cn) = cn from nI_clamp (by omega)]; omega)
      rw [a_day_no D way l f hnm]
      rw [Nat.add_zero] at this ⊢
      rw [this]
    · rw [hb.1, nI_ltI (by omega) (by omega)] at z
      omega
  | m + 1, i, hi, hno => by
    have hil : i < l.length := by omega
    obtain ⟨g, hge⟩ : ∃ g, l[i]? = some g := ⟨l[i], List.getElem?_eq_getElem hil⟩
    have hgn := hm g (List.mem_of_getElem? hge)
    have ei : (nI i).toNatClampNeg = i := nI_clamp (by omega)
    have e3 : (nI f * 3 : Int32) = nI (3 * f) := by rw [s_lit, pk_mul, Nat.mul_comm]
    refine g_15_2 hR _ _ _ ⟨fun z => absurd (by rw [hb.1]; exact (nI_ltI (by omega) (by omega)).mpr hil) z, fun _ => ?_⟩
    rw [ei, (hb.2.2 i g hge).1]
    refine ⟨am_is_nI (by omega) (by omega), fun z => ?_, fun z => ?_⟩
    · rw [nI_1]
      refine c_dayL hR hD hF hf2 hl hm hinc hb hw hf m (i + 1) (by omega) (fun j x hj hx => ?_)
      by_cases hji : j = i
      · subst hji
        rw [hge] at hx
        have : g = x := Option.some.inj hx
        rw [← this]
        exact fun q => z (by rw [q])
      · exact hno j x (by omega) hx
    · have hgf : g = f := nI_inj2 (by omega) (by omega) z
      subst hgf
      obtain ⟨cn, h2, h3, h4, -⟩ := a_day_cn hF way l hf
      have epk := a_day_pk D way l i g hinc hge
      refine q_useI (c_pick (β := β) (xs := xs) (L := L) (d := d) hR hF hl hm hb hw hil) (Nat.le_refl _) ?_
      rw [e3, nI_add, ← epk, show (nI (3 * g + a_day D way l g)).toNatClampNeg = 3 * g + a_day D way l g from nI_clamp (by omega)]
      refine ⟨am_is_nI (by omega) (by omega), ?_, rfl⟩
      rw [(hD.2.2.2.1 g hf).2.2.2.2.2.2.2 _ (by rw [h3, show a_ix (nI cn) = cn from nI_clamp (by omega)]; exact h4)]
theorem c_dayIn {d nl nq np nf na : Nat} {I : a_F} (hR : q_RT G) {D : a_F} (hD : c_D nl nq np nf na D I) (hF : a_DF nl nq np nf D) (hf2 : nf ≤ 100) {l : List Nat} (hl : l.length ≤ 3) (hm : ∀ x ∈ l, x < nf) (hinc : l.Pairwise (· < ·)) (hb : c_db D I l) {way f : Nat} (hw : way < 2 ^ 31) (hf : f < nf) :
    q_W β xs L (d + 1) 15 0 [.ref 34, .int (nI way), .int (nI f), .retAddr 0] [] (G, I, J) (fun o h => o = .inl (some (.int (D 71 (3 * f + a_day D way l f)))) ∧ h = (G, I, J)) :=
  g_15_0 hR _ _ (c_dayL hR hD hF hf2 hl hm hinc hb hw hf l.length 0 (by omega) (fun j x hj _ => absurd hj (Nat.not_lt_zero j)))
end C14

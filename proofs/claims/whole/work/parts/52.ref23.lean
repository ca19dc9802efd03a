/-! ===== frames in general; the reference: facts in doubt ===== -/
/-- what sc doesn't name stays -/
def q_F (sc : Nat → Nat → Bool) (I I' : a_F) : Prop := ∀ c i, sc c i = false → I' c i = I c i
theorem q_F.rf (sc : Nat → Nat → Bool) (I : a_F) : q_F sc I I := fun _ _ _ => rfl
theorem q_F.tr {sc : Nat → Nat → Bool} {I I1 I2 : a_F} (h1 : q_F sc I I1) (h2 : q_F sc I1 I2) : q_F sc I I2 := fun c i h => (h2 c i h).trans (h1 c i h)
theorem q_F.up {sc : Nat → Nat → Bool} {I I1 : a_F} (h : q_F sc I I1) {c i : Nat} (x : Int32) (hc : sc c i = true) : q_F sc I (am_u I1 c i x) := fun a b hab => by
  rw [am_u_ne]
  · exact h a b hab
  · by_cases h1 : a = c
    · by_cases h2 : b = i
      · subst h1; subst h2; rw [hc] at hab; cases hab
      · exact Or.inr h2
    · exact Or.inl h1
theorem q_F.row {sc : Nat → Nat → Bool} {I I1 : a_F} (h : q_F sc I I1) {c : Nat} (f : Nat → Int32) (hc : ∀ i, sc c i = true) : q_F sc I (am_row I1 c f) := fun a b hab => by
  by_cases h1 : a = c
  · subst h1; rw [hc] at hab; cases hab
  · rw [am_row_ne _ _ _ h1]; exact h a b hab
theorem q_F.sub {sc sc' : Nat → Nat → Bool} {I I1 : a_F} (h : q_F sc I I1) (hs : ∀ c i, sc' c i = false → sc c i = false) : q_F sc' I I1 := fun c i hc => h c i (hs c i hc)
/-- the cells of the data -/
def r_dc (c i : Nat) : Bool := (Nat.ble 60 c && Nat.ble c 71) || ((Nat.ble 74 c && Nat.ble c 86) || (Nat.beq c 59 && ((Nat.ble 3 i && Nat.ble i 6) || Nat.beq i 32)))
theorem r_D.keep {nl nq np nf na : Nat} {D I I' : a_F} (h : r_D nl nq np nf na D I) (hf : ∀ c i, r_dc c i = true → I' c i = I c i) : r_D nl nq np nf na D I' := by
  obtain ⟨⟨h1, h2, h3, h4, h5⟩, h6, h7, h8, h9⟩ := h
  refine ⟨⟨?_, ?_, ?_, ?_, ?_⟩, fun q hq => ?_, fun p hp => ?_, fun f hf2 => ?_, fun a ha => ?_⟩
  · rw [hf 59 3 rfl]; exact h1
  · rw [hf 59 4 rfl]; exact h2
  · rw [hf 59 5 rfl]; exact h3
  · rw [hf 59 6 rfl]; exact h4
  · rw [hf 59 32 rfl]; exact h5
  · rw [hf 60 q rfl]; exact h6 q hq
  · rw [hf 61 p rfl, hf 62 p rfl, hf 63 p rfl]; exact h7 p hp
  · rw [hf 64 f rfl, hf 65 f rfl, hf 66 f rfl, hf 67 f rfl, hf 68 f rfl, hf 69 f rfl, hf 70 f rfl]
    obtain ⟨b1, b2, b3, b4, b5, b6, b7, b8⟩ := h8 f hf2
    exact ⟨b1, b2, b3, b4, b5, b6, b7, fun i hi => by rw [hf 71 _ rfl]; exact b8 i hi⟩
  · rw [hf 74 a rfl, hf 75 a rfl, hf 76 a rfl, hf 77 a rfl, hf 78 a rfl, hf 79 a rfl, hf 80 a rfl]
    obtain ⟨b1, b2, b3, b4, b5, b6, b7, b8, b9⟩ := h9 a ha
    exact ⟨b1, b2, b3, b4, b5, b6, b7, fun c hc => by rw [hf 81 _ rfl, hf 82 _ rfl, hf 83 _ rfl, hf 84 _ rfl, hf 85 _ rfl]; exact b8 c hc, fun i hi => by rw [hf 86 _ rfl]; exact b9 i hi⟩
theorem r_D.F {sc : Nat → Nat → Bool} {nl nq np nf na : Nat} {D I I' : a_F} (h : r_D nl nq np nf na D I) (hf : q_F sc I I') (hs : ∀ c i, r_dc c i = true → sc c i = false) : r_D nl nq np nf na D I' := h.keep (fun c i hc => hf c i (hs c i hc))
/-- the cells of the facts in doubt -/
def r_dqs (c i : Nat) : Bool := Nat.beq c 89 || (Nat.beq c 59 && (Nat.beq i 51 || Nat.beq i 52))
theorem r_dqs_D : ∀ c i, r_dc c i = true → r_dqs c i = false := fun c i h => by
  cases hh : r_dqs c i with
  | false => rfl
  | true =>
    simp only [r_dqs, Bool.or_eq_true, Bool.and_eq_true, Nat.beq_eq] at hh
    simp only [r_dc, Bool.or_eq_true, Bool.and_eq_true, Nat.beq_eq, Nat.ble_eq] at h
    omega
/-- the facts in doubt stand in the cells -/
def r_dbl (D I : a_F) (l : List Nat) : Prop := I 59 51 = nI l.length ∧ I 59 52 = nI (a_ways D l) ∧ ∀ i f, l[i]? = some f → I 89 i = nI f
theorem a_ways_app (D : a_F) (f : Nat) : ∀ l, a_ways D (l ++ [f]) = a_ways D l * a_ix (D 70 f)
  | [] => by simp [a_ways]
  | g :: l => by
    show a_ix (D 70 g) * a_ways D (l ++ [f]) = a_ix (D 70 g) * a_ways D l * a_ix (D 70 f)
    rw [a_ways_app D f l, Nat.mul_assoc]
theorem a_dbs_mem (D : a_F) (k : Int32) : ∀ n f x, x ∈ a_dbs D k n f → f ≤ x ∧ x < f + n ∧ a_knF D k x = true ∧ ¬ D 70 x < 2
  | 0, f, x, h => by cases h
  | n + 1, f, x, h => by
    unfold a_dbs at h
    split at h
    · rename_i hc
      rcases List.mem_cons.mp h with h | h
      · subst h
        exact ⟨Nat.le_refl _, by omega, hc.1, hc.2⟩
      · obtain ⟨h1, h2, h3⟩ := a_dbs_mem D k n (f + 1) x h
        exact ⟨by omega, by omega, h3⟩
    · obtain ⟨h1, h2, h3⟩ := a_dbs_mem D k n (f + 1) x h
      exact ⟨by omega, by omega, h3⟩
theorem a_dbs_inc (D : a_F) (k : Int32) : ∀ n f, (a_dbs D k n f).Pairwise (· < ·)
  | 0, f => List.Pairwise.nil
  | n + 1, f => by
    unfold a_dbs
    split
    · exact List.Pairwise.cons (fun x hx => (a_dbs_mem D k n (f + 1) x hx).1) (a_dbs_inc D k n (f + 1))
    · exact a_dbs_inc D k n (f + 1)
theorem a_doubts_inc (D : a_F) (k : Int32) : (a_doubts D k).Pairwise (· < ·) := (a_dbs_inc D k _ _).sublist (List.take_sublist _ _)
theorem a_doubts_mem {D : a_F} {k : Int32} {nf : Nat} (h : D 59 6 = nI nf) (hn : nf < 2 ^ 31) {x : Nat} (hx : x ∈ a_doubts D k) : x < nf ∧ a_knF D k x = true ∧ ¬ D 70 x < 2 := by
  have h1 := a_dbs_mem D k _ _ x (List.mem_of_mem_take hx)
  rw [h, show a_ix (nI nf) = nf from nI_clamp hn] at h1
  exact ⟨by omega, h1.2.2⟩
theorem a_doubts_len (D : a_F) (k : Int32) : (a_doubts D k).length ≤ 3 := by
  unfold a_doubts
  rw [List.length_take]
  omega
/-- what a way tells of the i-th of a list of facts -/
def a_pk (D : a_F) (l : List Nat) (way i : Nat) : Nat := way / a_ways D (l.drop (i + 1)) % a_ix (D 70 (l[i]?.getD 0))
theorem a_day_pk (D : a_F) (way : Nat) : ∀ (l : List Nat) i f, l.Pairwise (· < ·) → l[i]? = some f → a_day D way l f = a_pk D l way i
  | [], i, f, _, h => by simp at h
  | g :: r, 0, f, _, h => by
    have e : g = f := by simpa using h
    subst e
    show (if g = g then _ else _) = _
    rw [if_pos rfl]
    rfl
  | g :: r, i + 1, f, hp, h => by
    have hr : r[i]? = some f := by simpa using h
    have hg : ¬ g = f := fun e => by
      have := List.rel_of_pairwise_cons hp (List.mem_of_getElem? hr)
      omega
    show (if g = f then _ else _) = _
    rw [if_neg hg, a_day_pk D way r i f (List.Pairwise.of_cons hp) hr]
    rfl
theorem a_day_no (D : a_F) (way : Nat) : ∀ (l : List Nat) f, ¬ f ∈ l → a_day D way l f = 0
  | [], f, _ => rfl
  | g :: r, f, h => by
    have h1 : ¬ g = f := fun e => h (by rw [e]; exact List.mem_cons_self)
    show (if g = f then _ else _) = _
    rw [if_neg h1]
    exact a_day_no D way r f (fun q => h (List.mem_cons_of_mem _ q))
section R23
variable {β : Bool} {xs : Nat → Int32} {L : Nat} {G : am_G} {J : Nat → Nat → Int64}
theorem r_fdL {d nl nq np nf na : Nat} (hR : q_RT G) {D I0 : a_F} (hD : r_D nl nq np nf na D I0) (hF : a_DF nl nq np nf D) (hf2 : nf ≤ 100) (k : Int32) {Q : am_O → am_H → Prop} : ∀ m f (I : a_F) (acc : List Nat), f + m = nf → q_F r_dqs I0 I → acc.length ≤ 3 → acc ++ (a_dbs D k m f).take (3 - acc.length) = a_doubts D k → r_dbl D I acc →
    (∀ I', q_F r_dqs I0 I' → r_dbl D I' (a_doubts D k) → Q (.inl none) (G, I', J)) → q_W β xs L (d + 1) 143 12 [.ref 59, .int k, .int (nI f)] [] (G, I, J) Q
  | 0, f, I, acc, hfm, hf, hl, ha, hb, hQ => by
    refine g_143_12 hR _ _ ⟨fun _ => g_143_91 hR _ _ (hQ I hf ?_), fun z => ?_⟩
    · rw [← ha]
      simp only [a_dbs, List.take_nil, List.append_nil]
      exact hb
    · rw [(hD.F hf r_dqs_D).1.2.2.2.1, nI_ltI (by omega) (by omega)] at z
      omega
  | m + 1, f, I, acc, hfm, hf, hl, ha, hb, hQ => by
    have D1 := hD.F hf r_dqs_D
    have ef : (nI f).toNatClampNeg = f := nI_clamp (by omega)
    have jf : am_is (nI f) 100 = true := am_is_nI (by omega) (by omega)
    obtain ⟨b1, b2, b3⟩ := hb
    obtain ⟨-, cn, hc1, hc2, hc3, -⟩ := hF f (by omega)
    obtain ⟨d1, d2, d3, d4, d5, d6, d7, -⟩ := D1.2.2.2.1 f (by omega)
    have lt3 : nI acc.length < 3 ↔ acc.length < 3 := nI_ltI (b := 3) (by omega) (by omega)
    refine g_143_12 hR _ _ ⟨fun z => absurd (by rw [D1.1.2.2.2.1]; exact (nI_ltI (by omega) (by omega)).mpr (by omega)) z, fun _ => ⟨fun z => ?_, fun z => ?_⟩⟩
    · rw [b1, lt3] at z
      refine g_143_91 hR _ _ (hQ I hf ?_)
      rw [← ha, show 3 - acc.length = 0 by omega, List.take_zero, List.append_nil]
      exact ⟨b1, b2, b3⟩
    · rw [b1, lt3] at z
      have no : ¬ (a_knF D k f = true ∧ ¬ D 70 f < 2) → q_W β xs L (d + 1) 143 85 [.ref 59, .int k, .int (nI f)] [] (G, I, J) Q := fun w => by
        refine g_143_85 hR _ _ ?_
        rw [nI_1]
        refine r_fdL hR hD hF hf2 k m (f + 1) I acc (by omega) hf hl ?_ ⟨b1, b2, b3⟩ hQ
        rw [← ha]
        show _ = acc ++ (if _ then _ else _ : List Nat).take _
        rw [if_neg w]
      refine q_useI (r_knownF (β := β) (xs := xs) (L := L) (d := d) hR (by omega) d5 d6 k) (Nat.le_refl _) ⟨hR, fun w => no (fun q => ?_), fun w => ⟨jf, fun y => ?_, fun y => no (fun q => ?_)⟩⟩
      · have := a_is_0.mp w
        rw [q.1] at this
        cases this
      · have hk : a_knF D k f = true := by
          cases hs : a_knF D k f with
          | true => rfl
          | false => exact absurd (a_is_0.mpr hs) w
        rw [ef, d7] at y
        rw [ef, b1, b2, d7, show (nI acc.length).toNatClampNeg = acc.length from nI_clamp (by omega), nI_1]
        refine ⟨am_is_nI (by omega) (by omega), jf, g_143_85 hR _ _ ?_⟩
        rw [nI_1]
        refine r_fdL hR hD hF hf2 k m (f + 1) _ (acc ++ [f]) (by omega) (((hf.up _ rfl).up _ rfl).up _ rfl) (by simp; omega) ?_ ⟨?_, ?_, ?_⟩ hQ
        · rw [← ha]
          show _ = acc ++ (if _ then _ else _ : List Nat).take _
          rw [if_pos ⟨hk, y⟩, List.append_assoc, show 3 - acc.length = (3 - (acc ++ [f]).length) + 1 by simp; omega, List.take_succ_cons]
          rfl
        · rw [am_u_ne (Or.inr (by decide)), am_u_same]
          simp
        · rw [am_u_same, a_ways_app, hc3, pk_mul, show a_ix (nI cn) = cn from nI_clamp (by omega)]
        · intro i g hg
          rw [am_u_ne (Or.inl (by decide)), am_u_ne (Or.inl (by decide))]
          by_cases hi : i < acc.length
          · rw [List.getElem?_append_left hi] at hg
            rw [am_u_ne (Or.inr (by omega))]
            exact b3 i g hg
          · rw [List.getElem?_append_right (by omega)] at hg
            have hi2 : i - acc.length = 0 := by
              cases hh : i - acc.length with
              | zero => rfl
              | succ j => rw [hh] at hg; simp at hg
            have e : i = acc.length := by omega
            rw [hi2] at hg
            have e2 : f = g := by simpa using hg
            rw [e, e2, am_u_same]
      · rw [ef, d7] at y
        exact q.2 y
theorem r_findsD {d nl nq np nf na : Nat} {I : a_F} (hR : q_RT G) {D : a_F} (hD : r_D nl nq np nf na D I) (hF : a_DF nl nq np nf D) (hf2 : nf ≤ 100) (hDf : D 59 6 = nI nf) (k : Int32) :
    q_W β xs L (d + 1) 143 0 [.ref 59, .int k, .retAddr 0] [] (G, I, J) (fun o h => o = .inl none ∧ ∃ I', h = (G, I', J) ∧ q_F r_dqs I I' ∧ r_dbl D I' (a_doubts D k)) := by
  have f1 : q_F r_dqs I (am_u (am_u I 59 51 0) 59 52 1) := ((q_F.rf _ I).up _ rfl).up _ rfl
  refine g_143_0 hR _ ?_
  refine r_fdL hR (hD.F f1 r_dqs_D) hF hf2 k nf 0 _ [] (by omega) (q_F.rf _ _) (by simp) ?_ ⟨?_, ?_, fun i f h => by simp at h⟩ (fun I' q1 q2 => ⟨rfl, I', rfl, f1.tr q1, q2⟩)
  · unfold a_doubts
    rw [hDf, show a_ix (nI nf) = nf from nI_clamp (by omega)]
    rfl
  · rw [am_u_ne (Or.inr (by decide)), am_u_same]; rfl
  · rw [am_u_same]; rfl
/-- which of its days the i-th fact in doubt has in a way -/
theorem r_dayL {d nl nq np nf na : Nat} {I : a_F} (hR : q_RT G) {D : a_F} (hD : r_D nl nq np nf na D I) (hF : a_DF nl nq np nf D) (hf2 : nf ≤ 100) {l : List Nat} (hl : l.length ≤ 3) (hm : ∀ x ∈ l, x < nf) (hb : r_dbl D I l) {way i : Nat} (hw : way < 2 ^ 31) (hi : i < l.length) {Q : am_O → am_H → Prop} (hQ : Q (.inl (some (.int (nI (a_pk D l way i))))) (G, I, J)) : ∀ n j, i + n = j → j < l.length →
    q_W β xs L d 144 10 [.ref 59, .int (nI way), .int (nI i), .int (nI (way / a_ways D (l.drop (j + 1)))), .int (nI j)] [] (G, I, J) Q
  | 0, j, hj, hjl => by
    have e : j = i := by omega
    subst e
    obtain ⟨f, hf⟩ : ∃ f, l[j]? = some f := ⟨l[j], List.getElem?_eq_getElem hjl⟩
    have hfn := hm f (List.mem_of_getElem? hf)
    have e1 : I 89 j = nI f := hb.2.2 j f hf
    obtain ⟨-, cn, hc1, hc2, hc3, -⟩ := hF f hfn
    have e2 : I 70 f = nI cn := (hD.2.2.2.1 f hfn).2.2.2.2.2.2.1.trans hc3
    have ej : (nI j).toNatClampNeg = j := nI_clamp (by omega)
    have ef : (nI f).toNatClampNeg = f := nI_clamp (by omega)
    refine g_144_10 hR _ _ _ _ ⟨fun _ => ?_, fun z => absurd ((nI_ltI (by omega) (by omega)).mp z) (by omega)⟩
    rw [ej, e1, ef, e2]
    refine ⟨am_is_nI (by omega) (by omega), am_is_nI (by omega) (by omega), fun z => ?_, ?_⟩
    · have := nI_inj2 (b := 0) (by omega) (by omega) z
      omega
    · have hle : way / a_ways D (l.drop (j + 1)) ≤ way := Nat.div_le_self _ _
      rw [pk_rem (by omega) (by omega) (by omega)]
      unfold a_pk at hQ
      rw [hf] at hQ
      simp only [Option.getD_some] at hQ
      rw [hc3, show a_ix (nI cn) = cn from nI_clamp (by omega)] at hQ
      exact hQ
  | n + 1, j, hj, hjl => by
    obtain ⟨f, hf⟩ : ∃ f, l[j]? = some f := ⟨l[j], List.getElem?_eq_getElem hjl⟩
    have hfn := hm f (List.mem_of_getElem? hf)
    have e1 : I 89 j = nI f := hb.2.2 j f hf
    obtain ⟨-, cn, hc1, hc2, hc3, -⟩ := hF f hfn
    have e2 : I 70 f = nI cn := (hD.2.2.2.1 f hfn).2.2.2.2.2.2.1.trans hc3
    have ej : (nI j).toNatClampNeg = j := nI_clamp (by omega)
    have ef : (nI f).toNatClampNeg = f := nI_clamp (by omega)
    refine g_144_10 hR _ _ _ _ ⟨fun z => absurd ((nI_ltI (by omega) (by omega)).mpr (by omega)) z, fun _ => ?_⟩
    rw [ej, e1, ef, e2]
    refine ⟨am_is_nI (by omega) (by omega), am_is_nI (by omega) (by omega), fun z => ?_, ?_⟩
    · have := nI_inj2 (b := 0) (by omega) (by omega) z
      omega
    · have hle : way / a_ways D (l.drop (j + 1)) ≤ way := Nat.div_le_self _ _
      have ih := r_dayL (d := d) hR hD hF hf2 hl hm hb hw hi hQ n (j - 1) (by omega) (by omega)
      have e3 : a_ways D (l.drop (j - 1 + 1)) = a_ways D (l.drop (j + 1)) * cn := by
        rw [show j - 1 + 1 = j by omega, List.drop_eq_getElem_cons hjl]
        have : l[j] = f := by rw [List.getElem?_eq_getElem hjl] at hf; exact Option.some.inj hf
        rw [this]
        show a_ix (D 70 f) * _ = _
        rw [hc3, show a_ix (nI cn) = cn from nI_clamp (by omega), Nat.mul_comm]
      rw [e3, ← Nat.div_div_eq_div_mul] at ih
      rw [pk_div (by omega) (by omega) (by omega), show j = (j - 1) + 1 by omega, pk_m1]
      rw [show j - 1 + 1 + 1 = j + 1 by omega]
      exact ih
theorem r_dayIn {d nl nq np nf na : Nat} {I : a_F} (hR : q_RT G) {D : a_F} (hD : r_D nl nq np nf na D I) (hF : a_DF nl nq np nf D) (hf2 : nf ≤ 100) {l : List Nat} (hl : l.length ≤ 3) (hm : ∀ x ∈ l, x < nf) (hb : r_dbl D I l) {way i : Nat} (hw : way < 2 ^ 31) (hi : i < l.length) :
    q_W β xs L d 144 0 [.ref 59, .int (nI way), .int (nI i), .retAddr 0, .retAddr 0] [] (G, I, J) (fun o h => o = .inl (some (.int (nI (a_pk D l way i)))) ∧ h = (G, I, J)) := by
  refine g_144_0 hR _ _ ?_
  rw [hb.1, show l.length = (l.length - 1) + 1 by omega, nI_pred]
  have h := r_dayL (β := β) (xs := xs) (L := L) (J := J) (d := d) (G := G) hR hD hF hf2 hl hm hb hw hi (Q := fun o h => o = .inl (some (.int (nI (a_pk D l way i)))) ∧ h = (G, I, J)) ⟨rfl, rfl⟩ (l.length - 1 - i) (l.length - 1) (by omega) (by omega)
  rw [show l.length - 1 + 1 = l.length by omega, List.drop_length] at h
  have e : way / a_ways D [] = way := Nat.div_one _
  rw [e] at h
  exact h
end R23

/-! ===== the reference: starts ===== -/
def q_rows (l : List Nat) (c _ : Nat) : Bool := l.any (fun x => Nat.beq x c)
/-- days of acts -/
def a_DT (na : Nat) (D : a_F) : Prop := ∀ a, a < na → ∃ u v, u ≤ 72999 ∧ v ≤ 72999 ∧ D 75 a = nI u ∧ D 76 a = nI v
/-- the calendar and the days of facts -/
def r_c2 (c i : Nat) : Bool := Nat.beq c 90 || r_cls c i
theorem r_c2_sc : ∀ c i, r_sc c i = false → r_c2 c i = false := fun c i h => by
  cases hh : r_c2 c i with
  | false => rfl
  | true =>
    simp only [r_c2, r_cls, Bool.or_eq_true, Bool.and_eq_true, Nat.beq_eq] at hh
    rcases hh with rfl | rfl | rfl | ⟨rfl, rfl⟩ <;> cases h
theorem r_cls_c2 : ∀ c i, r_c2 c i = false → r_cls c i = false := fun c i h => by
  unfold r_c2 at h
  rw [Bool.or_eq_false_iff] at h
  exact h.2
theorem r_c2_D : ∀ c i, r_dc c i = true → r_c2 c i = false := fun c i h => by
  cases hh : r_c2 c i with
  | false => rfl
  | true =>
    simp only [r_c2, r_cls, Bool.or_eq_true, Bool.and_eq_true, Nat.beq_eq] at hh
    rcases hh with rfl | rfl | rfl | ⟨rfl, rfl⟩ <;> cases h
theorem r_S.c2 {nq : Nat} {I I' s : a_F} (h : r_S nq I s) (hf : q_F r_c2 I I') : r_S nq I' s := by
  obtain ⟨h1, h2, h3, h4, h5⟩ := h
  refine ⟨fun p hp => ?_, fun q hq => ?_, fun j hj => ?_, ?_, fun n hn => ?_⟩
  · rw [hf 91 p rfl, hf 92 p rfl, hf 93 p rfl, hf 94 p rfl, hf 95 p rfl, hf 96 p rfl]; exact h1 p hp
  · rw [hf 97 q rfl, hf 98 q rfl]; exact h2 q hq
  · rw [hf 99 j rfl, hf 100 j rfl, hf 101 j rfl]; exact h3 j hj
  · rw [hf 59 66 rfl]; exact h4
  · rw [hf 102 n rfl, hf 103 n rfl, hf 104 n rfl, hf 105 n rfl, hf 106 n rfl, hf 107 n rfl]; exact h5 n hn
theorem r_dbl.fr {D I I' : a_F} {l : List Nat} (h : r_dbl D I l) (hf : r_fr I I') : r_dbl D I' l := by
  obtain ⟨h1, h2, h3⟩ := h
  refine ⟨?_, ?_, fun i f hi => ?_⟩
  · rw [hf 59 51 rfl]; exact h1
  · rw [hf 59 52 rfl]; exact h2
  · rw [hf 89 i rfl]; exact h3 i f hi
theorem a_day_lt (D : a_F) (way : Nat) : ∀ (l : List Nat) f, a_day D way l f = 0 ∨ (f ∈ l ∧ ∃ v, a_day D way l f = v % a_ix (D 70 f))
  | [], _ => Or.inl rfl
  | g :: r, f => by
    unfold a_day
    split
    · rename_i h
      subst h
      exact Or.inr ⟨List.mem_cons_self, _, rfl⟩
    · rcases a_day_lt D way r f with h | ⟨h1, h2⟩
      · exact Or.inl h
      · exact Or.inr ⟨List.mem_cons_of_mem _ h1, h2⟩
theorem a_day_cn {nl nq np nf : Nat} {D : a_F} (hF : a_DF nl nq np nf D) (way : Nat) (l : List Nat) {f : Nat} (hf : f < nf) : ∃ cn, cn ≤ 3 ∧ D 70 f = nI cn ∧ a_day D way l f < cn ∧ ∀ i, i < cn → ∃ e, e ≤ 72999 ∧ D 71 (3 * f + i) = nI e := by
  obtain ⟨-, cn, h1, h2, h3, h4⟩ := hF f hf
  refine ⟨cn, h2, h3, ?_, h4⟩
  rcases a_day_lt D way l f with h | ⟨-, v, hv⟩
  · omega
  · rw [hv, h3, show a_ix (nI cn) = cn from nI_clamp (by omega)]
    exact Nat.mod_lt _ (by omega)
theorem a_on_rng {nl nq np nf : Nat} {D : a_F} (hF : a_DF nl nq np nf D) (k : Int32) (way : Nat) {f : Nat} (hf : f < nf) : ∃ e, e ≤ 72999 ∧ a_on D k way f = nI e := by
  obtain ⟨cn, -, -, h3, h4⟩ := a_day_cn hF way (a_doubts D k) hf
  exact h4 _ h3
section R25
variable {β : Bool} {xs : Nat → Int32} {L : Nat} {G : am_G} {J : Nat → Nat → Int64}
theorem r_st3 {d : Nat} (hR : q_RT G) {I0 : a_F} (i1 i2 i3 i4 : Int32) {Q : am_O → am_H → Prop} (hQ : ∀ I', q_F (q_rows [91, 92, 94, 95]) I0 I' → (∀ p, p < 20 → I' 91 p = 0 ∧ I' 92 p = -1 ∧ I' 94 p = -1 ∧ I' 95 p = -1) → q_W β xs L (d + 1) 145 51 [.ref 59, .int i1, .int i2, .int i3, .int i4, .int 0] [] (G, I', J) Q) :
    ∀ m p (I : a_F), p + m = 20 → q_F (q_rows [91, 92, 94, 95]) I0 I → (∀ j, j < p → I 91 j = 0 ∧ I 92 j = -1 ∧ I 94 j = -1 ∧ I 95 j = -1) → q_W β xs L (d + 1) 145 3 [.ref 59, .int i1, .int i2, .int i3, .int i4, .int (nI p)] [] (G, I, J) Q
  | 0, p, I, hp, hf, h => by
    refine g_145_3 hR _ _ _ _ _ ⟨fun _ => hQ I hf (fun j hj => h j (by omega)), fun z => absurd ((nI_ltI (b := 20) (by omega) (by omega)).mp z) (by omega)⟩
  | m + 1, p, I, hp, hf, h => by
    have ep : (nI p).toNatClampNeg = p := nI_clamp (by omega)
    have jp : am_is (nI p) 20 = true := am_is_nI (by omega) (by omega)
    refine g_145_3 hR _ _ _ _ _ ⟨fun z => absurd ((nI_ltI (b := 20) (by omega) (by omega)).mpr (by omega)) z, fun _ => ⟨jp, jp, jp, jp, ?_⟩⟩
    rw [ep, nI_1]
    refine r_st3 (d := d) hR i1 i2 i3 i4 hQ m (p + 1) _ (by omega) ((((hf.up _ rfl).up _ rfl).up _ rfl).up _ rfl) (fun j hj => ?_)
    by_cases hjp : j = p
    · subst hjp; simp [am_u]
    · have := h j (by omega)
      simp [am_u, hjp, this]
theorem r_st51 {d : Nat} (hR : q_RT G) {I0 : a_F} (i1 i2 i3 i4 : Int32) {Q : am_O → am_H → Prop} (hQ : ∀ I', q_F (q_rows [99, 100, 101]) I0 I' → (∀ p, p < 100 → I' 99 p = -1 ∧ I' 100 p = 0 ∧ I' 101 p = 0) → q_W β xs L (d + 1) 145 91 [.ref 59, .int i1, .int i2, .int i3, .int i4, .int 0] [] (G, I', J) Q) :
    ∀ m p (I : a_F), p + m = 100 → q_F (q_rows [99, 100, 101]) I0 I → (∀ j, j < p → I 99 j = -1 ∧ I 100 j = 0 ∧ I 101 j = 0) → q_W β xs L (d + 1) 145 51 [.ref 59, .int i1, .int i2, .int i3, .int i4, .int (nI p)] [] (G, I, J) Q
  | 0, p, I, hp, hf, h => by
    refine g_145_51 hR _ _ _ _ _ ⟨fun _ => hQ I hf (fun j hj => h j (by omega)), fun z => absurd ((nI_ltI (b := 100) (by omega) (by omega)).mp z) (by omega)⟩
  | m + 1, p, I, hp, hf, h => by
    have ep : (nI p).toNatClampNeg = p := nI_clamp (by omega)
    have jp : am_is (nI p) 100 = true := am_is_nI (by omega) (by omega)
    refine g_145_51 hR _ _ _ _ _ ⟨fun z => absurd ((nI_ltI (b := 100) (by omega) (by omega)).mpr (by omega)) z, fun _ => ⟨jp, jp, jp, ?_⟩⟩
    rw [ep, nI_1]
    refine r_st51 (d := d) hR i1 i2 i3 i4 hQ m (p + 1) _ (by omega) (((hf.up _ rfl).up _ rfl).up _ rfl) (fun j hj => ?_)
    by_cases hjp : j = p
    · subst hjp; simp [am_u]
    · have := h j (by omega)
      simp [am_u, hjp, this]
theorem r_st91 {d nq : Nat} (hR : q_RT G) {D I0 : a_F} (hq : I0 59 4 = nI nq) (hq2 : nq ≤ 12) (h60 : ∀ q, q < nq → I0 60 q = D 60 q) (i1 i2 i3 i4 : Int32) {Q : am_O → am_H → Prop} (hQ : ∀ I', q_F (q_rows [97, 98]) I0 I' → (∀ q, q < nq → I' 97 q = D 60 q ∧ I' 98 q = -1) → q_W β xs L (d + 1) 145 141 [.ref 59, .int i1, .int i2, .int i3, .int i4, .int 0] [] (G, am_u (am_u I' 59 66 0) 59 73 0, J) Q) :
    ∀ m p (I : a_F), p + m = nq → q_F (q_rows [97, 98]) I0 I → (∀ j, j < p → I 97 j = D 60 j ∧ I 98 j = -1) → q_W β xs L (d + 1) 145 91 [.ref 59, .int i1, .int i2, .int i3, .int i4, .int (nI p)] [] (G, I, J) Q
  | 0, p, I, hp, hf, h => by
    refine g_145_91 hR _ _ _ _ _ ⟨fun _ => hQ I hf (fun j hj => h j (by omega)), fun z => ?_⟩
    rw [hf 59 4 rfl, hq, nI_ltI (by omega) (by omega)] at z
    omega
  | m + 1, p, I, hp, hf, h => by
    have ep : (nI p).toNatClampNeg = p := nI_clamp (by omega)
    have jp : am_is (nI p) 12 = true := am_is_nI (by omega) (by omega)
    refine g_145_91 hR _ _ _ _ _ ⟨fun z => absurd (by rw [hf 59 4 rfl, hq]; exact (nI_ltI (by omega) (by omega)).mpr (by omega)) z, fun _ => ⟨jp, jp, jp, ?_⟩⟩
    rw [ep, nI_1, hf 60 p rfl, h60 p (by omega)]
    refine r_st91 (d := d) hR hq hq2 h60 i1 i2 i3 i4 hQ m (p + 1) _ (by omega) ((hf.up _ rfl).up _ rfl) (fun j hj => ?_)
    by_cases hjp : j = p
    · subst hjp; simp [am_u]
    · have := h j (by omega)
      simp [am_u, hjp, this]
theorem r_st141 {d nl nq np nf na : Nat} (hR : q_RT G) {D I0 : a_F} (hD : r_D nl nq np nf na D I0) (hT : a_DT na D) (hna : na ≤ 12) (i1 last k wo : Int32) {Q : am_O → am_H → Prop} :
    ∀ m a (I : a_F) (c : List Nat), a + m = na → q_F r_c2 I0 I → r_cal I c → c.Pairwise (· ≤ ·) → c.length ≤ a → (∀ y ∈ c, y < 128 * 73000) →
      (∀ I', q_F r_c2 I0 I' → r_cal I' (a_calA D k wo last m a c) → (a_calA D k wo last m a c).Pairwise (· ≤ ·) → (a_calA D k wo last m a c).length ≤ na → (∀ y ∈ a_calA D k wo last m a c, y < 128 * 73000) → q_W β xs L (d + 1) 145 207 [.ref 59, .int i1, .int last, .int k, .int wo, .int 0] [] (G, I', J) Q) →
      q_W β xs L (d + 1) 145 141 [.ref 59, .int i1, .int last, .int k, .int wo, .int (nI a)] [] (G, I, J) Q
  | 0, a, I, c, ha, hf, hc, hs, hl, hB, hQ => by
    refine g_145_141 hR _ _ _ _ _ ⟨fun _ => hQ I hf hc hs (by show c.length ≤ na; omega) hB, fun z => ?_⟩
    rw [(hD.F hf r_c2_D).1.2.2.2.2, nI_ltI (by omega) (by omega)] at z
    omega
  | m + 1, a, I, c, ha, hf, hc, hs, hl, hB, hQ => by
    have D1 := hD.F hf r_c2_D
    have ea : (nI a).toNatClampNeg = a := nI_clamp (by omega)
    have ja : am_is (nI a) 12 = true := am_is_nI (by omega) (by omega)
    obtain ⟨d1, d2, d3, d4, d5, -⟩ := D1.2.2.2.2 a (by omega)
    obtain ⟨u, v, hu, hv, hu2, hv2⟩ := hT a (by omega)
    have eu : a_ix (D 75 a) = u := by rw [hu2]; exact nI_clamp (by omega)
    have next : ∀ (I1 : a_F) (c1 : List Nat), a_calA D k wo last (m + 1) a c = a_calA D k wo last m (a + 1) c1 → q_F r_c2 I0 I1 → r_cal I1 c1 → c1.Pairwise (· ≤ ·) → c1.length ≤ a + 1 → (∀ y ∈ c1, y < 128 * 73000) → q_W β xs L (d + 1) 145 198 [.ref 59, .int i1, .int last, .int k, .int wo, .int (nI a)] [] (G, I1, J) Q := by
      intro I1 c1 he q1 q2 q3 q4 q5
      refine g_145_198 hR _ _ _ _ _ ?_
      rw [nI_1]
      exact r_st141 hR hD hT hna i1 last k wo m (a + 1) I1 c1 (by omega) q1 q2 q3 q4 q5 (fun I' z1 z2 z3 z4 z5 => hQ I' z1 (he ▸ z2) (he ▸ z3) (he ▸ z4) (he ▸ z5))
    have no : ¬ (a_knA D k wo a = true ∧ D 75 a < D 76 a ∧ ¬ last < D 75 a) → a_calA D k wo last (m + 1) a c = a_calA D k wo last m (a + 1) c := fun h => by
      show a_calA D k wo last m (a + 1) (if _ then _ else _) = _
      rw [if_neg h]
    refine g_145_141 hR _ _ _ _ _ ⟨fun z => absurd (by rw [D1.1.2.2.2.2]; exact (nI_ltI (by omega) (by omega)).mpr (by omega)) z, fun _ => ⟨fun z => next I c (no (fun h => by have := h.1; simp [a_knA, z] at this)) hf hc hs (by omega) hB, fun z => ?_⟩⟩
    refine q_useI (r_knownA (β := β) (xs := xs) (L := L) (d := d) hR (by omega) d4 d5 k) (Nat.le_refl _) ⟨hR, fun w => next I c (no (fun h => ?_)) hf hc hs (by omega) hB, fun w => ⟨ja, ja, ?_⟩⟩
    · have h1 := h.1
      rw [a_knA, a_is_0.mp w] at h1
      simp at h1
    · rw [ea, d2, d3]
      refine ⟨fun y => next I c (no (fun h => y h.2.1)) hf hc hs (by omega) hB, fun y => ⟨ja, ?_⟩⟩
      have hk : a_knA D k wo a = true := by
        unfold a_knA
        have : s_kn (D 77) (D 78) k a = true := by
          cases hs : s_kn (D 77) (D 78) k a with
          | true => rfl
          | false => exact absurd (a_is_0.mpr hs) w
        rw [this]
        simp [z]
      rw [hu2]
      refine q_useV (r_sorts (β := β) (xs := xs) (L := L) (d := d) (J := J) hR hc hs (by omega) hB (e := a) (dd := u) (by omega) hu last) (Nat.le_refl _) (fun I' hI' => ?_)
      obtain ⟨q1, q2⟩ := hI'
      have f2 : q_F r_c2 I0 I' := hf.tr (q1.sub r_cls_c2)
      by_cases hlast : last < nI u
      · rw [if_pos hlast] at q2
        exact next I' c (no (fun h => h.2.2 (by rw [hu2]; exact hlast))) f2 q2 hs (by omega) hB
      · rw [if_neg hlast] at q2
        refine next I' _ ?_ f2 q2 (a_ins_srt _ hs) (by rw [a_ins_len]; omega) (fun y hy => ?_)
        · show a_calA D k wo last m (a + 1) (if _ then _ else _) = _
          rw [if_pos ⟨hk, y, by rw [hu2]; exact hlast⟩, eu]
        · rcases a_ins_mem _ hy with e | e
          · omega
          · exact hB y e
theorem r_st207 {d nl nq np nf na : Nat} (hR : q_RT G) {D I0 : a_F} (hD : r_D nl nq np nf na D I0) (hf2 : nf ≤ 100) (i1 i2 i3 i4 : Int32) {Q : am_O → am_H → Prop} (hQ : ∀ I', q_F (q_rows [90]) I0 I' → (∀ j, j < nf → I' 90 j = D 71 (3 * j)) → q_W β xs L (d + 1) 145 241 [.ref 59, .int i1, .int i2, .int i3, .int i4, .int 0] [] (G, I', J) Q) :
    ∀ m f (I : a_F), f + m = nf → q_F (q_rows [90]) I0 I → (∀ j, j < f → I 90 j = D 71 (3 * j)) → q_W β xs L (d + 1) 145 207 [.ref 59, .int i1, .int i2, .int i3, .int i4, .int (nI f)] [] (G, I, J) Q
  | 0, f, I, hp, hf, h => by
    refine g_145_207 hR _ _ _ _ _ ⟨fun _ => hQ I hf (fun j hj => h j (by omega)), fun z => ?_⟩
    rw [hf 59 6 rfl, hD.1.2.2.2.1, nI_ltI (by omega) (by omega)] at z
    omega
  | m + 1, f, I, hp, hf, h => by
    have ef : (nI f).toNatClampNeg = f := nI_clamp (by omega)
    have e3 : (3 * nI f : Int32) = nI (3 * f) := by rw [s_lit, pk_mul]
    have ef3 : (nI (3 * f)).toNatClampNeg = 3 * f := nI_clamp (by omega)
    refine g_145_207 hR _ _ _ _ _ ⟨fun z => absurd (by rw [hf 59 6 rfl, hD.1.2.2.2.1]; exact (nI_ltI (by omega) (by omega)).mpr (by omega)) z, fun _ => ?_⟩
    rw [e3, ef3, ef, nI_1, hf 71 _ rfl]
    refine ⟨am_is_nI (by omega) (by omega), am_is_nI (by omega) (by omega), ?_⟩
    refine r_st207 (d := d) hR hD hf2 i1 i2 i3 i4 hQ m (f + 1) _ (by omega) (hf.up _ rfl) (fun j hj => ?_)
    by_cases hjf : j = f
    · subst hjf
      rw [am_u_same]
      have := (hD.2.2.2.1 j (by omega)).2.2.2.2.2.2.2 0 (by omega)
      simpa using this
    · rw [am_u_ne (Or.inr hjf)]
      exact h j (by omega)
theorem r_st241 {d nl nq np nf na : Nat} (hR : q_RT G) {D I0 : a_F} (hD : r_D nl nq np nf na D I0) (hF : a_DF nl nq np nf D) (hf2 : nf ≤ 100) {l : List Nat} (hll : l.length ≤ 3) (hm : ∀ x ∈ l, x < nf) (hinc : l.Pairwise (· < ·)) (hb : r_dbl D I0 l) {way : Nat} (hw : way < 2 ^ 31) (i2 i3 i4 : Int32) {Q : am_O → am_H → Prop} (hQ : ∀ I', q_F (q_rows [90]) I0 I' → (∀ j, j < nf → I' 90 j = D 71 (3 * j + a_day D way l j)) → q_W β xs L (d + 1) 145 293 [.ref 59, .int (nI way), .int i2, .int i3, .int i4, .int 0] [] (G, I', J) Q) :
    ∀ m i (I : a_F), i + m = l.length → q_F (q_rows [90]) I0 I → (∀ j, j < nf → I 90 j = D 71 (3 * j + if j ∈ l.take i then a_day D way l j else 0)) → q_W β xs L (d + 1) 145 241 [.ref 59, .int (nI way), .int i2, .int i3, .int i4, .int (nI i)] [] (G, I, J) Q
  | 0, i, I, hi, hf, h => by
    refine g_145_241 hR _ _ _ _ _ ⟨fun _ => hQ I hf (fun j hj => ?_), fun z => ?_⟩
    · rw [h j hj, show i = l.length by omega, List.take_length]
      split
      · rfl
      · rename_i hn
        rw [a_day_no D way l j hn]
    · rw [hf 59 51 rfl, hb.1, nI_ltI (by omega) (by omega)] at z
      omega
  | m + 1, i, I, hi, hf, h => by
    have hil : i < l.length := by omega
    obtain ⟨f, hfe⟩ : ∃ f, l[i]? = some f := ⟨l[i], List.getElem?_eq_getElem hil⟩
    have hfn := hm f (List.mem_of_getElem? hfe)
    have e1 : I 89 i = nI f := (hf 89 i rfl).trans (hb.2.2 i f hfe)
    have ei : (nI i).toNatClampNeg = i := nI_clamp (by omega)
    have ef : (nI f).toNatClampNeg = f := nI_clamp (by omega)
    have hb1 : r_dbl D I l := ⟨(hf 59 51 rfl).trans hb.1, (hf 59 52 rfl).trans hb.2.1, fun j g hj => (hf 89 j rfl).trans (hb.2.2 j g hj)⟩
    have D1 : r_D nl nq np nf na D I := hD.F hf (fun c i h => by
      cases hh : q_rows [90] c i with
      | false => rfl
      | true =>
        simp only [q_rows, List.any_cons, List.any_nil, Bool.or_false, Nat.beq_eq] at hh
        subst hh
        cases h)
    obtain ⟨cn, hc2, hc3, hc4, hc5⟩ := a_day_cn hF way l hfn
    have epk := a_day_pk D way l i f hinc hfe
    refine g_145_241 hR _ _ _ _ _ ⟨fun z => absurd (by rw [hf 59 51 rfl, hb.1]; exact (nI_ltI (by omega) (by omega)).mpr (by omega)) z, fun _ => ⟨am_is_nI (by omega) (by omega), am_is_nI (by omega) (by omega), ?_⟩⟩
    refine q_useI (r_dayIn (β := β) (xs := xs) (L := L) (d := d) (J := J) hR D1 hF hf2 hll hm hb1 hw hil) (Nat.le_refl _) ?_
    have e3 : (3 * nI f + nI (a_pk D l way i) : Int32) = nI (3 * f + a_day D way l f) := by rw [s_lit, pk_mul, nI_add, epk]
    rw [ei, e1, e3, ef, show (nI (3 * f + a_day D way l f)).toNatClampNeg = 3 * f + a_day D way l f from nI_clamp (by omega), nI_1]
    refine ⟨am_is_nI (by omega) (by omega), am_is_nI (by omega) (by omega), ?_⟩
    refine r_st241 (d := d) hR hD hF hf2 hll hm hinc hb hw i2 i3 i4 hQ m (i + 1) _ (by omega) (hf.up _ rfl) (fun j hj => ?_)
    have etk : l.take (i + 1) = l.take i ++ [f] := by
      rw [List.take_succ, hfe]
      rfl
    by_cases hjf : j = f
    · subst hjf
      rw [am_u_same, etk, if_pos (by simp)]
      exact (D1.2.2.2.1 j hj).2.2.2.2.2.2.2 _ (by omega)
    · rw [am_u_ne (Or.inr hjf), h j hj, etk]
      simp [hjf]
theorem r_st293 {d nl nq np nf na : Nat} (hR : q_RT G) {D I0 : a_F} (hD : r_D nl nq np nf na D I0) (hF : a_DF nl nq np nf D) (hf2 : nf ≤ 100) (hna : na ≤ 12) (i1 last k i4 : Int32) (way : Nat) (h90 : ∀ j, j < nf → I0 90 j = a_on D k way j) {Q : am_O → am_H → Prop} :
    ∀ m f (I : a_F) (c : List Nat), f + m = nf → q_F r_cls I0 I → r_cal I c → c.Pairwise (· ≤ ·) → c.length ≤ na + f → (∀ y ∈ c, y < 128 * 73000) →
      (∀ I', q_F r_cls I0 I' → r_cal I' (a_calF D k last way m f c) → (a_calF D k last way m f c).length ≤ na + nf → Q (.inl none) (G, I', J)) →
      q_W β xs L (d + 1) 145 293 [.ref 59, .int i1, .int last, .int k, .int i4, .int (nI f)] [] (G, I, J) Q
  | 0, f, I, c, hm, hf, hc, hs, hl, hB, hQ => by
    refine g_145_293 hR _ _ _ _ _ ⟨fun _ => hQ I hf hc (by show c.length ≤ _; omega), fun z => ?_⟩
    rw [hf 59 6 rfl, hD.1.2.2.2.1, nI_ltI (by omega) (by omega)] at z
    omega
  | m + 1, f, I, c, hm, hf, hc, hs, hl, hB, hQ => by
    have ef : (nI f).toNatClampNeg = f := nI_clamp (by omega)
    have jf : am_is (nI f) 100 = true := am_is_nI (by omega) (by omega)
    obtain ⟨d1, d2, d3, d4, d5, d6, -⟩ := hD.2.2.2.1 f (by omega)
    obtain ⟨e, he, he2⟩ := a_on_rng hF k way (f := f) (by omega)
    have ee : a_ix (a_on D k way f) = e := by rw [he2]; exact nI_clamp (by omega)
    have next : ∀ (I1 : a_F) (c1 : List Nat), a_calF D k last way (m + 1) f c = a_calF D k last way m (f + 1) c1 → q_F r_cls I0 I1 → r_cal I1 c1 → c1.Pairwise (· ≤ ·) → c1.length ≤ na + f + 1 → (∀ y ∈ c1, y < 128 * 73000) → q_W β xs L (d + 1) 145 329 [.ref 59, .int i1, .int last, .int k, .int i4, .int (nI f)] [] (G, I1, J) Q := by
      intro I1 c1 hE q1 q2 q3 q4 q5
      refine g_145_329 hR _ _ _ _ _ ?_
      rw [nI_1]
      exact r_st293 hR hD hF hf2 hna i1 last k i4 way h90 m (f + 1) I1 c1 (by omega) q1 q2 q3 (by omega) q5 (fun I' z1 z2 z3 => hQ I' z1 (hE ▸ z2) (hE ▸ z3))
    have no : ¬ (a_knF D k f = true ∧ ¬ last < a_on D k way f) → a_calF D k last way (m + 1) f c = a_calF D k last way m (f + 1) c := fun h => by
      show a_calF D k last way m (f + 1) (if _ then _ else _) = _
      rw [if_neg h]
    refine g_145_293 hR _ _ _ _ _ ⟨fun z => absurd (by rw [hf 59 6 rfl, hD.1.2.2.2.1]; exact (nI_ltI (by omega) (by omega)).mpr (by omega)) z, fun _ => ?_⟩
    refine q_useI (r_knownF (β := β) (xs := xs) (L := L) (d := d) (D := D) hR (by omega) ((hf 68 f rfl).trans d5) ((hf 69 f rfl).trans d6) k) (Nat.le_refl _) ⟨hR, fun w => next I c (no (fun h => ?_)) hf hc hs (by omega) hB, fun w => ⟨jf, ?_⟩⟩
    · have := a_is_0.mp w
      rw [h.1] at this
      cases this
    · have hk : a_knF D k f = true := by
        cases hs : a_knF D k f with
        | true => rfl
        | false => exact absurd (a_is_0.mpr hs) w
      have e12 : (12 + nI f : Int32) = nI (12 + f) := by rw [s_lit, nI_add]
      rw [ef, hf 90 f rfl, h90 f (by omega), he2, e12]
      refine q_useV (r_sorts (β := β) (xs := xs) (L := L) (d := d) (J := J) hR hc hs (by omega) hB (e := 12 + f) (dd := e) (by omega) he last) (Nat.le_refl _) (fun I' hI' => ?_)
      obtain ⟨q1, q2⟩ := hI'
      have f2 : q_F r_cls I0 I' := hf.tr q1
      by_cases hlast : last < nI e
      · rw [if_pos hlast] at q2
        exact next I' c (no (fun h => h.2 (by rw [he2]; exact hlast))) f2 q2 hs (by omega) hB
      · rw [if_neg hlast] at q2
        refine next I' _ ?_ f2 q2 (a_ins_srt _ hs) (by rw [a_ins_len]; omega) (fun y hy => ?_)
        · show a_calF D k last way m (f + 1) (if _ then _ else _) = _
          rw [if_pos ⟨hk, by rw [he2]; exact hlast⟩, ee]
        · rcases a_ins_mem _ hy with q | q
          · omega
          · exact hB y q
end R25

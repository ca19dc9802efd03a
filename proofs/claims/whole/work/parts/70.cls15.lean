/-! ===== the class: the calendar of a way ===== -/
def a_calB (D : a_F) (k wo last : Int32) : Nat → Nat → List Nat → List Nat
  | 0, _, c => c
  | n + 1, a, c => a_calB D k wo last n (a + 1) (if a_knA D k wo a = true ∧ ¬ last < D 75 a then a_ins (a_ix (D 75 a) * 128 + a) c else c)
def a_calC (D : a_F) (k wo last : Int32) (way : Nat) : List Nat := a_calF D k last way (a_ix (D 59 6)) 0 (a_calB D k wo last (a_ix (D 59 32)) 0 [])
theorem a_ins_split {x : Nat} : ∀ l : List Nat, l.Pairwise (· ≤ ·) → ∃ l1 l2, l = l1 ++ l2 ∧ (∀ y ∈ l1, ¬ x < y) ∧ ∀ y ∈ l2, x < y
  | [], _ => ⟨[], [], rfl, fun _ h => (by cases h), fun _ h => (by cases h)⟩
  | y :: r, h => by
    by_cases hxy : x < y
    · refine ⟨[], y :: r, rfl, fun _ h => (by cases h), fun z hz => ?_⟩
      rcases List.mem_cons.mp hz with e | e
      · omega
      · have := List.rel_of_pairwise_cons h e
        omega
    · obtain ⟨l1, l2, h1, h2, h3⟩ := a_ins_split (x := x) r (List.Pairwise.of_cons h)
      refine ⟨y :: l1, l2, by rw [h1]; rfl, fun z hz => ?_, h3⟩
      rcases List.mem_cons.mp hz with e | e
      · rw [e]; exact hxy
      · exact h2 z e
theorem a_ins_filter {P : Nat → Bool} {x : Nat} {l : List Nat} (h : l.Pairwise (· ≤ ·)) : (a_ins x l).filter P = if P x = true then a_ins x (l.filter P) else l.filter P := by
  obtain ⟨l1, l2, h1, h2, h3⟩ := a_ins_split (x := x) l h
  rw [h1, a_ins_app l1 l2 h2 h3, List.filter_append, List.filter_append, List.filter_cons]
  by_cases hp : P x = true
  · rw [if_pos hp, if_pos hp, a_ins_app (l1.filter P) (l2.filter P) (fun y hy => h2 y ((List.mem_filter.mp hy).1)) (fun y hy => h3 y ((List.mem_filter.mp hy).1))]
  · rw [if_neg hp, if_neg hp]
/-- acts that never begin fall out -/
def a_P (D : a_F) (y : Nat) : Bool := !(decide (y % 128 < 12) && !decide (D 75 (y % 128) < D 76 (y % 128)))
theorem a_calB_srt (D : a_F) (k wo last : Int32) : ∀ n a c, c.Pairwise (· ≤ ·) → (a_calB D k wo last n a c).Pairwise (· ≤ ·)
  | 0, _, _, h => h
  | n + 1, a, c, h => by
    unfold a_calB
    refine a_calB_srt D k wo last n (a + 1) _ ?_
    split
    · exact a_ins_srt c h
    · exact h
theorem a_calF_srt (D : a_F) (k last : Int32) (way : Nat) : ∀ n f c, c.Pairwise (· ≤ ·) → (a_calF D k last way n f c).Pairwise (· ≤ ·)
  | 0, _, _, h => h
  | n + 1, f, c, h => by
    unfold a_calF
    refine a_calF_srt D k last way n (f + 1) _ ?_
    split
    · exact a_ins_srt c h
    · exact h
theorem a_calB_filter {na : Nat} {D : a_F} (hna : na ≤ 12) (k wo last : Int32) : ∀ n a c, a + n ≤ na → c.Pairwise (· ≤ ·) → (a_calB D k wo last n a c).filter (a_P D) = a_calA D k wo last n a (c.filter (a_P D))
  | 0, _, _, _, _ => rfl
  | n + 1, a, c, hn, h => by
    unfold a_calB a_calA
    rw [a_calB_filter hna k wo last n (a + 1) _ (by omega) (by split; exact a_ins_srt c h; exact h)]
    congr 1
    have hP : a_P D (a_ix (D 75 a) * 128 + a) = decide (D 75 a < D 76 a) := by
      unfold a_P
      rw [show (a_ix (D 75 a) * 128 + a) % 128 = a by omega]
      have : a < 12 := by omega
      simp [this]
    by_cases h1 : a_knA D k wo a = true ∧ ¬ last < D 75 a
    · rw [if_pos h1, a_ins_filter h, hP]
      by_cases h2 : D 75 a < D 76 a
      · rw [if_pos (decide_eq_true h2), if_pos ⟨h1.1, h2, h1.2⟩]
      · rw [if_neg (by simp [h2]), if_neg (fun q => h2 q.2.1)]
    · rw [if_neg h1, if_neg (fun q => h1 ⟨q.1, q.2.2⟩)]
theorem a_calF_filter {nf : Nat} {D : a_F} (hnf : nf ≤ 100) (k last : Int32) (way : Nat) : ∀ n f c, f + n ≤ nf → c.Pairwise (· ≤ ·) → (a_calF D k last way n f c).filter (a_P D) = a_calF D k last way n f (c.filter (a_P D))
  | 0, _, _, _, _ => rfl
  | n + 1, f, c, hn, h => by
    unfold a_calF
    rw [a_calF_filter hnf k last way n (f + 1) _ (by omega) (by split; exact a_ins_srt c h; exact h)]
    congr 1
    have hP : a_P D (a_ix (a_on D k way f) * 128 + (12 + f)) = true := by
      unfold a_P
      rw [show (a_ix (a_on D k way f) * 128 + (12 + f)) % 128 = 12 + f by omega]
      simp
    split
    · rw [a_ins_filter h, if_pos hP]
    · rfl
theorem a_foldl_filter {α : Type} {P : Nat → Bool} {g : α → Nat → α} : ∀ (l : List Nat) (s : α), (∀ y ∈ l, P y = false → ∀ s, g s y = s) → l.foldl g s = (l.filter P).foldl g s
  | [], _, _ => rfl
  | y :: r, s, h => by
    rw [List.filter_cons]
    cases hp : P y with
    | true =>
      rw [if_pos rfl, List.foldl_cons, List.foldl_cons]
      exact a_foldl_filter r _ (fun z hz => h z (List.mem_cons_of_mem _ hz))
    | false =>
      rw [if_neg (by decide), List.foldl_cons, h y List.mem_cons_self hp]
      exact a_foldl_filter r _ (fun z hz => h z (List.mem_cons_of_mem _ hz))
theorem a_frc_bt {D : a_F} {na : Nat} (hna : na ≤ 12) (day k wo : Int32) {a : Nat} (ha : a < na) : ∀ m, m ≤ na → bt (a_frc D day k wo na m).1 a = true → day < D 76 a
  | 0, _, h => by
    have : bt (0 : Int32) a = true := h
    rw [b_0] at this
    cases this
  | m + 1, hm, h => by
    unfold a_frc at h
    dsimp only at h
    split at h
    · rename_i hc
      have h2 : bt ((a_frc D day k wo na m).1 ||| (1 <<< (nI (na - (m + 1)) &&& 31))) a = true := h
      rw [b_set _ (by omega) (by omega)] at h2
      rw [Bool.or_eq_true] at h2
      rcases h2 with h2 | h2
      · exact a_frc_bt hna day k wo ha m (by omega) h2
      · rw [of_decide_eq_true h2]
        exact hc.2.2.1
    · exact a_frc_bt hna day k wo ha m (by omega) h
theorem a_calB_mem {na : Nat} {D : a_F} (hT : a_DT na D) (k wo last : Int32) {y : Nat} : ∀ n a c, a + n ≤ na → y ∈ a_calB D k wo last n a c → y ∈ c ∨ ∃ a' u, a' < na ∧ u ≤ 72999 ∧ D 75 a' = nI u ∧ y = u * 128 + a'
  | 0, a, c, _, h => Or.inl h
  | n + 1, a, c, hn, h => by
    unfold a_calB at h
    rcases a_calB_mem hT k wo last n (a + 1) _ (by omega) h with h | h
    · split at h
      · rcases a_ins_mem _ h with e | e
        · obtain ⟨u, v, hu, -, hu2, -⟩ := hT a (by omega)
          rw [hu2, show a_ix (nI u) = u from nI_clamp (by omega)] at e
          exact Or.inr ⟨a, u, by omega, hu, hu2, e⟩
        · exact Or.inl e
      · exact Or.inl h
    · exact Or.inr h
theorem a_calC_mem {nl nq np nf na : Nat} {D : a_F} (h : a_D nl nq np nf na D) (k wo last : Int32) (way : Nat) {y : Nat} (hy : y ∈ a_calC D k wo last way) : y < 128 * 73000 ∧ ((y % 128 < na ∧ D 75 (y % 128) = nI (y / 128)) ∨ 12 ≤ y % 128 ∧ y % 128 - 12 < nf) := by
  obtain ⟨hP, hA, hF, hT, h6, hf2⟩ := h
  have hn5 := hP.2.1
  unfold a_calC at hy
  rw [h6, hP.1.2.2, show a_ix (nI nf) = nf from nI_clamp (by omega), show a_ix (nI na) = na from nI_clamp (by omega)] at hy
  rcases a_calF_mem hF k last way nf 0 _ (by omega) hy with h | ⟨f, u, h1, h2, h3⟩
  · rcases a_calB_mem hT k wo last na 0 _ (by omega) h with h | ⟨a, u, h1, h2, h4, h3⟩
    · cases h
    · have e1 : y % 128 = a := by omega
      have e2 : y / 128 = u := by omega
      exact ⟨by omega, Or.inl (by rw [e1, e2]; exact ⟨h1, h4⟩)⟩
  · exact ⟨by omega, Or.inr ⟨by omega, by omega⟩⟩
/-- both calendars make the same world -/
theorem a_runC {nl nq np nf na : Nat} {D : a_F} (h : a_D nl nq np nf na D) (k wo last : Int32) (way : Nat) : (a_calC D k wo last way).foldl (a_event D k wo) (a_init D) = a_run D way last k wo := by
  have h0 := h
  obtain ⟨hP, hA, hF, hT, h6, hf2⟩ := h
  have hn5 := hP.2.1
  have e6 : a_ix (D 59 6) = nf := by rw [h6]; exact nI_clamp (by omega)
  have e32 : a_ix (D 59 32) = na := by rw [hP.1.2.2]; exact nI_clamp (by omega)
  have ef : (a_calC D k wo last way).filter (a_P D) = a_cal D k wo last way := by
    unfold a_calC a_cal
    rw [e6, e32, a_calF_filter hf2 k last way nf 0 _ (by omega) (a_calB_srt D k wo last na 0 [] List.Pairwise.nil), a_calB_filter hn5.2.2.2 k wo last na 0 [] (by omega) List.Pairwise.nil]
    rfl
  unfold a_run
  rw [← ef]
  refine a_foldl_filter _ _ (fun y hy hp s => ?_)
  obtain ⟨-, hm⟩ := a_calC_mem h0 k wo last way hy
  unfold a_P at hp
  have hp2 : y % 128 < 12 ∧ ¬ D 75 (y % 128) < D 76 (y % 128) := by
    cases h1 : decide (y % 128 < 12) <;> cases h2 : decide (D 75 (y % 128) < D 76 (y % 128)) <;> rw [h1, h2] at hp <;> first | (exact ⟨of_decide_eq_true h1, of_decide_eq_false h2⟩) | (exact absurd hp (by decide))
  rcases hm with ⟨h1, h2⟩ | h1
  · have hnb : ¬ bt (a_force D (nI (y / 128)) k wo) (y % 128) = true := fun q => by
      unfold a_force at q
      rw [e32] at q
      have := a_frc_bt hn5.2.2.2 _ k wo h1 na (Nat.le_refl _) q
      rw [← h2] at this
      exact hp2.2 this
    unfold a_event
    dsimp only
    rw [if_pos hp2.1]
    unfold a_act
    rw [if_neg hnb]
  · omega
section C15
variable {β : Bool} {xs : Nat → Int32} {L : Nat} {G : am_G} {J : Nat → Nat → Int64}
theorem c_cls_D : ∀ c i, c_dc c i = true → c_cls c i = false := fun c i h => by
  cases hh : c_cls c i with
  | false => rfl
  | true =>
    simp only [c_cls, Bool.or_eq_true, Bool.and_eq_true, Nat.beq_eq] at hh
    simp only [c_dc, Bool.or_eq_true, Bool.and_eq_true, Nat.beq_eq, Nat.ble_eq] at h
    omega
theorem c_put2 {d nl nq np nf na : Nat} (hR : q_RT G) {D I0 : a_F} (hD : c_D nl nq np nf na D I0) (hF : a_DF nl nq np nf D) (hDf : D 59 6 = nI nf) (hf2 : nf ≤ 100) (hna : na ≤ 12) {k : Int32} (hb : c_db D I0 (a_doubts D k)) (h6 : I0 34 6 = k) {way : Nat} (hw : way < 2 ^ 31) (last : Int32) {Q : am_O → am_H → Prop} :
    ∀ m f (I : a_F) (c : List Nat) (v4 : Value), am_nl v4 = true → f + m = nf → q_F c_cls I0 I → c_cal I c → c.Pairwise (· ≤ ·) → c.length ≤ na + f → (∀ y ∈ c, y < 128 * 73000) →
      (∀ I', q_F c_cls I0 I' → c_cal I' (a_calF D k last way m f c) → (a_calF D k last way m f c).length ≤ na + nf → Q (.inl none) (G, I', J)) →
      q_W β xs L (d + 2) 55 70 [.ref 38, .int (nI way), .int last, .int (nI f), v4] [] (G, I, J) Q
  | 0, f, I, c, v4, n4, hm, hf, hc, hs, hl, hB, hQ => by
    refine g_55_70 hR _ _ _ _ n4 ⟨fun _ => hQ I hf hc (by show c.length ≤ _; omega), fun z => ?_⟩
    rw [hf 7 8 rfl, hD.1.2.2.2.1, nI_ltI (by omega) (by omega)] at z
    omega
  | m + 1, f, I, c, v4, n4, hm, hf, hc, hs, hl, hB, hQ => by
    have D1 : c_D nl nq np nf na D I := hD.keep (fun c i hc => hf c i (c_cls_D c i hc))
    obtain ⟨d1, d2, d3, d4, d5, d6, -⟩ := D1.2.2.2.1 f (by omega)
    obtain ⟨e, he, he2⟩ := a_on_rng hF k way (f := f) (by omega)
    have ee : a_ix (a_on D k way f) = e := by rw [he2]; exact nI_clamp (by omega)
    have hb1 : c_db D I (a_doubts D k) := ⟨(hf 34 4 rfl).trans hb.1, (hf 34 5 rfl).trans hb.2.1, fun i x hx => by rw [hf 35 i rfl, hf 36 i rfl, hf 37 i rfl]; exact hb.2.2 i x hx⟩
    have hm' : ∀ x ∈ a_doubts D k, x < nf := fun x hx => (a_doubts_mem hDf (by omega) hx).1
    have next : ∀ (I1 : a_F) (c1 : List Nat) (i4 : Int32), a_calF D k last way (m + 1) f c = a_calF D k last way m (f + 1) c1 → q_F c_cls I0 I1 → c_cal I1 c1 → c1.Pairwise (· ≤ ·) → c1.length ≤ na + f + 1 → (∀ y ∈ c1, y < 128 * 73000) → q_W β xs L (d + 2) 55 126 [.ref 38, .int (nI way), .int last, .int (nI f), .int i4] [] (G, I1, J) Q := by
      intro I1 c1 i4 hE q1 q2 q3 q4 q5
      refine g_55_126 hR _ _ _ _ ?_
      rw [nI_1]
      exact c_put2 (d := d) hR hD hF hDf hf2 hna hb h6 hw last m (f + 1) I1 c1 _ rfl (by omega) q1 q2 q3 (by omega) q5 (fun I' z1 z2 z3 => hQ I' z1 (hE ▸ z2) (hE ▸ z3))
    have no : ¬ (a_knF D k f = true ∧ ¬ last < a_on D k way f) → a_calF D k last way (m + 1) f c = a_calF D k last way m (f + 1) c := fun h => by
      show a_calF D k last way m (f + 1) (if _ then _ else _) = _
      rw [if_neg h]
    refine g_55_70 hR _ _ _ _ n4 ⟨fun z => absurd (by rw [hf 7 8 rfl, hD.1.2.2.2.1]; exact (nI_ltI (by omega) (by omega)).mpr (by omega)) z, fun _ => ?_⟩
    refine q_useI (c_dayIn (β := β) (xs := xs) (L := L) (d := d) (J := J) hR D1 hF hf2 (a_doubts_len D k) hm' (a_doubts_inc D k) hb1 hw (f := f) (by omega)) (Nat.le_refl _) ⟨hR, ?_⟩
    show (last < a_on D k way f → _) ∧ (¬ last < a_on D k way f → _)
    refine ⟨fun z => next I c _ (no (fun h => h.2 z)) hf hc hs (by omega) hB, fun z => ?_⟩
    rw [hf 34 6 rfl, h6]
    refine q_useI (c_isKnown (β := β) (xs := xs) (L := L) (d := d + 1) hR (by omega) d5 d6 k) (Nat.le_refl _) ⟨hR, fun w => next I c _ (no (fun h => ?_)) hf hc hs (by omega) hB, fun w => ?_⟩
    · have := a_is_0.mp w
      rw [h.1] at this
      cases this
    · have hk : a_knF D k f = true := by
        cases hs : a_knF D k f with
        | true => rfl
        | false => exact absurd (a_is_0.mpr hs) w
      show q_W β xs L (d + 1) 7 0 [.ref 39, .int (nI f), .int (a_on D k way f)] [] (G, I, J) _
      rw [he2]
      refine q_useV (c_putFact (β := β) (xs := xs) (L := L) (d := d) (J := J) hR hc hs (by omega) hB (f := f) (u := e) (by omega) he) (Nat.le_refl _) (fun I' hI' => ?_)
      obtain ⟨q1, q2⟩ := hI'
      refine next I' _ _ ?_ (hf.tr q1) q2 (a_ins_srt _ hs) (by rw [a_ins_len]; omega) (fun y hy => ?_)
      · show a_calF D k last way m (f + 1) (if _ then _ else _) = _
        rw [if_pos ⟨hk, z⟩, ee]
      · rcases a_ins_mem _ hy with q | q
        · omega
        · exact hB y q
theorem c_put1 {d nl nq np nf na : Nat} (hR : q_RT G) {D I0 : a_F} (hD : c_D nl nq np nf na D I0) (hT : a_DT na D) (hna : na ≤ 12) {k wo : Int32} (hkn : ∀ a, a < na → bt (I0 38 18) a = a_knA D k wo a) (i1 last : Int32) {Q : am_O → am_H → Prop} :
    ∀ m a (I : a_F) (c : List Nat), a + m = na → q_F c_cls I0 I → c_cal I c → c.Pairwise (· ≤ ·) → c.length ≤ a → (∀ y ∈ c, y < 128 * 73000) →
      (∀ I', q_F c_cls I0 I' → c_cal I' (a_calB D k wo last m a c) → (a_calB D k wo last m a c).Pairwise (· ≤ ·) → (a_calB D k wo last m a c).length ≤ na → (∀ y ∈ a_calB D k wo last m a c, y < 128 * 73000) → q_W β xs L (d + 2) 55 70 [.ref 38, .int i1, .int last, .int 0, .retAddr 0] [] (G, I', J) Q) →
      q_W β xs L (d + 2) 55 9 [.ref 38, .int i1, .int last, .int (nI a), .retAddr 0] [] (G, I, J) Q
  | 0, a, I, c, ha, hf, hc, hs, hl, hB, hQ => by
    refine g_55_9 hR _ _ _ ⟨fun _ => hQ I hf hc hs (by show c.length ≤ na; omega) hB, fun z => ?_⟩
    rw [hf 16 15 rfl, hD.1.2.2.2.2, nI_ltI (by omega) (by omega)] at z
    omega
  | m + 1, a, I, c, ha, hf, hc, hs, hl, hB, hQ => by
    have ea : (nI a).toNatClampNeg = a := nI_clamp (by omega)
    have ja : am_is (nI a) 12 = true := am_is_nI (by omega) (by omega)
    have e18 : I 18 a = D 75 a := (hf 18 a rfl).trans (hD.2.2.2.2 a (by omega)).2.1
    obtain ⟨u, v, hu, hv, hu2, hv2⟩ := hT a (by omega)
    have eu : a_ix (D 75 a) = u := by rw [hu2]; exact nI_clamp (by omega)
    have next : ∀ (I1 : a_F) (c1 : List Nat), a_calB D k wo last (m + 1) a c = a_calB D k wo last m (a + 1) c1 → q_F c_cls I0 I1 → c_cal I1 c1 → c1.Pairwise (· ≤ ·) → c1.length ≤ a + 1 → (∀ y ∈ c1, y < 128 * 73000) → q_W β xs L (d + 2) 55 62 [.ref 38, .int i1, .int last, .int (nI a), .retAddr 0] [] (G, I1, J) Q := by
      intro I1 c1 he q1 q2 q3 q4 q5
      refine g_55_62 hR _ _ _ ?_
      rw [nI_1]
      exact c_put1 (d := d) hR hD hT hna hkn i1 last m (a + 1) I1 c1 (by omega) q1 q2 q3 q4 q5 (fun I' z1 z2 z3 z4 z5 => hQ I' z1 (he ▸ z2) (he ▸ z3) (he ▸ z4) (he ▸ z5))
    have no : ¬ (a_knA D k wo a = true ∧ ¬ last < D 75 a) → a_calB D k wo last (m + 1) a c = a_calB D k wo last m (a + 1) c := fun h => by
      show a_calB D k wo last m (a + 1) (if _ then _ else _) = _
      rw [if_neg h]
    refine g_55_9 hR _ _ _ ⟨fun z => absurd (by rw [hf 16 15 rfl, hD.1.2.2.2.2]; exact (nI_ltI (by omega) (by omega)).mpr (by omega)) z, fun _ => ?_⟩
    rw [hf 38 18 rfl, s_bit1 _ (by omega), hkn a (by omega), ea, e18]
    refine ⟨fun z => next I c (no (fun h => z h.1)) hf hc hs (by omega) hB, fun z => ⟨ja, fun y => next I c (no (fun h => h.2 y)) hf hc hs (by omega) hB, fun y => ⟨ja, ?_⟩⟩⟩
    rw [hu2]
    refine q_useV (c_putAct (β := β) (xs := xs) (L := L) (d := d) (J := J) hR hc hs (by omega) hB (a := a) (u := u) (by omega) hu) (Nat.le_refl _) (fun I' hI' => ?_)
    obtain ⟨q1, q2⟩ := hI'
    refine next I' _ ?_ (hf.tr q1) q2 (a_ins_srt _ hs) (by rw [a_ins_len]; omega) (fun y hy => ?_)
    · show a_calB D k wo last m (a + 1) (if _ then _ else _) = _
      rw [if_pos ⟨z, y⟩, eu]
    · rcases a_ins_mem _ hy with q | q
      · omega
      · exact hB y q
theorem c_putH {d nl nq np nf na : Nat} (hR : q_RT G) {D I : a_F} (hD : c_D nl nq np nf na D I) (hW : a_D nl nq np nf na D) {k wo : Int32} (hkn : ∀ a, a < na → bt (I 38 18) a = a_knA D k wo a) (hb : c_db D I (a_doubts D k)) (h6 : I 34 6 = k) {way : Nat} (hw : way < 2 ^ 31) (last : Int32) :
    q_W β xs L (d + 2) 55 0 [.ref 38, .int (nI way), .int last, .retAddr 0, .retAddr 0] [] (G, I, J) (fun o h => o = .inl none ∧ ∃ I', h = (G, I', J) ∧ q_F c_cls I I' ∧ c_cal I' (a_calC D k wo last way) ∧ (a_calC D k wo last way).length ≤ na + nf) := by
  obtain ⟨hP, hA, hF, hT, hDf, hf2⟩ := hW
  have hn5 := hP.2.1
  have h5 : q_W β xs L (d + 1) 5 0 [.ref 39] [] (G, I, J) (fun o h => o = .inl none ∧ ∃ I', h = (G, I', J) ∧ I' = am_u I 39 1 0) := g_5_0 hR ⟨rfl, _, rfl, rfl⟩
  refine g_55_0 hR _ _ ?_
  refine q_useV h5 (Nat.le_refl _) (fun I1 hI1 => ?_)
  subst hI1
  have f1 : q_F c_cls I (am_u I 39 1 0) := (q_F.rf _ I).up _ rfl
  refine c_put1 (d := d) hR (I0 := am_u I 39 1 0) (hD.keep (fun c i hc => f1 c i (c_cls_D c i hc))) hT hn5.2.2.2 (k := k) (wo := wo) hkn _ last na 0 _ [] (by omega) (q_F.rf _ _) ⟨am_u_same, fun i x h => by simp at h⟩ List.Pairwise.nil (Nat.le_refl _) (fun y hy => by cases hy) (fun I2 w1 w2 w3 w4 w5 => ?_)
  have f2 := f1.tr w1
  refine c_put2 (d := d) hR (I0 := I2) (hD.keep (fun c i hc => f2 c i (c_cls_D c i hc))) hF hDf hf2 hn5.2.2.2 ⟨(f2 34 4 rfl).trans hb.1, (f2 34 5 rfl).trans hb.2.1, fun i x hx => by rw [f2 35 i rfl, f2 36 i rfl, f2 37 i rfl]; exact hb.2.2 i x hx⟩ ((f2 34 6 rfl).trans h6) hw last nf 0 I2 _ _ rfl (by omega) (q_F.rf _ _) w2 w3 w4 w5 (fun I3 z1 z2 z3 => ?_)
  have e : a_calC D k wo last way = a_calF D k last way nf 0 (a_calB D k wo last na 0 []) := by
    unfold a_calC
    rw [hDf, hP.1.2.2, show a_ix (nI nf) = nf from nI_clamp (by omega), show a_ix (nI na) = na from nI_clamp (by omega)]
  rw [e]
  exact ⟨rfl, I3, rfl, f2.tr z1, z2, z3⟩
end C15

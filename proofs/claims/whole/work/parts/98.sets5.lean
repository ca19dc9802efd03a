/-! ===== settled by a set, in the reference ===== -/
/-- the first n days are alike on the set -/
def d_al (cs : List Nat) (set v w : Nat) : Nat → Bool
  | 0 => true
  | n + 1 => d_al cs set v w n && (!decide (set / 2 ^ n % 2 = 1) || decide (d_pk cs v n = d_pk cs w n))
theorem d_al_iff (cs : List Nat) (set v w : Nat) : ∀ n, d_al cs set v w n = true ↔ ∀ i, i < n → set / 2 ^ i % 2 = 1 → d_pk cs v i = d_pk cs w i
  | 0 => ⟨fun _ i hi => absurd hi (Nat.not_lt_zero i), fun _ => rfl⟩
  | n + 1 => by
    unfold d_al
    rw [Bool.and_eq_true, d_al_iff cs set v w n]
    constructor
    · intro h i hi hb
      by_cases e : i = n
      · subst e
        have h2 := h.2
        rw [decide_eq_true hb] at h2
        exact of_decide_eq_true h2
      · exact h.1 i (by omega) hb
    · intro h
      refine ⟨fun i hi => h i (by omega), ?_⟩
      by_cases hb : set / 2 ^ n % 2 = 1
      · rw [decide_eq_true (h n (by omega) hb), Bool.or_true]
      · rw [decide_eq_false hb]; rfl
section Sets5
variable {β : Bool} {xs : Nat → Int32} {L : Nat} {G : am_G} {I : a_F} {J : Nat → Nat → Int64}
theorem p_stI {d nl nq np nf na set v w p l day k : Nat} (hR : q_RT G) {D : a_F} (hD : r_D nl nq np nf na D I) (hF : a_DF nl nq np nf D) (hf2 : nf ≤ 100) {dl : List Nat} (hl : dl.length ≤ 3) (hm : ∀ x ∈ dl, x < nf) (hb : r_dbl D I dl) (hs : set < 8) (h27 : a_ways D dl ≤ 27) (hp : p < 20) (hl5 : l < 5) (ht : r_wt D I day k (a_ways D dl)) (hv : v < a_ways D dl) (hw : w < v) {Q : am_O → am_H → Prop}
    (hN : (d_al (a_cs D dl) set v w dl.length = true → d_b D day k p l v = d_b D day k p l w) → ∀ y z : Int32, q_W β xs L (d + 1) 175 125 [.ref 59, .int (nI set), .int (nI p), .int (nI l), .int (nI v), .int (nI w), .int y, .int z] [] (G, I, J) Q)
    (h0 : d_al (a_cs D dl) set v w dl.length = true → ¬ d_b D day k p l v = d_b D day k p l w → Q (.inl (some (.int 0))) (G, I, J)) : ∀ m i, i + m = dl.length →
    q_W β xs L (d + 1) 175 28 [.ref 59, .int (nI set), .int (nI p), .int (nI l), .int (nI v), .int (nI w), .int (a_is (d_al (a_cs D dl) set v w i)), .int (nI i)] [] (G, I, J) Q
  | 0, i, hi => by
    have e : i = dl.length := by omega
    have e20 : ∀ y, (20 * nI y + nI p : Int32) = nI (20 * y + p) := fun y => by rw [show (20 : Int32) = nI 20 from rfl, pk_mul, nI_add]
    refine g_175_28 hR _ _ _ _ _ _ _ ⟨fun _ => ⟨fun z => ?_, fun z => ?_⟩, fun z => ?_⟩
    · have z1 := a_is_0.mp z
      refine hN (fun q => ?_) _ _
      rw [e, q] at z1
      cases z1
    · have z1 : d_al (a_cs D dl) set v w dl.length = true := by
        rw [← e]
        cases h : d_al (a_cs D dl) set v w i with
        | true => rfl
        | false => exact absurd (a_is_0.mpr h) z
      have ev : I 115 (20 * v + p) = a_run D v (nI day) (nI k) (-1) 0 p := ht v hv p hp
      have ew : I 115 (20 * w + p) = a_run D w (nI day) (nI k) (-1) 0 p := ht w (by omega) p hp
      rw [e20, e20, show (nI (20 * v + p)).toNatClampNeg = 20 * v + p from nI_clamp (by omega), show (nI (20 * w + p)).toNatClampNeg = 20 * w + p from nI_clamp (by omega), ev, ew, s_bit _ (by omega), s_bit _ (by omega)]
      refine ⟨am_is_nI (by omega) (by omega), am_is_nI (by omega) (by omega), fun q => hN (fun _ => ?_) _ _, fun q => ⟨Or.inl rfl, h0 z1 (fun h => q ?_)⟩⟩
      · unfold d_b
        cases h1 : bt (a_run D v (nI day) (nI k) (-1) 0 p) l <;> cases h2 : bt (a_run D w (nI day) (nI k) (-1) 0 p) l <;> first | rfl | (rw [h1, h2] at q; exact absurd q (by decide))
      · unfold d_b at h
        rw [h]
    · rw [hb.1, nI_ltI (by omega) (by omega)] at z
      omega
  | m + 1, i, hi => by
    have hil : i < dl.length := by omega
    have ih := p_stI (d := d) hR hD hF hf2 hl hm hb hs h27 hp hl5 ht hv hw hN h0 m (i + 1) (by omega)
    have at75 : ∀ b : Bool, b = d_al (a_cs D dl) set v w (i + 1) → q_W β xs L (d + 1) 175 75 [.ref 59, .int (nI set), .int (nI p), .int (nI l), .int (nI v), .int (nI w), .int (a_is (d_al (a_cs D dl) set v w i)), .int (nI i)] [.int (a_is b)] (G, I, J) Q := fun b hb2 => by
      refine g_175_75 hR _ _ _ _ _ _ _ _ ?_
      rw [nI_1, hb2]
      exact ih
    have es : d_al (a_cs D dl) set v w (i + 1) = (d_al (a_cs D dl) set v w i && (!decide (set / 2 ^ i % 2 = 1) || decide (d_pk (a_cs D dl) v i = d_pk (a_cs D dl) w i))) := rfl
    refine g_175_28 hR _ _ _ _ _ _ _ ⟨fun z => absurd (by rw [hb.1]; exact (nI_ltI (by omega) (by omega)).mpr hil) z, fun _ => ⟨fun z => g_175_74 hR _ _ _ _ _ _ _ (at75 false ?_), fun z => ?_⟩⟩
    · rw [es, a_is_0.mp z]; rfl
    · have z1 : d_al (a_cs D dl) set v w i = true := by
        cases h : d_al (a_cs D dl) set v w i with
        | true => rfl
        | false => exact absurd (a_is_0.mpr h) z
      rw [z1] at es
      rw [s_bit0 _ (by omega), b_nI (by omega)]
      refine ⟨fun q => g_175_70 hR _ _ _ _ _ _ _ (at75 true ?_), fun q => ?_⟩
      · rw [es, q]; rfl
      · have q1 : decide (set / 2 ^ i % 2 = 1) = true := by
          cases h : decide (set / 2 ^ i % 2 = 1) with
          | true => rfl
          | false => exact absurd h q
        rw [q1] at es
        refine q_useI (r_dayIn (β := β) (xs := xs) (L := L) (d := d) (J := J) hR hD hF hf2 hl hm hb (way := v) (by omega) hil) (Nat.le_refl _) ?_
        refine q_useI (r_dayIn (β := β) (xs := xs) (L := L) (d := d) (J := J) hR hD hF hf2 hl hm hb (way := w) (by omega) hil) (Nat.le_refl _) ?_
        have ev : a_pk D dl v i = d_pk (a_cs D dl) v i := (a_cs_pk D hil).symm
        have ew : a_pk D dl w i = d_pk (a_cs D dl) w i := (a_cs_pk D hil).symm
        have b1 : ∀ x, a_pk D dl x i ≤ x := fun x => Nat.le_trans (Nat.mod_le _ _) (Nat.div_le_self _ _)
        have b2 := b1 v
        have b3 := b1 w
        have eq : nI (a_pk D dl v i) = nI (a_pk D dl w i) ↔ d_pk (a_cs D dl) v i = d_pk (a_cs D dl) w i := by
          rw [← ev, ← ew]
          exact ⟨fun h => nI_inj2 (by omega) (by omega) h, fun h => by rw [h]⟩
        rw [eq]
        refine ⟨fun y => g_175_74 hR _ _ _ _ _ _ _ (at75 false ?_), fun y => g_175_70 hR _ _ _ _ _ _ _ (at75 true ?_)⟩
        · rw [es, decide_eq_false y]; rfl
        · rw [es, decide_eq_true y]; rfl
theorem p_stW {d nl nq np nf na set v p l day k : Nat} (hR : q_RT G) {D : a_F} (hD : r_D nl nq np nf na D I) (hF : a_DF nl nq np nf D) (hf2 : nf ≤ 100) {dl : List Nat} (hl : dl.length ≤ 3) (hm : ∀ x ∈ dl, x < nf) (hb : r_dbl D I dl) (hs : set < 8) (h27 : a_ways D dl ≤ 27) (hp : p < 20) (hl5 : l < 5) (ht : r_wt D I day k (a_ways D dl)) (hv : v < a_ways D dl) {Q : am_O → am_H → Prop}
    (hN : (∀ w, w < v → d_al (a_cs D dl) set v w dl.length = true → d_b D day k p l v = d_b D day k p l w) → ∀ v5 v6 v7 : Value, am_nl v5 = true → am_nl v6 = true → am_nl v7 = true → q_W β xs L (d + 1) 175 3 [.ref 59, .int (nI set), .int (nI p), .int (nI l), .int (nI (v + 1)), v5, v6, v7] [] (G, I, J) Q)
    (h0 : ∀ w, w < v → d_al (a_cs D dl) set v w dl.length = true → ¬ d_b D day k p l v = d_b D day k p l w → Q (.inl (some (.int 0))) (G, I, J)) : ∀ m w (v6 v7 : Value), am_nl v6 = true → am_nl v7 = true → w + m = v → (∀ w', w' < w → d_al (a_cs D dl) set v w' dl.length = true → d_b D day k p l v = d_b D day k p l w') →
    q_W β xs L (d + 1) 175 15 [.ref 59, .int (nI set), .int (nI p), .int (nI l), .int (nI v), .int (nI w), v6, v7] [] (G, I, J) Q
  | 0, w, v6, v7, n6, n7, hw, hd => by
    have e : w = v := by omega
    subst e
    refine g_175_15 hR _ _ _ _ _ _ _ n6 n7 ⟨fun _ => ?_, fun z => absurd ((nI_ltI (by omega) (by omega)).mp z) (Nat.lt_irrefl _)⟩
    rw [nI_1]
    exact hN hd _ _ _ rfl n6 n7
  | m + 1, w, v6, v7, n6, n7, hw, hd => by
    refine g_175_15 hR _ _ _ _ _ _ _ n6 n7 ⟨fun z => absurd ((nI_ltI (by omega) (by omega)).mpr (by omega)) z, fun _ => ?_⟩
    refine p_stI (d := d) (v := v) (w := w) hR hD hF hf2 hl hm hb hs h27 hp hl5 ht hv (by omega) (fun h y z => g_175_125 hR _ _ _ _ _ _ _ ?_) (fun h1 h2 => h0 w (by omega) h1 h2) dl.length 0 (Nat.zero_add _)
    rw [nI_1]
    refine p_stW hR hD hF hf2 hl hm hb hs h27 hp hl5 ht hv hN h0 m (w + 1) _ _ rfl rfl (by omega) (fun w' hw' => ?_)
    by_cases e : w' = w
    · subst e; exact h
    · exact hd w' (by omega)
theorem p_stV {d nl nq np nf na set p l day k : Nat} (hR : q_RT G) {D : a_F} (hD : r_D nl nq np nf na D I) (hF : a_DF nl nq np nf D) (hf2 : nf ≤ 100) {dl : List Nat} (hl : dl.length ≤ 3) (hm : ∀ x ∈ dl, x < nf) (hb : r_dbl D I dl) (hs : set < 8) (h27 : a_ways D dl ≤ 27) (hp : p < 20) (hl5 : l < 5) (ht : r_wt D I day k (a_ways D dl)) {Q : am_O → am_H → Prop}
    (h1 : (∀ v, v < a_ways D dl → ∀ w, w < v → d_al (a_cs D dl) set v w dl.length = true → d_b D day k p l v = d_b D day k p l w) → Q (.inl (some (.int 1))) (G, I, J))
    (h0 : ∀ v, v < a_ways D dl → ∀ w, w < v → d_al (a_cs D dl) set v w dl.length = true → ¬ d_b D day k p l v = d_b D day k p l w → Q (.inl (some (.int 0))) (G, I, J)) : ∀ m v (v5 v6 v7 : Value), am_nl v5 = true → am_nl v6 = true → am_nl v7 = true → v + m = a_ways D dl → (∀ v', v' < v → ∀ w, w < v' → d_al (a_cs D dl) set v' w dl.length = true → d_b D day k p l v' = d_b D day k p l w) →
    q_W β xs L (d + 1) 175 3 [.ref 59, .int (nI set), .int (nI p), .int (nI l), .int (nI v), v5, v6, v7] [] (G, I, J) Q
  | 0, v, v5, v6, v7, n5, n6, n7, hv, hd => by
    have e : v = a_ways D dl := by omega
    refine g_175_3 hR _ _ _ _ _ _ _ n5 n6 n7 ⟨fun _ => ⟨Or.inr rfl, h1 (fun v' hv' => hd v' (by omega))⟩, fun z => ?_⟩
    rw [hb.2.1, nI_ltI (by omega) (by omega)] at z
    omega
  | m + 1, v, v5, v6, v7, n5, n6, n7, hv, hd => by
    refine g_175_3 hR _ _ _ _ _ _ _ n5 n6 n7 ⟨fun z => absurd (by rw [hb.2.1]; exact (nI_ltI (by omega) (by omega)).mpr (by omega)) z, fun _ => ?_⟩
    refine p_stW (d := d) (v := v) hR hD hF hf2 hl hm hb hs h27 hp hl5 ht (by omega) (fun h w5 w6 w7 m5 m6 m7 => ?_) (fun w hw a b => h0 v (by omega) w hw a b) v 0 _ _ n6 n7 (Nat.zero_add _) (fun w hw => absurd hw (Nat.not_lt_zero w))
    refine p_stV hR hD hF hf2 hl hm hb hs h27 hp hl5 ht h1 h0 m (v + 1) _ _ _ m5 m6 m7 (by omega) (fun v' hv' => ?_)
    by_cases e : v' = v
    · subst e; exact h
    · exact hd v' (by omega)
theorem p_st {d nl nq np nf na set p l day k : Nat} (hR : q_RT G) {D : a_F} (hD : r_D nl nq np nf na D I) (hF : a_DF nl nq np nf D) (hf2 : nf ≤ 100) {dl : List Nat} (hl : dl.length ≤ 3) (hm : ∀ x ∈ dl, x < nf) (hb : r_dbl D I dl) (hs : set < 8) (hcs : a_cs D dl ∈ d_all) (h27 : a_ways D dl ≤ 27) (hp : p < 20) (hl5 : l < 5) (ht : r_wt D I day k (a_ways D dl)) :
    q_W β xs L (d + 1) 175 0 [.ref 59, .int (nI set), .int (nI p), .int (nI l), .retAddr 0, .retAddr 0, .retAddr 0, .retAddr 0] [] (G, I, J) (fun o h => o = .inl (some (.int (a_is (d_Sb (a_cs D dl) (d_b D day k p l) set (a_ways D dl))))) ∧ h = (G, I, J)) := by
  have key : d_Sb (a_cs D dl) (d_b D day k p l) set (a_ways D dl) = true ↔ ∀ v, v < a_ways D dl → ∀ w, w < v → d_al (a_cs D dl) set v w dl.length = true → d_b D day k p l v = d_b D day k p l w := by
    rw [d_Sb_iff, ← a_cs_w]
    refine (d_SR hcs (d_b D day k p l) hs).trans ⟨fun h v hv w hw ha => ?_, fun h v w hv hw ha => ?_⟩
    · refine h v w hv hw (fun i hi => ?_)
      rw [a_cs_len] at hi
      exact (d_al_iff _ set v w dl.length).mp ha i hi
    · refine h v hv w hw ((d_al_iff _ set v w dl.length).mpr (fun i hi => ?_))
      rw [← a_cs_len D] at hi
      exact ha i hi
  refine g_175_0 hR _ _ _ (p_stV (d := d) hR hD hF hf2 hl hm hb hs h27 hp hl5 ht (fun h => ?_) (fun v hv w hw ha hn => ?_) _ 0 _ _ _ rfl rfl rfl (Nat.zero_add _) (fun v hv => absurd hv (Nat.not_lt_zero v)))
  · rw [key.mpr h]
    exact ⟨rfl, rfl⟩
  · cases h : d_Sb (a_cs D dl) (d_b D day k p l) set (a_ways D dl) with
    | false => exact ⟨rfl, rfl⟩
    | true => exact absurd (key.mp h v hv w hw ha) hn
/-- how many are in a set -/
theorem p_many {d set : Nat} (hR : q_RT G) (hs : set < 8) : q_W β xs L d 176 0 [.int (nI set), .retAddr 0, .retAddr 0] [] (G, I, J) (fun o h => o = .inl (some (.int (nI (d_many set)))) ∧ h = (G, I, J)) := by
  have bs : ∀ i n : Nat, i < 5 → nI n + ((nI set >>> (nI i &&& 31)) &&& 1) = nI (n + set / 2 ^ i % 2) := fun i n hi => by
    rw [s_bit _ (by omega), b_nI (by omega)]
    have h2 : set / 2 ^ i % 2 = 0 ∨ set / 2 ^ i % 2 = 1 := by omega
    rcases h2 with h2 | h2
    · rw [h2, if_neg (by decide), Int32.add_zero, Nat.add_zero]
    · rw [h2, if_pos (by decide), nI_1]
  have go : ∀ i n : Nat, i < 5 → q_W β xs L d 176 4 [.int (nI set), .int (nI (n + set / 2 ^ i % 2)), .int (nI (i + 1))] [] (G, I, J) (fun o h => o = .inl (some (.int (nI (d_many set)))) ∧ h = (G, I, J)) → q_W β xs L d 176 4 [.int (nI set), .int (nI n), .int (nI i)] [] (G, I, J) (fun o h => o = .inl (some (.int (nI (d_many set)))) ∧ h = (G, I, J)) := fun i n hi h => by
    refine g_176_4 hR _ _ _ ⟨fun z => absurd ((nI_ltI (b := 5) (by omega) (by omega)).mpr hi) z, fun _ => ?_⟩
    rw [bs i n hi, nI_1]
    exact h
  refine g_176_0 hR _ (go 0 0 (by decide) (go 1 _ (by decide) (go 2 _ (by decide) (go 3 _ (by decide) (go 4 _ (by decide) (g_176_4 hR _ _ _ ⟨fun _ => ⟨?_, rfl⟩, fun z => absurd z (by decide)⟩))))))
  have e : 0 + set / 2 ^ 0 % 2 + set / 2 ^ 1 % 2 + set / 2 ^ 2 % 2 + set / 2 ^ 3 % 2 + set / 2 ^ 4 % 2 = d_many set := by
    unfold d_many
    have h3 : set / 2 ^ 3 = 0 := Nat.div_eq_of_lt (by omega)
    have h4 : set / 2 ^ 4 = 0 := Nat.div_eq_of_lt (by omega)
    rw [h3, h4]
    simp
  rw [e]
/-- the best so far -/
def d_i (b : Nat) : Int32 := if b = 8 then -1 else nI b
theorem p_setL {d nl nq np nf na p l day k : Nat} (hR : q_RT G) {D : a_F} {x3 x4 : Int32} (hD : r_D nl nq np nf na D I) (hF : a_DF nl nq np nf D) (hf2 : nf ≤ 100) (hl : (a_doubts D (nI k)).length ≤ 3) (hm : ∀ x ∈ a_doubts D (nI k), x < nf) (hb : r_dbl D I (a_doubts D (nI k))) (hcs : a_cs D (a_doubts D (nI k)) ∈ d_all) (h27 : a_ways D (a_doubts D (nI k)) ≤ 27) (hp : p < 20) (hl5 : l < 5) (ht : r_wt D I day k (a_ways D (a_doubts D (nI k)))) {Q : am_O → am_H → Prop} :
    ∀ m set b (v7 v8 : Value), am_nl v7 = true → am_nl v8 = true → set + m = 2 ^ (a_doubts D (nI k)).length → b ≤ 8 → Q (.inl (some (.int (d_i (d_loop (d_set D day k p l) m set b))))) (G, I, J) →
    q_W β xs L (d + 2) 177 27 [.ref 59, .int (nI p), .int (nI l), .int x3, .int x4, .int (d_i b), .int (nI set), v7, v8] [] (G, I, J) Q
  | 0, set, b, v7, v8, n7, n8, hs, hb8, hQ => by
    have h8 := d_pw3 hl
    have e1 : (1 : Int32) <<< (nI (a_doubts D (nI k)).length &&& 31) = nI (2 ^ (a_doubts D (nI k)).length) := by
      generalize (a_doubts D (nI k)).length = n at hl
      rcases (show n = 0 ∨ n = 1 ∨ n = 2 ∨ n = 3 by omega) with e | e | e | e <;> subst e <;> decide
    refine g_177_27 hR _ _ _ _ _ _ _ _ n7 n8 ⟨fun _ => hQ, fun z => ?_⟩
    rw [hb.1, e1, nI_ltI (by omega) (by omega)] at z
    omega
  | m + 1, set, b, v7, v8, n7, n8, hs, hb8, hQ => by
    have h8 := d_pw3 hl
    have e1 : (1 : Int32) <<< (nI (a_doubts D (nI k)).length &&& 31) = nI (2 ^ (a_doubts D (nI k)).length) := by
      generalize (a_doubts D (nI k)).length = n at hl
      rcases (show n = 0 ∨ n = 1 ∨ n = 2 ∨ n = 3 by omega) with e | e | e | e <;> subst e <;> decide
    have hs8 : set < 8 := by omega
    have M := p_many (β := β) (xs := xs) (L := L) (I := I) (J := J) (d := d + 1) hR hs8
    have lm : ∀ x, d_many x ≤ 3 := fun x => by unfold d_many; omega
    have hQ' : ∀ b', b' = d_step (d_set D day k p l) b set → b' ≤ 8 → ∀ w7 w8 : Value, am_nl w7 = true → am_nl w8 = true → q_W β xs L (d + 2) 177 125 [.ref 59, .int (nI p), .int (nI l), .int x3, .int x4, .int (d_i b'), .int (nI set), w7, w8] [] (G, I, J) Q := fun b' hb' hb9 w7 w8 m7 m8 => by
      refine g_177_125 hR _ _ _ _ _ _ _ _ m7 m8 ?_
      rw [nI_1]
      refine p_setL hR hD hF hf2 hl hm hb hcs h27 hp hl5 ht m (set + 1) b' _ _ m7 m8 (by omega) hb9 ?_
      rw [hb']
      exact hQ
    have at103 : ∀ (ah : Bool) (i7 : Int32) (w8 : Value), am_nl w8 = true → d_step (d_set D day k p l) b set = (if ah = true ∧ d_set D day k p l set = true then set else b) → q_W β xs L (d + 2) 177 103 [.ref 59, .int (nI p), .int (nI l), .int x3, .int x4, .int (d_i b), .int (nI set), .int i7, w8] [.int (a_is ah)] (G, I, J) Q := fun ah i7 w8 m8 h => by
      refine g_177_103 hR _ _ _ _ _ _ _ _ _ m8 ⟨fun z => ?_, fun z => ?_⟩
      · have z1 := a_is_0.mp z
        refine hQ' b ?_ hb8 _ _ rfl rfl
        rw [h, z1, if_neg (fun q => Bool.noConfusion q.1)]
      · have z1 : ah = true := by cases ah; exact absurd rfl z; rfl
        refine q_useI (p_st (β := β) (xs := xs) (L := L) (d := d) hR hD hF hf2 hl hm hb hs8 hcs h27 hp hl5 ht) (Nat.le_refl _) ⟨fun y => ?_, fun y => ?_⟩
        · have y1 : d_set D day k p l set = false := a_is_0.mp y
          refine hQ' b ?_ hb8 _ _ rfl rfl
          rw [h, y1, if_neg (fun q => Bool.noConfusion q.2)]
        · have y1 : d_set D day k p l set = true := by
            cases hh : d_set D day k p l set with
            | true => rfl
            | false => exact absurd (a_is_0.mpr hh) y
          have := hQ' set (by rw [h, if_pos ⟨z1, y1⟩]) (by omega) (.int i7) (.int (a_is ah)) rfl rfl
          have e : d_i set = nI set := if_neg (by omega)
          rw [e] at this
          exact this
    have at98 : ∀ (i7 : Int32) (w8 : Value), am_nl w8 = true → d_step (d_set D day k p l) b set = (if true = true ∧ d_set D day k p l set = true then set else b) → q_W β xs L (d + 2) 177 98 [.ref 59, .int (nI p), .int (nI l), .int x3, .int x4, .int (d_i b), .int (nI set), .int i7, w8] [] (G, I, J) Q := fun i7 w8 m8 h => g_177_98 hR _ _ _ _ _ _ _ _ m8 (at103 true i7 w8 m8 h)
    refine g_177_27 hR _ _ _ _ _ _ _ _ n7 n8 ⟨fun z => absurd (by rw [hb.1, e1]; exact (nI_ltI (by omega) (by omega)).mpr (by omega)) z, fun _ => ?_⟩
    by_cases hbe : b = 8
    · have ei : d_i b = -1 := if_pos hbe
      refine ⟨fun _ => g_177_60 hR _ _ _ _ _ _ _ _ n7 n8 ⟨fun _ => at98 _ _ n8 ?_, fun z => absurd ei z⟩, fun z => absurd ei z⟩
      unfold d_step
      rw [if_pos hbe]
      by_cases hS : d_set D day k p l set = true
      · rw [if_pos hS, if_pos ⟨rfl, hS⟩]
      · rw [if_neg hS, if_neg (fun q => hS q.2), hbe]
    · have ei : d_i b = nI b := if_neg hbe
      have hbl : b < 8 := by omega
      have hne : ¬ d_i b = -1 := by rw [ei]; exact nI_m1 (by omega)
      have MB := p_many (β := β) (xs := xs) (L := L) (I := I) (J := J) (d := d + 1) hR hbl
      have l1 := lm set
      have l2 := lm b
      have c1 : nI (d_many b) < nI (d_many set) ↔ d_many b < d_many set := nI_ltI (by omega) (by omega)
      have c2 : nI (d_many set) < nI (d_many b) ↔ d_many set < d_many b := nI_ltI (by omega) (by omega)
      have eS : d_step (d_set D day k p l) b set = if d_many b < d_many set then b else if (d_many set < d_many b ∨ d_low set b = true) ∧ d_set D day k p l set = true then set else b := by
        unfold d_step
        rw [if_neg hbe]
      refine ⟨fun z => absurd z hne, fun _ => ?_⟩
      refine q_useI M (Nat.le_refl _) ?_
      rw [ei]
      refine q_useI MB (Nat.le_refl _) ?_
      rw [c1, ← ei]
      refine ⟨fun z => ?_, fun z => hQ' b (by rw [eS, if_pos z]) hb8 _ _ n7 n8⟩
      rw [if_neg z] at eS
      refine g_177_60 hR _ _ _ _ _ _ _ _ n7 n8 ⟨fun y => absurd y hne, fun _ => ?_⟩
      refine q_useI M (Nat.le_refl _) ?_
      rw [ei]
      refine q_useI MB (Nat.le_refl _) ?_
      rw [c2, ← ei]
      refine ⟨fun y => at98 _ _ n8 ?_, fun y => ⟨fun x => ?_, fun x => at98 _ _ n8 ?_⟩⟩
      · rw [eS]
        by_cases hS : d_set D day k p l set = true
        · rw [if_pos ⟨Or.inl y, hS⟩, if_pos ⟨rfl, hS⟩]
        · rw [if_neg (fun q => hS q.2), if_neg (fun q => hS q.2)]
      · rw [ei] at x
        have lo : d_low set b = false := by unfold d_low; rw [decide_eq_true x]; rfl
        refine at103 false _ _ n8 ?_
        rw [eS, lo, if_neg (fun q => by rcases q.1 with a | a; exact y a; exact Bool.noConfusion a), if_neg (fun q => Bool.noConfusion q.1)]
      · rw [ei] at x
        have lo : d_low set b = true := by unfold d_low; rw [decide_eq_false x]; rfl
        rw [eS]
        by_cases hS : d_set D day k p l set = true
        · rw [if_pos ⟨Or.inr lo, hS⟩, if_pos ⟨rfl, hS⟩]
        · rw [if_neg (fun q => hS q.2), if_neg (fun q => hS q.2)]
theorem d_first_lt {S : Nat → Bool} : ∀ l : List Nat, (∀ x ∈ l, x < 8) → d_first S l < 8
  | [], _ => (by decide : 0 < 8)
  | x :: r, h => by
    unfold d_first
    split
    · exact h x (by simp)
    · exact d_first_lt r (fun y hy => h y (by simp [hy]))
theorem p_settles {d v : Nat} {w : w_T} (hr : r_I v w I J) (hw : w_O w) (hR : q_RT G) (hv : v < 2 ^ 31) (x1 x2 x3 x4 : Int32) : q_W β xs L (d + 10) 177 0 [.ref 59, .int x1, .int x2, .int x3, .int x4, .retAddr 0, .retAddr 0, .retAddr 0, .retAddr 0] [] (G, I, J) (p_P w v G I J (o_set x1 x2 x3 x4 w).1 (o_set x1 x2 x3 x4 w).2) := by
  obtain ⟨⟨nl, nq, np, nf, na, tn, tp⟩, tb, fp, D⟩ := w
  have hr0 : r_I v ((nl, nq, np, nf, na, tn, tp), tb, fp, D) (am_u I 59 0 0) J := hr.c0 0
  obtain ⟨hD, h2, -⟩ := hr
  have hn5 := hw.1.1.2.1
  have hl5 : nl ≤ 5 := hn5.1
  have hp20 : np ≤ 20 := hn5.2.2.1
  have ht : tn ≤ 999 := hw.2.2.1
  have hF : a_DF nl nq np nf D := hw.1.2.2.1
  have hDf : D 59 6 = nI nf := hw.1.2.2.2.2.1
  have hf2 : nf ≤ 100 := hw.1.2.2.2.2.2
  have f0 : f_r I (am_u I 59 0 0) := (f_r.rf I).up _ _ (by decide)
  refine g_177_0 hR _ _ _ _ ?_
  refine p_bond (d := d + 7) (nl := nl) (np := np) (tn := tn) hR hD.1.2.2.1 hD.1.1 h2.1 x1 x2 x3 x4 (fun ok => ⟨fun _ => ?_, fun q => absurd q (by decide)⟩) (fun t ht0 hto => ⟨fun q => absurd rfl q, fun _ => ?_⟩)
  · obtain ⟨p, l, day, k, hp, hl, hd, hk, rfl, rfl, rfl, rfl⟩ := a_bond_of hp20 hl5 ht ok
    have ev : o_set (nI p) (nI l) (nI day) (nI k) ((nl, nq, np, nf, na, tn, tp), tb, fp, D) = (0, nI (d_first (d_set D day k p l) (d_lst (a_doubts D (nI k)).length))) := by
      show (a_bt _ _, nI (d_first (d_set D (a_ix (nI day)) (a_ix (nI k)) (a_ix (nI p)) (a_ix (nI l))) (d_lst (a_doubts D (nI (a_ix (nI k)))).length))) = _
      rw [ok, show a_ix (nI day) = day from nI_clamp (by omega), show a_ix (nI k) = k from nI_clamp (by omega), show a_ix (nI p) = p from nI_clamp (by omega), show a_ix (nI l) = l from nI_clamp (by omega)]
    rw [ev]
    have h27 : a_ways D (a_doubts D (nI k)) ≤ 27 := (a_dbl27 hF hDf hf2 (nI k)).2
    refine q_useRv (p_finds (β := β) (xs := xs) (L := L) (d := d) hr0 hw hR hv hd (k := k) (by omega)) (by omega) (fun o h' P => ?_)
    obtain ⟨rfl, I1, rfl, f1, z1, C1, b1, t1⟩ := P
    have h7 := d_set_7 hF hDf hf2 day k p l
    have hmod := d_set_mod hF hDf hf2 day k p l
    have hl3 := a_doubts_len D (nI k)
    refine p_setL (d := d + 8) (nl := nl) (nq := nq) (np := np) (nf := nf) (na := na) (day := day) (k := k) hR C1.1 hF hf2 hl3 (fun x hx => (a_doubts_mem hDf (by omega) hx).1) b1 (a_cs_all hF hDf hf2 _) h27 (p := p) (l := l) (by omega) (by omega) t1 (2 ^ (a_doubts D (nI k)).length) 0 8 _ _ rfl rfl (Nat.zero_add _) (Nat.le_refl _) ?_
    have e := d_ref hl3 hmod h7
    have e2 : d_first (d_set D day k p l) (d_lst (a_doubts D (nI k)).length) < 8 := d_first_lt _ (d_lst8 _ hl3)
    rw [e, show d_i (d_first (d_set D day k p l) (d_lst (a_doubts D (nI k)).length)) = nI _ from if_neg (by omega)]
    exact p_good (f0.tr f1) C1 (z1.trans am_u_same) _
  · have ev : (o_set x1 x2 x3 x4 ((nl, nq, np, nf, na, tn, tp), tb, fp, D)).1 = t := hto
    rw [ev]
    exact p_bad f0 hr0 ht0 _ _
end Sets5

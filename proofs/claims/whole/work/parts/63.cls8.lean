/-! ===== the class: in force, having; its calendar ===== -/
/-- the class's calendar -/
def c_cal (I : a_F) (l : List Nat) : Prop := I 39 1 = nI l.length ∧ ∀ i x, l[i]? = some x → I 40 i = nI x
def c_cls (c i : Nat) : Bool := Nat.beq c 40 || (Nat.beq c 39 && Nat.beq i 1)
section C8
variable {β : Bool} {xs : Nat → Int32} {L : Nat} {G : am_G} {J : Nat → Nat → Int64}
theorem c_forceL {d nl nq np nf na : Nat} {I : a_F} (hR : q_RT G) {D : a_F} (hD : c_D nl nq np nf na D I) (hna : na ≤ 12) (day k wo : Int32) {kn : Int32} (hkn : ∀ a, a < na → bt kn a = a_knA D k wo a) {Q : am_O → am_H → Prop} (hQ : Q (.inl (some (.int (a_frc D day k wo na na).1))) (G, I, J)) : ∀ r m (v6 : Value), am_nl v6 = true → r + m = na →
    q_W β xs L d 2 13 [.ref 16, .int kn, .int day, .int (a_frc D day k wo na m).1, .int (a_frc D day k wo na m).2, .int (nI r - 1), v6] [] (G, I, J) Q
  | 0, m, v6, n6, hm => by
    have e : m = na := by omega
    subst e
    exact g_2_13 hR _ _ _ _ _ _ n6 ⟨fun _ => hQ, fun z => absurd (show nI 0 - 1 < 0 by decide) z⟩
  | r + 1, m, v6, n6, hm => by
    have er : nI (r + 1) - 1 = nI r := nI_pred r
    have ec : (nI r).toNatClampNeg = r := nI_clamp (by omega)
    have ir : am_is (nI r) 12 = true := am_is_nI (by omega) (by omega)
    obtain ⟨d1, d2, d3, d4, d5, d6, d7, -⟩ := hD.2.2.2.2 r (by omega)
    have ea : na - (m + 1) = r := by omega
    have ih := c_forceL (d := d) hR hD hna day k wo hkn hQ r (m + 1)
    have step : ∀ (x y i6 : Int32), (x, y) = a_frc D day k wo na (m + 1) → q_W β xs L d 2 91 [.ref 16, .int kn, .int day, .int x, .int y, .int (nI r), .int i6] [] (G, I, J) Q := by
      intro x y i6 h
      refine g_2_91 hR _ _ _ _ _ _ ?_
      rw [s_m1]
      have e1 : x = (a_frc D day k wo na (m + 1)).1 := congrArg Prod.fst h
      have e2 : y = (a_frc D day k wo na (m + 1)).2 := congrArg Prod.snd h
      rw [e1, e2]
      exact ih _ rfl (by omega)
    have no : ¬ (a_knA D k wo r = true ∧ ¬ day < D 75 r ∧ day < D 76 r ∧ bt (a_frc D day k wo na m).2 r = false) → ∀ i6, q_W β xs L d 2 91 [.ref 16, .int kn, .int day, .int (a_frc D day k wo na m).1, .int (a_frc D day k wo na m).2, .int (nI r), .int i6] [] (G, I, J) Q := fun h i6 => step _ _ _ (by
      show _ = (if _ then _ else _)
      rw [ea, if_neg h])
    have at42 : ¬ (a_knA D k wo r = true ∧ ¬ day < D 75 r ∧ day < D 76 r ∧ bt (a_frc D day k wo na m).2 r = false) → q_W β xs L d 2 42 [.ref 16, .int kn, .int day, .int (a_frc D day k wo na m).1, .int (a_frc D day k wo na m).2, .int (nI r), v6] [] (G, I, J) Q := fun h =>
      g_2_42 hR _ _ _ _ _ _ n6 (g_2_43 hR _ _ _ _ _ _ _ n6 ⟨fun _ => no h _, fun q => absurd rfl q⟩)
    rw [er]
    refine g_2_13 hR _ _ _ _ _ _ n6 ⟨fun z => absurd z (nI_pos (by omega)), fun _ => ?_⟩
    rw [s_bit1 _ (by omega), s_bit0 _ (by omega), hkn r (by omega)]
    refine ⟨fun z => at42 (fun h => z h.1), fun z => ⟨fun y => at42 (fun h => y h.2.2.2), fun y => ?_⟩⟩
    refine g_2_43 hR _ _ _ _ _ _ _ n6 ⟨fun q => absurd q (by decide), fun _ => ?_⟩
    rw [ec, d2, d3, d7]
    exact ⟨ir, fun x => no (fun h => h.2.1 x) _, fun x => ⟨ir, fun u => no (fun h => u h.2.2.1) _, fun u => ⟨ir, step _ _ _ (by
      show _ = (if _ then _ else _)
      rw [ea, if_pos ⟨z, x, u, y⟩]
      rfl)⟩⟩⟩
theorem c_force {d nl nq np nf na : Nat} {I : a_F} (hR : q_RT G) {D : a_F} (hD : c_D nl nq np nf na D I) (hDn : D 59 32 = nI na) (hna : na ≤ 12) (day k wo : Int32) {kn : Int32} (hkn : ∀ a, a < na → bt kn a = a_knA D k wo a) :
    q_W β xs L d 2 0 [.ref 16, .int kn, .int day, .retAddr 0, .retAddr 0, .retAddr 0, .retAddr 0] [] (G, I, J) (fun o h => o = .inl (some (.int (a_force D day k wo))) ∧ h = (G, I, J)) := by
  refine g_2_0 hR _ _ ?_
  rw [hD.1.2.2.2.2]
  exact c_forceL hR hD hna day k wo hkn ⟨by unfold a_force; rw [hDn, show a_ix (nI na) = na from nI_clamp (by omega)], rfl⟩ na 0 _ rfl rfl
theorem c_havL {d na : Nat} {I : a_F} (hR : q_RT G) (hn : I 16 15 = nI na) (hna : na ≤ 12) {w : Nat} (hw : w < 32) (force : Int32) {Q : am_O → am_H → Prop} (hQ : Q (.inl (some (.int (s_bits (fun a => bt force a && bt (I 23 a) w) na)))) (G, I, J)) : ∀ m a, a + m = na →
    q_W β xs L d 3 5 [.ref 16, .int force, .int (nI w), .int (s_bits (fun a => bt force a && bt (I 23 a) w) a), .int (nI a)] [] (G, I, J) Q
  | 0, a, ha => by
    have e : a = na := by omega
    subst e
    refine g_3_5 hR _ _ _ _ ⟨fun _ => hQ, fun z => ?_⟩
    rw [hn, nI_ltI (by omega) (by omega)] at z
    omega
  | m + 1, a, ha => by
    have ea : (nI a).toNatClampNeg = a := nI_clamp (by omega)
    have next : ∀ x : Int32, x = s_bits (fun a => bt force a && bt (I 23 a) w) (a + 1) → q_W β xs L d 3 46 [.ref 16, .int force, .int (nI w), .int x, .int (nI a)] [] (G, I, J) Q := fun x hx => by
      refine g_3_46 hR _ _ _ _ ?_
      rw [nI_1, hx]
      exact c_havL hR hn hna hw force hQ m (a + 1) (by omega)
    have no : ¬ (bt force a && bt (I 23 a) w) = true → s_bits (fun a => bt force a && bt (I 23 a) w) a = s_bits (fun a => bt force a && bt (I 23 a) w) (a + 1) := fun h => by
      show _ = (if (bt force a && bt (I 23 a) w) = true then _ else _)
      rw [if_neg h]
    refine g_3_5 hR _ _ _ _ ⟨fun z => absurd (by rw [hn]; exact (nI_ltI (by omega) (by omega)).mpr (by omega)) z, fun _ => ?_⟩
    rw [s_bit1 _ (by omega), ea, s_bit1 _ hw]
    refine ⟨fun z => next _ (no (fun q => z (by rw [Bool.and_eq_true] at q; exact q.1))), fun z => ⟨am_is_nI (by omega) (by omega), fun y => next _ (no (fun q => y (by rw [Bool.and_eq_true] at q; exact q.2))), fun y => next _ ?_⟩⟩
    show _ = (if (bt force a && bt (I 23 a) w) = true then _ else _)
    rw [if_pos (by rw [z, y]; rfl)]
theorem c_having {d na : Nat} {I : a_F} (hR : q_RT G) (hn : I 16 15 = nI na) (hna : na ≤ 12) {w : Nat} (hw : w < 32) (force : Int32) :
    q_W β xs L d 3 0 [.ref 16, .int force, .int (nI w), .retAddr 0, .retAddr 0] [] (G, I, J) (fun o h => o = .inl (some (.int (s_bits (fun a => bt force a && bt (I 23 a) w) na))) ∧ h = (G, I, J)) :=
  g_3_0 hR _ _ (c_havL hR hn hna hw force ⟨rfl, rfl⟩ na 0 (by omega))
theorem c_putL {d : Nat} (hR : q_RT G) {I0 : a_F} {l : List Nat} (hs : l.Pairwise (· ≤ ·)) (hl : l.length < 112) (hB : ∀ y ∈ l, y < 128 * 73000) {x : Nat} (hx : x < 128 * 73000) {Q : am_O → am_H → Prop} (hQ : ∀ I', q_F c_cls I0 I' → c_cal I' (a_ins x l) → Q (.inl none) (G, I', J)) : ∀ n (I : a_F), n ≤ l.length → q_F c_cls I0 I → I 39 1 = nI l.length →
    (∀ i y, i < n → l[i]? = some y → I 40 i = nI y) → (∀ i y, n ≤ i → l[i]? = some y → I 40 (i + 1) = nI y) → (∀ y ∈ l.drop n, x < y) → q_W β xs L d 8 18 [.ref 39, .int (nI x), .int (nI n)] [] (G, I, J) Q := by
  intro n
  have at54 : ∀ n (I : a_F), n ≤ l.length → q_F c_cls I0 I → I 39 1 = nI l.length → (∀ i y, i < n → l[i]? = some y → I 40 i = nI y) → (∀ i y, n ≤ i → l[i]? = some y → I 40 (i + 1) = nI y) → (∀ y ∈ l.drop n, x < y) → (∀ y ∈ l.take n, ¬ x < y) → q_W β xs L d 8 54 [.ref 39, .int (nI x), .int (nI n)] [] (G, I, J) Q := by
    intro n I hn hf h1c h1 h2 h3 h4
    have en : (nI n).toNatClampNeg = n := nI_clamp (by omega)
    refine g_8_54 hR _ _ ⟨am_is_nI (by omega) (by omega), ?_⟩
    rw [en, h1c]
    have ei : a_ins x l = l.take n ++ x :: l.drop n := by
      have := a_ins_app (x := x) (l.take n) (l.drop n) h4 h3
      rwa [List.take_append_drop] at this
    have v40 : ∀ i, am_u (am_u I 40 n (nI x)) 39 1 (nI l.length + 1) 40 i = if i = n then nI x else I 40 i := fun i => by simp [am_u]
    refine hQ _ ((hf.up _ rfl).up _ rfl) ⟨?_, fun i z hz => ?_⟩
    · rw [am_u_same, a_ins_len, nI_1]
    · rw [ei] at hz
      have hlt : (l.take n).length = n := by rw [List.length_take]; omega
      rw [v40]
      by_cases hi : i < n
      · rw [List.getElem?_append_left (by omega), List.getElem?_take_of_lt hi] at hz
        rw [if_neg (by omega)]
        exact h1 i z hi hz
      · rw [List.getElem?_append_right (by omega), hlt] at hz
        cases hk : i - n with
        | zero =>
          rw [hk] at hz
          have e1 : x = z := by simpa using hz
          rw [if_pos (by omega), e1]
        | succ j =>
          rw [hk, List.getElem?_cons_succ, List.getElem?_drop] at hz
          have := h2 (n + j) z (by omega) hz
          rw [if_neg (by omega), show i = n + j + 1 by omega]
          exact this
  induction n with
  | zero =>
    intro I hn hf h1c h1 h2 h3
    exact g_8_18 hR _ _ ⟨fun _ => at54 0 I hn hf h1c h1 h2 h3 (by simp), fun z => absurd z (by decide)⟩
  | succ n ih =>
    intro I hn hf h1c h1 h2 h3
    have hnl : n < l.length := by omega
    obtain ⟨y, hy⟩ : ∃ y, l[n]? = some y := ⟨l[n], List.getElem?_eq_getElem hnl⟩
    have en : (nI n).toNatClampNeg = n := nI_clamp (by omega)
    have en1 : (nI (n + 1)).toNatClampNeg = n + 1 := nI_clamp (by omega)
    have ip : nI (n + 1) - 1 = nI n := nI_pred n
    have i0 : am_is (nI n) 112 = true := am_is_nI (by omega) (by omega)
    have i1 : am_is (nI (n + 1)) 112 = true := am_is_nI (by omega) (by omega)
    have y1 := h1 n y (by omega) hy
    have hyb := hB y (List.mem_of_getElem? hy)
    have lt1 : nI x < nI y ↔ x < y := nI_ltI (by omega) (by omega)
    refine g_8_18 hR _ _ ⟨fun z => absurd ((nI_ltI (a := 0) (by omega) (by omega)).mpr (by omega)) z, fun _ => ?_⟩
    rw [ip, en, y1, lt1, pk_m1, en1]
    refine ⟨i0, fun z => at54 (n + 1) I hn hf h1c h1 h2 h3 (a_srt_take l n y hs hy z), fun z => ⟨i0, i1, ?_⟩⟩
    refine ih _ (by omega) (hf.up _ rfl) ?_ (fun i w hi hw => ?_) (fun i w hi hw => ?_) (fun w hw => ?_)
    · rw [am_u_ne (Or.inl (by decide))]; exact h1c
    · rw [am_u_ne (Or.inr (by omega))]
      exact h1 i w (by omega) hw
    · by_cases hin : i = n
      · subst hin
        rw [hy] at hw
        have e1 : y = w := Option.some.inj hw
        rw [am_u_same, e1]
      · rw [am_u_ne (Or.inr (by omega))]
        exact h2 i w (by omega) hw
    · rw [List.drop_eq_getElem_cons hnl] at hw
      rcases List.mem_cons.mp hw with q | q
      · have : l[n] = y := by rw [List.getElem?_eq_getElem hnl] at hy; exact Option.some.inj hy
        rw [q, this]
        exact z
      · exact h3 w q
theorem c_put {d : Nat} (hR : q_RT G) {I : a_F} {l : List Nat} (hc : c_cal I l) (hs : l.Pairwise (· ≤ ·)) (hl : l.length < 112) (hB : ∀ y ∈ l, y < 128 * 73000) {x : Nat} (hx : x < 128 * 73000) :
    q_W β xs L d 8 0 [.ref 39, .int (nI x), .retAddr 0] [] (G, I, J) (fun o h => o = .inl none ∧ ∃ I', h = (G, I', J) ∧ q_F c_cls I I' ∧ c_cal I' (a_ins x l)) := by
  refine g_8_0 hR _ ⟨fun _ => ?_, fun z => absurd (by rw [hc.1]; exact (nI_ltI (b := 112) (by omega) (by omega)).mpr hl) z⟩
  rw [hc.1]
  refine c_putL hR (I0 := I) hs hl hB hx (fun I' q1 q2 => ⟨rfl, I', rfl, q1, q2⟩) l.length I (Nat.le_refl _) (q_F.rf _ I) hc.1 (fun i y _ h => hc.2 i y h) (fun i y hi h => ?_) (fun y hy => ?_)
  · rw [List.getElem?_eq_none hi] at h; cases h
  · rw [List.drop_length] at hy; cases hy
theorem c_putAct {d : Nat} (hR : q_RT G) {I : a_F} {l : List Nat} (hc : c_cal I l) (hs : l.Pairwise (· ≤ ·)) (hl : l.length < 112) (hB : ∀ y ∈ l, y < 128 * 73000) {a u : Nat} (ha : a < 12) (hu : u ≤ 72999) :
    q_W β xs L (d + 1) 6 0 [.ref 39, .int (nI a), .int (nI u)] [] (G, I, J) (fun o h => o = .inl none ∧ ∃ I', h = (G, I', J) ∧ q_F c_cls I I' ∧ c_cal I' (a_ins (u * 128 + a) l)) := by
  refine g_6_0 hR _ _ ?_
  rw [show (nI u * 128 + nI a : Int32) = nI (u * 128 + a) by rw [s_lit, pk_mul, nI_add]]
  exact q_useV (c_put (β := β) (xs := xs) (L := L) (d := d) hR hc hs hl hB (x := u * 128 + a) (by omega)) (Nat.le_refl _) (fun I' q => ⟨rfl, I', rfl, q⟩)
theorem c_putFact {d : Nat} (hR : q_RT G) {I : a_F} {l : List Nat} (hc : c_cal I l) (hs : l.Pairwise (· ≤ ·)) (hl : l.length < 112) (hB : ∀ y ∈ l, y < 128 * 73000) {f u : Nat} (hf : f < 100) (hu : u ≤ 72999) :
    q_W β xs L (d + 1) 7 0 [.ref 39, .int (nI f), .int (nI u)] [] (G, I, J) (fun o h => o = .inl none ∧ ∃ I', h = (G, I', J) ∧ q_F c_cls I I' ∧ c_cal I' (a_ins (u * 128 + (12 + f)) l)) := by
  refine g_7_0 hR _ _ ?_
  rw [show (nI u * 128 + 12 + nI f : Int32) = nI (u * 128 + (12 + f)) by rw [s_lit, s_lit, pk_mul, nI_add, nI_add, Nat.add_assoc]]
  exact q_useV (c_put (β := β) (xs := xs) (L := L) (d := d) hR hc hs hl hB (x := u * 128 + (12 + f)) (by omega)) (Nat.le_refl _) (fun I' q => ⟨rfl, I', rfl, q⟩)
theorem c_dayAt {d : Nat} (hR : q_RT G) {I : a_F} {l : List Nat} (hc : c_cal I l) (hl : l.length ≤ 112) (hB : ∀ y ∈ l, y < 128 * 73000) {i x : Nat} (hi : l[i]? = some x) :
    q_W β xs L d 9 0 [.ref 39, .int (nI i)] [] (G, I, J) (fun o h => o = .inl (some (.int (nI (x / 128)))) ∧ h = (G, I, J)) := by
  have hil := (List.getElem?_eq_some_iff.mp hi).1
  have hx := hB x (List.mem_of_getElem? hi)
  refine g_9_0 hR _ ⟨am_is_nI (by omega) (by omega), by decide, ?_, rfl⟩
  rw [show (nI i).toNatClampNeg = i from nI_clamp (by omega), hc.2 i x hi, s_lit, pk_div (by omega) (by decide) (by decide)]
theorem c_actAt {d : Nat} (hR : q_RT G) {I : a_F} {l : List Nat} (hc : c_cal I l) (hl : l.length ≤ 112) (hB : ∀ y ∈ l, y < 128 * 73000) {i x : Nat} (hi : l[i]? = some x) :
    q_W β xs L d 11 0 [.ref 39, .int (nI i)] [] (G, I, J) (fun o h => o = .inl (some (.int (nI (x % 128)))) ∧ h = (G, I, J)) := by
  have hil := (List.getElem?_eq_some_iff.mp hi).1
  have hx := hB x (List.mem_of_getElem? hi)
  refine g_11_0 hR _ ⟨am_is_nI (by omega) (by omega), by decide, ?_, rfl⟩
  rw [show (nI i).toNatClampNeg = i from nI_clamp (by omega), hc.2 i x hi, s_lit, pk_rem (by omega) (by decide) (by decide)]
theorem c_factAt {d : Nat} (hR : q_RT G) {I : a_F} {l : List Nat} (hc : c_cal I l) (hl : l.length ≤ 112) (hB : ∀ y ∈ l, y < 128 * 73000) {i x : Nat} (hi : l[i]? = some x) :
    q_W β xs L d 10 0 [.ref 39, .int (nI i)] [] (G, I, J) (fun o h => o = .inl (some (.int (if x % 128 < 12 then -1 else nI (x % 128 - 12)))) ∧ h = (G, I, J)) := by
  have hil := (List.getElem?_eq_some_iff.mp hi).1
  have hx := hB x (List.mem_of_getElem? hi)
  refine g_10_0 hR _ ⟨am_is_nI (by omega) (by omega), by decide, ?_, rfl⟩
  rw [show (nI i).toNatClampNeg = i from nI_clamp (by omega), hc.2 i x hi, show (nI x - nI x / 128 * 128 : Int32) = nI (x % 128) by rw [s_lit]; exact pk_rem (by omega) (by decide) (by decide)]
  have key : ∀ r, r < 128 → (if nI r - 12 < -1 then (-1 : Int32) else nI r - 12) = if r < 12 then -1 else nI (r - 12) := by decide +kernel
  rw [key _ (by omega)]
end C8

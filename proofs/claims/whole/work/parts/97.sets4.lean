/-! ===== the fewest facts that would settle it ===== -/
theorem d_full : ∀ cs ∈ d_all, ∀ way, way < d_w cs → d_fst cs way 7 cs.length = way := by decide +kernel
theorem d_mod : ∀ cs ∈ d_all, ∀ set, set < 8 → ∀ way, way < d_w cs → d_fst cs way set cs.length = d_fst cs way (set % 2 ^ cs.length) cs.length := by decide +kernel
theorem d_len3 : ∀ cs ∈ d_all, cs.length ≤ 3 := by decide +kernel
theorem d_Sb_7 {cs : List Nat} (hc : cs ∈ d_all) (b : Nat → Bool) : d_Sb cs b 7 (d_w cs) = true :=
  (d_Sb_iff cs b 7 _).mpr (fun w hw => by rw [d_full cs hc w hw])
theorem d_Sb_mod {cs : List Nat} (hc : cs ∈ d_all) (b : Nat → Bool) {set : Nat} (hs : set < 8) : d_Sb cs b set (d_w cs) = d_Sb cs b (set % 2 ^ cs.length) (d_w cs) := by
  rw [Bool.eq_iff_iff, d_Sb_iff, d_Sb_iff]
  constructor
  · intro h w hw
    rw [← d_mod cs hc set hs w hw]
    exact h w hw
  · intro h w hw
    rw [d_mod cs hc set hs w hw]
    exact h w hw
def d_ord (i : Nat) : Nat := ([0, 1, 2, 4, 3, 5, 6, 7] : List Nat).getD i 0
def d_lst : Nat → List Nat
  | 0 => [0]
  | 1 => [0, 1]
  | 2 => [0, 1, 2, 3]
  | _ => [0, 1, 2, 4, 3, 5, 6, 7]
/-- the first set of a list that settles -/
def d_first (S : Nat → Bool) : List Nat → Nat
  | [] => 0
  | x :: r => if S x = true then x else d_first S r
theorem d_first_cong {S T : Nat → Bool} : ∀ l : List Nat, (∀ x ∈ l, S x = T x) → d_first S l = d_first T l
  | [], _ => rfl
  | x :: r, h => by
    unfold d_first
    rw [h x (by simp), d_first_cong r (fun y hy => h y (by simp [hy]))]
theorem d_lst8 : ∀ n, n ≤ 3 → ∀ x ∈ d_lst n, x < 8 := by decide +kernel
def d_ext : Nat → List (List Bool)
  | 0 => [[]]
  | n + 1 => (d_ext n).flatMap (fun l => [false :: l, true :: l])
theorem d_ext_mem : ∀ l : List Bool, l ∈ d_ext l.length
  | [] => by decide
  | b :: r => by
    show b :: r ∈ (d_ext r.length).flatMap (fun l => [false :: l, true :: l])
    exact List.mem_flatMap.mpr ⟨r, d_ext_mem r, by cases b <;> simp⟩
def d_bs (l : List Bool) (x : Nat) : Bool := l.getD x false
def d_bl (S : Nat → Bool) : List Bool := [S 0, S 1, S 2, S 3, S 4, S 5, S 6, S 7]
theorem d_bs_eq (S : Nat → Bool) {x : Nat} (hx : x < 8) : S x = d_bs (d_bl S) x := by
  rcases (show x = 0 ∨ x = 1 ∨ x = 2 ∨ x = 3 ∨ x = 4 ∨ x = 5 ∨ x = 6 ∨ x = 7 by omega) with e | e | e | e | e | e | e | e <;> subst e <;> rfl
theorem d_ord8 : ∀ i, i < 8 → d_ord i < 8 := by decide
def d_k7 (l : List Bool) (n : Nat) : Bool := (List.range 8).all (fun s => d_bs l s == d_bs l (s % 2 ^ n)) && d_bs l 7
def d_k8 (l : List Bool) (i : Nat) : Bool := decide (∀ j, j < i → d_bs l (d_ord j) = false) && d_bs l (d_ord i)
theorem d_cls0 : ∀ l ∈ d_ext 8, ∀ n, n ≤ 3 → d_k7 l n = true → ∀ i, i < 8 → d_k8 l i = true → d_ord i = d_first (d_bs l) (d_lst n) := by decide +kernel
theorem d_cls {S : Nat → Bool} {n : Nat} (hn : n ≤ 3) (hm : ∀ s, s < 8 → S s = S (s % 2 ^ n)) (h7 : S 7 = true) {i : Nat} (hi : i < 8) (h1 : S (d_ord i) = true) (h2 : ∀ j, j < i → S (d_ord j) = false) : d_ord i = d_first S (d_lst n) := by
  have k := fun x hx => d_bs_eq S (x := x) hx
  rw [d_first_cong (d_lst n) (fun x hx => k x (d_lst8 n hn x hx))]
  refine d_cls0 _ (d_ext_mem (d_bl S)) n hn ?_ i hi ?_
  · unfold d_k7
    rw [Bool.and_eq_true]
    refine ⟨List.all_eq_true.mpr (fun s hs => beq_iff_eq.mpr ?_), h7⟩
    have hs : s < 8 := List.mem_range.mp hs
    rw [← k s hs, ← k _ (Nat.lt_of_le_of_lt (Nat.mod_le _ _) hs)]
    exact hm s hs
  · unfold d_k8
    rw [Bool.and_eq_true]
    refine ⟨decide_eq_true (fun j hj => ?_), ?_⟩
    · rw [← k _ (d_ord8 j (by omega))]
      exact h2 j hj
    · rw [← k _ (d_ord8 i hi)]
      exact h1
def d_many (x : Nat) : Nat := x % 2 + x / 2 % 2 + x / 4 % 2
def d_low (set b : Nat) : Bool := !decide ((nI set &&& ((nI set ^^^ nI b) &&& -(nI set ^^^ nI b))) = 0)
def d_step (S : Nat → Bool) (b set : Nat) : Nat :=
  if b = 8 then (if S set = true then set else 8) else if d_many b < d_many set then b else if (d_many set < d_many b ∨ d_low set b = true) ∧ S set = true then set else b
def d_loop (S : Nat → Bool) : Nat → Nat → Nat → Nat
  | 0, _, b => b
  | m + 1, set, b => d_loop S m (set + 1) (d_step S b set)
theorem d_step_cong {S T : Nat → Bool} (b set : Nat) (h : S set = T set) : d_step S b set = d_step T b set := by
  unfold d_step
  rw [h]
theorem d_loop_cong {S T : Nat → Bool} : ∀ m set b, (∀ x, x < set + m → S x = T x) → d_loop S m set b = d_loop T m set b
  | 0, _, _, _ => rfl
  | m + 1, set, b, h => by
    unfold d_loop
    rw [d_step_cong b set (h set (by omega)), d_loop_cong m (set + 1) _ (fun x hx => h x (by omega))]
theorem d_ref0 : ∀ n, n ≤ 3 → ∀ l ∈ d_ext 8, d_bs l (2 ^ n - 1) = true → d_loop (d_bs l) (2 ^ n) 0 8 = d_first (d_bs l) (d_lst n) := by decide +kernel
theorem d_pw3 {n : Nat} (hn : n ≤ 3) : 1 ≤ 2 ^ n ∧ 2 ^ n ≤ 8 := by
  rcases (show n = 0 ∨ n = 1 ∨ n = 2 ∨ n = 3 by omega) with e | e | e | e <;> subst e <;> decide
theorem d_ref {S : Nat → Bool} {n : Nat} (hn : n ≤ 3) (hm : ∀ s, s < 8 → S s = S (s % 2 ^ n)) (h7 : S 7 = true) : d_loop S (2 ^ n) 0 8 = d_first S (d_lst n) := by
  have k := fun x hx => d_bs_eq S (x := x) hx
  have h8 := d_pw3 hn
  rw [d_first_cong (d_lst n) (fun x hx => k x (d_lst8 n hn x hx)), d_loop_cong (2 ^ n) 0 8 (fun x hx => k x (by omega))]
  refine d_ref0 n hn _ (d_ext_mem (d_bl S)) ?_
  rw [← k _ (by omega)]
  have e := hm 7 (by decide)
  rw [h7] at e
  rw [e]
  rcases (show n = 0 ∨ n = 1 ∨ n = 2 ∨ n = 3 by omega) with e | e | e | e <;> subst e <;> rfl
theorem a_cs_all {nl nq np nf : Nat} {D : a_F} (hF : a_DF nl nq np nf D) (hDf : D 59 6 = nI nf) (hf2 : nf ≤ 100) (k : Int32) : a_cs D (a_doubts D k) ∈ d_all :=
  d_mem _ (by rw [a_cs_len]; exact a_doubts_len D k) (fun c hc => by
    unfold a_cs at hc
    obtain ⟨f, hf, rfl⟩ := List.mem_map.mp hc
    obtain ⟨h1, -⟩ := a_doubts_mem hDf (by omega) hf
    obtain ⟨-, cn, hc1, hc2, hc3, -⟩ := hF f h1
    rw [hc3, show a_ix (nI cn) = cn from nI_clamp (by omega)]
    exact ⟨hc1, hc2⟩)
/-- whether a set settles it -/
def d_set (D : a_F) (day k p l : Nat) (set : Nat) : Bool := d_Sb (a_cs D (a_doubts D (nI k))) (d_b D day k p l) set (a_ways D (a_doubts D (nI k)))
theorem d_set_7 {nl nq np nf : Nat} {D : a_F} (hF : a_DF nl nq np nf D) (hDf : D 59 6 = nI nf) (hf2 : nf ≤ 100) (day k p l : Nat) : d_set D day k p l 7 = true := by
  unfold d_set
  rw [← a_cs_w]
  exact d_Sb_7 (a_cs_all hF hDf hf2 _) _
theorem d_set_mod {nl nq np nf : Nat} {D : a_F} (hF : a_DF nl nq np nf D) (hDf : D 59 6 = nI nf) (hf2 : nf ≤ 100) (day k p l : Nat) : ∀ s, s < 8 → d_set D day k p l s = d_set D day k p l (s % 2 ^ (a_doubts D (nI k)).length) := fun s hs => by
  unfold d_set
  rw [← a_cs_w, ← a_cs_len D]
  exact d_Sb_mod (a_cs_all hF hDf hf2 _) _ hs
def o_set (x1 x2 x3 x4 : Int32) : w_T → Nat × Int32 := fun w => match w with
  | ((nl, nq, np, nf, na, tn, tp), tb, fp, D) => (a_bt (a_lt x1 np && (a_lt x2 nl && a_dy x3)) (a_ev x4 tn), nI (d_first (d_set D (a_ix x3) (a_ix x4) (a_ix x1) (a_ix x2)) (d_lst (a_doubts D (nI (a_ix x4))).length)))
theorem q_sets_ord : ∀ i, i < 8 → q_sets i = nI (d_ord i) := by decide +kernel
section Sets4
variable {β : Bool} {xs : Nat → Int32} {L : Nat} {G : am_G} {I : a_F} {J : Nat → Nat → Int64}
theorem k_st {d nl nq np nf set day k p l : Nat} {D : a_F} (hR : q_RT G) (hF : a_DF nl nq np nf D) {dl : List Nat} (hl : dl.length ≤ 3) (hm : ∀ x ∈ dl, x < nf) (hb : c_db D I dl) (hs : set < 8) (hcs : a_cs D dl ∈ d_all) (h27 : a_ways D dl ≤ 27) (hp : p < 20) (hl5 : l < 5) (ht : c_wt D I day k (a_ways D dl)) : q_W β xs L (d + 2) 101 0 [.ref 0, .int (nI set), .int (nI p), .int (nI l), .retAddr 0, .retAddr 0, .retAddr 0] [] (G, I, J) (fun o h => o = .inl (some (.int (a_is (d_Sb (a_cs D dl) (d_b D day k p l) set (a_ways D dl))))) ∧ h = (G, I, J)) :=
  g_101_0 hR _ _ _ (k_stL (d := d) hR hF hl hm hb hs hcs h27 hp hl5 ht (fun b hb => ⟨by rw [hb], rfl⟩) _ 0 _ _ rfl rfl (Nat.zero_add _) rfl)
theorem k_setL {d nl nq np nf day k p l : Nat} {D : a_F} (hR : q_RT G) (hF : a_DF nl nq np nf D) {x3 x4 : Int32} (hl : (a_doubts D (nI k)).length ≤ 3) (hm : ∀ x ∈ a_doubts D (nI k), x < nf) (hb : c_db D I (a_doubts D (nI k))) (hcs : a_cs D (a_doubts D (nI k)) ∈ d_all) (h27 : a_ways D (a_doubts D (nI k)) ≤ 27) (hp : p < 20) (hl5 : l < 5) (ht : c_wt D I day k (a_ways D (a_doubts D (nI k)))) (h7 : d_set D day k p l 7 = true) {Q : am_O → am_H → Prop}
    (hQ : ∀ i, i < 8 → d_set D day k p l (d_ord i) = true → (∀ j, j < i → d_set D day k p l (d_ord j) = false) → Q (.inl (some (.int (nI (d_ord i))))) (G, I, J)) : ∀ m i (v8 : Value), am_nl v8 = true → i + m = 8 → (∀ j, j < i → d_set D day k p l (d_ord j) = false) →
    q_W β xs L (d + 3) 85 29 [.ref 0, .int (nI p), .int (nI l), .int x3, .int x4, .retAddr 2, .int (nI 8), .int (nI i), v8] [] (G, I, J) Q
  | 0, i, v8, n8, hi, hj => by
    have h := hj 7 (by omega)
    rw [show d_ord 7 = 7 from rfl, h7] at h
    cases h
  | m + 1, i, v8, n8, hi, hj => by
    have ei : (nI i).toNatClampNeg = i := nI_clamp (by omega)
    refine g_85_29 hR _ _ _ _ _ _ _ n8 ⟨fun z => absurd ((nI_ltI (by omega) (by omega)).mpr (show i < 8 by omega)) z, fun _ => ⟨am_is_nI (by omega) (by omega), ?_⟩⟩
    rw [ei, q_sets_ord i (by omega)]
    refine q_useI (k_st (β := β) (xs := xs) (L := L) (d := d) hR hF hl hm hb (d_ord8 i (by omega)) hcs h27 hp hl5 ht) (Nat.le_refl _) ⟨fun z => ?_, fun z => ?_⟩
    · have z1 : d_set D day k p l (d_ord i) = false := a_is_0.mp z
      rw [nI_1]
      refine k_setL hR hF hl hm hb hcs h27 hp hl5 ht h7 hQ m (i + 1) _ rfl (by omega) (fun j hj2 => ?_)
      by_cases e : j = i
      · subst e; exact z1
      · exact hj j (by omega)
    · refine hQ i (by omega) ?_ hj
      cases h : d_set D day k p l (d_ord i) with
      | true => rfl
      | false => exact absurd (a_is_0.mpr h) z
theorem k_settles {d e : Nat} {w : w_T} (hC : c_I e w G I J) (hw : w_O w) (x1 x2 x3 x4 : Int32) : q_W β xs L (d + 8) 85 0 [.ref 0, .int x1, .int x2, .int x3, .int x4, .retAddr 0, .retAddr 0, .retAddr 0, .retAddr 0] [] (G, I, J) (k_T (o_set x1 x2 x3 x4 w).1 w e I J (o_set x1 x2 x3 x4 w).2) := by
  obtain ⟨⟨nl, nq, np, nf, na, tn, tp⟩, tb, fp, D⟩ := w
  have hC0 := hC
  obtain ⟨j, hL, hD, h3, h4, h5, h6⟩ := hC
  have hn5 := hw.1.1.2.1
  have hl5 : nl ≤ 5 := hn5.1
  have hp20 : np ≤ 20 := hn5.2.2.1
  have ht : tn ≤ 999 := hw.2.2.1
  have hF : a_DF nl nq np nf D := hw.1.2.2.1
  have hDf : D 59 6 = nI nf := hw.1.2.2.2.2.1
  have hf2 : nf ≤ 100 := hw.1.2.2.2.2.2
  have hR := hL.2.1
  refine g_85_0 hR _ _ _ _ ?_
  refine k_bond (d := d + 5) (nl := nl) (np := np) (tn := tn) hR hD.1.2.2.1 hD.1.1 h3.1 x1 x2 x3 x4 (fun ok => ?_) (fun t ht0 hto => ?_)
  · obtain ⟨p, l, day, k, hp, hl, hd, hk, rfl, rfl, rfl, rfl⟩ := a_bond_of hp20 hl5 ht ok
    have ev : o_set (nI p) (nI l) (nI day) (nI k) ((nl, nq, np, nf, na, tn, tp), tb, fp, D) = (0, nI (d_first (d_set D day k p l) (d_lst (a_doubts D (nI k)).length))) := by
      show (a_bt _ _, nI (d_first (d_set D (a_ix (nI day)) (a_ix (nI k)) (a_ix (nI p)) (a_ix (nI l))) (d_lst (a_doubts D (nI (a_ix (nI k)))).length))) = _
      rw [ok, show a_ix (nI day) = day from nI_clamp (by omega), show a_ix (nI k) = k from nI_clamp (by omega), show a_ix (nI p) = p from nI_clamp (by omega), show a_ix (nI l) = l from nI_clamp (by omega)]
    rw [ev]
    have h27 : a_ways D (a_doubts D (nI k)) ≤ 27 := (a_dbl27 hF hDf hf2 (nI k)).2
    refine q_useRv (k_ways (β := β) (xs := xs) (L := L) (d := d) hC0 hw hd (k := k) (by omega)) (by omega) (fun o h' P => ?_)
    obtain ⟨rfl, G1, I1, J1, rfl, f1, g1, C1, b1, k1, t1⟩ := P
    have R1 : q_RT G1 := by obtain ⟨j', L1, -⟩ := C1; exact L1.2.1
    have h7 := d_set_7 hF hDf hf2 day k p l
    have hmod := d_set_mod hF hDf hf2 day k p l
    refine k_setL (d := d + 5) (nl := nl) (nq := nq) (np := np) (nf := nf) R1 hF (a_doubts_len D _) (fun x hx => (a_doubts_mem hDf (by omega) hx).1) b1 (a_cs_all hF hDf hf2 _) h27 (p := p) (l := l) (by omega) (by omega) t1 h7 (fun i hi q1 q2 => ?_) 8 0 _ rfl rfl (fun j hj => absurd hj (Nat.not_lt_zero j))
    rw [d_cls (a_doubts_len D _) hmod h7 hi q1 q2]
    exact k_good f1 g1 C1 _
  · have ev : (o_set x1 x2 x3 x4 ((nl, nq, np, nf, na, tn, tp), tb, fp, D)).1 = t := hto
    rw [ev]
    exact k_bad hC0 ht0 _
end Sets4

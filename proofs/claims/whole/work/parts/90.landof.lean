/-! ===== the land of a place ===== -/
def a_lst (P : Nat → Bool) : List Nat → Option Nat
  | [] => none
  | y :: r => match a_lst P r with
    | some z => some z
    | none => if P y = true then some y else none
theorem a_lst_mem {P : Nat → Bool} : ∀ (l : List Nat) z, a_lst P l = some z → z ∈ l
  | [], z, h => by cases h
  | y :: r, z, h => by
    unfold a_lst at h
    cases hr : a_lst P r with
    | some w =>
      rw [hr] at h
      have h' : w = z := Option.some.inj h
      subst h'
      exact List.mem_cons_of_mem _ (a_lst_mem r w hr)
    | none =>
      rw [hr] at h
      dsimp only at h
      split at h
      · have h' : y = z := Option.some.inj h
        subst h'
        exact List.mem_cons_self
      · cases h
theorem a_lst_no {P : Nat → Bool} : ∀ (l : List Nat), (∀ y ∈ l, P y = false) → a_lst P l = none
  | [], _ => rfl
  | y :: r, h => by
    unfold a_lst
    rw [a_lst_no r (fun z hz => h z (List.mem_cons_of_mem _ hz))]
    dsimp only
    rw [if_neg (by rw [h y List.mem_cons_self]; decide)]
theorem a_lst_insN {P : Nat → Bool} {x : Nat} (hx : P x = false) : ∀ l : List Nat, a_lst P (a_ins x l) = a_lst P l
  | [] => by
    show (if P x = true then some x else none) = none
    rw [hx]
    rfl
  | y :: r => by
    unfold a_ins
    split
    · show (match a_lst P (y :: r) with | some z => some z | none => if P x = true then some x else none) = _
      cases h : a_lst P (y :: r) with
      | some z => rfl
      | none => show (if P x = true then some x else none) = none; rw [hx]; rfl
    · show (match a_lst P (a_ins x r) with | some z => some z | none => if P y = true then some y else none) = _
      rw [a_lst_insN hx r]
      rfl
theorem a_lst_ins {P : Nat → Bool} {x : Nat} (hx : P x = true) : ∀ l : List Nat, l.Pairwise (· ≤ ·) → a_lst P (a_ins x l) = (match a_lst P l with
    | some z => if x < z then some z else some x
    | none => some x)
  | [], _ => by
    show (if P x = true then some x else none) = some x
    rw [hx]
    rfl
  | y :: r, hs => by
    unfold a_ins
    split
    · rename_i hlt
      show (match a_lst P (y :: r) with | some z => some z | none => if P x = true then some x else none) = _
      cases h : a_lst P (y :: r) with
      | none => show (if P x = true then some x else none) = some x; rw [hx]; rfl
      | some z =>
        have hz := a_lst_mem _ z h
        have : x < z := by
          rcases List.mem_cons.mp hz with e | e
          · omega
          · have := List.rel_of_pairwise_cons hs e
            omega
        show some z = if x < z then some z else some x
        rw [if_pos this]
    · rename_i hge
      show (match a_lst P (a_ins x r) with | some z => some z | none => if P y = true then some y else none) = _
      rw [a_lst_ins hx r (List.Pairwise.of_cons hs)]
      cases h : a_lst P r with
      | none =>
        have e : a_lst P (y :: r) = if P y = true then some y else none := by
          show (match a_lst P r with | some z => some z | none => if P y = true then some y else none) = _
          rw [h]
        rw [e]
        by_cases hy : P y = true
        · rw [if_pos hy]
          show some x = if x < y then some y else some x
          rw [if_neg hge]
        · rw [if_neg hy]
      | some z =>
        have e : a_lst P (y :: r) = some z := by
          show (match a_lst P r with | some z => some z | none => if P y = true then some y else none) = _
          rw [h]
        rw [e]
        dsimp only
        by_cases hxz : x < z
        · rw [if_pos hxz]
        · rw [if_neg hxz]
theorem a_calA_srt (D : a_F) (k wo last : Int32) : ∀ n a c, c.Pairwise (· ≤ ·) → (a_calA D k wo last n a c).Pairwise (· ≤ ·)
  | 0, a, c, h => h
  | n + 1, a, c, h => by
    unfold a_calA
    refine a_calA_srt D k wo last n (a + 1) _ ?_
    split
    · exact a_ins_srt _ h
    · exact h
/-- a border of the place q -/
def a_brd (D : a_F) (q y : Nat) : Bool := decide (12 ≤ y % 128) && (decide (D 64 (y % 128 - 12) = 5) && decide (a_ix (D 67 (y % 128 - 12)) = q))
def a_lnd (D : a_F) (q : Nat) (v : Int32) (o : Option Nat) : Int32 := match o with
  | some y => D 66 (y % 128 - 12)
  | none => v
theorem a_event_6 (D : a_F) (k wo : Int32) (s : a_F) (y q : Nat) : a_event D k wo s y 6 q = if a_brd D q y = true then D 66 (y % 128 - 12) else s 6 q := by
  unfold a_event
  by_cases h12 : y % 128 < 12
  · rw [if_pos h12]
    have e : a_brd D q y = false := by unfold a_brd; rw [decide_eq_false (by omega)]; rfl
    rw [e, if_neg (by decide)]
    unfold a_act
    split
    · rw [a_kp_all _ _ _ _ _ _ _ _ _ _ 6 (by decide) (by decide)]
    · rfl
  · rw [if_neg h12]
    generalize hf : y % 128 - 12 = f
    have e : a_brd D q y = (decide (D 64 f = 5) && decide (a_ix (D 67 f) = q)) := by unfold a_brd; rw [decide_eq_true (by omega), Bool.true_and, hf]
    rw [e]
    generalize a_force D (nI (y / 128)) k wo = force
    generalize nI (y / 128) = today
    unfold a_fact
    by_cases h0 : D 64 f = 0
    · rw [if_pos h0, h0, decide_eq_false (by decide), Bool.false_and, if_neg (by decide)]
      unfold a_birth
      split
      · rw [a_kp_ask _ _ _ _ _ _ _ _ _ 6 (by decide) (by decide), am_u_row _ _ _ _ (by decide), am_u_row _ _ _ _ (by decide)]
      · rfl
    · rw [if_neg h0]
      by_cases h1 : D 64 f = 1
      · rw [if_pos h1, h1, decide_eq_false (by decide), Bool.false_and, if_neg (by decide)]
        unfold a_wed
        rw [a_kp_ask _ _ _ _ _ _ _ _ _ 6 (by decide) (by decide), a_kp_ask _ _ _ _ _ _ _ _ _ 6 (by decide) (by decide), am_u_row _ _ _ _ (by decide), am_u_row _ _ _ _ (by decide)]
      · rw [if_neg h1]
        by_cases h5 : D 64 f = 5
        · rw [if_pos h5, decide_eq_true h5, Bool.true_and, a_kp_all _ _ _ _ _ _ _ _ _ _ 6 (by decide) (by decide), am_u_row _ _ _ _ (by decide)]
          by_cases hq : a_ix (D 67 f) = q
          · rw [decide_eq_true hq, if_pos rfl, hq, am_u_same]
          · rw [decide_eq_false hq, if_neg (by decide), am_u_ne (Or.inr (fun z => hq z.symm))]
        · rw [if_neg h5, decide_eq_false h5, Bool.false_and, if_neg (show ¬ false = true by decide)]
          split
          · rw [am_u_row _ _ _ _ (by decide), am_u_row _ _ _ _ (by decide)]
          · rw [a_kp_ask _ _ _ _ _ _ _ _ _ 6 (by decide) (by decide)]
theorem a_fold_6 (D : a_F) (k wo : Int32) (q : Nat) : ∀ (l : List Nat) s, l.foldl (a_event D k wo) s 6 q = a_lnd D q (s 6 q) (a_lst (a_brd D q) l)
  | [], s => rfl
  | y :: r, s => by
    show r.foldl (a_event D k wo) (a_event D k wo s y) 6 q = _
    rw [a_fold_6 D k wo q r, a_event_6]
    show _ = a_lnd D q (s 6 q) (match a_lst (a_brd D q) r with | some z => some z | none => if a_brd D q y = true then some y else none)
    cases h : a_lst (a_brd D q) r with
    | some z => rfl
    | none =>
      dsimp only
      by_cases hy : a_brd D q y = true
      · rw [if_pos hy, if_pos hy]; rfl
      · rw [if_neg hy, if_neg hy]
theorem a_day_0 (D : a_F) : ∀ (l : List Nat) f, a_day D 0 l f = 0
  | [], f => rfl
  | g :: r, f => by
    unfold a_day
    split
    · rw [Nat.zero_div, Nat.zero_mod]
    · exact a_day_0 D r f
theorem a_run_6 {nl nq np nf na : Nat} {D : a_F} (hW : a_D nl nq np nf na D) (k last wo : Int32) (q : Nat) : ∃ c, c.Pairwise (· ≤ ·) ∧ a_lst (a_brd D q) c = none ∧ a_run D 0 last k wo 6 q = a_lnd D q (D 60 q) (a_lst (a_brd D q) (a_calF D k last 0 nf 0 c)) := by
  have e6 : a_ix (D 59 6) = nf := by rw [hW.2.2.2.2.1]; exact nI_clamp (by have := hW.2.2.2.2.2; omega)
  have e32 : a_ix (D 59 32) = na := by rw [hW.1.1.2.2]; exact nI_clamp (by have := hW.1.2.1.2.2.2; omega)
  refine ⟨a_calA D k wo last na 0 [], a_calA_srt _ _ _ _ _ _ _ List.Pairwise.nil, a_lst_no _ (fun y hy => ?_), ?_⟩
  · rcases a_calA_mem hW.2.2.2.1 k wo last na 0 [] (by omega) hy with h | ⟨a, u, h1, h2, h3⟩
    · cases h
    · have hna := hW.1.2.1.2.2.2
      unfold a_brd
      rw [decide_eq_false (by omega)]
      rfl
  · unfold a_run a_cal
    rw [a_fold_6, e6, e32]
    rfl
section LandOf
variable {β : Bool} {xs : Nat → Int32} {L : Nat} {G : am_G} {I : a_F} {J : Nat → Nat → Int64}
theorem k_loL {d nl nq np nf na q day : Nat} {D : a_F} (hR : q_RT G) (hD : c_D nl nq np nf na D I) (hF : a_DF nl nq np nf D) (hf2 : nf ≤ 100) (hq : q < nq) (hq2 : nq ≤ 12) (hday : day ≤ 72999) (k : Int32) {Q : am_O → am_H → Prop} : ∀ m f c (v dd : Int32) (v7 : Value), am_nl v7 = true → f + m = nf → c.Pairwise (· ≤ ·) →
    ((a_lst (a_brd D q) c = none ∧ dd = -1 ∧ v = D 60 q) ∨ ∃ g u, g < f ∧ u ≤ 72999 ∧ a_lst (a_brd D q) c = some (u * 128 + (12 + g)) ∧ dd = nI u ∧ v = D 66 g) →
    Q (.inl (some (.int (a_lnd D q (D 60 q) (a_lst (a_brd D q) (a_calF D k (nI day) 0 m f c)))))) (G, I, J) →
    q_W β xs L (d + 1) 81 37 [.ref 0, .int (nI q), .int (nI day), .int k, .int v, .int dd, .int (nI f), v7] [] (G, I, J) Q
  | 0, f, c, v, dd, v7, n7, hm, hs, hi, hQ => by
    refine g_81_37 hR _ _ _ _ _ _ _ n7 ⟨fun _ => ?_, fun z => ?_⟩
    · have e : a_lnd D q (D 60 q) (a_lst (a_brd D q) c) = v := by
        rcases hi with ⟨h1, h2, h3⟩ | ⟨g, u, h1, h2, h3, h4, h5⟩
        · rw [h1, h3]; rfl
        · rw [h3, h5]
          show D 66 ((u * 128 + (12 + g)) % 128 - 12) = D 66 g
          rw [show (u * 128 + (12 + g)) % 128 - 12 = g by omega]
      rw [← e]
      exact hQ
    · rw [hD.1.2.2.2.1, nI_ltI (by omega) (by omega)] at z
      omega
  | m + 1, f, c, v, dd, v7, n7, hm, hs, hi, hQ => by
    have hf : f < nf := by omega
    have e78 : I 7 8 = nI nf := hD.1.2.2.2.1
    obtain ⟨d1, d2, d3, d4, d5, d6, d7, d8⟩ := hD.2.2.2.1 f hf
    obtain ⟨⟨kd, hk1, hk2, -, -, hk5⟩, cn, hc1, hc2, hc3, hc4⟩ := hF f hf
    obtain ⟨u, hu, hu2⟩ := hc4 0 (by omega)
    have ecn : a_ix (D 70 f) = cn := by rw [hc3]; exact nI_clamp (by omega)
    have e14 : I 14 (3 * f) = nI u := (d8 0 (by omega)).trans hu2
    have eon : a_on D k 0 f = nI u := by unfold a_on; rw [a_day_0]; exact hu2
    have ef : (nI f).toNatClampNeg = f := nI_clamp (by omega)
    have e3 : (nI f * 3 : Int32) = nI (3 * f) := by rw [show (3 : Int32) = nI 3 from rfl, pk_mul, Nat.mul_comm]
    have key : (u * 128 + (12 + f)) % 128 = 12 + f := by omega
    have ebr : a_brd D q (u * 128 + (12 + f)) = (decide (D 64 f = 5) && decide (a_ix (D 67 f) = q)) := by
      unfold a_brd
      rw [key, decide_eq_true (by omega), Bool.true_and, show 12 + f - 12 = f by omega]
    have ecal : a_calF D k (nI day) 0 (m + 1) f c = a_calF D k (nI day) 0 m (f + 1) (if a_knF D k f = true ∧ ¬ nI day < nI u then a_ins (u * 128 + (12 + f)) c else c) := by
      show a_calF D k (nI day) 0 m (f + 1) (if a_knF D k f = true ∧ ¬ nI day < a_on D k 0 f then a_ins (a_ix (a_on D k 0 f) * 128 + (12 + f)) c else c) = _
      rw [eon, show a_ix (nI u) = u from nI_clamp (by omega)]
    rw [ecal] at hQ
    have skip : ∀ c', c'.Pairwise (· ≤ ·) → a_lst (a_brd D q) c' = a_lst (a_brd D q) c → Q (.inl (some (.int (a_lnd D q (D 60 q) (a_lst (a_brd D q) (a_calF D k (nI day) 0 m (f + 1) c')))))) (G, I, J) → q_W β xs L (d + 1) 81 133 [.ref 0, .int (nI q), .int (nI day), .int k, .int v, .int dd, .int (nI f), .int (nI u)] [] (G, I, J) Q := fun c' hs' hl hq' => by
      refine g_81_133 hR _ _ _ _ _ _ _ ?_
      rw [nI_1]
      refine k_loL hR hD hF hf2 hq hq2 hday k m (f + 1) c' v dd _ rfl (by omega) hs' ?_ hq'
      rw [hl]
      rcases hi with h | ⟨g, w, h1, h2⟩
      · exact Or.inl h
      · exact Or.inr ⟨g, w, by omega, h2⟩
    have notP : (decide (D 64 f = 5) && decide (a_ix (D 67 f) = q)) = false → q_W β xs L (d + 1) 81 133 [.ref 0, .int (nI q), .int (nI day), .int k, .int v, .int dd, .int (nI f), .int (nI u)] [] (G, I, J) Q := fun hp => by
      refine skip _ ?_ ?_ hQ
      · split
        · exact a_ins_srt _ hs
        · exact hs
      · split
        · exact a_lst_insN (by rw [ebr]; exact hp) c
        · rfl
    have notC : ¬ (a_knF D k f = true ∧ ¬ nI day < nI u) → q_W β xs L (d + 1) 81 133 [.ref 0, .int (nI q), .int (nI day), .int k, .int v, .int dd, .int (nI f), .int (nI u)] [] (G, I, J) Q := fun hp => by
      rw [if_neg hp] at hQ
      exact skip c hs rfl hQ
    refine g_81_37 hR _ _ _ _ _ _ _ n7 ⟨fun z => absurd (by rw [e78]; exact (nI_ltI (by omega) (by omega)).mpr (by omega)) z, fun _ => ?_⟩
    rw [e3, show (nI (3 * f)).toNatClampNeg = 3 * f from nI_clamp (by omega), ef, e14, d1]
    refine ⟨am_is_nI (by omega) (by omega), am_is_nI (by omega) (by omega), fun z => notP (by rw [decide_eq_false z]; rfl), fun k5 => ⟨am_is_nI (by omega) (by omega), ?_⟩⟩
    have ekd : kd = 5 := by
      rw [hk2] at k5
      exact nI_inj2 (b := 5) (by omega) (by omega) k5
    obtain ⟨q', hq', hq'2⟩ := hk5 (Or.inr (by omega))
    have e11 : I 11 f = nI q' := by
      rw [d4, if_pos (Or.inr (by rw [k5]; decide)), hq'2]
    have eix : a_ix (D 67 f) = q' := by rw [hq'2]; exact nI_clamp (by omega)
    rw [e11, show (nI q' = nI q) = (q' = q) from propext (nI_eq (by omega) (by omega))]
    refine ⟨fun z => notP (by rw [eix, decide_eq_false z, Bool.and_false]), fun eqq => ?_⟩
    have hP : a_brd D q (u * 128 + (12 + f)) = true := by rw [ebr, eix, decide_eq_true k5, decide_eq_true eqq]; rfl
    refine q_useI (c_isKnown (β := β) (xs := xs) (L := L) (d := d) hR (D := D) (f := f) (by omega) d5 d6 k) (by omega) ⟨hR, fun z => notC (fun h => ?_), fun z => ?_⟩
    · rw [a_is_0.mp z] at h
      exact absurd h.1 (by decide)
    · have hkn : a_knF D k f = true := by
        cases hh : a_knF D k f with
        | true => rfl
        | false => exact absurd (a_is_0.mpr hh) z
      refine ⟨fun y => notC (fun h => h.2 y), fun y => ?_⟩
      rw [if_pos ⟨hkn, y⟩] at hQ
      have hs' : (a_ins (u * 128 + (12 + f)) c).Pairwise (· ≤ ·) := a_ins_srt _ hs
      have hl := a_lst_ins hP c hs
      rcases hi with ⟨h1, h2, h3⟩ | ⟨g, w, h1, h2, h3, h4, h5⟩
      · refine ⟨fun x => ?_, fun x => ⟨am_is_nI (by omega) (by omega), ?_⟩⟩
        · rw [h2] at x
          exact absurd x (by
            intro x
            rw [Int32.lt_iff_toInt_lt, nI_toInt (by omega)] at x
            have : (-1 : Int32).toInt = -1 := by decide
            omega)
        · refine g_81_133 hR _ _ _ _ _ _ _ ?_
          rw [nI_1]
          refine k_loL hR hD hF hf2 hq hq2 hday k m (f + 1) _ _ _ _ rfl (by omega) hs' (Or.inr ⟨f, u, by omega, hu, by rw [hl, h1], rfl, ?_⟩) hQ
          rw [d3, if_neg (by rw [k5]; decide)]
      · rw [h4, show (nI u < nI w) = (u < w) from propext (nI_ltI (by omega) (by omega))]
        refine ⟨fun x => ?_, fun x => ⟨am_is_nI (by omega) (by omega), ?_⟩⟩
        · rw [← h4]
          refine skip _ hs' ?_ hQ
          rw [hl, h3]
          show (if u * 128 + (12 + f) < w * 128 + (12 + g) then some (w * 128 + (12 + g)) else some (u * 128 + (12 + f))) = _
          rw [if_pos (by omega)]
        · refine g_81_133 hR _ _ _ _ _ _ _ ?_
          rw [nI_1]
          refine k_loL hR hD hF hf2 hq hq2 hday k m (f + 1) _ _ _ _ rfl (by omega) hs' (Or.inr ⟨f, u, by omega, hu, ?_, rfl, ?_⟩) hQ
          · rw [hl, h3]
            show (if u * 128 + (12 + f) < w * 128 + (12 + g) then some (w * 128 + (12 + g)) else some (u * 128 + (12 + f))) = _
            rw [if_neg (by omega)]
          · rw [d3, if_neg (by rw [k5]; decide)]
def o_landOf (x1 x2 x3 : Int32) : w_T → Nat × Int32 := fun w => match w with
  | ((nl, nq, np, nf, na, tn, tp), tb, fp, D) => (a_bt (a_lt x1 nq && a_dy x2) (a_ev x3 tn), a_run D 0 x2 x3 (-1) 6 (a_ix x1))
theorem k_landOf {d e : Nat} {w : w_T} (hC : c_I e w G I J) (hw : w_O w) (x1 x2 x3 : Int32) : q_W β xs L (d + 2) 81 0 [.ref 0, .int x1, .int x2, .int x3, .retAddr 0, .retAddr 0, .retAddr 0, .retAddr 0] [] (G, I, J) (k_T (o_landOf x1 x2 x3 w).1 w e I J (o_landOf x1 x2 x3 w).2) := by
  obtain ⟨⟨nl, nq, np, nf, na, tn, tp⟩, tb, fp, D⟩ := w
  have hC0 := hC
  obtain ⟨j, hL, hD, h3, h4, h5, h6⟩ := hC
  have hq2 : nq ≤ 12 := hw.1.1.2.1.2.1
  have ht : tn ≤ 999 := hw.2.2.1
  have hf2 : nf ≤ 100 := hw.1.2.2.2.2.2
  have hR := hL.2.1
  have e11 : I 1 1 = nI nq := hD.1.2.1
  have bad : ∀ t : Nat, t ≠ 0 → a_bt (a_lt x1 nq && a_dy x2) (a_ev x3 tn) = t → k_T (o_landOf x1 x2 x3 ((nl, nq, np, nf, na, tn, tp), tb, fp, D)).1 ((nl, nq, np, nf, na, tn, tp), tb, fp, D) e I J (o_landOf x1 x2 x3 ((nl, nq, np, nf, na, tn, tp), tb, fp, D)).2 (.inr t) ((am_thr (G, I, J)).1, I, J) := fun t ht0 hto => by
    have ev : (o_landOf x1 x2 x3 ((nl, nq, np, nf, na, tn, tp), tb, fp, D)).1 = t := hto
    rw [ev]
    exact k_bad hC0 ht0 _
  refine g_81_0 hR _ _ _ ?_
  rw [e11]
  refine q_needN (d := d) hR x1 nq (by omega) (fun b1 => ?_) (fun b1 => bad 1 (by decide) (a_bt1 (by rw [b1]; rfl)))
  refine q_needD (d := d) hR x2 (by omega) (fun b2 => ?_) (fun b2 => bad 1 (by decide) (a_bt1 (by rw [b1, b2]; rfl)))
  refine q_needE (d := d) (tn := tn) hR h3.1 x3 (by omega) (fun b4 => ⟨hR, ?_⟩) (fun b4 => bad 2 (by decide) (a_bt2 (by rw [b1, b2]; rfl) b4))
  obtain ⟨q, hq, rfl⟩ := a_lt_of (by omega) b1
  obtain ⟨day, hd, rfl⟩ := a_dy_of b2
  have ev : o_landOf (nI q) (nI day) x3 ((nl, nq, np, nf, na, tn, tp), tb, fp, D) = (0, a_run D 0 (nI day) x3 (-1) 6 q) := by
    unfold o_landOf
    dsimp only
    rw [a_bt0 (by rw [b1, b2]; rfl) b4, show a_ix (nI q) = q from nI_clamp (by omega)]
  rw [ev]
  obtain ⟨c, c1, c2, c3⟩ := a_run_6 hw.1 x3 (nI day) (-1) q
  have c3' : a_run D 0 (nI day) x3 (-1) 6 q = a_lnd D q (D 60 q) (a_lst (a_brd D q) (a_calF D x3 (nI day) 0 nf 0 c)) := c3
  rw [show (nI q).toNatClampNeg = q from nI_clamp (by omega), hD.2.1 q hq]
  refine ⟨am_is_nI (by omega) (by omega), k_loL (d := d + 1) hR hD hw.1.2.2.1 hf2 hq hq2 hd x3 nf 0 c _ _ _ rfl (Nat.zero_add _) c1 (Or.inl ⟨c2, rfl, rfl⟩) ?_⟩
  dsimp only
  rw [c3']
  exact k_good (f_c.rf I) (f_c.rf J) hC0 _
theorem p_landOf {d v : Nat} {w : w_T} (hr : r_I v w I J) (hw : w_O w) (hR : q_RT G) (x1 x2 x3 : Int32) : q_W β xs L (d + 9) 169 0 [.ref 59, .int x1, .int x2, .int x3] [] (G, I, J) (p_P w v G I J (o_landOf x1 x2 x3 w).1 (o_landOf x1 x2 x3 w).2) := by
  obtain ⟨⟨nl, nq, np, nf, na, tn, tp⟩, tb, fp, D⟩ := w
  have hr0 : r_I v ((nl, nq, np, nf, na, tn, tp), tb, fp, D) (am_u I 59 0 0) J := hr.c0 0
  obtain ⟨hD, h2, -⟩ := hr
  have hq2 : nq ≤ 12 := hw.1.1.2.1.2.1
  have ht : tn ≤ 999 := hw.2.2.1
  have e4 : I 59 4 = nI nq := hD.1.2.1
  have f0 : f_r I (am_u I 59 0 0) := (f_r.rf I).up _ _ (by decide)
  have at45 : ∀ t : Nat, t ≠ 0 → a_bt (a_lt x1 nq && a_dy x2) (a_ev x3 tn) = t → q_W β xs L (d + 9) 169 45 [.ref 59, .int x1, .int x2, .int x3] [] (G, am_u (am_u I 59 0 0) 59 0 (nI t), J) (p_P ((nl, nq, np, nf, na, tn, tp), tb, fp, D) v G I J (o_landOf x1 x2 x3 ((nl, nq, np, nf, na, tn, tp), tb, fp, D)).1 (o_landOf x1 x2 x3 ((nl, nq, np, nf, na, tn, tp), tb, fp, D)).2) := fun t ht0 hto => by
    have ev : (o_landOf x1 x2 x3 ((nl, nq, np, nf, na, tn, tp), tb, fp, D)).1 = t := hto
    rw [ev]
    exact g_169_45 hR _ _ _ (p_bad f0 hr0 ht0 _ _)
  have at30 : ∀ b : Bool, b = (a_lt x1 nq && a_dy x2) → q_W β xs L (d + 9) 169 30 [.ref 59, .int x1, .int x2, .int x3] [.int (a_is b), .ref 59] (G, am_u I 59 0 0, J) (p_P ((nl, nq, np, nf, na, tn, tp), tb, fp, D) v G I J (o_landOf x1 x2 x3 ((nl, nq, np, nf, na, tn, tp), tb, fp, D)).1 (o_landOf x1 x2 x3 ((nl, nq, np, nf, na, tn, tp), tb, fp, D)).2) := fun b hb => by
    refine g_169_30 hR _ _ _ _ (q_right (d := d + 8) hR b am_u_same (by decide) (Nat.le_refl _) (fun z => ⟨fun q => absurd q (by decide), fun _ => ?_⟩) (fun z => ⟨fun _ => at45 1 (by decide) (a_bt1 (hb.symm.trans z)), fun q => absurd rfl q⟩))
    have hb' := hb.symm.trans z
    refine r_isEv (I := am_u I 59 0 0) (d := d + 7) (tn := tn) hR h2.1 x3 am_u_same (fun b4 => ⟨fun _ => ?_, fun q => absurd q (by decide)⟩) (fun b4 => ⟨fun q => absurd rfl q, fun _ => at45 2 (by decide) (a_bt2 hb' b4)⟩)
    have hb2 := hb'
    rw [Bool.and_eq_true] at hb2
    obtain ⟨q, hq, rfl⟩ := a_lt_of (by omega) hb2.1
    obtain ⟨k, hk, rfl⟩ := a_ev_of ht b4
    have ev : o_landOf (nI q) x2 (nI k) ((nl, nq, np, nf, na, tn, tp), tb, fp, D) = (0, a_run D 0 x2 (nI k) (-1) 6 q) := by
      unfold o_landOf
      dsimp only
      rw [a_bt0 hb' b4, show a_ix (nI q) = q from nI_clamp (by omega)]
    rw [ev]
    refine p_find (d := d + 7) hr0 hw hR k (fun I1 f1 C1 z1 c1 => ?_)
    refine p_runs (d := d) (way := 0) C1 hw hR (by omega) c1 x2 (-1) (fun I2 n' f2 C2 z2 c2 S2 ok2 en en2 _ => ⟨hR, am_is_nI (by omega) (by omega), ?_⟩)
    dsimp only
    rw [show (nI q).toNatClampNeg = q from nI_clamp (by omega), show I2 97 q = a_run D 0 x2 (nI k) (-1) 6 q from (S2.2.1 q hq).1]
    exact p_good ((f0.tr f1).tr f2) C2 (z2.trans (z1.trans am_u_same)) _
  refine g_169_0 hR _ _ _ ?_
  rw [e4]
  refine ⟨fun z => g_169_29 hR _ _ _ (at30 false (by simp [a_lt, z])), fun z => ⟨fun y => g_169_29 hR _ _ _ (at30 false (by simp [a_lt, y])), fun y => ?_⟩⟩
  refine q_isDay (d := d) hR x2 (by omega) ⟨fun u => g_169_29 hR _ _ _ (at30 false (by rw [a_is_0.mp u, Bool.and_false])), fun u => at30 true ?_⟩
  have : a_dy x2 = true := by
    cases hh : a_dy x2 with
    | true => rfl
    | false => exact absurd (a_is_0.mpr hh) u
  rw [this]
  simp [a_lt, z, y]
end LandOf

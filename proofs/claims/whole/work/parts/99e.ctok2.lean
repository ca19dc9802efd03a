/-! ===== the class's tokens: words ===== -/
/-- along the words: which one is the token from p to q; lk how far the token is like it -/
def yt_wl (tb : Nat → Nat) (p q : Nat) : List Nat → Nat → Option Nat → Nat
  | [], _, _ => 28
  | c :: r, k, lk => if c = 32 then (if lk = some q then k else yt_wl tb p q r (k + 1) (some p)) else yt_wl tb p q r k (match lk with
    | some j => if j < q ∧ tb j = c then some (j + 1) else none
    | none => none)
theorem yt_wl_none {tb : Nat → Nat} {p q : Nat} {r : List Nat} {k : Nat} : ∀ w : List Nat, (∀ c ∈ w, c ≠ 32) → yt_wl tb p q (w ++ 32 :: r) k none = yt_wl tb p q r (k + 1) (some p)
  | [], _ => by
    show (if (32 : Nat) = 32 then (if none = some q then k else _) else _) = _
    rw [if_pos rfl, if_neg (by simp)]
  | c :: w, h => by
    show (if c = 32 then _ else yt_wl tb p q (w ++ 32 :: r) k none) = _
    rw [if_neg (h c (by simp)), yt_wl_none w (fun x hx => h x (by simp [hx]))]
theorem yt_rng (tb : Nat → Nat) (j n : Nat) : (List.range (n + 1)).map (fun i => tb (j + i)) = tb j :: (List.range n).map (fun i => tb (j + 1 + i)) := by
  rw [List.range_succ_eq_map, List.map_cons, List.map_map]
  refine congrArg (List.cons (tb j)) ?_
  refine List.map_congr_left (fun i _ => ?_)
  show tb (j + (i + 1)) = _
  rw [show j + (i + 1) = j + 1 + i by omega]
theorem yt_wl_some {tb : Nat → Nat} {p q : Nat} {r : List Nat} {k : Nat} : ∀ (w : List Nat) (j : Nat), (∀ c ∈ w, c ≠ 32) → j ≤ q → yt_wl tb p q (w ++ 32 :: r) k (some j) = if (List.range (q - j)).map (fun i => tb (j + i)) = w then k else yt_wl tb p q r (k + 1) (some p)
  | [], j, _, hj => by
    show (if (32 : Nat) = 32 then (if some j = some q then k else _) else _) = _
    rw [if_pos rfl]
    by_cases e : j = q
    · rw [if_pos (by rw [e]), if_pos (by rw [e, Nat.sub_self]; rfl)]
    · obtain ⟨m, hm⟩ : ∃ m, q - j = m + 1 := ⟨q - j - 1, by omega⟩
      rw [if_neg (fun z => e (Option.some.inj z)), if_neg (by rw [hm, yt_rng]; simp)]
  | c :: w, j, h, hj => by
    show (if c = 32 then _ else yt_wl tb p q (w ++ 32 :: r) k (if j < q ∧ tb j = c then some (j + 1) else none)) = _
    rw [if_neg (h c (by simp))]
    by_cases hc : j < q ∧ tb j = c
    · obtain ⟨m, hm⟩ : ∃ m, q - j = m + 1 := ⟨q - j - 1, by omega⟩
      rw [if_pos hc, yt_wl_some w (j + 1) (fun x hx => h x (by simp [hx])) (by omega), hm, yt_rng, hc.2, show q - (j + 1) = m by omega]
      by_cases e : (List.range m).map (fun i => tb (j + 1 + i)) = w
      · rw [if_pos e, if_pos (by rw [e])]
      · rw [if_neg e, if_neg (fun z => e (List.cons.inj z).2)]
    · rw [if_neg hc, yt_wl_none w (fun x hx => h x (by simp [hx])), if_neg]
      intro z
      refine hc ?_
      by_cases e : j < q
      · obtain ⟨m, hm⟩ : ∃ m, q - j = m + 1 := ⟨q - j - 1, by omega⟩
        rw [hm, yt_rng] at z
        exact ⟨e, (List.cons.inj z).1⟩
      · rw [show q - j = 0 by omega] at z
        cases z
theorem yt_wl_ws {tb : Nat → Nat} {p q : Nat} (hp : p ≤ q) : ∀ (ws : List (List Nat)) (k : Nat), (∀ w ∈ ws, ∀ c ∈ w, c ≠ 32) → k + ws.length = 28 → yt_wl tb p q (ws.flatMap (fun w => w ++ [32])) k (some p) = yt_find tb p q ws k
  | [], k, _, hk => by
    show 28 = k
    exact hk.symm
  | w :: r, k, h, hk => by
    have e : (w :: r).flatMap (fun w => w ++ [32]) = w ++ 32 :: r.flatMap (fun w => w ++ [32]) := by simp
    simp only [List.length_cons] at hk
    rw [e, yt_wl_some w p (h w (by simp)) hp, yt_wl_ws hp r (k + 1) (fun x hx => h x (by simp [hx])) (by omega)]
    have e2 : yt_find tb p q (w :: r) k = if yt_is tb p q w = true then k else yt_find tb p q r (k + 1) := rfl
    rw [e2]
    unfold yt_is
    by_cases z : (List.range (q - p)).map (fun i => tb (p + i)) = w
    · rw [if_pos z, if_pos (decide_eq_true z)]
    · rw [if_neg z, if_neg (by rw [decide_eq_false z]; decide)]
theorem yt_ws32 : ∀ w ∈ yt_ws, ∀ c ∈ w, c ≠ 32 := by decide +kernel
theorem yt_wl_word {tb : Nat → Nat} {p q : Nat} (hp : p ≤ q) : yt_wl tb p q yt_txt 0 (some p) = yt_word tb p q := yt_wl_ws hp yt_ws 0 yt_ws32 rfl
/-- the class stands before a text of n bytes -/
def c_tx (tb : Nat → Nat) (n : Nat) (G : am_G) (I : a_F) : Prop := G.2.1 32 1 = some 57 ∧ I 32 2 = nI n ∧ n ≤ 500 ∧ ∀ i, i < n → tb i < 256 ∧ I 57 i = c_byte (tb i)
/-- what next() changes -/
def c_nsc (c i : Nat) : Bool := Nat.beq c 32 && (Nat.ble 3 i && Nat.ble i 8)
theorem c_nsc_no {c i : Nat} (h : c ≠ 32) : c_nsc c i = false := by
  unfold c_nsc
  cases hh : Nat.beq c 32 with
  | false => rfl
  | true => exact absurd (Nat.eq_of_beq_eq_true hh) h
theorem c_tx.F {tb : Nat → Nat} {n : Nat} {G : am_G} {I I' : a_F} (h : c_tx tb n G I) (hf : q_F c_nsc I I') : c_tx tb n G I' := by
  obtain ⟨h1, h2, h3, h4⟩ := h
  refine ⟨h1, (hf 32 2 rfl).trans h2, h3, fun i hi => ?_⟩
  rw [hf 57 i rfl]
  exact h4 i hi
def yt_lk : Option Nat → Int32
  | none => -1
  | some j => nI j
section Ctok2
variable {β : Bool} {xs : Nat → Int32} {L : Nat} {G : am_G} {I : a_F} {J : Nat → Nat → Int64} {d : Nat} {Q : am_O → am_H → Prop}
theorem k_wdL (hR : q_RT G) {tb : Nat → Nat} {n p q : Nat} (hX : c_tx tb n G I) (h3 : I 32 3 = nI q) (h5 : I 32 5 = nI p) (hpq : p ≤ q) (hqn : q ≤ n) {w : Nat} (hQ : Q (.inl (some (.int (nI w)))) (G, I, J)) : ∀ m i k (lk : Option Nat) (v4 : Value), am_nl v4 = true → i + m = 154 → (∀ j, lk = some j → j ≤ q) → yt_wl tb p q (yt_txt.drop i) k lk = w →
    q_W β xs L (d + 4) 45 9 [.ref 32, .int (nI k), .int (yt_lk lk), .int (nI i), v4] [] (G, I, J) Q
  | 0, i, k, lk, v4, n4, hi, hlk, hw => by
    have e : i = 154 := by omega
    subst e
    rw [List.drop_eq_nil_of_le (by rw [yt_txt_len]; exact Nat.le_refl _)] at hw
    refine g_45_9 hR _ _ _ _ n4 ⟨Or.inl rfl, q_useI (k_len3 (β := β) (xs := xs) (L := L) (d := d + 2) hR) (Nat.le_refl _) ⟨fun _ => ?_, fun z => absurd z (by decide)⟩⟩
    have e28 : w = 28 := hw.symm
    rw [e28] at hQ
    exact hQ
  | m + 1, i, k, lk, v4, n4, hi, hlk, hw => by
    have hi2 : i < 154 := by omega
    have hc := yt_ch3 i hi2
    have hdr : yt_txt.drop i = yt_txt.getD i 0 :: yt_txt.drop (i + 1) := by
      have hl : i < yt_txt.length := by rw [yt_txt_len]; exact hi2
      rw [List.drop_eq_getElem_cons hl, List.getD_eq_getElem?_getD, List.getElem?_eq_getElem hl]
      rfl
    rw [hdr] at hw
    generalize hce : yt_txt.getD i 0 = c at hc hw
    refine g_45_9 hR _ _ _ _ n4 ⟨Or.inl rfl, q_useI (k_len3 (β := β) (xs := xs) (L := L) (d := d + 2) hR) (Nat.le_refl _) ⟨fun z => absurd ((nI_ltI (by omega) (by omega)).mpr hi2) z, fun _ => ⟨Or.inl rfl, ?_⟩⟩⟩
    refine q_useI (k_chr (β := β) (xs := xs) (L := L) (d := d) hR hi2) (Nat.le_refl _) ?_
    rw [hce]
    have e32 : nI c = 32 ↔ c = 32 := nI_eq (b := 32) (by omega) (by omega)
    have at85 : ∀ k' lk', (∀ j, lk' = some j → j ≤ q) → yt_wl tb p q (yt_txt.drop (i + 1)) k' lk' = w → q_W β xs L (d + 4) 45 85 [.ref 32, .int (nI k'), .int (yt_lk lk'), .int (nI i), .int (nI c)] [] (G, I, J) Q := fun k' lk' a1 a2 => by
      refine g_45_85 hR _ _ _ _ ?_
      rw [nI_1]
      exact k_wdL hR hX h3 h5 hpq hqn hQ m (i + 1) k' lk' _ rfl (by omega) a1 a2
    have at63 : ∀ lk', (∀ j, lk' = some j → j ≤ q) → yt_wl tb p q (yt_txt.drop (i + 1)) k lk' = w → q_W β xs L (d + 4) 45 63 [.ref 32, .int (nI k), .int (yt_lk lk), .int (nI i), .int (nI c)] [.int (yt_lk lk')] (G, I, J) Q := fun lk' a1 a2 => g_45_63 hR _ _ _ _ _ (at85 k lk' a1 a2)
    have at62 : yt_wl tb p q (yt_txt.drop (i + 1)) k none = w → q_W β xs L (d + 4) 45 62 [.ref 32, .int (nI k), .int (yt_lk lk), .int (nI i), .int (nI c)] [] (G, I, J) Q := fun a2 => g_45_62 hR _ _ _ _ (at63 none (fun j hj => (by cases hj)) a2)
    rw [e32, h3, h5, nI_1]
    have hq500 : q ≤ 500 := Nat.le_trans hqn hX.2.2.1
    refine ⟨fun z => ⟨fun y => ?_, fun y => ?_⟩, fun z => ?_⟩
    · refine at85 (k + 1) (some p) (fun j hj => by cases hj; exact hpq) ?_
      have hn : ¬ lk = some q := fun x => y (by rw [x]; rfl)
      have hw2 : (if c = 32 then (if lk = some q then k else yt_wl tb p q (yt_txt.drop (i + 1)) (k + 1) (some p)) else _) = w := hw
      rw [if_pos z, if_neg hn] at hw2
      exact hw2
    · have hn : lk = some q := by
        cases lk with
        | none => exact absurd y.symm (nI_m1 (by omega))
        | some j =>
          have := hlk j rfl
          rw [nI_inj2 (by omega) (by omega) y]
      have hw2 : (if c = 32 then (if lk = some q then k else yt_wl tb p q (yt_txt.drop (i + 1)) (k + 1) (some p)) else _) = w := hw
      rw [if_pos z, if_pos hn] at hw2
      rw [hw2]
      exact hQ
    · cases lk with
      | none =>
        have hw2 : (if c = 32 then _ else yt_wl tb p q (yt_txt.drop (i + 1)) k none) = w := hw
        rw [if_neg z] at hw2
        exact ⟨fun _ => at62 hw2, fun y => absurd (by decide) y⟩
      | some j =>
        have hw2 : (if c = 32 then _ else yt_wl tb p q (yt_txt.drop (i + 1)) k (if j < q ∧ tb j = c then some (j + 1) else none)) = w := hw
        rw [if_neg z] at hw2
        have hjq := hlk j rfl
        have ej : (nI j).toNatClampNeg = j := nI_clamp (by omega)
        refine ⟨fun y => absurd y (nI_pos (by omega)), fun _ => ⟨fun y => at62 ?_, fun y => ⟨57, hX.1, 500, rfl, ?_⟩⟩⟩
        · have hn : ¬ (j < q ∧ tb j = c) := fun x => y ((nI_ltI (by omega) (by omega)).mpr x.1)
          have hw3 : yt_wl tb p q (yt_txt.drop (i + 1)) k (if j < q ∧ tb j = c then some (j + 1) else none) = w := hw2
          rw [if_neg hn] at hw3
          exact hw3
        · have y1 : j < q := (nI_ltI (by omega) (by omega)).mp y
          obtain ⟨b1, b2⟩ := hX.2.2.2 j (by omega)
          have hw3 : yt_wl tb p q (yt_txt.drop (i + 1)) k (if j < q ∧ tb j = c then some (j + 1) else none) = w := hw2
          show am_is (nI j) 500 = true ∧ ((¬ I 57 (nI j).toNatClampNeg = nI c → _) ∧ (I 57 (nI j).toNatClampNeg = nI c → _))
          rw [ej, b2, c_byte_eq b1 hc]
          refine ⟨am_is_nI (by omega) (by omega), fun x => at62 ?_, fun x => ?_⟩
          · rw [if_neg (fun u => x u.2)] at hw3
            exact hw3
          · rw [if_pos ⟨y1, x⟩] at hw3
            show q_W β xs L (d + 4) 45 63 _ [.int (nI j + 1)] (G, I, J) Q
            rw [nI_1]
            exact at63 (some (j + 1)) (fun j' hj' => by cases hj'; exact y1) hw3
theorem k_wd (hR : q_RT G) {tb : Nat → Nat} {n p q : Nat} (hX : c_tx tb n G I) (h3 : I 32 3 = nI q) (h5 : I 32 5 = nI p) (hpq : p ≤ q) (hqn : q ≤ n) : q_W β xs L (d + 4) 45 0 [.ref 32, .retAddr 0, .retAddr 0, .retAddr 0, .retAddr 0] [] (G, I, J) (fun o h => o = .inl (some (.int (nI (yt_word tb p q)))) ∧ h = (G, I, J)) := by
  refine g_45_0 hR ?_
  rw [h5]
  exact k_wdL hR hX h3 h5 hpq hqn (w := yt_word tb p q) ⟨rfl, rfl⟩ 154 0 0 (some p) _ rfl rfl (fun j hj => by cases hj; exact hpq) (yt_wl_word hpq)
end Ctok2

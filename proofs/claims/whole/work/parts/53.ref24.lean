/-! ===== calendars; the reference: sorts ===== -/
theorem a_ins_app {x : Nat} : ∀ l1 l2 : List Nat, (∀ y ∈ l1, ¬ x < y) → (∀ y ∈ l2, x < y) → a_ins x (l1 ++ l2) = l1 ++ x :: l2
  | [], [], _, _ => rfl
  | [], y :: r, _, h => by
    show (if x < y then _ else _) = _
    rw [if_pos (h y List.mem_cons_self)]
    rfl
  | y :: r, l2, h1, h2 => by
    show (if x < y then _ else _) = _
    rw [if_neg (h1 y List.mem_cons_self)]
    show y :: a_ins x (r ++ l2) = _
    rw [a_ins_app r l2 (fun z hz => h1 z (List.mem_cons_of_mem _ hz)) h2]
    rfl
theorem a_ins_mem {x z : Nat} : ∀ l : List Nat, z ∈ a_ins x l → z = x ∨ z ∈ l
  | [], h => by
    have : z ∈ [x] := h
    exact Or.inl (by simpa using this)
  | y :: r, h => by
    unfold a_ins at h
    split at h
    · exact List.mem_cons.mp h
    · rcases List.mem_cons.mp h with h | h
      · exact Or.inr (by rw [h]; exact List.mem_cons_self)
      · rcases a_ins_mem r h with h | h
        · exact Or.inl h
        · exact Or.inr (List.mem_cons_of_mem _ h)
theorem a_ins_len {x : Nat} : ∀ l : List Nat, (a_ins x l).length = l.length + 1
  | [] => rfl
  | y :: r => by
    unfold a_ins
    split
    · rfl
    · show (a_ins x r).length + 1 = _
      rw [a_ins_len r]
      rfl
theorem a_ins_srt {x : Nat} : ∀ l : List Nat, l.Pairwise (· ≤ ·) → (a_ins x l).Pairwise (· ≤ ·)
  | [], _ => List.Pairwise.cons (fun _ h => absurd h (by simp)) List.Pairwise.nil
  | y :: r, h => by
    unfold a_ins
    split
    · rename_i hxy
      refine List.Pairwise.cons (fun z hz => ?_) h
      rcases List.mem_cons.mp hz with e | e
      · omega
      · have := List.rel_of_pairwise_cons h e
        omega
    · rename_i hxy
      refine List.Pairwise.cons (fun z hz => ?_) (a_ins_srt r (List.Pairwise.of_cons h))
      rcases a_ins_mem r hz with e | e
      · omega
      · exact List.rel_of_pairwise_cons h e
theorem a_srt_take {x : Nat} : ∀ (l : List Nat) n y, l.Pairwise (· ≤ ·) → l[n]? = some y → ¬ x < y → ∀ z ∈ l.take (n + 1), ¬ x < z
  | [], n, y, _, h, _ => by simp at h
  | g :: r, 0, y, _, h, hy => by
    intro z hz
    have e : g = y := by simpa using h
    have e2 : z = g := by simpa using hz
    rw [e2, e]
    exact hy
  | g :: r, n + 1, y, hp, h, hy => by
    have hr : r[n]? = some y := by simpa using h
    intro z hz
    rw [List.take_succ_cons] at hz
    rcases List.mem_cons.mp hz with e | e
    · have := List.rel_of_pairwise_cons hp (List.mem_of_getElem? hr)
      omega
    · exact a_srt_take r n y (List.Pairwise.of_cons hp) hr hy z e
/-- the reference's calendar -/
def r_cal (I : a_F) (l : List Nat) : Prop := I 59 73 = nI l.length ∧ ∀ i x, l[i]? = some x → I 108 i = nI (x % 128) ∧ I 109 i = nI (x / 128)
def r_cls (c i : Nat) : Bool := Nat.beq c 108 || (Nat.beq c 109 || (Nat.beq c 59 && Nat.beq i 73))
section R24
variable {β : Bool} {xs : Nat → Int32} {L : Nat} {G : am_G} {J : Nat → Nat → Int64}
theorem r_sortL {d : Nat} (hR : q_RT G) {I0 : a_F} {l : List Nat} (hs : l.Pairwise (· ≤ ·)) (hl : l.length < 112) (hB : ∀ y ∈ l, y < 128 * 73000) {e dd : Nat} (he : e < 128) (hdd : dd ≤ 72999) (i3 : Int32) {Q : am_O → am_H → Prop} (hQ : ∀ I', q_F r_cls I0 I' → r_cal I' (a_ins (dd * 128 + e) l) → Q (.inl none) (G, I', J)) : ∀ n (I : a_F), n ≤ l.length → q_F r_cls I0 I → I 59 73 = nI l.length →
    (∀ i y, i < n → l[i]? = some y → I 108 i = nI (y % 128) ∧ I 109 i = nI (y / 128)) → (∀ i y, n ≤ i → l[i]? = some y → I 108 (i + 1) = nI (y % 128) ∧ I 109 (i + 1) = nI (y / 128)) → (∀ y ∈ l.drop n, dd * 128 + e < y) →
    q_W β xs L d 146 12 [.ref 59, .int (nI e), .int (nI dd), .int i3, .int (nI n)] [] (G, I, J) Q := by
  intro n
  have at94 : ∀ n (I : a_F), n ≤ l.length → q_F r_cls I0 I → I 59 73 = nI l.length → (∀ i y, i < n → l[i]? = some y → I 108 i = nI (y % 128) ∧ I 109 i = nI (y / 128)) → (∀ i y, n ≤ i → l[i]? = some y → I 108 (i + 1) = nI (y % 128) ∧ I 109 (i + 1) = nI (y / 128)) → (∀ y ∈ l.drop n, dd * 128 + e < y) → (∀ y ∈ l.take n, ¬ dd * 128 + e < y) →
      q_W β xs L d 146 94 [.ref 59, .int (nI e), .int (nI dd), .int i3, .int (nI n)] [] (G, I, J) Q := by
    intro n I hn hf h73 h1 h2 h3 h4
    have en : (nI n).toNatClampNeg = n := nI_clamp (by omega)
    refine g_146_94 hR _ _ _ _ ⟨am_is_nI (by omega) (by omega), am_is_nI (by omega) (by omega), ?_⟩
    rw [en, h73]
    have ei : a_ins (dd * 128 + e) l = l.take n ++ (dd * 128 + e) :: l.drop n := by
      have := a_ins_app (x := dd * 128 + e) (l.take n) (l.drop n) h4 h3
      rwa [List.take_append_drop] at this
    have v108 : ∀ i, am_u (am_u (am_u I 108 n (nI e)) 109 n (nI dd)) 59 73 (nI l.length + 1) 108 i = if i = n then nI e else I 108 i := fun i => by simp [am_u]
    have v109 : ∀ i, am_u (am_u (am_u I 108 n (nI e)) 109 n (nI dd)) 59 73 (nI l.length + 1) 109 i = if i = n then nI dd else I 109 i := fun i => by simp [am_u]
    refine hQ _ (((hf.up _ rfl).up _ rfl).up _ rfl) ⟨?_, fun i x hx => ?_⟩
    · rw [am_u_same, a_ins_len, nI_1]
    · rw [ei] at hx
      have hlt : (l.take n).length = n := by rw [List.length_take]; omega
      rw [v108, v109]
      by_cases hi : i < n
      · rw [List.getElem?_append_left (by omega), List.getElem?_take_of_lt hi] at hx
        rw [if_neg (by omega), if_neg (by omega)]
        exact h1 i x hi hx
      · rw [List.getElem?_append_right (by omega), hlt] at hx
        cases hk : i - n with
        | zero =>
          rw [hk] at hx
          have e1 : dd * 128 + e = x := by simpa using hx
          have e2 : i = n := by omega
          rw [if_pos e2, if_pos e2, ← e1]
          exact ⟨by congr 1; omega, by congr 1; omega⟩
        | succ j =>
          rw [hk, List.getElem?_cons_succ, List.getElem?_drop] at hx
          have := h2 (n + j) x (by omega) hx
          rw [if_neg (by omega), if_neg (by omega), show i = n + j + 1 by omega]
          exact this
  induction n with
  | zero =>
    intro I hn hf h73 h1 h2 h3
    exact g_146_12 hR _ _ _ _ ⟨fun _ => at94 0 I hn hf h73 h1 h2 h3 (by simp), fun z => absurd z (by decide)⟩
  | succ n ih =>
    intro I hn hf h73 h1 h2 h3
    have hnl : n < l.length := by omega
    obtain ⟨y, hy⟩ : ∃ y, l[n]? = some y := ⟨l[n], List.getElem?_eq_getElem hnl⟩
    have en : (nI n).toNatClampNeg = n := nI_clamp (by omega)
    have en1 : (nI (n + 1)).toNatClampNeg = n + 1 := nI_clamp (by omega)
    have ip : nI (n + 1) - 1 = nI n := nI_pred n
    have i0 : am_is (nI n) 112 = true := am_is_nI (by omega) (by omega)
    have i1 : am_is (nI (n + 1)) 112 = true := am_is_nI (by omega) (by omega)
    obtain ⟨y1, y2⟩ := h1 n y (by omega) hy
    have no : ¬ dd * 128 + e < y → q_W β xs L d 146 94 [.ref 59, .int (nI e), .int (nI dd), .int i3, .int (nI (n + 1))] [] (G, I, J) Q := fun h => at94 (n + 1) I hn hf h73 h1 h2 h3 (a_srt_take l n y hs hy h)
    have yes : dd * 128 + e < y → q_W β xs L d 146 56 [.ref 59, .int (nI e), .int (nI dd), .int i3, .int (nI (n + 1))] [] (G, I, J) Q := fun h => by
      refine g_146_56 hR _ _ _ _ ?_
      rw [ip, pk_m1, en, en1]
      refine ⟨i0, i1, i0, i1, ?_⟩
      refine ih _ (by omega) ((hf.up _ rfl).up _ rfl) ?_ (fun i z hi hz => ?_) (fun i z hi hz => ?_) (fun z hz => ?_)
      · rw [am_u_ne (Or.inl (by decide)), am_u_ne (Or.inl (by decide))]; exact h73
      · have := h1 i z (by omega) hz
        rw [am_u_ne (Or.inl (by decide)), am_u_ne (Or.inr (by omega)), am_u_ne (Or.inr (by omega)), am_u_ne (Or.inl (by decide))]
        exact this
      · by_cases hin : i = n
        · subst hin
          rw [hy] at hz
          have e1 : y = z := Option.some.inj hz
          rw [am_u_ne (Or.inl (by decide)), am_u_same, am_u_same, ← e1]
          exact ⟨y1, y2⟩
        · have := h2 i z (by omega) hz
          rw [am_u_ne (Or.inl (by decide)), am_u_ne (Or.inr (by omega)), am_u_ne (Or.inr (by omega)), am_u_ne (Or.inl (by decide))]
          exact this
      · rw [List.drop_eq_getElem_cons hnl] at hz
        rcases List.mem_cons.mp hz with q | q
        · have : l[n] = y := by rw [List.getElem?_eq_getElem hnl] at hy; exact Option.some.inj hy
          rw [q, this]
          exact h
        · exact h3 z q
    have hyb := hB y (List.mem_of_getElem? hy)
    have lt1 : nI dd < nI (y / 128) ↔ dd < y / 128 := nI_ltI (by omega) (by omega)
    have lt2 : nI e < nI (y % 128) ↔ e < y % 128 := nI_ltI (by omega) (by omega)
    refine g_146_12 hR _ _ _ _ ⟨fun z => absurd ((nI_ltI (a := 0) (by omega) (by omega)).mpr (by omega)) z, fun _ => ?_⟩
    rw [ip, en, y1, y2, lt1, lt2]
    refine ⟨i0, fun z => yes (by omega), fun z => ⟨i0, fun w => no (fun q => ?_), fun w => ⟨i0, fun v => no ?_, fun v => yes ?_⟩⟩⟩
    · exact w (by rw [show y / 128 = dd by omega])
    · have := nI_inj2 (by omega) (by omega) w
      omega
    · have := nI_inj2 (by omega) (by omega) w
      omega
theorem r_sorts {d : Nat} (hR : q_RT G) {I : a_F} {l : List Nat} (hc : r_cal I l) (hs : l.Pairwise (· ≤ ·)) (hl : l.length < 112) (hB : ∀ y ∈ l, y < 128 * 73000) {e dd : Nat} (he : e < 128) (hdd : dd ≤ 72999) (last : Int32) :
    q_W β xs L d 146 0 [.ref 59, .int (nI e), .int (nI dd), .int last, .retAddr 0] [] (G, I, J) (fun o h => o = .inl none ∧ ∃ I', h = (G, I', J) ∧ q_F r_cls I I' ∧ r_cal I' (if last < nI dd then l else a_ins (dd * 128 + e) l)) := by
  refine g_146_0 hR _ _ _ ⟨fun z => ?_, fun z => ⟨rfl, I, rfl, q_F.rf _ I, by rw [if_pos z]; exact hc⟩⟩
  rw [hc.1]
  refine r_sortL hR (I0 := I) hs hl hB he hdd last (fun I' q1 q2 => ⟨rfl, I', rfl, q1, by rw [if_neg z]; exact q2⟩) l.length I (Nat.le_refl _) (q_F.rf _ I) hc.1 (fun i y _ h => hc.2 i y h) (fun i y hi h => ?_) (fun y hy => ?_)
  · rw [List.getElem?_eq_none hi] at h; cases h
  · rw [List.drop_length] at hy; cases hy
end R24

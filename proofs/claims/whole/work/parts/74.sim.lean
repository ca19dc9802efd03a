/-! ===== a new place changes no world ===== -/
/-- the data agree but for places -/
def a_DD (D D' : a_F) : Prop := (∀ c, c ≠ 59 → c ≠ 60 → D' c = D c) ∧ ∀ i, i ≠ 4 → D' 59 i = D 59 i
/-- the states agree but for places from nq on -/
def a_sm (nq : Nat) (s s' : a_F) : Prop := (∀ c, c ≠ 6 → s' c = s c) ∧ ∀ q, q < nq → s' 6 q = s 6 q
theorem a_sm.up {nq : Nat} {s s' : a_F} (h : a_sm nq s s') {c : Nat} (hc : c ≠ 6) (i : Nat) (x : Int32) : a_sm nq (am_u s c i x) (am_u s' c i x) := by
  refine ⟨fun r hr => ?_, fun q hq => ?_⟩
  · funext b
    by_cases h1 : r = c
    · subst h1
      by_cases h2 : b = i
      · subst h2; rw [am_u_same, am_u_same]
      · rw [am_u_ne (Or.inr h2), am_u_ne (Or.inr h2), h.1 r hr]
    · rw [am_u_ne (Or.inl h1), am_u_ne (Or.inl h1), h.1 r hr]
  · rw [am_u_ne (Or.inl (Ne.symm hc)), am_u_ne (Or.inl (Ne.symm hc))]
    exact h.2 q hq
theorem a_sm.up6 {nq : Nat} {s s' : a_F} (h : a_sm nq s s') (i : Nat) (x : Int32) : a_sm nq (am_u s 6 i x) (am_u s' 6 i x) := by
  refine ⟨fun r hr => ?_, fun q hq => ?_⟩
  · rw [am_u_row _ _ _ _ hr, am_u_row _ _ _ _ hr]; exact h.1 r hr
  · by_cases h2 : q = i
    · subst h2; rw [am_u_same, am_u_same]
    · rw [am_u_ne (Or.inr h2), am_u_ne (Or.inr h2)]; exact h.2 q hq
section Sim
variable {nq np : Nat} {D D' : a_F}
theorem m_gain {s s' : a_F} (h : a_sm nq s s') (today fact : Int32) (p l k : Nat) (on ch : Int32) : a_sm nq (a_gain s today fact p l k on ch) (a_gain s' today fact p l k on ch) := by
  unfold a_gain a_rec
  rw [h.1 0 (by decide), h.1 9 (by decide), h.1 17 (by decide)]
  exact (((((((((h.up (by decide) _ _).up (by decide) _ _).up (by decide) _ _).up (by decide) _ _).up (by decide) _ _).up (by decide) _ _).up (by decide) _ _).up (by decide) _ _).up (by decide) _ _).up (by decide) _ _
theorem m_lose {s s' : a_F} (h : a_sm nq s s') (p l : Nat) : a_sm nq (a_lose s p l) (a_lose s' p l) := by
  unfold a_lose
  rw [h.1 0 (by decide), h.1 10 (by decide)]
  exact ((h.up (by decide) _ _).up (by decide) _ _).up (by decide) _ _
theorem m_isk (hD : a_DD D D') {s s' : a_F} (h : a_sm nq s s') (today : Int32) (p l k : Nat) (gains : Bool) (c : Nat) : a_isk D' s' today p l k gains c = a_isk D s today p l k gains c := by
  unfold a_isk
  rw [hD.1 62 (by decide) (by decide), hD.1 63 (by decide) (by decide), hD.1 85 (by decide) (by decide), h.1 0 (by decide), h.1 1 (by decide)]
theorem m_kids (hD : a_DD D D') (today fact : Int32) (p l k : Nat) (gains : Bool) : ∀ n c (s s' : a_F), a_sm nq s s' → a_sm nq (a_kids D today fact p l k gains n c s) (a_kids D' today fact p l k gains n c s')
  | 0, _, _, _, h => h
  | n + 1, c, s, s', h => by
    unfold a_kids
    refine m_kids hD today fact p l k gains n (c + 1) _ _ ?_
    rw [m_isk hD h, h.1 8 (by decide)]
    split
    · split
      · exact m_gain h _ _ _ _ _ _ _
      · exact m_lose h _ _
    · exact h
theorem m_has {s s' : a_F} (h : a_sm nq s s') (p : Int32) (l : Nat) : a_has s' p l = a_has s p l := by
  unfold a_has
  rw [h.1 0 (by decide)]
theorem m_lean (hD : a_DD D D') {s s' : a_F} (h : a_sm nq s s') (c : a_C) (wc : Nat → Int32) (p l : Nat) : a_lean D' s' c wc p l = a_lean D s c wc p l := by
  unfold a_lean
  rw [hD.1 62 (by decide) (by decide), hD.1 63 (by decide) (by decide), m_has h, m_has h, h.1 8 (by decide)]
theorem m_change (hD : a_DD D D') {s s' : a_F} (h : a_sm nq s s') (c : a_C) (fact : Int32) (wc : Nat → Int32) (p l k : Nat) : a_sm nq (a_change D s c fact wc p l k) (a_change D' s' c fact wc p l k) := by
  have key : a_sm nq (if decide (D 81 k = 0) = true then a_gain s c.1 fact p l k (a_lean D s c wc p l) 0 else a_lose s p l) (if decide (D 81 k = 0) = true then a_gain s' c.1 fact p l k (a_lean D s c wc p l) 0 else a_lose s' p l) := by
    split
    · exact m_gain h _ _ _ _ _ _ _
    · exact m_lose h _ _
  unfold a_change
  rw [hD.1 81 (by decide) (by decide), hD.1 85 (by decide) (by decide), m_lean hD h, hD.2 5 (by decide)]
  try dsimp only
  split
  · exact key
  · exact m_kids hD _ _ _ _ _ _ _ _ _ _ key
theorem m_changes (hD : a_DD D D') (c : a_C) (fact : Int32) (wc ch : Nat → Int32) (p : Nat) : ∀ n l (s s' : a_F), a_sm nq s s' → a_sm nq (a_changes D c fact wc ch p n l s) (a_changes D' c fact wc ch p n l s')
  | 0, _, _, _, h => h
  | n + 1, l, s, s', h => by
    unfold a_changes
    refine m_changes hD c fact wc ch p n (l + 1) _ _ ?_
    split
    · exact h
    · exact m_change hD h _ _ _ _ _ _
theorem m_worth (hD : a_DD D D') (v : Nat → Int32) (k : Nat) : a_worth D' v k = a_worth D v k := by
  unfold a_worth
  rw [hD.1 86 (by decide) (by decide)]
theorem m_first (hD : a_DD D D') (v : Nat → Int32) (what wanted : Int32) (a : Nat) : ∀ n c, a_first D' v what wanted a n c = a_first D v what wanted a n c
  | 0, _ => rfl
  | n + 1, c => by
    unfold a_first
    rw [m_first hD v what wanted a n (c + 1), m_worth hD, m_worth hD, hD.1 81 (by decide) (by decide), hD.1 82 (by decide) (by decide), hD.1 83 (by decide) (by decide), hD.1 84 (by decide) (by decide)]
theorem m_choose (hD : a_DD D D') (v : Nat → Int32) (what wanted force : Int32) (l : Nat) : ∀ n a, a_choose D' v what wanted force l n a = a_choose D v what wanted force l n a
  | 0, _ => rfl
  | n + 1, a => by
    unfold a_choose
    rw [m_choose hD v what wanted force l n (a + 1), m_first hD, hD.1 74 (by decide) (by decide), hD.1 79 (by decide) (by decide)]
theorem a_val_12 (D s : a_F) (c : a_C) (p l i : Nat) (h : 12 ≤ i) : a_val D s c p l i = if s 1 p = -1 ∨ s 7 (a_ix (s 2 p)) = -1 then 99999 else c.1 - s 7 (a_ix (s 2 p)) := by
  unfold a_val
  split <;> first | omega | rfl
theorem m_val0 {s s' : a_F} (h : a_sm nq s s') (hq : nq ≤ 12) {c : a_C} {p : Nat} (hpl : a_nn nq c.2.2.1) (hst : a_nn nq (s 4 p)) (l : Nat) : a_val D' s' c p l 0 = a_val D s c p l 0 := by
  have hpl2 : a_nn nq (if c.2.2.1 = -1 then s 4 p else c.2.2.1) := by
    split
    · exact hst
    · exact hpl
  simp only [a_val]
  rw [h.1 4 (by decide)]
  generalize (if c.2.2.1 = -1 then s 4 p else c.2.2.1) = x at hpl2 ⊢
  rcases hpl2 with e | ⟨j, hj, e⟩
  · rw [e]
    simp
  · rw [e, show a_ix (nI j) = j from nI_clamp (by omega), h.2 j hj]
theorem m_val7 {s s' : a_F} (h : a_sm nq s s') (hq : nq ≤ 12) {c : a_C} {p : Nat} (hst : a_nn nq (s 4 p)) (l : Nat) : a_val D' s' c p l 7 = a_val D s c p l 7 := by
  simp only [a_val]
  rw [h.1 4 (by decide), h.1 5 (by decide)]
  rcases hst with e | ⟨j, hj, e⟩
  · simp [e]
  · rw [e, show a_ix (nI j) = j from nI_clamp (by omega), h.2 j hj]
theorem m_val (hD : a_DD D D') {s s' : a_F} (h : a_sm nq s s') (hq : nq ≤ 12) {c : a_C} {p : Nat} (hpl : a_nn nq c.2.2.1) (hst : a_nn nq (s 4 p)) (l : Nat) : a_val D' s' c p l = a_val D s c p l := by
  have r : ∀ c, c ≠ 6 → s' c = s c := h.1
  have d1 := hD.1
  funext i
  by_cases h12 : 12 ≤ i
  · rw [a_val_12 _ _ _ _ _ _ h12, a_val_12 _ _ _ _ _ _ h12, r 1 (by decide), r 2 (by decide), r 7 (by decide)]
  · have hi : i = 0 ∨ i = 1 ∨ i = 2 ∨ i = 3 ∨ i = 4 ∨ i = 5 ∨ i = 6 ∨ i = 7 ∨ i = 8 ∨ i = 9 ∨ i = 10 ∨ i = 11 := by omega
    rcases hi with e | e | e | e | e | e | e | e | e | e | e | e <;> subst e
    · exact m_val0 h hq hpl hst l
    · simp only [a_val]
      rw [m_has h, d1 62 (by decide) (by decide)]
    · simp only [a_val]
      rw [m_has h, d1 63 (by decide) (by decide)]
    · simp only [a_val]
      rw [d1 62 (by decide) (by decide), d1 63 (by decide) (by decide), r 3 (by decide)]
    · simp only [a_val]
      rw [m_has h, r 3 (by decide)]
    · simp only [a_val]
      rw [d1 61 (by decide) (by decide)]
    · simp only [a_val]
      rw [r 1 (by decide)]
    · exact m_val7 h hq hst l
    · simp only [a_val]
      rw [r 0 (by decide)]
    · simp only [a_val]
      rw [r 0 (by decide), hD.2 3 (by decide)]
    · simp only [a_val]
    · simp only [a_val]
theorem m_ask (hD : a_DD D D') {s s' : a_F} (h : a_sm nq s s') (hq : nq ≤ 12) {c : a_C} {p : Nat} (hpl : a_nn nq c.2.2.1) (hok : a_ok np nq s) (hp : p < np) (fact force : Int32) (wc : Nat → Int32) (lo n : Nat) : a_sm nq (a_ask D c fact force wc lo n p s) (a_ask D' c fact force wc lo n p s') := by
  have e : a_pick D' s' c force p = a_pick D s c force p := by
    funext l
    unfold a_pick
    rw [m_choose hD, m_val hD h hq hpl (hok p hp).2.1, h.1 0 (by decide), hD.2 32 (by decide)]
  unfold a_ask
  rw [e]
  exact m_changes hD c fact wc _ p n lo s s' h
theorem m_all (hD : a_DD D D') (hq : nq ≤ 12) {c : a_C} (hpl : a_nn nq c.2.2.1) (fact force : Int32) (wc : Nat → Int32) (lo n : Nat) : ∀ m p (s s' : a_F), p + m ≤ np → a_ok np nq s → a_sm nq s s' → a_sm nq (a_all D c fact force wc lo n m p s) (a_all D' c fact force wc lo n m p s')
  | 0, _, _, _, _, _, h => h
  | m + 1, p, s, s', hp, hok, h => by
    unfold a_all
    exact m_all hD hq hpl fact force wc lo n m (p + 1) _ _ (by omega) (hok.kp (a_kp_ask _ _ _ _ _ _ _ _ _)) (m_ask hD h hq hpl hok (by omega) fact force wc lo n)
theorem m_frc (hD : a_DD D D') (day k wo : Int32) (na : Nat) : ∀ m, a_frc D' day k wo na m = a_frc D day k wo na m
  | 0 => rfl
  | m + 1 => by
    unfold a_frc a_knA
    rw [m_frc hD day k wo na m, hD.1 75 (by decide) (by decide), hD.1 76 (by decide) (by decide), hD.1 77 (by decide) (by decide), hD.1 78 (by decide) (by decide), hD.1 80 (by decide) (by decide)]
theorem m_force (hD : a_DD D D') (day k wo : Int32) : a_force D' day k wo = a_force D day k wo := by
  unfold a_force
  rw [m_frc hD, hD.2 32 (by decide)]
theorem m_fact {nl nf na : Nat} (hD : a_DD D D') (hP : a_DP nl nq np na D) (hF : a_DF nl nq np nf D) {s s' : a_F} (h : a_sm nq s s') (hok : a_ok np nq s) (today force : Int32) {f : Nat} (hf : f < nf) : a_sm nq (a_fact D today force f s) (a_fact D' today force f s') := by
  have hn5 := hP.2.1
  obtain ⟨⟨kd, hk, hk2, hp, hl, hq⟩, -⟩ := hF f hf
  have pp : kd ≠ 5 → a_ix (D 65 f) < np := fun h5 => by
    obtain ⟨p, h1, h2, -⟩ := hp h5
    rw [h2, show a_ix (nI p) = p from nI_clamp (by omega)]
    exact h1
  have pq : kd < 2 ∨ 5 ≤ kd → a_nn nq (D 67 f) := fun h5 => by
    obtain ⟨q, h1, h2⟩ := hq h5
    exact Or.inr ⟨q, h1, h2⟩
  unfold a_fact
  rw [hD.1 64 (by decide) (by decide), hD.1 65 (by decide) (by decide), hD.1 66 (by decide) (by decide), hD.1 67 (by decide) (by decide), hD.2 3 (by decide), hD.2 5 (by decide)]
  split
  · rename_i z
    have hkd : kd = 0 := nI_inj2 (b := 0) (by omega) (by omega) (hk2.symm.trans z)
    obtain ⟨q, hq1, hq2⟩ := hq (by omega)
    unfold a_birth
    rw [hD.1 67 (by decide) (by decide), hD.2 3 (by decide), h.1 1 (by decide)]
    split
    · exact m_ask hD ((h.up (by decide) _ _).up (by decide) _ _) hn5.2.1 (pq (by omega)) (by rw [hq2]; exact a_ok_b hok _ _ hq1) (pp (by omega)) _ _ _ _ _
    · exact h
  · split
    · rename_i z
      have hkd : kd = 1 := nI_inj2 (b := 1) (by omega) (by omega) (hk2.symm.trans z)
      obtain ⟨p, hp1, hp2, hp3⟩ := hp (by omega)
      obtain ⟨q, hq1, -, hq3⟩ := hp3 hkd
      have e2 : a_ix (D 66 f) = q := by rw [hq3]; exact nI_clamp (by omega)
      have e1 : a_ix (D 65 f) = p := by rw [hp2]; exact nI_clamp (by omega)
      unfold a_wed
      rw [hD.1 67 (by decide) (by decide), hD.2 3 (by decide), h.1 0 (by decide), h.1 8 (by decide), e1, e2]
      exact m_ask hD (m_ask hD ((h.up (by decide) _ _).up (by decide) _ _) hn5.2.1 (pq (by omega)) (a_ok_w hok hp1 hq1) hp1 _ _ _ _ _) hn5.2.1 (pq (by omega)) ((a_ok_w hok hp1 hq1).kp (a_kp_ask _ _ _ _ _ _ _ _ _)) hq1 _ _ _ _ _
    · split
      · rename_i z
        have hkd : kd = 5 := nI_inj2 (b := 5) (by omega) (by omega) (hk2.symm.trans z)
        have h1 : a_ok np nq (am_u (am_u s 6 (a_ix (D 67 f)) (D 66 f)) 7 (a_ix (D 67 f)) today) := fun p hp => hok p hp
        have e5 : a_ix (D 59 5) = np := by rw [hP.1.2.1]; exact nI_clamp (by omega)
        exact m_all hD hn5.2.1 (pq (by omega)) _ _ _ _ _ _ _ _ _ (by omega) h1 ((h.up6 _ _).up (by decide) _ _)
      · split
        · exact (h.up (by decide) _ _).up (by decide) _ _
        · rename_i z0 z1 z5 z6
          have n5 : kd ≠ 5 := fun q => z5 (by rw [hk2, q]; rfl)
          exact m_ask hD h hn5.2.1 (Or.inl rfl) hok (pp n5) _ _ _ _ _
theorem m_event {nl nf na : Nat} (hD : a_DD D D') (hW : a_D nl nq np nf na D) (k wo : Int32) {s s' : a_F} (h : a_sm nq s s') (hok : a_ok np nq s) {x : Nat} (hx : x % 128 < na ∨ 12 ≤ x % 128 ∧ x % 128 - 12 < nf) : a_sm nq (a_event D k wo s x) (a_event D' k wo s' x) := by
  obtain ⟨hP, hA, hF, hT, h6, hf2⟩ := hW
  have hn5 := hP.2.1
  unfold a_event
  dsimp only
  rw [m_force hD]
  split
  · rename_i z
    unfold a_act
    rw [hD.1 74 (by decide) (by decide), hD.2 5 (by decide)]
    have e5 : a_ix (D 59 5) = np := by rw [hP.1.2.1]; exact nI_clamp (by omega)
    split
    · exact m_all hD hn5.2.1 (Or.inl rfl) _ _ _ _ _ _ _ _ _ (by omega) hok h
    · exact h
  · exact m_fact hD hP hF h hok _ _ (by omega)
theorem m_calA (hD : a_DD D D') (k wo last : Int32) : ∀ n a c, a_calA D' k wo last n a c = a_calA D k wo last n a c
  | 0, _, _ => rfl
  | n + 1, a, c => by
    unfold a_calA a_knA
    rw [m_calA hD k wo last n (a + 1), hD.1 75 (by decide) (by decide), hD.1 76 (by decide) (by decide), hD.1 77 (by decide) (by decide), hD.1 78 (by decide) (by decide)]
theorem m_dbs (hD : a_DD D D') (k : Int32) : ∀ n f, a_dbs D' k n f = a_dbs D k n f
  | 0, _ => rfl
  | n + 1, f => by
    unfold a_dbs a_knF
    rw [m_dbs hD k n (f + 1), hD.1 68 (by decide) (by decide), hD.1 69 (by decide) (by decide), hD.1 70 (by decide) (by decide)]
theorem m_doubts (hD : a_DD D D') (k : Int32) : a_doubts D' k = a_doubts D k := by
  unfold a_doubts
  rw [m_dbs hD, hD.2 6 (by decide)]
theorem m_ways (hD : a_DD D D') : ∀ l, a_ways D' l = a_ways D l
  | [] => rfl
  | f :: r => by
    unfold a_ways
    rw [m_ways hD r, hD.1 70 (by decide) (by decide)]
theorem m_day (hD : a_DD D D') (way : Nat) : ∀ l g, a_day D' way l g = a_day D way l g
  | [], _ => rfl
  | f :: r, g => by
    unfold a_day
    rw [m_day hD way r, m_ways hD, hD.1 70 (by decide) (by decide)]
theorem m_on (hD : a_DD D D') (k : Int32) (way f : Nat) : a_on D' k way f = a_on D k way f := by
  unfold a_on
  rw [m_day hD, m_doubts hD, hD.1 71 (by decide) (by decide)]
theorem m_calF (hD : a_DD D D') (k last : Int32) (way : Nat) : ∀ n f c, a_calF D' k last way n f c = a_calF D k last way n f c
  | 0, _, _ => rfl
  | n + 1, f, c => by
    unfold a_calF a_knF
    rw [m_calF hD k last way n (f + 1), m_on hD, hD.1 68 (by decide) (by decide), hD.1 69 (by decide) (by decide)]
theorem m_run {nl nf na : Nat} (hD : a_DD D D') (h60 : ∀ q, q < nq → D' 60 q = D 60 q) (hW : a_D nl nq np nf na D) (way : Nat) (last k wo : Int32) : a_sm nq (a_run D way last k wo) (a_run D' way last k wo) := by
  have ecal : a_cal D' k wo last way = a_cal D k wo last way := by
    unfold a_cal
    rw [m_calA hD, m_calF hD, hD.2 6 (by decide), hD.2 32 (by decide)]
  have fold : ∀ (l : List Nat) (s s' : a_F), (∀ y ∈ l, y % 128 < na ∨ 12 ≤ y % 128 ∧ y % 128 - 12 < nf) → a_ok np nq s → a_sm nq s s' → a_sm nq (l.foldl (a_event D k wo) s) (l.foldl (a_event D' k wo) s') := by
    intro l
    induction l with
    | nil => intro s s' _ _ h; exact h
    | cons x r ih =>
      intro s s' hm hok h
      have hx := hm x List.mem_cons_self
      rw [List.foldl_cons, List.foldl_cons]
      refine ih _ _ (fun y hy => hm y (List.mem_cons_of_mem _ hy)) ?_ (m_event hD hW k wo h hok hx)
      unfold a_event
      dsimp only
      split
      · exact a_ok_act hok _ _ _
      · exact a_ok_fact hW.1 hW.2.2.1 hok _ _ (by have := hW.1.2.1; omega)
  unfold a_run
  rw [ecal]
  refine fold _ _ _ (fun y hy => (a_cal_mem hW k wo last way hy).2) (a_ok_init D np nq) ⟨fun c hc => ?_, fun q hq => h60 q hq⟩
  funext i
  show (if c = 0 ∨ c = 9 ∨ c = 10 ∨ c = 17 then (0 : Int32) else if c = 6 then D' 60 i else -1) = (if c = 0 ∨ c = 9 ∨ c = 10 ∨ c = 17 then (0 : Int32) else if c = 6 then D 60 i else -1)
  rw [if_neg hc, if_neg hc]
end Sim

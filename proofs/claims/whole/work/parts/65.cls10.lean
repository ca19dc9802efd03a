/-! ===== the class: one happening, with its asking ===== -/
theorem a_changes_none (D : a_F) (c : a_C) (fact : Int32) (wc ch : Nat → Int32) (p : Nat) (h : ∀ l, ch l = -1) : ∀ n l s, a_changes D c fact wc ch p n l s = s
  | 0, _, _ => rfl
  | n + 1, l, s => by
    unfold a_changes
    rw [if_pos (h l)]
    exact a_changes_none D c fact wc ch p h n (l + 1) s
theorem a_pick_none {nl nq np nf na : Nat} {D I : a_F} (hD : c_D nl nq np nf na D I) (hP : a_DP nl nq np na D) (hA : a_DA nl na D) {w : Nat} (hw : w < 7) {c : a_C} (hc : c.2.1 = nI (w + 8)) {force : Int32} (hno : ∀ a, a < na → (bt force a && bt (I 23 a) w) = false) (s : a_F) (p l : Nat) : a_pick D s c force p l = -1 := by
  have hn5 := hP.2.1
  have key : ∀ m a, a + m = na → a_choose D (a_val D s c p l) c.2.1 (if bt (s 0 p) l = true then 1 else 0) force l m a = -1 := by
    intro m
    induction m with
    | zero => intro a _; rfl
    | succ m ih =>
      intro a ha
      unfold a_choose
      split
      · rename_i hfa
        obtain ⟨-, -, -, -, -, -, -, d8⟩ := hD.2.2.2.2 a (by omega)
        obtain ⟨-, cn, hcn, hcn2, -⟩ := hA a (by omega)
        have h1 := hno a (by omega)
        rw [hfa.1, Bool.true_and] at h1
        have h2 : a_first D (a_val D s c p l) c.2.1 (if bt (s 0 p) l = true then 1 else 0) a (a_ix (D 79 a)) 0 = -1 := by
          rcases a_first_sp D (a_val D s c p l) c.2.1 (if bt (s 0 p) l = true then 1 else 0) a (a_ix (D 79 a)) 0 with h | ⟨c', -, h3, -, h4, h5⟩
          · exact h
          · exfalso
            rcases d8 c' (by omega) with ⟨q1, -⟩ | ⟨-, -, ⟨w', q3, q4, -, q6⟩, -⟩
            · rw [q1] at h4
              split at h4 <;> exact absurd h4 (by decide)
            · have : w' = w := by
                have := nI_inj2 (by omega) (by omega) (q4.symm.trans (h5.trans hc))
                omega
              rw [this, h1] at q6
              cases q6
        rw [if_pos h2]
        exact ih (a + 1) (by omega)
      · exact ih (a + 1) (by omega)
  unfold a_pick
  rw [hP.1.2.2, show a_ix (nI na) = na from nI_clamp (by omega)]
  exact key na 0 (by omega)
theorem a_all_none {D : a_F} {c : a_C} {force : Int32} (h : ∀ s p l, a_pick D s c force p l = -1) (fact : Int32) (wc : Nat → Int32) (lo n : Nat) : ∀ m p s, a_all D c fact force wc lo n m p s = s
  | 0, _, _ => rfl
  | m + 1, p, s => by
    unfold a_all a_ask
    rw [a_changes_none _ _ _ _ _ _ (fun l => h s p l)]
    exact a_all_none h fact wc lo n m (p + 1) s
theorem s_bits_0 {p : Nat → Bool} {n : Nat} (hn : n ≤ 32) (h : s_bits p n = 0) : ∀ a, a < n → p a = false := fun a ha => by
  have h1 := s_bits_bt p n a hn (by omega)
  rw [h, b_0] at h1
  simpa [ha] using h1.symm
/-- the state is sound -/
def c_ok (T nl np nq : Nat) (s : a_F) : Prop := a_ok np nq s ∧ a_bo T np s ∧ a_mv nq s ∧ a_bb nl s
theorem a_changes_bt (D : a_F) (c : a_C) (fact : Int32) (wc ch : Nat → Int32) (p : Nat) {x l' : Nat} (hl' : l' < 32) : ∀ n l s, l + n ≤ l' → bt (a_changes D c fact wc ch p n l s 0 x) l' = bt (s 0 x) l'
  | 0, l, s, _ => rfl
  | n + 1, l, s, h => by
    unfold a_changes
    rw [a_changes_bt D c fact wc ch p hl' n (l + 1) _ (by omega)]
    split
    · rfl
    · rw [a_change_bt _ _ _ _ _ _ _ _ (by omega) hl' (by omega)]
theorem c_ok.ask {T nl np nq : Nat} {s : a_F} (h : c_ok T nl np nq s) (D : a_F) (c : a_C) (fact force : Int32) (wc : Nat → Int32) {lo m : Nat} (hm : lo + m ≤ nl) (p : Nat) : c_ok T nl np nq (a_ask D c fact force wc lo m p s) := by
  obtain ⟨h1, h2, h3, h4⟩ := h
  have hk := a_kp_ask D c fact force wc lo m p s
  refine ⟨h1.kp hk, h2.kp hk, fun q hq => ?_, fun x hx i h5 h6 => ?_⟩
  · rw [hk 7 (by decide) (by decide)]; exact h3 q hq
  · unfold a_ask
    rw [a_changes_bt _ _ _ _ _ _ h6 _ _ _ (by omega)]
    exact h4 x hx i h5 h6
theorem c_ok.all {T nl np nq : Nat} (D : a_F) (c : a_C) (fact force : Int32) (wc : Nat → Int32) {lo n : Nat} (hm : lo + n ≤ nl) : ∀ m p {s : a_F}, c_ok T nl np nq s → c_ok T nl np nq (a_all D c fact force wc lo n m p s)
  | 0, _, _, h => h
  | m + 1, p, _, h => c_ok.all D c fact force wc hm m (p + 1) (h.ask D c fact force wc hm p)
section C10
variable {β : Bool} {xs : Nat → Int32} {L : Nat}
theorem c_step {d e j nl nq np nf na T : Nat} {G : am_G} {D I s : a_F} {J : Nat → Nat → Int64} (hL : c_L e j G) (hD : c_D nl nq np nf na D I) (hP : a_DP nl nq np na D) (hA : a_DA nl na D) (hDR : a_DR np D) (hS : c_S nq j I s) (hok : c_ok T nl np nq s) (hT : T < 2 ^ 31) {c : a_C} (hcT : c.1 = nI T) {p w lo m : Nat} (hp : p < np) (hC : c_C I c p w) (hpl : a_nn nq c.2.2.1) (h6w : w = 6 → ∀ l, lo ≤ l → l < lo + m → I 41 3 = nI l)
    {fact force : Int32} (hfa : I 41 4 = fact) (hask : ∀ a, a < na → bt (I 41 5) a = (bt force a && bt (I 23 a) w)) (h10 : I 41 10 = nI lo) (hhi : lo + m ≤ 5) (h3 : ∀ l, l ≤ 5 → (I 41 11 < nI l ↔ lo + m ≤ l)) {wc : Nat → Int32} (hsp : w = 1 → ∃ q, q < 20 ∧ s 3 p = nI q ∧ ∀ l, l < 5 → bt c.2.2.2.2 l = true → I 43 (5 * q + l) = wc l) {n : Nat} (hn : s 17 0 = nI n) (hb : n + 21 * m < 29900) {Q : am_O → am_H → Prop}
    (i1 i2 i3 : Int32) (l4 : Int64) (i6 i7 i8 : Int32) (h8 : i8 < i7) (hat : (I 41 6 = -1 ∧ i8 = nI p) ∨ (¬ I 41 6 = -1 ∧ ((i8 = 0 ∧ I 41 6 = nI p) ∨ (¬ i8 = 0 ∧ I 41 7 = nI p))))
    (hQ : ∀ (G' : am_G) (I' : a_F) (J' : Nat → Nat → Int64) (j' : Nat), c_L e j' G' → c_J J J' → q_F c_sc I I' → c_ct I I' → c_4s I I' s → c_S nq j' I' (a_ask D c fact force wc lo m p s) → q_W β xs L (d + 5) 52 195 [.ref 38, .int i1, .int i2, .int i3, .long l4, .retAddr 0, .int i6, .int i7, .int (i8 + 1)] [] (G', I', J') Q) :
    q_W β xs L (d + 5) 52 195 [.ref 38, .int i1, .int i2, .int i3, .long l4, .retAddr 0, .int i6, .int i7, .int i8] [] (G, I, J) Q := by
  have hR := hL.2.1
  have at61 : q_W β xs L (d + 4) 61 0 [.ref 38, .int i8] [] (G, I, J) (fun o h => o = .inl (some (.int (nI p))) ∧ h = (G, I, J)) := by
    rcases hat with ⟨h1, h2⟩ | ⟨h1, ⟨h2, h3⟩ | ⟨h2, h3⟩⟩
    · exact g_61_0 hR _ ⟨fun z => absurd h1 z, fun _ => ⟨by rw [h2], rfl⟩⟩
    · exact g_61_0 hR _ ⟨fun _ => ⟨fun z => absurd h2 z, fun _ => g_61_34 hR _ _ ⟨by rw [h3], rfl⟩⟩, fun z => absurd z h1⟩
    · exact g_61_0 hR _ ⟨fun _ => ⟨fun _ => g_61_34 hR _ _ ⟨by rw [h3], rfl⟩, fun z => absurd z h2⟩, fun z => absurd z h1⟩
  refine g_52_195 hR _ _ _ _ _ _ _ ⟨fun z => absurd h8 z, fun _ => ?_⟩
  refine q_useI at61 (Nat.le_refl _) ?_
  exact c_ask (d := d) hL hD hP hA hDR hS hok.1 hok.2.1 hok.2.2.1 hok.2.2.2 hT hcT hp hC hpl h6w hfa hask h10 hhi h3 hsp hn hb (fun G' I' J' j' w1 w2 w3 w4 w5 w6 => hQ G' I' J' j' w1 w2 w3 w4 w5 w6)
/-- everybody is asked -/
theorem c_allL {d e nl nq np nf na T : Nat} {D I0 : a_F} {J0 : Nat → Nat → Int64} (hD : c_D nl nq np nf na D I0) (hP : a_DP nl nq np na D) (hA : a_DA nl na D) (hDR : a_DR np D) (hT : T < 2 ^ 31) {c : a_C} (hcT : c.1 = nI T) {w lo m : Nat} (hC : ∀ p, p < np → c_C I0 c p w) (hw1 : w ≠ 1) (hpl : a_nn nq c.2.2.1) (h6w : w = 6 → ∀ l, lo ≤ l → l < lo + m → I0 41 3 = nI l)
    {fact force : Int32} (hfa : I0 41 4 = fact) (hask : ∀ a, a < na → bt (I0 41 5) a = (bt force a && bt (I0 23 a) w)) (h10 : I0 41 10 = nI lo) (hhi : lo + m ≤ 5) (hhi2 : lo + m ≤ nl) (h3 : ∀ l, l ≤ 5 → (I0 41 11 < nI l ↔ lo + m ≤ l)) (h416 : I0 41 6 = -1) {wc : Nat → Int32} {Q : am_O → am_H → Prop} (i1 i2 i3 : Int32) (l4 : Int64) (i6 : Int32) :
    ∀ m' p (G : am_G) (I : a_F) (J : Nat → Nat → Int64) (j : Nat) (s : a_F) (n : Nat), p + m' = np → c_L e j G → c_J J0 J → q_F c_sc I0 I → c_ct I0 I → c_S nq j I s → c_ok T nl np nq s → s 17 0 = nI n → n + 105 * m' < 29900 →
      (∀ (G' : am_G) (I' : a_F) (J' : Nat → Nat → Int64) (j' : Nat) (x y : Int32), c_L e j' G' → c_J J0 J' → q_F c_sc I0 I' → c_cc I0 I' → c_S nq j' I' (a_all D c fact force wc lo m m' p s) → q_W β xs L (d + 5) 52 104 [.ref 38, .int i1, .int i2, .int i3, .long l4, .retAddr 0, .int (i6 + 1), .int x, .int y] [] (G', I', J') Q) →
      q_W β xs L (d + 5) 52 195 [.ref 38, .int i1, .int i2, .int i3, .long l4, .retAddr 0, .int i6, .int (nI np), .int (nI p)] [] (G, I, J) Q
  | 0, p, G, I, J, j, s, n, hpm, hL, hJ, hf, hct, hS, hok, hn, hb, hQ => by
    have hn5 := hP.2.1
    refine g_52_195 hL.2.1 _ _ _ _ _ _ _ ⟨fun _ => hQ G I J j _ _ hL hJ hf hct.cc hS, fun z => ?_⟩
    rw [nI_ltI (by omega) (by omega)] at z
    omega
  | m' + 1, p, G, I, J, j, s, n, hpm, hL, hJ, hf, hct, hS, hok, hn, hb, hQ => by
    have hn5 := hP.2.1
    refine c_step (d := d) hL (hD.F hf) hP hA hDR hS hok hT hcT (p := p) (by omega) ((hC p (by omega)).ct hct) hpl (fun q l a b => (hct.1 3).trans (h6w q l a b)) ((hct.1 4).trans hfa) (force := force) (fun a ha => by rw [hct.1 5, hf 23 a rfl]; exact hask a ha) ((hct.1 10).trans h10) hhi (fun l hl => by rw [hct.1 11]; exact h3 l hl) (wc := wc) (fun q => absurd q hw1) hn (by omega) _ _ _ _ _ _ _ ((nI_ltI (by omega) (by omega)).mpr (by omega)) (Or.inl ⟨(hct.1 6).trans h416, rfl⟩) (fun G' I' J' j' w1 w2 w3 w4 w5 w6 => ?_)
    obtain ⟨n1, y1, y2⟩ := a_ask_le hP.1.2.1 hn5.2.2.1 c fact force wc lo m p (by omega) hn (by omega)
    have k1 := a_kn_le (D := D) (p := p) np 0
    have k2 : m * (1 + a_kn D p np 0) ≤ 5 * 21 := Nat.mul_le_mul (by omega) (by omega)
    rw [nI_1]
    exact c_allL (d := d) hD hP hA hDR hT hcT hC hw1 hpl h6w hfa hask h10 hhi hhi2 h3 h416 i1 i2 i3 l4 i6 m' (p + 1) G' I' J' j' _ n1 (by omega) w1 (hJ.tr w2) (hf.tr w3) (hct.tr w4) w6 (hok.ask D c fact force wc hhi2 p) y1 (by omega) (fun G2 I2 J2 j2 x y z1 z2 z3 z4 z5 => hQ G2 I2 J2 j2 x y z1 z2 z3 z4 z5)
end C10

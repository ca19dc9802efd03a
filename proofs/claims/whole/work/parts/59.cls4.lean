/-! ===== the class: values ===== -/
/-- the JDK's count of bits -/
def c_bc (x : Int32) : Int32 := ((((((((x - (((x.toUInt32 >>> ((1 : Int32).toUInt32 &&& Int32.toUInt32 31)).toInt32) &&& 1431655765)) &&& 858993459) + ((((x - (((x.toUInt32 >>> ((1 : Int32).toUInt32 &&& Int32.toUInt32 31)).toInt32) &&& 1431655765)).toUInt32 >>> ((2 : Int32).toUInt32 &&& Int32.toUInt32 31)).toInt32) &&& 858993459)) + (((((x - (((x.toUInt32 >>> ((1 : Int32).toUInt32 &&& Int32.toUInt32 31)).toInt32) &&& 1431655765)) &&& 858993459) + ((((x - (((x.toUInt32 >>> ((1 : Int32).toUInt32 &&& Int32.toUInt32 31)).toInt32) &&& 1431655765)).toUInt32 >>> ((2 : Int32).toUInt32 &&& Int32.toUInt32 31)).toInt32) &&& 858993459)).toUInt32 >>> ((4 : Int32).toUInt32 &&& Int32.toUInt32 31)).toInt32)) &&& 252645135) + (((((((x - (((x.toUInt32 >>> ((1 : Int32).toUInt32 &&& Int32.toUInt32 31)).toInt32) &&& 1431655765)) &&& 858993459) + ((((x - (((x.toUInt32 >>> ((1 : Int32).toUInt32 &&& Int32.toUInt32 31)).toInt32) &&& 1431655765)).toUInt32 >>> ((2 : Int32).toUInt32 &&& Int32.toUInt32 31)).toInt32) &&& 858993459)) + (((((x - (((x.toUInt32 >>> ((1 : Int32).toUInt32 &&& Int32.toUInt32 31)).toInt32) &&& 1431655765)) &&& 858993459) + ((((x - (((x.toUInt32 >>> ((1 : Int32).toUInt32 &&& Int32.toUInt32 31)).toInt32) &&& 1431655765)).toUInt32 >>> ((2 : Int32).toUInt32 &&& Int32.toUInt32 31)).toInt32) &&& 858993459)).toUInt32 >>> ((4 : Int32).toUInt32 &&& Int32.toUInt32 31)).toInt32)) &&& 252645135).toUInt32 >>> ((8 : Int32).toUInt32 &&& Int32.toUInt32 31)).toInt32)) + ((((((((x - (((x.toUInt32 >>> ((1 : Int32).toUInt32 &&& Int32.toUInt32 31)).toInt32) &&& 1431655765)) &&& 858993459) + ((((x - (((x.toUInt32 >>> ((1 : Int32).toUInt32 &&& Int32.toUInt32 31)).toInt32) &&& 1431655765)).toUInt32 >>> ((2 : Int32).toUInt32 &&& Int32.toUInt32 31)).toInt32) &&& 858993459)) + (((((x - (((x.toUInt32 >>> ((1 : Int32).toUInt32 &&& Int32.toUInt32 31)).toInt32) &&& 1431655765)) &&& 858993459) + ((((x - (((x.toUInt32 >>> ((1 : Int32).toUInt32 &&& Int32.toUInt32 31)).toInt32) &&& 1431655765)).toUInt32 >>> ((2 : Int32).toUInt32 &&& Int32.toUInt32 31)).toInt32) &&& 858993459)).toUInt32 >>> ((4 : Int32).toUInt32 &&& Int32.toUInt32 31)).toInt32)) &&& 252645135) + (((((((x - (((x.toUInt32 >>> ((1 : Int32).toUInt32 &&& Int32.toUInt32 31)).toInt32) &&& 1431655765)) &&& 858993459) + ((((x - (((x.toUInt32 >>> ((1 : Int32).toUInt32 &&& Int32.toUInt32 31)).toInt32) &&& 1431655765)).toUInt32 >>> ((2 : Int32).toUInt32 &&& Int32.toUInt32 31)).toInt32) &&& 858993459)) + (((((x - (((x.toUInt32 >>> ((1 : Int32).toUInt32 &&& Int32.toUInt32 31)).toInt32) &&& 1431655765)) &&& 858993459) + ((((x - (((x.toUInt32 >>> ((1 : Int32).toUInt32 &&& Int32.toUInt32 31)).toInt32) &&& 1431655765)).toUInt32 >>> ((2 : Int32).toUInt32 &&& Int32.toUInt32 31)).toInt32) &&& 858993459)).toUInt32 >>> ((4 : Int32).toUInt32 &&& Int32.toUInt32 31)).toInt32)) &&& 252645135).toUInt32 >>> ((8 : Int32).toUInt32 &&& Int32.toUInt32 31)).toInt32)).toUInt32 >>> ((16 : Int32).toUInt32 &&& Int32.toUInt32 31)).toInt32)) &&& 63)
theorem c_bc5 : ∀ m, m < 32 → c_bc (nI m) = nI (a_oth (nI m) 99 5) := by decide +kernel
theorem b_31 : ∀ i, i < 32 → bt 31 i = decide (i < 5) := by decide +kernel
theorem b_small {y : Int32} (h : ∀ i, 5 ≤ i → i < 32 → bt y i = false) : ∃ m, m < 32 ∧ y = nI m := by
  obtain ⟨m, hm, hm2⟩ := pk_andE y (m := 31) 5 (by decide)
  refine ⟨m, hm, ?_⟩
  rw [← hm2]
  apply b_ext
  intro i hi
  rw [b_and, b_31 i hi]
  by_cases h5 : i < 5
  · simp [h5]
  · rw [h i (by omega) hi]
    rfl
theorem a_oth_eq {x y : Int32} {l l' : Nat} : ∀ n, (∀ i, i < n → ((i ≠ l ∧ bt x i = true) ↔ (i ≠ l' ∧ bt y i = true))) → a_oth x l n = a_oth y l' n
  | 0, _ => rfl
  | n + 1, h => by
    unfold a_oth
    rw [a_oth_eq n (fun i hi => h i (by omega))]
    have := h n (by omega)
    by_cases h1 : n ≠ l ∧ bt x n = true
    · rw [if_pos h1, if_pos (this.mp h1)]
    · rw [if_neg h1, if_neg (fun q => h1 (this.mpr q))]
theorem a_oth_ext {x : Int32} {l : Nat} : ∀ m n, (∀ i, n ≤ i → i < n + m → bt x i = false) → a_oth x l (n + m) = a_oth x l n
  | 0, n, _ => rfl
  | m + 1, n, h => by
    show a_oth x l (n + m) + _ = _
    rw [a_oth_ext m n (fun i h1 h2 => h i h1 (by omega)), if_neg (fun q => absurd ((h (n + m) (by omega) (by omega)).symm.trans q.2) (by decide))]
    rfl
theorem c_bcl {x : Int32} {l n : Nat} (hl : l < 5) (hn : n ≤ 5) (h : ∀ i, n ≤ i → i < 32 → bt x i = false) : c_bc (x &&& ((1 <<< (nI l &&& 31)) ^^^ (-1))) = nI (a_oth x l n) := by
  obtain ⟨m, hm, hm2⟩ := b_small (y := x &&& ((1 <<< (nI l &&& 31)) ^^^ (-1))) (fun i h1 h2 => by rw [b_clr _ (by omega) h2, h i (by omega) h2]; rfl)
  rw [hm2, c_bc5 m hm, ← hm2]
  congr 1
  have e := a_oth_ext (x := x) (l := l) (5 - n) n (fun i h1 h2 => h i h1 (by omega))
  rw [show n + (5 - n) = 5 by omega] at e
  rw [← e]
  refine (a_oth_eq 5 (fun i hi => ?_)).symm
  rw [b_clr _ (by omega) (by omega)]
  by_cases h1 : i = l
  · simp [h1]
  · simp [h1]
    omega
/-- borders lie behind -/
def a_mv (nq : Nat) (s : a_F) : Prop := ∀ q, q < nq → s 7 q = -1 ∨ ∃ b, b < 2 ^ 31 ∧ s 7 q = nI b
/-- bonds are to lands that there are -/
def a_bb (nl : Nat) (s : a_F) : Prop := ∀ p, p < 20 → ∀ i, nl ≤ i → i < 32 → bt (s 0 p) i = false
theorem a_nn_lt {n : Nat} {x : Int32} (hn : n < 2 ^ 31) (h : a_nn n x) : (x < 0 ↔ x = -1) := by
  rcases h with h | ⟨j, hj, h⟩
  · rw [h]; exact ⟨fun _ => rfl, fun _ => by decide⟩
  · rw [h]
    exact ⟨fun z => absurd z (nI_pos (by omega)), fun z => absurd z (nI_m1 (by omega))⟩
section C4
variable {β : Bool} {xs : Nat → Int32} {L : Nat} {G : am_G} {I : Nat → Nat → Int32} {J : Nat → Nat → Int64}
theorem c_count {d : Nat} (hR : q_RT G) (x : Int32) : q_W β xs L d 200 0 [.int x] [] (G, I, J) (fun o h => o = .inl (some (.int (c_bc x))) ∧ h = (G, I, J)) := g_200_0 hR _ ⟨rfl, rfl⟩
theorem c_val {d nl nq np T : Nat} (hR : q_RT G) {j : Nat} {D s : a_F} (hS : c_S nq j I s) (hnl : nl ≤ 5) (hq : nq ≤ 12) (hDl : D 59 3 = nI nl) (hok : a_ok np nq s) (hbo : a_bo T np s) (hmv : a_mv nq s) (hbb : a_bb nl s) (hT : T < 2 ^ 31) (hnp : np ≤ 20) {p l w : Nat} (hp : p < np) (hl : l < 5) (h4 : I 4 p = D 61 p) (h5 : I 5 p = D 62 p) (h6 : I 6 p = D 63 p) (hf : a_nn 20 (D 62 p)) (hm : a_nn 20 (D 63 p))
    {c : a_C} (hC : c_C I c p w) (hpl : a_nn nq c.2.2.1) (h6w : w = 6 → I 41 3 = nI l) {i : Nat} (hi : i < 13) :
    q_W β xs L (d + 1) 66 0 [.ref 38, .int (nI i), .int (nI p), .int (nI l), .retAddr 0, .retAddr 0, .retAddr 0, .retAddr 0, .retAddr 0, .retAddr 0, .retAddr 0] [] (G, I, J) (fun o h => o = .inl (some (.int (a_val D s c p l i))) ∧ h = (G, I, J)) := by
  have hp20 : p < 20 := by omega
  have ep : (nI p).toNatClampNeg = p := nI_clamp (by omega)
  have ip : am_is (nI p) 20 = true := am_is_nI hp20 (by omega)
  obtain ⟨s0, s1, s2, s3, s4, s5⟩ := hS.1 p hp20
  obtain ⟨o1, o2, o3⟩ := hok p hp
  obtain ⟨w7, c0, c1, c2, c3, c4, c5, c6⟩ := hC
  have k1 : ∀ x : Nat, x < 7 → (nI w = nI x ↔ w = x) := fun x hx => nI_eq (by omega) (by omega)
  have w0 : nI w = 0 ↔ w = 0 := k1 0 (by decide)
  have w1 : nI w = 1 ↔ w = 1 := k1 1 (by decide)
  have w5 : nI w = 5 ↔ w = 5 := k1 5 (by decide)
  have k8 : c.2.1 = 8 ↔ w = 0 := by
    rw [c2]
    exact (nI_eq (a := w + 8) (b := 8) (by omega) (by omega)).trans (by omega)
  have k9 : c.2.1 = 9 ↔ w = 1 := by
    rw [c2]
    exact (nI_eq (a := w + 8) (b := 9) (by omega) (by omega)).trans (by omega)
  have k14 : c.2.1 = 14 ↔ w = 6 := by
    rw [c2]
    exact (nI_eq (a := w + 8) (b := 14) (by omega) (by omega)).trans (by omega)
  have lf := a_nn_lt (by omega) hf
  have lm := a_nn_lt (by omega) hm
  have lsp := a_nn_lt (by omega) o1
  have lst := a_nn_lt (by omega) o2
  have hbit := fun (x : Int32) => s_bit x (a := l) (by omega)
  have is20 : ∀ x, a_nn 20 x → ¬ x = -1 → am_is x 20 = true := fun x hx hx2 => by
    rcases hx with h | ⟨y, hy, h⟩
    · exact absurd h hx2
    · rw [h]; exact am_is_nI hy (by omega)
  have is12 : ∀ x, a_nn nq x → ¬ x = -1 → am_is x 12 = true ∧ a_ix x < nq := fun x hx hx2 => by
    rcases hx with h | ⟨y, hy, h⟩
    · exact absurd h hx2
    · rw [h, show a_ix (nI y) = y from nI_clamp (by omega)]; exact ⟨am_is_nI (by omega) (by omega), hy⟩
  have has : ∀ x, a_nn 20 x → ¬ x = -1 → ((I 47 x.toNatClampNeg >>> (nI l &&& 31)) &&& 1) = a_is (a_has s x l) := fun x hx hx2 => by
    rcases hx with h | ⟨y, hy, h⟩
    · exact absurd h hx2
    · unfold a_has
      rw [h, show a_ix (nI y) = y from nI_clamp (by omega), show (nI y).toNatClampNeg = y from nI_clamp (by omega), (hS.1 y hy).1, hbit]
      simp [nI_m1 (a := y) (by omega), a_is]
  have has1 : a_is (a_has s (-1) l) = 0 := by simp [a_has, a_is]
  have fo1 : a_nn 20 (s 3 p) := o1.mono hnp
  refine g_66_0 hR _ _ _ ⟨ip, ip, ?_⟩
  rw [ep, h5, h6]
  have cases13 : i = 0 ∨ i = 1 ∨ i = 2 ∨ i = 3 ∨ i = 4 ∨ i = 5 ∨ i = 6 ∨ i = 7 ∨ i = 8 ∨ i = 9 ∨ i = 10 ∨ i = 11 ∨ i = 12 := by omega
  rcases cases13 with h | h | h | h | h | h | h | h | h | h | h | h | h
  · -- here
    subst h
    refine ⟨84, by decide, ?_⟩
    have at144 : ∀ (i6 x : Int32), x = (if c.2.2.1 = -1 then s 4 p else c.2.2.1) → a_nn nq x → q_W β xs L (d + 1) 66 144 [.ref 38, .int (nI 0), .int (nI p), .int (nI l), .int (D 62 p), .int (D 63 p), .int i6, .retAddr 0, .retAddr 0, .retAddr 0, .retAddr 0] [.int x] (G, I, J) (fun o h => o = .inl (some (.int (a_val D s c p l 0))) ∧ h = (G, I, J)) := by
      intro i6 x hx hx2
      have ev : a_val D s c p l 0 = a_is (!decide (x = -1) && decide (s 6 (a_ix x) = nI l)) := by rw [hx]; rfl
      rw [ev]
      have lx := a_nn_lt (by omega) hx2
      refine g_66_144 hR _ _ _ _ _ _ _ ⟨fun z => ?_, fun z => ?_⟩
      · exact g_66_166 hR _ _ _ _ _ _ _ (g_66_167 hR _ _ _ _ _ _ _ _ ⟨by simp [lx.mp z, a_is], rfl⟩)
      · have hx3 : ¬ x = -1 := fun q => z (lx.mpr q)
        obtain ⟨q1, q2⟩ := is12 x hx2 hx3
        refine ⟨q1, ?_⟩
        rw [show I 53 x.toNatClampNeg = s 6 (a_ix x) from (hS.2.1 _ q2).1]
        exact ⟨fun y => g_66_166 hR _ _ _ _ _ _ _ (g_66_167 hR _ _ _ _ _ _ _ _ ⟨by simp [y, a_is], rfl⟩), fun y => g_66_167 hR _ _ _ _ _ _ _ _ ⟨by simp [y, hx3, a_is], rfl⟩⟩
    have at121 : ∀ b : Bool, (b = true ↔ (w = 0 ∨ w = 1 ∨ w = 5)) → q_W β xs L (d + 1) 66 121 [.ref 38, .int (nI 0), .int (nI p), .int (nI l), .int (D 62 p), .int (D 63 p), .retAddr 0, .retAddr 0, .retAddr 0, .retAddr 0, .retAddr 0] [.int (a_is b)] (G, I, J) (fun o h => o = .inl (some (.int (a_val D s c p l 0))) ∧ h = (G, I, J)) := by
      intro b hb
      refine g_66_121 hR _ _ _ _ _ _ ⟨fun z => ⟨ip, ?_⟩, fun z => ?_⟩
      · have hw : ¬ (w = 0 ∨ w = 1 ∨ w = 5) := fun q => by rw [hb.mpr q] at z; exact absurd z (by decide)
        rw [ep, s4]
        exact at144 _ _ (by rw [if_pos (c4 hw)]) o2
      · have hw : w = 0 ∨ w = 1 ∨ w = 5 := hb.mp (by cases b; exact absurd rfl z; rfl)
        obtain ⟨q1, q2⟩ := c3 hw
        rw [q1]
        exact at144 _ _ (by rw [if_neg q2]) hpl
    have a1 : (w = 0 ∨ w = 1 ∨ w = 5) → q_W β xs L (d + 1) 66 116 [.ref 38, .int (nI 0), .int (nI p), .int (nI l), .int (D 62 p), .int (D 63 p), .retAddr 0, .retAddr 0, .retAddr 0, .retAddr 0, .retAddr 0] [] (G, I, J) (fun o h => o = .inl (some (.int (a_val D s c p l 0))) ∧ h = (G, I, J)) := fun hw => g_66_116 hR _ _ _ _ _ (at121 true ⟨fun _ => hw, fun _ => rfl⟩)
    refine g_66_84 hR _ _ _ _ _ ?_
    rw [c1, w0, w1, w5]
    exact ⟨fun z => a1 (Or.inl z), fun z => ⟨fun y => a1 (Or.inr (Or.inl y)), fun y => ⟨fun x => at121 false ⟨fun q => (by cases q), fun q => by omega⟩, fun x => a1 (Or.inr (Or.inr x))⟩⟩⟩
  · -- father
    subst h
    refine ⟨168, by decide, g_66_168 hR _ _ _ _ _ ?_⟩
    rw [lf]
    exact ⟨fun z => g_66_188 hR _ _ _ _ _ _ ⟨by simp [a_val, z, a_has, a_is], rfl⟩, fun z => ⟨is20 _ hf z, g_66_188 hR _ _ _ _ _ _ ⟨by rw [has _ hf z]; rfl, rfl⟩⟩⟩
  · -- mother
    subst h
    refine ⟨189, by decide, g_66_189 hR _ _ _ _ _ ?_⟩
    rw [lm]
    exact ⟨fun z => g_66_209 hR _ _ _ _ _ _ ⟨by simp [a_val, z, a_has, a_is], rfl⟩, fun z => ⟨is20 _ hm z, g_66_209 hR _ _ _ _ _ _ ⟨by rw [has _ hm z]; rfl, rfl⟩⟩⟩
  · -- wedded
    subst h
    refine ⟨210, by decide, g_66_210 hR _ _ _ _ _ ?_⟩
    have e50 : ∀ x, a_nn 20 x → ¬ x = -1 → I 50 x.toNatClampNeg = s 3 (a_ix x) := fun x hx hx2 => by
      rcases hx with h | ⟨y, hy, h⟩
      · exact absurd h hx2
      · rw [h, show a_ix (nI y) = y from nI_clamp (by omega), show (nI y).toNatClampNeg = y from nI_clamp (by omega)]
        exact (hS.1 y hy).2.2.2.1
    rw [c1, w0, lf, lm, ep, s3, lsp]
    have at286 : ∀ (i8 : Int32) (b : Bool), a_is b = a_val D s c p l 3 → q_W β xs L (d + 1) 66 286 [.ref 38, .int (nI 3), .int (nI p), .int (nI l), .int (D 62 p), .int (D 63 p), .retAddr 0, .retAddr 0, .int i8, .retAddr 0, .retAddr 0] [.int (a_is b)] (G, I, J) (fun o h => o = .inl (some (.int (a_val D s c p l 3))) ∧ h = (G, I, J)) := fun i8 b hb => g_66_286 hR _ _ _ _ _ _ _ ⟨by rw [hb], rfl⟩
    refine ⟨fun z => ?_, fun z => ⟨ip, fun y => g_66_234 hR _ _ _ _ _ _ ⟨by simp [a_val, k8, z, y, a_is], rfl⟩, fun y => g_66_234 hR _ _ _ _ _ _ ⟨by simp [a_val, k8, z, y, a_is], rfl⟩⟩⟩
    have v3 : ∀ b : Bool, a_is b = a_val D s c p l 3 ↔ b = (!decide (D 62 p = -1) && (!decide (D 63 p = -1) && (decide (s 3 (a_ix (D 62 p)) = D 63 p) && decide (s 3 (a_ix (D 63 p)) = D 62 p)))) := fun b => by
      show a_is b = a_is (if c.2.1 = 8 then _ else _) ↔ _
      rw [if_pos (k8.mpr z), a_is_eq]
    have no250 : (!decide (D 62 p = -1) && (!decide (D 63 p = -1) && (decide (s 3 (a_ix (D 62 p)) = D 63 p) && decide (s 3 (a_ix (D 63 p)) = D 62 p)))) = false → q_W β xs L (d + 1) 66 249 [.ref 38, .int (nI 3), .int (nI p), .int (nI l), .int (D 62 p), .int (D 63 p), .retAddr 0, .retAddr 0, .retAddr 0, .retAddr 0, .retAddr 0] [] (G, I, J) (fun o h => o = .inl (some (.int (a_val D s c p l 3))) ∧ h = (G, I, J)) := fun hh =>
      g_66_249 hR _ _ _ _ _ (g_66_250 hR _ _ _ _ _ _ ⟨fun _ => g_66_285 hR _ _ _ _ _ _ (at286 _ false ((v3 false).mpr hh.symm)), fun q => absurd rfl q⟩)
    refine ⟨fun y => no250 (by simp [y]), fun y => ⟨fun x => no250 (by simp [x]), fun x => ?_⟩⟩
    refine g_66_250 hR _ _ _ _ _ _ ⟨fun q => absurd q (by decide), fun _ => ⟨is20 _ hf y, ?_⟩⟩
    rw [e50 _ hf y, e50 _ hm x]
    exact ⟨fun v => g_66_285 hR _ _ _ _ _ _ (at286 _ false ((v3 false).mpr (by simp [v]))), fun v => ⟨is20 _ hm x, fun u => g_66_285 hR _ _ _ _ _ _ (at286 _ false ((v3 false).mpr (by simp [u]))), fun u => at286 _ true ((v3 true).mpr (by simp [y, x, v, u]))⟩⟩
  · -- spouse
    subst h
    refine ⟨287, by decide, g_66_287 hR _ _ _ _ _ ?_⟩
    rw [c1, w1, ep, s3, lsp]
    have vs : w = 1 → ∀ v : Int32, v = c.2.2.2.2 → q_W β xs L (d + 1) 66 326 [.ref 38, .int (nI 4), .int (nI p), .int (nI l), .int (D 62 p), .int (D 63 p), .retAddr 0, .retAddr 0, .retAddr 0, .retAddr 0, .retAddr 0] [.int v] (G, I, J) (fun o h => o = .inl (some (.int (a_val D s c p l 4))) ∧ h = (G, I, J)) := fun hw v hv => by
      refine g_66_326 hR _ _ _ _ _ _ ⟨?_, rfl⟩
      rw [hv, hbit]
      simp [a_val, k9, hw, a_is]
    have vn : ∀ b : Bool, ¬ w = 1 → b = a_has s (s 3 p) l → a_is b = a_val D s c p l 4 := fun b hw hb => by
      simp [a_val, k9, hw, hb]
    refine ⟨fun z => ⟨ip, fun y => g_66_359 hR _ _ _ _ _ _ ⟨?_, rfl⟩, fun y => ⟨ip, is20 _ fo1 y, g_66_359 hR _ _ _ _ _ _ ⟨?_, rfl⟩⟩⟩, fun z => ⟨fun y => vs z _ ?_, fun y => vs z _ ?_⟩⟩
    · rw [← vn false z (by simp [y, a_has])]; rfl
    · rw [has _ fo1 y, vn _ z rfl]
    · have := c6 z
      rwa [if_neg y] at this
    · have := c6 z
      rwa [if_pos y] at this
  · -- sex
    subst h
    refine ⟨360, by decide, g_66_360 hR _ _ _ _ _ ⟨ip, ?_, rfl⟩⟩
    rw [ep, h4]
    rfl
  · -- age
    subst h
    refine ⟨370, by decide, g_66_370 hR _ _ _ _ _ ?_⟩
    rw [ep, s1, c0]
    rcases hbo p hp with h | ⟨b, hb, h⟩
    · exact ⟨ip, fun _ => g_66_401 hR _ _ _ _ _ _ ⟨by simp [a_val, h], rfl⟩, fun z => absurd (by rw [h]; decide) z⟩
    · exact ⟨ip, fun z => absurd z (by rw [h]; exact nI_pos (by omega)), fun z => ⟨ip, by decide, g_66_401 hR _ _ _ _ _ _ ⟨by
        have : ¬ s 1 p = -1 := by rw [h]; exact nI_m1 (by omega)
        simp [a_val, this], rfl⟩⟩⟩
  · -- stay
    subst h
    refine ⟨402, by decide, g_66_402 hR _ _ _ _ _ ?_⟩
    rw [ep, s4, lst]
    have at431 : ∀ b : Bool, (b = true ↔ (s 4 p ≠ -1 ∧ s 6 (a_ix (s 4 p)) = nI l)) → q_W β xs L (d + 1) 66 431 [.ref 38, .int (nI 7), .int (nI p), .int (nI l), .int (D 62 p), .int (D 63 p), .retAddr 0, .retAddr 0, .retAddr 0, .retAddr 0, .retAddr 0] [.int (a_is b)] (G, I, J) (fun o h => o = .inl (some (.int (a_val D s c p l 7))) ∧ h = (G, I, J)) := by
      intro b hb
      refine g_66_431 hR _ _ _ _ _ _ ⟨fun z => g_66_456 hR _ _ _ _ _ _ _ ⟨?_, rfl⟩, fun z => ⟨ip, g_66_456 hR _ _ _ _ _ _ _ ⟨?_, rfl⟩⟩⟩
      · have : ¬ (s 4 p ≠ -1 ∧ s 6 (a_ix (s 4 p)) = nI l) := fun q => by rw [hb.mpr q] at z; exact absurd z (by decide)
        show _ = Sum.inl (some (Value.int (if _ then _ else _)))
        rw [if_neg this]
      · have : s 4 p ≠ -1 ∧ s 6 (a_ix (s 4 p)) = nI l := hb.mp (by cases b; exact absurd rfl z; rfl)
        show _ = Sum.inl (some (Value.int (if _ then _ else _)))
        rw [if_pos this, c0, ep, s5 this.1]
    refine ⟨ip, fun z => g_66_430 hR _ _ _ _ _ (at431 false ⟨fun q => (by cases q), fun q => absurd z q.1⟩), fun z => ⟨ip, (is12 _ o2 z).1, ?_⟩⟩
    rw [show I 53 (s 4 p).toNatClampNeg = s 6 (a_ix (s 4 p)) from (hS.2.1 _ (is12 _ o2 z).2).1]
    exact ⟨fun y => g_66_430 hR _ _ _ _ _ (at431 false ⟨fun q => (by cases q), fun q => absurd q.2 y⟩), fun y => at431 true ⟨fun _ => ⟨z, y⟩, fun _ => rfl⟩⟩
  · -- has
    subst h
    refine ⟨457, by decide, g_66_457 hR _ _ _ _ _ ⟨ip, ?_, rfl⟩⟩
    rw [ep, s0, hbit]
    simp [a_val, a_is]
  · -- others
    subst h
    refine ⟨468, by decide, g_66_468 hR _ _ _ _ _ ⟨ip, ?_⟩⟩
    rw [ep, s0]
    refine q_useI (c_count (β := β) (xs := xs) (L := L) (d := d) hR _) (Nat.le_refl _) ⟨?_, rfl⟩
    rw [c_bcl hl hnl (hbb p hp20)]
    show _ = Sum.inl (some (Value.int (nI (a_oth (s 0 p) l (a_ix (D 59 3))))))
    rw [hDl, show a_ix (nI nl) = nl from nI_clamp (by omega)]
  · -- to
    subst h
    refine ⟨484, by decide, g_66_484 hR _ _ _ _ _ ?_⟩
    by_cases hw : w = 6
    · exact ⟨fun z => absurd (h6w hw) z, fun _ => g_66_500 hR _ _ _ _ _ _ ⟨by simp [a_val, k14, hw, a_is], rfl⟩⟩
    · rw [c5 hw]
      exact ⟨fun z => g_66_500 hR _ _ _ _ _ _ ⟨by simp [a_val, k14, hw, z, a_is], rfl⟩, fun z => g_66_500 hR _ _ _ _ _ _ ⟨by simp [a_val, z, a_is], rfl⟩⟩
  · -- year
    subst h
    refine ⟨501, by decide, g_66_501 hR _ _ _ _ _ ⟨by decide, ?_, rfl⟩⟩
    rw [c0]
    rfl
  · -- moved
    subst h
    refine ⟨513, by decide, g_66_513 hR _ _ _ _ _ ?_⟩
    rw [ep, s2]
    have at541 : ∀ b : Bool, (b = true → ∃ y, y < nq ∧ s 2 p = nI y ∧ I 49 p = nI y ∧ ¬ s 1 p = -1 ∧ ¬ s 7 y = -1) → (b = false → a_val D s c p l 12 = 99999) → q_W β xs L (d + 1) 66 541 [.ref 38, .int (nI 12), .int (nI p), .int (nI l), .int (D 62 p), .int (D 63 p), .retAddr 0, .retAddr 0, .retAddr 0, .retAddr 0, .retAddr 0] [.int (a_is b)] (G, I, J) (fun o h => o = .inl (some (.int (a_val D s c p l 12))) ∧ h = (G, I, J)) := by
      intro b hb1 hb2
      refine g_66_541 hR _ _ _ _ _ _ ⟨fun z => g_66_573 hR _ _ _ _ _ _ _ ⟨?_, rfl⟩, fun z => ?_⟩
      · rw [hb2 (a_is_0.mp z)]
      · have hbt : b = true := by cases b; exact absurd rfl z; rfl
        obtain ⟨y, hy, y1, y2, y3, y4⟩ := hb1 hbt
        rw [ep, y2, show (nI y).toNatClampNeg = y from nI_clamp (by omega), (hS.2.1 y hy).2, c0]
        refine ⟨ip, am_is_nI (by omega) (by omega), g_66_573 hR _ _ _ _ _ _ _ ⟨?_, rfl⟩⟩
        have ey : a_ix (s 2 p) = y := by rw [y1]; exact nI_clamp (by omega)
        simp [a_val, y3, y4, ey]
    have at540 : a_val D s c p l 12 = 99999 → q_W β xs L (d + 1) 66 540 [.ref 38, .int (nI 12), .int (nI p), .int (nI l), .int (D 62 p), .int (D 63 p), .retAddr 0, .retAddr 0, .retAddr 0, .retAddr 0, .retAddr 0] [] (G, I, J) (fun o h => o = .inl (some (.int (a_val D s c p l 12))) ∧ h = (G, I, J)) := fun h => g_66_540 hR _ _ _ _ _ (at541 false (fun q => (by cases q)) (fun _ => h))
    by_cases hb : s 1 p = -1
    · rw [if_pos hb]
      exact ⟨ip, fun _ => at540 (by simp [a_val, hb]), fun z => absurd (by decide) z⟩
    · obtain ⟨y, hy, hy2⟩ := o3 hb
      have ey : a_ix (s 2 p) = y := by rw [hy2]; exact nI_clamp (by omega)
      have e49 : I 49 p = nI y := by rw [s2, if_neg hb, hy2]
      rw [if_neg hb, hy2, show (nI y).toNatClampNeg = y from nI_clamp (by omega), (hS.2.1 y hy).2]
      refine ⟨ip, fun z => absurd z (nI_pos (by omega)), fun _ => ⟨ip, am_is_nI (by omega) (by omega), ?_⟩⟩
      rcases hmv y hy with h | ⟨b, hb2, h⟩
      · exact ⟨fun _ => at540 (by simp [a_val, ey, h]), fun z => absurd (by rw [h]; decide) z⟩
      · exact ⟨fun z => absurd z (by rw [h]; exact nI_pos hb2), fun _ => at541 true (fun _ => ⟨y, hy, hy2, e49, hb, by rw [h]; exact nI_m1 hb2⟩) (fun q => (by cases q))⟩
end C4

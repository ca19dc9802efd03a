/-! ===== the class: what happens, ahead of the asking ===== -/
theorem c_S.row {nq j r : Nat} {I I' s : a_F} (h : c_S nq j I s) (hf : r_fw r I I') (hr : r = 41 ∨ r = 40 ∨ r = 39 ∨ r = 38) : c_S nq j I' s := by
  have hw := c_row_ne (j := j)
  unfold c_S c_rw at h ⊢
  rw [hf 47 (by omega), hf 48 (by omega), hf 49 (by omega), hf 50 (by omega), hf 51 (by omega), hf 52 (by omega), hf 53 (by omega), hf 54 (by omega), hf 43 (by omega), hf 44 (by omega), hf 45 (by omega), hf 42 (by omega), hf (c_row j) (by omega)]
  exact h
theorem r_fw.F41 {I I' : a_F} (hf : r_fw 41 I I') : q_F c_sc I I' := fun c i hc => by
  rw [hf c (fun q => by subst q; cases hc)]
/-- calendar and what is known stay -/
def c_cc (I I' : a_F) : Prop := (∀ i, I' 40 i = I 40 i) ∧ (∀ i, I' 39 i = I 39 i) ∧ I' 38 18 = I 38 18
theorem c_cc.rf (I : a_F) : c_cc I I := ⟨fun _ => rfl, fun _ => rfl, rfl⟩
theorem c_cc.tr {I I1 I2 : a_F} (h1 : c_cc I I1) (h2 : c_cc I1 I2) : c_cc I I2 := ⟨fun i => (h2.1 i).trans (h1.1 i), fun i => (h2.2.1 i).trans (h1.2.1 i), h2.2.2.trans h1.2.2⟩
theorem c_ct.cc {I I' : a_F} (h : c_ct I I') : c_cc I I' := ⟨h.2.1, h.2.2.1, h.2.2.2⟩
theorem r_fw.cc {I I' : a_F} (hf : r_fw 41 I I') : c_cc I I' := ⟨fun i => congrFun (hf 40 (by decide)) i, fun i => congrFun (hf 39 (by decide)) i, congrFun (hf 38 (by decide)) 18⟩
/-- what stands in the happening -/
def c_hp (I I' : a_F) (kd : Nat) (pl to one oth hi : Int32) : Prop := q_F c_sc I I' ∧ c_cc I I' ∧ (∀ i, I' 43 i = I 43 i) ∧ I' 41 0 = I 41 0 ∧ I' 41 4 = I 41 4 ∧ I' 41 1 = nI kd ∧ I' 41 2 = pl ∧ I' 41 3 = to ∧ I' 41 6 = one ∧ I' 41 7 = oth ∧ I' 41 10 = 0 ∧ I' 41 11 = hi
section C9
variable {β : Bool} {xs : Nat → Int32} {L : Nat} {G : am_G} {J : Nat → Nat → Int64}
theorem c_hapPre {d nl nq np nf na : Nat} {I : a_F} (hR : q_RT G) {D : a_F} (hD : c_D nl nq np nf na D I) (hDn : D 59 32 = nI na) (hna : na ≤ 12) {k wo : Int32} (hkn : ∀ a, a < na → bt (I 38 18) a = a_knA D k wo a) {today : Int32} (ht : I 41 0 = today) {f kd : Nat} (hf : f < 100) (hk : kd ≤ 6) (h8 : I 8 f = nI kd) {Q : am_O → am_H → Prop}
    (hQ : ∀ I1, r_fw 41 I I1 → I1 41 0 = I 41 0 → I1 41 4 = I 41 4 → I1 41 1 = nI kd → I1 41 2 = I 11 f → I1 41 3 = (if kd = 1 then -1 else I 10 f) → I1 41 5 = (if kd = 6 then 0 else s_bits (fun a => bt (a_force D today k wo) a && bt (I 23 a) kd) na) → I1 41 6 = I 9 f → q_W β xs L (d + 1) 57 140 [.ref 38, .int (nI f), .int (nI kd)] [.int (if kd = 1 then I 10 f else -1), .ref 41] (G, I1, J) Q) :
    q_W β xs L (d + 1) 57 0 [.ref 38, .int (nI f), .retAddr 0] [] (G, I, J) Q := by
  have ef : (nI f).toNatClampNeg = f := nI_clamp (by omega)
  have jf : am_is (nI f) 100 = true := am_is_nI (by omega) (by omega)
  have k1 : nI kd = 1 ↔ kd = 1 := nI_eq (b := 1) (by omega) (by omega)
  have k6 : nI kd = 6 ↔ kd = 6 := nI_eq (b := 6) (by omega) (by omega)
  have at99 : ∀ (I1 : a_F) (asked to : Int32), r_fw 41 I I1 → I1 41 0 = I 41 0 → I1 41 4 = I 41 4 → I1 41 1 = nI kd → I1 41 2 = I 11 f → I1 41 3 = to → to = (if kd = 1 then -1 else I 10 f) → asked = (if kd = 6 then 0 else s_bits (fun a => bt (a_force D today k wo) a && bt (I 23 a) kd) na) → q_W β xs L (d + 1) 57 99 [.ref 38, .int (nI f), .int (nI kd)] [.int asked, .ref 41] (G, I1, J) Q := by
    intro I1 asked to w1 w2 w3 w4 w5 w6 w7 w8
    have e9 : I1 9 f = I 9 f := congrFun (w1 9 (by decide)) f
    have e10 : I1 10 f = I 10 f := congrFun (w1 10 (by decide)) f
    have key := hQ (am_u (am_u I1 41 5 asked) 41 6 (I 9 f)) ((w1.up _ _).up _ _) w2 w3 w4 w5 (w6.trans w7) (by rw [am_u_ne (Or.inr (by decide)), am_u_same]; exact w8) am_u_same
    refine g_57_99 hR _ _ _ ⟨jf, fun z => ?_, fun z => ⟨jf, ?_⟩⟩
    · rw [k1] at z
      rw [ef, e9]
      rw [if_neg z] at key
      exact key
    · rw [k1] at z
      rw [ef, e9, e10]
      rw [if_pos z] at key
      exact key
  have at56 : ∀ (to : Int32), to = (if kd = 1 then -1 else I 10 f) → q_W β xs L (d + 1) 57 56 [.ref 38, .int (nI f), .int (nI kd)] [.int to, .ref 41] (G, am_u (am_u I 41 1 (nI kd)) 41 2 (I 11 f), J) Q := by
    intro to hto
    have f1 : r_fw 41 I (am_u (am_u (am_u I 41 1 (nI kd)) 41 2 (I 11 f)) 41 3 to) := (((r_fw.rf 41 I).up _ _).up _ _).up _ _
    have D1 := hD.F f1.F41
    have e41 : am_u (am_u I 41 1 (nI kd)) 41 2 (I 11 f) 41 0 = today := ht
    refine g_57_56 hR _ _ _ ⟨fun z => ?_, fun z => ?_⟩
    · rw [k6] at z
      rw [e41]
      refine q_useI (c_force (β := β) (xs := xs) (L := L) (d := d) hR D1 hDn hna today k wo (kn := I 38 18) hkn) (Nat.le_refl _) ?_
      refine q_useI (c_having (β := β) (xs := xs) (L := L) (d := d) hR D1.1.2.2.2.2 hna (w := kd) (by omega) _) (Nat.le_refl _) ?_
      refine at99 _ _ to f1 rfl rfl rfl rfl am_u_same hto ?_
      rw [if_neg z]
      rfl
    · rw [k6] at z
      exact at99 _ _ to f1 rfl rfl rfl rfl am_u_same hto (by rw [if_pos z])
  refine g_57_0 hR _ ?_
  rw [ef, h8]
  refine ⟨jf, jf, fun z => ⟨jf, ?_⟩, fun z => ?_⟩
  · rw [k1] at z
    exact at56 _ (by rw [if_neg z])
  · rw [k1] at z
    exact at56 _ (by rw [if_pos z])
/-- a wedding's other cells -/
theorem c_happen {d e j nl nq np nf na T : Nat} {I s : a_F} (hL : c_L e j G) {D : a_F} (hD : c_D nl nq np nf na D I) (hP : a_DP nl nq np na D) (hF : a_DF nl nq np nf D) (hf2 : nf ≤ 100) (hS : c_S nq j I s) {k wo : Int32} (hkn : ∀ a, a < na → bt (I 38 18) a = a_knA D k wo a) (hT : T < 2 ^ 31) (ht : I 41 0 = nI T) {f kd : Nat} (hf : f < nf) (hk : kd ≤ 6) (hkd : D 64 f = nI kd) {Q : am_O → am_H → Prop}
    (h0 : ∀ p q I', kd = 0 → p < np → q < nq → D 65 f = nI p → D 67 f = nI q → s 1 p = -1 → c_hp I I' 0 (nI q) (-1) (nI p) (-1) (nI nl - 1) → I' 41 5 = s_bits (fun a => bt (a_force D (nI T) k wo) a && bt (I 23 a) 0) na → c_S nq j I' (am_u (am_u s 1 p (nI T)) 2 p (nI q)) → Q (.inl none) (G, I', J))
    (h0' : ∀ p I', kd = 0 → p < np → D 65 f = nI p → s 1 p ≠ -1 → c_hp I I' 0 (D 67 f) (-1) (nI p) (-1) (nI nl - 1) → I' 41 5 = 0 → c_S nq j I' s → Q (.inl none) (G, I', J))
    (h1 : ∀ p q z I', kd = 1 → p < np → q < np → q ≠ p → z < nq → D 65 f = nI p → D 66 f = nI q → D 67 f = nI z → c_hp I I' 1 (nI z) (-1) (nI p) (nI q) (nI nl - 1) → I' 41 5 = s_bits (fun a => bt (a_force D (nI T) k wo) a && bt (I 23 a) 1) na → I' 41 8 = s 0 p → I' 41 9 = s 0 q → c_S nq j I' (am_u (am_u s 3 p (nI q)) 3 q (nI p)) → Q (.inl none) (G, I', J))
    (h2 : ∀ p I', 2 ≤ kd → kd ≤ 4 → p < np → D 65 f = nI p → c_hp I I' kd (-1) (D 66 f) (nI p) (-1) (nI nl - 1) → I' 41 5 = s_bits (fun a => bt (a_force D (nI T) k wo) a && bt (I 23 a) kd) na → c_S nq j I' s → Q (.inl none) (G, I', J))
    (h5 : ∀ q I', kd = 5 → q < nq → D 67 f = nI q → c_hp I I' 5 (nI q) (D 66 f) (-1) (-1) (nI nl - 1) → I' 41 5 = s_bits (fun a => bt (a_force D (nI T) k wo) a && bt (I 23 a) 5) na → c_S nq j I' (am_u (am_u s 6 q (D 66 f)) 7 q (nI T)) → Q (.inl none) (G, I', J))
    (h6 : ∀ p q I', kd = 6 → p < np → q < nq → D 65 f = nI p → D 67 f = nI q → c_hp I I' 6 (nI q) (-1) (nI p) (-1) (nI nl - 1) → I' 41 5 = 0 → c_S nq j I' (am_u (am_u s 4 p (nI q)) 5 p (nI T)) → Q (.inl none) (G, I', J)) :
    q_W β xs L (d + 1) 57 0 [.ref 38, .int (nI f), .retAddr 0] [] (G, I, J) Q := by
  have hR := hL.2.1
  have hn5 := hP.2.1
  obtain ⟨⟨kd', hk', hkd', hp, hl, hq⟩, -⟩ := hF f hf
  have ekd : kd' = kd := nI_inj2 (by omega) (by omega) (hkd'.symm.trans hkd)
  subst ekd
  obtain ⟨e8, e9, e10, e11, -⟩ := hD.2.2.2.1 f hf
  have k0 : nI kd' = 0 ↔ kd' = 0 := nI_eq (b := 0) (by omega) (by omega)
  have k1 : nI kd' = 1 ↔ kd' = 1 := nI_eq (b := 1) (by omega) (by omega)
  have k5 : nI kd' = 5 ↔ kd' = 5 := nI_eq (b := 5) (by omega) (by omega)
  have k6 : nI kd' = 6 ↔ kd' = 6 := nI_eq (b := 6) (by omega) (by omega)
  have lt2 : nI kd' < 2 ↔ kd' < 2 := nI_ltI (b := 2) (by omega) (by omega)
  have lt5 : nI kd' < 5 ↔ kd' < 5 := nI_ltI (b := 5) (by omega) (by omega)
  rw [hkd] at e9 e10 e11
  simp only [k5] at e9
  simp only [k0, k6] at e10
  simp only [lt2, lt5] at e11
  refine c_hapPre (d := d) hR hD hP.1.2.2 hn5.2.2.2 hkn ht (by omega) hk (e8.trans hkd) (fun I1 w1 w2 w3 w4 w5 w6 w7 w8 => ?_)
  have e12 : I1 1 2 = nI nl := (congrFun (w1 1 (by decide)) 2).trans hD.1.1
  rw [e11] at w5
  rw [e10] at w6
  rw [e9] at w8
  rw [e10]
  have S1 := hS.row w1 (Or.inl rfl)
  -- the state behind the common part
  have hp41 : ∀ oth : Int32, ∃ I2 : a_F, I2 = am_u (am_u (am_u I1 41 7 oth) 41 10 0) 41 11 (I1 1 2 - 1) ∧ r_fw 41 I1 I2 ∧ I2 41 0 = I1 41 0 ∧ I2 41 4 = I1 41 4 ∧ I2 41 1 = I1 41 1 ∧ I2 41 2 = I1 41 2 ∧ I2 41 3 = I1 41 3 ∧ I2 41 5 = I1 41 5 ∧ I2 41 6 = I1 41 6 ∧ I2 41 7 = oth ∧ I2 41 10 = 0 ∧ I2 41 11 = nI nl - 1 := fun oth => by
    refine ⟨_, rfl, (((r_fw.rf 41 I1).up _ _).up _ _).up _ _, rfl, rfl, rfl, rfl, rfl, rfl, rfl, ?_, ?_, ?_⟩
    · rw [am_u_ne (Or.inr (by decide)), am_u_ne (Or.inr (by decide)), am_u_same]
    · rw [am_u_ne (Or.inr (by decide)), am_u_same]
    · rw [am_u_same, e12]
  refine g_57_140 hR _ _ _ ?_
  obtain ⟨I2, hI2, v1, v2, v3, v4, v5, v6, v7, v8, v9, v10, v11⟩ := hp41 (if kd' = 1 then if kd' = 0 ∨ kd' = 6 then -1 else D 66 f else -1)
  rw [← hI2]
  have S2 := S1.row v1 (Or.inl rfl)
  have F2 : r_fw 41 I I2 := fun c hc => (v1 c hc).trans (w1 c hc)
  have r43 : ∀ i, I2 43 i = I 43 i := fun i => congrFun (F2 43 (by decide)) i
  rw [k0, k1, k5, k6, w8]
  -- two cells more
  refine ⟨fun z0 => ⟨fun z1 => ⟨fun z5 => ⟨fun z6 => ?_, fun z6 => ?_⟩, fun z5 => ?_⟩, fun z1 => ?_⟩, fun z0 => ?_⟩
  · -- oath, choice, service
    obtain ⟨p, hp1, hp2, -⟩ := hp z5
    refine g_57_301 hR _ _ (h2 p I2 (by omega) (by omega) hp1 hp2 ⟨F2.F41, F2.cc, r43, v2.trans w2, v3.trans w3, v4.trans w4, ?_, ?_, ?_, ?_, v10, v11⟩ ?_ S2)
    · rw [v5, w5, if_neg (by omega)]
    · rw [v6, w6, if_neg (by omega), if_neg (by omega)]
    · rw [v8, w8, if_neg z5, hp2]
    · rw [v9, if_neg z1]
    · rw [v7, w7, if_neg z6]
  · -- a stay
    obtain ⟨p, hp1, hp2, -⟩ := hp z5
    obtain ⟨q, hq1, hq2⟩ := hq (by omega)
    have ip : am_is (nI p) 20 = true := am_is_nI (by omega) (by omega)
    have e41 : I1 41 0 = nI T := w2.trans ht
    rw [if_neg z5, hp2, w5, if_pos (by omega), hq2, e41, show (nI p).toNatClampNeg = p from nI_clamp (by omega)]
    refine ⟨ip, ip, g_57_301 hR _ _ (h6 p q _ z6 hp1 hq1 hp2 hq2 ⟨(F2.F41.up _ rfl).up _ rfl, F2.cc, r43, v2.trans w2, v3.trans w3, v4.trans (w4.trans (by rw [z6])), ?_, ?_, ?_, ?_, v10, v11⟩ ?_ ?_)⟩
    · show I2 41 2 = _
      rw [v5, w5, if_pos (by omega), hq2]
    · show I2 41 3 = _
      rw [v6, w6, if_neg (by omega), if_pos (by omega)]
    · show I2 41 6 = _
      rw [v8, w8, if_neg z5, hp2]
    · show I2 41 7 = _
      rw [v9, if_neg z1]
    · show I2 41 5 = _
      rw [v7, w7, if_pos z6]
    · try dsimp only
      obtain ⟨a1, a2, a3, a4, a5, a6⟩ := S2
      have hr := c_row_ne (j := j)
      refine ⟨fun x hx => ?_, a2, a3, a4, a5, fun m hm => ?_⟩
      · obtain ⟨b1, b2, b3, b4, b5, b6⟩ := a1 x hx
        by_cases hxp : x = p
        · subst hxp
          exact ⟨b1, b2, b3, b4, by simp [am_u], fun _ => by simp [am_u]⟩
        · refine ⟨b1, b2, b3, b4, by simp [am_u, hxp, b5], fun w => ?_⟩
          have : s 4 x ≠ -1 := by simpa [am_u, hxp] using w
          simp [am_u, hxp, b6 this]
      · have z : ∀ i, am_u (am_u I2 51 p (nI q)) 52 p (nI T) (c_row j) i = I2 (c_row j) i := fun i => by
          rw [am_u_ne (Or.inl (by omega)), am_u_ne (Or.inl (by omega))]
        rw [z, z, z, z, z, z, z]
        exact a6 m hm
  · -- a border
    obtain ⟨q, hq1, hq2⟩ := hq (by omega)
    have iq : am_is (nI q) 12 = true := am_is_nI (by omega) (by omega)
    have e41 : I1 41 0 = nI T := w2.trans ht
    rw [w5, if_pos (by omega), hq2, e41, w6, if_neg (by omega), if_neg (by omega), show (nI q).toNatClampNeg = q from nI_clamp (by omega)]
    refine ⟨iq, iq, g_57_301 hR _ _ (h5 q _ z5 hq1 hq2 ⟨(F2.F41.up _ rfl).up _ rfl, F2.cc, r43, v2.trans w2, v3.trans w3, v4.trans (w4.trans (by rw [z5])), ?_, ?_, ?_, ?_, v10, v11⟩ ?_ ?_)⟩
    · show I2 41 2 = _
      rw [v5, w5, if_pos (by omega), hq2]
    · show I2 41 3 = _
      rw [v6, w6, if_neg (by omega), if_neg (by omega)]
    · show I2 41 6 = _
      rw [v8, w8, if_pos z5]
    · show I2 41 7 = _
      rw [v9, if_neg z1]
    · show I2 41 5 = _
      rw [v7, w7, if_neg (by omega), z5]
    · try dsimp only
      obtain ⟨a1, a2, a3, a4, a5, a6⟩ := S2
      have hr := c_row_ne (j := j)
      refine ⟨a1, fun x hx => ?_, a3, a4, a5, fun m hm => ?_⟩
      · by_cases hxq : x = q
        · subst hxq; simp [am_u]
        · simp [am_u, hxq, a2 x hx]
      · have z : ∀ i, am_u (am_u I2 53 q (D 66 f)) 54 q (nI T) (c_row j) i = I2 (c_row j) i := fun i => by
          rw [am_u_ne (Or.inl (by omega)), am_u_ne (Or.inl (by omega))]
        rw [z, z, z, z, z, z, z]
        exact a6 m hm
  · -- a wedding
    obtain ⟨p, hp1, hp2, hp3⟩ := hp (by omega)
    obtain ⟨q, hq1, hq2, hq3⟩ := hp3 z1
    obtain ⟨y, hy1, hy2⟩ := hq (by omega)
    have ip : am_is (nI p) 20 = true := am_is_nI (by omega) (by omega)
    have iq : am_is (nI q) 20 = true := am_is_nI (by omega) (by omega)
    rw [if_neg (by omega : ¬ kd' = 5), hp2, if_pos z1, if_neg (by omega : ¬ (kd' = 0 ∨ kd' = 6)), hq3]
    refine g_59_0 hR _ _ ⟨ip, iq, ip, iq, ?_⟩
    rw [show (nI p).toNatClampNeg = p from nI_clamp (by omega), show (nI q).toNatClampNeg = q from nI_clamp (by omega), (S2.1 p (by omega)).1, (S2.1 q (by omega)).1]
    refine g_57_301 hR _ _ (h1 p q y _ z1 hp1 hq1 hq2 hy1 hp2 hq3 hy2 ⟨(((F2.F41.up _ rfl).up _ rfl).up _ rfl).up _ rfl, F2.cc, r43, v2.trans w2, v3.trans w3, v4.trans (w4.trans (by rw [z1])), ?_, ?_, ?_, ?_, v10, v11⟩ ?_ ?_ ?_ ?_)
    · show I2 41 2 = _
      rw [v5, w5, if_pos (by omega), hy2]
    · show I2 41 3 = _
      rw [v6, w6, if_pos z1]
    · show I2 41 6 = _
      rw [v8, w8, if_neg (by omega), hp2]
    · show I2 41 7 = _
      rw [v9, if_pos z1, if_neg (by omega), hq3]
    · show I2 41 5 = _
      rw [v7, w7, if_neg (by omega), z1]
    · dsimp only
      rw [am_u_ne (Or.inr (by decide)), am_u_same]
    · dsimp only
      rw [am_u_same]
    · try dsimp only
      obtain ⟨a1, a2, a3, a4, a5, a6⟩ := S2
      have hr := c_row_ne (j := j)
      refine ⟨fun x hx => ?_, a2, a3, a4, a5, fun m hm => ?_⟩
      · obtain ⟨b1, b2, b3, b4, b5, b6⟩ := a1 x hx
        refine ⟨b1, b2, b3, ?_, b5, b6⟩
        by_cases hxq : x = q
        · subst hxq; simp [am_u]
        · by_cases hxp : x = p
          · subst hxp; simp [am_u, hxq]
          · simp [am_u, hxq, hxp, b4]
      · have z : ∀ i, am_u (am_u (am_u (am_u I2 50 p (nI q)) 50 q (nI p)) 41 8 (s 0 p)) 41 9 (s 0 q) (c_row j) i = I2 (c_row j) i := fun i => by
          rw [am_u_ne (Or.inl (by omega)), am_u_ne (Or.inl (by omega)), am_u_ne (Or.inl (by omega)), am_u_ne (Or.inl (by omega))]
        rw [z, z, z, z, z, z, z]
        exact a6 m hm
  · -- a birth
    obtain ⟨p, hp1, hp2, -⟩ := hp (by omega)
    obtain ⟨q, hq1, hq2⟩ := hq (by omega)
    have ip : am_is (nI p) 20 = true := am_is_nI (by omega) (by omega)
    have e41 : I2 41 0 = nI T := v2.trans (w2.trans ht)
    have hv5 : I2 41 2 = nI q := by rw [v5, w5, if_pos (by omega), hq2]
    rw [if_neg (by omega : ¬ kd' = 5), hp2]
    refine g_58_0 hR _ ⟨ip, ?_⟩
    rw [show (nI p).toNatClampNeg = p from nI_clamp (by omega), (S2.1 p (by omega)).2.1, e41, hv5]
    refine ⟨fun y => ⟨ip, ip, g_57_301 hR _ _ (h0 p q _ z0 hp1 hq1 hp2 hq2 y ⟨(F2.F41.up _ rfl).up _ rfl, F2.cc, r43, v2.trans w2, v3.trans w3, v4.trans (w4.trans (by rw [z0])), hv5, ?_, ?_, ?_, v10, v11⟩ ?_ ?_)⟩, fun y => g_57_301 hR _ _ (h0' p _ z0 hp1 hp2 y ⟨F2.F41.up _ rfl, F2.cc, r43, v2.trans w2, v3.trans w3, v4.trans (w4.trans (by rw [z0])), hv5.trans hq2.symm, ?_, ?_, ?_, v10, v11⟩ ?_ ?_)⟩
    · show I2 41 3 = _
      rw [v6, w6, if_neg (by omega), if_pos (by omega)]
    · show I2 41 6 = _
      rw [v8, w8, if_neg (by omega), hp2]
    · show I2 41 7 = _
      rw [v9, if_neg (by omega)]
    · show I2 41 5 = _
      rw [v7, w7, if_neg (by omega), z0]
    · try dsimp only
      obtain ⟨a1, a2, a3, a4, a5, a6⟩ := S2
      have hr := c_row_ne (j := j)
      have hTm : ¬ nI T = -1 := nI_m1 hT
      refine ⟨fun x hx => ?_, a2, a3, a4, a5, fun m hm => ?_⟩
      · obtain ⟨b1, b2, b3, b4, b5, b6⟩ := a1 x hx
        by_cases hxp : x = p
        · subst hxp
          exact ⟨b1, by simp [am_u], by simp [am_u, hTm], b4, b5, b6⟩
        · exact ⟨b1, by simp [am_u, hxp, b2], by simp [am_u, hxp, b3], b4, b5, b6⟩
      · have z : ∀ i, am_u (am_u I2 48 p (nI T)) 49 p (nI q) (c_row j) i = I2 (c_row j) i := fun i => by
          rw [am_u_ne (Or.inl (by omega)), am_u_ne (Or.inl (by omega))]
        rw [z, z, z, z, z, z, z]
        exact a6 m hm
    · show I2 41 3 = _
      rw [v6, w6, if_neg (by omega), if_pos (by omega)]
    · show I2 41 6 = _
      rw [v8, w8, if_neg (by omega), hp2]
    · show I2 41 7 = _
      rw [v9, if_neg (by omega)]
    · dsimp only
      rw [am_u_same]
    · exact S2.row ((r_fw.rf 41 I2).up _ _) (Or.inl rfl)
end C9

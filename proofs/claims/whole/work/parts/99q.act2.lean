/-! ===== act() of the class ===== -/
/-- an act of this land that there is -/
def a_okv (D : a_F) (na : Nat) (land : Int32) (v : Nat) : Bool := decide (v < na ∧ D 74 v = land)
/-- what act() answers, and the world then, or the clauses of the new act -/
def o_act (x1 x2 x3 x4 : Int32) : w_T → Nat × Int32 × Sum w_T (List yx_K) := fun w => match w with
  | ((nl, nq, np, nf, na, tn, tp), tb, fp, D) => if a_lt x1 nl = false then (1, 0, .inl w) else if a_ev x2 tp = false then (2, 0, .inl w) else if na = 12 ∨ a_dy x3 = false ∨ a_dy x4 = false then (0, -9, .inl ((nl, nq, np, nf, na, tn, 0), tb, -1, D)) else match yx_cls (a_ix x2) (a_okv D na x1) 13 0 (yt_ts tb (a_ix x2) 0) with
    | .inl e => (0, -1 - nI e.1, .inl ((nl, nq, np, nf, na, tn, 0), tb, nI e.2, D))
    | .inr l => (0, nI na, .inr l)
/-- the world with the new act -/
def o_new (D' : a_F) : w_T → w_T := fun w => match w with
  | ((nl, nq, np, nf, na, tn, tp), tb, fp, D) => ((nl, nq, np, nf, na + 1, tn, 0), tb, -1, D')
theorem c_asc_k {na c i : Nat} (h : c_asc na c i = false) : c_ksc na c i = false := by
  cases hh : c_ksc na c i with
  | false => rfl
  | true =>
    have : c_asc na c i = true := by
      simp only [c_ksc, c_xsc, Bool.or_eq_true, Bool.and_eq_true, Nat.beq_eq, Nat.ble_eq] at hh
      simp only [c_asc, Bool.or_eq_true, Bool.and_eq_true, Nat.beq_eq, Nat.ble_eq]
      omega
    rw [this] at h
    cases h
theorem c_asc_17 {na c : Nat} (p : 17 ≤ c) (q : c ≤ 24) : c_asc na c na = true := by
  unfold c_asc
  rw [show Nat.beq na na = true from Nat.beq_refl na, Nat.ble_eq.mpr p, Nat.ble_eq.mpr q]
  simp
theorem c_Wk.k {D I I' : a_F} (h : c_Wk D I) (h0 : I' 0 11 = I 0 11) (h58 : I' 58 = I 58) : c_Wk D I' := by
  unfold c_Wk at h ⊢
  rw [h0, h58]
  exact h
theorem c_L.txt {e j : Nat} {G : am_G} (h : c_L e j G) : c_L e j (G.1, am_u G.2.1 32 1 (some 57), G.2.2) := by
  obtain ⟨h1, h2, h3, h4, h5, h6⟩ := h
  exact ⟨h1, q_RT_u h2 rfl, h3, (show am_u G.2.1 32 1 (some 57) 42 3 = G.2.1 42 3 from am_u_ne (Or.inl (by decide))).trans h4, h5, h6⟩
section Act2
variable {β : Bool} {xs : Nat → Int32} {L : Nat} {G : am_G} {I : a_F} {J : Nat → Nat → Int64} {d : Nat} {tb : Nat → Nat} {n : Nat}
/-- read() -/
theorem k_read {na : Nat} {D : a_F} {x1 : Int32} (hR : q_RT G) (h16 : I 16 15 = nI na) (hna : na < 12) (hn : n ≤ 500) (ht : ∀ i, i < n → tb i < 256 ∧ I 57 i = c_byte (tb i)) (h11 : I 32 11 = -1) (h17 : ∀ v, v < na → I 17 v = D 74 v) : q_W β xs L (d + 46) 27 0 [.ref 32, .ref 57, .int (nI n), .int x1, .retAddr 0, .retAddr 0] [] (G, I, J) (fun o h' => ∃ y I', o = .inl (some (.int y)) ∧ h' = ((G.1, am_u G.2.1 32 1 (some 57), G.2.2), I', J) ∧ (q_F (c_asc na) I I' ∧ I' 0 = I 0 ∧ I' 16 = I 16) ∧ match yx_cls n (a_okv D na x1) 13 0 (yt_ts tb n 0) with
    | .inl e => (y = nI e.1 ∧ 1 ≤ e.1 ∧ e.1 ≤ 4) ∧ I' 32 11 = nI e.2
    | .inr l => y = 0 ∧ I' 32 11 = -1 ∧ I' 17 na = x1 ∧ I' 24 na = nI l.length ∧ I' 22 na = yx_stk l 0 ∧ ∃ s, s ≤ 500 * na + 500 ∧ ∀ c k, l[c]? = some k → c_kd na I' s (12 * na + c) k) := by
  have ina : am_is (nI na) 12 = true := am_is_nI hna (by omega)
  have ena : (nI na).toNatClampNeg = na := nI_clamp (by omega)
  have em : (if (Int32.ofNat 500) < nI n then (Int32.ofNat 500) else nI n) = nI n := if_neg (fun q => absurd ((nI_ltI (a := 500) (by omega) (by omega)).mp q) (by omega))
  have e5 : nI na * 500 = nI (500 * na) := by rw [show (500 : Int32) = nI 500 from rfl, pk_mul, Nat.mul_comm]
  have hR' : q_RT (G.1, am_u G.2.1 32 1 (some 57), G.2.2) := q_RT_u hR rfl
  refine g_27_0 hR _ _ ?_
  rw [h16, ena, em, e5]
  refine ⟨fun _ => ⟨ina, ina, ina, ina, ?_⟩, fun z => absurd ((nI_ltI (b := 12) (by omega) (by omega)).mpr hna) z⟩
  have fR : q_F (c_asc na) I (am_u (am_u (am_u (am_u (am_u (am_u (am_u (am_u I 32 2 (nI n)) 32 3 0) 32 10 0) 32 9 (nI (500 * na))) 17 na x1) 22 na 0) 23 na 0) 24 na 0) := by
    have a17 : ∀ c, 17 ≤ c → c ≤ 24 → c_asc na c na = true := fun c p q => c_asc_17 p q
    have a32 : ∀ i, c_asc na 32 i = true := fun i => rfl
    exact ((((((((q_F.rf _ I).up _ (a32 2)).up _ (a32 3)).up _ (a32 10)).up _ (a32 9)).up _ (a17 17 (by decide) (by decide))).up _ (a17 22 (by decide) (by decide))).up _ (a17 23 (by decide) (by decide))).up _ (a17 24 (by decide) (by decide))
  have R0 : am_u (am_u (am_u (am_u (am_u (am_u (am_u (am_u I 32 2 (nI n)) 32 3 0) 32 10 0) 32 9 (nI (500 * na))) 17 na x1) 22 na 0) 23 na 0) 24 na 0 0 = I 0 := by
    rw [am_u_row _ _ _ _ (by decide), am_u_row _ _ _ _ (by decide), am_u_row _ _ _ _ (by decide), am_u_row _ _ _ _ (by decide), am_u_row _ _ _ _ (by decide), am_u_row _ _ _ _ (by decide), am_u_row _ _ _ _ (by decide), am_u_row _ _ _ _ (by decide)]
  have R16 : am_u (am_u (am_u (am_u (am_u (am_u (am_u (am_u I 32 2 (nI n)) 32 3 0) 32 10 0) 32 9 (nI (500 * na))) 17 na x1) 22 na 0) 23 na 0) 24 na 0 16 = I 16 := by
    rw [am_u_row _ _ _ _ (by decide), am_u_row _ _ _ _ (by decide), am_u_row _ _ _ _ (by decide), am_u_row _ _ _ _ (by decide), am_u_row _ _ _ _ (by decide), am_u_row _ _ _ _ (by decide), am_u_row _ _ _ _ (by decide), am_u_row _ _ _ _ (by decide)]
  have R57 : am_u (am_u (am_u (am_u (am_u (am_u (am_u (am_u I 32 2 (nI n)) 32 3 0) 32 10 0) 32 9 (nI (500 * na))) 17 na x1) 22 na 0) 23 na 0) 24 na 0 57 = I 57 := by
    rw [am_u_row _ _ _ _ (by decide), am_u_row _ _ _ _ (by decide), am_u_row _ _ _ _ (by decide), am_u_row _ _ _ _ (by decide), am_u_row _ _ _ _ (by decide), am_u_row _ _ _ _ (by decide), am_u_row _ _ _ _ (by decide), am_u_row _ _ _ _ (by decide)]
  have R2 : am_u (am_u (am_u (am_u (am_u (am_u (am_u (am_u I 32 2 (nI n)) 32 3 0) 32 10 0) 32 9 (nI (500 * na))) 17 na x1) 22 na 0) 23 na 0) 24 na 0 32 2 = nI n := by simp [am_u]
  have R3 : am_u (am_u (am_u (am_u (am_u (am_u (am_u (am_u I 32 2 (nI n)) 32 3 0) 32 10 0) 32 9 (nI (500 * na))) 17 na x1) 22 na 0) 23 na 0) 24 na 0 32 3 = nI 0 := by simp [am_u]; rfl
  have R10 : am_u (am_u (am_u (am_u (am_u (am_u (am_u (am_u I 32 2 (nI n)) 32 3 0) 32 10 0) 32 9 (nI (500 * na))) 17 na x1) 22 na 0) 23 na 0) 24 na 0 32 10 = 0 := by simp [am_u]
  have R9 : am_u (am_u (am_u (am_u (am_u (am_u (am_u (am_u I 32 2 (nI n)) 32 3 0) 32 10 0) 32 9 (nI (500 * na))) 17 na x1) 22 na 0) 23 na 0) 24 na 0 32 9 = nI (500 * na) := by simp [am_u]
  have R11 : am_u (am_u (am_u (am_u (am_u (am_u (am_u (am_u I 32 2 (nI n)) 32 3 0) 32 10 0) 32 9 (nI (500 * na))) 17 na x1) 22 na 0) 23 na 0) 24 na 0 32 11 = -1 := by simp [am_u]; exact h11
  have R17 : am_u (am_u (am_u (am_u (am_u (am_u (am_u (am_u I 32 2 (nI n)) 32 3 0) 32 10 0) 32 9 (nI (500 * na))) 17 na x1) 22 na 0) 23 na 0) 24 na 0 17 na = x1 := by simp [am_u]
  have R17v : ∀ v, v ≠ na → am_u (am_u (am_u (am_u (am_u (am_u (am_u (am_u I 32 2 (nI n)) 32 3 0) 32 10 0) 32 9 (nI (500 * na))) 17 na x1) 22 na 0) 23 na 0) 24 na 0 17 v = I 17 v := fun v hv => by simp [am_u, hv]
  have R22 : am_u (am_u (am_u (am_u (am_u (am_u (am_u (am_u I 32 2 (nI n)) 32 3 0) 32 10 0) 32 9 (nI (500 * na))) 17 na x1) 22 na 0) 23 na 0) 24 na 0 22 na = 0 := by simp [am_u]
  have R24 : am_u (am_u (am_u (am_u (am_u (am_u (am_u (am_u I 32 2 (nI n)) 32 3 0) 32 10 0) 32 9 (nI (500 * na))) 17 na x1) 22 na 0) 23 na 0) 24 na 0 24 na = 0 := by simp [am_u]
  generalize am_u (am_u (am_u (am_u (am_u (am_u (am_u (am_u I 32 2 (nI n)) 32 3 0) 32 10 0) 32 9 (nI (500 * na))) 17 na x1) 22 na 0) 23 na 0) 24 na 0 = IR at fR R0 R16 R57 R2 R3 R10 R9 R11 R17 R17v R22 R24 ⊢
  have tx : c_tx tb n (G.1, am_u G.2.1 32 1 (some 57), G.2.2) IR := ⟨(show am_u G.2.1 32 1 (some 57) 32 1 = some 57 from am_u_same), R2, hn, fun i hi => ⟨(ht i hi).1, by rw [R57]; exact (ht i hi).2⟩⟩
  refine q_useV (k_next (β := β) (xs := xs) (L := L) (d := d) (J := J) hR' tx (Nat.zero_le _) R3) (by omega) (fun I1 h1 => ?_)
  obtain ⟨f1, t1⟩ := h1
  have hk : c_kt tb n na [] (500 * na) (yt_ts tb n 0) (G.1, am_u G.2.1 32 1 (some 57), G.2.2) IR I1 := ⟨(f1.xn (s := 500 * na)).kx (Nat.le_refl _), ⟨tx.F f1, t1, (f1 32 10 rfl).trans R10, (f1 32 9 rfl).trans R9, yt_ts_ok⟩, f1 32 11 rfl, (f1 24 na rfl).trans R24, (f1 22 na rfl).trans R22, ⟨Nat.le_refl _, by have := yt_ts_len (tb := tb) (n := n) (i := 0); omega⟩, fun c k hc => by simp at hc⟩
  have hok : ∀ v, v < 100000 → (a_okv D na x1 v = true ↔ v < na ∧ IR 17 v = IR 17 na) := fun v hv => by
    unfold a_okv
    rw [decide_eq_true_iff, R17]
    constructor
    · rintro ⟨q1, q2⟩
      exact ⟨q1, by rw [R17v v (by omega), h17 v q1]; exact q2⟩
    · rintro ⟨q1, q2⟩
      rw [R17v v (by omega), h17 v q1] at q2
      exact ⟨q1, q2⟩
  refine q_mono (k_readL (β := β) (xs := xs) (L := L) (J := J) (d := d) (i2 := nI n) (i3 := x1) hR' hna hok 13 [] (500 * na) (yt_ts tb n 0) I1 rfl hk) (Nat.le_refl _) (fun o h' P => ?_)
  obtain ⟨y, I2, rfl, rfl, P⟩ := P
  have fr : ∀ f2 : q_F (c_ksc na) IR I2, q_F (c_asc na) I I2 ∧ I2 0 = I 0 ∧ I2 16 = I 16 := fun f2 => by
    refine ⟨fR.tr (fun c i hc => f2 c i (c_asc_k hc)), ?_, ?_⟩
    · rw [← R0]
      exact funext fun i => f2 0 i (c_ksc_c (by decide))
    · rw [← R16]
      exact funext fun i => f2 16 i (c_ksc_c (by decide))
  refine ⟨y, I2, rfl, rfl, ?_⟩
  have ez : ([] : List yx_K).length = 0 := rfl
  rw [ez] at P
  cases hx : yx_cls n (a_okv D na x1) 13 0 (yt_ts tb n 0) with
  | inl e =>
    rw [hx] at P
    obtain ⟨p1, p2, p3, p4⟩ := P
    exact ⟨fr p2, ⟨p1, p3.2⟩, p4⟩
  | inr l =>
    rw [hx] at P
    obtain ⟨p1, s, r, p2, p3, p4, p5, p6, ⟨p7, p8⟩, p9⟩ := P
    refine ⟨fr p2, p1, p4.trans R11, (p2 17 na (c_ksc_c (by decide))).trans R17, p5, p6, s, by omega, p9⟩
theorem k_act {e : Nat} {w : w_T} (hC : c_I e w G I J) (hw : w_O w) (htb : ∀ i, i < w.1.2.2.2.2.2.2 → w.2.1 i < 256) (x1 x2 x3 x4 : Int32) : q_W β xs L (d + 47) 78 0 [.ref 0, .int x1, .int x2, .int x3, .int x4, .retAddr 0, .retAddr 0] [] (G, I, J) (fun o h => match (o_act x1 x2 x3 x4 w).2.2 with
    | .inl w' => k_T (o_act x1 x2 x3 x4 w).1 w' e I J (o_act x1 x2 x3 x4 w).2.1 o h
    | .inr l => ∀ D', a_new w.2.2.2 D' w.1.2.2.2.2.1 l x1 x3 x4 w.1.2.2.2.2.2.1 → k_T 0 (o_new D' w) e I J (o_act x1 x2 x3 x4 w).2.1 o h) := by
  obtain ⟨⟨nl, nq, np, nf, na, tn, tp⟩, tb, fp, D⟩ := w
  have hC0 := hC
  obtain ⟨j, hL, hD, ⟨h3a, h3b, h3c⟩, h4, h5, h6⟩ := hC
  have hn5 := hw.1.1.2.1
  have hl5 : nl ≤ 5 := hn5.1
  have hna12 : na ≤ 12 := hn5.2.2.2
  have htp : tp ≤ 500 := hw.2.2.2
  have hR := hL.2.1
  have e12 : I 1 2 = nI nl := hD.1.1
  have e16 : I 16 15 = nI na := hD.1.2.2.2.2
  generalize hQ : (fun (o : am_O) (h : am_H) => match (o_act x1 x2 x3 x4 ((nl, nq, np, nf, na, tn, tp), tb, fp, D)).2.2 with
    | .inl w' => k_T (o_act x1 x2 x3 x4 ((nl, nq, np, nf, na, tn, tp), tb, fp, D)).1 w' e I J (o_act x1 x2 x3 x4 ((nl, nq, np, nf, na, tn, tp), tb, fp, D)).2.1 o h
    | .inr l => ∀ D', a_new D D' na l x1 x3 x4 tn → k_T 0 (o_new D' ((nl, nq, np, nf, na, tn, tp), tb, fp, D)) e I J (o_act x1 x2 x3 x4 ((nl, nq, np, nf, na, tn, tp), tb, fp, D)).2.1 o h) = Q
  have out1 : ∀ (t : Nat) (val : Int32) (w' : w_T), o_act x1 x2 x3 x4 ((nl, nq, np, nf, na, tn, tp), tb, fp, D) = (t, val, .inl w') → ∀ o h, k_T t w' e I J val o h → Q o h := fun t val w' he o h hk => by
    rw [← hQ, he]
    exact hk
  show q_W β xs L (d + 47) 78 0 [.ref 0, .int x1, .int x2, .int x3, .int x4, .retAddr 0, .retAddr 0] [] (G, I, J) Q
  refine g_78_0 hR _ _ _ _ ?_
  rw [e12]
  refine q_needN (d := d) hR x1 nl (by omega) (fun b1 => ⟨hR, ?_⟩) (fun b1 => out1 1 0 _ (if_pos b1) _ _ (k_bad hC0 (by decide) _))
  have hn1 : ¬ a_lt x1 nl = false := by rw [b1]; decide
  have thr2 : a_ev x2 tp = false → q_W β xs L (d + 47) 78 23 [.ref 0, .int x1, .int x2, .int x3, .int x4, .retAddr 0, .retAddr 0] [] (G, I, J) Q := fun b2 => g_78_23 hR _ _ _ _ (out1 2 0 ((nl, nq, np, nf, na, tn, tp), tb, fp, D) ((if_neg hn1).trans (if_pos b2)) _ _ (k_bad hC0 (by decide) _))
  have e09 : I 0 9 = nI tp := h3b
  rw [e09]
  refine ⟨fun z => thr2 (by simp [a_ev, z]), fun z => ⟨fun y => ?_, fun y => thr2 (by simp [a_ev, y])⟩⟩
  have b2 : a_ev x2 tp = true := by simp [a_ev, z, y]
  have hn2 : ¬ a_ev x2 tp = false := by rw [b2]; decide
  obtain ⟨n, hn, rfl⟩ := a_ev_of (by omega) b2
  have f1 : q_F (c_asc na) I (am_u (am_u I 0 9 0) 32 11 (-1)) := by
    refine ((q_F.rf _ I).up _ ?_).up _ ?_ <;> simp [c_asc]
  have I1_10 : am_u (am_u I 0 9 0) 32 11 (-1) 0 10 = nI tn := by simp [am_u]; exact h3a
  have I1_9 : am_u (am_u I 0 9 0) 32 11 (-1) 0 9 = nI 0 := by simp [am_u]; rfl
  have I1_11 : am_u (am_u I 0 9 0) 32 11 (-1) 32 11 = -1 := by simp [am_u]
  have I1_w : am_u (am_u I 0 9 0) 32 11 (-1) 0 11 = I 0 11 := by simp [am_u]
  have I1_16 : am_u (am_u I 0 9 0) 32 11 (-1) 16 15 = nI na := by simp [am_u]; exact e16
  have I1_17 : ∀ v, v < na → am_u (am_u I 0 9 0) 32 11 (-1) 17 v = D 74 v := fun v hv => by
    simp [am_u]; exact (hD.2.2.2.2 v hv).1
  have I1_57 : am_u (am_u I 0 9 0) 32 11 (-1) 57 = I 57 := by rw [am_u_row _ _ _ _ (by decide), am_u_row _ _ _ _ (by decide)]
  rw [e16]
  have hcn : ∀ a, a < na → ∃ cn, cn ≤ 12 ∧ D 79 a = nI cn := fun a ha => by
    obtain ⟨-, cn, c1, c2, -⟩ := hw.1.2.1 a ha
    exact ⟨cn, c1, c2⟩
  generalize am_u (am_u I 0 9 0) 32 11 (-1) = I1 at f1 I1_10 I1_9 I1_11 I1_w I1_16 I1_17 I1_57 ⊢
  -- the world where no act comes
  have stand : ∀ (I' : a_F) (G' : am_G) (fp' : Int32), c_L e j G' → q_F (c_asc na) I I' → I' 0 10 = nI tn → I' 0 9 = nI 0 → I' 0 11 = I 0 11 → I' 16 15 = nI na → I' 32 11 = fp' → ∀ val, k_T 0 ((nl, nq, np, nf, na, tn, 0), tb, fp', D) e I J val (.inl (some (.int val))) (G', I', J) := fun I' G' fp' hL' hf k10 k9 k11 k16 kfp val => by
    refine k_good (w := ((nl, nq, np, nf, na, tn, 0), tb, fp', D)) (fun c a b => ?_) (f_c.rf J) ⟨j, hL', hD.old hna12 hf k16 hcn, ⟨k10, k9, kfp⟩, fun i hi => absurd hi (Nat.not_lt_zero i), h5.keep (fun c a b => ?_) rfl, h6.k k11 ?_⟩ val
    · exact funext fun i => hf c i (c_asc_no (Or.inr (Or.inr (Or.inr (Or.inr (Or.inr (Or.inr (by omega))))))))
    · exact funext fun i => hf c i (c_asc_no (Or.inr (Or.inr (Or.inr (Or.inr (Or.inr (Or.inr (by omega))))))))
    · exact funext fun i => hf 58 i (c_asc_no (Or.inr (Or.inr (Or.inr (Or.inr (Or.inr (Or.inr (by decide))))))))
  have ref : (na = 12 ∨ a_dy x3 = false ∨ a_dy x4 = false) → q_W β xs L (d + 47) 78 71 [.ref 0, .int x1, .int (nI n), .int x3, .int x4, .retAddr 0, .retAddr 0] [] (G, I1, J) Q := fun hr =>
    g_78_71 hR _ _ _ _ (out1 0 (-9) _ ((if_neg hn1).trans ((if_neg hn2).trans (if_pos hr))) _ _ (stand I1 G (-1) hL f1 I1_10 I1_9 I1_w I1_16 I1_11 (-9)))
  have lt12 : nI na < (12 : Int32) ↔ na < 12 := nI_ltI (b := 12) (by omega) (by omega)
  rw [lt12]
  refine ⟨fun q => ref (Or.inl (by omega)), fun hlt => ?_⟩
  refine q_useI (c_isDay (β := β) (xs := xs) (L := L) (d := d) (I := I1) (J := J) hR x3) (by omega) ⟨fun q => ref (Or.inr (Or.inl (a_is_0.mp q))), fun b3 => ?_⟩
  refine q_useI (c_isDay (β := β) (xs := xs) (L := L) (d := d) (I := I1) (J := J) hR x4) (by omega) ⟨hR, fun b4 => ?_, fun q => ref (Or.inr (Or.inr (a_is_0.mp q)))⟩
  have hno : ¬ (na = 12 ∨ a_dy x3 = false ∨ a_dy x4 = false) := by
    rintro (q | q | q)
    · omega
    · rw [a_is_n0.mp b3] at q; cases q
    · rw [a_is_n0.mp b4] at q; cases q
  have en : a_ix (nI n) = n := nI_clamp (by omega)
  have eo : o_act x1 (nI n) x3 x4 ((nl, nq, np, nf, na, tn, tp), tb, fp, D) = (match yx_cls n (a_okv D na x1) 13 0 (yt_ts tb n 0) with
    | .inl e => (0, -1 - nI e.1, .inl ((nl, nq, np, nf, na, tn, 0), tb, nI e.2, D))
    | .inr l => (0, nI na, .inr l)) := by
    refine (if_neg hn1).trans ((if_neg hn2).trans ((if_neg hno).trans ?_))
    rw [en]
  refine q_useR (k_read (β := β) (xs := xs) (L := L) (J := J) (d := d) (tb := tb) (n := n) (D := D) (x1 := x1) hR I1_16 hlt (by omega) (fun i hi => ⟨htb i (by show i < tp; omega), by rw [I1_57]; exact h4 i (by show i < tp; omega)⟩) I1_11 I1_17) (Nat.le_refl _) (fun o h' P => ?_)
  obtain ⟨y, I2, rfl, rfl, ⟨f2, r0, r16⟩, P⟩ := P
  have f12 := f1.tr f2
  have hL' := hL.txt
  have hR' := hL'.2.1
  cases hx : yx_cls n (a_okv D na x1) 13 0 (yt_ts tb n 0) with
  | inl e' =>
    rw [hx] at P eo
    obtain ⟨⟨rfl, p1, p2⟩, p3⟩ := P
    have hne : ¬ nI e'.1 = 0 := nI_ne0 (by omega) (by omega)
    exact ⟨fun q => absurd q hne, fun _ => out1 0 (-1 - nI e'.1) _ eo _ _ (stand I2 _ _ hL' f12 (by rw [r0]; exact I1_10) (by rw [r0]; exact I1_9) (by rw [r0]; exact I1_w) (by rw [r16]; exact I1_16) p3 _)⟩
  | inr l =>
    rw [hx] at P eo
    obtain ⟨rfl, p1, p2, p3, p4, s, p5, p6⟩ := P
    refine ⟨fun _ => ?_, fun q => absurd rfl q⟩
    refine q_useF (c_forget (β := β) (xs := xs) (L := L) (d := d) hR') (by omega) ⟨hR', ?_⟩
    have i16 : am_u I2 0 11 (-1) 16 15 = nI na := (am_u_ne (Or.inl (by decide))).trans (by rw [r16]; exact I1_16)
    have i10 : am_u I2 0 11 (-1) 0 10 = nI tn := (am_u_ne (Or.inr (by decide))).trans (by rw [r0]; exact I1_10)
    have ina : am_is (nI na) 12 = true := am_is_nI hlt (by omega)
    have ena : (nI na).toNatClampNeg = na := nI_clamp (by omega)
    dsimp only
    rw [i16, i10, ena, nI_1]
    refine ⟨ina, ina, ina, ina, ?_⟩
    rw [← hQ, eo]
    intro D' hD'
    have f3 : q_F (c_asc na) I (am_u (am_u (am_u (am_u (am_u (am_u I2 0 11 (-1)) 18 na x3) 19 na x4) 20 na (nI tn)) 21 na (-1)) 16 15 (nI (na + 1))) := by
      have a17 : ∀ c, 17 ≤ c → c ≤ 24 → c_asc na c na = true := fun c p q => c_asc_17 p q
      exact (((((f12.up _ rfl).up _ (a17 18 (by decide) (by decide))).up _ (a17 19 (by decide) (by decide))).up _ (a17 20 (by decide) (by decide))).up _ (a17 21 (by decide) (by decide))).up _ rfl
    refine k_good (w := ((nl, nq, np, nf, na + 1, tn, 0), tb, -1, D')) (fun c a b => ?_) ?_ ⟨j, hL', hD.act hw.1 hlt f3 am_u_same hD' ?_ ?_ ?_ ?_ ?_ ?_ ?_ p5 (fun c k hc => (p6 c k hc).keep (Nat.le_refl _) (fun c' q1 q2 => ?_) (fun w' _ q => ?_) (fun j' _ => ?_)), ⟨?_, ?_, ?_⟩, fun i hi => absurd hi (Nat.not_lt_zero i), Or.inl ?_, Or.inl ?_⟩ _
    · exact funext fun i => f3 c i (c_asc_no (Or.inr (Or.inr (Or.inr (Or.inr (Or.inr (Or.inr (by omega))))))))
    · exact (f_c.rf J).up _ _ (by decide)
    · simp [am_u]; exact p2
    · simp [am_u]
    · simp [am_u]
    · simp [am_u]
    · simp [am_u]
    · simp [am_u]; exact p3
    · simp [am_u]; exact p4
    · rw [am_u_ne (Or.inl (by omega)), am_u_ne (Or.inl (by omega)), am_u_ne (Or.inl (by omega)), am_u_ne (Or.inl (by omega)), am_u_ne (Or.inl (by omega)), am_u_ne (Or.inl (by omega))]
    · have : am_u (am_u (am_u (am_u (am_u (am_u I2 0 11 (-1)) 18 na x3) 19 na x4) 20 na (nI tn)) 21 na (-1)) 16 15 (nI (na + 1)) 23 na = I2 23 na := by simp [am_u]
      rw [this]
      exact q
    · rw [am_u_ne (Or.inl (by decide)), am_u_ne (Or.inl (by decide)), am_u_ne (Or.inl (by decide)), am_u_ne (Or.inl (by decide)), am_u_ne (Or.inl (by decide)), am_u_ne (Or.inl (by decide))]
    · simp [am_u]; rw [r0]; exact I1_10
    · simp [am_u]; rw [r0]; exact I1_9
    · simp [am_u]; exact p1
    · exact am_u_same
    · simp [am_u]
end Act2

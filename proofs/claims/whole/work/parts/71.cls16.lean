/-! ===== the class: live ===== -/
def c_wo (w : Nat) : Int32 := nI w - 1
theorem c_wo_0 : c_wo 0 = -1 := by decide
theorem c_wo_s (a : Nat) : c_wo (a + 1) = nI a := nI_pred a
theorem c_wo_1 (w : Nat) : c_wo w + 1 = nI w := by
  cases w with
  | zero => decide
  | succ a => rw [c_wo_s, nI_1]
/-- the key of a way, a day and an act without -/
def c_life (k way last w : Nat) : Nat := ((k * 27 + way) * 73000 + last) * 13 + w
theorem c_life_inj {k way last w k' way' last' w' : Nat} (h1 : way < 27) (h2 : last ≤ 72999) (h3 : w < 13) (h1' : way' < 27) (h2' : last' ≤ 72999) (h3' : w' < 13) (h : c_life k way last w = c_life k' way' last' w') : k = k' ∧ way = way' ∧ last = last' ∧ w = w' := by
  unfold c_life at h
  have e1 : w = w' := by omega
  have e2 : (k * 27 + way) * 73000 + last = (k' * 27 + way') * 73000 + last' := by omega
  have e3 : last = last' := by omega
  have e4 : k * 27 + way = k' * 27 + way' := by omega
  exact ⟨by omega, by omega, e3, e1⟩
theorem c_cmp {a b : Int64} : (if a > b then (1 : Int32) else if a = b then 0 else -1) = 0 ↔ a = b := by
  constructor
  · intro h
    split at h
    · exact absurd h (by decide)
    · split at h
      · assumption
      · exact absurd h (by decide)
  · intro h
    subst h
    rw [if_neg (Int64.lt_irrefl), if_pos rfl]
/-- what the class remembers of its last world -/
def c_K (nq j : Nat) (D I : a_F) (J : Nat → Nat → Int64) : Prop := J 38 19 = -1 ∨ ∃ k way last w, k ≤ 999 ∧ way < 27 ∧ last ≤ 72999 ∧ w < 13 ∧ J 38 19 = lN (c_life k way last w) ∧ c_S nq j I (a_run D way (nI last) (nI k) (c_wo w))
/-- all cells of J but the world's stay -/
def c_J2 (J J' : Nat → Nat → Int64) : Prop := ∀ i, i < 118 → i ≠ 38 → J' i = J i
theorem c_ok_init {T nl np nq : Nat} (D : a_F) : c_ok T nl np nq (a_init D) := ⟨a_ok_init D np nq, fun p _ => Or.inl rfl, fun q _ => Or.inl rfl, fun p _ i _ hi => b_0 i⟩
section C16
variable {β : Bool} {xs : Nat → Int32} {L : Nat}
theorem c_runL {d e nl nq np nf na : Nat} {D I0 : a_F} {J0 : Nat → Nat → Int64} (hD : c_D nl nq np nf na D I0) (hW : a_D nl nq np nf na D) (hDR : a_DR np D) {k wo : Int32} (hkn : ∀ a, a < na → bt (I0 38 18) a = a_knA D k wo a) {l : List Nat} (hc : c_cal I0 l) (hs : l.Pairwise (· ≤ ·)) (hl : l.length ≤ 112) (hm : ∀ y ∈ l, y < 128 * 73000 ∧ (y % 128 < na ∨ 12 ≤ y % 128 ∧ y % 128 - 12 < nf)) (i1 i2 i3 : Int32) (l4 : Int64) {Q : am_O → am_H → Prop} :
    ∀ r i (G : am_G) (I : a_F) (J : Nat → Nat → Int64) (j : Nat) (s : a_F) (n T : Nat) (v7 v8 : Value), am_nl v7 = true → am_nl v8 = true → i ≤ l.length → l.drop i = r → c_L e j G → c_J J0 J → q_F c_sc I0 I → c_cc I0 I → c_S nq j I s → c_ok T nl np nq s → (∀ y ∈ r, T ≤ y / 128) → s 17 0 = nI n → n + 200 * r.length ≤ 22400 →
      (∀ (G' : am_G) (I' : a_F) (J' : Nat → Nat → Int64) (j' : Nat), c_L e j' G' → c_J J0 J' → q_F c_sc I0 I' → c_cc I0 I' → c_S nq j' I' (r.foldl (a_event D k wo) s) → Q (.inl none) (G', I', J')) →
      q_W β xs L (d + 5) 52 104 [.ref 38, .int i1, .int i2, .int i3, .long l4, .retAddr 0, .int (nI i), v7, v8] [] (G, I, J) Q
  | [], i, G, I, J, j, s, n, T, v7, v8, n7, n8, hil, hr, hL, hJ, hf, hcc, hS, hok, hTr, hn, hb, hQ => by
    have hi : l.length ≤ i := by
      have := congrArg List.length hr
      rw [List.length_drop] at this
      simp at this
      omega
    refine g_52_104 hL.2.1 _ _ _ _ _ _ _ n7 n8 ⟨fun _ => hQ G I J j hL hJ hf hcc hS, fun z => ?_⟩
    rw [hcc.2.1 1, hc.1, nI_ltI (by omega) (by omega)] at z
    omega
  | x :: r, i, G, I, J, j, s, n, T, v7, v8, n7, n8, hil, hr, hL, hJ, hf, hcc, hS, hok, hTr, hn, hb, hQ => by
    have hlr : l.length = i + (r.length + 1) := by
      have := congrArg List.length hr
      rw [List.length_drop, List.length_cons] at this
      omega
    have hx : l[i]? = some x := by
      have : (l.drop i)[0]? = some x := by rw [hr]; rfl
      rwa [List.getElem?_drop, Nat.add_zero] at this
    have hr1 : l.drop (i + 1) = r := by
      have : (l.drop i).drop 1 = r := by rw [hr]; rfl
      rwa [List.drop_drop] at this
    have hsr : (x :: r).Pairwise (· ≤ ·) := by
      rw [← hr]
      exact hs.sublist (List.drop_sublist i l)
    obtain ⟨m1, m2⟩ := hm x (List.mem_of_getElem? hx)
    have hW0 := hW
    obtain ⟨hP, hA, hF, hT, h6, hf2⟩ := hW
    have hn5 := hP.2.1
    have hbn : n + 200 ≤ 22400 := by rw [List.length_cons] at hb; omega
    have hTx := hTr x List.mem_cons_self
    have okx := hok.mono hTx
    refine c_event (d := d) hL (hD.F hf) hW0 hDR hS (l := l) ⟨(hcc.2.1 1).trans hc.1, fun i x hx => (hcc.1 i).trans (hc.2 i x hx)⟩ hl (fun y hy => (hm y hy).1) hx m2 okx (k := k) (wo := wo) (fun a ha => by rw [hcc.2.2]; exact hkn a ha) hn (by omega) i1 i2 i3 l4 v7 v8 n7 n8 (fun G' I' J' j' x' y' w1 w2 w3 w4 w5 => ?_)
    rw [nI_1]
    have hev : ∃ n', a_event D k wo s x 17 0 = nI n' ∧ n' ≤ n + 200 := by
      unfold a_event
      try dsimp only
      split
      · exact a_act_n hP _ _ _ hn (by omega)
      · exact a_fact_n hP hF _ _ (by omega) hn (by omega)
    have ok' : c_ok (x / 128) nl np nq (a_event D k wo s x) := by
      unfold a_event
      try dsimp only
      split
      · exact c_ok_act hP hA okx _ _ (by omega)
      · exact c_ok_fact hP hF (by omega) okx _ (by omega)
    obtain ⟨n', y1, y2⟩ := hev
    rw [List.length_cons] at hb
    refine c_runL (d := d) hD hW0 hDR hkn hc hs hl hm i1 i2 i3 l4 r (i + 1) G' I' J' j' _ n' (x / 128) _ _ rfl rfl (by omega) hr1 w1 (hJ.tr w2) (hf.tr w3) (hcc.tr w4) w5 ok' (fun y hy => ?_) y1 (by omega) (fun G2 I2 J2 j2 z1 z2 z3 z4 z5 => hQ G2 I2 J2 j2 z1 z2 z3 z4 z5)
    have := List.rel_of_pairwise_cons hsr hy
    exact Nat.div_le_div_right this
theorem c_live {d e j nl nq np nf na : Nat} {G : am_G} {D I : a_F} {J : Nat → Nat → Int64} (hL : c_L e j G) (hD : c_D nl nq np nf na D I) (hW : a_D nl nq np nf na D) (hDR : a_DR np D) {k way last w : Nat} (hk : k ≤ 999) (hway : way < 27) (hlast : last ≤ 72999) (hw : w < 13) (hb : c_db D I (a_doubts D (nI k))) (h6 : I 34 6 = nI k) (hK : c_K nq j D I J) {Q : am_O → am_H → Prop}
    (hQ : ∀ (G' : am_G) (I' : a_F) (J' : Nat → Nat → Int64) (j' : Nat), c_L e j' G' → c_J2 J J' → q_F c_sc I I' → c_S nq j' I' (a_run D way (nI last) (nI k) (c_wo w)) → c_K nq j' D I' J' → Q (.inl none) (G', I', J')) :
    q_W β xs L (d + 5) 52 0 [.ref 38, .int (nI way), .int (nI last), .int (c_wo w), .retAddr 0, .retAddr 0, .retAddr 0, .retAddr 0, .retAddr 0] [] (G, I, J) Q := by
  have hR := hL.2.1
  have hW0 := hW
  obtain ⟨hP, hA, hF, hT, hDf, hf2⟩ := hW
  have hn5 := hP.2.1
  have hlb : c_life k way last w < 2 ^ 63 := by
    unfold c_life
    omega
  have elife : ((((I 34 6).toInt64 * 27 + (nI way).toInt64) * 73000 + (nI last).toInt64) * 13 + (c_wo w + 1).toInt64 : Int64) = lN (c_life k way last w) := by
    rw [h6, c_wo_1, nI_l (by omega), nI_l (by omega), nI_l (by omega), nI_l (by omega), show (27 : Int64) = lN 27 from rfl, show (73000 : Int64) = lN 73000 from rfl, show (13 : Int64) = lN 13 from rfl, lN_mul, lN_add, lN_mul, lN_add, lN_mul, lN_add]
    rfl
  refine g_52_0 hR _ _ _ ?_
  rw [elife, c_cmp]
  refine ⟨fun hne => ?_, fun heq => ?_⟩
  · have hkn0 : ∀ I1 : a_F, q_F c_sc I I1 → ∀ a, a < na → s_kn (I1 20) (I1 21) (nI k) a = s_kn (D 77) (D 78) (nI k) a := fun I1 f1 a ha => by
      obtain ⟨-, -, -, d4, d5, -⟩ := (hD.F f1).2.2.2.2 a ha
      unfold s_kn
      rw [d4, d5]
    have at91 : ∀ (I1 : a_F) (J1 : Nat → Nat → Int64), q_F c_sc I I1 → r_fw 38 I I1 → (∀ a, a < na → bt (I1 38 18) a = a_knA D (nI k) (c_wo w) a) → J1 = am_u J 38 19 (lN (c_life k way last w)) → q_W β xs L (d + 5) 52 91 [.ref 38, .int (nI way), .int (nI last), .int (c_wo w), .long (lN (c_life k way last w)), .retAddr 0, .retAddr 0, .retAddr 0, .retAddr 0] [] (G, I1, J1) Q := by
      intro I1 J1 f1 f38 hkn hJ1
      refine g_52_91 hR _ _ _ _ ?_
      refine q_useV (c_begin (β := β) (xs := xs) (L := L) (d := d + 2) (J := J1) hL (D := D) hn5.2.1 (hD.F f1).2.1) (Nat.le_refl _) (fun I2 h2 => ?_)
      obtain ⟨f2, ct2, S2⟩ := h2
      have f12 := f1.tr f2
      have e346 : I2 34 6 = nI k := (f12 34 6 rfl).trans h6
      have db2 : c_db D I2 (a_doubts D (nI k)) := ⟨(f12 34 4 rfl).trans hb.1, (f12 34 5 rfl).trans hb.2.1, fun i x hx => by rw [f12 35 i rfl, f12 36 i rfl, f12 37 i rfl]; exact hb.2.2 i x hx⟩
      refine q_useV (c_putH (β := β) (xs := xs) (L := L) (d := d + 2) (J := J1) hR (hD.F f12) hW0 (k := nI k) (wo := c_wo w) (fun a ha => by rw [ct2.2.2.2]; exact hkn a ha) db2 e346 (way := way) (by omega) (nI last)) (Nat.le_refl _) (fun I3 h3 => ?_)
      obtain ⟨f3, cal3, len3⟩ := h3
      have f3' : q_F c_sc I2 I3 := f3.sub (fun c i hc => by
        cases hh : c_cls c i with
        | false => rfl
        | true =>
          simp only [c_cls, Bool.or_eq_true, Bool.and_eq_true, Nat.beq_eq] at hh
          rcases hh with rfl | ⟨rfl, rfl⟩ <;> cases hc)
      have S3 : c_S nq j I3 (a_init D) := by
        have hr := c_row_ne (j := j)
        have z : ∀ c, c ≠ 39 → c ≠ 40 → ∀ i, I3 c i = I2 c i := fun c h1 h2 i => f3 c i (by
          cases hh : c_cls c i with
          | false => rfl
          | true =>
            simp only [c_cls, Bool.or_eq_true, Bool.and_eq_true, Nat.beq_eq] at hh
            omega)
        obtain ⟨a1, a2, a3, a4, a5, a6⟩ := S2
        refine ⟨fun p hp => ?_, fun q hq => ?_, fun p l hp hl => ?_, ?_, a5, fun m hm => ?_⟩
        · rw [z 47 (by decide) (by decide), z 48 (by decide) (by decide), z 49 (by decide) (by decide), z 50 (by decide) (by decide), z 51 (by decide) (by decide), z 52 (by decide) (by decide)]
          exact a1 p hp
        · rw [z 53 (by decide) (by decide), z 54 (by decide) (by decide)]
          exact a2 q hq
        · rw [z 43 (by decide) (by decide), z 44 (by decide) (by decide), z 45 (by decide) (by decide)]
          exact a3 p l hp hl
        · rw [z 42 (by decide) (by decide)]
          exact a4
        · exact absurd hm (Nat.not_lt_zero m)
      have f123 := f12.tr f3'
      have hsrt : (a_calC D (nI k) (c_wo w) (nI last) way).Pairwise (· ≤ ·) := a_calF_srt _ _ _ _ _ _ _ (a_calB_srt _ _ _ _ _ _ _ List.Pairwise.nil)
      refine c_runL (d := d) (I0 := I3) (J0 := J1) (hD.F f123) hW0 hDR (k := nI k) (wo := c_wo w) (fun a ha => by rw [f3 38 18 rfl, ct2.2.2.2]; exact hkn a ha) cal3 hsrt (by omega) (fun y hy => ?_) _ _ _ _ _ 0 G I3 J1 j (a_init D) 0 0 _ _ rfl rfl (Nat.zero_le _) rfl hL (c_J.rf J1) (q_F.rf _ I3) (c_cc.rf I3) S3 (c_ok_init D) (fun y _ => Nat.zero_le _) rfl (by rw [List.drop_zero]; omega) (fun G' I' J' j' w1 w2 w3 w4 w5 => ?_)
      · obtain ⟨q1, q2⟩ := a_calC_mem hW0 (nI k) (c_wo w) (nI last) way hy
        exact ⟨q1, q2.imp (fun h => h.1) id⟩
      · rw [List.drop_zero, a_runC hW0] at w5
        refine hQ G' I' J' j' w1 (fun i hi h38 => ?_) (f123.tr w3) w5 (Or.inr ⟨k, way, last, w, hk, hway, hlast, hw, ?_, w5⟩)
        · rw [w2 i hi, hJ1]
          exact am_u_row _ _ _ _ h38
        · rw [w2 38 (by decide), hJ1, am_u_same]
    have hkA : ∀ (x : Int32), (∀ a, a < na → bt x a = s_kn (D 77) (D 78) (nI k) a) → w = 0 → ∀ a, a < na → bt x a = a_knA D (nI k) (c_wo w) a := fun x hx hw0 a ha => by
      rw [hx a ha]
      unfold a_knA
      rw [hw0, c_wo_0]
      simp [nI_m1 (a := a) (by omega)]
    have hsb : ∀ a, a < na → bt (s_bits (s_kn (I 20) (I 21) (nI k)) na) a = s_kn (D 77) (D 78) (nI k) a := fun a ha => by
      rw [s_bits_bt _ na a (by omega) (by omega), hkn0 I (q_F.rf _ I) a ha]
      simp [ha]
    rw [h6]
    refine q_useI (s_known (β := β) (xs := xs) (L := L) (d := d + 4) hR (n := na) hD.1.2.2.2.2 (by omega) (nI k)) (Nat.le_refl _) ?_
    have f38 : ∀ x : Int32, r_fw 38 I (am_u I 38 18 x) := fun x => (r_fw.rf 38 I).up _ _
    have fsc : ∀ x : Int32, q_F c_sc I (am_u I 38 18 x) := fun x => (q_F.rf _ I).up _ rfl
    refine ⟨fun z => ?_, fun z => ?_⟩
    · have hw0 : w = 0 := by
        cases w with
        | zero => rfl
        | succ a => rw [c_wo_s] at z; exact absurd z (nI_m1 (by omega))
      exact at91 _ _ (fsc _) (f38 _) (fun a ha => by rw [am_u_same]; exact hkA _ hsb hw0 a ha) rfl
    · obtain ⟨b, hb2⟩ : ∃ b, w = b + 1 := by
        cases w with
        | zero => exact absurd c_wo_0 z
        | succ a => exact ⟨a, rfl⟩
      subst hb2
      refine at91 _ _ ((fsc _).up _ rfl) ((f38 _).up _ _) (fun a ha => ?_) rfl
      rw [am_u_same, c_wo_s, b_clr _ (by omega) (by omega), hsb a ha]
      unfold a_knA
      rw [Bool.and_comm]
      congr 2
      exact decide_eq_decide.mpr ⟨fun h => by rw [h], fun h => nI_inj2 (by omega) (by omega) h⟩
  · rcases hK with h | ⟨k', way', last', w', h1, h2, h3, h4, h5, h7⟩
    · exfalso
      rw [h] at heq
      have := congrArg Int64.toInt heq
      rw [pk_lT hlb] at this
      have hm : (-1 : Int64).toInt = -1 := by decide
      omega
    · rw [h5] at heq
      have hlb' : c_life k' way' last' w' < 2 ^ 63 := by
        unfold c_life
        omega
      have e := (pk_lEQ hlb hlb').mp heq
      obtain ⟨e1, e2, e3, e4⟩ := c_life_inj hway hlast hw h2 h3 h4 e
      subst e1; subst e2; subst e3; subst e4
      exact hQ G I J j hL (fun _ _ _ => rfl) (q_F.rf _ I) h7 (Or.inr ⟨k, way, last, w, hk, hway, hlast, hw, h5, h7⟩)
end C16

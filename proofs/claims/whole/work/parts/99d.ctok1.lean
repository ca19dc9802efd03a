/-! ===== strings of the class: a character, a sign ===== -/
def yt_txt : List Nat := yt_ws.flatMap (fun w => w ++ [32])
theorem yt_txt_len : yt_txt.length = 154 := by decide +kernel
theorem yt_ch : ∀ i, i < 154 → (((q_byt.getD 0 []).getD i 0 &&& 255).toUInt32 % 65536).toInt32 = nI (yt_txt.getD i 0) := by decide +kernel
theorem yt_ch2 : ∀ i, i < 154 → (nI (yt_txt.getD i 0)).toUInt32.toUInt16.toUInt32.toInt32 = nI (yt_txt.getD i 0) := by decide +kernel
theorem yt_ch3 : ∀ i, i < 154 → yt_txt.getD i 0 < 128 := by decide +kernel
theorem yt_b1 : ∀ b, b < 256 → decide (c_byte b = 32) = Nat.beq b 32 ∧ decide (c_byte b = 10) = Nat.beq b 10 := by decide +kernel
theorem yt_b2 : ∀ b, b < 256 → (!decide (c_byte b < 97) && !decide (122 < c_byte b)) = yt_let b ∧ (!decide (c_byte b < 48) && !decide (57 < c_byte b)) = yt_dig b := by decide +kernel
theorem yt_b3 : ∀ b, b < 256 → decide (0 < c_byte b) = (Nat.blt 0 b && Nat.blt b 128) := by decide +kernel
theorem yt_b4 : ∀ b, b < 128 → ((nI b).toUInt32 % 65536).toInt32 = nI b ∧ (nI b).toInt8.toInt32 = nI b := by decide +kernel
theorem yt_b5 : ∀ b, b < 256 → 128 ≤ b → c_byte b < 0 := by decide +kernel
theorem yt_byt1 : ∀ i, i < 9 → (q_byt.getD 1 []).getD i 0 = nI (yt_sgn.getD i 0) := by decide +kernel
theorem yt_byt2 : ∀ i, i < 9 → yt_sgn.getD i 0 < 128 := by decide +kernel
theorem c_byte_eq {b c : Nat} (hb : b < 256) (hc : c < 128) : c_byte b = nI c ↔ b = c := by
  by_cases h : b < 128
  · have e : c_byte b = nI b := if_pos h
    rw [e]
    exact ⟨fun q => nI_inj2 (by omega) (by omega) q, fun q => by rw [q]⟩
  · have h0 := yt_b5 b hb (by omega)
    refine ⟨fun q => ?_, fun q => by omega⟩
    rw [q] at h0
    exact absurd h0 (nI_pos (by omega))
section Ctok1
variable {β : Bool} {xs : Nat → Int32} {L : Nat} {G : am_G} {I : a_F} {J : Nat → Nat → Int64} {d : Nat} {Q : am_O → am_H → Prop}
theorem p_208 : (q_tab β xs L).getD 208 [] = t_J0_checkIndex_df160 β := rfl
theorem f_208_0 : q_P β xs L 208 0 = some (im_il 0 1) := (congrArg (List.lookup 0) p_208).trans rfl
theorem f_208_1 : q_P β xs L 208 1 = some (im_il 1 2) := (congrArg (List.lookup 1) p_208).trans rfl
theorem f_208_2 : q_P β xs L 208 2 = some (im_fm β 5) := (congrArg (List.lookup 2) p_208).trans rfl
theorem f_208_5 : q_P β xs L 208 5 = some (im_invs 209 3 8) := (congrArg (List.lookup 5) p_208).trans rfl
theorem f_208_8 : q_P β xs L 208 8 = some (im_pop 9) := (congrArg (List.lookup 8) p_208).trans rfl
theorem f_208_9 : q_P β xs L 208 9 = some im_ret0e := (congrArg (List.lookup 9) p_208).trans rfl
/-- an index that is right -/
theorem g_208_0 (hR : q_RT G) {i0 i1 : Int32} (h0 : ¬ i0 < 0) (h1 : i0 < i1) (H : Q (.inl none) (G, I, J)) : q_W β xs L (d + 1) 208 0 [.int i0, .int i1] [] (G, I, J) Q := by
  refine w_il f_208_0 rfl ?_
  refine w_il f_208_1 rfl ?_
  refine w_fm f_208_2 ?_
  have go : ∀ v : Value, am_nl v = true → Nat.ble (am_cat (([v, .int i1, .int i0] : List Value).drop 3)) 8 = true → am_c1 (([v, .int i1, .int i0] : List Value).take 3) = true → q_W β xs L (d + 1) 208 5 [.int i0, .int i1] [v, .int i1, .int i0] (G, I, J) Q := fun v hv a1 a2 => by
    refine w_invs (as := [.int i0, .int i1, v]) (st' := []) f_208_5 rfl a1 a2 rfl rfl (g_209_0 (Q := q_Ri (fun y G1 I1 J1 => Q (.inl none) (G1, I1, J1)) (fun x G1 I1 J1 => Q (.inr x) (G1, I1, J1))) hR i0 i1 v hv ⟨fun q => absurd q h0, fun _ => ⟨fun _ => H, fun q => absurd h1 q⟩⟩) (k_i (fun y G1 I1 J1 H => ?_)) (x_n (fun _ => rfl) rfl (fun x h' h => h))
    refine w_pop f_208_8 ?_
    exact w_ret0 f_208_9 H
  cases β with
  | true => exact go .null rfl rfl rfl
  | false => exact go (.retAddr 7) rfl rfl rfl
theorem k_lat (hR : q_RT G) {e : Nat} (he : e + 1 = 3 ∨ e + 1 = 4) : q_W β xs L d 206 0 [.retAddr (e + 1)] [] (G, I, J) (fun o h => o = .inl (some (.int 1)) ∧ h = (G, I, J)) :=
  g_206_0 hR e ⟨fun q => absurd q (by decide), fun _ => ⟨he, fun q => absurd rfl q, fun _ => g_206_18 hR e _ ⟨Or.inr rfl, rfl, rfl⟩⟩⟩
theorem k_coder (hR : q_RT G) {e : Nat} (he : e + 1 = 3 ∨ e + 1 = 4) : q_W β xs L d 204 0 [.retAddr (e + 1)] [] (G, I, J) (fun o h => o = .inl (some (.int 0)) ∧ h = (G, I, J)) :=
  g_204_0 hR e ⟨fun q => absurd q (by decide), fun _ => ⟨he, g_204_14 hR e _ ⟨rfl, rfl, rfl⟩⟩⟩
theorem k_len3 (hR : q_RT G) : q_W β xs L (d + 1) 203 0 [.retAddr 3] [] (G, I, J) (fun o h => o = .inl (some (.int (nI 154))) ∧ h = (G, I, J)) :=
  g_203_0 hR 2 ⟨Or.inl rfl, Or.inl rfl, Or.inl rfl, q_useI (k_coder (β := β) (xs := xs) (L := L) (d := d) hR (e := 2) (Or.inl rfl)) (Nat.le_refl _) ⟨by decide +kernel, rfl⟩⟩
theorem k_len4 (hR : q_RT G) : q_W β xs L (d + 1) 203 0 [.retAddr 4] [] (G, I, J) (fun o h => o = .inl (some (.int (nI 9))) ∧ h = (G, I, J)) :=
  g_203_0 hR 3 ⟨Or.inr rfl, Or.inr rfl, Or.inr rfl, q_useI (k_coder (β := β) (xs := xs) (L := L) (d := d) hR (e := 3) (Or.inr rfl)) (Nat.le_refl _) ⟨by decide +kernel, rfl⟩⟩
/-- the i-th character of the words -/
theorem k_chr (hR : q_RT G) {i : Nat} (hi : i < 154) : q_W β xs L (d + 3) 205 0 [.retAddr 3, .int (nI i)] [] (G, I, J) (fun o h => o = .inl (some (.int (nI (yt_txt.getD i 0)))) ∧ h = (G, I, J)) := by
  have ei : (nI i).toNatClampNeg = i := nI_clamp (by omega)
  have en : ∀ x : Int32, x = nI (yt_txt.getD i 0) → narrow .char (.int x) = .int x := fun x hx => by
    rw [hx]
    exact congrArg Value.int (yt_ch2 i hi)
  refine g_205_0 hR 2 _ ⟨Or.inl rfl, q_useI (k_lat (β := β) (xs := xs) (L := L) (d := d + 2) hR (e := 2) (Or.inl rfl)) (Nat.le_refl _) ⟨fun q => absurd q (by decide), fun _ => ⟨Or.inl rfl, ?_⟩⟩⟩
  have hc : ((((q_byt.getD (4 + 1 - 5) []).getD (nI i).toNatClampNeg 0) &&& 255).toUInt32 % 65536).toInt32 = nI (yt_txt.getD i 0) := by
    rw [ei]
    exact yt_ch i hi
  refine g_207_0 hR 4 _ ⟨Or.inl rfl, ?_⟩
  refine g_208_0 hR (nI_pos (by omega)) ((nI_ltI (b := 154) (by omega) (by omega)).mpr hi) ⟨⟨Or.inl rfl, (show am_is (nI i) 154 = true from am_is_nI hi (by decide))⟩, en _ hc, en _ hc, ?_, rfl⟩
  rw [hc]
theorem k_enc (hR : q_RT G) {b : Nat} (hb : b < 128) : q_W β xs L d 213 0 [.int (nI b)] [] (G, I, J) (fun o h => o = .inl (some (.int 1)) ∧ h = (G, I, J)) :=
  g_213_0 hR _ ⟨fun q => absurd q (nI_pos (by omega)), fun _ => ⟨fun q => absurd ((nI_ltI (a := 255) (by omega) (by omega)).mp q) (by omega), fun _ => g_213_16 hR _ _ ⟨Or.inr rfl, rfl, rfl⟩⟩⟩
/-- the signs, from the i-th on -/
theorem k_sgL (hR : q_RT G) {b : Nat} (hb : b < 128) {i1 i2 : Int32} (h1 : (∀ i, i < 9 → yt_sgn.getD i 0 ≠ b) → Q (.inl (some (.int (-1)))) (G, I, J)) (h2 : ∀ i, i < 9 → yt_sgn.getD i 0 = b → Q (.inl (some (.int (nI i)))) (G, I, J)) : ∀ m i, i + m = 9 → (∀ j, j < i → yt_sgn.getD j 0 ≠ b) → q_W β xs L d 214 7 [.retAddr 6, .int i1, .int i2, .int (nI 9), .int (nI b), .int (nI i)] [] (G, I, J) Q
  | 0, i, hi, hj => by
    have e : i = 9 := by omega
    subst e
    exact g_214_7 hR 5 _ _ _ _ _ ⟨fun _ => h1 hj, fun q => absurd q (by decide)⟩
  | m + 1, i, hi, hj => by
    have ei : (nI i).toNatClampNeg = i := nI_clamp (by omega)
    refine g_214_7 hR 5 _ _ _ _ _ ⟨fun q => absurd ((nI_ltI (by omega) (by omega)).mpr (by omega)) q, fun _ => ⟨⟨Or.inr rfl, am_is_nI (by show i < 9; omega) (by decide)⟩, ?_⟩⟩
    rw [ei, show (q_byt.getD (5 + 1 - 5) []).getD i 0 = nI (yt_sgn.getD i 0) from yt_byt1 i (by omega)]
    have hlt := yt_byt2 i (by omega)
    have eq : nI (yt_sgn.getD i 0) = nI b ↔ yt_sgn.getD i 0 = b := ⟨fun q => nI_inj2 (by omega) (by omega) q, fun q => by rw [q]⟩
    rw [eq]
    refine ⟨fun z => ?_, fun z => h2 i (by omega) z⟩
    rw [nI_1]
    refine k_sgL hR hb h1 h2 m (i + 1) (by omega) (fun j hj2 => ?_)
    by_cases e : j = i
    · subst e; exact z
    · exact hj j (by omega)
theorem yt_sgn_mem {b : Nat} : (∃ i, i < 9 ∧ yt_sgn.getD i 0 = b) ↔ b ∈ yt_sgn := by
  constructor
  · rintro ⟨i, hi, rfl⟩
    revert hi
    revert i
    decide +kernel
  · intro h
    obtain ⟨i, hi, he⟩ := List.mem_iff_getElem.mp h
    refine ⟨i, hi, ?_⟩
    rw [List.getD_eq_getElem?_getD, List.getElem?_eq_getElem hi]
    exact he
/-- is it a sign -/
theorem k_sgn (hR : q_RT G) {b : Nat} (hb : b < 128) : q_W β xs L (d + 4) 210 0 [.retAddr 4, .int (nI b)] [] (G, I, J) (fun o h => ∃ y : Int32, o = .inl (some (.int y)) ∧ h = (G, I, J) ∧ (y < 0 ↔ ¬ b ∈ yt_sgn)) := by
  refine g_210_0 hR 3 _ ⟨Or.inr rfl, ?_⟩
  refine g_211_0 hR 3 _ _ ⟨Or.inr rfl, q_useI (k_lat (β := β) (xs := xs) (L := L) (d := d + 2) hR (e := 3) (Or.inr rfl)) (Nat.le_refl _) ⟨fun q => absurd q (by decide), fun _ => ⟨Or.inr rfl, Or.inr rfl, ?_⟩⟩⟩
  refine q_useI (k_len4 (β := β) (xs := xs) (L := L) (d := d + 1) hR) (Nat.le_refl _) ?_
  refine g_212_0 hR 5 _ _ _ (q_useI (k_enc (β := β) (xs := xs) (L := L) (d := d + 1) hR hb) (Nat.le_refl _) ⟨fun _ => ⟨Or.inr rfl, fun _ => ?_, fun q => absurd (by decide) q⟩, fun q => absurd q (by decide)⟩)
  have fin : ∀ y : Int32, (y < 0 ↔ ¬ b ∈ yt_sgn) → ∃ z : Int32, (Sum.inl (some (Value.int y)) : am_O) = .inl (some (.int z)) ∧ ((G, I, J) : am_H) = (G, I, J) ∧ (z < 0 ↔ ¬ b ∈ yt_sgn) := fun y hy => ⟨y, rfl, rfl, hy⟩
  refine g_214_0 hR 5 _ _ _ ?_
  rw [(yt_b4 b hb).2]
  refine k_sgL hR hb (fun h => fin _ ⟨fun _ q => ?_, fun _ => by decide⟩) (fun i hi h => fin _ ⟨fun q => absurd q (nI_pos (by omega)), fun q => absurd (yt_sgn_mem.mp ⟨i, hi, h⟩) q⟩) 9 0 rfl (fun j hj => absurd hj (Nat.not_lt_zero j))
  obtain ⟨i, hi, he⟩ := yt_sgn_mem.mpr q
  exact h i hi he
theorem k_isL (hR : q_RT G) (x : Int32) : q_W β xs L d 46 0 [.int x] [] (G, I, J) (fun o h => o = .inl (some (.int (a_is (!decide (x < 97) && !decide (122 < x))))) ∧ h = (G, I, J)) := by
  refine g_46_0 hR _ ⟨fun z => g_46_16 hR _ (g_46_17 hR _ _ ⟨Or.inl rfl, by simp [z, a_is], rfl⟩), fun z => ⟨fun y => g_46_16 hR _ (g_46_17 hR _ _ ⟨Or.inl rfl, by simp [y, a_is], rfl⟩), fun y => g_46_17 hR _ _ ⟨Or.inr rfl, by simp [z, y, a_is], rfl⟩⟩⟩
theorem k_isD (hR : q_RT G) (x : Int32) : q_W β xs L d 47 0 [.int x] [] (G, I, J) (fun o h => o = .inl (some (.int (a_is (!decide (x < 48) && !decide (57 < x))))) ∧ h = (G, I, J)) := by
  refine g_47_0 hR _ ⟨fun z => g_47_16 hR _ (g_47_17 hR _ _ ⟨Or.inl rfl, by simp [z, a_is], rfl⟩), fun z => ⟨fun y => g_47_16 hR _ (g_47_17 hR _ _ ⟨Or.inl rfl, by simp [y, a_is], rfl⟩), fun y => g_47_17 hR _ _ ⟨Or.inr rfl, by simp [z, y, a_is], rfl⟩⟩⟩
end Ctok1

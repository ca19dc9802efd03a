/-! ===== the reference: the values of an expression ===== -/
/-- all rows but the values stay, and the first j of them stand -/
def r_vz (I0 : a_F) (v : Nat → Int32) (j : Nat) (I : a_F) : Prop := (∀ c, c ≠ 110 → I c = I0 c) ∧ ∀ i, i < j → I 110 i = v i
theorem r_vz.put {I0 I : a_F} {v : Nat → Int32} {j : Nat} (h : r_vz I0 v j I) {x : Int32} (hx : x = v j) : r_vz I0 v (j + 1) (am_u I 110 j x) := by
  refine ⟨fun c hc => (am_u_row _ _ _ _ hc).trans (h.1 c hc), fun i hi => ?_⟩
  by_cases hij : i = j
  · subst hij; rw [am_u_same]; exact hx
  · rw [am_u_ne (Or.inr hij)]; exact h.2 i (by omega)
theorem a_oth_le (x : Int32) (l : Nat) : ∀ n, a_oth x l n ≤ n
  | 0 => Nat.le_refl _
  | n + 1 => by
    unfold a_oth
    have := a_oth_le x l n
    split <;> omega
section R8
variable {β : Bool} {xs : Nat → Int32} {L : Nat} {G : am_G} {J : Nat → Nat → Int64}
theorem r_sees {d nq nl : Nat} (hR : q_RT G) {D I0 s : a_F} (hS : r_S nq I0 s) (hq : nq ≤ 12) {p l : Nat} (hp : p < 20) (hl : l < 5) (h61 : I0 61 p = D 61 p) (h62 : I0 62 p = D 62 p) (h63 : I0 63 p = D 63 p) (hnl : I0 59 3 = nI nl) (hnl2 : nl ≤ 5) (hDl : D 59 3 = nI nl)
    (hf : a_nn 20 (D 62 p)) (hm : a_nn 20 (D 63 p)) (hsp : a_nn 20 (s 3 p)) (hst : a_nn nq (s 4 p)) (hbo : s 1 p ≠ -1 → ∃ j, j < nq ∧ s 2 p = nI j) {c : a_C} (hpl : a_nn nq c.2.2.1) (ht : I0 59 76 = c.1) (hw : I0 59 78 = c.2.1) (hat : I0 59 79 = c.2.2.1) (hto : I0 59 80 = c.2.2.2.1) (hb : c.2.1 = 9 → I0 59 82 = c.2.2.2.2) :
    q_W β xs L (d + 1) 157 0 [.ref 59, .int (nI p), .int (nI l), .retAddr 0, .retAddr 0, .retAddr 0, .retAddr 0] [] (G, I0, J) (fun o h => o = .inl none ∧ ∃ I', h = (G, I', J) ∧ r_vz I0 (a_val D s c p l) 13 I') := by
  have ep : (nI p).toNatClampNeg = p := nI_clamp (by omega)
  have ip : am_is (nI p) 20 = true := am_is_nI hp (by omega)
  have S0 := hS.1 p hp
  obtain ⟨s0, s1, s2, s3, s4, s5⟩ := S0
  have c62 : ∀ {j I}, r_vz I0 (a_val D s c p l) j I → I 62 p = D 62 p := fun h => by rw [h.1 62 (by decide)]; exact h62
  have c63 : ∀ {j I}, r_vz I0 (a_val D s c p l) j I → I 63 p = D 63 p := fun h => by rw [h.1 63 (by decide)]; exact h63
  have has : ∀ {j I}, r_vz I0 (a_val D s c p l) j I → ∀ (x : Int32) (m : Nat), m < 32 → a_nn 20 x → q_W β xs L d 156 0 [.ref 59, .int x, .int (nI m)] [] (G, I, J) (fun o h => o = .inl (some (.int (a_is (a_has s x m)))) ∧ h = (G, I, J)) := by
    intro j I h x m hm2 hx
    have H := r_has (β := β) (xs := xs) (L := L) (G := G) (I := I) (J := J) (d := d) hR (p := x) (l := m) hm2 hx
    rw [h.1 91 (by decide), r_has_eq hS hx] at H
    exact H
  have bit : ∀ (I : a_F) (b : Bool), q_W β xs L d 155 0 [.int (a_is b)] [] (G, I, J) (fun o h => o = .inl (some (.int (a_is b))) ∧ h = (G, I, J)) := fun I b => r_bitB (β := β) (xs := xs) (L := L) (d := d) hR b
  have now : ∀ j, j < nq → I0 97 j = s 6 j ∧ I0 98 j = s 7 j := hS.2.1
  have pn : ∀ n, n < 2 ^ 31 → ¬ (nI n = -1) := fun n hn w => by
    have w2 := congrArg Int32.toInt w
    rw [nI_toInt hn] at w2
    have : (-1 : Int32).toInt = -1 := by decide
    omega
  have hpp : a_has s (nI p) l = bt (s 0 p) l := by
    unfold a_has
    rw [show a_ix (nI p) = p from ep]
    simp [pn p (by omega)]
  have hpo : ∀ m, a_has s (nI p) m = bt (s 0 p) m := fun m => by
    unfold a_has
    rw [show a_ix (nI p) = p from ep]
    simp [pn p (by omega)]
  -- the last value
  have at502 : ∀ (I : a_F) (i3 i4 i5 i6 x : Int32), r_vz I0 (a_val D s c p l) 12 I → x = a_val D s c p l 12 → q_W β xs L (d + 1) 157 502 [.ref 59, .int (nI p), .int (nI l), .int i3, .int i4, .int i5, .int i6] [.int x, .int 12, .ref 110] (G, I, J) (fun o h => o = .inl none ∧ ∃ I', h = (G, I', J) ∧ r_vz I0 (a_val D s c p l) 13 I') :=
    fun I i3 i4 i5 i6 x hz hx => g_157_502 hR _ _ _ _ _ _ _ _ ⟨by decide, rfl, _, rfl, hz.put hx⟩
  have at430 : ∀ (I : a_F) (i3 i4 i5 i6 : Int32) (b : Bool), r_vz I0 (a_val D s c p l) 10 I → a_is b = a_val D s c p l 10 → q_W β xs L (d + 1) 157 430 [.ref 59, .int (nI p), .int (nI l), .int i3, .int i4, .int i5, .int i6] [.int (a_is b), .int 10, .ref 110] (G, I, J) (fun o h => o = .inl none ∧ ∃ I', h = (G, I', J) ∧ r_vz I0 (a_val D s c p l) 13 I') := by
    intro I i3 i4 i5 i6 b hz hx
    refine g_157_430 hR _ _ _ _ _ _ _ _ (q_useI (bit I b) (Nat.le_refl _) ⟨hR, by decide, by decide, by decide, ip, ?_⟩)
    have z12 : r_vz I0 (a_val D s c p l) 12 (am_u (am_u I 110 10 (a_is b)) 110 11 (c.1 / 365)) := (hz.put hx).put rfl
    rw [ep, hz.1 92 (by decide), hz.1 93 (by decide), hz.1 59 (by decide), hz.1 98 (by decide), ht, s1]
    refine ⟨fun w => g_157_480 hR _ _ _ _ _ _ _ (at502 _ _ _ _ _ _ z12 (by simp [a_val, w])), fun w => ?_⟩
    obtain ⟨j, hj, hj2⟩ := hbo w
    have e93 : I0 93 p = nI j := (s2 w).trans hj2
    rw [e93, show (nI j).toNatClampNeg = j from nI_clamp (by omega), (now j hj).2]
    have e2 : a_ix (s 2 p) = j := by rw [hj2]; exact nI_clamp (by omega)
    refine ⟨ip, am_is_nI (by omega) (by omega), fun y => ⟨ip, am_is_nI (by omega) (by omega), at502 _ _ _ _ _ _ z12 (by simp [a_val, w, e2, y])⟩, fun y => g_157_480 hR _ _ _ _ _ _ _ (at502 _ _ _ _ _ _ z12 (by simp [a_val, e2, y]))⟩
  have at353 : ∀ m o (I : a_F) (i3 i4 : Int32), o + m = nl → r_vz I0 (a_val D s c p l) 9 I → q_W β xs L (d + 1) 157 353 [.ref 59, .int (nI p), .int (nI l), .int i3, .int i4, .int (nI (a_oth (s 0 p) l o)), .int (nI o)] [] (G, I, J) (fun o h => o = .inl none ∧ ∃ I', h = (G, I', J) ∧ r_vz I0 (a_val D s c p l) 13 I') := by
    intro m
    induction m with
    | zero =>
      intro o I i3 i4 ho hz
      have e : o = nl := by omega
      subst e
      refine g_157_353 hR _ _ _ _ _ _ ⟨fun _ => ⟨by decide, ?_⟩, fun w => ?_⟩
      · have z10 : r_vz I0 (a_val D s c p l) 10 (am_u I 110 9 (nI (a_oth (s 0 p) l o))) := hz.put (by show _ = nI (a_oth (s 0 p) l (a_ix (D 59 3))); rw [hDl, show a_ix (nI o) = o from nI_clamp (by omega)])
        rw [hz.1 59 (by decide), hw, hto]
        exact ⟨fun w => g_157_425 hR _ _ _ _ _ _ _ (at430 _ _ _ _ _ true z10 (by simp [a_val, w])), fun w => ⟨fun y => at430 _ _ _ _ _ false z10 (by simp [a_val, w, y]), fun y => g_157_425 hR _ _ _ _ _ _ _ (at430 _ _ _ _ _ true z10 (by simp [a_val, y]))⟩⟩
      · rw [hz.1 59 (by decide), hnl, nI_ltI (by omega) (by omega)] at w
        omega
    | succ m ih =>
      intro o I i3 i4 ho hz
      refine g_157_353 hR _ _ _ _ _ _ ⟨fun w => ?_, fun _ => ⟨fun w => ?_, fun w => ?_⟩⟩
      · rw [hz.1 59 (by decide), hnl] at w
        exact absurd ((nI_ltI (by omega) (by omega)).mpr (by omega)) w
      · have w2 : o = l := (nI_eq (by omega) (by omega)).mp w
        refine g_157_384 hR _ _ _ _ _ _ _ _ ?_
        have := ih (o + 1) I i3 i4 (by omega) hz
        have e : a_oth (s 0 p) l (o + 1) = a_oth (s 0 p) l o := by simp [a_oth, w2]
        rw [e] at this
        rw [nI_1, show (nI (a_oth (s 0 p) l o) + 0 : Int32) = nI (a_oth (s 0 p) l o) by rw [s_lit, nI_add]; rfl]
        exact this
      · have w2 : o ≠ l := fun z => w (by rw [z])
        refine q_useI (has hz (nI p) o (by omega) (Or.inr ⟨p, hp, rfl⟩)) (Nat.le_refl _) (q_useI (bit I _) (Nat.le_refl _) ?_)
        refine g_157_384 hR _ _ _ _ _ _ _ _ ?_
        have := ih (o + 1) I i3 i4 (by omega) hz
        rw [hpo]
        have e : nI (a_oth (s 0 p) l o) + a_is (bt (s 0 p) o) = nI (a_oth (s 0 p) l (o + 1)) := by
          cases hbt : bt (s 0 p) o
          · simp [a_oth, a_is, hbt]
          · simp [a_oth, a_is, hbt, w2, nI_1]
        rw [nI_1, e]
        exact this
  have at330 : ∀ (I : a_F) (i3 i4 x : Int32), r_vz I0 (a_val D s c p l) 7 I → x = a_val D s c p l 7 → q_W β xs L (d + 1) 157 330 [.ref 59, .int (nI p), .int (nI l), .int i3, .int i4, .retAddr 0, .retAddr 0] [.int x, .int 7, .ref 110] (G, I, J) (fun o h => o = .inl none ∧ ∃ I', h = (G, I', J) ∧ r_vz I0 (a_val D s c p l) 13 I') := by
    intro I i3 i4 x hz hx
    have z8 : r_vz I0 (a_val D s c p l) 8 (am_u I 110 7 x) := hz.put hx
    refine g_157_330 hR _ _ _ _ _ _ ⟨by decide, ?_⟩
    refine q_useI (has z8 (nI p) l (by omega) (Or.inr ⟨p, hp, rfl⟩)) (Nat.le_refl _) (q_useI (bit _ _) (Nat.le_refl _) ⟨by decide, ?_⟩)
    exact at353 nl 0 _ i3 i4 (by omega) (z8.put (by rw [hpp]; rfl))
  have at283 : ∀ (I : a_F) (i3 i4 x : Int32), r_vz I0 (a_val D s c p l) 6 I → x = a_val D s c p l 6 → q_W β xs L (d + 1) 157 283 [.ref 59, .int (nI p), .int (nI l), .int i3, .int i4, .retAddr 0, .retAddr 0] [.int x, .int 6, .ref 110] (G, I, J) (fun o h => o = .inl none ∧ ∃ I', h = (G, I', J) ∧ r_vz I0 (a_val D s c p l) 13 I') := by
    intro I i3 i4 x hz hx
    have z7 : r_vz I0 (a_val D s c p l) 7 (am_u I 110 6 x) := hz.put hx
    refine g_157_283 hR _ _ _ _ _ _ ⟨by decide, ip, ?_⟩
    rw [ep, hz.1 95 (by decide), hz.1 97 (by decide), hz.1 59 (by decide), hz.1 96 (by decide), ht, s4]
    refine ⟨fun w => g_157_329 hR _ _ _ _ _ (at330 _ _ _ _ z7 (by simp [a_val, w])), fun w => ?_⟩
    rcases hst with hst | ⟨j, hj, hj2⟩
    · exact absurd hst w
    have e4 : a_ix (s 4 p) = j := by rw [hj2]; exact nI_clamp (by omega)
    have e4' : (s 4 p).toNatClampNeg = j := e4
    rw [e4', (now j hj).1]
    refine ⟨ip, by rw [hj2]; exact am_is_nI (by omega) (by omega), fun y => g_157_329 hR _ _ _ _ _ (at330 _ _ _ _ z7 (by simp [a_val, e4, y])), fun y => ⟨ip, at330 _ _ _ _ z7 (by simp [a_val, w, e4, y, s5 w])⟩⟩
  have at235 : ∀ (I : a_F) (i3 i4 x : Int32), r_vz I0 (a_val D s c p l) 4 I → x = a_val D s c p l 4 → q_W β xs L (d + 1) 157 235 [.ref 59, .int (nI p), .int (nI l), .int i3, .int i4, .retAddr 0, .retAddr 0] [.int x, .int 4, .ref 110] (G, I, J) (fun o h => o = .inl none ∧ ∃ I', h = (G, I', J) ∧ r_vz I0 (a_val D s c p l) 13 I') := by
    intro I i3 i4 x hz hx
    have z6 : r_vz I0 (a_val D s c p l) 6 (am_u (am_u I 110 4 x) 110 5 (D 61 p)) := (hz.put hx).put rfl
    refine g_157_235 hR _ _ _ _ _ _ ⟨by decide, ip, by decide, ip, ?_⟩
    rw [ep, hz.1 92 (by decide), hz.1 59 (by decide), hz.1 61 (by decide), ht, s1, h61]
    exact ⟨fun w => ⟨ip, by decide, at283 _ _ _ _ z6 (by simp [a_val, w])⟩, fun w => at283 _ _ _ _ z6 (by simp [a_val, w])⟩
  have at192 : ∀ (I : a_F) (i3 i4 : Int32) (b : Bool), r_vz I0 (a_val D s c p l) 3 I → a_is b = a_val D s c p l 3 → q_W β xs L (d + 1) 157 192 [.ref 59, .int (nI p), .int (nI l), .int i3, .int i4, .retAddr 0, .retAddr 0] [.int (a_is b), .int 3, .ref 110] (G, I, J) (fun o h => o = .inl none ∧ ∃ I', h = (G, I', J) ∧ r_vz I0 (a_val D s c p l) 13 I') := by
    intro I i3 i4 b hz hx
    have z4 : r_vz I0 (a_val D s c p l) 4 (am_u I 110 3 (a_is b)) := hz.put hx
    refine g_157_192 hR _ _ _ _ _ _ (q_useI (bit I b) (Nat.le_refl _) ⟨hR, by decide, ?_⟩)
    rw [ep, hz.1 59 (by decide), hz.1 94 (by decide), hw, s3]
    refine ⟨fun w => ⟨ip, ?_⟩, fun w => at235 _ _ _ _ z4 ?_⟩
    · refine q_useI (has z4 (s 3 p) l (by omega) hsp) (Nat.le_refl _) (q_useI (bit _ _) (Nat.le_refl _) ?_)
      exact at235 _ _ _ _ z4 (by simp [a_val, w])
    · rw [hb w, s_bit _ (by omega)]
      simp [a_val, w, a_is]
  have at156 : ∀ (I : a_F) (i3 : Int32) (b : Bool), r_vz I0 (a_val D s c p l) 3 I → b = (!decide (D 62 p = -1) && (!decide (D 63 p = -1) && (decide (s 3 (a_ix (D 62 p)) = D 63 p) && decide (s 3 (a_ix (D 63 p)) = D 62 p)))) → q_W β xs L (d + 1) 157 156 [.ref 59, .int (nI p), .int (nI l), .int i3, .retAddr 0, .retAddr 0, .retAddr 0] [.int (a_is b)] (G, I, J) (fun o h => o = .inl none ∧ ∃ I', h = (G, I', J) ∧ r_vz I0 (a_val D s c p l) 13 I') := by
    intro I i3 b hz hx
    refine g_157_156 hR _ _ _ _ ?_
    rw [ep, hz.1 59 (by decide), hz.1 94 (by decide), hw, s3]
    exact ⟨fun w => ⟨ip, fun y => at192 _ _ _ false hz (by simp [a_val, w, y]), fun y => at192 _ _ _ true hz (by simp [a_val, w, y])⟩, fun w => at192 _ _ _ b hz (by simp [a_val, w, hx])⟩
  have at47 : ∀ (i3 : Int32) (b : Bool), a_is b = a_val D s c p l 0 → q_W β xs L (d + 1) 157 47 [.ref 59, .int (nI p), .int (nI l), .int i3, .retAddr 0, .retAddr 0, .retAddr 0] [.int (a_is b), .int 0, .ref 110] (G, I0, J) (fun o h => o = .inl none ∧ ∃ I', h = (G, I', J) ∧ r_vz I0 (a_val D s c p l) 13 I') := by
    intro i3 b hx
    have z0 : r_vz I0 (a_val D s c p l) 0 I0 := ⟨fun _ _ => rfl, fun i hi => absurd hi (Nat.not_lt_zero i)⟩
    have z1 : r_vz I0 (a_val D s c p l) 1 (am_u I0 110 0 (a_is b)) := z0.put hx
    refine g_157_47 hR _ _ _ _ _ (q_useI (bit _ _) (Nat.le_refl _) ⟨hR, by decide, ip, ?_⟩)
    rw [ep, h62]
    refine q_useI (has z1 (D 62 p) l (by omega) hf) (Nat.le_refl _) (q_useI (bit _ _) (Nat.le_refl _) ⟨hR, by decide, ip, ?_⟩)
    have z2 : r_vz I0 (a_val D s c p l) 2 (am_u (am_u I0 110 0 (a_is b)) 110 1 (a_is (a_has s (D 62 p) l))) := z1.put rfl
    rw [c63 z1]
    refine q_useI (has z2 (D 63 p) l (by omega) hm) (Nat.le_refl _) (q_useI (bit _ _) (Nat.le_refl _) ⟨hR, by decide, ip, ?_⟩)
    have z3 : r_vz I0 (a_val D s c p l) 3 (am_u (am_u (am_u I0 110 0 (a_is b)) 110 1 (a_is (a_has s (D 62 p) l))) 110 2 (a_is (a_has s (D 63 p) l))) := z2.put rfl
    have no : (!decide (D 62 p = -1) && (!decide (D 63 p = -1) && (decide (s 3 (a_ix (D 62 p)) = D 63 p) && decide (s 3 (a_ix (D 63 p)) = D 62 p)))) = false → q_W β xs L (d + 1) 157 155 [.ref 59, .int (nI p), .int (nI l), .int i3, .retAddr 0, .retAddr 0, .retAddr 0] [] (G, am_u (am_u (am_u I0 110 0 (a_is b)) 110 1 (a_is (a_has s (D 62 p) l))) 110 2 (a_is (a_has s (D 63 p) l)), J) (fun o h => o = .inl none ∧ ∃ I', h = (G, I', J) ∧ r_vz I0 (a_val D s c p l) 13 I') := fun w => g_157_155 hR _ _ _ (at156 _ _ false z3 w.symm)
    rw [c62 z2, c63 z2, z2.1 94 (by decide)]
    refine ⟨fun w => no (by simp [w]), fun w => ⟨ip, fun y => no (by simp [y]), fun y => ?_⟩⟩
    rcases hf with hf | ⟨jf, hjf, hjf2⟩
    · exact absurd hf w
    rcases hm with hm | ⟨jm, hjm, hjm2⟩
    · exact absurd hm y
    have ef : a_ix (D 62 p) = jf := by rw [hjf2]; exact nI_clamp (by omega)
    have em : a_ix (D 63 p) = jm := by rw [hjm2]; exact nI_clamp (by omega)
    have ef' : (D 62 p).toNatClampNeg = jf := ef
    have em' : (D 63 p).toNatClampNeg = jm := em
    rw [ef', em', (hS.1 jf hjf).2.2.2.1, (hS.1 jm hjm).2.2.2.1]
    refine ⟨ip, by rw [hjf2]; exact am_is_nI hjf (by omega), ip, fun q => no (by simp [ef, q]), fun q => ⟨ip, by rw [hjm2]; exact am_is_nI hjm (by omega), ip, fun r => no (by simp [em, r]), fun r => at156 _ _ true z3 (by simp [w, y, ef, em, q, r])⟩⟩
  have at21 : ∀ x : Int32, x = (if c.2.2.1 = -1 then s 4 p else c.2.2.1) → a_nn nq x → q_W β xs L (d + 1) 157 21 [.ref 59, .int (nI p), .int (nI l), .retAddr 0, .retAddr 0, .retAddr 0, .retAddr 0] [.int x] (G, I0, J) (fun o h => o = .inl none ∧ ∃ I', h = (G, I', J) ∧ r_vz I0 (a_val D s c p l) 13 I') := by
    intro x hx hxn
    refine g_157_21 hR _ _ _ ⟨fun w => g_157_46 hR _ _ _ _ (at47 _ false (by simp [a_val, ← hx, w])), fun w => ?_⟩
    rcases hxn with hxn | ⟨j, hj, hj2⟩
    · exact absurd hxn w
    have ex : a_ix x = j := by rw [hj2]; exact nI_clamp (by omega)
    have ex' : x.toNatClampNeg = j := ex
    rw [ex', (now j hj).1]
    exact ⟨by rw [hj2]; exact am_is_nI (by omega) (by omega), fun y => g_157_46 hR _ _ _ _ (at47 _ false (by simp [a_val, ← hx, ex, y])), fun y => at47 _ true (by simp [a_val, ← hx, w, ex, y])⟩
  refine g_157_0 hR _ _ ?_
  rw [ep, hat, s4]
  exact ⟨fun w => ⟨ip, at21 _ (by rw [if_pos w]) hst⟩, fun w => at21 _ (by rw [if_neg w]) hpl⟩
end R8

/-! ===== the law's start ===== -/
theorem am_ex_P {P P' : Nat → Nat → Option am_F} {ML : Nat → Nat} {HD : Nat → Nat → Nat → Option (Nat × Nat)} {NT : Nat → Bool} (hP : ∀ k pc f, P' k pc = some f → P k pc = some f) : ∀ (n d k pc : Nat) (ls st : List Value) (h : am_H) (r : am_O × am_H), am_ex P' ML HD NT n d k pc ls st h = some r → am_ex P ML HD NT n d k pc ls st h = some r := by
  intro n
  induction n with
  | zero => intro d k pc ls st h r hr; cases hr
  | succ n ih =>
    intro d k pc ls st h r hr
    unfold am_ex at hr ⊢
    split at hr
    · cases hr
    · rename_i f hf
      simp only [hP _ _ _ hf]
      split at hr
      · cases hr
      · rename_i x hx
        try simp only [hx]
        exact ih _ _ _ _ _ _ _ hr
      · rename_i x hx
        try simp only [hx]
        split at hr
        · cases hr
        · rename_i d1
          try dsimp only
          split at hr
          · cases hr
          · rename_i v h' hc
            rw [ih _ _ _ _ _ _ _ hc]
            exact ih _ _ _ _ _ _ _ hr
          · rename_i e h' hc
            rw [ih _ _ _ _ _ _ _ hc]
            try dsimp only
            split at hr
            · exact hr
            · exact ih _ _ _ _ _ _ _ hr
      · rename_i x hx
        try simp only [hx]
        exact hr
def q_P0 (k pc : Nat) : Option am_F := if k = 199 ∨ k = 208 then none else q_P true (fun _ => 0) 0 k pc
set_option maxRecDepth 100000 in
theorem q_tab_set (β : Bool) (xs : Nat → Int32) (L : Nat) : q_tab β xs L = ((q_tab true (fun _ => 0) 0).set 199 (t_L_law xs L)).set 208 (t_J0_checkIndex_df160 β) := rfl
theorem q_P0_le {β : Bool} {xs : Nat → Int32} {L : Nat} : ∀ k pc f, q_P0 k pc = some f → q_P β xs L k pc = some f := by
  intro k pc f h
  unfold q_P0 at h
  by_cases hk : k = 199 ∨ k = 208
  · rw [if_pos hk] at h; cases h
  · rw [if_neg hk] at h
    unfold q_P at h ⊢
    rw [q_tab_set, List.getD_eq_getElem?_getD, List.getElem?_set_ne (fun z => hk (Or.inr z.symm)), List.getElem?_set_ne (fun z => hk (Or.inl z.symm)), ← List.getD_eq_getElem?_getD]
    exact h
def q_c1 : Option (am_O × am_H) := am_ex q_P0 q_ML q_HD q_NT 3000 20 69 0 [.ref 0] [] (am_fresh q_h0 12)
def q_c2 (h : am_H) : Option (am_O × am_H) := am_ex q_P0 q_ML q_HD q_NT 3000 20 121 0 [.ref 59] [] (am_fresh h 93)
def q_isN (o : am_O) : Bool := match o with
  | .inl none => true
  | _ => false
def q_ini0 : List (Nat × Nat × Int32) := [(0, 9, 0), (0, 10, 0), (0, 11, (-1)), (1, 1, 0), (1, 2, 0), (3, 3, 0), (7, 8, 0), (16, 15, 0), (32, 2, 0), (32, 3, 0), (32, 4, 0), (32, 5, 0), (32, 6, 0), (32, 7, 0), (32, 8, 0), (32, 9, 0), (32, 10, 0), (32, 11, (-1)), (34, 4, 0), (34, 5, 1), (34, 6, 0), (38, 18, 0), (39, 1, 0), (41, 0, 0), (41, 1, 0), (41, 2, 0), (41, 3, 0), (41, 4, 0), (41, 5, 0), (41, 6, 0), (41, 7, 0), (41, 8, 0), (41, 9, 0), (41, 10, 0), (41, 11, 0), (42, 4, 0), (59, 0, 0), (59, 1, 0), (59, 2, 1), (59, 3, 0), (59, 4, 0), (59, 5, 0), (59, 6, 0), (59, 20, 0), (59, 21, 0), (59, 22, (-1)), (59, 23, 0), (59, 24, 0), (59, 25, 0), (59, 26, 0), (59, 27, 0), (59, 28, 0), (59, 29, 0), (59, 32, 0), (59, 33, 0), (59, 34, 0), (59, 35, 0), (59, 51, 0), (59, 52, 0), (59, 66, 0), (59, 73, 0), (59, 76, 0), (59, 77, 0), (59, 78, 0), (59, 79, 0), (59, 80, 0), (59, 81, 0), (59, 82, 0), (59, 88, 0), (59, 89, 0), (59, 90, 0)]
def q_iniJ : List (Nat × Nat × Int64) := [(38, 19, (-1)), (73, 0, 230702), (73, 1, 409189), (73, 2, 719722099), (73, 3, 111983872174), (73, 4, 659105125), (73, 5, 1476), (73, 6, 498), (73, 7, 14836), (73, 8, 2411144), (73, 9, 23716), (73, 10, 493192), (73, 11, 109559397), (73, 12, 20105925), (73, 13, 83431602), (73, 14, 1140), (73, 15, 267845), (73, 16, 203038898), (73, 17, 452599986), (73, 18, 777130148), (73, 19, 654825061), (73, 20, 19640), (73, 21, 1253), (73, 22, 643129), (73, 23, 8243), (73, 24, 524555859), (73, 25, 655), (73, 26, 824370), (73, 27, 14145700)]
/-- what the start leaves -/
def q_chk (h : am_H) : Bool := Nat.beq h.1.1 118 && (Nat.beq h.1.2.2.1 118 && (Nat.beq h.1.2.2.2 167762 && (q_rtl.all (fun e => h.1.2.1 (e.1 / 100) (e.1 % 100) == some e.2) && (h.1.2.1 42 3 == some 46 && (h.1.2.1 32 1 == some 33 && (q_ini0.all (fun e => h.2.1 e.1 e.2.1 == e.2.2) && (q_iniJ.all (fun e => h.2.2 e.1 e.2.1 == e.2.2) && true)))))))
def q_okc : Bool := match q_c1 with
  | none => false
  | some r => q_isN r.1 && (Nat.beq r.2.1.1 59 && (match q_c2 r.2 with
    | none => false
    | some r2 => q_isN r2.1 && (Nat.beq r2.2.1.1 117 && q_chk (am_fresh r2.2 1))))
set_option maxRecDepth 100000 in
theorem q_okc_true : q_okc = true := by decide +kernel
theorem q_isN_eq {o : am_O} (h : q_isN o = true) : o = .inl none := by
  cases o with
  | inl v => cases v with
    | none => rfl
    | some v => simp [q_isN] at h
  | inr x => simp [q_isN] at h
theorem q_begin {β : Bool} {xs : Nat → Int32} {L : Nat} {d : Nat} (hd : 20 ≤ d) {Q : am_O → am_H → Prop} (H : ∀ h : am_H, q_chk h = true → q_W β xs L (d + 1) 199 23 [.retAddr 1, .ref 0, .ref 59, .ref 117, .int 0, .retAddr 0, .retAddr 0] [] h Q) : q_W β xs L (d + 1) 199 0 [.retAddr 1, .retAddr 0, .retAddr 0, .retAddr 0, .retAddr 0, .retAddr 0, .retAddr 0] [] q_h0 Q := by
  have hk := q_okc_true
  unfold q_okc at hk
  split at hk
  · cases hk
  · rename_i r hr
    rw [Bool.and_eq_true, Bool.and_eq_true] at hk
    obtain ⟨hk1, hk2, hk3⟩ := hk
    split at hk3
    · cases hk3
    · rename_i r2 hr2
      rw [Bool.and_eq_true, Bool.and_eq_true] at hk3
      obtain ⟨hk4, hk5, hk6⟩ := hk3
      obtain ⟨o1, h1⟩ := r
      obtain ⟨o2, h2⟩ := r2
      have e1 := q_isN_eq hk1
      have e2 := q_isN_eq hk4
      dsimp only at e1 e2 hk2 hk5 hk6 hr2
      subst e1; subst e2
      have n1 : h1.1.1 = 59 := Nat.eq_of_beq_eq_true hk2
      have n2 : h2.1.1 = 117 := Nat.eq_of_beq_eq_true hk5
      have w1 : q_W β xs L d 69 0 [.ref 0] [] (am_fresh q_h0 12) (fun o h => o = .inl none ∧ h = h1) := ⟨3000, _, _, am_ex_up 3000 3000 20 d _ _ _ _ _ _ (Nat.le_refl _) hd (am_ex_P q_P0_le _ _ _ _ _ _ _ _ hr), rfl, rfl⟩
      have w2 : q_W β xs L d 121 0 [.ref 59] [] (am_fresh h1 93) (fun o h => o = .inl none ∧ h = h2) := ⟨3000, _, _, am_ex_up 3000 3000 20 d _ _ _ _ _ _ (Nat.le_refl _) hd (am_ex_P q_P0_le _ _ _ _ _ _ _ _ hr2), rfl, rfl⟩
      refine w_new f_199_0 rfl ?_
      refine w_dupr f_199_3 ?_
      refine w_inv (st' := [.ref 0]) f_199_4 rfl rfl rfl rfl rfl rfl w1 (fun v h' hq => ?_) (fun x h' hq => absurd hq.1 (by intro z; cases z))
      obtain ⟨ev, rfl⟩ := hq
      cases ev
      refine w_as (ls' := [.retAddr 1, .ref 0, .retAddr 0, .retAddr 0, .retAddr 0, .retAddr 0, .retAddr 0]) f_199_7 rfl ?_
      refine w_new f_199_8 (by rw [n1]; rfl) ?_
      rw [n1]
      refine w_dupr f_199_11 ?_
      refine w_inv (st' := [.ref 59]) f_199_12 rfl rfl rfl rfl rfl rfl w2 (fun v h' hq => ?_) (fun x h' hq => absurd hq.1 (by intro z; cases z))
      obtain ⟨ev, rfl⟩ := hq
      cases ev
      refine w_as (ls' := [.retAddr 1, .ref 0, .ref 59, .retAddr 0, .retAddr 0, .retAddr 0, .retAddr 0]) f_199_15 rfl ?_
      refine w_ic f_199_16 ?_
      refine w_newa f_199_17 ⟨by rw [n2]; rfl, by decide, by decide⟩ ?_
      rw [n2]
      refine w_as (ls' := [.retAddr 1, .ref 0, .ref 59, .ref 117, .retAddr 0, .retAddr 0, .retAddr 0]) f_199_19 rfl ?_
      refine w_ic f_199_20 ?_
      refine w_is (ls' := [.retAddr 1, .ref 0, .ref 59, .ref 117, .int 0, .retAddr 0, .retAddr 0]) f_199_21 rfl ?_
      exact H _ hk6
theorem q_lookup_mem {j : Nat} {b : Nat} : ∀ {l : List (Nat × Nat)}, l.lookup b = some j → (b, j) ∈ l
  | [], h => by cases h
  | (a, x) :: l, h => by
    rw [List.lookup_cons] at h
    split at h
    · rename_i hb
      cases h
      rw [show b = a by simpa using hb]
      exact List.mem_cons_self
    · exact List.mem_cons_of_mem _ (q_lookup_mem h)
theorem q_chk_RT {h : am_H} (hk : q_chk h = true) : q_RT h.1 := by
  intro i k j hj
  unfold q_rt at hj
  split at hj
  · rename_i hlt
    have hm : (100 * i + k, j) ∈ q_rtl := q_lookup_mem hj
    simp only [q_chk, Bool.and_eq_true] at hk
    have h9 := List.all_eq_true.mp hk.2.2.2.1 _ hm
    dsimp only at h9
    rw [show (100 * i + k) / 100 = i by omega, show (100 * i + k) % 100 = k by omega] at h9
    simpa using h9
  · cases hj

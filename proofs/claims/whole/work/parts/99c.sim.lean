/-! ===== signs that wait on a pile do the same as reading downwards ===== -/
/-- how strong a sign binds; 12 is a parenthesis -/
def yx_str (o : Nat) : Nat := if o = 12 then 0 else if o = 5 then 1 else if o = 4 then 2 else if o = 3 then 3 else if o = 6 ∨ o = 7 then 4 else if o = 8 ∨ o = 9 then 5 else 6
def yx_drop (least : Nat) : List Nat → yx_C → List Nat × yx_C
  | [], out => ([], out)
  | o :: W, out => if o = 12 ∨ yx_str o < least then (o :: W, out) else yx_drop least W (out ++ [(nI o, 0)])
def yx_os (l : List Nat) : yx_C := l.map (fun o => (nI o, 0))
def yx_base (l : Nat) : List Nat → Prop
  | [] => True
  | o :: _ => o = 12 ∨ yx_str o < l
theorem yx_base.up {l l' : Nat} (h : l ≤ l') : ∀ {W : List Nat}, yx_base l W → yx_base l' W
  | [], _ => trivial
  | o :: W, hb => hb.imp id (fun q => Nat.lt_of_lt_of_le q h)
theorem yx_drop_base {l : Nat} {out : yx_C} : ∀ {W : List Nat}, yx_base l W → yx_drop l W out = (W, out)
  | [], _ => rfl
  | o :: W, h => if_pos h
theorem yx_drop_app {l : Nat} {W : List Nat} (hW : yx_base l W) : ∀ (pend : List Nat) (out : yx_C), (∀ o ∈ pend, l ≤ yx_str o ∧ o ≠ 12) → yx_drop l (pend ++ W) out = (W, out ++ yx_os pend)
  | [], out, _ => by
    rw [List.nil_append, yx_drop_base hW]
    simp [yx_os]
  | o :: r, out, h => by
    obtain ⟨h1, h2⟩ := h o (by simp)
    show (if o = 12 ∨ yx_str o < l then _ else yx_drop l (r ++ W) (out ++ [(nI o, 0)])) = _
    rw [if_neg (fun q => by rcases q with q | q; exact h2 q; omega), yx_drop_app hW r _ (fun x hx => h x (by simp [hx]))]
    simp [yx_os]
/-- T but at d -/
def yx_tu (T : Nat → Bool) (d : Nat) (b : Bool) : Nat → Bool := fun j => if j = d then b else T j
def yx_ex (t : yt_T) : Prop := yx_oP t = 0 ∧ yx_oS t = 0 ∧ yx_oB t = 0 ∧ yx_oE t = 0
section Sim
variable {n : Nat} {XL : List Nat → Nat → (Nat → Bool) → yx_C → yt_L → Prop} {XO : Bool → Nat → List Nat → Nat → (Nat → Bool) → yx_C → yt_L → Prop} {XF : Nat → Nat → Prop} {XE : yx_C → yt_L → Prop}
/-- how the pile goes on: at a sign (XL) and where an operand must stand (XO); XF a fault, XE the end -/
def yx_ru (n : Nat) (XL : List Nat → Nat → (Nat → Bool) → yx_C → yt_L → Prop) (XO : Bool → Nat → List Nat → Nat → (Nat → Bool) → yx_C → yt_L → Prop) (XF : Nat → Nat → Prop) (XE : yx_C → yt_L → Prop) : Prop :=
  (∀ W d T out ts, yx_oE (yt_hd ts) ≠ 0 → XO true 0 (yx_oE (yt_hd ts) :: (yx_drop 1 W out).1) d (yx_tu T d false) (yx_drop 1 W out).2 ts.tail → XL W d T out ts) ∧
  (∀ W d T out ts, yx_oB (yt_hd ts) ≠ 0 → XO true 0 (yx_oB (yt_hd ts) :: (yx_drop 2 W out).1) d (yx_tu T d false) (yx_drop 2 W out).2 ts.tail → XL W d T out ts) ∧
  (∀ W d T out ts, yx_oC (yt_hd ts) ≠ 0 → T d = false → XO false 0 (yx_oC (yt_hd ts) :: (yx_drop 4 W out).1) d (yx_tu T d true) (yx_drop 4 W out).2 ts.tail → XL W d T out ts) ∧
  (∀ W d T out ts, yx_oS (yt_hd ts) ≠ 0 → XO false 0 (yx_oS (yt_hd ts) :: (yx_drop 5 W out).1) d T (yx_drop 5 W out).2 ts.tail → XL W d T out ts) ∧
  (∀ W d T out ts, yx_oP (yt_hd ts) ≠ 0 → XO false 0 (yx_oP (yt_hd ts) :: (yx_drop 6 W out).1) d T (yx_drop 6 W out).2 ts.tail → XL W d T out ts) ∧
  (∀ W W1 d T out out1 ts, yt_hd ts = (4, 41) → 1 ≤ d → yx_drop 0 W out = (12 :: W1, out1) → XL W1 d T out1 ts.tail → XL W (d + 1) T out ts) ∧
  (∀ W d T out ts, yx_ex (yt_hd ts) → (yx_oC (yt_hd ts) ≠ 0 → T (d + 1) = true) → 1 ≤ d → yt_hd ts ≠ (4, 41) → XF 1 (yt_pl n ts) → XL W (d + 1) T out ts) ∧
  (∀ W T out ts, yx_ex (yt_hd ts) → (yx_oC (yt_hd ts) ≠ 0 → T 1 = true) → XE (yx_drop 0 W out).2 ts → XL W 1 T out ts) ∧
  (∀ k W d T out ts, k < 6 → yt_hd ts = (3, 7) → XO true (k + 1) (3 :: W) d T out ts.tail → XO true k W d T out ts) ∧
  (∀ W d T out ts, yt_hd ts = (3, 7) → XF 2 (yt_pl n ts) → XO true 6 W d T out ts) ∧
  (∀ b k W d T out ts, yt_hd ts = (4, 40) → d < 6 → XO true 0 (12 :: W) (d + 1) (yx_tu T (d + 1) false) out ts.tail → XO b k W d T out ts) ∧
  (∀ b k W T out ts e, yt_hd ts = (4, 40) → yx_E n 0 ts.tail = .inl e → XF e.1 e.2 → XO b k W 6 T out ts) ∧
  (∀ b k W d T out ts c, yt_hd ts ≠ (4, 40) → (b = true → yt_hd ts ≠ (3, 7)) → yx_part n (fun _ => .inl (0, 0)) ts = .inr (c, ts.tail) → XL W d T (out ++ c) ts.tail → XO b k W d T out ts) ∧
  (∀ b k W d T out ts e, yt_hd ts ≠ (4, 40) → (b = true → yt_hd ts ≠ (3, 7)) → yx_part n (fun _ => .inl (0, 0)) ts = .inl e → XF e.1 e.2 → XO b k W d T out ts)
/-- an operand of the strength l is read -/
def yx_s1 (XL : List Nat → Nat → (Nat → Bool) → yx_C → yt_L → Prop) (XO : Bool → Nat → List Nat → Nat → (Nat → Bool) → yx_C → yt_L → Prop) (XF : Nat → Nat → Prop) (d : Nat) (x : yt_L → yx_R) (l : Nat) (EX : yt_T → Prop) : Prop :=
  ∀ b k W T out ts, (b = true → yt_hd ts ≠ (3, 7)) → yx_base l W → ts.length ≤ 500 →
    (∀ e, x ts = .inl e → XF e.1 e.2 → XO b k W d T out ts) ∧
    (∀ c r, x ts = .inr (c, r) → (∀ pend part T', part ++ yx_os pend = c → (∀ o ∈ pend, l ≤ yx_str o ∧ o ≠ 12) → (∀ j, j ≤ d → T' j = T j) → EX (yt_hd r) → XL (pend ++ W) d T' (out ++ part) r) → XO b k W d T out ts)
/-- one in which tests may stand -/
def yx_s2 (XL : List Nat → Nat → (Nat → Bool) → yx_C → yt_L → Prop) (XO : Bool → Nat → List Nat → Nat → (Nat → Bool) → yx_C → yt_L → Prop) (XF : Nat → Nat → Prop) (d : Nat) (x : yt_L → yx_R) (k lb l : Nat) (EX : yt_T → Prop) : Prop :=
  ∀ W T out ts, T d = false → yx_base lb W → ts.length ≤ 500 →
    (∀ e, x ts = .inl e → XF e.1 e.2 → XO true k W d T out ts) ∧
    (∀ c r, x ts = .inr (c, r) → (∀ pend part T', part ++ yx_os pend = c → (∀ o ∈ pend, l ≤ yx_str o ∧ o ≠ 12) → (∀ j, j < d → T' j = T j) → EX (yt_hd r) → (yx_oC (yt_hd r) ≠ 0 → T' d = true) → XL (pend ++ W) d T' (out ++ part) r) → XO true k W d T out ts)
theorem yx_part_no {E E' : yt_L → yx_R} {ts : yt_L} (h : yt_hd ts ≠ (4, 40)) : yx_part n E ts = yx_part n E' ts := by
  unfold yx_part
  rw [if_neg h, if_neg h]
theorem yx_part_tl {E : yt_L → yx_R} {ts r : yt_L} {c : yx_C} (h : yt_hd ts ≠ (4, 40)) (e : yx_part n E ts = .inr (c, r)) : r = ts.tail := by
  unfold yx_part at e
  rw [if_neg h] at e
  by_cases h2 : (yt_hd ts).1 = 3
  · rw [if_pos h2] at e
    by_cases h3 : 15 ≤ (yt_hd ts).2 ∧ (yt_hd ts).2 < 28
    · rw [if_pos h3] at e
      exact (Prod.mk.inj (Sum.inr.inj e)).2.symm
    · rw [if_neg h3] at e
      cases e
  · rw [if_neg h2] at e
    by_cases h3 : (yt_hd ts).1 = 2
    · rw [if_pos h3] at e
      exact (Prod.mk.inj (Sum.inr.inj e)).2.symm
    · rw [if_neg h3] at e
      cases e
theorem yx_sPart (hr : yx_ru n XL XO XF XE) {d m : Nat} (hd : 1 ≤ d) (hdm : d + m = 6) (hE : ∀ m', m = m' + 1 → yx_s2 XL XO XF (d + 1) (yx_E n m) 0 1 1 yx_ex) : yx_s1 XL XO XF d (yx_part n (yx_E n m)) 7 (fun _ => True) := fun b k W T out ts hb hW hl => by
  obtain ⟨r1, r2, r3, r4, r5, r6, r7, r8, r9, r10, r11, r12, r13, r14⟩ := hr
  by_cases h1 : yt_hd ts = (4, 40)
  · have l1 := yt_tl_len h1 (by decide)
    have ep : yx_part n (yx_E n m) ts = (match yx_E n m ts.tail with
      | .inl e => .inl e
      | .inr (c, r) => if yt_hd r = (4, 41) then .inr (c, r.tail) else .inl (1, yt_pl n r)) := if_pos h1
    cases m with
    | zero =>
      have d6 : d = 6 := by omega
      subst d6
      refine ⟨fun e he hf => ?_, fun c r he => ?_⟩
      · rw [ep] at he
        cases hx : yx_E n 0 ts.tail with
        | inl z =>
          rw [hx] at he
          exact r12 b k W T out ts z h1 hx (by cases he; exact hf)
        | inr z => cases hx
      · rw [ep] at he
        cases he
    | succ m' =>
      obtain ⟨s1, s2⟩ := hE m' rfl (12 :: W) (yx_tu T (d + 1) false) out ts.tail (if_pos rfl) (Or.inl rfl) (by omega)
      refine ⟨fun e he hf => ?_, fun c r he hN => ?_⟩
      · refine r11 b k W d T out ts h1 (by omega) ?_
        rw [ep] at he
        cases hx : yx_E n (m' + 1) ts.tail with
        | inl z =>
          rw [hx] at he
          exact s1 z hx (by cases he; exact hf)
        | inr z =>
          obtain ⟨c, r⟩ := z
          rw [hx] at he
          dsimp only at he
          by_cases h2 : yt_hd r = (4, 41)
          · rw [if_pos h2] at he; cases he
          · rw [if_neg h2] at he
            refine s2 c r hx (fun pend part T' g1 g2 g3 g4 g5 => ?_)
            refine r7 _ d T' _ r g4 g5 hd h2 ?_
            cases he; exact hf
      · refine r11 b k W d T out ts h1 (by omega) ?_
        rw [ep] at he
        cases hx : yx_E n (m' + 1) ts.tail with
        | inl z => rw [hx] at he; cases he
        | inr z =>
          obtain ⟨c1, r'⟩ := z
          rw [hx] at he
          dsimp only at he
          by_cases h2 : yt_hd r' = (4, 41)
          · rw [if_pos h2] at he
            obtain ⟨rfl, rfl⟩ := Prod.mk.inj (Sum.inr.inj he)
            refine s2 c1 r' hx (fun pend part T' g1 g2 g3 g4 g5 => ?_)
            have hdr : yx_drop 0 (pend ++ 12 :: W) (out ++ part) = (12 :: W, out ++ part ++ yx_os pend) := yx_drop_app (l := 0) (W := 12 :: W) (Or.inl rfl) pend _ (fun o ho => ⟨Nat.zero_le _, (g2 o ho).2⟩)
            refine r6 _ W d T' _ _ r' h2 hd hdr ?_
            rw [List.append_assoc, g1]
            have := hN [] c1 T' (by simp [yx_os]) (fun o ho => by cases ho) (fun j hj => by rw [g3 j (by omega)]; exact if_neg (by omega)) trivial
            exact this
          · rw [if_neg h2] at he
            cases he
  · refine ⟨fun e he hf => ?_, fun c r he hN => ?_⟩
    · refine r14 b k W d T out ts e h1 hb ?_ hf
      rw [← he]
      exact yx_part_no h1
    · have er := yx_part_tl h1 he
      subst er
      refine r13 b k W d T out ts c h1 hb ?_ ?_
      · rw [← he]
        exact yx_part_no h1
      · exact hN [] c T (by simp [yx_os]) (fun o ho => by cases ho) (fun j hj => rfl) trivial
/-- signs of the strength l between operands that are stronger -/
theorem yx_sBL {d l H : Nat} {op : yt_T → Nat} {S : yt_L → yx_R} {EX : yt_T → Prop} (hop : ∀ t, op t ≠ 0 → 4 ≤ op t ∧ op t ≤ 11 ∧ t.1 ≠ 0) (hstr : ∀ t, op t ≠ 0 → yx_str (op t) = l ∧ op t ≠ 12) (hru : ∀ W T out ts, op (yt_hd ts) ≠ 0 → XO false 0 (op (yt_hd ts) :: (yx_drop l W out).1) d T (yx_drop l W out).2 ts.tail → XL W d T out ts) (hg : yx_g H S) (hS : yx_s1 XL XO XF d S (l + 1) EX) {W : List Nat} (hW : yx_base l W) {T : Nat → Bool} {out : yx_C} : ∀ f acc ts pend part T', ts.length < f → ts.length ≤ 500 → part ++ yx_os pend = acc → (∀ o ∈ pend, l ≤ yx_str o ∧ o ≠ 12) → (∀ j, j ≤ d → T' j = T j) → EX (yt_hd ts) →
    (∀ e, yx_binL op S f acc ts = .inl e → XF e.1 e.2 → XL (pend ++ W) d T' (out ++ part) ts) ∧
    (∀ c r, yx_binL op S f acc ts = .inr (c, r) → (∀ pend part T', part ++ yx_os pend = c → (∀ o ∈ pend, l ≤ yx_str o ∧ o ≠ 12) → (∀ j, j ≤ d → T' j = T j) → (EX (yt_hd r) ∧ op (yt_hd r) = 0) → XL (pend ++ W) d T' (out ++ part) r) → XL (pend ++ W) d T' (out ++ part) ts)
  | 0, acc, ts, pend, part, T', hf, h500, ha, hp, hT, hx => absurd hf (Nat.not_lt_zero _)
  | f + 1, acc, ts, pend, part, T', hf, h500, ha, hp, hT, hx => by
    have hdr : yx_drop l (pend ++ W) (out ++ part) = (W, out ++ acc) := by
      rw [yx_drop_app hW pend _ hp, List.append_assoc, ha]
    by_cases h1 : op (yt_hd ts) = 0
    · have eb : yx_binL op S (f + 1) acc ts = .inr (acc, ts) := if_pos h1
      rw [eb]
      refine ⟨fun e he => (by cases he), fun c r he hN => ?_⟩
      obtain ⟨rfl, rfl⟩ := Prod.mk.inj (Sum.inr.inj he)
      exact hN pend part T' ha hp hT ⟨hx, h1⟩
    · obtain ⟨o1, o2, o3⟩ := hop _ h1
      obtain ⟨t1, t2⟩ := hstr _ h1
      have l1 := yt_tl_len (ts := ts) rfl o3
      have eb : yx_binL op S (f + 1) acc ts = (match S ts.tail with
        | .inl e => .inl e
        | .inr (c, r) => yx_binL op S f (acc ++ c ++ [(nI (op (yt_hd ts)), 0)]) r) := if_neg h1
      obtain ⟨s1, s2⟩ := hS false 0 (op (yt_hd ts) :: W) T' (out ++ acc) ts.tail (fun q => by cases q) (Or.inr (by omega)) (by omega)
      have go : XO false 0 (op (yt_hd ts) :: W) d T' (out ++ acc) ts.tail → XL (pend ++ W) d T' (out ++ part) ts := fun q => hru _ _ _ _ h1 (by rw [hdr]; exact q)
      cases hx2 : S ts.tail with
      | inl z =>
        rw [eb, hx2]
        exact ⟨fun e he hfl => go (s1 z hx2 (by cases he; exact hfl)), fun c r he => by cases he⟩
      | inr z =>
        obtain ⟨c1, r1⟩ := z
        rw [eb, hx2]
        dsimp only
        obtain ⟨-, g2, -, -⟩ := hg _ _ _ hx2
        have nx : ∀ (pend' : List Nat) (part' : yx_C) (T'' : Nat → Bool), part' ++ yx_os pend' = c1 → (∀ o ∈ pend', l + 1 ≤ yx_str o ∧ o ≠ 12) → (∀ j, j ≤ d → T'' j = T' j) → EX (yt_hd r1) → _ := fun pend' part' T'' k1 k2 k3 k4 => yx_sBL hop hstr hru hg hS hW (T := T) (out := out) f (acc ++ c1 ++ [(nI (op (yt_hd ts)), 0)]) r1 (pend' ++ [op (yt_hd ts)]) (acc ++ part') T'' (by omega) (by omega) (by
            rw [← k1]
            simp [yx_os]) (fun o ho => by
            rcases List.mem_append.mp ho with q | q
            · exact ⟨by have := (k2 o q).1; omega, (k2 o q).2⟩
            · rw [List.mem_singleton.mp q]
              exact ⟨by omega, t2⟩) (fun j hj => (k3 j hj).trans (hT j hj)) k4
        have el : ∀ (pend' : List Nat) (part' : yx_C), pend' ++ [op (yt_hd ts)] ++ W = pend' ++ (op (yt_hd ts) :: W) ∧ out ++ (acc ++ part') = out ++ acc ++ part' := fun pend' part' => ⟨by simp, by simp⟩
        refine ⟨fun e he hfl => go (s2 c1 r1 hx2 (fun pend' part' T'' k1 k2 k3 k4 => ?_)), fun c r he hN => go (s2 c1 r1 hx2 (fun pend' part' T'' k1 k2 k3 k4 => ?_))⟩
        · have := (nx pend' part' T'' k1 k2 k3 k4).1 e he hfl
          rw [(el pend' part').1, (el pend' part').2] at this
          exact this
        · have := (nx pend' part' T'' k1 k2 k3 k4).2 c r he hN
          rw [(el pend' part').1, (el pend' part').2] at this
          exact this
theorem yx_sB {d l H : Nat} {op : yt_T → Nat} {S : yt_L → yx_R} {EX : yt_T → Prop} (hop : ∀ t, op t ≠ 0 → 4 ≤ op t ∧ op t ≤ 11 ∧ t.1 ≠ 0) (hstr : ∀ t, op t ≠ 0 → yx_str (op t) = l ∧ op t ≠ 12) (hru : ∀ W T out ts, op (yt_hd ts) ≠ 0 → XO false 0 (op (yt_hd ts) :: (yx_drop l W out).1) d T (yx_drop l W out).2 ts.tail → XL W d T out ts) (hg : yx_g H S) (hS : yx_s1 XL XO XF d S (l + 1) EX) : yx_s1 XL XO XF d (yx_bin op S) l (fun t => EX t ∧ op t = 0) := fun b k W T out ts hb hW hl => by
  obtain ⟨s1, s2⟩ := hS b k W T out ts hb (hW.up (Nat.le_succ _)) hl
  unfold yx_bin
  cases hx : S ts with
  | inl z =>
    dsimp only
    exact ⟨fun e he hf => s1 z hx (by cases he; exact hf), fun c r he => by cases he⟩
  | inr z =>
    obtain ⟨c1, r1⟩ := z
    dsimp only
    obtain ⟨-, g2, -, -⟩ := hg _ _ _ hx
    refine ⟨fun e he hf => s2 c1 r1 hx (fun pend part T' k1 k2 k3 k4 => ?_), fun c r he hN => s2 c1 r1 hx (fun pend part T' k1 k2 k3 k4 => ?_)⟩
    · exact (yx_sBL hop hstr hru hg hS hW (T := T) (out := out) 500 c1 r1 pend part T' (by omega) (by omega) k1 (fun o ho => ⟨by have := (k2 o ho).1; omega, (k2 o ho).2⟩) k3 k4).1 e he hf
    · exact (yx_sBL hop hstr hru hg hS hW (T := T) (out := out) 500 c1 r1 pend part T' (by omega) (by omega) k1 (fun o ho => ⟨by have := (k2 o ho).1; omega, (k2 o ho).2⟩) k3 k4).2 c r he hN
/-- likewise of 'and', 'or': tests begin anew -/
theorem yx_sDL {d l H : Nat} {op : yt_T → Nat} {S : yt_L → yx_R} {EX : yt_T → Prop} (hop : ∀ t, op t ≠ 0 → 4 ≤ op t ∧ op t ≤ 11 ∧ t.1 ≠ 0) (hstr : ∀ t, op t ≠ 0 → yx_str (op t) = l ∧ op t ≠ 12) {lb : Nat} (hlb : l < lb) (hru : ∀ W T out ts, op (yt_hd ts) ≠ 0 → XO true 0 (op (yt_hd ts) :: (yx_drop l W out).1) d (yx_tu T d false) (yx_drop l W out).2 ts.tail → XL W d T out ts) (hg : yx_g H S) (hS : yx_s2 XL XO XF d S 0 lb (l + 1) EX) {W : List Nat} (hW : yx_base l W) {T : Nat → Bool} {out : yx_C} : ∀ f acc ts pend part T', ts.length < f → ts.length ≤ 500 → part ++ yx_os pend = acc → (∀ o ∈ pend, l ≤ yx_str o ∧ o ≠ 12) → (∀ j, j < d → T' j = T j) → EX (yt_hd ts) → (yx_oC (yt_hd ts) ≠ 0 → T' d = true) →
    (∀ e, yx_binL op S f acc ts = .inl e → XF e.1 e.2 → XL (pend ++ W) d T' (out ++ part) ts) ∧
    (∀ c r, yx_binL op S f acc ts = .inr (c, r) → (∀ pend part T', part ++ yx_os pend = c → (∀ o ∈ pend, l ≤ yx_str o ∧ o ≠ 12) → (∀ j, j < d → T' j = T j) → (EX (yt_hd r) ∧ op (yt_hd r) = 0) → (yx_oC (yt_hd r) ≠ 0 → T' d = true) → XL (pend ++ W) d T' (out ++ part) r) → XL (pend ++ W) d T' (out ++ part) ts)
  | 0, acc, ts, pend, part, T', hf, h500, ha, hp, hT, hx, hc => absurd hf (Nat.not_lt_zero _)
  | f + 1, acc, ts, pend, part, T', hf, h500, ha, hp, hT, hx, hc => by
    have hdr : yx_drop l (pend ++ W) (out ++ part) = (W, out ++ acc) := by
      rw [yx_drop_app hW pend _ hp, List.append_assoc, ha]
    by_cases h1 : op (yt_hd ts) = 0
    · have eb : yx_binL op S (f + 1) acc ts = .inr (acc, ts) := if_pos h1
      rw [eb]
      refine ⟨fun e he => (by cases he), fun c r he hN => ?_⟩
      obtain ⟨rfl, rfl⟩ := Prod.mk.inj (Sum.inr.inj he)
      exact hN pend part T' ha hp hT ⟨hx, h1⟩ hc
    · obtain ⟨o1, o2, o3⟩ := hop _ h1
      obtain ⟨t1, t2⟩ := hstr _ h1
      have l1 := yt_tl_len (ts := ts) rfl o3
      have eb : yx_binL op S (f + 1) acc ts = (match S ts.tail with
        | .inl e => .inl e
        | .inr (c, r) => yx_binL op S f (acc ++ c ++ [(nI (op (yt_hd ts)), 0)]) r) := if_neg h1
      obtain ⟨s1, s2⟩ := hS (op (yt_hd ts) :: W) (yx_tu T' d false) (out ++ acc) ts.tail (if_pos rfl) (Or.inr (by omega)) (by omega)
      have go : XO true 0 (op (yt_hd ts) :: W) d (yx_tu T' d false) (out ++ acc) ts.tail → XL (pend ++ W) d T' (out ++ part) ts := fun q => hru _ _ _ _ h1 (by rw [hdr]; exact q)
      cases hx2 : S ts.tail with
      | inl z =>
        rw [eb, hx2]
        exact ⟨fun e he hfl => go (s1 z hx2 (by cases he; exact hfl)), fun c r he => by cases he⟩
      | inr z =>
        obtain ⟨c1, r1⟩ := z
        rw [eb, hx2]
        dsimp only
        obtain ⟨-, g2, -, -⟩ := hg _ _ _ hx2
        have nx : ∀ (pend' : List Nat) (part' : yx_C) (T'' : Nat → Bool), part' ++ yx_os pend' = c1 → (∀ o ∈ pend', l + 1 ≤ yx_str o ∧ o ≠ 12) → (∀ j, j < d → T'' j = yx_tu T' d false j) → EX (yt_hd r1) → (yx_oC (yt_hd r1) ≠ 0 → T'' d = true) → _ := fun pend' part' T'' k1 k2 k3 k4 k5 => yx_sDL hop hstr hlb hru hg hS hW (T := T) (out := out) f (acc ++ c1 ++ [(nI (op (yt_hd ts)), 0)]) r1 (pend' ++ [op (yt_hd ts)]) (acc ++ part') T'' (by omega) (by omega) (by
            rw [← k1]
            simp [yx_os]) (fun o ho => by
            rcases List.mem_append.mp ho with q | q
            · exact ⟨by have := (k2 o q).1; omega, (k2 o q).2⟩
            · rw [List.mem_singleton.mp q]
              exact ⟨by omega, t2⟩) (fun j hj => (k3 j hj).trans ((if_neg (by omega)).trans (hT j hj))) k4 k5
        have el : ∀ (pend' : List Nat) (part' : yx_C), pend' ++ [op (yt_hd ts)] ++ W = pend' ++ (op (yt_hd ts) :: W) ∧ out ++ (acc ++ part') = out ++ acc ++ part' := fun pend' part' => ⟨by simp, by simp⟩
        refine ⟨fun e he hfl => go (s2 c1 r1 hx2 (fun pend' part' T'' k1 k2 k3 k4 k5 => ?_)), fun c r he hN => go (s2 c1 r1 hx2 (fun pend' part' T'' k1 k2 k3 k4 k5 => ?_))⟩
        · have := (nx pend' part' T'' k1 k2 k3 k4 k5).1 e he hfl
          rw [(el pend' part').1, (el pend' part').2] at this
          exact this
        · have := (nx pend' part' T'' k1 k2 k3 k4 k5).2 c r he hN
          rw [(el pend' part').1, (el pend' part').2] at this
          exact this
theorem yx_sD {d l H : Nat} {op : yt_T → Nat} {S : yt_L → yx_R} {EX : yt_T → Prop} (hop : ∀ t, op t ≠ 0 → 4 ≤ op t ∧ op t ≤ 11 ∧ t.1 ≠ 0) (hstr : ∀ t, op t ≠ 0 → yx_str (op t) = l ∧ op t ≠ 12) {lb : Nat} (hlb : l < lb) (hru : ∀ W T out ts, op (yt_hd ts) ≠ 0 → XO true 0 (op (yt_hd ts) :: (yx_drop l W out).1) d (yx_tu T d false) (yx_drop l W out).2 ts.tail → XL W d T out ts) (hg : yx_g H S) (hS : yx_s2 XL XO XF d S 0 lb (l + 1) EX) : yx_s2 XL XO XF d (yx_bin op S) 0 l l (fun t => EX t ∧ op t = 0) := fun W T out ts hT hW hl => by
  obtain ⟨s1, s2⟩ := hS W T out ts hT (hW.up (by omega)) hl
  unfold yx_bin
  cases hx : S ts with
  | inl z =>
    dsimp only
    exact ⟨fun e he hf => s1 z hx (by cases he; exact hf), fun c r he => by cases he⟩
  | inr z =>
    obtain ⟨c1, r1⟩ := z
    dsimp only
    obtain ⟨-, g2, -, -⟩ := hg _ _ _ hx
    refine ⟨fun e he hf => s2 c1 r1 hx (fun pend part T' k1 k2 k3 k4 k5 => ?_), fun c r he hN => s2 c1 r1 hx (fun pend part T' k1 k2 k3 k4 k5 => ?_)⟩
    · exact (yx_sDL hop hstr hlb hru hg hS hW (T := T) (out := out) 500 c1 r1 pend part T' (by omega) (by omega) k1 (fun o ho => ⟨by have := (k2 o ho).1; omega, (k2 o ho).2⟩) k3 k4 k5).1 e he hf
    · exact (yx_sDL hop hstr hlb hru hg hS hW (T := T) (out := out) 500 c1 r1 pend part T' (by omega) (by omega) k1 (fun o ho => ⟨by have := (k2 o ho).1; omega, (k2 o ho).2⟩) k3 k4 k5).2 c r he hN
/-- a test -/
theorem yx_sC (hr : yx_ru n XL XO XF XE) {d H : Nat} {S : yt_L → yx_R} {EX : yt_T → Prop} (hg : yx_g H S) (hS : yx_s1 XL XO XF d S 5 EX) {k : Nat} {W : List Nat} {T : Nat → Bool} {out : yx_C} {ts : yt_L} (h7 : yt_hd ts ≠ (3, 7)) (hT : T d = false) (hW : yx_base 4 W) (hl : ts.length ≤ 500) :
    (∀ e, yx_cmp S ts = .inl e → XF e.1 e.2 → XO true k W d T out ts) ∧
    (∀ c r, yx_cmp S ts = .inr (c, r) → (∀ pend part T', part ++ yx_os pend = c → (∀ o ∈ pend, 4 ≤ yx_str o ∧ o ≠ 12) → (∀ j, j < d → T' j = T j) → EX (yt_hd r) → (yx_oC (yt_hd r) ≠ 0 → T' d = true) → XL (pend ++ W) d T' (out ++ part) r) → XO true k W d T out ts) := by
  obtain ⟨r1, r2, r3, -⟩ := hr
  obtain ⟨s1, s2⟩ := hS true k W T out ts (fun _ => h7) (hW.up (by decide)) hl
  unfold yx_cmp
  cases hx : S ts with
  | inl z =>
    dsimp only
    exact ⟨fun e he hf => s1 z hx (by cases he; exact hf), fun c r he => by cases he⟩
  | inr z =>
    obtain ⟨c1, q1⟩ := z
    dsimp only
    obtain ⟨-, g2, -, -⟩ := hg _ _ _ hx
    by_cases h1 : yx_oC (yt_hd q1) = 0
    · rw [if_pos h1]
      refine ⟨fun e he => (by cases he), fun c r he hN => s2 c1 q1 hx (fun pend part T' k1 k2 k3 k4 => ?_)⟩
      obtain ⟨rfl, rfl⟩ := Prod.mk.inj (Sum.inr.inj he)
      exact hN pend part T' k1 (fun o ho => ⟨by have := (k2 o ho).1; omega, (k2 o ho).2⟩) (fun j hj => k3 j (by omega)) k4 (fun q => absurd h1 q)
    · rw [if_neg h1]
      obtain ⟨o1, o2, o3⟩ := yx_oC_op _ h1
      have l1 := yt_tl_len (ts := q1) rfl o3
      have hstr : yx_str (yx_oC (yt_hd q1)) = 4 ∧ yx_oC (yt_hd q1) ≠ 12 := by
        have : yx_oC (yt_hd q1) = 6 ∨ yx_oC (yt_hd q1) = 7 := by
          revert h1
          unfold yx_oC
          split
          · exact fun _ => Or.inl rfl
          · split
            · exact fun _ => Or.inr rfl
            · exact fun q => absurd rfl q
        rcases this with e | e <;> rw [e] <;> decide
      have go : ∀ pend part T', part ++ yx_os pend = c1 → (∀ o ∈ pend, 5 ≤ yx_str o ∧ o ≠ 12) → (∀ j, j ≤ d → T' j = T j) → XO false 0 (yx_oC (yt_hd q1) :: W) d (yx_tu T' d true) (out ++ c1) q1.tail → XL (pend ++ W) d T' (out ++ part) q1 := fun pend part T' k1 k2 k3 q => by
        have hdr : yx_drop 4 (pend ++ W) (out ++ part) = (W, out ++ c1) := by
          rw [yx_drop_app hW pend _ (fun o ho => ⟨by have := (k2 o ho).1; omega, (k2 o ho).2⟩), List.append_assoc, k1]
        refine r3 _ _ _ _ _ h1 ((k3 d (Nat.le_refl _)).trans hT) ?_
        rw [hdr]
        exact q
      cases hy : S q1.tail with
      | inl z =>
        dsimp only
        refine ⟨fun e he hf => s2 c1 q1 hx (fun pend part T' k1 k2 k3 k4 => go pend part T' k1 k2 k3 ?_), fun c r he => by cases he⟩
        obtain ⟨w1, -⟩ := hS false 0 (yx_oC (yt_hd q1) :: W) (yx_tu T' d true) (out ++ c1) q1.tail (fun q => by cases q) (Or.inr (by omega)) (by omega)
        exact w1 z hy (by cases he; exact hf)
      | inr z =>
        obtain ⟨c2, q2⟩ := z
        dsimp only
        refine ⟨fun e he => (by cases he), fun c r he hN => s2 c1 q1 hx (fun pend part T' k1 k2 k3 k4 => go pend part T' k1 k2 k3 ?_)⟩
        obtain ⟨rfl, rfl⟩ := Prod.mk.inj (Sum.inr.inj he)
        obtain ⟨-, w2⟩ := hS false 0 (yx_oC (yt_hd q1) :: W) (yx_tu T' d true) (out ++ c1) q1.tail (fun q => by cases q) (Or.inr (by omega)) (by omega)
        refine w2 c2 q2 hy (fun pend' part' T'' j1 j2 j3 j4 => ?_)
        have := hN (pend' ++ [yx_oC (yt_hd q1)]) (c1 ++ part') T'' (by rw [← j1]; simp [yx_os]) (fun o ho => by
          rcases List.mem_append.mp ho with q | q
          · exact ⟨by have := (j2 o q).1; omega, (j2 o q).2⟩
          · rw [List.mem_singleton.mp q]
            exact ⟨by omega, hstr.2⟩) (fun j hj => (j3 j (by omega)).trans ((if_neg (by omega)).trans (k3 j (by omega)))) j4 (fun _ => (j3 d (Nat.le_refl _)).trans (if_pos rfl))
        rw [show pend' ++ [yx_oC (yt_hd q1)] ++ W = pend' ++ (yx_oC (yt_hd q1) :: W) by simp, show out ++ (c1 ++ part') = out ++ c1 ++ part' by simp] at this
        exact this
theorem yx_sN (hr : yx_ru n XL XO XF XE) {d H : Nat} {S : yt_L → yx_R} {EX : yt_T → Prop} (hg : yx_g H S) (hS : yx_s1 XL XO XF d S 5 EX) : ∀ m k, k + m = 6 → yx_s2 XL XO XF d (yx_not n S m) k 4 3 EX
  | 0, k, hk, W, T, out, ts, hT, hW, hl => by
    have e : k = 6 := by omega
    subst e
    by_cases h7 : yt_hd ts = (3, 7)
    · have ex : yx_not n S 0 ts = .inl (2, yt_pl n ts) := if_pos h7
      rw [ex]
      refine ⟨fun e he hf => ?_, fun c r he => by cases he⟩
      obtain ⟨r1, r2, r3, r4, r5, r6, r7, r8, r9, r10, -⟩ := hr
      refine r10 W d T out ts h7 ?_
      cases he; exact hf
    · have ex : yx_not n S 0 ts = yx_cmp S ts := if_neg h7
      rw [ex]
      obtain ⟨w1, w2⟩ := yx_sC hr hg hS (k := 6) (out := out) h7 hT hW hl
      exact ⟨w1, fun c r he hN => w2 c r he (fun pend part T' k1 k2 => hN pend part T' k1 (fun o ho => ⟨by have := (k2 o ho).1; omega, (k2 o ho).2⟩))⟩
  | m + 1, k, hk, W, T, out, ts, hT, hW, hl => by
    by_cases h7 : yt_hd ts = (3, 7)
    · have l1 := yt_tl_len h7 (by decide)
      have ex : yx_not n S (m + 1) ts = (match yx_not n S m ts.tail with
        | .inl e => .inl e
        | .inr (c, r) => .inr (c ++ [(nI 3, 0)], r)) := if_pos h7
      rw [ex]
      obtain ⟨w1, w2⟩ := yx_sN hr hg hS m (k + 1) (by omega) (3 :: W) T out ts.tail hT (Or.inr (by decide)) (by omega)
      obtain ⟨r1, r2, r3, r4, r5, r6, r7, r8, r9, -⟩ := hr
      cases hx : yx_not n S m ts.tail with
      | inl z =>
        dsimp only
        exact ⟨fun e he hf => r9 k W d T out ts (by omega) h7 (w1 z hx (by cases he; exact hf)), fun c r he => by cases he⟩
      | inr z =>
        obtain ⟨c1, q1⟩ := z
        dsimp only
        refine ⟨fun e he => (by cases he), fun c r he hN => r9 k W d T out ts (by omega) h7 (w2 c1 q1 hx (fun pend part T' k1 k2 k3 k4 k5 => ?_))⟩
        obtain ⟨rfl, rfl⟩ := Prod.mk.inj (Sum.inr.inj he)
        have := hN (pend ++ [3]) part T' (by rw [← k1]; simp [yx_os]) (fun o ho => by
          rcases List.mem_append.mp ho with q | q
          · exact k2 o q
          · rw [List.mem_singleton.mp q]
            decide) k3 k4 k5
        rw [show pend ++ [3] ++ W = pend ++ (3 :: W) by simp] at this
        exact this
    · have ex : yx_not n S (m + 1) ts = yx_cmp S ts := if_neg h7
      rw [ex]
      obtain ⟨w1, w2⟩ := yx_sC hr hg hS (k := k) (out := out) h7 hT hW hl
      exact ⟨w1, fun c r he hN => w2 c r he (fun pend part T' k1 k2 => hN pend part T' k1 (fun o ho => ⟨by have := (k2 o ho).1; omega, (k2 o ho).2⟩))⟩
theorem yx_s2.ex {d : Nat} {x : yt_L → yx_R} {k lb l : Nat} {EX EX' : yt_T → Prop} (h : yx_s2 XL XO XF d x k lb l EX) (he : ∀ t, EX t → EX' t) : yx_s2 XL XO XF d x k lb l EX' := fun W T out ts hT hW hl => by
  obtain ⟨w1, w2⟩ := h W T out ts hT hW hl
  exact ⟨w1, fun c r e hN => w2 c r e (fun pend part T' k1 k2 k3 k4 k5 => hN pend part T' k1 k2 k3 (he _ k4) k5)⟩
theorem yx_strP (t : yt_T) (h : yx_oP t ≠ 0) : yx_str (yx_oP t) = 6 ∧ yx_oP t ≠ 12 := by
  have : yx_oP t = 10 ∨ yx_oP t = 11 := by
    revert h
    unfold yx_oP
    split
    · exact fun _ => Or.inl rfl
    · split
      · exact fun _ => Or.inr rfl
      · exact fun q => absurd rfl q
  rcases this with e | e <;> rw [e] <;> decide
theorem yx_strS (t : yt_T) (h : yx_oS t ≠ 0) : yx_str (yx_oS t) = 5 ∧ yx_oS t ≠ 12 := by
  have : yx_oS t = 8 ∨ yx_oS t = 9 := by
    revert h
    unfold yx_oS
    split
    · exact fun _ => Or.inl rfl
    · split
      · exact fun _ => Or.inr rfl
      · exact fun q => absurd rfl q
  rcases this with e | e <;> rw [e] <;> decide
theorem yx_strB (t : yt_T) (h : yx_oB t ≠ 0) : yx_str (yx_oB t) = 2 ∧ yx_oB t ≠ 12 := by
  have : yx_oB t = 4 := by
    revert h
    unfold yx_oB
    split
    · exact fun _ => rfl
    · exact fun q => absurd rfl q
  rw [this]; decide
theorem yx_strE (t : yt_T) (h : yx_oE t ≠ 0) : yx_str (yx_oE t) = 1 ∧ yx_oE t ≠ 12 := by
  have : yx_oE t = 5 := by
    revert h
    unfold yx_oE
    split
    · exact fun _ => rfl
    · exact fun q => absurd rfl q
  rw [this]; decide
theorem yx_sE (hr : yx_ru n XL XO XF XE) : ∀ m d, 1 ≤ d → d + m = 6 → yx_s2 XL XO XF d (yx_E n (m + 1)) 0 1 1 yx_ex
  | m, d, hd, hdm => by
    have hg := yx_part_g (n := n) (yx_E_g (n := n) m) (by omega)
    have hP := yx_sPart hr hd hdm (fun m' hm => by subst hm; exact yx_sE hr m' (d + 1) (by omega) (by omega))
    have hr' := hr
    obtain ⟨r1, r2, r3, r4, r5, -⟩ := hr
    have h1 := yx_sB (l := 6) yx_oP_op yx_strP (fun W T out ts => r5 W d T out ts) hg hP
    have h2 := yx_sB (l := 5) yx_oS_op yx_strS (fun W T out ts => r4 W d T out ts) (yx_bin_g yx_oP_op hg) h1
    have g2 := yx_bin_g yx_oS_op (yx_bin_g yx_oP_op hg)
    have h3 := yx_sN hr' g2 h2 6 0 rfl
    have h4 := yx_sD (l := 2) yx_oB_op yx_strB (by decide) (fun W T out ts => r2 W d T out ts) (yx_not_g g2 6) h3
    have h5 := yx_sD (l := 1) yx_oE_op yx_strE (by decide) (fun W T out ts => r1 W d T out ts) (yx_bin_g yx_oB_op (yx_not_g g2 6)) h4
    exact h5.ex (fun t q => ⟨q.1.1.1.2, q.1.1.2, q.1.2, q.2⟩)
/-- an expression, from its first token on -/
theorem yx_whole (hr : yx_ru n XL XO XF XE) {T : Nat → Bool} (hT : T 1 = false) {ts : yt_L} (hl : ts.length ≤ 500) :
    (∀ e, yx_E n 6 ts = .inl e → XF e.1 e.2 → XO true 0 [] 1 T [] ts) ∧ (∀ c r, yx_E n 6 ts = .inr (c, r) → XE c r → XO true 0 [] 1 T [] ts) := by
  obtain ⟨w1, w2⟩ := yx_sE hr 5 1 (Nat.le_refl _) rfl [] T [] ts hT trivial hl
  refine ⟨w1, fun c r he hE => w2 c r he (fun pend part T' k1 k2 k3 k4 k5 => ?_)⟩
  obtain ⟨r1, r2, r3, r4, r5, r6, r7, r8, -⟩ := hr
  refine r8 _ T' _ r k4 k5 ?_
  rw [yx_drop_app (l := 0) (W := []) trivial pend _ (fun o ho => ⟨Nat.zero_le _, (k2 o ho).2⟩), List.nil_append, k1]
  exact hE
end Sim

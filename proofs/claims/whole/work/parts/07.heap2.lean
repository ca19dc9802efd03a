/-! ===== outside objects, Math, arraycopy, new cells ===== -/
section Heap2
variable {cl : List vw_C} {SH : Nat → am_S} {ξ : Nat → Nat} {cc : ByteArray} {nL : Nat} {own nm : String} {Ts : List Cond} {E : State → Heap → (Nat → Prop) → Prop} {pc : Nat}
def im_eld (e n : Nat) (f : Nat → Int32) (t : Nat) : am_F := fun ls st h => match st with
  | .int j :: .retAddr e' :: r => if e' = e ∧ am_is j n = true then some (.inl (t, ls, .int (f j.toNatClampNeg) :: r, h)) else none
  | _ => none
def im_elen (e n : Nat) (t : Nat) : am_F := fun ls st h => match st with
  | .retAddr e' :: r => if e' = e then some (.inl (t, ls, .int (Int32.ofNat n) :: r, h)) else none
  | _ => none
def im_es (e t : Nat) : am_F := fun ls st h => some (.inl (t, ls, .retAddr e :: st, h))
theorem ok_eld {e n : Nat} {f : Nat → Int32} (hT : ∀ s H A, E s H A → va_T .int (ξ e) n (fun j => .int (f j)) A s H) (hd : decode cc pc = .ok (.iaload, 1)) : am_okN cl SH ξ cc nL own nm Ts E pc (im_eld e n f (pc + 1)) := by
  intro D dA p l e R s m args below meth c Q A ρ0 n0 bc bs X hRf hRl hE hA ls st h r hf
  obtain ⟨hx, hb, hml, hown, hnm, hts⟩ := id X
  unfold im_eld at hf
  split at hf
  · split at hf
    · rename_i j e9 r9 hcnd
      obtain ⟨he, hin⟩ := hcnd
      subst he
      cases hf
      refine ⟨_, _, _, _, rfl, Nat.le_refl _, Nat.le_refl _, fun _ _ hk ρ H locs jl hp h0 hr hS hl hwl hws hbc hbs => ?_⟩
      exact va_ti hx hb (hT _ _ _ hE) hS (am_is_in hin) rfl hd (hk ρ H locs jl hp h0 hr hS hl hwl (am_wl.cons am_wv.int hws.tail.tail) hbc hbs)
    · cases hf
  · cases hf

theorem ok_elen {e n : Nat} {f : Nat → Int32} (hT : ∀ s H A, E s H A → va_T .int (ξ e) n (fun j => .int (f j)) A s H) (hd : decode cc pc = .ok (.arraylength, 1)) : am_okN cl SH ξ cc nL own nm Ts E pc (im_elen e n (pc + 1)) := by
  intro D dA p l e R s m args below meth c Q A ρ0 n0 bc bs X hRf hRl hE hA ls st h r hf
  obtain ⟨hx, hb, hml, hown, hnm, hts⟩ := id X
  unfold im_elen at hf
  split at hf
  · split at hf
    · rename_i e9 r9 he
      subst he
      cases hf
      refine ⟨_, _, _, _, rfl, Nat.le_refl _, Nat.le_refl _, fun _ _ hk ρ H locs jl hp h0 hr hS hl hwl hws hbc hbs => ?_⟩
      exact va_tlen hx hb (hT _ _ _ hE) hS rfl hd (hk ρ H locs jl hp h0 hr hS hl hwl (am_wl.cons am_wv.int hws.tail) hbc hbs)
    · cases hf
  · cases hf

theorem ok_ldcS {e idx : Nat} {tx : String} (hR : ∀ s H A, E s H A → vk_R own idx tx (ξ e) s) (hd : decode cc pc = .ok (.ldc idx, 2)) : am_okN cl SH ξ cc nL own nm Ts E pc (im_es e (pc + 2)) := by
  intro D dA p l e R s m args below meth c Q A ρ0 n0 bc bs X hRf hRl hE hA ls st h r hf
  obtain ⟨hx, hb, hml, hown, hnm, hts⟩ := id X
  cases hf
  refine ⟨_, _, _, _, rfl, Nat.le_refl _, Nat.le_refl _, fun _ _ hk ρ H locs jl hp h0 hr hS hl hwl hws hbc hbs => ?_⟩
  exact va_ldcS hx hb hown (hR _ _ _ hE) hd (hk ρ H locs jl hp h0 hr hS hl hwl (am_wl.cons am_wv.ext hws) hbc hbs)

theorem ok_gets {e idx : Nat} {C n d : String} (hZ : ∀ s H A, E s H A → va_Z C n d (.ref (ξ e)) A s H) (hlink : Cond.fieldLink own idx C n d ∈ Ts) (hd : decode cc pc = .ok (.getstatic idx, 3)) : am_okN cl SH ξ cc nL own nm Ts E pc (im_es e (pc + 3)) := by
  intro D dA p l e R s m args below meth c Q A ρ0 n0 bc bs X hRf hRl hE hA ls st h r hf
  obtain ⟨hx, hb, hml, hown, hnm, hts⟩ := id X
  cases hf
  refine ⟨_, _, _, _, rfl, Nat.le_refl _, Nat.le_refl _, fun _ _ hk ρ H locs jl hp h0 hr hS hl hwl hws hbc hbs => ?_⟩
  exact va_gets hx hb (hZ _ _ _ hE) hS hown (hts _ hlink) (fun _ z => z) hd (hk ρ H locs jl hp h0 hr hS hl hwl (am_wl.cons am_wv.ext hws) hbc hbs)

theorem am_catsum : ∀ l : List Value, (l.map fun v => v.category).sum ≤ 2 * l.length
  | [] => Nat.le_refl _
  | v :: l => by
    have h1 := am_catsum l
    have h2 : v.category ≤ 2 := by rcases lv_cat v with h | h <;> omega
    simp only [List.map_cons, List.sum_cons, List.length_cons]
    omega
def im_mm (g : Int32 → Int32 → Int32) (t : Nat) : am_F := fun ls st h => match st with
  | .int y :: .int x :: r => if r.length ≤ 20 then some (.inl (t, ls, .int (g x y) :: r, h)) else none
  | _ => none
theorem ok_mmax {idx : Nat} (h1 : Cond.methodLink own idx Lib.Math.max.name ∈ Ts) (h2 : Cond.static Lib.Math.max.name ∈ Ts) (h3 : Cond.initialized "java/lang/Math" ∈ Ts) (h4 : Cond.code Lib.Math.max.name Lib.Math.max.code 2 (some .int) ∈ Ts) (hd : decode cc pc = .ok (.invokestatic idx, 3)) : am_okN cl SH ξ cc nL own nm Ts E pc (im_mm (fun x y => if x < y then y else x) (pc + 3)) := by
  intro D dA p l e R s m args below meth c Q A ρ0 n0 bc bs X hRf hRl hE hA ls st h r hf
  obtain ⟨hx, hb, hml, hown, hnm, hts⟩ := id X
  unfold im_mm at hf
  split at hf
  · split at hf
    · rename_i y x r9 hlen
      cases hf
      refine ⟨_, _, _, _, rfl, Nat.le_refl _, Nat.le_refl _, fun hrc hrs hk ρ H locs jl hp h0 hr hS hl hwl hws hbc hbs => ?_⟩
      have hcs := am_catsum (r9.map (am_cv ρ ξ))
      rw [List.length_map] at hcs
      exact va_mmax hx hb (by rw [hml]; exact hl.2.1.symm) hown (hts _ h1) (hts _ h2) (hts _ h3) (hts _ h4) (by omega) (by omega) hrc hrs hd (hk ρ H locs jl hp h0 hr hS hl hwl (am_wl.cons am_wv.int hws.tail.tail) hbc hbs)
    · cases hf
  · cases hf

theorem ok_mmin {idx : Nat} (h1 : Cond.methodLink own idx Lib.Math.min.name ∈ Ts) (h2 : Cond.static Lib.Math.min.name ∈ Ts) (h3 : Cond.initialized "java/lang/Math" ∈ Ts) (h4 : Cond.code Lib.Math.min.name Lib.Math.min.code 2 (some .int) ∈ Ts) (hd : decode cc pc = .ok (.invokestatic idx, 3)) : am_okN cl SH ξ cc nL own nm Ts E pc (im_mm (fun x y => if y < x then y else x) (pc + 3)) := by
  intro D dA p l e R s m args below meth c Q A ρ0 n0 bc bs X hRf hRl hE hA ls st h r hf
  obtain ⟨hx, hb, hml, hown, hnm, hts⟩ := id X
  unfold im_mm at hf
  split at hf
  · split at hf
    · rename_i y x r9 hlen
      cases hf
      refine ⟨_, _, _, _, rfl, Nat.le_refl _, Nat.le_refl _, fun hrc hrs hk ρ H locs jl hp h0 hr hS hl hwl hws hbc hbs => ?_⟩
      have hcs := am_catsum (r9.map (am_cv ρ ξ))
      rw [List.length_map] at hcs
      exact va_mmin hx hb (by rw [hml]; exact hl.2.1.symm) hown (hts _ h1) (hts _ h2) (hts _ h3) (hts _ h4) (by omega) (by omega) hrc hrs hd (hk ρ H locs jl hp h0 hr hS hl hwl (am_wl.cons am_wv.int hws.tail.tail) hbc hbs)
    · cases hf
  · cases hf

def am_row {α : Type} (I : Nat → Nat → α) (i : Nat) (f : Nat → α) : Nat → Nat → α := fun a => if a = i then f else I a
theorem am_row_eq {α : Type} (I : Nat → Nat → α) (i : Nat) (f : Nat → α) : am_row I i f i = f := if_pos rfl
theorem am_row_ne {α : Type} (I : Nat → Nat → α) (i : Nat) (f : Nat → α) {j : Nat} (hj : j ≠ i) : am_row I i f j = I j := if_neg hj
def im_acopy (SH : Nat → am_S) (t : Nat) : am_F := fun ls st h => match st with
  | .int n :: .int dp :: .ref i1 :: .int sp :: .ref i0 :: r => (match SH i0, SH i1 with
    | .inl b0, .inl b1 => if b0.1 = .int ∧ b1.1 = .int ∧ ¬ sp < 0 ∧ ¬ dp < 0 ∧ ¬ n < 0 ∧ sp.toNatClampNeg + n.toNatClampNeg ≤ b0.2 ∧ dp.toNatClampNeg + n.toNatClampNeg ≤ b1.2 ∧ r.length ≤ 20
      then some (.inl (t, ls, r, (h.1, am_row h.2.1 i1 (va_cpy (h.2.1 i0) (h.2.1 i1) sp.toNatClampNeg dp.toNatClampNeg n.toNatClampNeg), h.2.2))) else none
    | _, _ => none)
  | _ => none
theorem am_nfw : nativeFrameWords "java/lang/System" "arraycopy" 5 ≤ 100 := by decide +kernel
theorem ok_acopy {idx : Nat} (h1 : Cond.methodLink own idx arraycopyName ∈ Ts) (h2 : Cond.native arraycopyName ∈ Ts) (h3 : Cond.static arraycopyName ∈ Ts) (h4 : Cond.initialized "java/lang/System" ∈ Ts) (hd : decode cc pc = .ok (.invokestatic idx, 3)) : am_okN cl SH ξ cc nL own nm Ts E pc (im_acopy SH (pc + 3)) := by
  intro D dA p l e R s m args below meth c Q A ρ0 n0 bc bs X hRf hRl hE hA ls st h r hf
  obtain ⟨hx, hb, hml, hown, hnm, hts⟩ := id X
  unfold im_acopy at hf
  split at hf
  · split at hf
    · split at hf
      · rename_i n dp i1 sp i0 r9 _ _ b0 b1 hsh0 hsh1 hcnd
        obtain ⟨ty0, m0⟩ := b0
        obtain ⟨ty1, m1⟩ := b1
        obtain ⟨c1, c2, c3, c4, c5, c6, c7, c8⟩ := hcnd
        dsimp only at c1 c2 c6 c7
        subst c1
        subst c2
        cases hf
        refine ⟨_, _, _, _, rfl, Nat.le_refl _, Nat.le_refl _, fun _ _ hk ρ H locs jl hp h0 hr hS hl hwl hws hbc hbs => ?_⟩
        have hi1 : i1 < h.1.1 := hws.tail.tail.head i1 rfl
        have hi0 : i0 < h.1.1 := hws.tail.tail.tail.tail.head i0 rfl
        have hg0 := am_ws_get (cl := cl) (SH := SH) (ρ := ρ) (dA := dA) hi0
        have hg1 := am_ws_get (cl := cl) (SH := SH) (ρ := ρ) (dA := dA) hi1
        rw [am_ce_a hsh0 (fun z => by cases z)] at hg0
        rw [am_ce_a hsh1 (fun z => by cases z)] at hg1
        have hcs := am_catsum (r9.map (am_cv ρ ξ))
        rw [List.length_map] at hcs
        have hw := am_nfw
        have hset := am_ws_set (cl := cl) (SH := SH) (ρ := ρ) (dA := dA) (h := h) (h' := (h.1, am_row h.2.1 i1 (va_cpy (h.2.1 i0) (h.2.1 i1) sp.toNatClampNeg dp.toNatClampNeg n.toNatClampNeg), h.2.2)) (i := i1) (x := .inl (dA .int, m1, .inl (va_cpy (h.2.1 i0) (h.2.1 i1) sp.toNatClampNeg dp.toNatClampNeg n.toNatClampNeg))) rfl (by rw [am_ce_a hsh1 (fun z => by cases z)]; exact congrArg (fun z => Sum.inl (dA .int, m1, Sum.inl z)) (am_row_eq _ _ _)) (fun j hj => am_ce_congr (am_row_ne _ _ _ hj) rfl rfl)
        refine va_copyi hx hb (by rw [hml]; exact hl.2.1.symm) hown (hts _ h1) (hts _ h2) (hts _ h3) (hts _ h4) hp.2.2.1 hp.1 hp.2.1 hS i0 i1 0 0 hg0 hg1 rfl rfl rfl c3 c4 c5 c6 c7 (fun _ _ => rfl) (by omega) (by omega) hd (fun H1 locs1 hP1 hD1 hS1 => ?_)
        rw [hset] at hP1 hD1
        exact hk ρ H1 locs1 jl ⟨hP1, hD1, hp.2.2.1, hp.2.2.2⟩ h0 hr hS1 hl hwl hws.tail.tail.tail.tail.tail hbc hbs
      · cases hf
    · cases hf
  · cases hf

def am_fresh (h : am_H) (N : Nat) : am_H := ((h.1.1 + 1, am_row h.1.2.1 h.1.1 (fun _ => none), h.1.2.2.1 + 1, h.1.2.2.2 + N), am_row h.2.1 h.1.1 (fun _ => 0), am_row h.2.2 h.1.1 (fun _ => 0))
def am_up (ρ : Nat → Nat) (n q : Nat) : Nat → Nat := fun i => if i = n then q else ρ i
theorem am_up_lt {ρ : Nat → Nat} {n q i : Nat} (h : i < n) : am_up ρ n q i = ρ i := if_neg (by omega)
theorem am_ce_rho {cl : List vw_C} {ρ ρ' : Nat → Nat} {dA : FieldType → ClassId} {sh : am_S} {i : Nat} {h h' : am_H} (h1 : h'.2.1 i = h.2.1 i) (h2 : h'.2.2 i = h.2.2 i) (h3 : h'.1.2.1 i = h.1.2.1 i) (hr : ∀ k j, h.1.2.1 i k = some j → ρ' j = ρ j) : am_ce cl ρ' dA sh i h' = am_ce cl ρ dA sh i h := by
  cases sh with
  | inl a => simp only [am_ce, h1, h2]
  | inr ci =>
    simp only [am_ce, am_fs]
    congr 3
    funext k
    simp only [am_fv, h1, h2, h3]
    cases hk : h.1.2.1 i k with
    | none => rfl
    | some j => simp only [Option.map_some, hr k j hk]
theorem am_ws_push {cl : List vw_C} {SH : Nat → am_S} {ρ : Nat → Nat} {dA : FieldType → ClassId} {h : am_H} {N q : Nat} (hw : am_wf h) : am_ws cl SH (am_up ρ h.1.1 q) dA (am_fresh h N) = am_ws cl SH ρ dA h ++ [(q, am_ce cl (am_up ρ h.1.1 q) dA (SH h.1.1) h.1.1 (am_fresh h N))] := by
  show (List.range (h.1.1 + 1)).map _ = _
  rw [List.range_succ, List.map_append]
  refine congr (congrArg _ ?_) ?_
  · refine List.map_congr_left (fun i hi => ?_)
    have hi := List.mem_range.mp hi
    have hne : i ≠ h.1.1 := by omega
    rw [am_up_lt hi]
    exact congrArg _ (am_ce_rho (am_row_ne _ _ _ hne) (am_row_ne _ _ _ hne) (am_row_ne _ _ _ hne) (fun k j hj => am_up_lt (hw i k j hj)))
  · show [(am_up ρ h.1.1 q h.1.1, _)] = _
    rw [show am_up ρ h.1.1 q h.1.1 = q from if_pos rfl]
theorem am_map_rho {ρ ρ' ξ : Nat → Nat} {n : Nat} {l : List Value} (hw : am_wl n l) (hr : ∀ i, i < n → ρ' i = ρ i) : l.map (am_cv ρ' ξ) = l.map (am_cv ρ ξ) := by
  refine List.map_congr_left (fun v hv => ?_)
  cases v with
  | ref i => exact congrArg Value.ref (hr i (hw _ hv i rfl))
  | _ => rfl
theorem am_lv.rho {ρ ρ' ξ : Nat → Nat} {n nL : Nat} {ls : List Value} {jl : Array Slot} (h : am_lv ρ ξ nL ls jl) (hw : am_wl n ls) (hr : ∀ i, i < n → ρ' i = ρ i) : am_lv ρ' ξ nL ls jl := by
  refine ⟨h.1, h.2.1, h.2.2.1, fun i v hv hne => ?_⟩
  rw [h.2.2.2 i v hv hne]
  cases v with
  | ref j => exact congrArg (fun z => some (Slot.val (Value.ref z))) (hr j (hw.get hv j rfl)).symm
  | _ => rfl
theorem am_wf.fresh {h : am_H} {N : Nat} (hw : am_wf h) : am_wf (am_fresh h N) := by
  intro i k j hj
  by_cases hi : i = h.1.1
  · subst hi
    rw [show (am_fresh h N).1.2.1 h.1.1 = fun _ => none from am_row_eq _ _ _] at hj
    cases hj
  · rw [show (am_fresh h N).1.2.1 i = h.1.2.1 i from am_row_ne _ _ _ hi] at hj
    exact Nat.lt_succ_of_lt (hw i k j hj)
def am_dv (n : Nat) : Value := match n with
  | 0 => .int 0
  | 1 => .long 0
  | _ => .null
def im_new (SH : Nat → am_S) (ci N t : Nat) : am_F := fun ls st h => if SH h.1.1 = .inr ci then some (.inl (t, ls, .ref h.1.1 :: st, am_fresh h N)) else none
def im_newa (SH : Nat → am_S) (ty : FieldType) (t : Nat) : am_F := fun ls st h => match st with
  | .int n :: r => if SH h.1.1 = .inl (ty, n.toNatClampNeg) ∧ ¬ n < 0 ∧ n.toNatClampNeg ≤ 1000000 then some (.inl (t, ls, .ref h.1.1 :: r, am_fresh h n.toNatClampNeg)) else none
  | _ => none
theorem ok_new {C : String} {T : u_T} {N ci idx : Nat} (hc : cl[ci]? = some (C, T, N)) (hin : ∀ w ∈ u_ws C T N, w ∈ Ts) (ty : Nat → FieldType) (hty : ∀ k, k < N → parseFieldDescriptor (T k).2.2.1 = some (ty k)) (hdv : ∀ k, k < N → defaultValue (ty k) = am_dv (am_kd cl ci k)) (h1 : Cond.classLink own idx C ∈ Ts) (h2 : Cond.instantiable C N ∈ Ts) (h3 : Cond.initialized C ∈ Ts) (hd : decode cc pc = .ok (.new idx, 3)) : am_okN cl SH ξ cc nL own nm Ts E pc (im_new SH ci N (pc + 3)) := by
  intro D dA p l e R s m args below meth c Q A ρ0 n0 bc bs X hRf hRl hE hA ls st h r hf
  obtain ⟨hx, hb, hml, hown, hnm, hts⟩ := id X
  unfold im_new at hf
  split at hf
  · rename_i hsh
    cases hf
    refine ⟨_, _, _, _, rfl, Nat.le_succ _, Nat.le_add_right _ _, fun hrc hrs hk ρ H locs jl hp h0 hr hS hl hwl hws hbc hbs => ?_⟩
    have hrc : h.1.2.2.1 + 1 - bc ≤ R.cells := hrc
    have hrs : h.1.2.2.2 + N - bs ≤ R.slots := hrs
    refine va_new hx hb hts hin ty hty hown (hts _ h1) (hts _ h2) (hts _ h3) hp.2.2.1 hp.1 hp.2.1 hS hA hc (fs := am_fs cl ρ ci h.1.1 (am_fresh h N)) (fun j hj => ?_) (by omega) (by omega) hd (fun q H1 hP1 hD1 hS1 => ?_)
    · rw [hdv j hj, vp_V, List.getD_eq_getElem?_getD, am_fs_get (by rw [am_N_of hc]; exact hj)]
      simp only [Option.getD_some, am_fv, am_dv]
      rw [show (am_fresh h N).2.1 h.1.1 = fun _ => 0 from am_row_eq _ _ _, show (am_fresh h N).2.2 h.1.1 = fun _ => 0 from am_row_eq _ _ _, show (am_fresh h N).1.2.1 h.1.1 = fun _ => none from am_row_eq _ _ _]
      rfl
    · have hps := am_ws_push (cl := cl) (SH := SH) (ρ := ρ) (dA := dA) (N := N) (q := q) hp.2.2.2
      have e1 : am_ce cl (am_up ρ h.1.1 q) dA (SH h.1.1) h.1.1 (am_fresh h N) = .inr (ci, am_fs cl ρ ci h.1.1 (am_fresh h N)) := by
        rw [am_ce_o hsh]
        have e2 : am_fs cl (am_up ρ h.1.1 q) ci h.1.1 (am_fresh h N) = am_fs cl ρ ci h.1.1 (am_fresh h N) := by
          simp only [am_fs]
          congr 1
          funext k
          simp only [am_fv]
          rw [show (am_fresh h N).1.2.1 h.1.1 = fun _ => none from am_row_eq _ _ _]
          rfl
        rw [e2]
      rw [e1] at hps
      rw [← hps] at hP1 hD1
      have hu : ∀ i, i < h.1.1 → am_up ρ h.1.1 q i = ρ i := fun i hi => am_up_lt hi
      have hg := hk (am_up ρ h.1.1 q) H1 locs jl ⟨hP1, hD1, hp.2.2.1, hp.2.2.2.fresh⟩ (Nat.le_succ_of_le h0) (fun i hi => (hu i (Nat.lt_of_lt_of_le hi h0)).trans (hr i hi)) hS1 (hl.rho hwl hu) (hwl.up (Nat.le_succ _)) (am_wl.cons (am_wv.ref (Nat.lt_succ_self _)) (hws.up (Nat.le_succ _))) (Nat.le_succ_of_le hbc) (Nat.le_trans hbs (Nat.le_add_right _ _))
      rw [List.map_cons, am_map_rho hws hu] at hg
      rw [show am_cv (am_up ρ h.1.1 q) ξ (.ref h.1.1) = .ref q from congrArg Value.ref (if_pos rfl)] at hg
      exact W.cs (show h.1.2.2.1 - bc + 1 = h.1.2.2.1 + 1 - bc by omega) (show h.1.2.2.2 - bs + N = h.1.2.2.2 + N - bs by omega) hg
  · cases hf

theorem ok_newi (h1 : Cond.arrayClass .int ∈ Ts) (hd : decode cc pc = .ok (.newarray .int, 2)) : am_okN cl SH ξ cc nL own nm Ts E pc (im_newa SH .int (pc + 2)) := by
  intro D dA p l e R s m args below meth c Q A ρ0 n0 bc bs X hRf hRl hE hA ls st h r hf
  obtain ⟨hx, hb, hml, hown, hnm, hts⟩ := id X
  unfold im_newa at hf
  split at hf
  · split at hf
    · rename_i n r9 hcnd
      obtain ⟨hsh, hneg, hbig⟩ := hcnd
      cases hf
      refine ⟨_, _, _, _, rfl, Nat.le_succ _, Nat.le_add_right _ _, fun hrc hrs hk ρ H locs jl hp h0 hr hS hl hwl hws hbc hbs => ?_⟩
      have hrc : h.1.2.2.1 + 1 - bc ≤ R.cells := hrc
      have hrs : h.1.2.2.2 + n.toNatClampNeg - bs ≤ R.slots := hrs
      refine va_newa (atype := .int) hx hb (hts _ h1) rfl hp.2.2.1 hp.1 hp.2.1 hS hA (a0 := (n.toNatClampNeg, .inl (fun _ => 0))) (fun _ => rfl) hneg rfl (by show n.toNatClampNeg * 4 ≤ _; omega) (by omega) (by omega) hd (fun q cA H1 hK1 hP1 hD1 hS1 => ?_)
      have hcA : cA = dA .int := Option.some.inj ((hK1.2 4 (cA, .int) rfl).2.symm.trans (hp.2.2.1.2 0 (dA .int, .int) rfl).2)
      subst hcA
      have hps := am_ws_push (cl := cl) (SH := SH) (ρ := ρ) (dA := dA) (N := n.toNatClampNeg) (q := q) hp.2.2.2
      rw [am_ce_a hsh (fun z => by cases z), show (am_fresh h n.toNatClampNeg).2.1 h.1.1 = fun _ => 0 from am_row_eq _ _ _] at hps
      rw [← hps] at hP1 hD1
      have hu : ∀ i, i < h.1.1 → am_up ρ h.1.1 q i = ρ i := fun i hi => am_up_lt hi
      have hg := hk (am_up ρ h.1.1 q) H1 locs jl ⟨hP1, hD1, hp.2.2.1, hp.2.2.2.fresh⟩ (Nat.le_succ_of_le h0) (fun i hi => (hu i (Nat.lt_of_lt_of_le hi h0)).trans (hr i hi)) hS1 (hl.rho hwl hu) (hwl.up (Nat.le_succ _)) (am_wl.cons (am_wv.ref (Nat.lt_succ_self _)) (hws.tail.up (Nat.le_succ _))) (Nat.le_succ_of_le hbc) (Nat.le_trans hbs (Nat.le_add_right _ _))
      rw [List.map_cons, am_map_rho hws.tail hu] at hg
      rw [show am_cv (am_up ρ h.1.1 q) ξ (.ref h.1.1) = .ref q from congrArg Value.ref (if_pos rfl)] at hg
      exact W.cs (show h.1.2.2.1 - bc + 1 = h.1.2.2.1 + 1 - bc by omega) (show h.1.2.2.2 - bs + n.toNatClampNeg = h.1.2.2.2 + n.toNatClampNeg - bs by omega) hg
    · cases hf
  · cases hf

theorem ok_newb (h1 : Cond.arrayClass .byte ∈ Ts) (hd : decode cc pc = .ok (.newarray .byte, 2)) : am_okN cl SH ξ cc nL own nm Ts E pc (im_newa SH .byte (pc + 2)) := by
  intro D dA p l e R s m args below meth c Q A ρ0 n0 bc bs X hRf hRl hE hA ls st h r hf
  obtain ⟨hx, hb, hml, hown, hnm, hts⟩ := id X
  unfold im_newa at hf
  split at hf
  · split at hf
    · rename_i n r9 hcnd
      obtain ⟨hsh, hneg, hbig⟩ := hcnd
      cases hf
      refine ⟨_, _, _, _, rfl, Nat.le_succ _, Nat.le_add_right _ _, fun hrc hrs hk ρ H locs jl hp h0 hr hS hl hwl hws hbc hbs => ?_⟩
      have hrc : h.1.2.2.1 + 1 - bc ≤ R.cells := hrc
      have hrs : h.1.2.2.2 + n.toNatClampNeg - bs ≤ R.slots := hrs
      refine va_newa (atype := .byte) hx hb (hts _ h1) rfl hp.2.2.1 hp.1 hp.2.1 hS hA (a0 := (n.toNatClampNeg, .inl (fun _ => 0))) (fun _ => rfl) hneg rfl (by show n.toNatClampNeg * 1 ≤ _; omega) (by omega) (by omega) hd (fun q cA H1 hK1 hP1 hD1 hS1 => ?_)
      have hcA : cA = dA .byte := Option.some.inj ((hK1.2 4 (cA, .byte) rfl).2.symm.trans (hp.2.2.1.2 1 (dA .byte, .byte) rfl).2)
      subst hcA
      have hps := am_ws_push (cl := cl) (SH := SH) (ρ := ρ) (dA := dA) (N := n.toNatClampNeg) (q := q) hp.2.2.2
      rw [am_ce_a hsh (fun z => by cases z), show (am_fresh h n.toNatClampNeg).2.1 h.1.1 = fun _ => 0 from am_row_eq _ _ _] at hps
      rw [← hps] at hP1 hD1
      have hu : ∀ i, i < h.1.1 → am_up ρ h.1.1 q i = ρ i := fun i hi => am_up_lt hi
      have hg := hk (am_up ρ h.1.1 q) H1 locs jl ⟨hP1, hD1, hp.2.2.1, hp.2.2.2.fresh⟩ (Nat.le_succ_of_le h0) (fun i hi => (hu i (Nat.lt_of_lt_of_le hi h0)).trans (hr i hi)) hS1 (hl.rho hwl hu) (hwl.up (Nat.le_succ _)) (am_wl.cons (am_wv.ref (Nat.lt_succ_self _)) (hws.tail.up (Nat.le_succ _))) (Nat.le_succ_of_le hbc) (Nat.le_trans hbs (Nat.le_add_right _ _))
      rw [List.map_cons, am_map_rho hws.tail hu] at hg
      rw [show am_cv (am_up ρ h.1.1 q) ξ (.ref h.1.1) = .ref q from congrArg Value.ref (if_pos rfl)] at hg
      exact W.cs (show h.1.2.2.1 - bc + 1 = h.1.2.2.1 + 1 - bc by omega) (show h.1.2.2.2 - bs + n.toNatClampNeg = h.1.2.2.2 + n.toNatClampNeg - bs by omega) hg
    · cases hf
  · cases hf

theorem ok_newz (h1 : Cond.arrayClass .boolean ∈ Ts) (hd : decode cc pc = .ok (.newarray .boolean, 2)) : am_okN cl SH ξ cc nL own nm Ts E pc (im_newa SH .boolean (pc + 2)) := by
  intro D dA p l e R s m args below meth c Q A ρ0 n0 bc bs X hRf hRl hE hA ls st h r hf
  obtain ⟨hx, hb, hml, hown, hnm, hts⟩ := id X
  unfold im_newa at hf
  split at hf
  · split at hf
    · rename_i n r9 hcnd
      obtain ⟨hsh, hneg, hbig⟩ := hcnd
      cases hf
      refine ⟨_, _, _, _, rfl, Nat.le_succ _, Nat.le_add_right _ _, fun hrc hrs hk ρ H locs jl hp h0 hr hS hl hwl hws hbc hbs => ?_⟩
      have hrc : h.1.2.2.1 + 1 - bc ≤ R.cells := hrc
      have hrs : h.1.2.2.2 + n.toNatClampNeg - bs ≤ R.slots := hrs
      refine va_newa (atype := .boolean) hx hb (hts _ h1) rfl hp.2.2.1 hp.1 hp.2.1 hS hA (a0 := (n.toNatClampNeg, .inl (fun _ => 0))) (fun _ => rfl) hneg rfl (by show n.toNatClampNeg * 1 ≤ _; omega) (by omega) (by omega) hd (fun q cA H1 hK1 hP1 hD1 hS1 => ?_)
      have hcA : cA = dA .boolean := Option.some.inj ((hK1.2 4 (cA, .boolean) rfl).2.symm.trans (hp.2.2.1.2 2 (dA .boolean, .boolean) rfl).2)
      subst hcA
      have hps := am_ws_push (cl := cl) (SH := SH) (ρ := ρ) (dA := dA) (N := n.toNatClampNeg) (q := q) hp.2.2.2
      rw [am_ce_a hsh (fun z => by cases z), show (am_fresh h n.toNatClampNeg).2.1 h.1.1 = fun _ => 0 from am_row_eq _ _ _] at hps
      rw [← hps] at hP1 hD1
      have hu : ∀ i, i < h.1.1 → am_up ρ h.1.1 q i = ρ i := fun i hi => am_up_lt hi
      have hg := hk (am_up ρ h.1.1 q) H1 locs jl ⟨hP1, hD1, hp.2.2.1, hp.2.2.2.fresh⟩ (Nat.le_succ_of_le h0) (fun i hi => (hu i (Nat.lt_of_lt_of_le hi h0)).trans (hr i hi)) hS1 (hl.rho hwl hu) (hwl.up (Nat.le_succ _)) (am_wl.cons (am_wv.ref (Nat.lt_succ_self _)) (hws.tail.up (Nat.le_succ _))) (Nat.le_succ_of_le hbc) (Nat.le_trans hbs (Nat.le_add_right _ _))
      rw [List.map_cons, am_map_rho hws.tail hu] at hg
      rw [show am_cv (am_up ρ h.1.1 q) ξ (.ref h.1.1) = .ref q from congrArg Value.ref (if_pos rfl)] at hg
      exact W.cs (show h.1.2.2.1 - bc + 1 = h.1.2.2.1 + 1 - bc by omega) (show h.1.2.2.2 - bs + n.toNatClampNeg = h.1.2.2.2 + n.toNatClampNeg - bs by omega) hg
    · cases hf
  · cases hf

theorem ok_newl (h1 : Cond.arrayClass .long ∈ Ts) (hd : decode cc pc = .ok (.newarray .long, 2)) : am_okN cl SH ξ cc nL own nm Ts E pc (im_newa SH .long (pc + 2)) := by
  intro D dA p l e R s m args below meth c Q A ρ0 n0 bc bs X hRf hRl hE hA ls st h r hf
  obtain ⟨hx, hb, hml, hown, hnm, hts⟩ := id X
  unfold im_newa at hf
  split at hf
  · split at hf
    · rename_i n r9 hcnd
      obtain ⟨hsh, hneg, hbig⟩ := hcnd
      cases hf
      refine ⟨_, _, _, _, rfl, Nat.le_succ _, Nat.le_add_right _ _, fun hrc hrs hk ρ H locs jl hp h0 hr hS hl hwl hws hbc hbs => ?_⟩
      have hrc : h.1.2.2.1 + 1 - bc ≤ R.cells := hrc
      have hrs : h.1.2.2.2 + n.toNatClampNeg - bs ≤ R.slots := hrs
      refine va_newa (atype := .long) hx hb (hts _ h1) rfl hp.2.2.1 hp.1 hp.2.1 hS hA (a0 := (n.toNatClampNeg, .inr (.inl (fun _ => 0)))) (fun _ => rfl) hneg rfl (by show n.toNatClampNeg * 8 ≤ _; omega) (by omega) (by omega) hd (fun q cA H1 hK1 hP1 hD1 hS1 => ?_)
      have hcA : cA = dA .long := Option.some.inj ((hK1.2 4 (cA, .long) rfl).2.symm.trans (hp.2.2.1.2 3 (dA .long, .long) rfl).2)
      subst hcA
      have hps := am_ws_push (cl := cl) (SH := SH) (ρ := ρ) (dA := dA) (N := n.toNatClampNeg) (q := q) hp.2.2.2
      rw [am_ce_l hsh, show (am_fresh h n.toNatClampNeg).2.2 h.1.1 = fun _ => 0 from am_row_eq _ _ _] at hps
      rw [← hps] at hP1 hD1
      have hu : ∀ i, i < h.1.1 → am_up ρ h.1.1 q i = ρ i := fun i hi => am_up_lt hi
      have hg := hk (am_up ρ h.1.1 q) H1 locs jl ⟨hP1, hD1, hp.2.2.1, hp.2.2.2.fresh⟩ (Nat.le_succ_of_le h0) (fun i hi => (hu i (Nat.lt_of_lt_of_le hi h0)).trans (hr i hi)) hS1 (hl.rho hwl hu) (hwl.up (Nat.le_succ _)) (am_wl.cons (am_wv.ref (Nat.lt_succ_self _)) (hws.tail.up (Nat.le_succ _))) (Nat.le_succ_of_le hbc) (Nat.le_trans hbs (Nat.le_add_right _ _))
      rw [List.map_cons, am_map_rho hws.tail hu] at hg
      rw [show am_cv (am_up ρ h.1.1 q) ξ (.ref h.1.1) = .ref q from congrArg Value.ref (if_pos rfl)] at hg
      exact W.cs (show h.1.2.2.1 - bc + 1 = h.1.2.2.1 + 1 - bc by omega) (show h.1.2.2.2 - bs + n.toNatClampNeg = h.1.2.2.2 + n.toNatClampNeg - bs by omega) hg
    · cases hf
  · cases hf

end Heap2

/-! ===== the two texts: String objects 3, 4; their bytes 5, 6; a formatter, 7 (or null) ===== -/
section Txt
variable {ξ : Nat → Nat} {β : Bool} {xs : Nat → Int32} {L : Nat} {cc : ByteArray} {nL : Nat} {own nm : String} {pc idx : Nat}
def im_xr (t : Nat) : am_F := fun ls st h => match st with
  | .retAddr e :: r => if e = 3 ∨ e = 4 then some (.inl (t, ls, .retAddr (e + 2) :: r, h)) else none
  | _ => none
def im_xc (t : Nat) : am_F := fun ls st h => match st with
  | .retAddr e :: r => if e = 3 ∨ e = 4 then some (.inl (t, ls, .int 0 :: r, h)) else none
  | _ => none
def im_xl (t : Nat) : am_F := fun ls st h => match st with
  | .retAddr e :: r => if e = 5 ∨ e = 6 then some (.inl (t, ls, .int (Int32.ofNat (q_len.getD (e - 5) 0)) :: r, h)) else none
  | _ => none
def im_xb (t : Nat) : am_F := fun ls st h => match st with
  | .int j :: .retAddr e :: r => if (e = 5 ∨ e = 6) ∧ am_is j (q_len.getD (e - 5) 0) = true then some (.inl (t, ls, .int ((q_byt.getD (e - 5) []).getD j.toNatClampNeg 0) :: r, h)) else none
  | _ => none
def im_fm (β : Bool) (t : Nat) : am_F := fun ls st h => some (.inl (t, ls, (if β = true then .null else .retAddr 7) :: st, h))
def im_invx (k n t : Nat) : am_F := fun ls st h => match st.drop n with
  | .retAddr e :: r => if n ≤ st.length ∧ am_cat r ≤ 8 ∧ (e = 3 ∨ e = 4) ∧ am_c1 (st.take n) = true then some (.inr (.inl (k, .retAddr e :: (st.take n).reverse, t, ls, r))) else none
  | _ => none
def im_retn (ty : FieldType) : am_F := fun ls st h => match st with
  | [.int x] => if narrow ty (.int x) = .int x then some (.inr (.inr (.inl (some (.int x)), h))) else none
  | _ => none
theorem mo_xr (t : Nat) : am_mo (im_xr t) := by
  intro ls st h r hf
  unfold im_xr at hf
  first
  | (cases hf; exact am_leH.rf _)
  | (repeat' split at hf) <;> first
    | (cases hf; exact am_leH.rf _)
    | (cases hf; exact trivial)
    | (cases hf; done)
theorem mo_xc (t : Nat) : am_mo (im_xc t) := by
  intro ls st h r hf
  unfold im_xc at hf
  first
  | (cases hf; exact am_leH.rf _)
  | (repeat' split at hf) <;> first
    | (cases hf; exact am_leH.rf _)
    | (cases hf; exact trivial)
    | (cases hf; done)
theorem mo_xl (t : Nat) : am_mo (im_xl t) := by
  intro ls st h r hf
  unfold im_xl at hf
  first
  | (cases hf; exact am_leH.rf _)
  | (repeat' split at hf) <;> first
    | (cases hf; exact am_leH.rf _)
    | (cases hf; exact trivial)
    | (cases hf; done)
theorem mo_xb (t : Nat) : am_mo (im_xb t) := by
  intro ls st h r hf
  unfold im_xb at hf
  first
  | (cases hf; exact am_leH.rf _)
  | (repeat' split at hf) <;> first
    | (cases hf; exact am_leH.rf _)
    | (cases hf; exact trivial)
    | (cases hf; done)
theorem mo_fm (β : Bool) (t : Nat) : am_mo (im_fm β t) := by
  intro ls st h r hf
  unfold im_fm at hf
  first
  | (cases hf; exact am_leH.rf _)
  | (repeat' split at hf) <;> first
    | (cases hf; exact am_leH.rf _)
    | (cases hf; exact trivial)
    | (cases hf; done)
theorem mo_invx (k n t : Nat) : am_mo (im_invx k n t) := by
  intro ls st h r hf
  unfold im_invx at hf
  first
  | (cases hf; exact am_leH.rf _)
  | (repeat' split at hf) <;> first
    | (cases hf; exact am_leH.rf _)
    | (cases hf; exact trivial)
    | (cases hf; done)
theorem mo_retn (ty : FieldType) : am_mo (im_retn ty) := by
  intro ls st h r hf
  unfold im_retn at hf
  first
  | (cases hf; exact am_leH.rf _)
  | (repeat' split at hf) <;> first
    | (cases hf; exact am_leH.rf _)
    | (cases hf; exact trivial)
    | (cases hf; done)
theorem ok_xr (w : Cond.fieldLink own idx "java/lang/String" "value" "[B" ∈ am_ts) (hd : decode cc pc = .ok (.getfield idx, 3)) : am_okN vwCl q_SH ξ cc nL own nm am_ts (q_E ξ β xs L) pc (im_xr (pc + 3)) := by
  intro D dA p l e R s m args below meth c Q A ρ0 n0 bc bs X hRf hRl hE hA ls st h r hf
  obtain ⟨hx, hb, hml, hown, hnm, hts⟩ := id X
  unfold im_xr at hf
  split at hf
  · split at hf
    · rename_i e r9 he
      cases hf
      refine ⟨_, _, _, _, rfl, Nat.le_refl _, Nat.le_refl _, fun _ _ hk ρ H locs jl hp h0 hr hS hl hwl hws hbc hbs => ?_⟩
      have hS4 := (q_S hE).1
      rcases he with rfl | rfl
      · exact vk_getf hx hb (hS4 0 (by decide)).2.2.1 hS hown (hts _ w) (fun _ z => z) hd (hk ρ H locs jl hp h0 hr hS hl hwl (am_wl.cons am_wv.ext hws.tail) hbc hbs)
      · exact vk_getf hx hb (hS4 1 (by decide)).2.2.1 hS hown (hts _ w) (fun _ z => z) hd (hk ρ H locs jl hp h0 hr hS hl hwl (am_wl.cons am_wv.ext hws.tail) hbc hbs)
    · cases hf
  · cases hf

theorem ok_xc (w : Cond.fieldLink own idx "java/lang/String" "coder" "B" ∈ am_ts) (hd : decode cc pc = .ok (.getfield idx, 3)) : am_okN vwCl q_SH ξ cc nL own nm am_ts (q_E ξ β xs L) pc (im_xc (pc + 3)) := by
  intro D dA p l e R s m args below meth c Q A ρ0 n0 bc bs X hRf hRl hE hA ls st h r hf
  obtain ⟨hx, hb, hml, hown, hnm, hts⟩ := id X
  unfold im_xc at hf
  split at hf
  · split at hf
    · rename_i e r9 he
      cases hf
      refine ⟨_, _, _, _, rfl, Nat.le_refl _, Nat.le_refl _, fun _ _ hk ρ H locs jl hp h0 hr hS hl hwl hws hbc hbs => ?_⟩
      have hS4 := (q_S hE).1
      rcases he with rfl | rfl
      · exact vk_getf hx hb (hS4 0 (by decide)).2.1 hS hown (hts _ w) (fun _ z => z) hd (hk ρ H locs jl hp h0 hr hS hl hwl (am_wl.cons am_wv.int hws.tail) hbc hbs)
      · exact vk_getf hx hb (hS4 1 (by decide)).2.1 hS hown (hts _ w) (fun _ z => z) hd (hk ρ H locs jl hp h0 hr hS hl hwl (am_wl.cons am_wv.int hws.tail) hbc hbs)
    · cases hf
  · cases hf

theorem ok_gz (w : Cond.fieldLink own idx "java/lang/String" "COMPACT_STRINGS" "Z" ∈ am_ts) (hd : decode cc pc = .ok (.getstatic idx, 3)) : am_okN vwCl q_SH ξ cc nL own nm am_ts (q_E ξ β xs L) pc (im_ic 1 (pc + 3)) := by
  intro D dA p l e R s m args below meth c Q A ρ0 n0 bc bs X hRf hRl hE hA ls st h r hf
  obtain ⟨hx, hb, hml, hown, hnm, hts⟩ := id X
  cases hf
  refine ⟨_, _, _, _, rfl, Nat.le_refl _, Nat.le_refl _, fun _ _ hk ρ H locs jl hp h0 hr hS hl hwl hws hbc hbs => ?_⟩
  exact va_gets hx hb (q_CS hE) hS hown (hts _ w) (fun _ z => z) hd (hk ρ H locs jl hp h0 hr hS hl hwl (am_wl.cons am_wv.int hws) hbc hbs)

theorem ok_fm (w : Cond.fieldLink own idx "jdk/internal/util/Preconditions" "SIOOBE_FORMATTER" "Ljava/util/function/BiFunction;" ∈ am_ts) (hd : decode cc pc = .ok (.getstatic idx, 3)) : am_okN vwCl q_SH ξ cc nL own nm am_ts (q_E ξ β xs L) pc (im_fm β (pc + 3)) := by
  intro D dA p l e R s m args below meth c Q A ρ0 n0 bc bs X hRf hRl hE hA ls st h r hf
  obtain ⟨hx, hb, hml, hown, hnm, hts⟩ := id X
  cases hf
  refine ⟨_, _, _, _, rfl, Nat.le_refl _, Nat.le_refl _, fun _ _ hk ρ H locs jl hp h0 hr hS hl hwl hws hbc hbs => ?_⟩
  have hk := hk ρ H locs jl hp h0 hr hS hl hwl (am_wl.cons (by cases β <;> (intro i z; cases z)) hws) hbc hbs
  refine va_gets hx hb (q_FM hE) hS hown (hts _ w) (fun _ z => z) hd ?_
  cases β <;> exact hk

theorem ok_xl (hd : decode cc pc = .ok (.arraylength, 1)) : am_okN vwCl q_SH ξ cc nL own nm am_ts (q_E ξ β xs L) pc (im_xl (pc + 1)) := by
  intro D dA p l e R s m args below meth c Q A ρ0 n0 bc bs X hRf hRl hE hA ls st h r hf
  obtain ⟨hx, hb, hml, hown, hnm, hts⟩ := id X
  unfold im_xl at hf
  split at hf
  · split at hf
    · rename_i e r9 he
      cases hf
      refine ⟨_, _, _, _, rfl, Nat.le_refl _, Nat.le_refl _, fun _ _ hk ρ H locs jl hp h0 hr hS hl hwl hws hbc hbs => ?_⟩
      have hS4 := (q_S hE).1
      rcases he with rfl | rfl
      · exact va_tlen hx hb (hS4 0 (by decide)).2.2.2 hS rfl hd (hk ρ H locs jl hp h0 hr hS hl hwl (am_wl.cons am_wv.int hws.tail) hbc hbs)
      · exact va_tlen hx hb (hS4 1 (by decide)).2.2.2 hS rfl hd (hk ρ H locs jl hp h0 hr hS hl hwl (am_wl.cons am_wv.int hws.tail) hbc hbs)
    · cases hf
  · cases hf

theorem ok_xb (hd : decode cc pc = .ok (.baload, 1)) : am_okN vwCl q_SH ξ cc nL own nm am_ts (q_E ξ β xs L) pc (im_xb (pc + 1)) := by
  intro D dA p l e R s m args below meth c Q A ρ0 n0 bc bs X hRf hRl hE hA ls st h r hf
  obtain ⟨hx, hb, hml, hown, hnm, hts⟩ := id X
  unfold im_xb at hf
  split at hf
  · split at hf
    · rename_i j e r9 hcnd
      obtain ⟨he, hin⟩ := hcnd
      cases hf
      refine ⟨_, _, _, _, rfl, Nat.le_refl _, Nat.le_refl _, fun _ _ hk ρ H locs jl hp h0 hr hS hl hwl hws hbc hbs => ?_⟩
      have hS4 := (q_S hE).1
      rcases he with rfl | rfl
      · exact va_tb hx hb (hS4 0 (by decide)).2.2.2 hS (am_is_in hin) rfl hd (hk ρ H locs jl hp h0 hr hS hl hwl (am_wl.cons am_wv.int hws.tail.tail) hbc hbs)
      · exact va_tb hx hb (hS4 1 (by decide)).2.2.2 hS (am_is_in hin) rfl hd (hk ρ H locs jl hp h0 hr hS hl hwl (am_wl.cons am_wv.int hws.tail.tail) hbc hbs)
    · cases hf
  · cases hf

theorem ok_invx {EN : Nat → String} {KD : Nat → MethodName × Cond} {ML : Nat → Nat} {y : MethodName} {bytes : ByteArray} {maxL n k : Nat} {ret : Option FieldType} (hcl : y.cls = "java/lang/String") (hc : Cond.code y bytes maxL ret ∈ am_ts) (hm : maxL ≤ 41) (hML : n + 1 ≤ ML k) (w1 : Cond.methodLink own idx y ∈ am_ts) (w2 : Cond.instanceMethod y ∈ am_ts) (w4 : Cond.selects y.cls y y ∈ am_ts) (w3 : Cond.initialized y.cls ∈ am_ts)
    (hy : y.cls ≠ "java/lang/invoke/MethodHandle" ∧ y.cls ≠ "java/lang/invoke/VarHandle" ∧ (parseMethodDescriptor y.desc).map (fun d => d.parameters.length) = some n) (hKD : KD k = (y, Cond.code y bytes maxL ret))
    (hd : decode cc pc = .ok (.invokevirtual idx, 3)) : am_okC vwCl q_SH ξ cc nL own nm (q_E ξ β xs L) EN KD ML pc (im_invx k n (pc + 3)) := by
  intro D dA p l e d R s m args below meth c Q A ρ0 n0 bc bs X hRf hRl hEk hE hA ls st h r hf
  obtain ⟨hx, hb, hml, hown, hnm, hts⟩ := id X
  unfold im_invx at hf
  split at hf
  · split at hf
    · rename_i e9 r9 hdrop hcnd
      obtain ⟨hlen, hcat, hsh, hc1⟩ := hcnd
      cases hf
      refine ⟨_, _, _, rfl, fun hw => am_wl.cons ((am_wl_drop (j := n) hw).head' hdrop) (am_wl_take hw), by simp; omega, fun v hv => (List.mem_cons.mp hv).elim (fun z => by rw [z]; rfl) (am_c1_take hc1 v), fun o h1 hle hmc hms hM kv kx ρ H locs jl hp h0 hr hS hl hwl hws hbc hbs => ?_⟩
      have hwd : am_wl h.1.1 (.retAddr e9 :: r9) := by rw [← hdrop]; exact am_wl_drop hws
      have hwas : am_wl h.1.1 (.retAddr e9 :: (st.take n).reverse) := am_wl.cons hwd.head (am_wl_take hws)
      have hM := hM hwas hwas D dA ρ H.size
      rw [hKD] at hM
      have hst : st.map (am_cv ρ ξ) = (((st.take n).reverse).map (am_cv ρ ξ)).reverse ++ .ref (ξ e9) :: r9.map (am_cv ρ ξ) := by
        rw [List.map_reverse, List.reverse_reverse, show Value.ref (ξ e9) :: r9.map (am_cv ρ ξ) = (Value.retAddr e9 :: r9).map (am_cv ρ ξ) from rfl, ← List.map_append, ← hdrop, List.take_append_drop]
      have hcat2 : ((r9.map (am_cv ρ ξ)).map fun v => v.category).sum ≤ 8 := by rw [am_cat_map]; exact hcat
      have hpre := am_pre (as := .retAddr e9 :: (st.take n).reverse) (ξ := ξ) hEk hp hS hA hE
      have hsub := am_AA_sub hp hS hA
      have e5 := hle.2.1
      have e6 := hle.2.2
      have hrc : ∃ cellB : Cell, H[ξ e9]? = some cellB ∧ cellB.vm.isStatics = false ∧ s.vm.findClass y.cls = some cellB.cls := by
        rw [hcl]
        rcases hsh with rfl | rfl
        · exact vk_recv (i := 0) (q_S hE) (by decide) hS
        · exact vk_recv (i := 1) (q_S hE) (by decide) hS
      have cw := cwV (R := R) (s := s) (args := args) (C := y.cls) (rm := am_rm d (h1.1.2.2.1 - h.1.2.2.1) (h1.1.2.2.2 - h.1.2.2.2)) (Ts := am_ts) (ws := Cond.code y bytes maxL ret :: am_ts) n hts (am_good_cons w1 (am_good_cons w2 (am_good_cons w4 (am_good_cons w3 (am_good_cons hc am_ts_self))))) rfl rfl rfl ⟨rfl, hy⟩ ⟨by show 30 + d + 1 ≤ R.frames; omega, by show 8 + (maxL + 11) + (500 + 60 * d) ≤ R.locals; omega⟩
      cases o with
      | inl v =>
        exact am_call_ret hle hp h0 hr hS hA hl hwl hwd.tail hbc hbs (va_runV (As := ((st.take n).reverse).map (am_cv ρ ξ)) (C := y.cls) (b := ξ e9) ⟨hx, hb, hml, hown, hts⟩ (vx_toMet hM (fun En st t z => by obtain ⟨x, ρ1, ho, -⟩ := z; cases ho)) cw ⟨hpre.1, hrc, hpre.2⟩ rfl (by simp; omega) (hl.2.1) hst (lv_room hcat2) hd ⟨by show h.1.2.2.1 - bc + (h1.1.2.2.1 - h.1.2.2.1) ≤ R.cells; omega, by show h.1.2.2.2 - bs + (h1.1.2.2.2 - h.1.2.2.2) ≤ R.slots; omega⟩) kv
      | inr x =>
        exact am_call_thr hle hp h0 hr hS hA hl hwl hwd.tail hbc hbs (vx_runV (As := ((st.take n).reverse).map (am_cv ρ ξ)) (C := y.cls) (b := ξ e9) ⟨hx, hb, hml, hown, hts⟩ hM cw ⟨hpre.1, hrc, hpre.2⟩ rfl (by simp; omega) (hl.2.1) hst (lv_room hcat2) hd ⟨by show h.1.2.2.1 - bc + (h1.1.2.2.1 - h.1.2.2.1) ≤ R.cells; omega, by show h.1.2.2.2 - bs + (h1.1.2.2.2 - h.1.2.2.2) ≤ R.slots; omega⟩) x rfl (kx x rfl)
    · cases hf
  · cases hf

theorem ok_retn {ty : FieldType} {ret : Option FieldType} {hh : List (Nat × Nat × Nat × Nat)} {EN : Nat → String} (hr0 : ret = some ty) (hd : decode cc pc = .ok (.ireturn, 1)) : am_okE vwCl q_SH ξ cc nL own nm ret hh (q_E ξ β xs L) EN pc (im_retn ty) := by
  intro D dA p l e d mc ms s m args below meth c A ρ0 n0 bc bs X Y hlt hEk hE hA ls st h r hf
  obtain ⟨hx, hb, hml, hown, hnm, hts⟩ := id X
  obtain ⟨hret, hlk, htb⟩ := id Y
  subst hr0
  unfold im_retn at hf
  split at hf
  · split at hf
    · rename_i x hn
      cases hf
      refine ⟨_, _, rfl, fun e1 e2 ρ H locs jl hp h0 hr hS hl hwl hws hbc hbs => ?_⟩
      subst e1
      subst e2
      exact vx_ret (W.zret hx hb hret hn (fun t ht hW => ⟨some (.int x), ρ, rfl, rfl, hr, by rw [ht]; exact am_pic_move hp hW.alike (fun _ z => z), am_wl.cons am_wv.int am_wl.nil, hS.F ht⟩) hS.2.2 hd hlk)
    · cases hf
  · cases hf
end Txt

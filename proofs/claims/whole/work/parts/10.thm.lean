/-! ===== ends of a method ===== -/
/-- what is said of the method itself -/
def am_Y (ret : Option FieldType) (hh : List (Nat × Nat × Nat × Nat)) (meth : Method) (c : Code) : Prop := meth.sig.returnType = ret ∧ meth.locks = false ∧ c.exceptionTable.toList = tableOf hh
/-- an instruction that ends its method -/
def am_okE (cl : List vw_C) (SH : Nat → am_S) (ξ : Nat → Nat) (cc : ByteArray) (nL : Nat) (own nm : String) (ret : Option FieldType) (hh : List (Nat × Nat × Nat × Nat)) (E : am_E) (EN : Nat → String) (pc : Nat) (f : am_F) : Prop :=
  ∀ (D : va_G) (dA : FieldType → ClassId) (p : Program) (l : Launch) (e : Env) (d mc ms : Nat) (s : State) (m : MethodId) (args : Array Value) (below : List Frame) (meth : Method) (c : Code) (A : Nat → Prop) (ρ0 : Nat → Nat) (n0 bc bs : Nat),
    am_X cc nL own nm p s m args meth c am_ts → am_Y ret hh meth c → l.stackTraces = false → am_Eok E → E s s.heap A → (∀ q, s.heap.size ≤ q → A q) → ∀ (ls st : List Value) (h : am_H) (r : am_R), f ls st h = some r →
      ∃ (o : am_O) (h1 : am_H), r = .inr (.inr (o, h1)) ∧ (h1.1.2.2.1 - bc = mc → h1.1.2.2.2 - bs = ms →
        am_W cl SH D dA ξ p l e (am_rm d mc ms) s m args below meth c (vx_MQ below (am_Qc cl SH ξ D dA ρ0 n0 A o h1) (am_XC cl SH EN D dA ρ0 n0 A o h1) args s mc ms A) A ρ0 n0 bc bs nL pc ls st h)
section Ends
variable {cl : List vw_C} {SH : Nat → am_S} {ξ : Nat → Nat} {cc : ByteArray} {nL : Nat} {own nm : String} {ret : Option FieldType} {hh : List (Nat × Nat × Nat × Nat)} {E : am_E} {EN : Nat → String} {pc : Nat}
def im_ret0e : am_F := fun ls st h => match st with
  | [] => some (.inr (.inr (.inl none, h)))
  | _ => none
theorem mo_ret0e : am_mo im_ret0e := by
  intro ls st h r hf
  unfold im_ret0e at hf
  split at hf
  · cases hf; exact am_leH.rf _
  · cases hf
theorem ok_ret0 (hr0 : ret = none) (hd : decode cc pc = .ok (.return_, 1)) : am_okE cl SH ξ cc nL own nm ret hh E EN pc im_ret0e := by
  intro D dA p l e d mc ms s m args below meth c A ρ0 n0 bc bs X Y hlt hEk hE hA ls st h r hf
  obtain ⟨hx, hb, hml, hown, hnm, hts⟩ := id X
  obtain ⟨hret, hlk, htb⟩ := id Y
  subst hr0
  unfold im_ret0e at hf
  split at hf
  · skip
    cases hf
    refine ⟨_, _, rfl, fun e1 e2 ρ H locs jl hp h0 hr hS hl hwl hws hbc hbs => ?_⟩
    subst e1
    subst e2
    exact vx_ret (W.vret hx hb hret (fun t ht hW => ⟨none, ρ, rfl, rfl, hr, by rw [ht]; exact am_pic_move hp hW.alike (fun _ z => z), am_wl.nil, hS.F ht⟩) hS.2.2 hd hlk)
  · cases hf

theorem ok_reti (hr0 : ret = some .int) (hd : decode cc pc = .ok (.ireturn, 1)) : am_okE cl SH ξ cc nL own nm ret hh E EN pc im_reti := by
  intro D dA p l e d mc ms s m args below meth c A ρ0 n0 bc bs X Y hlt hEk hE hA ls st h r hf
  obtain ⟨hx, hb, hml, hown, hnm, hts⟩ := id X
  obtain ⟨hret, hlk, htb⟩ := id Y
  subst hr0
  unfold im_reti at hf
  split at hf
  · rename_i x
    cases hf
    refine ⟨_, _, rfl, fun e1 e2 ρ H locs jl hp h0 hr hS hl hwl hws hbc hbs => ?_⟩
    subst e1
    subst e2
    exact vx_ret (W.iret hx hb hret (fun t ht hW => ⟨some (.int x), ρ, rfl, rfl, hr, by rw [ht]; exact am_pic_move hp hW.alike (fun _ z => z), am_wl.cons am_wv.int am_wl.nil, hS.F ht⟩) hS.2.2 hd hlk)
  · cases hf

theorem ok_retl (hr0 : ret = some .long) (hd : decode cc pc = .ok (.lreturn, 1)) : am_okE cl SH ξ cc nL own nm ret hh E EN pc im_retl := by
  intro D dA p l e d mc ms s m args below meth c A ρ0 n0 bc bs X Y hlt hEk hE hA ls st h r hf
  obtain ⟨hx, hb, hml, hown, hnm, hts⟩ := id X
  obtain ⟨hret, hlk, htb⟩ := id Y
  subst hr0
  unfold im_retl at hf
  split at hf
  · rename_i x
    cases hf
    refine ⟨_, _, rfl, fun e1 e2 ρ H locs jl hp h0 hr hS hl hwl hws hbc hbs => ?_⟩
    subst e1
    subst e2
    exact vx_ret (W.lret hx hb hret (fun t ht hW => ⟨some (.long x), ρ, rfl, rfl, hr, by rw [ht]; exact am_pic_move hp hW.alike (fun _ z => z), am_wl.cons am_wv.long am_wl.nil, hS.F ht⟩) hS.2.2 hd hlk)
  · cases hf

theorem ok_reta {ty : FieldType} (hr0 : ret = some (.array ty)) (hd : decode cc pc = .ok (.areturn, 1)) : am_okE cl SH ξ cc nL own nm ret hh E EN pc im_reta := by
  intro D dA p l e d mc ms s m args below meth c A ρ0 n0 bc bs X Y hlt hEk hE hA ls st h r hf
  obtain ⟨hx, hb, hml, hown, hnm, hts⟩ := id X
  obtain ⟨hret, hlk, htb⟩ := id Y
  subst hr0
  unfold im_reta at hf
  split at hf
  · rename_i x
    cases hf
    refine ⟨_, _, rfl, fun e1 e2 ρ H locs jl hp h0 hr hS hl hwl hws hbc hbs => ?_⟩
    subst e1
    subst e2
    exact vx_ret (W.aret hx hb hret (Or.inr ⟨_, rfl⟩) (Or.inr ⟨_, rfl⟩) (fun t ht hW => ⟨some (.ref x), ρ, rfl, rfl, hr, by rw [ht]; exact am_pic_move hp hW.alike (fun _ z => z), am_wl.cons hws.head am_wl.nil, hS.F ht⟩) hS.2.2 hd hlk)
  · cases hf

theorem ok_retz (hr0 : ret = some .boolean) (hd : decode cc pc = .ok (.ireturn, 1)) : am_okE cl SH ξ cc nL own nm ret hh E EN pc im_retz := by
  intro D dA p l e d mc ms s m args below meth c A ρ0 n0 bc bs X Y hlt hEk hE hA ls st h r hf
  obtain ⟨hx, hb, hml, hown, hnm, hts⟩ := id X
  obtain ⟨hret, hlk, htb⟩ := id Y
  subst hr0
  unfold im_retz at hf
  split at hf
  · split at hf
    · rename_i x hx01
      have hn : narrow .boolean (.int x) = .int x := by rcases hx01 with rfl | rfl <;> rfl
      cases hf
      refine ⟨_, _, rfl, fun e1 e2 ρ H locs jl hp h0 hr hS hl hwl hws hbc hbs => ?_⟩
      subst e1
      subst e2
      exact vx_ret (W.zret hx hb hret hn (fun t ht hW => ⟨some (.int x), ρ, rfl, rfl, hr, by rw [ht]; exact am_pic_move hp hW.alike (fun _ z => z), am_wl.cons am_wv.int am_wl.nil, hS.F ht⟩) hS.2.2 hd hlk)
    · cases hf
  · cases hf

/-- throw new X() -/
theorem ok_thr {x ik ic : Nat} {cls : String} {names : List String} (hEN : EN x = cls) (hh0 : hh = []) (hnn : names.length ≤ 3) (hcls : Bundle.fit cls = true) (hnames : ∀ n ∈ names, Bundle.fit n = true) (w1 : Cond.classLink own ik cls ∈ am_ts) (w2 : Cond.initialized cls ∈ am_ts)
    (hat : ∀ w ∈ (vx_at0 own ic cls names).filter goodWord, w ∈ am_ts) (hot : ∀ w ∈ (vx_at0 own ic cls names).filter (fun w => !goodWord w), w.onTables = true) (hbad : ∀ s H A, E s H A → ∀ w ∈ (vx_at0 own ic cls names).filter (fun w => !goodWord w), w.before #[] s = true)
    (hU : ∀ s H A, E s H A → vx_Zq Bundle.tN "UNASSIGNED_STACK" Bundle.steD A s H) (hN : ∀ s H A, E s H A → vx_Zq Bundle.tN "SUPPRESSED_SENTINEL" Bundle.listD A s H)
    (d0 : decode cc pc = .ok (.new ik, 3)) (d3 : decode cc (pc + 3) = .ok (.dup, 1)) (d4 : decode cc (pc + 4) = .ok (.invokespecial ic, 3)) (d7 : decode cc (pc + 7) = .ok (.athrow, 1)) : am_okE cl SH ξ cc nL own nm ret hh E EN pc (im_thr x) := by
  intro D dA p l e d mc ms s m args below meth c A ρ0 n0 bc bs X Y hlt hEk hE hA ls st h r hf
  obtain ⟨hx, hb, hml, hown, hnm, hts⟩ := id X
  obtain ⟨hret, hlk, htb⟩ := id Y
  subst hEN
  subst hh0
  unfold im_thr at hf
  split at hf
  · cases hf
    refine ⟨_, _, rfl, fun e1 e2 ρ H locs jl hp h0 hr hS hl hwl hws hbc hbs => ?_⟩
    have e1 : h.1.2.2.1 + 1 - bc = mc := e1
    have e2 : h.1.2.2.2 + 6 - bs = ms := e2
    have hall : ∀ w ∈ vx_at0 own ic (EN x) names, w.before args s = true ∧ vx_ot w = true := by
      intro w hw
      cases hg : goodWord w with
      | true => exact ⟨hts _ (hat w (List.mem_filter.mpr ⟨hw, hg⟩)), by simp [vx_ot, hg]⟩
      | false =>
        have hm : w ∈ (vx_at0 own ic (EN x) names).filter (fun w => !goodWord w) := List.mem_filter.mpr ⟨hw, by simp [hg]⟩
        have b1 := hbad _ _ _ hE w hm
        have b2 := hot w hm
        exact ⟨vx_ot_at (State.WarmedH.refl s) rfl (by simp [vx_ot, b2]) b1, by simp [vx_ot, b2]⟩
    have hg1 : ∀ w, w ∈ am_ts → vx_ot w = true := fun w hw => by simp [vx_ot, (List.mem_filter.mp hw).2]
    refine vx_throw0 (names := names) hx hb hlt hown hcls hnames (hts _ w1) (hts _ w2) (fun w hw => (hall w hw).1) (fun w hw => ?_) (hU _ _ _ hE) (hN _ _ _ hE) hS (by rw [hml]; exact hl.2.1) d0 d3 d4 d7 (fun z hz => by rw [htb] at hz; cases hz) (rest := []) (by show names.length + 3 < 30 + d; omega) (by show 0 + (13 * (names.length + 1) + 42) ≤ 500 + 60 * d; omega) (by show h.1.2.2.1 - bc + 1 ≤ mc; omega) (by show h.1.2.2.2 - bs + 6 ≤ ms; omega) hlk (fun t ht hsz hk => ?_) hS.2.2 (by omega) (by omega)
    · rcases List.mem_cons.mp hw with rfl | hw
      · exact hg1 _ w1
      · rcases List.mem_cons.mp hw with rfl | hw
        · exact hg1 _ w2
        · exact (hall w hw).2
    · refine ⟨x, ρ, rfl, rfl, hr, ⟨hp.1.kept (fun k q hq => hk q.1 (hp.1 k q hq).lt), hp.2.1, va_K.moved ht hp.2.2.1, hp.2.2.2⟩, Nat.le_trans hS.1 hsz, fun q h1 h2 => (hk q (Nat.lt_of_lt_of_le h1 hS.1)).trans (hS.2.1 q h1 h2)⟩
  · cases hf
end Ends
/-! ===== handlers ===== -/
theorem am_lv.store0 {ρ ξ : Nat → Nat} {nL j : Nat} {ls : List Value} {jl jl' : Array Slot} {w : Value} (h : am_lv ρ ξ nL ls jl)
    (h' : lv_has jl' nL ((j, w) :: (am_as ρ ξ ls).filter (fun q => !(q.1 == j) && !(q.1 + 1 == j && q.2.category == 2)))) : am_lv ρ ξ nL (am_set ls j (.retAddr 0)) jl' := by
  refine ⟨by rw [am_set, List.length_set, am_clr_len]; exact h.1, h'.1, h'.2.1, fun i u hu hne => ?_⟩
  by_cases hij : i = j
  · subst hij
    have hlt : i < (am_clr ls i).length := by
      have := (List.getElem?_eq_some_iff.mp hu).1
      rwa [am_set, List.length_set] at this
    rw [am_set, List.getElem?_set_self hlt] at hu
    cases hu
    exact absurd rfl hne
  · rw [am_set, List.getElem?_set_ne (Ne.symm hij)] at hu
    obtain ⟨g1, g2⟩ := am_clr_get hu hne
    refine h'.2.2 (i, am_cv ρ ξ u) (List.mem_cons_of_mem _ (List.mem_filter.mpr ⟨am_mem_as g1 hne, ?_⟩))
    simp only [Bool.and_eq_true, Bool.not_eq_true', beq_eq_false_iff_ne, ne_eq, Bool.and_eq_false_iff]
    refine ⟨hij, ?_⟩
    by_cases hc : i + 1 = j
    · exact Or.inr (fun z => g2 ⟨hc, by rw [am_cv_cat] at z; exact z⟩)
    · exact Or.inl hc
/-- an exception x out of the call at pc goes on at t, its reference in local j -/
def am_okH (cl : List vw_C) (SH : Nat → am_S) (ξ : Nat → Nat) (cc : ByteArray) (nL : Nat) (own nm : String) (ret : Option FieldType) (hh : List (Nat × Nat × Nat × Nat)) (E : am_E) (EN : Nat → String) (pc x t j : Nat) : Prop :=
  ∀ (D : va_G) (dA : FieldType → ClassId) (p : Program) (l : Launch) (e : Env) (R : Room) (s : State) (m : MethodId) (args : Array Value) (below : List Frame) (meth : Method) (c : Code) (Q : State → Prop) (A : Nat → Prop) (ρ0 : Nat → Nat) (n0 bc bs : Nat),
    am_X cc nL own nm p s m args meth c am_ts → am_Y ret hh meth c → E s s.heap A → ∀ (ls st : List Value) (h : am_H),
      am_W cl SH D dA ξ p l e R s m args below meth c Q A ρ0 n0 bc bs nL t (am_set ls j (.retAddr 0)) [] h → am_WX cl SH D dA ξ EN p l e R s m args below meth c Q A ρ0 n0 bc bs nL pc ls st h x
section Hd
variable {cl : List vw_C} {SH : Nat → am_S} {ξ : Nat → Nat} {cc : ByteArray} {nL : Nat} {own nm : String} {ret : Option FieldType} {hh : List (Nat × Nat × Nat × Nat)} {E : am_E} {EN : Nat → String} {pc x t j : Nat}
theorem ok_hd {pre suf : List (Nat × Nat × Nat × Nat)} {z : Nat × Nat × Nat × Nat} {name : String} (hsp : hh = pre ++ z :: suf) (hpass : ∀ y ∈ pre, y.2.2.2 ≠ 0 ∧ ∃ nm9 : String, Cond.classLink own y.2.2.2 nm9 ∈ am_ts ∧ ∀ s H A, E s H A → va_Nc (EN x) nm9 s)
    (hcov : z.1 ≤ pc ∧ pc < z.2.1) (h0 : z.2.2.2 ≠ 0) (w1 : Cond.classLink own z.2.2.2 name ∈ am_ts) (w2 : ∀ s H A, E s H A → va_Nw (.castable (EN x) name) s) (hj : j < nL)
    (hd : (decode cc z.2.2.1 = .ok (.astore j, 2) ∧ t = z.2.2.1 + 2) ∨ ∃ k : Fin 4, (k : Nat) = j ∧ decode cc z.2.2.1 = .ok (.astore_n k, 1) ∧ t = z.2.2.1 + 1) : am_okH cl SH ξ cc nL own nm ret hh E EN pc x t j := by
  intro D dA p l e R s m args below meth c Q A ρ0 n0 bc bs X Y hE ls st h hk ρ H locs jl q ce hp hn hr hS hl hwl hws hbc hbs hq hv hcl
  obtain ⟨hx, hb, hml, hown, hnm, hts⟩ := id X
  obtain ⟨hret, hlk, htb⟩ := id Y
  rw [hsp] at htb
  have htb2 : c.exceptionTable.toList = tableOf pre ++ ⟨z.1, z.2.1, z.2.2.1, z.2.2.2⟩ :: tableOf suf := by
    rw [htb]; simp [tableOf]
  refine vx_catch hown (tableOf pre) ⟨z.1, z.2.1, z.2.2.1, z.2.2.2⟩ (tableOf suf) htb2 (fun y hy => ?_) ?_ h0 (hts _ w1) (va_Nw.use rfl (w2 _ _ _ hE)) hq hv hcl ?_
  · obtain ⟨y0, hy0, rfl⟩ := List.mem_map.mp hy
    obtain ⟨g1, nm9, g2, g3⟩ := hpass y0 hy0
    exact Or.inr ⟨g1, nm9, hts _ g2, g3 _ _ _ hE⟩
  · simp [covers, hcov.1, hcov.2]
  · rcases hd with ⟨d1, rfl⟩ | ⟨k, hk0, d1, rfl⟩
    · exact lv_astore hx hb d1 hl.has hj rfl (fun jl' hl' => hk ρ H locs jl' hp hn hr hS (hl.store0 hl') (hwl.set am_wv.ext) am_wl.nil hbc hbs)
    · exact lv_astore_n hx hb d1 hk0 hl.has hj rfl (fun jl' hl' => hk ρ H locs jl' hp hn hr hS (hl.store0 hl') (hwl.set am_wv.ext) am_wl.nil hbc hbs)
end Hd
/-! ===== soundness ===== -/
/-- a method: its bytes, locals, class, name, what it returns, its handlers -/
abbrev am_I : Type := ByteArray × Nat × String × String × Option FieldType × List (Nat × Nat × Nat × Nat)
def am_ok (cl : List vw_C) (SH : Nat → am_S) (ξ : Nat → Nat) (E : am_E) (EN : Nat → String) (KD : Nat → MethodName × Cond) (ML : Nat → Nat) (I : am_I) (pc : Nat) (f : am_F) : Prop :=
  am_mo f ∧ (am_okN cl SH ξ I.1 I.2.1 I.2.2.1 I.2.2.2.1 am_ts E pc f ∨ am_okC cl SH ξ I.1 I.2.1 I.2.2.1 I.2.2.2.1 E EN KD ML pc f ∨ am_okE cl SH ξ I.1 I.2.1 I.2.2.1 I.2.2.2.1 I.2.2.2.2.1 I.2.2.2.2.2 E EN pc f)
theorem am_lvargs : ∀ (vs : List Value) (i : Nat), (∀ v ∈ vs, v.category = 1) → ∀ (j : Nat) (v : Value), vs[j]? = some v → (i + j, v) ∈ lv_args i vs
  | [], _, _, j, v, h => by simp at h
  | w :: vs, i, hc, j, v, h => by
    unfold lv_args
    have hw : ¬ w.category = 2 := by have := hc w List.mem_cons_self; omega
    rw [if_neg hw]
    cases j with
    | zero =>
      rw [List.getElem?_cons_zero] at h
      cases h
      exact List.mem_cons_self
    | succ j =>
      rw [List.getElem?_cons_succ] at h
      have := am_lvargs vs (i + 1) (fun u hu => hc u (List.mem_cons_of_mem _ hu)) j v h
      rw [show i + (j + 1) = i + 1 + j by omega]
      exact List.mem_cons_of_mem _ this
theorem am_sllen : ∀ (vs : List Value), (∀ v ∈ vs, v.category = 1) → (lg_sl vs).length = vs.length
  | [], _ => rfl
  | w :: vs, hc => by
    have h1 := am_sllen vs (fun u hu => hc u (List.mem_cons_of_mem _ hu))
    have hw := hc w List.mem_cons_self
    have e1 : lg_sl (w :: vs) = lg_sl [w] ++ lg_sl vs := by simp [lg_sl]
    have e2 : (lg_sl [w]).length = 1 := by
      cases w <;> first | rfl | (simp [Value.category] at hw)
    rw [e1, List.length_append, h1, e2, List.length_cons]
    omega
theorem am_entry {ρ ξ : Nat → Nat} {nL : Nat} {as : List Value} (hlen : as.length ≤ nL) (hc : ∀ v ∈ as, v.category = 1) {jl : Array Slot} (h : lv_has jl nL (lv_args 0 (as.map (am_cv ρ ξ)))) : am_lv ρ ξ nL (as ++ List.replicate (nL - as.length) (.retAddr 0)) jl := by
  refine ⟨by simp; omega, h.1, h.2.1, fun i v hv hne => ?_⟩
  by_cases hi : i < as.length
  · rw [List.getElem?_append_left hi] at hv
    have h2 := am_lvargs (as.map (am_cv ρ ξ)) 0 (fun w hw => by
      obtain ⟨u, hu, rfl⟩ := List.mem_map.mp hw
      rw [am_cv_cat]; exact hc u hu) i (am_cv ρ ξ v) (by rw [List.getElem?_map, hv]; rfl)
    have h3 := h.2.2 _ h2
    rwa [Nat.zero_add] at h3
  · rw [List.getElem?_append_right (by omega)] at hv
    exact absurd (List.eq_of_mem_replicate (List.mem_of_getElem? hv)) hne
section Sound
variable {cl : List vw_C} {SH : Nat → am_S} {ξ : Nat → Nat} {E : am_E} {EN : Nat → String} {KD : Nat → MethodName × Cond} {ML : Nat → Nat} {KI : Nat → am_I} {P : Nat → Nat → Option am_F} {HD : Nat → Nat → Nat → Option (Nat × Nat)} {NT : Nat → Bool}
/-- a method's body, run by n steps at the most; hend: what its ends owe, hthr: an exception that leaves it -/
def am_snd (cl : List vw_C) (SH : Nat → am_S) (ξ : Nat → Nat) (E : am_E) (EN : Nat → String) (ML : Nat → Nat) (KI : Nat → am_I) (P : Nat → Nat → Option am_F) (HD : Nat → Nat → Nat → Option (Nat × Nat)) (NT : Nat → Bool) (n : Nat) : Prop :=
  ∀ (d k pc : Nat) (ls st : List Value) (h : am_H) (o : am_O) (h1 : am_H), am_ex P ML HD NT n d k pc ls st h = some (o, h1) →
    ∀ (D : va_G) (dA : FieldType → ClassId) (p : Program) (l : Launch) (e : Env) (R : Room) (s : State) (m : MethodId) (args : Array Value) (below : List Frame) (meth : Method) (c : Code) (Q : State → Prop) (A : Nat → Prop) (ρ0 : Nat → Nat) (n0 bc bs : Nat),
      am_X (KI k).1 (KI k).2.1 (KI k).2.2.1 (KI k).2.2.2.1 p s m args meth c am_ts → am_Y (KI k).2.2.2.2.1 (KI k).2.2.2.2.2 meth c → l.stackTraces = false → E s s.heap A → (∀ q, s.heap.size ≤ q → A q) → 30 + d ≤ R.frames → 500 + 60 * d ≤ R.locals → h1.1.2.2.1 - bc ≤ R.cells → h1.1.2.2.2 - bs ≤ R.slots →
      (∀ (pc : Nat) (ls st : List Value) (h : am_H) (f : am_F), P k pc = some f → f ls st h = some (.inr (.inr (o, h1))) → am_W cl SH D dA ξ p l e R s m args below meth c Q A ρ0 n0 bc bs (KI k).2.1 pc ls st h) →
      (NT k = true → ∀ (pc : Nat) (ls st : List Value) (x : Nat), o = .inr x → am_WX cl SH D dA ξ EN p l e R s m args below meth c Q A ρ0 n0 bc bs (KI k).2.1 pc ls st h1 x) →
      am_W cl SH D dA ξ p l e R s m args below meth c Q A ρ0 n0 bc bs (KI k).2.1 pc ls st h
/-- how a method's name and code go with what is said of it -/
def am_okK (KD : Nat → MethodName × Cond) (ML : Nat → Nat) (KI : Nat → am_I) (NT : Nat → Bool) (k : Nat) : Prop :=
  plainName (KD k).1.cls = true ∧ ML k = (KI k).2.1 ∧ (KI k).2.2.1 = (KD k).1.cls ∧ (KI k).2.2.2.1 = (KD k).1.name ∧
    (((KD k).2 = Cond.code (KD k).1 (KI k).1 (KI k).2.1 (KI k).2.2.2.2.1 ∧ (KI k).2.2.2.2.2 = []) ∨ (KD k).2 = Cond.codeWith (KD k).1 (KI k).1 (KI k).2.1 (KI k).2.2.2.2.1 (KI k).2.2.2.2.2) ∧ (NT k = true → (KI k).2.2.2.2.2 = [])
theorem am_met (hEk : am_Eok E) (hOK : ∀ k pc f, P k pc = some f → am_ok cl SH ξ E EN KD ML (KI k) pc f) {k : Nat} (hK : am_okK KD ML KI NT k) {n : Nat} (ih : am_snd cl SH ξ E EN ML KI P HD NT n) {l : Launch} (hlt : l.stackTraces = false) {d : Nat} {as : List Value} {h : am_H} {o : am_O} {h1 : am_H}
    (hlen : as.length ≤ ML k) (hc1 : ∀ v ∈ as, v.category = 1) (hle : am_leH h h1) (hr : am_ex P ML HD NT n d k 0 (as ++ List.replicate (ML k - as.length) (.retAddr 0)) [] h = some (o, h1)) : am_Met cl SH ξ E EN l (KD k).1 (KD k).2 d as h o h1 := by
  obtain ⟨k1, k2, k3, k4, k6, k7⟩ := hK
  intro hwl D dA ρ sz
  have go : ∀ (p : Program) (e : Env) (s : State) (m : MethodId) (args : Array Value) (below : List Frame) (meth : Method) (c : Code) (s₁ : State), BodyLoose p l (KD k).1 (headSpec ((KD k).2 :: am_ts) (am_rm d (h1.1.2.2.1 - h.1.2.2.1) (h1.1.2.2.2 - h.1.2.2.2))) (KI k).1 (KI k).2.1 (KI k).2.2.2.2.1 e s m args below meth c s₁ → c.maxLocals = (KI k).2.1 → c.exceptionTable.toList = tableOf (KI k).2.2.2.2.2 → am_Pc cl SH ξ E D dA ρ sz as h args s →
      W p l e (am_rm d (h1.1.2.2.1 - h.1.2.2.1) (h1.1.2.2.2 - h.1.2.2.2)) s m args below meth c s.heap [] 0 0 (vx_MQ below (am_Qc cl SH ξ D dA ρ h.1.1 (am_AA cl SH ρ dA h sz) o h1) (am_XC cl SH EN D dA ρ h.1.1 (am_AA cl SH ρ dA h sz) o h1) args s (h1.1.2.2.1 - h.1.2.2.1) (h1.1.2.2.2 - h.1.2.2.2) (am_AA cl SH ρ dA h sz)) (entryFrame m args (KI k).2.1) := by
    intro p e s m args below meth c s₁ B hml htb hPc
    obtain ⟨rfl, hsz, hpic, hE⟩ := hPc
    have hts0 := atoms_spec (ws := (KD k).2 :: am_ts) B.pre
    have hX : am_X (KI k).1 (KI k).2.1 (KI k).2.2.1 (KI k).2.2.2.1 p s m (as.map (am_cv ρ ξ)).toArray meth c am_ts :=
      ⟨B.exec, B.bytes, hml, by rw [k3]; exact findClass_of_methodNamed B.named, by rw [k4]; exact (name_of_methodNamed B.named B.method).1, fun w hw => hts0 w (List.mem_cons_of_mem _ hw)⟩
    have hY : am_Y (KI k).2.2.2.2.1 (KI k).2.2.2.2.2 meth c := ⟨B.returns, B.notSynchronized, htb⟩
    have hcm : ∀ v ∈ as.map (am_cv ρ ξ), v.category = 1 := fun w hw => by
      obtain ⟨u, hu, rfl⟩ := List.mem_map.mp hw
      rw [am_cv_cat]; exact hc1 u hu
    have hl := lv_entry (as.map (am_cv ρ ξ)) (n := (KI k).2.1) (by rw [am_sllen _ hcm, List.length_map, ← k2]; exact hlen)
    rw [lg_entry_eq]
    generalize (lg_sl (as.map (am_cv ρ ξ)) ++ List.replicate ((KI k).2.1 - (lg_sl (as.map (am_cv ρ ξ))).length) Slot.unset).toArray = jl at hl ⊢
    rw [k2] at hlen hr
    have hlv := am_entry hlen hc1 hl
    have hend : ∀ (pc : Nat) (ls st : List Value) (h2 : am_H) (f : am_F), P k pc = some f → f ls st h2 = some (.inr (.inr (o, h1))) → am_W cl SH D dA ξ p l e (am_rm d (h1.1.2.2.1 - h.1.2.2.1) (h1.1.2.2.2 - h.1.2.2.2)) s m (as.map (am_cv ρ ξ)).toArray below meth c (vx_MQ below (am_Qc cl SH ξ D dA ρ h.1.1 (am_AA cl SH ρ dA h sz) o h1) (am_XC cl SH EN D dA ρ h.1.1 (am_AA cl SH ρ dA h sz) o h1) (as.map (am_cv ρ ξ)).toArray s (h1.1.2.2.1 - h.1.2.2.1) (h1.1.2.2.2 - h.1.2.2.2) (am_AA cl SH ρ dA h sz)) (am_AA cl SH ρ dA h sz) ρ h.1.1 h.1.2.2.1 h.1.2.2.2 (KI k).2.1 pc ls st h2 := by
      intro pc ls st h2 f hf hx
      obtain ⟨-, hok⟩ := hOK _ _ _ hf
      rcases hok with hok | hok | hok
      · obtain ⟨pc', ls', st', h', e1, -⟩ := hok D dA p l e (am_rm d 0 0) s m (as.map (am_cv ρ ξ)).toArray below meth c (fun _ => True) (am_AA cl SH ρ dA h sz) ρ h.1.1 h.1.2.2.1 h.1.2.2.2 hX (by show 30 ≤ 30 + d; omega) (by show 500 ≤ 500 + 60 * d; omega) hE (fun q hq => Or.inr (by rw [← hsz]; exact hq)) _ _ _ _ hx
        cases e1
      · obtain ⟨k', as', st', e1, -⟩ := hok D dA p l e d (am_rm (d + 1) 0 0) s m (as.map (am_cv ρ ξ)).toArray below meth c (fun _ => True) (am_AA cl SH ρ dA h sz) ρ h.1.1 h.1.2.2.1 h.1.2.2.2 hX (Nat.le_refl _) (Nat.le_refl _) hEk hE (fun q hq => Or.inr (by rw [← hsz]; exact hq)) _ _ _ _ hx
        cases e1
      · obtain ⟨o', h', e1, e2⟩ := hok D dA p l e d (h1.1.2.2.1 - h.1.2.2.1) (h1.1.2.2.2 - h.1.2.2.2) s m (as.map (am_cv ρ ξ)).toArray below meth c (am_AA cl SH ρ dA h sz) ρ h.1.1 h.1.2.2.1 h.1.2.2.2 hX hY hlt hEk hE (fun q hq => Or.inr (by rw [← hsz]; exact hq)) _ _ _ _ hx
        cases e1
        exact e2 rfl rfl
    have hthr : NT k = true → ∀ (pc : Nat) (ls st : List Value) (x : Nat), o = .inr x → am_WX cl SH D dA ξ EN p l e (am_rm d (h1.1.2.2.1 - h.1.2.2.1) (h1.1.2.2.2 - h.1.2.2.2)) s m (as.map (am_cv ρ ξ)).toArray below meth c (vx_MQ below (am_Qc cl SH ξ D dA ρ h.1.1 (am_AA cl SH ρ dA h sz) o h1) (am_XC cl SH EN D dA ρ h.1.1 (am_AA cl SH ρ dA h sz) o h1) (as.map (am_cv ρ ξ)).toArray s (h1.1.2.2.1 - h.1.2.2.1) (h1.1.2.2.2 - h.1.2.2.2) (am_AA cl SH ρ dA h sz)) (am_AA cl SH ρ dA h sz) ρ h.1.1 h.1.2.2.1 h.1.2.2.2 (KI k).2.1 pc ls st h1 x := by
      intro hnt pc ls st x ho ρ2 H locs jl q ce hp hn hr2 hS hl hwl hws hbc hbs hq hv hcl
      exact vx_out (fun z hz => by
        rw [hY.2.2, k7 hnt] at hz
        cases hz) hY.2.1 hq hv hcl (fun t ht hva => ⟨x, ρ2, ho, rfl, hr2, by rw [ht]; exact am_pic_move hp hva (fun _ z => z), hS.F ht⟩) hS.2.2 (Nat.le_refl _) (Nat.le_refl _)
    have hgo := ih d k 0 _ _ h o h1 hr D dA p l e (am_rm d (h1.1.2.2.1 - h.1.2.2.1) (h1.1.2.2.2 - h.1.2.2.2)) s m (as.map (am_cv ρ ξ)).toArray below meth c _ (am_AA cl SH ρ dA h sz) ρ h.1.1 h.1.2.2.1 h.1.2.2.2 hX hY hlt hE (fun q hq => Or.inr (by rw [← hsz]; exact hq)) (Nat.le_refl _) (Nat.le_refl _) (Nat.le_refl _) (Nat.le_refl _) hend hthr ρ s.heap [] jl hpic (Nat.le_refl _) (fun _ _ => rfl) va_S.rf hlv (fun w hw => by
      rcases List.mem_append.mp hw with hw | hw
      · exact hwl w hw
      · rw [List.eq_of_mem_replicate hw]; exact am_wv.ext) am_wl.nil (Nat.le_refl _) (Nat.le_refl _)
    rw [Nat.sub_self, Nat.sub_self] at hgo
    exact hgo
  rcases k6 with ⟨kc, kh⟩ | kc
  · exact vx_ofW k1 (by rw [kc]) (fun p e s m args below meth c s₁ B hml ht hPc => go p e s m args below meth c s₁ B hml (by
      rw [kh]
      cases hcl : c.exceptionTable.toList with
      | nil => rfl
      | cons x xs => exact absurd (ht x (by rw [hcl]; exact List.mem_cons_self)) id) hPc)
  · exact vx_ofWH k1 (by rw [kc]) (fun p e s m args below meth c s₁ B hml hPc => go p e s m args below meth c s₁ B hml (vx_table (x := (KD k).1) B (by rw [← kc]; exact atoms_spec (ws := (KD k).2 :: am_ts) B.pre _ List.mem_cons_self)) hPc)
theorem am_k0 (hKK : ∀ k f, P k 0 = some f → am_okK KD ML KI NT k) {n d k : Nat} {ls st : List Value} {h : am_H} {r : am_O × am_H} (hr : am_ex P ML HD NT n d k 0 ls st h = some r) : am_okK KD ML KI NT k := by
  cases n with
  | zero => cases hr
  | succ n =>
    unfold am_ex at hr
    split at hr
    · cases hr
    · rename_i f hf
      exact hKK _ _ hf
theorem am_sound (hEk : am_Eok E) (hOK : ∀ k pc f, P k pc = some f → am_ok cl SH ξ E EN KD ML (KI k) pc f) (hHD : ∀ k pc x y, HD k pc x = some y → am_okH cl SH ξ (KI k).1 (KI k).2.1 (KI k).2.2.1 (KI k).2.2.2.1 (KI k).2.2.2.2.1 (KI k).2.2.2.2.2 E EN pc x y.1 y.2)
    (hKK : ∀ k f, P k 0 = some f → am_okK KD ML KI NT k) : ∀ n, am_snd cl SH ξ E EN ML KI P HD NT n := by
  have hmo : ∀ k pc f, P k pc = some f → am_mo f := fun k pc f h => (hOK k pc f h).1
  intro n
  induction n with
  | zero => intro d k pc ls st h o h1 hr; cases hr
  | succ n ih =>
    intro d k pc ls st h o h1 hr D dA p l e R s m args below meth c Q A ρ0 n0 bc bs hX hY hlt hE hA hRf hRl hRc hRs hend hthr
    unfold am_ex at hr
    split at hr
    · cases hr
    · rename_i f hf
      obtain ⟨-, hok⟩ := hOK _ _ _ hf
      split at hr
      · cases hr
      · rename_i x hx
        have hle := am_ex_le hmo _ _ _ _ _ _ _ _ hr
        have hW := ih _ _ _ _ _ _ _ _ hr D dA p l e R s m args below meth c Q A ρ0 n0 bc bs hX hY hlt hE hA hRf hRl hRc hRs hend hthr
        rcases hok with hok | hok | hok
        · obtain ⟨pc', ls', st', h', e1, -, -, e4⟩ := hok D dA p l e R s m args below meth c Q A ρ0 n0 bc bs hX (by omega) (by omega) hE hA _ _ _ _ hx
          cases e1
          exact e4 (by have h5 : h'.1.2.2.1 ≤ h1.1.2.2.1 := hle.2.1; omega) (by have h5 : h'.1.2.2.2 ≤ h1.1.2.2.2 := hle.2.2; omega) hW
        · obtain ⟨k', as, st', e1, -⟩ := hok D dA p l e 0 (am_rm 1 0 0) s m args below meth c (fun _ => True) A ρ0 n0 bc bs hX (Nat.le_refl _) (Nat.le_refl _) hEk hE hA _ _ _ _ hx
          cases e1
        · obtain ⟨o', h', e1, -⟩ := hok D dA p l e d 0 0 s m args below meth c A ρ0 n0 bc bs hX hY hlt hEk hE hA _ _ _ _ hx
          cases e1
      · rename_i x hx
        rcases hok with hok | hok | hok
        · obtain ⟨pc', ls', st', h', e1, -⟩ := hok D dA p l e R s m args below meth c (fun _ => True) A ρ0 n0 bc bs hX (by omega) (by omega) hE hA _ _ _ _ hx
          cases e1
        · split at hr
          · cases hr
          · rename_i d
            obtain ⟨k', as, st', e1, -, e2, e3, e4⟩ := hok D dA p l e d R s m args below meth c Q A ρ0 n0 bc bs hX hRf hRl hEk hE hA _ _ _ _ hx
            cases e1
            split at hr
            · cases hr
            · rename_i v h' hc
              have hl1 := am_ex_le hmo _ _ _ _ _ _ _ _ hc
              have hl2 := am_ex_le hmo _ _ _ _ _ _ _ _ hr
              refine e4 (.inl v) h' hl1 (by have h5 : h'.1.2.2.1 ≤ h1.1.2.2.1 := hl2.2.1; omega) (by have h5 : h'.1.2.2.2 ≤ h1.1.2.2.2 := hl2.2.2; omega) (fun _ => am_met hEk hOK (am_k0 hKK hc) ih hlt e2 e3 hl1 hc) (fun v' hv' => ?_) (fun x hx => by cases hx)
              cases hv'
              exact ih _ _ _ _ _ _ _ _ hr D dA p l e R s m args below meth c Q A ρ0 n0 bc bs hX hY hlt hE hA hRf hRl hRc hRs hend hthr
            · rename_i x h' hc
              have hl1 := am_ex_le hmo _ _ _ _ _ _ _ _ hc
              split at hr
              · rename_i hhd
                split at hr
                · rename_i hnt
                  cases hr
                  refine e4 (.inr x) _ hl1 hRc hRs (fun _ => am_met hEk hOK (am_k0 hKK hc) ih hlt e2 e3 hl1 hc) (fun v' hv' => by cases hv') (fun x' hx' => ?_)
                  cases hx'
                  exact hthr hnt _ _ _ _ rfl
                · cases hr
              · rename_i y hhd
                have hl2 := am_ex_le hmo _ _ _ _ _ _ _ _ hr
                refine e4 (.inr x) h' hl1 (by have h5 : h'.1.2.2.1 ≤ h1.1.2.2.1 := hl2.2.1; omega) (by have h5 : h'.1.2.2.2 ≤ h1.1.2.2.2 := hl2.2.2; omega) (fun _ => am_met hEk hOK (am_k0 hKK hc) ih hlt e2 e3 hl1 hc) (fun v' hv' => by cases hv') (fun x' hx' => ?_)
                cases hx'
                exact hHD _ _ _ _ hhd D dA p l e R s m args below meth c Q A ρ0 n0 bc bs hX hY hE _ _ _ (ih _ _ _ _ _ _ _ _ hr D dA p l e R s m args below meth c Q A ρ0 n0 bc bs hX hY hlt hE hA hRf hRl hRc hRs hend hthr)
        · obtain ⟨o', h', e1, -⟩ := hok D dA p l e d 0 0 s m args below meth c A ρ0 n0 bc bs hX hY hlt hEk hE hA _ _ _ _ hx
          cases e1
      · rename_i x hx
        cases hr
        exact hend _ _ _ _ _ hf hx
end Sound

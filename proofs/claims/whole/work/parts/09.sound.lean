/-! ===== what a call's contract is ===== -/
abbrev am_E : Type := State → Heap → (Nat → Prop) → Prop
/-- what is said of objects outside stays: later tables, cells that nobody wrote, a smaller part -/
def am_Eok (E : am_E) : Prop := (∀ (s U : State) (H : Heap) (A : Nat → Prop), E s H A → s.WarmedH U.vm → E U H A) ∧ (∀ (s : State) (H H1 : Heap) (A : Nat → Prop), E s H A → (∀ a : Nat, a < H.size → ¬ A a → H1[a]? = H[a]?) → E s H1 A) ∧ (∀ (s : State) (H : Heap) (A B : Nat → Prop), E s H A → (∀ q, B q → A q) → E s H B)
def am_rm (d mc ms : Nat) : Room := { frames := 30 + d, cells := mc, slots := ms, locals := 500 + 60 * d }
def am_AA (cl : List vw_C) (SH : Nat → am_S) (ρ : Nat → Nat) (dA : FieldType → ClassId) (h : am_H) (sz : Nat) : Nat → Prop := va_A (am_ws cl SH ρ dA h) sz
def am_Pc (cl : List vw_C) (SH : Nat → am_S) (ξ : Nat → Nat) (E : am_E) (D : va_G) (dA : FieldType → ClassId) (ρ : Nat → Nat) (sz : Nat) (as : List Value) (h : am_H) : Array Value → State → Prop :=
  va_Pc (as.map (am_cv ρ ξ)) (fun U => U.heap.size = sz ∧ am_pic cl SH D dA ρ h (am_AA cl SH ρ dA h sz) U U.heap ∧ E U U.heap (am_AA cl SH ρ dA h sz))
def am_Qc (cl : List vw_C) (SH : Nat → am_S) (ξ : Nat → Nat) (D : va_G) (dA : FieldType → ClassId) (ρ : Nat → Nat) (n0 : Nat) (A : Nat → Prop) (o : am_O) (h1 : am_H) : Array Value → State → Outcome → State → Prop := fun _ st oc t =>
  ∃ (v : Option Value) (ρ1 : Nat → Nat), o = .inl v ∧ oc = .returned (v.map (am_cv ρ1 ξ)) ∧ (∀ i, i < n0 → ρ1 i = ρ i) ∧ am_pic cl SH D dA ρ1 h1 A t t.heap ∧ am_wl h1.1.1 v.toList ∧ va_F A st t
def am_XC (cl : List vw_C) (SH : Nat → am_S) (EN : Nat → String) (D : va_G) (dA : FieldType → ClassId) (ρ : Nat → Nat) (n0 : Nat) (A : Nat → Prop) (o : am_O) (h1 : am_H) : String → State → State → Prop := fun En st t =>
  ∃ (x : Nat) (ρ1 : Nat → Nat), o = .inr x ∧ En = EN x ∧ (∀ i, i < n0 → ρ1 i = ρ i) ∧ am_pic cl SH D dA ρ1 h1 A t t.heap ∧ va_F A st t
/-- the contract of a call: w0 is the word of the method's code -/
def am_Met (cl : List vw_C) (SH : Nat → am_S) (ξ : Nat → Nat) (E : am_E) (EN : Nat → String) (l : Launch) (y : MethodName) (w0 : Cond) (d : Nat) (as : List Value) (h : am_H) (o : am_O) (h1 : am_H) : Prop :=
  am_wl h.1.1 as → ∀ (D : va_G) (dA : FieldType → ClassId) (ρ : Nat → Nat) (sz : Nat),
    vx_Met l y (w0 :: am_ts) (am_rm d (h1.1.2.2.1 - h.1.2.2.1) (h1.1.2.2.2 - h.1.2.2.2)) (am_Pc cl SH ξ E D dA ρ sz as h) (am_Qc cl SH ξ D dA ρ h.1.1 (am_AA cl SH ρ dA h sz) o h1) (am_XC cl SH EN D dA ρ h.1.1 (am_AA cl SH ρ dA h sz) o h1) (h1.1.2.2.1 - h.1.2.2.1) (h1.1.2.2.2 - h.1.2.2.2) (am_AA cl SH ρ dA h sz)
theorem vx_toMet {l : Launch} {y : MethodName} {ws : List Cond} {rm : Room} {Pc : Array Value → State → Prop} {Qc : Array Value → State → Outcome → State → Prop} {XC : String → State → State → Prop} {mc ms : Nat} {free : Addr → Prop} (h : vx_Met l y ws rm Pc Qc XC mc ms free) (hX : ∀ En st t, ¬ XC En st t) : Met l y ws rm Pc Qc mc ms free :=
  MetFree.mono h (fun _ _ q => q) (fun _ _ _ _ _ q => q) (fun a s o s' _ q => q.elim id (fun z => by
    obtain ⟨b, -, En, ce, L, hx, -⟩ := z
    exact absurd hx (hX _ _ _)))
theorem am_pic_move {cl : List vw_C} {SH : Nat → am_S} {D : va_G} {dA : FieldType → ClassId} {ρ : Nat → Nat} {h : am_H} {A B : Nat → Prop} {s U : State} {H : Heap} (hp : am_pic cl SH D dA ρ h A s H) (hv : s.vm.Alike U.vm) (hAB : ∀ q, A q → B q) : am_pic cl SH D dA ρ h B U H :=
  ⟨hp.1, hp.2.1.weaken (fun _ _ _ z => hAB _ z), va_K.moved hv hp.2.2.1, hp.2.2.2⟩
theorem am_AA_sub {cl : List vw_C} {SH : Nat → am_S} {D : va_G} {dA : FieldType → ClassId} {ρ : Nat → Nat} {h : am_H} {A : Nat → Prop} {s : State} {H0 H : Heap} {locs : List Loc} (hp : am_pic cl SH D dA ρ h A s H) (hS : va_S A H0 H locs) (hA : ∀ q, H0.size ≤ q → A q) : ∀ q, am_AA cl SH ρ dA h H.size q → A q := by
  intro q hq
  rcases hq with ⟨k, x, hk⟩ | hq
  · exact hp.2.1.2 k (q, x) hk
  · exact hA q (Nat.le_trans hS.1 hq)
/-- a callee's start, from the caller's world -/
theorem am_pre {cl : List vw_C} {SH : Nat → am_S} {ξ : Nat → Nat} {E : am_E} (hEk : am_Eok E) {D : va_G} {dA : FieldType → ClassId} {ρ : Nat → Nat} {as : List Value} {h : am_H} {A : Nat → Prop} {s : State} {H : Heap} {locs : List Loc}
    (hp : am_pic cl SH D dA ρ h A s H) (hS : va_S A s.heap H locs) (hA : ∀ q, s.heap.size ≤ q → A q) (hE : E s s.heap A) :
    FrameBlind (am_Pc cl SH ξ E D dA ρ H.size as h) ∧ ∀ U : State, U.heap = H → s.WarmedH U.vm → am_Pc cl SH ξ E D dA ρ H.size as h (as.map (am_cv ρ ξ)).toArray U := by
  refine ⟨fun a U g mk q => ?_, fun U hU hW => ?_⟩
  · obtain ⟨q1, q2, q3, q4⟩ := q
    exact ⟨q1, q2, am_pic_move (s := U) (U := U.calling g mk a) q3 (Vm.Alike.refl U.vm) (fun _ z => z), hEk.1 U (U.calling g mk a) _ _ q4 (State.WarmedH.refl U)⟩
  · refine ⟨rfl, by rw [hU], ?_, ?_⟩
    · rw [hU]
      exact ⟨hp.1, hp.2.1.self, va_K.moved hW.alike hp.2.2.1, hp.2.2.2⟩
    · rw [hU]
      exact hEk.1 s U _ _ (hEk.2.2 s H A _ (hEk.2.1 s s.heap H A hE hS.2.1) (am_AA_sub hp hS hA)) hW
section Back
variable {cl : List vw_C} {SH : Nat → am_S} {ξ : Nat → Nat} {D : va_G} {dA : FieldType → ClassId} {p : Program} {l : Launch} {e : Env} {R : Room} {s : State} {m : MethodId} {args : Array Value} {below : List Frame} {meth : Method} {c : Code} {Q : State → Prop} {A : Nat → Prop} {ρ0 ρ : Nat → Nat} {n0 bc bs nL pc : Nat}
variable {h h1 : am_H} {o : am_O} {EN : Nat → String} {H : Heap} {locs : List Loc} {jl : Array Slot} {ls st' : List Value} {st0 : List Value} {a : Array Value}
/-- an exception over the frame -/
def am_WX (cl : List vw_C) (SH : Nat → am_S) (D : va_G) (dA : FieldType → ClassId) (ξ : Nat → Nat) (EN : Nat → String) (p : Program) (l : Launch) (e : Env) (R : Room) (s : State) (m : MethodId) (args : Array Value) (below : List Frame) (meth : Method) (c : Code) (Q : State → Prop)
    (A : Nat → Prop) (ρ0 : Nat → Nat) (n0 bc bs nL : Nat) (pc : Nat) (ls st : List Value) (h : am_H) (x : Nat) : Prop :=
  ∀ (ρ : Nat → Nat) (H : Heap) (locs : List Loc) (jl : Array Slot) (q : Addr) (ce : Cell), am_pic cl SH D dA ρ h A s H → n0 ≤ h.1.1 → (∀ i, i < n0 → ρ i = ρ0 i) → va_S A s.heap H locs → am_lv ρ ξ nL ls jl → am_wl h.1.1 ls → am_wl h.1.1 st → bc ≤ h.1.2.2.1 → bs ≤ h.1.2.2.2 →
    H[q]? = some ce → ce.vm = .none → s.vm.findClass (EN x) = some ce.cls → vx_W p l e R s m args below meth c H locs (h.1.2.2.1 - bc) (h.1.2.2.2 - bs) Q (F0 m pc jl (st.map (am_cv ρ ξ))) q
theorem am_call_ret (hle : am_leH h h1) (hp : am_pic cl SH D dA ρ h A s H) (h0 : n0 ≤ h.1.1) (hr0 : ∀ i, i < n0 → ρ i = ρ0 i) (hS : va_S A s.heap H locs) (hA : ∀ q, s.heap.size ≤ q → A q) (hl : am_lv ρ ξ nL ls jl) (hwl : am_wl h.1.1 ls) (hws : am_wl h.1.1 st') (hbc : bc ≤ h.1.2.2.1) (hbs : bs ≤ h.1.2.2.2)
    (hr : va_Run p l e R s m args below meth c H locs (h.1.2.2.1 - bc) (h.1.2.2.2 - bs) (h1.1.2.2.1 - h.1.2.2.1) (h1.1.2.2.2 - h.1.2.2.2) (F0 m pc jl st0) (st'.map (am_cv ρ ξ)) (am_Qc cl SH ξ D dA ρ h.1.1 (am_AA cl SH ρ dA h H.size) o h1 a) (am_AA cl SH ρ dA h H.size))
    (kk : ∀ v, o = .inl v → am_W cl SH D dA ξ p l e R s m args below meth c Q A ρ0 n0 bc bs nL (pc + 3) ls (v.toList ++ st') h1) : W p l e R s m args below meth c H locs (h.1.2.2.1 - bc) (h.1.2.2.2 - bs) Q (F0 m pc jl st0) := by
  intro T hT X
  obtain ⟨v, st₀, t, T', L, g0, X', hL, e1, e2, ⟨v', ρ1, ho, hv, hρ, hpc, hwv, hF⟩, st⟩ := hr T hT X
  cases hv
  obtain ⟨k1, k2, k3⟩ := vx_keep g0 e1 hS (fun q _ z => am_AA_sub hp hS hA q z) (am_AA_sub hp hS hA) hL hF
  have hal : s.vm.Alike t.vm := by rw [← e2]; exact X'.warmed.alike
  have hpc2 : am_pic cl SH D dA ρ1 h1 A s T'.heap := by
    rw [e1]
    exact am_pic_move hpc hal.symm (am_AA_sub hp hS hA)
  have hw := kk v' ho ρ1 T'.heap (locs ++ L) jl hpc2 (Nat.le_trans h0 hle.1) (fun i hi => (hρ i (Nat.lt_of_lt_of_le hi h0)).trans (hr0 i hi)) k3 (hl.rho hwl hρ) (hwl.up hle.1) (fun w hw => (List.mem_append.mp hw).elim (hwv w) ((hws.up hle.1) w)) (Nat.le_trans hbc hle.2.1) (Nat.le_trans hbs hle.2.2)
  have e3 : h.1.2.2.1 - bc + (h1.1.2.2.1 - h.1.2.2.1) = h1.1.2.2.1 - bc := by have := hle.2.1; omega
  have e4 : h.1.2.2.2 - bs + (h1.1.2.2.2 - h.1.2.2.2) = h1.1.2.2.2 - bs := by have := hle.2.2; omega
  rw [e3, e4] at X'
  have e5 : (v'.toList ++ st').map (am_cv ρ1 ξ) = (v'.map (am_cv ρ1 ξ)).toList ++ st'.map (am_cv ρ ξ) := by
    rw [List.map_append, am_map_rho hws hρ]
    cases v' <;> rfl
  rw [e5] at hw
  obtain ⟨t2, a1, b1⟩ := hw T' rfl X'
  exact ⟨t2, st t2 a1, b1⟩
theorem am_call_thr (hle : am_leH h h1) (hp : am_pic cl SH D dA ρ h A s H) (h0 : n0 ≤ h.1.1) (hr0 : ∀ i, i < n0 → ρ i = ρ0 i) (hS : va_S A s.heap H locs) (hA : ∀ q, s.heap.size ≤ q → A q) (hl : am_lv ρ ξ nL ls jl) (hwl : am_wl h.1.1 ls) (hws : am_wl h.1.1 st') (hbc : bc ≤ h.1.2.2.1) (hbs : bs ≤ h.1.2.2.2)
    (hr : vx_Run p l e R s m args below meth c H locs (h.1.2.2.1 - bc) (h.1.2.2.2 - bs) (h1.1.2.2.1 - h.1.2.2.1) (h1.1.2.2.2 - h.1.2.2.2) (F0 m pc jl st0) (st'.map (am_cv ρ ξ)) (am_Qc cl SH ξ D dA ρ h.1.1 (am_AA cl SH ρ dA h H.size) o h1 a) (am_XC cl SH EN D dA ρ h.1.1 (am_AA cl SH ρ dA h H.size) o h1) (am_AA cl SH ρ dA h H.size))
    (x : Nat) (hx : o = .inr x) (kk : am_WX cl SH D dA ξ EN p l e R s m args below meth c Q A ρ0 n0 bc bs nL pc ls st' h1 x) : W p l e R s m args below meth c H locs (h.1.2.2.1 - bc) (h.1.2.2.2 - bs) Q (F0 m pc jl st0) := by
  intro T hT X
  rcases hr T hT X with ⟨v, st₀, t, T', L, g0, X', hL, e1, e2, ⟨v', ρ1, ho, -⟩, -⟩ | ⟨q, st₀, t, T', L, En, ce, g0, X', hL, e1, e2, ⟨x', ρ1, ho, hEn, hρ, hpc, hF⟩, hce, hcv, hcl, st⟩
  · rw [hx] at ho; cases ho
  · rw [hx] at ho
    cases ho
    subst hEn
    obtain ⟨k1, k2, k3⟩ := vx_keep g0 e1 hS (fun q _ z => am_AA_sub hp hS hA q z) (am_AA_sub hp hS hA) hL hF
    have hal : s.vm.Alike t.vm := by rw [← e2]; exact X'.warmed.alike
    have hpc2 : am_pic cl SH D dA ρ1 h1 A s T'.heap := by
      rw [e1]
      exact am_pic_move hpc hal.symm (am_AA_sub hp hS hA)
    have hw := kk ρ1 T'.heap (locs ++ L) jl q ce hpc2 (Nat.le_trans h0 hle.1) (fun i hi => (hρ i (Nat.lt_of_lt_of_le hi h0)).trans (hr0 i hi)) k3 (hl.rho hwl hρ) (hwl.up hle.1) (hws.up hle.1) (Nat.le_trans hbc hle.2.1) (Nat.le_trans hbs hle.2.2) (by rw [e1]; exact hce) hcv hcl
    have e3 : h.1.2.2.1 - bc + (h1.1.2.2.1 - h.1.2.2.1) = h1.1.2.2.1 - bc := by have := hle.2.1; omega
    have e4 : h.1.2.2.2 - bs + (h1.1.2.2.2 - h.1.2.2.2) = h1.1.2.2.2 - bs := by have := hle.2.2; omega
    rw [e3, e4] at X'
    rw [am_map_rho hws hρ] at hw
    obtain ⟨t2, a1, b1⟩ := hw T' rfl X'
    exact ⟨t2, st.trans a1, b1⟩
end Back
/-- an instruction that calls -/
def am_okC (cl : List vw_C) (SH : Nat → am_S) (ξ : Nat → Nat) (cc : ByteArray) (nL : Nat) (own nm : String) (E : am_E) (EN : Nat → String) (KD : Nat → MethodName × Cond) (ML : Nat → Nat) (pc : Nat) (f : am_F) : Prop :=
  ∀ (D : va_G) (dA : FieldType → ClassId) (p : Program) (l : Launch) (e : Env) (d : Nat) (R : Room) (s : State) (m : MethodId) (args : Array Value) (below : List Frame) (meth : Method) (c : Code) (Q : State → Prop) (A : Nat → Prop) (ρ0 : Nat → Nat) (n0 bc bs : Nat),
    am_X cc nL own nm p s m args meth c am_ts → 30 + (d + 1) ≤ R.frames → 500 + 60 * (d + 1) ≤ R.locals → am_Eok E → E s s.heap A → (∀ q, s.heap.size ≤ q → A q) → ∀ (ls st : List Value) (h : am_H) (r : am_R), f ls st h = some r →
      ∃ (k : Nat) (as st' : List Value), r = .inr (.inl (k, as, pc + 3, ls, st')) ∧ (am_wl h.1.1 st → am_wl h.1.1 as) ∧ as.length ≤ ML k ∧ (∀ v ∈ as, v.category = 1) ∧
        ∀ (o : am_O) (h1 : am_H), am_leH h h1 → h1.1.2.2.1 - bc ≤ R.cells → h1.1.2.2.2 - bs ≤ R.slots → (am_wl h.1.1 as → am_Met cl SH ξ E EN l (KD k).1 (KD k).2 d as h o h1) →
          (∀ v, o = .inl v → am_W cl SH D dA ξ p l e R s m args below meth c Q A ρ0 n0 bc bs nL (pc + 3) ls (v.toList ++ st') h1) →
          (∀ x, o = .inr x → am_WX cl SH D dA ξ EN p l e R s m args below meth c Q A ρ0 n0 bc bs nL pc ls st' h1 x) →
          am_W cl SH D dA ξ p l e R s m args below meth c Q A ρ0 n0 bc bs nL pc ls st h
theorem am_cat_map (ρ ξ : Nat → Nat) (l : List Value) : (l.map (am_cv ρ ξ)).map (fun v => v.category) = l.map (fun v => v.category) := by
  rw [List.map_map]
  exact List.map_congr_left (fun v _ => am_cv_cat ρ ξ v)
section Calls
variable {cl : List vw_C} {SH : Nat → am_S} {ξ : Nat → Nat} {cc : ByteArray} {nL : Nat} {own nm : String} {E : am_E} {EN : Nat → String} {KD : Nat → MethodName × Cond} {ML : Nat → Nat} {pc : Nat}
variable {y : MethodName} {bytes : ByteArray} {maxL n idx k : Nat} {ret : Option FieldType}
theorem am_wl_take {n j : Nat} {l : List Value} (h : am_wl n l) : am_wl n (l.take j).reverse := fun w hw => h w (List.mem_of_mem_take (List.mem_reverse.mp hw))
theorem am_wl_drop {n j : Nat} {l : List Value} (h : am_wl n l) : am_wl n (l.drop j) := fun w hw => h w (List.mem_of_mem_drop hw)
theorem am_c1_take {n : Nat} {st : List Value} (h : am_c1 (st.take n) = true) : ∀ v ∈ (st.take n).reverse, v.category = 1 := fun v hv => by
  have h1 := List.all_eq_true.mp h v (List.mem_reverse.mp hv)
  simpa using h1
theorem am_wl.head' {n : Nat} {v : Value} {l r : List Value} (h : am_wl n l) (e : l = v :: r) : am_wv n v := by rw [e] at h; exact h.head
theorem am_good_cons {w : Cond} (hw : w ∈ am_ts) {l : List Cond} (hl : GoodIn am_ts l) : GoodIn am_ts (w :: l) := fun x hx => (List.mem_cons.mp hx).elim (fun z => by rw [z]; exact am_ts_self w hw) (hl x)
theorem ok_invs (hc : Cond.code y bytes maxL ret ∈ am_ts) (hm : maxL ≤ 41) (hML : n ≤ ML k) (w1 : Cond.methodLink own idx y ∈ am_ts) (w2 : Cond.static y ∈ am_ts) (w3 : Cond.initialized y.cls ∈ am_ts)
    (hy : y.cls ≠ "java/lang/invoke/MethodHandle" ∧ y.cls ≠ "java/lang/invoke/VarHandle" ∧ (parseMethodDescriptor y.desc).map (fun d => d.parameters.length) = some n) (hKD : KD k = (y, Cond.code y bytes maxL ret))
    (hd : decode cc pc = .ok (.invokestatic idx, 3)) : am_okC cl SH ξ cc nL own nm E EN KD ML pc (im_invs k n (pc + 3)) := by
  intro D dA p l e d R s m args below meth c Q A ρ0 n0 bc bs X hRf hRl hEk hE hA ls st h r hf
  obtain ⟨hx, hb, hml, hown, hnm, hts⟩ := id X
  unfold im_invs at hf
  split at hf
  · rename_i hcnd
    obtain ⟨hlen, hcat, hc1⟩ := hcnd
    cases hf
    refine ⟨_, _, _, rfl, am_wl_take, by simp; omega, am_c1_take hc1, fun o h1 hle hmc hms hM kv kx ρ H locs jl hp h0 hr hS hl hwl hws hbc hbs => ?_⟩
    have hM := hM (am_wl_take hws) (am_wl_take hws) D dA ρ H.size
    rw [hKD] at hM
    have hst : st.map (am_cv ρ ξ) = (((st.take n).reverse).map (am_cv ρ ξ)).reverse ++ (st.drop n).map (am_cv ρ ξ) := by
      rw [List.map_reverse, List.reverse_reverse, ← List.map_append, List.take_append_drop]
    have hcat2 : (((st.drop n).map (am_cv ρ ξ)).map fun v => v.category).sum ≤ 8 := by rw [am_cat_map]; exact hcat
    have hpre := am_pre (as := (st.take n).reverse) (ξ := ξ) hEk hp hS hA hE
    have hsub := am_AA_sub hp hS hA
    have e5 := hle.2.1
    have e6 := hle.2.2
    have cw := va_cwS (R := R) (s := s) (args := args) (rm := am_rm d (h1.1.2.2.1 - h.1.2.2.1) (h1.1.2.2.2 - h.1.2.2.2)) (Ts := am_ts) (ws := Cond.code y bytes maxL ret :: am_ts) n hts (am_good_cons w1 (am_good_cons w2 (am_good_cons w3 (am_good_cons hc am_ts_self)))) rfl rfl rfl hy ⟨by show 30 + d + 1 ≤ R.frames; omega, by show 8 + (maxL + 11) + (500 + 60 * d) ≤ R.locals; omega⟩
    cases o with
    | inl v =>
      exact am_call_ret hle hp h0 hr hS hA hl hwl (am_wl_drop hws) hbc hbs (va_runS (As := ((st.take n).reverse).map (am_cv ρ ξ)) ⟨hx, hb, hml, hown, hts⟩ (vx_toMet hM (fun En st t z => by obtain ⟨x, ρ1, ho, -⟩ := z; cases ho)) cw hpre rfl (by simp; omega) (hl.2.1) hst (lv_room hcat2) hd ⟨by show h.1.2.2.1 - bc + (h1.1.2.2.1 - h.1.2.2.1) ≤ R.cells; omega, by show h.1.2.2.2 - bs + (h1.1.2.2.2 - h.1.2.2.2) ≤ R.slots; omega⟩) kv
    | inr x =>
      exact am_call_thr hle hp h0 hr hS hA hl hwl (am_wl_drop hws) hbc hbs (vx_runS (As := ((st.take n).reverse).map (am_cv ρ ξ)) ⟨hx, hb, hml, hown, hts⟩ hM cw hpre rfl (by simp; omega) (hl.2.1) hst (lv_room hcat2) hd ⟨by show h.1.2.2.1 - bc + (h1.1.2.2.1 - h.1.2.2.1) ≤ R.cells; omega, by show h.1.2.2.2 - bs + (h1.1.2.2.2 - h.1.2.2.2) ≤ R.slots; omega⟩) x rfl (kx x rfl)
  · cases hf
theorem ok_inv {ci N : Nat} {T : u_T} (hcl : cl[ci]? = some (y.cls, T, N)) (hc : Cond.code y bytes maxL ret ∈ am_ts) (hm : maxL ≤ 41) (hML : n + 1 ≤ ML k) (w1 : Cond.methodLink own idx y ∈ am_ts) (w2 : Cond.instanceMethod y ∈ am_ts) (w4 : Cond.selects y.cls y y ∈ am_ts) (w3 : Cond.initialized y.cls ∈ am_ts)
    (hy : y.cls ≠ "java/lang/invoke/MethodHandle" ∧ y.cls ≠ "java/lang/invoke/VarHandle" ∧ (parseMethodDescriptor y.desc).map (fun d => d.parameters.length) = some n) (hKD : KD k = (y, Cond.code y bytes maxL ret))
    (hd : decode cc pc = .ok (.invokevirtual idx, 3)) : am_okC cl SH ξ cc nL own nm E EN KD ML pc (im_inv SH ci k n (pc + 3)) := by
  intro D dA p l e d R s m args below meth c Q A ρ0 n0 bc bs X hRf hRl hEk hE hA ls st h r hf
  obtain ⟨hx, hb, hml, hown, hnm, hts⟩ := id X
  unfold im_inv at hf
  split at hf
  · split at hf
    · rename_i i r9 hdrop hcnd
      obtain ⟨hlen, hcat, hsh, hc1⟩ := hcnd
      cases hf
      refine ⟨_, _, _, rfl, fun hw => am_wl.cons ((am_wl_drop (j := n) hw).head' hdrop) (am_wl_take hw), by simp; omega, fun v hv => (List.mem_cons.mp hv).elim (fun z => by rw [z]; rfl) (am_c1_take hc1 v), fun o h1 hle hmc hms hM kv kx ρ H locs jl hp h0 hr hS hl hwl hws hbc hbs => ?_⟩
      have hwd : am_wl h.1.1 (.ref i :: r9) := by rw [← hdrop]; exact am_wl_drop hws
      have hwas : am_wl h.1.1 (.ref i :: (st.take n).reverse) := am_wl.cons hwd.head (am_wl_take hws)
      have hM := hM hwas hwas D dA ρ H.size
      rw [hKD] at hM
      have hst : st.map (am_cv ρ ξ) = (((st.take n).reverse).map (am_cv ρ ξ)).reverse ++ .ref (ρ i) :: r9.map (am_cv ρ ξ) := by
        rw [List.map_reverse, List.reverse_reverse, show Value.ref (ρ i) :: r9.map (am_cv ρ ξ) = (Value.ref i :: r9).map (am_cv ρ ξ) from rfl, ← List.map_append, ← hdrop, List.take_append_drop]
      have hcat2 : ((r9.map (am_cv ρ ξ)).map fun v => v.category).sum ≤ 8 := by rw [am_cat_map]; exact hcat
      have hpre := am_pre (as := .ref i :: (st.take n).reverse) (ξ := ξ) hEk hp hS hA hE
      have hsub := am_AA_sub hp hS hA
      have e5 := hle.2.1
      have e6 := hle.2.2
      have hg := am_ws_get (cl := cl) (SH := SH) (ρ := ρ) (dA := dA) (hwd.head i rfl)
      rw [am_ce_o hsh] at hg
      have hrc := va_recv hp.2.2.1 hp.1 hcl hg
      have cw := cwV (R := R) (s := s) (args := args) (C := y.cls) (rm := am_rm d (h1.1.2.2.1 - h.1.2.2.1) (h1.1.2.2.2 - h.1.2.2.2)) (Ts := am_ts) (ws := Cond.code y bytes maxL ret :: am_ts) n hts (am_good_cons w1 (am_good_cons w2 (am_good_cons w4 (am_good_cons w3 (am_good_cons hc am_ts_self))))) rfl rfl rfl ⟨rfl, hy⟩ ⟨by show 30 + d + 1 ≤ R.frames; omega, by show 8 + (maxL + 11) + (500 + 60 * d) ≤ R.locals; omega⟩
      cases o with
      | inl v =>
        exact am_call_ret hle hp h0 hr hS hA hl hwl hwd.tail hbc hbs (va_runV (As := ((st.take n).reverse).map (am_cv ρ ξ)) (C := y.cls) (b := ρ i) ⟨hx, hb, hml, hown, hts⟩ (vx_toMet hM (fun En st t z => by obtain ⟨x, ρ1, ho, -⟩ := z; cases ho)) cw ⟨hpre.1, hrc, hpre.2⟩ rfl (by simp; omega) (hl.2.1) hst (lv_room hcat2) hd ⟨by show h.1.2.2.1 - bc + (h1.1.2.2.1 - h.1.2.2.1) ≤ R.cells; omega, by show h.1.2.2.2 - bs + (h1.1.2.2.2 - h.1.2.2.2) ≤ R.slots; omega⟩) kv
      | inr x =>
        exact am_call_thr hle hp h0 hr hS hA hl hwl hwd.tail hbc hbs (vx_runV (As := ((st.take n).reverse).map (am_cv ρ ξ)) (C := y.cls) (b := ρ i) ⟨hx, hb, hml, hown, hts⟩ hM cw ⟨hpre.1, hrc, hpre.2⟩ rfl (by simp; omega) (hl.2.1) hst (lv_room hcat2) hd ⟨by show h.1.2.2.1 - bc + (h1.1.2.2.1 - h.1.2.2.1) ≤ R.cells; omega, by show h.1.2.2.2 - bs + (h1.1.2.2.2 - h.1.2.2.2) ≤ R.slots; omega⟩) x rfl (kx x rfl)
    · cases hf
  · cases hf
theorem ok_invI {ci N : Nat} {T : u_T} (hcl : cl[ci]? = some (y.cls, T, N)) (hc : Cond.code y bytes maxL none ∈ am_ts) (hm : maxL ≤ 41) (hML : n + 1 ≤ ML k) (w1 : Cond.methodLink own idx y ∈ am_ts) (w2 : Cond.instanceMethod y ∈ am_ts) (hi : y.name = "<init>") (w3 : Cond.initialized y.cls ∈ am_ts)
    (hy : y.cls ≠ "java/lang/invoke/MethodHandle" ∧ y.cls ≠ "java/lang/invoke/VarHandle" ∧ (parseMethodDescriptor y.desc).map (fun d => d.parameters.length) = some n) (hKD : KD k = (y, Cond.code y bytes maxL none))
    (hd : decode cc pc = .ok (.invokespecial idx, 3)) : am_okC cl SH ξ cc nL own nm E EN KD ML pc (im_inv SH ci k n (pc + 3)) := by
  intro D dA p l e d R s m args below meth c Q A ρ0 n0 bc bs X hRf hRl hEk hE hA ls st h r hf
  obtain ⟨hx, hb, hml, hown, hnm, hts⟩ := id X
  unfold im_inv at hf
  split at hf
  · split at hf
    · rename_i i r9 hdrop hcnd
      obtain ⟨hlen, hcat, hsh, hc1⟩ := hcnd
      cases hf
      refine ⟨_, _, _, rfl, fun hw => am_wl.cons ((am_wl_drop (j := n) hw).head' hdrop) (am_wl_take hw), by simp; omega, fun v hv => (List.mem_cons.mp hv).elim (fun z => by rw [z]; rfl) (am_c1_take hc1 v), fun o h1 hle hmc hms hM kv kx ρ H locs jl hp h0 hr hS hl hwl hws hbc hbs => ?_⟩
      have hwd : am_wl h.1.1 (.ref i :: r9) := by rw [← hdrop]; exact am_wl_drop hws
      have hwas : am_wl h.1.1 (.ref i :: (st.take n).reverse) := am_wl.cons hwd.head (am_wl_take hws)
      have hM := hM hwas hwas D dA ρ H.size
      rw [hKD] at hM
      have hst : st.map (am_cv ρ ξ) = (((st.take n).reverse).map (am_cv ρ ξ)).reverse ++ .ref (ρ i) :: r9.map (am_cv ρ ξ) := by
        rw [List.map_reverse, List.reverse_reverse, show Value.ref (ρ i) :: r9.map (am_cv ρ ξ) = (Value.ref i :: r9).map (am_cv ρ ξ) from rfl, ← List.map_append, ← hdrop, List.take_append_drop]
      have hcat2 : ((r9.map (am_cv ρ ξ)).map fun v => v.category).sum ≤ 8 := by rw [am_cat_map]; exact hcat
      have hpre := am_pre (as := .ref i :: (st.take n).reverse) (ξ := ξ) hEk hp hS hA hE
      have hsub := am_AA_sub hp hS hA
      have e5 := hle.2.1
      have e6 := hle.2.2
      have hg := am_ws_get (cl := cl) (SH := SH) (ρ := ρ) (dA := dA) (hwd.head i rfl)
      rw [am_ce_o hsh] at hg
      have hrc := va_recv hp.2.2.1 hp.1 hcl hg
      have cw := cwI (R := R) (s := s) (args := args) (rm := am_rm d (h1.1.2.2.1 - h.1.2.2.1) (h1.1.2.2.2 - h.1.2.2.2)) (Ts := am_ts) (ws := Cond.code y bytes maxL none :: am_ts) n hts (am_good_cons hc am_ts_self) rfl rfl rfl (hts _ w3) (hts _ w1) (hts _ w2) hi hy ⟨by show 30 + d + 1 ≤ R.frames; omega, by show 8 + (maxL + 11) + (500 + 60 * d) ≤ R.locals; omega⟩
      cases o with
      | inl v =>
        exact am_call_ret hle hp h0 hr hS hA hl hwl hwd.tail hbc hbs (va_runI (As := ((st.take n).reverse).map (am_cv ρ ξ)) (b := ρ i) ⟨hx, hb, hml, hown, hts⟩ (vx_toMet hM (fun En st t z => by obtain ⟨x, ρ1, ho, -⟩ := z; cases ho)) cw hpre rfl (by simp; omega) (hl.2.1) hst (lv_room hcat2) hd ⟨by show h.1.2.2.1 - bc + (h1.1.2.2.1 - h.1.2.2.1) ≤ R.cells; omega, by show h.1.2.2.2 - bs + (h1.1.2.2.2 - h.1.2.2.2) ≤ R.slots; omega⟩) kv
      | inr x =>
        exact am_call_thr hle hp h0 hr hS hA hl hwl hwd.tail hbc hbs (vx_runI (As := ((st.take n).reverse).map (am_cv ρ ξ)) (b := ρ i) ⟨hx, hb, hml, hown, hts⟩ hM cw hpre rfl (by simp; omega) (hl.2.1) hst (lv_room hcat2) hd ⟨by show h.1.2.2.1 - bc + (h1.1.2.2.1 - h.1.2.2.1) ≤ R.cells; omega, by show h.1.2.2.2 - bs + (h1.1.2.2.2 - h.1.2.2.2) ≤ R.slots; omega⟩) x rfl (kx x rfl)
    · cases hf
  · cases hf
theorem ok_invIN {host : String} {ci N : Nat} {T : u_T} (hcl : cl[ci]? = some (y.cls, T, N)) (hc : Cond.code y bytes maxL none ∈ am_ts) (hm : maxL ≤ 41) (hML : n + 1 ≤ ML k) (w1 : ∀ s H A, E s H A → va_Nw (.methodLinkNest own idx y host) s) (w2 : Cond.instanceMethod y ∈ am_ts) (hi : y.name = "<init>") (w3 : Cond.initialized y.cls ∈ am_ts)
    (hy : y.cls ≠ "java/lang/invoke/MethodHandle" ∧ y.cls ≠ "java/lang/invoke/VarHandle" ∧ (parseMethodDescriptor y.desc).map (fun d => d.parameters.length) = some n) (hKD : KD k = (y, Cond.code y bytes maxL none))
    (hd : decode cc pc = .ok (.invokespecial idx, 3)) : am_okC cl SH ξ cc nL own nm E EN KD ML pc (im_inv SH ci k n (pc + 3)) := by
  intro D dA p l e d R s m args below meth c Q A ρ0 n0 bc bs X hRf hRl hEk hE hA ls st h r hf
  obtain ⟨hx, hb, hml, hown, hnm, hts⟩ := id X
  unfold im_inv at hf
  split at hf
  · split at hf
    · rename_i i r9 hdrop hcnd
      obtain ⟨hlen, hcat, hsh, hc1⟩ := hcnd
      cases hf
      refine ⟨_, _, _, rfl, fun hw => am_wl.cons ((am_wl_drop (j := n) hw).head' hdrop) (am_wl_take hw), by simp; omega, fun v hv => (List.mem_cons.mp hv).elim (fun z => by rw [z]; rfl) (am_c1_take hc1 v), fun o h1 hle hmc hms hM kv kx ρ H locs jl hp h0 hr hS hl hwl hws hbc hbs => ?_⟩
      have hwd : am_wl h.1.1 (.ref i :: r9) := by rw [← hdrop]; exact am_wl_drop hws
      have hwas : am_wl h.1.1 (.ref i :: (st.take n).reverse) := am_wl.cons hwd.head (am_wl_take hws)
      have hM := hM hwas hwas D dA ρ H.size
      rw [hKD] at hM
      have hst : st.map (am_cv ρ ξ) = (((st.take n).reverse).map (am_cv ρ ξ)).reverse ++ .ref (ρ i) :: r9.map (am_cv ρ ξ) := by
        rw [List.map_reverse, List.reverse_reverse, show Value.ref (ρ i) :: r9.map (am_cv ρ ξ) = (Value.ref i :: r9).map (am_cv ρ ξ) from rfl, ← List.map_append, ← hdrop, List.take_append_drop]
      have hcat2 : ((r9.map (am_cv ρ ξ)).map fun v => v.category).sum ≤ 8 := by rw [am_cat_map]; exact hcat
      have hpre := am_pre (as := .ref i :: (st.take n).reverse) (ξ := ξ) hEk hp hS hA hE
      have hsub := am_AA_sub hp hS hA
      have e5 := hle.2.1
      have e6 := hle.2.2
      have hg := am_ws_get (cl := cl) (SH := SH) (ρ := ρ) (dA := dA) (hwd.head i rfl)
      rw [am_ce_o hsh] at hg
      have hrc := va_recv hp.2.2.1 hp.1 hcl hg
      have cw0 := va_cnB (R := R) (s := s) (args := args) (rm := am_rm d (h1.1.2.2.1 - h.1.2.2.1) (h1.1.2.2.2 - h.1.2.2.2)) (Ts := am_ts) (ws := Cond.code y bytes maxL none :: am_ts) n hts (am_good_cons hc am_ts_self) rfl rfl rfl (w1 _ _ _ hE) (hts _ w3) hy ⟨by show 30 + d + 1 ≤ R.frames; omega, by show 8 + (maxL + 11) + (500 + 60 * d) ≤ R.locals; omega⟩
      have cw := And.intro cw0 (And.intro hi (hts _ w2))
      cases o with
      | inl v =>
        exact am_call_ret hle hp h0 hr hS hA hl hwl hwd.tail hbc hbs (va_runIN (As := ((st.take n).reverse).map (am_cv ρ ξ)) (b := ρ i) ⟨hx, hb, hml, hown, hts⟩ (vx_toMet hM (fun En st t z => by obtain ⟨x, ρ1, ho, -⟩ := z; cases ho)) cw hpre rfl (by simp; omega) (hl.2.1) hst (lv_room hcat2) hd ⟨by show h.1.2.2.1 - bc + (h1.1.2.2.1 - h.1.2.2.1) ≤ R.cells; omega, by show h.1.2.2.2 - bs + (h1.1.2.2.2 - h.1.2.2.2) ≤ R.slots; omega⟩) kv
      | inr x =>
        exact am_call_thr hle hp h0 hr hS hA hl hwl hwd.tail hbc hbs (vx_runIN (As := ((st.take n).reverse).map (am_cv ρ ξ)) (b := ρ i) ⟨hx, hb, hml, hown, hts⟩ hM cw hpre rfl (by simp; omega) (hl.2.1) hst (lv_room hcat2) hd ⟨by show h.1.2.2.1 - bc + (h1.1.2.2.1 - h.1.2.2.1) ≤ R.cells; omega, by show h.1.2.2.2 - bs + (h1.1.2.2.2 - h.1.2.2.2) ≤ R.slots; omega⟩) x rfl (kx x rfl)
    · cases hf
  · cases hf
/-- a static method with handlers, which returns -/
theorem ok_invsW {hh : List (Nat × Nat × Nat × Nat)} (hc : Cond.codeWith y bytes maxL ret hh ∈ am_ts) (hm : maxL ≤ 41) (hML : n ≤ ML k) (w1 : Cond.methodLink own idx y ∈ am_ts) (w2 : Cond.static y ∈ am_ts) (w3 : Cond.initialized y.cls ∈ am_ts)
    (hy : y.cls ≠ "java/lang/invoke/MethodHandle" ∧ y.cls ≠ "java/lang/invoke/VarHandle" ∧ (parseMethodDescriptor y.desc).map (fun d => d.parameters.length) = some n) (hKD : KD k = (y, Cond.codeWith y bytes maxL ret hh))
    (hd : decode cc pc = .ok (.invokestatic idx, 3)) : am_okC cl SH ξ cc nL own nm E EN KD ML pc (im_invs k n (pc + 3)) := by
  intro D dA p l e d R s m args below meth c Q A ρ0 n0 bc bs X hRf hRl hEk hE hA ls st h r hf
  obtain ⟨hx, hb, hml, hown, hnm, hts⟩ := id X
  unfold im_invs at hf
  split at hf
  · rename_i hcnd
    obtain ⟨hlen, hcat, hc1⟩ := hcnd
    cases hf
    refine ⟨_, _, _, rfl, am_wl_take, by simp; omega, am_c1_take hc1, fun o h1 hle hmc hms hM kv kx ρ H locs jl hp h0 hr hS hl hwl hws hbc hbs => ?_⟩
    have hM := hM (am_wl_take hws) (am_wl_take hws) D dA ρ H.size
    rw [hKD] at hM
    have hst : st.map (am_cv ρ ξ) = (((st.take n).reverse).map (am_cv ρ ξ)).reverse ++ (st.drop n).map (am_cv ρ ξ) := by
      rw [List.map_reverse, List.reverse_reverse, ← List.map_append, List.take_append_drop]
    have hcat2 : (((st.drop n).map (am_cv ρ ξ)).map fun v => v.category).sum ≤ 8 := by rw [am_cat_map]; exact hcat
    have hpre := am_pre (as := (st.take n).reverse) (ξ := ξ) hEk hp hS hA hE
    have e5 := hle.2.1
    have e6 := hle.2.2
    have cw := vx_cwSW (R := R) (s := s) (args := args) (rm := am_rm d (h1.1.2.2.1 - h.1.2.2.1) (h1.1.2.2.2 - h.1.2.2.2)) (Ts := am_ts) (ws := Cond.codeWith y bytes maxL ret hh :: am_ts) n hts (am_good_cons w1 (am_good_cons w2 (am_good_cons w3 (am_good_cons hc am_ts_self)))) rfl rfl rfl hy ⟨by show 30 + d + 1 ≤ R.frames; omega, by show 8 + (maxL + 11) + (500 + 60 * d) ≤ R.locals; omega⟩
    cases o with
    | inl v =>
      exact am_call_ret hle hp h0 hr hS hA hl hwl (am_wl_drop hws) hbc hbs (vx_runSW (As := ((st.take n).reverse).map (am_cv ρ ξ)) ⟨hx, hb, hml, hown, hts⟩ (vx_toMet hM (fun En st t z => by obtain ⟨x, ρ1, ho, -⟩ := z; cases ho)) cw hpre rfl (by simp; omega) (hl.2.1) hst (lv_room hcat2) hd ⟨by show h.1.2.2.1 - bc + (h1.1.2.2.1 - h.1.2.2.1) ≤ R.cells; omega, by show h.1.2.2.2 - bs + (h1.1.2.2.2 - h.1.2.2.2) ≤ R.slots; omega⟩) kv
    | inr x =>
      exact am_call_thr hle hp h0 hr hS hA hl hwl (am_wl_drop hws) hbc hbs (vx_runSX (As := ((st.take n).reverse).map (am_cv ρ ξ)) ⟨hx, hb, hml, hown, hts⟩ hM cw hpre rfl (by simp; omega) (hl.2.1) hst (lv_room hcat2) hd ⟨by show h.1.2.2.1 - bc + (h1.1.2.2.1 - h.1.2.2.1) ≤ R.cells; omega, by show h.1.2.2.2 - bs + (h1.1.2.2.2 - h.1.2.2.2) ≤ R.slots; omega⟩) x rfl (kx x rfl)
  · cases hf
end Calls


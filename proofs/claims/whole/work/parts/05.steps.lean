/-! ===== instructions that go on in their method ===== -/
/-- an instruction f at pc that goes on -/
def am_okN (cl : List vw_C) (SH : Nat → am_S) (ξ : Nat → Nat) (cc : ByteArray) (nL : Nat) (own nm : String) (Ts : List Cond) (E : State → Heap → (Nat → Prop) → Prop) (pc : Nat) (f : am_F) : Prop :=
  ∀ (D : va_G) (dA : FieldType → ClassId) (p : Program) (l : Launch) (e : Env) (R : Room) (s : State) (m : MethodId) (args : Array Value) (below : List Frame) (meth : Method) (c : Code) (Q : State → Prop) (A : Nat → Prop) (ρ0 : Nat → Nat) (n0 bc bs : Nat),
    am_X cc nL own nm p s m args meth c Ts → 30 ≤ R.frames → 500 ≤ R.locals → E s s.heap A → (∀ q, s.heap.size ≤ q → A q) → ∀ (ls st : List Value) (h : am_H) (r : am_R), f ls st h = some r →
      ∃ (pc' : Nat) (ls' st' : List Value) (h' : am_H), r = .inl (pc', ls', st', h') ∧ h.1.2.2.1 ≤ h'.1.2.2.1 ∧ h.1.2.2.2 ≤ h'.1.2.2.2 ∧
        (h'.1.2.2.1 - bc ≤ R.cells → h'.1.2.2.2 - bs ≤ R.slots → am_W cl SH D dA ξ p l e R s m args below meth c Q A ρ0 n0 bc bs nL pc' ls' st' h' → am_W cl SH D dA ξ p l e R s m args below meth c Q A ρ0 n0 bc bs nL pc ls st h)
section Steps
variable {cl : List vw_C} {SH : Nat → am_S} {ξ : Nat → Nat} {cc : ByteArray} {nL : Nat} {own nm : String} {Ts : List Cond} {E : State → Heap → (Nat → Prop) → Prop} {pc : Nat}
def im_ic (v : Int32) (t : Nat) : am_F := fun ls st h => some (.inl (t, ls, .int v :: st, h))
def im_lc (v : Int64) (t : Nat) : am_F := fun ls st h => some (.inl (t, ls, .long v :: st, h))
theorem ok_iconst {n : Int} {v : Int32} (hv : Int32.ofInt n = v) (hd : decode cc pc = .ok (.iconst n, 1)) : am_okN cl SH ξ cc nL own nm Ts E pc (im_ic v (pc + 1)) := by
  intro D dA p l e R s m args below meth c Q A ρ0 n0 bc bs X hRf hRl hE hA ls st h r hf
  obtain ⟨hx, hb, hml, hown, hnm, hts⟩ := id X
  cases hf
  refine ⟨_, _, _, _, rfl, Nat.le_refl _, Nat.le_refl _, fun _ _ hk ρ H locs jl hp h0 hr hS hl hwl hws hbc hbs => ?_⟩
  exact lv_iconst hx hb hd hv (hk ρ H locs jl hp h0 hr hS hl hwl (am_wl.cons am_wv.int hws) hbc hbs)

theorem ok_bipush {n : Int} {v : Int32} (hv : (Int8.ofInt n).toInt32 = v) (hd : decode cc pc = .ok (.bipush n, 2)) : am_okN cl SH ξ cc nL own nm Ts E pc (im_ic v (pc + 2)) := by
  intro D dA p l e R s m args below meth c Q A ρ0 n0 bc bs X hRf hRl hE hA ls st h r hf
  obtain ⟨hx, hb, hml, hown, hnm, hts⟩ := id X
  cases hf
  refine ⟨_, _, _, _, rfl, Nat.le_refl _, Nat.le_refl _, fun _ _ hk ρ H locs jl hp h0 hr hS hl hwl hws hbc hbs => ?_⟩
  exact lv_bipush hx hb hd hv (hk ρ H locs jl hp h0 hr hS hl hwl (am_wl.cons am_wv.int hws) hbc hbs)

theorem ok_sipush {n : Int} {v : Int32} (hv : (Int16.ofInt n).toInt32 = v) (hd : decode cc pc = .ok (.sipush n, 3)) : am_okN cl SH ξ cc nL own nm Ts E pc (im_ic v (pc + 3)) := by
  intro D dA p l e R s m args below meth c Q A ρ0 n0 bc bs X hRf hRl hE hA ls st h r hf
  obtain ⟨hx, hb, hml, hown, hnm, hts⟩ := id X
  cases hf
  refine ⟨_, _, _, _, rfl, Nat.le_refl _, Nat.le_refl _, fun _ _ hk ρ H locs jl hp h0 hr hS hl hwl hws hbc hbs => ?_⟩
  exact lv_sipush hx hb hd hv (hk ρ H locs jl hp h0 hr hS hl hwl (am_wl.cons am_wv.int hws) hbc hbs)

theorem ok_lconst {n : Fin 2} {v : Int64} (hv : Int64.ofNat (n : Nat) = v) (hd : decode cc pc = .ok (.lconst n, 1)) : am_okN cl SH ξ cc nL own nm Ts E pc (im_lc v (pc + 1)) := by
  intro D dA p l e R s m args below meth c Q A ρ0 n0 bc bs X hRf hRl hE hA ls st h r hf
  obtain ⟨hx, hb, hml, hown, hnm, hts⟩ := id X
  cases hf
  refine ⟨_, _, _, _, rfl, Nat.le_refl _, Nat.le_refl _, fun _ _ hk ρ H locs jl hp h0 hr hS hl hwl hws hbc hbs => ?_⟩
  exact lv_lconst hx hb hd hv (hk ρ H locs jl hp h0 hr hS hl hwl (am_wl.cons am_wv.long hws) hbc hbs)

theorem ok_ldc {n : Nat} {v : Int32} (hc : Cond.constant own n v ∈ Ts) (hd : decode cc pc = .ok (.ldc n, 2)) : am_okN cl SH ξ cc nL own nm Ts E pc (im_ic v (pc + 2)) := by
  intro D dA p l e R s m args below meth c Q A ρ0 n0 bc bs X hRf hRl hE hA ls st h r hf
  obtain ⟨hx, hb, hml, hown, hnm, hts⟩ := id X
  cases hf
  refine ⟨_, _, _, _, rfl, Nat.le_refl _, Nat.le_refl _, fun _ _ hk ρ H locs jl hp h0 hr hS hl hwl hws hbc hbs => ?_⟩
  exact lv_ldc hx hb hown (hts _ hc) hd (hk ρ H locs jl hp h0 hr hS hl hwl (am_wl.cons am_wv.int hws) hbc hbs)

theorem ok_ldcw {n : Nat} {v : Int32} (hc : Cond.constant own n v ∈ Ts) (hd : decode cc pc = .ok (.ldc_w n, 3)) : am_okN cl SH ξ cc nL own nm Ts E pc (im_ic v (pc + 3)) := by
  intro D dA p l e R s m args below meth c Q A ρ0 n0 bc bs X hRf hRl hE hA ls st h r hf
  obtain ⟨hx, hb, hml, hown, hnm, hts⟩ := id X
  cases hf
  refine ⟨_, _, _, _, rfl, Nat.le_refl _, Nat.le_refl _, fun _ _ hk ρ H locs jl hp h0 hr hS hl hwl hws hbc hbs => ?_⟩
  exact lv_ldcw hx hb hown (hts _ hc) hd (hk ρ H locs jl hp h0 hr hS hl hwl (am_wl.cons am_wv.int hws) hbc hbs)

theorem ok_ldc2 {n : Nat} {v : Int64} (hc : Cond.constantLong own n v ∈ Ts) (hd : decode cc pc = .ok (.ldc2_w n, 3)) : am_okN cl SH ξ cc nL own nm Ts E pc (im_lc v (pc + 3)) := by
  intro D dA p l e R s m args below meth c Q A ρ0 n0 bc bs X hRf hRl hE hA ls st h r hf
  obtain ⟨hx, hb, hml, hown, hnm, hts⟩ := id X
  cases hf
  refine ⟨_, _, _, _, rfl, Nat.le_refl _, Nat.le_refl _, fun _ _ hk ρ H locs jl hp h0 hr hS hl hwl hws hbc hbs => ?_⟩
  exact lv_ldc2 hx hb hown (hts _ hc) hd (hk ρ H locs jl hp h0 hr hS hl hwl (am_wl.cons am_wv.long hws) hbc hbs)

def im_il (j t : Nat) : am_F := fun ls st h => match ls[j]? with
  | some (.int x) => some (.inl (t, ls, .int x :: st, h))
  | _ => none
def im_ll (j t : Nat) : am_F := fun ls st h => match ls[j]? with
  | some (.long x) => some (.inl (t, ls, .long x :: st, h))
  | _ => none
def im_al (j t : Nat) : am_F := fun ls st h => match ls[j]? with
  | some (.ref x) => some (.inl (t, ls, .ref x :: st, h))
  | some (.retAddr (x + 1)) => some (.inl (t, ls, .retAddr (x + 1) :: st, h))
  | _ => none
theorem ok_iload {j : Nat} (hd : decode cc pc = .ok (.iload j, 2)) : am_okN cl SH ξ cc nL own nm Ts E pc (im_il j (pc + 2)) := by
  intro D dA p l e R s m args below meth c Q A ρ0 n0 bc bs X hRf hRl hE hA ls st h r hf
  obtain ⟨hx, hb, hml, hown, hnm, hts⟩ := id X
  unfold im_il at hf
  split at hf
  · rename_i x hj
    cases hf
    refine ⟨_, _, _, _, rfl, Nat.le_refl _, Nat.le_refl _, fun _ _ hk ρ H locs jl hp h0 hr hS hl hwl hws hbc hbs => ?_⟩
    exact lv_iload hx hb hd (hl.2.2.2 _ _ hj (fun z => by cases z)) (hk ρ H locs jl hp h0 hr hS hl hwl (am_wl.cons am_wv.int hws) hbc hbs)
  · cases hf

theorem ok_iload_n {k : Fin 4} {j : Nat} (hk0 : (k : Nat) = j) (hd : decode cc pc = .ok (.iload_n k, 1)) : am_okN cl SH ξ cc nL own nm Ts E pc (im_il j (pc + 1)) := by
  intro D dA p l e R s m args below meth c Q A ρ0 n0 bc bs X hRf hRl hE hA ls st h r hf
  obtain ⟨hx, hb, hml, hown, hnm, hts⟩ := id X
  unfold im_il at hf
  split at hf
  · rename_i x hj
    cases hf
    refine ⟨_, _, _, _, rfl, Nat.le_refl _, Nat.le_refl _, fun _ _ hk ρ H locs jl hp h0 hr hS hl hwl hws hbc hbs => ?_⟩
    exact lv_iload_n hx hb hd hk0 (hl.2.2.2 _ _ hj (fun z => by cases z)) (hk ρ H locs jl hp h0 hr hS hl hwl (am_wl.cons am_wv.int hws) hbc hbs)
  · cases hf

theorem ok_lload {j : Nat} (hd : decode cc pc = .ok (.lload j, 2)) : am_okN cl SH ξ cc nL own nm Ts E pc (im_ll j (pc + 2)) := by
  intro D dA p l e R s m args below meth c Q A ρ0 n0 bc bs X hRf hRl hE hA ls st h r hf
  obtain ⟨hx, hb, hml, hown, hnm, hts⟩ := id X
  unfold im_ll at hf
  split at hf
  · rename_i x hj
    cases hf
    refine ⟨_, _, _, _, rfl, Nat.le_refl _, Nat.le_refl _, fun _ _ hk ρ H locs jl hp h0 hr hS hl hwl hws hbc hbs => ?_⟩
    exact lv_lload hx hb hd (hl.2.2.2 _ _ hj (fun z => by cases z)) (hk ρ H locs jl hp h0 hr hS hl hwl (am_wl.cons am_wv.long hws) hbc hbs)
  · cases hf

theorem ok_lload_n {k : Fin 4} {j : Nat} (hk0 : (k : Nat) = j) (hd : decode cc pc = .ok (.lload_n k, 1)) : am_okN cl SH ξ cc nL own nm Ts E pc (im_ll j (pc + 1)) := by
  intro D dA p l e R s m args below meth c Q A ρ0 n0 bc bs X hRf hRl hE hA ls st h r hf
  obtain ⟨hx, hb, hml, hown, hnm, hts⟩ := id X
  unfold im_ll at hf
  split at hf
  · rename_i x hj
    cases hf
    refine ⟨_, _, _, _, rfl, Nat.le_refl _, Nat.le_refl _, fun _ _ hk ρ H locs jl hp h0 hr hS hl hwl hws hbc hbs => ?_⟩
    exact lv_lload_n hx hb hd hk0 (hl.2.2.2 _ _ hj (fun z => by cases z)) (hk ρ H locs jl hp h0 hr hS hl hwl (am_wl.cons am_wv.long hws) hbc hbs)
  · cases hf

theorem ok_aload {j : Nat} (hd : decode cc pc = .ok (.aload j, 2)) : am_okN cl SH ξ cc nL own nm Ts E pc (im_al j (pc + 2)) := by
  intro D dA p l e R s m args below meth c Q A ρ0 n0 bc bs X hRf hRl hE hA ls st h r hf
  obtain ⟨hx, hb, hml, hown, hnm, hts⟩ := id X
  unfold im_al at hf
  split at hf
  · rename_i x hj
    cases hf
    refine ⟨_, _, _, _, rfl, Nat.le_refl _, Nat.le_refl _, fun _ _ hk ρ H locs jl hp h0 hr hS hl hwl hws hbc hbs => ?_⟩
    exact lv_aload hx hb hd (hl.2.2.2 _ _ hj (fun z => by cases z)) (hk ρ H locs jl hp h0 hr hS hl hwl (am_wl.cons (hwl.get hj) hws) hbc hbs)
  · rename_i x hj
    cases hf
    refine ⟨_, _, _, _, rfl, Nat.le_refl _, Nat.le_refl _, fun _ _ hk ρ H locs jl hp h0 hr hS hl hwl hws hbc hbs => ?_⟩
    exact lv_aload hx hb hd (hl.2.2.2 _ _ hj (fun z => by cases z)) (hk ρ H locs jl hp h0 hr hS hl hwl (am_wl.cons am_wv.ext hws) hbc hbs)
  · cases hf

theorem ok_aload_n {k : Fin 4} {j : Nat} (hk0 : (k : Nat) = j) (hd : decode cc pc = .ok (.aload_n k, 1)) : am_okN cl SH ξ cc nL own nm Ts E pc (im_al j (pc + 1)) := by
  intro D dA p l e R s m args below meth c Q A ρ0 n0 bc bs X hRf hRl hE hA ls st h r hf
  obtain ⟨hx, hb, hml, hown, hnm, hts⟩ := id X
  unfold im_al at hf
  split at hf
  · rename_i x hj
    cases hf
    refine ⟨_, _, _, _, rfl, Nat.le_refl _, Nat.le_refl _, fun _ _ hk ρ H locs jl hp h0 hr hS hl hwl hws hbc hbs => ?_⟩
    exact lv_aload_n hx hb hd hk0 (hl.2.2.2 _ _ hj (fun z => by cases z)) (hk ρ H locs jl hp h0 hr hS hl hwl (am_wl.cons (hwl.get hj) hws) hbc hbs)
  · rename_i x hj
    cases hf
    refine ⟨_, _, _, _, rfl, Nat.le_refl _, Nat.le_refl _, fun _ _ hk ρ H locs jl hp h0 hr hS hl hwl hws hbc hbs => ?_⟩
    exact lv_aload_n hx hb hd hk0 (hl.2.2.2 _ _ hj (fun z => by cases z)) (hk ρ H locs jl hp h0 hr hS hl hwl (am_wl.cons am_wv.ext hws) hbc hbs)
  · cases hf

def im_is (j t : Nat) : am_F := fun ls st h => match st with
  | .int x :: r => some (.inl (t, am_set ls j (.int x), r, h))
  | _ => none
def im_ls (j t : Nat) : am_F := fun ls st h => match st with
  | .long x :: r => some (.inl (t, am_set2 ls j (.long x), r, h))
  | _ => none
def im_as (j t : Nat) : am_F := fun ls st h => match st with
  | .ref x :: r => some (.inl (t, am_set ls j (.ref x), r, h))
  | .retAddr (x + 1) :: r => some (.inl (t, am_set ls j (.retAddr (x + 1)), r, h))
  | _ => none
theorem ok_istore {j : Nat} (hj : j < nL) (hd : decode cc pc = .ok (.istore j, 2)) : am_okN cl SH ξ cc nL own nm Ts E pc (im_is j (pc + 2)) := by
  intro D dA p l e R s m args below meth c Q A ρ0 n0 bc bs X hRf hRl hE hA ls st h r hf
  obtain ⟨hx, hb, hml, hown, hnm, hts⟩ := id X
  unfold im_is at hf
  split at hf
  · cases hf
    refine ⟨_, _, _, _, rfl, Nat.le_refl _, Nat.le_refl _, fun _ _ hk ρ H locs jl hp h0 hr hS hl hwl hws hbc hbs => ?_⟩
    exact lv_istore hx hb hd hl.has hj rfl (fun jl' hl' => hk ρ H locs jl' hp h0 hr hS (hl.store rfl hl') (hwl.set hws.head) hws.tail hbc hbs)
  · cases hf

theorem ok_istore_n {k : Fin 4} {j : Nat} (hk0 : (k : Nat) = j) (hj : j < nL) (hd : decode cc pc = .ok (.istore_n k, 1)) : am_okN cl SH ξ cc nL own nm Ts E pc (im_is j (pc + 1)) := by
  intro D dA p l e R s m args below meth c Q A ρ0 n0 bc bs X hRf hRl hE hA ls st h r hf
  obtain ⟨hx, hb, hml, hown, hnm, hts⟩ := id X
  unfold im_is at hf
  split at hf
  · cases hf
    refine ⟨_, _, _, _, rfl, Nat.le_refl _, Nat.le_refl _, fun _ _ hk ρ H locs jl hp h0 hr hS hl hwl hws hbc hbs => ?_⟩
    exact lv_istore_n hx hb hd hk0 hl.has hj rfl (fun jl' hl' => hk ρ H locs jl' hp h0 hr hS (hl.store rfl hl') (hwl.set hws.head) hws.tail hbc hbs)
  · cases hf

theorem ok_lstore {j : Nat} (hj : j + 1 < nL) (hd : decode cc pc = .ok (.lstore j, 2)) : am_okN cl SH ξ cc nL own nm Ts E pc (im_ls j (pc + 2)) := by
  intro D dA p l e R s m args below meth c Q A ρ0 n0 bc bs X hRf hRl hE hA ls st h r hf
  obtain ⟨hx, hb, hml, hown, hnm, hts⟩ := id X
  unfold im_ls at hf
  split at hf
  · cases hf
    refine ⟨_, _, _, _, rfl, Nat.le_refl _, Nat.le_refl _, fun _ _ hk ρ H locs jl hp h0 hr hS hl hwl hws hbc hbs => ?_⟩
    exact lv_lstore hx hb hd hl.has hj rfl (fun jl' hl' => hk ρ H locs jl' hp h0 hr hS (hl.store2 rfl hl') (hwl.set2 hws.head) hws.tail hbc hbs)
  · cases hf

theorem ok_lstore_n {k : Fin 4} {j : Nat} (hk0 : (k : Nat) = j) (hj : j + 1 < nL) (hd : decode cc pc = .ok (.lstore_n k, 1)) : am_okN cl SH ξ cc nL own nm Ts E pc (im_ls j (pc + 1)) := by
  intro D dA p l e R s m args below meth c Q A ρ0 n0 bc bs X hRf hRl hE hA ls st h r hf
  obtain ⟨hx, hb, hml, hown, hnm, hts⟩ := id X
  unfold im_ls at hf
  split at hf
  · cases hf
    refine ⟨_, _, _, _, rfl, Nat.le_refl _, Nat.le_refl _, fun _ _ hk ρ H locs jl hp h0 hr hS hl hwl hws hbc hbs => ?_⟩
    exact lv_lstore_n hx hb hd hk0 hl.has hj rfl (fun jl' hl' => hk ρ H locs jl' hp h0 hr hS (hl.store2 rfl hl') (hwl.set2 hws.head) hws.tail hbc hbs)
  · cases hf

theorem ok_astore {j : Nat} (hj : j < nL) (hd : decode cc pc = .ok (.astore j, 2)) : am_okN cl SH ξ cc nL own nm Ts E pc (im_as j (pc + 2)) := by
  intro D dA p l e R s m args below meth c Q A ρ0 n0 bc bs X hRf hRl hE hA ls st h r hf
  obtain ⟨hx, hb, hml, hown, hnm, hts⟩ := id X
  unfold im_as at hf
  split at hf
  · cases hf
    refine ⟨_, _, _, _, rfl, Nat.le_refl _, Nat.le_refl _, fun _ _ hk ρ H locs jl hp h0 hr hS hl hwl hws hbc hbs => ?_⟩
    exact lv_astore hx hb hd hl.has hj rfl (fun jl' hl' => hk ρ H locs jl' hp h0 hr hS (hl.store rfl hl') (hwl.set hws.head) hws.tail hbc hbs)
  · cases hf
    refine ⟨_, _, _, _, rfl, Nat.le_refl _, Nat.le_refl _, fun _ _ hk ρ H locs jl hp h0 hr hS hl hwl hws hbc hbs => ?_⟩
    exact lv_astore hx hb hd hl.has hj rfl (fun jl' hl' => hk ρ H locs jl' hp h0 hr hS (hl.store rfl hl') (hwl.set hws.head) hws.tail hbc hbs)
  · cases hf

theorem ok_astore_n {k : Fin 4} {j : Nat} (hk0 : (k : Nat) = j) (hj : j < nL) (hd : decode cc pc = .ok (.astore_n k, 1)) : am_okN cl SH ξ cc nL own nm Ts E pc (im_as j (pc + 1)) := by
  intro D dA p l e R s m args below meth c Q A ρ0 n0 bc bs X hRf hRl hE hA ls st h r hf
  obtain ⟨hx, hb, hml, hown, hnm, hts⟩ := id X
  unfold im_as at hf
  split at hf
  · cases hf
    refine ⟨_, _, _, _, rfl, Nat.le_refl _, Nat.le_refl _, fun _ _ hk ρ H locs jl hp h0 hr hS hl hwl hws hbc hbs => ?_⟩
    exact lv_astore_n hx hb hd hk0 hl.has hj rfl (fun jl' hl' => hk ρ H locs jl' hp h0 hr hS (hl.store rfl hl') (hwl.set hws.head) hws.tail hbc hbs)
  · cases hf
    refine ⟨_, _, _, _, rfl, Nat.le_refl _, Nat.le_refl _, fun _ _ hk ρ H locs jl hp h0 hr hS hl hwl hws hbc hbs => ?_⟩
    exact lv_astore_n hx hb hd hk0 hl.has hj rfl (fun jl' hl' => hk ρ H locs jl' hp h0 hr hS (hl.store rfl hl') (hwl.set hws.head) hws.tail hbc hbs)
  · cases hf

def im_iinc (j : Nat) (n : Int32) (t : Nat) : am_F := fun ls st h => match ls[j]? with
  | some (.int x) => some (.inl (t, am_set ls j (.int (x + n)), st, h))
  | _ => none
theorem ok_iinc {j : Nat} {n : Int} {v : Int32} (hv : Int32.ofInt n = v) (hj : j < nL) (hd : decode cc pc = .ok (.iinc j n, 3)) : am_okN cl SH ξ cc nL own nm Ts E pc (im_iinc j v (pc + 3)) := by
  intro D dA p l e R s m args below meth c Q A ρ0 n0 bc bs X hRf hRl hE hA ls st h r hf
  obtain ⟨hx, hb, hml, hown, hnm, hts⟩ := id X
  unfold im_iinc at hf
  split at hf
  · rename_i x hjx
    cases hf
    refine ⟨_, _, _, _, rfl, Nat.le_refl _, Nat.le_refl _, fun _ _ hk ρ H locs jl hp h0 hr hS hl hwl hws hbc hbs => ?_⟩
    obtain ⟨k, hk1⟩ := List.getElem?_of_mem (am_mem_as (ρ := ρ) (ξ := ξ) hjx (fun z => by cases z))
    exact lv_iinc (x := x) (k := k) hx hb hd hl.has hk1 (by rw [hv]) hj rfl (fun jl' hl' => hk ρ H locs jl' hp h0 hr hS (hl.store rfl hl') (hwl.set am_wv.int) hws hbc hbs)
  · cases hf

def im_bin (g : Int32 → Int32 → Int32) (t : Nat) : am_F := fun ls st h => match st with
  | .int y :: .int x :: r => some (.inl (t, ls, .int (g x y) :: r, h))
  | _ => none
def im_div (g : Int32 → Int32 → Int32) (t : Nat) : am_F := fun ls st h => match st with
  | .int y :: .int x :: r => if y = 0 then none else some (.inl (t, ls, .int (g x y) :: r, h))
  | _ => none
def im_un (g : Int32 → Int32) (t : Nat) : am_F := fun ls st h => match st with
  | .int x :: r => some (.inl (t, ls, .int (g x) :: r, h))
  | _ => none
def im_lbin (g : Int64 → Int64 → Int64) (t : Nat) : am_F := fun ls st h => match st with
  | .long y :: .long x :: r => some (.inl (t, ls, .long (g x y) :: r, h))
  | _ => none
def im_lsh (g : Int64 → Int32 → Int64) (t : Nat) : am_F := fun ls st h => match st with
  | .int y :: .long x :: r => some (.inl (t, ls, .long (g x y) :: r, h))
  | _ => none
def im_lcmp (t : Nat) : am_F := fun ls st h => match st with
  | .long y :: .long x :: r => some (.inl (t, ls, .int (if x > y then 1 else if x = y then 0 else -1) :: r, h))
  | _ => none
def im_i2l (t : Nat) : am_F := fun ls st h => match st with
  | .int x :: r => some (.inl (t, ls, .long x.toInt64 :: r, h))
  | _ => none
theorem ok_iadd (hd : decode cc pc = .ok (.iadd, 1)) : am_okN cl SH ξ cc nL own nm Ts E pc (im_bin (fun x y => x + y) (pc + 1)) := by
  intro D dA p l e R s m args below meth c Q A ρ0 n0 bc bs X hRf hRl hE hA ls st h r hf
  obtain ⟨hx, hb, hml, hown, hnm, hts⟩ := id X
  unfold im_bin at hf
  split at hf
  · cases hf
    refine ⟨_, _, _, _, rfl, Nat.le_refl _, Nat.le_refl _, fun _ _ hk ρ H locs jl hp h0 hr hS hl hwl hws hbc hbs => ?_⟩
    exact lv_iadd hx hb hd (hk ρ H locs jl hp h0 hr hS hl hwl (am_wl.cons am_wv.int hws.tail.tail) hbc hbs)
  · cases hf

theorem ok_isub (hd : decode cc pc = .ok (.isub, 1)) : am_okN cl SH ξ cc nL own nm Ts E pc (im_bin (fun x y => x - y) (pc + 1)) := by
  intro D dA p l e R s m args below meth c Q A ρ0 n0 bc bs X hRf hRl hE hA ls st h r hf
  obtain ⟨hx, hb, hml, hown, hnm, hts⟩ := id X
  unfold im_bin at hf
  split at hf
  · cases hf
    refine ⟨_, _, _, _, rfl, Nat.le_refl _, Nat.le_refl _, fun _ _ hk ρ H locs jl hp h0 hr hS hl hwl hws hbc hbs => ?_⟩
    exact lv_isub hx hb hd (hk ρ H locs jl hp h0 hr hS hl hwl (am_wl.cons am_wv.int hws.tail.tail) hbc hbs)
  · cases hf

theorem ok_imul (hd : decode cc pc = .ok (.imul, 1)) : am_okN cl SH ξ cc nL own nm Ts E pc (im_bin (fun x y => x * y) (pc + 1)) := by
  intro D dA p l e R s m args below meth c Q A ρ0 n0 bc bs X hRf hRl hE hA ls st h r hf
  obtain ⟨hx, hb, hml, hown, hnm, hts⟩ := id X
  unfold im_bin at hf
  split at hf
  · cases hf
    refine ⟨_, _, _, _, rfl, Nat.le_refl _, Nat.le_refl _, fun _ _ hk ρ H locs jl hp h0 hr hS hl hwl hws hbc hbs => ?_⟩
    exact lv_imul hx hb hd (hk ρ H locs jl hp h0 hr hS hl hwl (am_wl.cons am_wv.int hws.tail.tail) hbc hbs)
  · cases hf

theorem ok_iand (hd : decode cc pc = .ok (.iand, 1)) : am_okN cl SH ξ cc nL own nm Ts E pc (im_bin (fun x y => x &&& y) (pc + 1)) := by
  intro D dA p l e R s m args below meth c Q A ρ0 n0 bc bs X hRf hRl hE hA ls st h r hf
  obtain ⟨hx, hb, hml, hown, hnm, hts⟩ := id X
  unfold im_bin at hf
  split at hf
  · cases hf
    refine ⟨_, _, _, _, rfl, Nat.le_refl _, Nat.le_refl _, fun _ _ hk ρ H locs jl hp h0 hr hS hl hwl hws hbc hbs => ?_⟩
    exact lv_iand hx hb hd (hk ρ H locs jl hp h0 hr hS hl hwl (am_wl.cons am_wv.int hws.tail.tail) hbc hbs)
  · cases hf

theorem ok_ior (hd : decode cc pc = .ok (.ior, 1)) : am_okN cl SH ξ cc nL own nm Ts E pc (im_bin (fun x y => x ||| y) (pc + 1)) := by
  intro D dA p l e R s m args below meth c Q A ρ0 n0 bc bs X hRf hRl hE hA ls st h r hf
  obtain ⟨hx, hb, hml, hown, hnm, hts⟩ := id X
  unfold im_bin at hf
  split at hf
  · cases hf
    refine ⟨_, _, _, _, rfl, Nat.le_refl _, Nat.le_refl _, fun _ _ hk ρ H locs jl hp h0 hr hS hl hwl hws hbc hbs => ?_⟩
    exact lv_ior hx hb hd (hk ρ H locs jl hp h0 hr hS hl hwl (am_wl.cons am_wv.int hws.tail.tail) hbc hbs)
  · cases hf

theorem ok_ixor (hd : decode cc pc = .ok (.ixor, 1)) : am_okN cl SH ξ cc nL own nm Ts E pc (im_bin (fun x y => x ^^^ y) (pc + 1)) := by
  intro D dA p l e R s m args below meth c Q A ρ0 n0 bc bs X hRf hRl hE hA ls st h r hf
  obtain ⟨hx, hb, hml, hown, hnm, hts⟩ := id X
  unfold im_bin at hf
  split at hf
  · cases hf
    refine ⟨_, _, _, _, rfl, Nat.le_refl _, Nat.le_refl _, fun _ _ hk ρ H locs jl hp h0 hr hS hl hwl hws hbc hbs => ?_⟩
    exact lv_ixor hx hb hd (hk ρ H locs jl hp h0 hr hS hl hwl (am_wl.cons am_wv.int hws.tail.tail) hbc hbs)
  · cases hf

theorem ok_ishl (hd : decode cc pc = .ok (.ishl, 1)) : am_okN cl SH ξ cc nL own nm Ts E pc (im_bin (fun x y => x <<< (y &&& 31)) (pc + 1)) := by
  intro D dA p l e R s m args below meth c Q A ρ0 n0 bc bs X hRf hRl hE hA ls st h r hf
  obtain ⟨hx, hb, hml, hown, hnm, hts⟩ := id X
  unfold im_bin at hf
  split at hf
  · cases hf
    refine ⟨_, _, _, _, rfl, Nat.le_refl _, Nat.le_refl _, fun _ _ hk ρ H locs jl hp h0 hr hS hl hwl hws hbc hbs => ?_⟩
    exact lv_ishl hx hb hd (hk ρ H locs jl hp h0 hr hS hl hwl (am_wl.cons am_wv.int hws.tail.tail) hbc hbs)
  · cases hf

theorem ok_ishr (hd : decode cc pc = .ok (.ishr, 1)) : am_okN cl SH ξ cc nL own nm Ts E pc (im_bin (fun x y => x >>> (y &&& 31)) (pc + 1)) := by
  intro D dA p l e R s m args below meth c Q A ρ0 n0 bc bs X hRf hRl hE hA ls st h r hf
  obtain ⟨hx, hb, hml, hown, hnm, hts⟩ := id X
  unfold im_bin at hf
  split at hf
  · cases hf
    refine ⟨_, _, _, _, rfl, Nat.le_refl _, Nat.le_refl _, fun _ _ hk ρ H locs jl hp h0 hr hS hl hwl hws hbc hbs => ?_⟩
    exact lv_ishr hx hb hd (hk ρ H locs jl hp h0 hr hS hl hwl (am_wl.cons am_wv.int hws.tail.tail) hbc hbs)
  · cases hf

theorem ok_iushr (hd : decode cc pc = .ok (.iushr, 1)) : am_okN cl SH ξ cc nL own nm Ts E pc (im_bin (fun x y => (x.toUInt32 >>> (y.toUInt32 &&& Int32.toUInt32 31)).toInt32) (pc + 1)) := by
  intro D dA p l e R s m args below meth c Q A ρ0 n0 bc bs X hRf hRl hE hA ls st h r hf
  obtain ⟨hx, hb, hml, hown, hnm, hts⟩ := id X
  unfold im_bin at hf
  split at hf
  · cases hf
    refine ⟨_, _, _, _, rfl, Nat.le_refl _, Nat.le_refl _, fun _ _ hk ρ H locs jl hp h0 hr hS hl hwl hws hbc hbs => ?_⟩
    exact lv_iushr hx hb hd rfl (hk ρ H locs jl hp h0 hr hS hl hwl (am_wl.cons am_wv.int hws.tail.tail) hbc hbs)
  · cases hf

theorem ok_idiv (hd : decode cc pc = .ok (.idiv, 1)) : am_okN cl SH ξ cc nL own nm Ts E pc (im_div (fun x y => x / y) (pc + 1)) := by
  intro D dA p l e R s m args below meth c Q A ρ0 n0 bc bs X hRf hRl hE hA ls st h r hf
  obtain ⟨hx, hb, hml, hown, hnm, hts⟩ := id X
  unfold im_div at hf
  split at hf
  · split at hf
    · cases hf
    · rename_i hne
      cases hf
      refine ⟨_, _, _, _, rfl, Nat.le_refl _, Nat.le_refl _, fun _ _ hk ρ H locs jl hp h0 hr hS hl hwl hws hbc hbs => ?_⟩
      exact lv_idiv hx hb hd hne (hk ρ H locs jl hp h0 hr hS hl hwl (am_wl.cons am_wv.int hws.tail.tail) hbc hbs)
  · cases hf

theorem ok_irem (hd : decode cc pc = .ok (.irem, 1)) : am_okN cl SH ξ cc nL own nm Ts E pc (im_div (fun x y => x - x / y * y) (pc + 1)) := by
  intro D dA p l e R s m args below meth c Q A ρ0 n0 bc bs X hRf hRl hE hA ls st h r hf
  obtain ⟨hx, hb, hml, hown, hnm, hts⟩ := id X
  unfold im_div at hf
  split at hf
  · split at hf
    · cases hf
    · rename_i hne
      cases hf
      refine ⟨_, _, _, _, rfl, Nat.le_refl _, Nat.le_refl _, fun _ _ hk ρ H locs jl hp h0 hr hS hl hwl hws hbc hbs => ?_⟩
      exact lv_irem hx hb hd hne (hk ρ H locs jl hp h0 hr hS hl hwl (am_wl.cons am_wv.int hws.tail.tail) hbc hbs)
  · cases hf

theorem ok_ineg (hd : decode cc pc = .ok (.ineg, 1)) : am_okN cl SH ξ cc nL own nm Ts E pc (im_un (fun x => -x) (pc + 1)) := by
  intro D dA p l e R s m args below meth c Q A ρ0 n0 bc bs X hRf hRl hE hA ls st h r hf
  obtain ⟨hx, hb, hml, hown, hnm, hts⟩ := id X
  unfold im_un at hf
  split at hf
  · cases hf
    refine ⟨_, _, _, _, rfl, Nat.le_refl _, Nat.le_refl _, fun _ _ hk ρ H locs jl hp h0 hr hS hl hwl hws hbc hbs => ?_⟩
    exact lv_ineg hx hb hd (hk ρ H locs jl hp h0 hr hS hl hwl (am_wl.cons am_wv.int hws.tail) hbc hbs)
  · cases hf

theorem ok_i2b (hd : decode cc pc = .ok (.i2b, 1)) : am_okN cl SH ξ cc nL own nm Ts E pc (im_un (fun x => x.toInt8.toInt32) (pc + 1)) := by
  intro D dA p l e R s m args below meth c Q A ρ0 n0 bc bs X hRf hRl hE hA ls st h r hf
  obtain ⟨hx, hb, hml, hown, hnm, hts⟩ := id X
  unfold im_un at hf
  split at hf
  · cases hf
    refine ⟨_, _, _, _, rfl, Nat.le_refl _, Nat.le_refl _, fun _ _ hk ρ H locs jl hp h0 hr hS hl hwl hws hbc hbs => ?_⟩
    exact lv_i2b hx hb hd rfl (hk ρ H locs jl hp h0 hr hS hl hwl (am_wl.cons am_wv.int hws.tail) hbc hbs)
  · cases hf

theorem ok_i2c (hd : decode cc pc = .ok (.i2c, 1)) : am_okN cl SH ξ cc nL own nm Ts E pc (im_un (fun x => (x.toUInt32 % 65536).toInt32) (pc + 1)) := by
  intro D dA p l e R s m args below meth c Q A ρ0 n0 bc bs X hRf hRl hE hA ls st h r hf
  obtain ⟨hx, hb, hml, hown, hnm, hts⟩ := id X
  unfold im_un at hf
  split at hf
  · cases hf
    refine ⟨_, _, _, _, rfl, Nat.le_refl _, Nat.le_refl _, fun _ _ hk ρ H locs jl hp h0 hr hS hl hwl hws hbc hbs => ?_⟩
    exact lv_i2c hx hb hd rfl (hk ρ H locs jl hp h0 hr hS hl hwl (am_wl.cons am_wv.int hws.tail) hbc hbs)
  · cases hf

theorem ok_ladd (hd : decode cc pc = .ok (.ladd, 1)) : am_okN cl SH ξ cc nL own nm Ts E pc (im_lbin (fun x y => x + y) (pc + 1)) := by
  intro D dA p l e R s m args below meth c Q A ρ0 n0 bc bs X hRf hRl hE hA ls st h r hf
  obtain ⟨hx, hb, hml, hown, hnm, hts⟩ := id X
  unfold im_lbin at hf
  split at hf
  · cases hf
    refine ⟨_, _, _, _, rfl, Nat.le_refl _, Nat.le_refl _, fun _ _ hk ρ H locs jl hp h0 hr hS hl hwl hws hbc hbs => ?_⟩
    exact lv_ladd hx hb hd (hk ρ H locs jl hp h0 hr hS hl hwl (am_wl.cons am_wv.long hws.tail.tail) hbc hbs)
  · cases hf

theorem ok_lmul (hd : decode cc pc = .ok (.lmul, 1)) : am_okN cl SH ξ cc nL own nm Ts E pc (im_lbin (fun x y => x * y) (pc + 1)) := by
  intro D dA p l e R s m args below meth c Q A ρ0 n0 bc bs X hRf hRl hE hA ls st h r hf
  obtain ⟨hx, hb, hml, hown, hnm, hts⟩ := id X
  unfold im_lbin at hf
  split at hf
  · cases hf
    refine ⟨_, _, _, _, rfl, Nat.le_refl _, Nat.le_refl _, fun _ _ hk ρ H locs jl hp h0 hr hS hl hwl hws hbc hbs => ?_⟩
    exact lv_lmul hx hb hd (hk ρ H locs jl hp h0 hr hS hl hwl (am_wl.cons am_wv.long hws.tail.tail) hbc hbs)
  · cases hf

theorem ok_lor (hd : decode cc pc = .ok (.lor, 1)) : am_okN cl SH ξ cc nL own nm Ts E pc (im_lbin (fun x y => x ||| y) (pc + 1)) := by
  intro D dA p l e R s m args below meth c Q A ρ0 n0 bc bs X hRf hRl hE hA ls st h r hf
  obtain ⟨hx, hb, hml, hown, hnm, hts⟩ := id X
  unfold im_lbin at hf
  split at hf
  · cases hf
    refine ⟨_, _, _, _, rfl, Nat.le_refl _, Nat.le_refl _, fun _ _ hk ρ H locs jl hp h0 hr hS hl hwl hws hbc hbs => ?_⟩
    exact lv_lor hx hb hd (hk ρ H locs jl hp h0 hr hS hl hwl (am_wl.cons am_wv.long hws.tail.tail) hbc hbs)
  · cases hf

theorem ok_lshl (hd : decode cc pc = .ok (.lshl, 1)) : am_okN cl SH ξ cc nL own nm Ts E pc (im_lsh (fun x y => x <<< (y.toInt64 &&& 63)) (pc + 1)) := by
  intro D dA p l e R s m args below meth c Q A ρ0 n0 bc bs X hRf hRl hE hA ls st h r hf
  obtain ⟨hx, hb, hml, hown, hnm, hts⟩ := id X
  unfold im_lsh at hf
  split at hf
  · cases hf
    refine ⟨_, _, _, _, rfl, Nat.le_refl _, Nat.le_refl _, fun _ _ hk ρ H locs jl hp h0 hr hS hl hwl hws hbc hbs => ?_⟩
    exact lv_lshl hx hb hd rfl (hk ρ H locs jl hp h0 hr hS hl hwl (am_wl.cons am_wv.long hws.tail.tail) hbc hbs)
  · cases hf

theorem ok_lcmp (hd : decode cc pc = .ok (.lcmp, 1)) : am_okN cl SH ξ cc nL own nm Ts E pc (im_lcmp (pc + 1)) := by
  intro D dA p l e R s m args below meth c Q A ρ0 n0 bc bs X hRf hRl hE hA ls st h r hf
  obtain ⟨hx, hb, hml, hown, hnm, hts⟩ := id X
  unfold im_lcmp at hf
  split at hf
  · cases hf
    refine ⟨_, _, _, _, rfl, Nat.le_refl _, Nat.le_refl _, fun _ _ hk ρ H locs jl hp h0 hr hS hl hwl hws hbc hbs => ?_⟩
    exact W.lcmp hx hb hd (hk ρ H locs jl hp h0 hr hS hl hwl (am_wl.cons am_wv.int hws.tail.tail) hbc hbs)
  · cases hf

theorem ok_i2l (hd : decode cc pc = .ok (.i2l, 1)) : am_okN cl SH ξ cc nL own nm Ts E pc (im_i2l (pc + 1)) := by
  intro D dA p l e R s m args below meth c Q A ρ0 n0 bc bs X hRf hRl hE hA ls st h r hf
  obtain ⟨hx, hb, hml, hown, hnm, hts⟩ := id X
  unfold im_i2l at hf
  split at hf
  · cases hf
    refine ⟨_, _, _, _, rfl, Nat.le_refl _, Nat.le_refl _, fun _ _ hk ρ H locs jl hp h0 hr hS hl hwl hws hbc hbs => ?_⟩
    exact lv_i2l hx hb hd rfl (hk ρ H locs jl hp h0 hr hS hl hwl (am_wl.cons am_wv.long hws.tail) hbc hbs)
  · cases hf

def im_dup (t : Nat) : am_F := fun ls st h => match st with
  | .int x :: r => some (.inl (t, ls, .int x :: .int x :: r, h))
  | .ref x :: r => some (.inl (t, ls, .ref x :: .ref x :: r, h))
  | _ => none
theorem ok_dup (hd : decode cc pc = .ok (.dup, 1)) : am_okN cl SH ξ cc nL own nm Ts E pc (im_dup (pc + 1)) := by
  intro D dA p l e R s m args below meth c Q A ρ0 n0 bc bs X hRf hRl hE hA ls st h r hf
  obtain ⟨hx, hb, hml, hown, hnm, hts⟩ := id X
  unfold im_dup at hf
  split at hf
  · cases hf
    refine ⟨_, _, _, _, rfl, Nat.le_refl _, Nat.le_refl _, fun _ _ hk ρ H locs jl hp h0 hr hS hl hwl hws hbc hbs => ?_⟩
    exact lv_dup hx hb hd rfl (hk ρ H locs jl hp h0 hr hS hl hwl (am_wl.cons am_wv.int hws) hbc hbs)
  · cases hf
    refine ⟨_, _, _, _, rfl, Nat.le_refl _, Nat.le_refl _, fun _ _ hk ρ H locs jl hp h0 hr hS hl hwl hws hbc hbs => ?_⟩
    exact lv_dup hx hb hd rfl (hk ρ H locs jl hp h0 hr hS hl hwl (am_wl.cons hws.head hws) hbc hbs)
  · cases hf

def im_dup2 (t : Nat) : am_F := fun ls st h => match st with
  | .int y :: .ref x :: r => some (.inl (t, ls, .int y :: .ref x :: .int y :: .ref x :: r, h))
  | _ => none
theorem ok_dup2 (hd : decode cc pc = .ok (.dup2, 1)) : am_okN cl SH ξ cc nL own nm Ts E pc (im_dup2 (pc + 1)) := by
  intro D dA p l e R s m args below meth c Q A ρ0 n0 bc bs X hRf hRl hE hA ls st h r hf
  obtain ⟨hx, hb, hml, hown, hnm, hts⟩ := id X
  unfold im_dup2 at hf
  split at hf
  · cases hf
    refine ⟨_, _, _, _, rfl, Nat.le_refl _, Nat.le_refl _, fun _ _ hk ρ H locs jl hp h0 hr hS hl hwl hws hbc hbs => ?_⟩
    exact lv_dup2_11 hx hb hd rfl rfl (hk ρ H locs jl hp h0 hr hS hl hwl (am_wl.cons am_wv.int (am_wl.cons hws.tail.head hws)) hbc hbs)
  · cases hf

def im_pop (t : Nat) : am_F := fun ls st h => match st with
  | .int _ :: r => some (.inl (t, ls, r, h))
  | _ => none
theorem ok_pop (hd : decode cc pc = .ok (.pop, 1)) : am_okN cl SH ξ cc nL own nm Ts E pc (im_pop (pc + 1)) := by
  intro D dA p l e R s m args below meth c Q A ρ0 n0 bc bs X hRf hRl hE hA ls st h r hf
  obtain ⟨hx, hb, hml, hown, hnm, hts⟩ := id X
  unfold im_pop at hf
  split at hf
  · cases hf
    refine ⟨_, _, _, _, rfl, Nat.le_refl _, Nat.le_refl _, fun _ _ hk ρ H locs jl hp h0 hr hS hl hwl hws hbc hbs => ?_⟩
    exact lv_pop hx hb hd rfl (hk ρ H locs jl hp h0 hr hS hl hwl hws.tail hbc hbs)
  · cases hf

def im_go (t : Nat) : am_F := fun ls st h => some (.inl (t, ls, st, h))
theorem ok_goto {off : Int} {t : Nat} (ht : (pc : Int) + off = (t : Int)) (hd : decode cc pc = .ok (.goto off, 3)) : am_okN cl SH ξ cc nL own nm Ts E pc (im_go t) := by
  intro D dA p l e R s m args below meth c Q A ρ0 n0 bc bs X hRf hRl hE hA ls st h r hf
  obtain ⟨hx, hb, hml, hown, hnm, hts⟩ := id X
  cases hf
  refine ⟨_, _, _, _, rfl, Nat.le_refl _, Nat.le_refl _, fun _ _ hk ρ H locs jl hp h0 hr hS hl hwl hws hbc hbs => ?_⟩
  exact lv_goto hx hb hd ht (hk ρ H locs jl hp h0 hr hS hl hwl hws hbc hbs)

def im_if1 (g : Int32 → Bool) (t u : Nat) : am_F := fun ls st h => match st with
  | .int x :: r => some (.inl (if g x = true then t else u, ls, r, h))
  | _ => none
def im_if2 (g : Int32 → Int32 → Bool) (t u : Nat) : am_F := fun ls st h => match st with
  | .int y :: .int x :: r => some (.inl (if g x y = true then t else u, ls, r, h))
  | _ => none
abbrev ib_eq (x : Int32) : Bool := decide (x = 0)
theorem ok_if_eq {off : Int} {t : Nat} (ht : (pc : Int) + off = (t : Int)) (hd : decode cc pc = .ok (.ifCond .eq off, 3)) : am_okN cl SH ξ cc nL own nm Ts E pc (im_if1 ib_eq t (pc + 3)) := by
  intro D dA p l e R s m args below meth c Q A ρ0 n0 bc bs X hRf hRl hE hA ls st h r hf
  obtain ⟨hx, hb, hml, hown, hnm, hts⟩ := id X
  unfold im_if1 at hf
  split at hf
  · cases hf
    refine ⟨_, _, _, _, rfl, Nat.le_refl _, Nat.le_refl _, fun _ _ hk ρ H locs jl hp h0 hr hS hl hwl hws hbc hbs => ?_⟩
    refine lv_if_eq hx hb hd ht (fun hc => ?_) (fun hc => ?_)
    · rw [if_pos (decide_eq_true hc)] at hk
      exact hk ρ H locs jl hp h0 hr hS hl hwl hws.tail hbc hbs
    · rw [if_neg (fun z => hc (of_decide_eq_true z))] at hk
      exact hk ρ H locs jl hp h0 hr hS hl hwl hws.tail hbc hbs
  · cases hf

abbrev ib_ne (x : Int32) : Bool := decide (x ≠ 0)
theorem ok_if_ne {off : Int} {t : Nat} (ht : (pc : Int) + off = (t : Int)) (hd : decode cc pc = .ok (.ifCond .ne off, 3)) : am_okN cl SH ξ cc nL own nm Ts E pc (im_if1 ib_ne t (pc + 3)) := by
  intro D dA p l e R s m args below meth c Q A ρ0 n0 bc bs X hRf hRl hE hA ls st h r hf
  obtain ⟨hx, hb, hml, hown, hnm, hts⟩ := id X
  unfold im_if1 at hf
  split at hf
  · cases hf
    refine ⟨_, _, _, _, rfl, Nat.le_refl _, Nat.le_refl _, fun _ _ hk ρ H locs jl hp h0 hr hS hl hwl hws hbc hbs => ?_⟩
    refine lv_if_ne hx hb hd ht (fun hc => ?_) (fun hc => ?_)
    · rw [if_pos (decide_eq_true hc)] at hk
      exact hk ρ H locs jl hp h0 hr hS hl hwl hws.tail hbc hbs
    · rw [if_neg (fun z =>  (of_decide_eq_true z) hc)] at hk
      exact hk ρ H locs jl hp h0 hr hS hl hwl hws.tail hbc hbs
  · cases hf

abbrev ib_lt (x : Int32) : Bool := decide (x < 0)
theorem ok_if_lt {off : Int} {t : Nat} (ht : (pc : Int) + off = (t : Int)) (hd : decode cc pc = .ok (.ifCond .lt off, 3)) : am_okN cl SH ξ cc nL own nm Ts E pc (im_if1 ib_lt t (pc + 3)) := by
  intro D dA p l e R s m args below meth c Q A ρ0 n0 bc bs X hRf hRl hE hA ls st h r hf
  obtain ⟨hx, hb, hml, hown, hnm, hts⟩ := id X
  unfold im_if1 at hf
  split at hf
  · cases hf
    refine ⟨_, _, _, _, rfl, Nat.le_refl _, Nat.le_refl _, fun _ _ hk ρ H locs jl hp h0 hr hS hl hwl hws hbc hbs => ?_⟩
    refine lv_if_lt hx hb hd ht (fun hc => ?_) (fun hc => ?_)
    · rw [if_pos (decide_eq_true hc)] at hk
      exact hk ρ H locs jl hp h0 hr hS hl hwl hws.tail hbc hbs
    · rw [if_neg (fun z => hc (of_decide_eq_true z))] at hk
      exact hk ρ H locs jl hp h0 hr hS hl hwl hws.tail hbc hbs
  · cases hf

abbrev ib_ge (x : Int32) : Bool := decide (0 ≤ x)
theorem ok_if_ge {off : Int} {t : Nat} (ht : (pc : Int) + off = (t : Int)) (hd : decode cc pc = .ok (.ifCond .ge off, 3)) : am_okN cl SH ξ cc nL own nm Ts E pc (im_if1 ib_ge t (pc + 3)) := by
  intro D dA p l e R s m args below meth c Q A ρ0 n0 bc bs X hRf hRl hE hA ls st h r hf
  obtain ⟨hx, hb, hml, hown, hnm, hts⟩ := id X
  unfold im_if1 at hf
  split at hf
  · cases hf
    refine ⟨_, _, _, _, rfl, Nat.le_refl _, Nat.le_refl _, fun _ _ hk ρ H locs jl hp h0 hr hS hl hwl hws hbc hbs => ?_⟩
    refine lv_if_ge hx hb hd ht (fun hc => ?_) (fun hc => ?_)
    · rw [if_pos (decide_eq_true hc)] at hk
      exact hk ρ H locs jl hp h0 hr hS hl hwl hws.tail hbc hbs
    · rw [if_neg (fun z => hc (of_decide_eq_true z))] at hk
      exact hk ρ H locs jl hp h0 hr hS hl hwl hws.tail hbc hbs
  · cases hf

abbrev ib_gt (x : Int32) : Bool := decide (0 < x)
theorem ok_if_gt {off : Int} {t : Nat} (ht : (pc : Int) + off = (t : Int)) (hd : decode cc pc = .ok (.ifCond .gt off, 3)) : am_okN cl SH ξ cc nL own nm Ts E pc (im_if1 ib_gt t (pc + 3)) := by
  intro D dA p l e R s m args below meth c Q A ρ0 n0 bc bs X hRf hRl hE hA ls st h r hf
  obtain ⟨hx, hb, hml, hown, hnm, hts⟩ := id X
  unfold im_if1 at hf
  split at hf
  · cases hf
    refine ⟨_, _, _, _, rfl, Nat.le_refl _, Nat.le_refl _, fun _ _ hk ρ H locs jl hp h0 hr hS hl hwl hws hbc hbs => ?_⟩
    refine lv_if_gt hx hb hd ht (fun hc => ?_) (fun hc => ?_)
    · rw [if_pos (decide_eq_true hc)] at hk
      exact hk ρ H locs jl hp h0 hr hS hl hwl hws.tail hbc hbs
    · rw [if_neg (fun z => hc (of_decide_eq_true z))] at hk
      exact hk ρ H locs jl hp h0 hr hS hl hwl hws.tail hbc hbs
  · cases hf

abbrev ib_le (x : Int32) : Bool := decide (x ≤ 0)
theorem ok_if_le {off : Int} {t : Nat} (ht : (pc : Int) + off = (t : Int)) (hd : decode cc pc = .ok (.ifCond .le off, 3)) : am_okN cl SH ξ cc nL own nm Ts E pc (im_if1 ib_le t (pc + 3)) := by
  intro D dA p l e R s m args below meth c Q A ρ0 n0 bc bs X hRf hRl hE hA ls st h r hf
  obtain ⟨hx, hb, hml, hown, hnm, hts⟩ := id X
  unfold im_if1 at hf
  split at hf
  · cases hf
    refine ⟨_, _, _, _, rfl, Nat.le_refl _, Nat.le_refl _, fun _ _ hk ρ H locs jl hp h0 hr hS hl hwl hws hbc hbs => ?_⟩
    refine lv_if_le hx hb hd ht (fun hc => ?_) (fun hc => ?_)
    · rw [if_pos (decide_eq_true hc)] at hk
      exact hk ρ H locs jl hp h0 hr hS hl hwl hws.tail hbc hbs
    · rw [if_neg (fun z => hc (of_decide_eq_true z))] at hk
      exact hk ρ H locs jl hp h0 hr hS hl hwl hws.tail hbc hbs
  · cases hf

abbrev ic_eq (x y : Int32) : Bool := decide (x = y)
theorem ok_icmp_eq {off : Int} {t : Nat} (ht : (pc : Int) + off = (t : Int)) (hd : decode cc pc = .ok (.if_icmp .eq off, 3)) : am_okN cl SH ξ cc nL own nm Ts E pc (im_if2 ic_eq t (pc + 3)) := by
  intro D dA p l e R s m args below meth c Q A ρ0 n0 bc bs X hRf hRl hE hA ls st h r hf
  obtain ⟨hx, hb, hml, hown, hnm, hts⟩ := id X
  unfold im_if2 at hf
  split at hf
  · cases hf
    refine ⟨_, _, _, _, rfl, Nat.le_refl _, Nat.le_refl _, fun _ _ hk ρ H locs jl hp h0 hr hS hl hwl hws hbc hbs => ?_⟩
    refine lv_icmp_eq hx hb hd ht (fun hc => ?_) (fun hc => ?_)
    · rw [if_pos (decide_eq_true hc)] at hk
      exact hk ρ H locs jl hp h0 hr hS hl hwl hws.tail.tail hbc hbs
    · rw [if_neg (fun z => hc (of_decide_eq_true z))] at hk
      exact hk ρ H locs jl hp h0 hr hS hl hwl hws.tail.tail hbc hbs
  · cases hf

abbrev ic_ne (x y : Int32) : Bool := decide (x ≠ y)
theorem ok_icmp_ne {off : Int} {t : Nat} (ht : (pc : Int) + off = (t : Int)) (hd : decode cc pc = .ok (.if_icmp .ne off, 3)) : am_okN cl SH ξ cc nL own nm Ts E pc (im_if2 ic_ne t (pc + 3)) := by
  intro D dA p l e R s m args below meth c Q A ρ0 n0 bc bs X hRf hRl hE hA ls st h r hf
  obtain ⟨hx, hb, hml, hown, hnm, hts⟩ := id X
  unfold im_if2 at hf
  split at hf
  · cases hf
    refine ⟨_, _, _, _, rfl, Nat.le_refl _, Nat.le_refl _, fun _ _ hk ρ H locs jl hp h0 hr hS hl hwl hws hbc hbs => ?_⟩
    refine lv_icmp_ne hx hb hd ht (fun hc => ?_) (fun hc => ?_)
    · rw [if_pos (decide_eq_true hc)] at hk
      exact hk ρ H locs jl hp h0 hr hS hl hwl hws.tail.tail hbc hbs
    · rw [if_neg (fun z =>  (of_decide_eq_true z) hc)] at hk
      exact hk ρ H locs jl hp h0 hr hS hl hwl hws.tail.tail hbc hbs
  · cases hf

abbrev ic_lt (x y : Int32) : Bool := decide (x < y)
theorem ok_icmp_lt {off : Int} {t : Nat} (ht : (pc : Int) + off = (t : Int)) (hd : decode cc pc = .ok (.if_icmp .lt off, 3)) : am_okN cl SH ξ cc nL own nm Ts E pc (im_if2 ic_lt t (pc + 3)) := by
  intro D dA p l e R s m args below meth c Q A ρ0 n0 bc bs X hRf hRl hE hA ls st h r hf
  obtain ⟨hx, hb, hml, hown, hnm, hts⟩ := id X
  unfold im_if2 at hf
  split at hf
  · cases hf
    refine ⟨_, _, _, _, rfl, Nat.le_refl _, Nat.le_refl _, fun _ _ hk ρ H locs jl hp h0 hr hS hl hwl hws hbc hbs => ?_⟩
    refine lv_icmp_lt hx hb hd ht (fun hc => ?_) (fun hc => ?_)
    · rw [if_pos (decide_eq_true hc)] at hk
      exact hk ρ H locs jl hp h0 hr hS hl hwl hws.tail.tail hbc hbs
    · rw [if_neg (fun z => hc (of_decide_eq_true z))] at hk
      exact hk ρ H locs jl hp h0 hr hS hl hwl hws.tail.tail hbc hbs
  · cases hf

abbrev ic_ge (x y : Int32) : Bool := decide (y ≤ x)
theorem ok_icmp_ge {off : Int} {t : Nat} (ht : (pc : Int) + off = (t : Int)) (hd : decode cc pc = .ok (.if_icmp .ge off, 3)) : am_okN cl SH ξ cc nL own nm Ts E pc (im_if2 ic_ge t (pc + 3)) := by
  intro D dA p l e R s m args below meth c Q A ρ0 n0 bc bs X hRf hRl hE hA ls st h r hf
  obtain ⟨hx, hb, hml, hown, hnm, hts⟩ := id X
  unfold im_if2 at hf
  split at hf
  · cases hf
    refine ⟨_, _, _, _, rfl, Nat.le_refl _, Nat.le_refl _, fun _ _ hk ρ H locs jl hp h0 hr hS hl hwl hws hbc hbs => ?_⟩
    refine lv_icmp_ge hx hb hd ht (fun hc => ?_) (fun hc => ?_)
    · rw [if_pos (decide_eq_true hc)] at hk
      exact hk ρ H locs jl hp h0 hr hS hl hwl hws.tail.tail hbc hbs
    · rw [if_neg (fun z => hc (of_decide_eq_true z))] at hk
      exact hk ρ H locs jl hp h0 hr hS hl hwl hws.tail.tail hbc hbs
  · cases hf

abbrev ic_gt (x y : Int32) : Bool := decide (y < x)
theorem ok_icmp_gt {off : Int} {t : Nat} (ht : (pc : Int) + off = (t : Int)) (hd : decode cc pc = .ok (.if_icmp .gt off, 3)) : am_okN cl SH ξ cc nL own nm Ts E pc (im_if2 ic_gt t (pc + 3)) := by
  intro D dA p l e R s m args below meth c Q A ρ0 n0 bc bs X hRf hRl hE hA ls st h r hf
  obtain ⟨hx, hb, hml, hown, hnm, hts⟩ := id X
  unfold im_if2 at hf
  split at hf
  · cases hf
    refine ⟨_, _, _, _, rfl, Nat.le_refl _, Nat.le_refl _, fun _ _ hk ρ H locs jl hp h0 hr hS hl hwl hws hbc hbs => ?_⟩
    refine lv_icmp_gt hx hb hd ht (fun hc => ?_) (fun hc => ?_)
    · rw [if_pos (decide_eq_true hc)] at hk
      exact hk ρ H locs jl hp h0 hr hS hl hwl hws.tail.tail hbc hbs
    · rw [if_neg (fun z => hc (of_decide_eq_true z))] at hk
      exact hk ρ H locs jl hp h0 hr hS hl hwl hws.tail.tail hbc hbs
  · cases hf

abbrev ic_le (x y : Int32) : Bool := decide (x ≤ y)
theorem ok_icmp_le {off : Int} {t : Nat} (ht : (pc : Int) + off = (t : Int)) (hd : decode cc pc = .ok (.if_icmp .le off, 3)) : am_okN cl SH ξ cc nL own nm Ts E pc (im_if2 ic_le t (pc + 3)) := by
  intro D dA p l e R s m args below meth c Q A ρ0 n0 bc bs X hRf hRl hE hA ls st h r hf
  obtain ⟨hx, hb, hml, hown, hnm, hts⟩ := id X
  unfold im_if2 at hf
  split at hf
  · cases hf
    refine ⟨_, _, _, _, rfl, Nat.le_refl _, Nat.le_refl _, fun _ _ hk ρ H locs jl hp h0 hr hS hl hwl hws hbc hbs => ?_⟩
    refine lv_icmp_le hx hb hd ht (fun hc => ?_) (fun hc => ?_)
    · rw [if_pos (decide_eq_true hc)] at hk
      exact hk ρ H locs jl hp h0 hr hS hl hwl hws.tail.tail hbc hbs
    · rw [if_neg (fun z => hc (of_decide_eq_true z))] at hk
      exact hk ρ H locs jl hp h0 hr hS hl hwl hws.tail.tail hbc hbs
  · cases hf

end Steps

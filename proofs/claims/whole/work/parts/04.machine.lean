/-! ===== a little machine over numbered cells, and what its steps owe to the real one ===== -/
/-- a cell's shape: an array (type, length) or an object of a class by its number -/
abbrev am_S : Type := (FieldType × Nat) ⊕ Nat
/-- how many cells, the fields that are references, how many cells and slots were made -/
abbrev am_G : Type := Nat × (Nat → Nat → Option Nat) × Nat × Nat
abbrev am_H : Type := am_G × (Nat → Nat → Int32) × (Nat → Nat → Int64)
abbrev am_O : Type := Option Value ⊕ Nat
/-- next | a call | the end -/
abbrev am_R : Type := (Nat × List Value × List Value × am_H) ⊕ ((Nat × List Value × Nat × List Value × List Value) ⊕ (am_O × am_H))
abbrev am_F : Type := List Value → List Value → am_H → Option am_R
def am_kdS (d : String) : Nat := if d = "J" then 1 else if d = "I" ∨ d = "Z" ∨ d = "B" then 0 else 2
def am_kd (cl : List vw_C) (ci k : Nat) : Nat := match cl[ci]? with
  | some q => am_kdS (q.2.1 k).2.2.1
  | none => 2
def am_N (cl : List vw_C) (ci : Nat) : Nat := match cl[ci]? with
  | some q => q.2.2
  | none => 0
def am_fv (cl : List vw_C) (ρ : Nat → Nat) (ci i : Nat) (h : am_H) (k : Nat) : Value := match am_kd cl ci k with
  | 0 => .int (h.2.1 i k)
  | 1 => .long (h.2.2 i k)
  | _ => va_rf ((h.1.2.1 i k).map ρ)
def am_fs (cl : List vw_C) (ρ : Nat → Nat) (ci i : Nat) (h : am_H) : List Value := (List.range (am_N cl ci)).map (am_fv cl ρ ci i h)
def am_ce (cl : List vw_C) (ρ : Nat → Nat) (dA : FieldType → ClassId) (sh : am_S) (i : Nat) (h : am_H) : va_E := match sh with
  | .inl a => .inl (dA a.1, a.2, if a.1 = .long then .inr (.inl (h.2.2 i)) else .inl (h.2.1 i))
  | .inr ci => .inr (ci, am_fs cl ρ ci i h)
def am_ws (cl : List vw_C) (SH : Nat → am_S) (ρ : Nat → Nat) (dA : FieldType → ClassId) (h : am_H) : va_W := (List.range h.1.1).map (fun i => (ρ i, am_ce cl ρ dA (SH i) i h))
def am_u {α : Type} (I : Nat → Nat → α) (i k : Nat) (x : α) : Nat → Nat → α := fun a b => if a = i ∧ b = k then x else I a b
theorem am_u_row {α : Type} (I : Nat → Nat → α) (i k : Nat) (x : α) {j : Nat} (hj : j ≠ i) : am_u I i k x j = I j := by
  funext b
  exact if_neg (fun z => hj z.1)
theorem am_u_eq (I : Nat → Nat → Int32) (i k : Nat) (x : Int32) : am_u I i k x i = upd (I i) k x := by
  funext b
  by_cases hb : b = k
  · simp [am_u, upd, hb]
  · simp [am_u, upd, hb]
theorem am_u_eqL (I : Nat → Nat → Int64) (i k : Nat) (x : Int64) : am_u I i k x i = vp_updL (I i) k x := by
  funext b
  by_cases hb : b = k
  · simp [am_u, vp_updL, hb]
  · simp [am_u, vp_updL, hb]
theorem am_u_same {α : Type} {I : Nat → Nat → α} {i k : Nat} {x : α} : am_u I i k x i k = x := if_pos ⟨rfl, rfl⟩
theorem am_u_ne {α : Type} {I : Nat → Nat → α} {i k a b : Nat} {x : α} (h : a ≠ i ∨ b ≠ k) : am_u I i k x a b = I a b := if_neg (fun z => h.elim (fun q => q z.1) (fun q => q z.2))
theorem am_ws_get {cl : List vw_C} {SH : Nat → am_S} {ρ : Nat → Nat} {dA : FieldType → ClassId} {h : am_H} {i : Nat} (hi : i < h.1.1) : (am_ws cl SH ρ dA h)[i]? = some (ρ i, am_ce cl ρ dA (SH i) i h) := by
  simp [am_ws, hi]
theorem am_fs_get {cl : List vw_C} {ρ : Nat → Nat} {ci i : Nat} {h : am_H} {k : Nat} (hk : k < am_N cl ci) : (am_fs cl ρ ci i h)[k]? = some (am_fv cl ρ ci i h k) := by
  simp [am_fs, hk]
theorem am_fs_len {cl : List vw_C} {ρ : Nat → Nat} {ci i : Nat} {h : am_H} : (am_fs cl ρ ci i h).length = am_N cl ci := by simp [am_fs]
theorem am_ce_congr {cl : List vw_C} {ρ : Nat → Nat} {dA : FieldType → ClassId} {sh : am_S} {i : Nat} {h h' : am_H} (h1 : h'.2.1 i = h.2.1 i) (h2 : h'.2.2 i = h.2.2 i) (h3 : h'.1.2.1 i = h.1.2.1 i) : am_ce cl ρ dA sh i h' = am_ce cl ρ dA sh i h := by
  cases sh with
  | inl a => simp only [am_ce, h1, h2]
  | inr ci =>
    simp only [am_ce, am_fs]
    congr 3
    funext k
    simp only [am_fv, h1, h2, h3]
theorem am_ws_set {cl : List vw_C} {SH : Nat → am_S} {ρ : Nat → Nat} {dA : FieldType → ClassId} {h h' : am_H} {i : Nat} {x : va_E} (hn : h'.1.1 = h.1.1) (hx : am_ce cl ρ dA (SH i) i h' = x)
    (ho : ∀ j, j ≠ i → am_ce cl ρ dA (SH j) j h' = am_ce cl ρ dA (SH j) j h) : (am_ws cl SH ρ dA h).set i (ρ i, x) = am_ws cl SH ρ dA h' := by
  apply List.ext_getElem?
  intro j
  by_cases hj : j < h.1.1
  · rw [am_ws_get (by rw [hn]; exact hj)]
    by_cases hji : j = i
    · subst hji
      rw [List.getElem?_set_self (by simp [am_ws, hj]), hx]
    · rw [List.getElem?_set_ne (Ne.symm hji), am_ws_get hj, ho j hji]
  · have e1 : (am_ws cl SH ρ dA h').length ≤ j := by simp [am_ws, hn]; omega
    have e2 : ((am_ws cl SH ρ dA h).set i (ρ i, x)).length ≤ j := by simp [am_ws]; omega
    rw [List.getElem?_eq_none e1, List.getElem?_eq_none e2]
/-- values: a reference is a cell's number, retAddr e an object outside (retAddr 0: nothing known) -/
def am_cv (ρ ξ : Nat → Nat) : Value → Value
  | .ref i => .ref (ρ i)
  | .retAddr e => .ref (ξ e)
  | v => v
def am_wv (n : Nat) (v : Value) : Prop := ∀ i, v = .ref i → i < n
def am_wl (n : Nat) (l : List Value) : Prop := ∀ v ∈ l, am_wv n v
theorem am_wl.cons {n : Nat} {v : Value} {l : List Value} (h1 : am_wv n v) (h2 : am_wl n l) : am_wl n (v :: l) := fun w hw => (List.mem_cons.mp hw).elim (fun q => by rw [q]; exact h1) (h2 w)
theorem am_wl.tail {n : Nat} {v : Value} {l : List Value} (h : am_wl n (v :: l)) : am_wl n l := fun w hw => h w (List.mem_cons_of_mem _ hw)
theorem am_wl.head {n : Nat} {v : Value} {l : List Value} (h : am_wl n (v :: l)) : am_wv n v := h v List.mem_cons_self
theorem am_wv.int {n : Nat} {x : Int32} : am_wv n (.int x) := fun _ h => by cases h
theorem am_wv.long {n : Nat} {x : Int64} : am_wv n (.long x) := fun _ h => by cases h
theorem am_wv.ext {n e : Nat} : am_wv n (.retAddr e) := fun _ h => by cases h
theorem am_wv.ref {n i : Nat} (h : i < n) : am_wv n (.ref i) := fun j q => by cases q; exact h
theorem am_wv.up {n n' : Nat} {v : Value} (h : am_wv n v) (hn : n ≤ n') : am_wv n' v := fun i q => Nat.lt_of_lt_of_le (h i q) hn
theorem am_wl.up {n n' : Nat} {l : List Value} (h : am_wl n l) (hn : n ≤ n') : am_wl n' l := fun v hv => (h v hv).up hn
theorem am_wl.nil {n : Nat} : am_wl n [] := fun _ h => by cases h
theorem am_wl.get {n i : Nat} {l : List Value} {v : Value} (h : am_wl n l) (hv : l[i]? = some v) : am_wv n v := h v (List.mem_of_getElem? hv)
/-! locals -/
def am_lv (ρ ξ : Nat → Nat) (nL : Nat) (ls : List Value) (jl : Array Slot) : Prop := ls.length = nL ∧ jl.size = nL ∧ lv_wf jl ∧ ∀ (i : Nat) (v : Value), ls[i]? = some v → v ≠ .retAddr 0 → jl[i]? = some (.val (am_cv ρ ξ v))
def am_clr (ls : List Value) : Nat → List Value
  | 0 => ls
  | j + 1 => match ls[j]? with
    | some (.long _) => ls.set j (.retAddr 0)
    | some (.double _) => ls.set j (.retAddr 0)
    | _ => ls
def am_set (ls : List Value) (j : Nat) (v : Value) : List Value := (am_clr ls j).set j v
def am_set2 (ls : List Value) (j : Nat) (v : Value) : List Value := ((am_clr ls j).set j v).set (j + 1) (.retAddr 0)
def am_as1 (ρ ξ : Nat → Nat) (ls : List Value) (i : Nat) : Option (Nat × Value) := match ls[i]? with
  | some v => if v = .retAddr 0 then none else some (i, am_cv ρ ξ v)
  | none => none
def am_as (ρ ξ : Nat → Nat) (ls : List Value) : List (Nat × Value) := (List.range ls.length).filterMap (am_as1 ρ ξ ls)
theorem am_as_mem {ρ ξ : Nat → Nat} {ls : List Value} {q : Nat × Value} (h : q ∈ am_as ρ ξ ls) : ∃ v, ls[q.1]? = some v ∧ v ≠ .retAddr 0 ∧ q.2 = am_cv ρ ξ v := by
  obtain ⟨i, -, hi⟩ := List.mem_filterMap.mp h
  unfold am_as1 at hi
  split at hi
  · rename_i v hv
    split at hi
    · cases hi
    · rename_i hne
      cases hi
      exact ⟨v, hv, hne, rfl⟩
  · cases hi
theorem am_mem_as {ρ ξ : Nat → Nat} {ls : List Value} {i : Nat} {v : Value} (h : ls[i]? = some v) (hv : v ≠ .retAddr 0) : (i, am_cv ρ ξ v) ∈ am_as ρ ξ ls := by
  refine List.mem_filterMap.mpr ⟨i, List.mem_range.mpr (List.getElem?_eq_some_iff.mp h).1, ?_⟩
  unfold am_as1
  rw [h]
  exact if_neg hv
theorem am_lv.has {ρ ξ : Nat → Nat} {nL : Nat} {ls : List Value} {jl : Array Slot} (h : am_lv ρ ξ nL ls jl) : lv_has jl nL (am_as ρ ξ ls) := by
  refine ⟨h.2.1, h.2.2.1, fun q hq => ?_⟩
  obtain ⟨v, h1, h2, h3⟩ := am_as_mem hq
  rw [h3]
  exact h.2.2.2 _ _ h1 h2
theorem am_clr_len (ls : List Value) (j : Nat) : (am_clr ls j).length = ls.length := by
  unfold am_clr
  split
  · rfl
  · split
    · simp
    · simp
    · rfl
theorem am_clr_get {ls : List Value} {j i : Nat} {v : Value} (h : (am_clr ls j)[i]? = some v) (hv : v ≠ .retAddr 0) : ls[i]? = some v ∧ ¬ (i + 1 = j ∧ v.category = 2) := by
  cases j with
  | zero => exact ⟨h, fun z => by omega⟩
  | succ j =>
    simp only [am_clr] at h
    split at h
    · rename_i x hx
      by_cases hij : i = j
      · subst hij
        rw [List.getElem?_set_self (List.getElem?_eq_some_iff.mp hx).1] at h
        cases h
        exact absurd rfl hv
      · rw [List.getElem?_set_ne (Ne.symm hij)] at h
        exact ⟨h, fun z => hij (by omega)⟩
    · rename_i x hx
      by_cases hij : i = j
      · subst hij
        rw [List.getElem?_set_self (List.getElem?_eq_some_iff.mp hx).1] at h
        cases h
        exact absurd rfl hv
      · rw [List.getElem?_set_ne (Ne.symm hij)] at h
        exact ⟨h, fun z => hij (by omega)⟩
    · rename_i hx hx2
      refine ⟨h, fun z => ?_⟩
      have hij : i = j := by omega
      subst hij
      cases v <;> first | exact absurd h (hx _) | exact absurd h (hx2 _) | exact absurd z.2 (by decide) | (simp [Value.category] at z)
theorem am_cv_cat (ρ ξ : Nat → Nat) (v : Value) : (am_cv ρ ξ v).category = v.category := by
  cases v <;> rfl
theorem am_lv.store {ρ ξ : Nat → Nat} {nL j : Nat} {ls : List Value} {jl jl' : Array Slot} {v w : Value} (h : am_lv ρ ξ nL ls jl) (hw : w = am_cv ρ ξ v)
    (h' : lv_has jl' nL ((j, w) :: (am_as ρ ξ ls).filter (fun q => !(q.1 == j) && !(q.1 + 1 == j && q.2.category == 2)))) : am_lv ρ ξ nL (am_set ls j v) jl' := by
  subst hw
  refine ⟨by rw [am_set, List.length_set, am_clr_len]; exact h.1, h'.1, h'.2.1, fun i u hu hne => ?_⟩
  by_cases hij : i = j
  · subst hij
    have hlt : i < (am_clr ls i).length := by
      have := (List.getElem?_eq_some_iff.mp hu).1
      rwa [am_set, List.length_set] at this
    rw [am_set, List.getElem?_set_self hlt] at hu
    cases hu
    exact h'.2.2 (i, am_cv ρ ξ v) List.mem_cons_self
  · rw [am_set, List.getElem?_set_ne (Ne.symm hij)] at hu
    obtain ⟨g1, g2⟩ := am_clr_get hu hne
    refine h'.2.2 (i, am_cv ρ ξ u) (List.mem_cons_of_mem _ (List.mem_filter.mpr ⟨am_mem_as g1 hne, ?_⟩))
    simp only [Bool.and_eq_true, Bool.not_eq_true', beq_eq_false_iff_ne, ne_eq, Bool.and_eq_false_iff]
    refine ⟨hij, ?_⟩
    by_cases hc : i + 1 = j
    · exact Or.inr (fun z => g2 ⟨hc, by rw [am_cv_cat] at z; exact z⟩)
    · exact Or.inl hc
theorem am_lv.store2 {ρ ξ : Nat → Nat} {nL j : Nat} {ls : List Value} {jl jl' : Array Slot} {v w : Value} (h : am_lv ρ ξ nL ls jl) (hw : w = am_cv ρ ξ v)
    (h' : lv_has jl' nL ((j, w) :: (am_as ρ ξ ls).filter (fun q => !(q.1 == j) && (!(q.1 == j + 1) && !(q.1 + 1 == j && q.2.category == 2))))) : am_lv ρ ξ nL (am_set2 ls j v) jl' := by
  subst hw
  refine ⟨by rw [am_set2, List.length_set, List.length_set, am_clr_len]; exact h.1, h'.1, h'.2.1, fun i u hu hne => ?_⟩
  by_cases hij1 : i = j + 1
  · subst hij1
    have hlt : j + 1 < ((am_clr ls j).set j v).length := by
      have := (List.getElem?_eq_some_iff.mp hu).1
      rwa [am_set2, List.length_set] at this
    rw [am_set2, List.getElem?_set_self hlt] at hu
    cases hu
    exact absurd rfl hne
  · rw [am_set2, List.getElem?_set_ne (Ne.symm hij1)] at hu
    by_cases hij : i = j
    · subst hij
      have hlt : i < (am_clr ls i).length := by
        have := (List.getElem?_eq_some_iff.mp hu).1
        rwa [List.length_set] at this
      rw [List.getElem?_set_self hlt] at hu
      cases hu
      exact h'.2.2 (i, am_cv ρ ξ v) List.mem_cons_self
    · rw [List.getElem?_set_ne (Ne.symm hij)] at hu
      obtain ⟨g1, g2⟩ := am_clr_get hu hne
      refine h'.2.2 (i, am_cv ρ ξ u) (List.mem_cons_of_mem _ (List.mem_filter.mpr ⟨am_mem_as g1 hne, ?_⟩))
      simp only [Bool.and_eq_true, Bool.not_eq_true', beq_eq_false_iff_ne, ne_eq, Bool.and_eq_false_iff]
      refine ⟨hij, hij1, ?_⟩
      by_cases hc : i + 1 = j
      · exact Or.inr (fun z => g2 ⟨hc, by rw [am_cv_cat] at z; exact z⟩)
      · exact Or.inl hc
theorem am_wl.set {n j : Nat} {ls : List Value} {v : Value} (h : am_wl n ls) (hv : am_wv n v) : am_wl n (am_set ls j v) := by
  intro w hw
  rcases List.mem_or_eq_of_mem_set hw with h1 | h1
  · by_cases hz : w = .retAddr 0
    · rw [hz]; exact am_wv.ext
    · obtain ⟨i, hi⟩ := List.getElem?_of_mem h1
      exact h.get (am_clr_get hi hz).1
  · rw [h1]; exact hv
theorem am_wl.set2 {n j : Nat} {ls : List Value} {v : Value} (h : am_wl n ls) (hv : am_wv n v) : am_wl n (am_set2 ls j v) := by
  intro w hw
  rcases List.mem_or_eq_of_mem_set hw with h1 | h1
  · exact h.set hv w h1
  · rw [h1]; exact am_wv.ext
/-! the world of a state of the little machine -/
def am_wf (h : am_H) : Prop := ∀ i k j, h.1.2.1 i k = some j → j < h.1.1
def am_ty (dA : FieldType → ClassId) : List (ClassId × FieldType) := [(dA .int, .int), (dA .byte, .byte), (dA .boolean, .boolean), (dA .long, .long)]
def am_pic (cl : List vw_C) (SH : Nat → am_S) (D : va_G) (dA : FieldType → ClassId) (ρ : Nat → Nat) (h : am_H) (A : Nat → Prop) (s : State) (H : Heap) : Prop :=
  va_P D cl (am_ws cl SH ρ dA h) H ∧ va_D A (am_ws cl SH ρ dA h) ∧ va_K D cl (am_ty dA) s ∧ am_wf h
def am_W (cl : List vw_C) (SH : Nat → am_S) (D : va_G) (dA : FieldType → ClassId) (ξ : Nat → Nat) (p : Program) (l : Launch) (e : Env) (R : Room) (s : State) (m : MethodId) (args : Array Value) (below : List Frame) (meth : Method) (c : Code) (Q : State → Prop)
    (A : Nat → Prop) (ρ0 : Nat → Nat) (n0 bc bs nL : Nat) (pc : Nat) (ls st : List Value) (h : am_H) : Prop :=
  ∀ (ρ : Nat → Nat) (H : Heap) (locs : List Loc) (jl : Array Slot), am_pic cl SH D dA ρ h A s H → n0 ≤ h.1.1 → (∀ i, i < n0 → ρ i = ρ0 i) → va_S A s.heap H locs → am_lv ρ ξ nL ls jl → am_wl h.1.1 ls → am_wl h.1.1 st → bc ≤ h.1.2.2.1 → bs ≤ h.1.2.2.2 →
    W p l e R s m args below meth c H locs (h.1.2.2.1 - bc) (h.1.2.2.2 - bs) Q (F0 m pc jl (st.map (am_cv ρ ξ)))
/-- what holds in an activation of a method -/
def am_X (cc : ByteArray) (nL : Nat) (own nm : String) (p : Program) (s : State) (m : MethodId) (args : Array Value) (meth : Method) (c : Code) (Ts : List Cond) : Prop :=
  p.tables.exec = Jvm.exec ∧ c.code = cc ∧ c.maxLocals = nL ∧ s.vm.findClass own = some m.cls ∧ meth.name = nm ∧ ∀ w ∈ Ts, w.before args s = true

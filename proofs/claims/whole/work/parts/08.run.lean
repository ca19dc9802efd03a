/-! ===== calls and ends ===== -/
def am_cat (l : List Value) : Nat := (l.map fun v => v.category).sum
def am_c1 (l : List Value) : Bool := l.all (fun v => v.category == 1)
def am_leH (h h' : am_H) : Prop := h.1.1 ≤ h'.1.1 ∧ h.1.2.2.1 ≤ h'.1.2.2.1 ∧ h.1.2.2.2 ≤ h'.1.2.2.2
theorem am_leH.rf (h : am_H) : am_leH h h := ⟨Nat.le_refl _, Nat.le_refl _, Nat.le_refl _⟩
theorem am_leH.tr {a b c : am_H} (h1 : am_leH a b) (h2 : am_leH b c) : am_leH a c := ⟨Nat.le_trans h1.1 h2.1, Nat.le_trans h1.2.1 h2.2.1, Nat.le_trans h1.2.2 h2.2.2⟩
def am_le (h : am_H) (r : am_R) : Prop := match r with
  | .inl x => am_leH h x.2.2.2
  | .inr (.inl _) => True
  | .inr (.inr x) => am_leH h x.2
def am_mo (f : am_F) : Prop := ∀ (ls st : List Value) (h : am_H) (r : am_R), f ls st h = some r → am_le h r
def im_invs (k n t : Nat) : am_F := fun ls st h => if n ≤ st.length ∧ am_cat (st.drop n) ≤ 8 ∧ am_c1 (st.take n) = true then some (.inr (.inl (k, (st.take n).reverse, t, ls, st.drop n))) else none
def im_inv (SH : Nat → am_S) (ci k n t : Nat) : am_F := fun ls st h => match st.drop n with
  | .ref i :: r => if n ≤ st.length ∧ am_cat r ≤ 8 ∧ SH i = .inr ci ∧ am_c1 (st.take n) = true then some (.inr (.inl (k, .ref i :: (st.take n).reverse, t, ls, r))) else none
  | _ => none
def im_ret0 : am_F := fun ls st h => some (.inr (.inr (.inl none, h)))
def im_reti : am_F := fun ls st h => match st with
  | [.int x] => some (.inr (.inr (.inl (some (.int x)), h)))
  | _ => none
def im_retz : am_F := fun ls st h => match st with
  | [.int x] => if x = 0 ∨ x = 1 then some (.inr (.inr (.inl (some (.int x)), h))) else none
  | _ => none
def im_retl : am_F := fun ls st h => match st with
  | [.long x] => some (.inr (.inr (.inl (some (.long x)), h)))
  | _ => none
def im_reta : am_F := fun ls st h => match st with
  | [.ref x] => some (.inr (.inr (.inl (some (.ref x)), h)))
  | _ => none
def am_thr (h : am_H) : am_H := ((h.1.1, h.1.2.1, h.1.2.2.1 + 1, h.1.2.2.2 + 6), h.2)
def im_thr (x : Nat) : am_F := fun ls st h => match st with
  | [] => some (.inr (.inr (.inr x, am_thr h)))
  | _ => none
def im_sw (g : Int32 → Option Nat) : am_F := fun ls st h => match st with
  | .int x :: r => (match g x with
    | some t => some (.inl (t, ls, r, h))
    | none => none)
  | _ => none
theorem mo_ic (v : Int32) (t : Nat) : am_mo (im_ic v t) := by
  intro ls st h r hf
  unfold im_ic at hf
  first
  | (cases hf; exact am_leH.rf _)
  | (repeat' split at hf) <;> first
    | (cases hf; exact am_leH.rf _)
    | (cases hf; exact trivial)
    | (cases hf; exact ⟨Nat.le_succ _, Nat.le_succ _, Nat.le_add_right _ _⟩)
    | (cases hf; exact ⟨Nat.le_refl _, Nat.le_succ _, Nat.le_add_right _ _⟩)
    | (cases hf; done)
theorem mo_lc (v : Int64) (t : Nat) : am_mo (im_lc v t) := by
  intro ls st h r hf
  unfold im_lc at hf
  first
  | (cases hf; exact am_leH.rf _)
  | (repeat' split at hf) <;> first
    | (cases hf; exact am_leH.rf _)
    | (cases hf; exact trivial)
    | (cases hf; exact ⟨Nat.le_succ _, Nat.le_succ _, Nat.le_add_right _ _⟩)
    | (cases hf; exact ⟨Nat.le_refl _, Nat.le_succ _, Nat.le_add_right _ _⟩)
    | (cases hf; done)
theorem mo_il (j t : Nat) : am_mo (im_il j t) := by
  intro ls st h r hf
  unfold im_il at hf
  first
  | (cases hf; exact am_leH.rf _)
  | (repeat' split at hf) <;> first
    | (cases hf; exact am_leH.rf _)
    | (cases hf; exact trivial)
    | (cases hf; exact ⟨Nat.le_succ _, Nat.le_succ _, Nat.le_add_right _ _⟩)
    | (cases hf; exact ⟨Nat.le_refl _, Nat.le_succ _, Nat.le_add_right _ _⟩)
    | (cases hf; done)
theorem mo_ll (j t : Nat) : am_mo (im_ll j t) := by
  intro ls st h r hf
  unfold im_ll at hf
  first
  | (cases hf; exact am_leH.rf _)
  | (repeat' split at hf) <;> first
    | (cases hf; exact am_leH.rf _)
    | (cases hf; exact trivial)
    | (cases hf; exact ⟨Nat.le_succ _, Nat.le_succ _, Nat.le_add_right _ _⟩)
    | (cases hf; exact ⟨Nat.le_refl _, Nat.le_succ _, Nat.le_add_right _ _⟩)
    | (cases hf; done)
theorem mo_al (j t : Nat) : am_mo (im_al j t) := by
  intro ls st h r hf
  unfold im_al at hf
  first
  | (cases hf; exact am_leH.rf _)
  | (repeat' split at hf) <;> first
    | (cases hf; exact am_leH.rf _)
    | (cases hf; exact trivial)
    | (cases hf; exact ⟨Nat.le_succ _, Nat.le_succ _, Nat.le_add_right _ _⟩)
    | (cases hf; exact ⟨Nat.le_refl _, Nat.le_succ _, Nat.le_add_right _ _⟩)
    | (cases hf; done)
theorem mo_is (j t : Nat) : am_mo (im_is j t) := by
  intro ls st h r hf
  unfold im_is at hf
  first
  | (cases hf; exact am_leH.rf _)
  | (repeat' split at hf) <;> first
    | (cases hf; exact am_leH.rf _)
    | (cases hf; exact trivial)
    | (cases hf; exact ⟨Nat.le_succ _, Nat.le_succ _, Nat.le_add_right _ _⟩)
    | (cases hf; exact ⟨Nat.le_refl _, Nat.le_succ _, Nat.le_add_right _ _⟩)
    | (cases hf; done)
theorem mo_ls (j t : Nat) : am_mo (im_ls j t) := by
  intro ls st h r hf
  unfold im_ls at hf
  first
  | (cases hf; exact am_leH.rf _)
  | (repeat' split at hf) <;> first
    | (cases hf; exact am_leH.rf _)
    | (cases hf; exact trivial)
    | (cases hf; exact ⟨Nat.le_succ _, Nat.le_succ _, Nat.le_add_right _ _⟩)
    | (cases hf; exact ⟨Nat.le_refl _, Nat.le_succ _, Nat.le_add_right _ _⟩)
    | (cases hf; done)
theorem mo_as (j t : Nat) : am_mo (im_as j t) := by
  intro ls st h r hf
  unfold im_as at hf
  first
  | (cases hf; exact am_leH.rf _)
  | (repeat' split at hf) <;> first
    | (cases hf; exact am_leH.rf _)
    | (cases hf; exact trivial)
    | (cases hf; exact ⟨Nat.le_succ _, Nat.le_succ _, Nat.le_add_right _ _⟩)
    | (cases hf; exact ⟨Nat.le_refl _, Nat.le_succ _, Nat.le_add_right _ _⟩)
    | (cases hf; done)
theorem mo_iinc (j : Nat) (n : Int32) (t : Nat) : am_mo (im_iinc j n t) := by
  intro ls st h r hf
  unfold im_iinc at hf
  first
  | (cases hf; exact am_leH.rf _)
  | (repeat' split at hf) <;> first
    | (cases hf; exact am_leH.rf _)
    | (cases hf; exact trivial)
    | (cases hf; exact ⟨Nat.le_succ _, Nat.le_succ _, Nat.le_add_right _ _⟩)
    | (cases hf; exact ⟨Nat.le_refl _, Nat.le_succ _, Nat.le_add_right _ _⟩)
    | (cases hf; done)
theorem mo_bin (g : Int32 → Int32 → Int32) (t : Nat) : am_mo (im_bin g t) := by
  intro ls st h r hf
  unfold im_bin at hf
  first
  | (cases hf; exact am_leH.rf _)
  | (repeat' split at hf) <;> first
    | (cases hf; exact am_leH.rf _)
    | (cases hf; exact trivial)
    | (cases hf; exact ⟨Nat.le_succ _, Nat.le_succ _, Nat.le_add_right _ _⟩)
    | (cases hf; exact ⟨Nat.le_refl _, Nat.le_succ _, Nat.le_add_right _ _⟩)
    | (cases hf; done)
theorem mo_div (g : Int32 → Int32 → Int32) (t : Nat) : am_mo (im_div g t) := by
  intro ls st h r hf
  unfold im_div at hf
  first
  | (cases hf; exact am_leH.rf _)
  | (repeat' split at hf) <;> first
    | (cases hf; exact am_leH.rf _)
    | (cases hf; exact trivial)
    | (cases hf; exact ⟨Nat.le_succ _, Nat.le_succ _, Nat.le_add_right _ _⟩)
    | (cases hf; exact ⟨Nat.le_refl _, Nat.le_succ _, Nat.le_add_right _ _⟩)
    | (cases hf; done)
theorem mo_un (g : Int32 → Int32) (t : Nat) : am_mo (im_un g t) := by
  intro ls st h r hf
  unfold im_un at hf
  first
  | (cases hf; exact am_leH.rf _)
  | (repeat' split at hf) <;> first
    | (cases hf; exact am_leH.rf _)
    | (cases hf; exact trivial)
    | (cases hf; exact ⟨Nat.le_succ _, Nat.le_succ _, Nat.le_add_right _ _⟩)
    | (cases hf; exact ⟨Nat.le_refl _, Nat.le_succ _, Nat.le_add_right _ _⟩)
    | (cases hf; done)
theorem mo_lbin (g : Int64 → Int64 → Int64) (t : Nat) : am_mo (im_lbin g t) := by
  intro ls st h r hf
  unfold im_lbin at hf
  first
  | (cases hf; exact am_leH.rf _)
  | (repeat' split at hf) <;> first
    | (cases hf; exact am_leH.rf _)
    | (cases hf; exact trivial)
    | (cases hf; exact ⟨Nat.le_succ _, Nat.le_succ _, Nat.le_add_right _ _⟩)
    | (cases hf; exact ⟨Nat.le_refl _, Nat.le_succ _, Nat.le_add_right _ _⟩)
    | (cases hf; done)
theorem mo_lsh (g : Int64 → Int32 → Int64) (t : Nat) : am_mo (im_lsh g t) := by
  intro ls st h r hf
  unfold im_lsh at hf
  first
  | (cases hf; exact am_leH.rf _)
  | (repeat' split at hf) <;> first
    | (cases hf; exact am_leH.rf _)
    | (cases hf; exact trivial)
    | (cases hf; exact ⟨Nat.le_succ _, Nat.le_succ _, Nat.le_add_right _ _⟩)
    | (cases hf; exact ⟨Nat.le_refl _, Nat.le_succ _, Nat.le_add_right _ _⟩)
    | (cases hf; done)
theorem mo_lcmp (t : Nat) : am_mo (im_lcmp t) := by
  intro ls st h r hf
  unfold im_lcmp at hf
  first
  | (cases hf; exact am_leH.rf _)
  | (repeat' split at hf) <;> first
    | (cases hf; exact am_leH.rf _)
    | (cases hf; exact trivial)
    | (cases hf; exact ⟨Nat.le_succ _, Nat.le_succ _, Nat.le_add_right _ _⟩)
    | (cases hf; exact ⟨Nat.le_refl _, Nat.le_succ _, Nat.le_add_right _ _⟩)
    | (cases hf; done)
theorem mo_i2l (t : Nat) : am_mo (im_i2l t) := by
  intro ls st h r hf
  unfold im_i2l at hf
  first
  | (cases hf; exact am_leH.rf _)
  | (repeat' split at hf) <;> first
    | (cases hf; exact am_leH.rf _)
    | (cases hf; exact trivial)
    | (cases hf; exact ⟨Nat.le_succ _, Nat.le_succ _, Nat.le_add_right _ _⟩)
    | (cases hf; exact ⟨Nat.le_refl _, Nat.le_succ _, Nat.le_add_right _ _⟩)
    | (cases hf; done)
theorem mo_dup (t : Nat) : am_mo (im_dup t) := by
  intro ls st h r hf
  unfold im_dup at hf
  first
  | (cases hf; exact am_leH.rf _)
  | (repeat' split at hf) <;> first
    | (cases hf; exact am_leH.rf _)
    | (cases hf; exact trivial)
    | (cases hf; exact ⟨Nat.le_succ _, Nat.le_succ _, Nat.le_add_right _ _⟩)
    | (cases hf; exact ⟨Nat.le_refl _, Nat.le_succ _, Nat.le_add_right _ _⟩)
    | (cases hf; done)
theorem mo_dup2 (t : Nat) : am_mo (im_dup2 t) := by
  intro ls st h r hf
  unfold im_dup2 at hf
  first
  | (cases hf; exact am_leH.rf _)
  | (repeat' split at hf) <;> first
    | (cases hf; exact am_leH.rf _)
    | (cases hf; exact trivial)
    | (cases hf; exact ⟨Nat.le_succ _, Nat.le_succ _, Nat.le_add_right _ _⟩)
    | (cases hf; exact ⟨Nat.le_refl _, Nat.le_succ _, Nat.le_add_right _ _⟩)
    | (cases hf; done)
theorem mo_pop (t : Nat) : am_mo (im_pop t) := by
  intro ls st h r hf
  unfold im_pop at hf
  first
  | (cases hf; exact am_leH.rf _)
  | (repeat' split at hf) <;> first
    | (cases hf; exact am_leH.rf _)
    | (cases hf; exact trivial)
    | (cases hf; exact ⟨Nat.le_succ _, Nat.le_succ _, Nat.le_add_right _ _⟩)
    | (cases hf; exact ⟨Nat.le_refl _, Nat.le_succ _, Nat.le_add_right _ _⟩)
    | (cases hf; done)
theorem mo_go (t : Nat) : am_mo (im_go t) := by
  intro ls st h r hf
  unfold im_go at hf
  first
  | (cases hf; exact am_leH.rf _)
  | (repeat' split at hf) <;> first
    | (cases hf; exact am_leH.rf _)
    | (cases hf; exact trivial)
    | (cases hf; exact ⟨Nat.le_succ _, Nat.le_succ _, Nat.le_add_right _ _⟩)
    | (cases hf; exact ⟨Nat.le_refl _, Nat.le_succ _, Nat.le_add_right _ _⟩)
    | (cases hf; done)
theorem mo_if1 (g : Int32 → Bool) (t u : Nat) : am_mo (im_if1 g t u) := by
  intro ls st h r hf
  unfold im_if1 at hf
  first
  | (cases hf; exact am_leH.rf _)
  | (repeat' split at hf) <;> first
    | (cases hf; exact am_leH.rf _)
    | (cases hf; exact trivial)
    | (cases hf; exact ⟨Nat.le_succ _, Nat.le_succ _, Nat.le_add_right _ _⟩)
    | (cases hf; exact ⟨Nat.le_refl _, Nat.le_succ _, Nat.le_add_right _ _⟩)
    | (cases hf; done)
theorem mo_if2 (g : Int32 → Int32 → Bool) (t u : Nat) : am_mo (im_if2 g t u) := by
  intro ls st h r hf
  unfold im_if2 at hf
  first
  | (cases hf; exact am_leH.rf _)
  | (repeat' split at hf) <;> first
    | (cases hf; exact am_leH.rf _)
    | (cases hf; exact trivial)
    | (cases hf; exact ⟨Nat.le_succ _, Nat.le_succ _, Nat.le_add_right _ _⟩)
    | (cases hf; exact ⟨Nat.le_refl _, Nat.le_succ _, Nat.le_add_right _ _⟩)
    | (cases hf; done)
theorem mo_gi (SH : Nat → am_S) (ci k t : Nat) : am_mo (im_gi SH ci k t) := by
  intro ls st h r hf
  unfold im_gi at hf
  first
  | (cases hf; exact am_leH.rf _)
  | (repeat' split at hf) <;> first
    | (cases hf; exact am_leH.rf _)
    | (cases hf; exact trivial)
    | (cases hf; exact ⟨Nat.le_succ _, Nat.le_succ _, Nat.le_add_right _ _⟩)
    | (cases hf; exact ⟨Nat.le_refl _, Nat.le_succ _, Nat.le_add_right _ _⟩)
    | (cases hf; done)
theorem mo_gl (SH : Nat → am_S) (ci k t : Nat) : am_mo (im_gl SH ci k t) := by
  intro ls st h r hf
  unfold im_gl at hf
  first
  | (cases hf; exact am_leH.rf _)
  | (repeat' split at hf) <;> first
    | (cases hf; exact am_leH.rf _)
    | (cases hf; exact trivial)
    | (cases hf; exact ⟨Nat.le_succ _, Nat.le_succ _, Nat.le_add_right _ _⟩)
    | (cases hf; exact ⟨Nat.le_refl _, Nat.le_succ _, Nat.le_add_right _ _⟩)
    | (cases hf; done)
theorem mo_gr (SH : Nat → am_S) (ci k t : Nat) : am_mo (im_gr SH ci k t) := by
  intro ls st h r hf
  unfold im_gr at hf
  first
  | (cases hf; exact am_leH.rf _)
  | (repeat' split at hf) <;> first
    | (cases hf; exact am_leH.rf _)
    | (cases hf; exact trivial)
    | (cases hf; exact ⟨Nat.le_succ _, Nat.le_succ _, Nat.le_add_right _ _⟩)
    | (cases hf; exact ⟨Nat.le_refl _, Nat.le_succ _, Nat.le_add_right _ _⟩)
    | (cases hf; done)
theorem mo_pi (SH : Nat → am_S) (ci k t : Nat) : am_mo (im_pi SH ci k t) := by
  intro ls st h r hf
  unfold im_pi at hf
  first
  | (cases hf; exact am_leH.rf _)
  | (repeat' split at hf) <;> first
    | (cases hf; exact am_leH.rf _)
    | (cases hf; exact trivial)
    | (cases hf; exact ⟨Nat.le_succ _, Nat.le_succ _, Nat.le_add_right _ _⟩)
    | (cases hf; exact ⟨Nat.le_refl _, Nat.le_succ _, Nat.le_add_right _ _⟩)
    | (cases hf; done)
theorem mo_pl (SH : Nat → am_S) (ci k t : Nat) : am_mo (im_pl SH ci k t) := by
  intro ls st h r hf
  unfold im_pl at hf
  first
  | (cases hf; exact am_leH.rf _)
  | (repeat' split at hf) <;> first
    | (cases hf; exact am_leH.rf _)
    | (cases hf; exact trivial)
    | (cases hf; exact ⟨Nat.le_succ _, Nat.le_succ _, Nat.le_add_right _ _⟩)
    | (cases hf; exact ⟨Nat.le_refl _, Nat.le_succ _, Nat.le_add_right _ _⟩)
    | (cases hf; done)
theorem mo_pr (SH : Nat → am_S) (ci k t : Nat) : am_mo (im_pr SH ci k t) := by
  intro ls st h r hf
  unfold im_pr at hf
  first
  | (cases hf; exact am_leH.rf _)
  | (repeat' split at hf) <;> first
    | (cases hf; exact am_leH.rf _)
    | (cases hf; exact trivial)
    | (cases hf; exact ⟨Nat.le_succ _, Nat.le_succ _, Nat.le_add_right _ _⟩)
    | (cases hf; exact ⟨Nat.le_refl _, Nat.le_succ _, Nat.le_add_right _ _⟩)
    | (cases hf; done)
theorem mo_ald (SH : Nat → am_S) (ty : FieldType) (t : Nat) : am_mo (im_ald SH ty t) := by
  intro ls st h r hf
  unfold im_ald at hf
  first
  | (cases hf; exact am_leH.rf _)
  | (repeat' split at hf) <;> first
    | (cases hf; exact am_leH.rf _)
    | (cases hf; exact trivial)
    | (cases hf; exact ⟨Nat.le_succ _, Nat.le_succ _, Nat.le_add_right _ _⟩)
    | (cases hf; exact ⟨Nat.le_refl _, Nat.le_succ _, Nat.le_add_right _ _⟩)
    | (cases hf; done)
theorem mo_lald (SH : Nat → am_S) (t : Nat) : am_mo (im_lald SH t) := by
  intro ls st h r hf
  unfold im_lald at hf
  first
  | (cases hf; exact am_leH.rf _)
  | (repeat' split at hf) <;> first
    | (cases hf; exact am_leH.rf _)
    | (cases hf; exact trivial)
    | (cases hf; exact ⟨Nat.le_succ _, Nat.le_succ _, Nat.le_add_right _ _⟩)
    | (cases hf; exact ⟨Nat.le_refl _, Nat.le_succ _, Nat.le_add_right _ _⟩)
    | (cases hf; done)
theorem mo_ast (SH : Nat → am_S) (ty : FieldType) (g : Int32 → Int32) (t : Nat) : am_mo (im_ast SH ty g t) := by
  intro ls st h r hf
  unfold im_ast at hf
  first
  | (cases hf; exact am_leH.rf _)
  | (repeat' split at hf) <;> first
    | (cases hf; exact am_leH.rf _)
    | (cases hf; exact trivial)
    | (cases hf; exact ⟨Nat.le_succ _, Nat.le_succ _, Nat.le_add_right _ _⟩)
    | (cases hf; exact ⟨Nat.le_refl _, Nat.le_succ _, Nat.le_add_right _ _⟩)
    | (cases hf; done)
theorem mo_last (SH : Nat → am_S) (t : Nat) : am_mo (im_last SH t) := by
  intro ls st h r hf
  unfold im_last at hf
  first
  | (cases hf; exact am_leH.rf _)
  | (repeat' split at hf) <;> first
    | (cases hf; exact am_leH.rf _)
    | (cases hf; exact trivial)
    | (cases hf; exact ⟨Nat.le_succ _, Nat.le_succ _, Nat.le_add_right _ _⟩)
    | (cases hf; exact ⟨Nat.le_refl _, Nat.le_succ _, Nat.le_add_right _ _⟩)
    | (cases hf; done)
theorem mo_alen (SH : Nat → am_S) (ty : FieldType) (t : Nat) : am_mo (im_alen SH ty t) := by
  intro ls st h r hf
  unfold im_alen at hf
  first
  | (cases hf; exact am_leH.rf _)
  | (repeat' split at hf) <;> first
    | (cases hf; exact am_leH.rf _)
    | (cases hf; exact trivial)
    | (cases hf; exact ⟨Nat.le_succ _, Nat.le_succ _, Nat.le_add_right _ _⟩)
    | (cases hf; exact ⟨Nat.le_refl _, Nat.le_succ _, Nat.le_add_right _ _⟩)
    | (cases hf; done)
theorem mo_obj (t : Nat) : am_mo (im_obj t) := by
  intro ls st h r hf
  unfold im_obj at hf
  first
  | (cases hf; exact am_leH.rf _)
  | (repeat' split at hf) <;> first
    | (cases hf; exact am_leH.rf _)
    | (cases hf; exact trivial)
    | (cases hf; exact ⟨Nat.le_succ _, Nat.le_succ _, Nat.le_add_right _ _⟩)
    | (cases hf; exact ⟨Nat.le_refl _, Nat.le_succ _, Nat.le_add_right _ _⟩)
    | (cases hf; done)
theorem mo_eld (e n : Nat) (f : Nat → Int32) (t : Nat) : am_mo (im_eld e n f t) := by
  intro ls st h r hf
  unfold im_eld at hf
  first
  | (cases hf; exact am_leH.rf _)
  | (repeat' split at hf) <;> first
    | (cases hf; exact am_leH.rf _)
    | (cases hf; exact trivial)
    | (cases hf; exact ⟨Nat.le_succ _, Nat.le_succ _, Nat.le_add_right _ _⟩)
    | (cases hf; exact ⟨Nat.le_refl _, Nat.le_succ _, Nat.le_add_right _ _⟩)
    | (cases hf; done)
theorem mo_elen (e n t : Nat) : am_mo (im_elen e n t) := by
  intro ls st h r hf
  unfold im_elen at hf
  first
  | (cases hf; exact am_leH.rf _)
  | (repeat' split at hf) <;> first
    | (cases hf; exact am_leH.rf _)
    | (cases hf; exact trivial)
    | (cases hf; exact ⟨Nat.le_succ _, Nat.le_succ _, Nat.le_add_right _ _⟩)
    | (cases hf; exact ⟨Nat.le_refl _, Nat.le_succ _, Nat.le_add_right _ _⟩)
    | (cases hf; done)
theorem mo_es (e t : Nat) : am_mo (im_es e t) := by
  intro ls st h r hf
  unfold im_es at hf
  first
  | (cases hf; exact am_leH.rf _)
  | (repeat' split at hf) <;> first
    | (cases hf; exact am_leH.rf _)
    | (cases hf; exact trivial)
    | (cases hf; exact ⟨Nat.le_succ _, Nat.le_succ _, Nat.le_add_right _ _⟩)
    | (cases hf; exact ⟨Nat.le_refl _, Nat.le_succ _, Nat.le_add_right _ _⟩)
    | (cases hf; done)
theorem mo_mm (g : Int32 → Int32 → Int32) (t : Nat) : am_mo (im_mm g t) := by
  intro ls st h r hf
  unfold im_mm at hf
  first
  | (cases hf; exact am_leH.rf _)
  | (repeat' split at hf) <;> first
    | (cases hf; exact am_leH.rf _)
    | (cases hf; exact trivial)
    | (cases hf; exact ⟨Nat.le_succ _, Nat.le_succ _, Nat.le_add_right _ _⟩)
    | (cases hf; exact ⟨Nat.le_refl _, Nat.le_succ _, Nat.le_add_right _ _⟩)
    | (cases hf; done)
theorem mo_acopy (SH : Nat → am_S) (t : Nat) : am_mo (im_acopy SH t) := by
  intro ls st h r hf
  unfold im_acopy at hf
  first
  | (cases hf; exact am_leH.rf _)
  | (repeat' split at hf) <;> first
    | (cases hf; exact am_leH.rf _)
    | (cases hf; exact trivial)
    | (cases hf; exact ⟨Nat.le_succ _, Nat.le_succ _, Nat.le_add_right _ _⟩)
    | (cases hf; exact ⟨Nat.le_refl _, Nat.le_succ _, Nat.le_add_right _ _⟩)
    | (cases hf; done)
theorem mo_new (SH : Nat → am_S) (ci N t : Nat) : am_mo (im_new SH ci N t) := by
  intro ls st h r hf
  unfold im_new at hf
  first
  | (cases hf; exact am_leH.rf _)
  | (repeat' split at hf) <;> first
    | (cases hf; exact am_leH.rf _)
    | (cases hf; exact trivial)
    | (cases hf; exact ⟨Nat.le_succ _, Nat.le_succ _, Nat.le_add_right _ _⟩)
    | (cases hf; exact ⟨Nat.le_refl _, Nat.le_succ _, Nat.le_add_right _ _⟩)
    | (cases hf; done)
theorem mo_newa (SH : Nat → am_S) (ty : FieldType) (t : Nat) : am_mo (im_newa SH ty t) := by
  intro ls st h r hf
  unfold im_newa at hf
  first
  | (cases hf; exact am_leH.rf _)
  | (repeat' split at hf) <;> first
    | (cases hf; exact am_leH.rf _)
    | (cases hf; exact trivial)
    | (cases hf; exact ⟨Nat.le_succ _, Nat.le_succ _, Nat.le_add_right _ _⟩)
    | (cases hf; exact ⟨Nat.le_refl _, Nat.le_succ _, Nat.le_add_right _ _⟩)
    | (cases hf; done)
theorem mo_invs (k n t : Nat) : am_mo (im_invs k n t) := by
  intro ls st h r hf
  unfold im_invs at hf
  first
  | (cases hf; exact am_leH.rf _)
  | (repeat' split at hf) <;> first
    | (cases hf; exact am_leH.rf _)
    | (cases hf; exact trivial)
    | (cases hf; exact ⟨Nat.le_succ _, Nat.le_succ _, Nat.le_add_right _ _⟩)
    | (cases hf; exact ⟨Nat.le_refl _, Nat.le_succ _, Nat.le_add_right _ _⟩)
    | (cases hf; done)
theorem mo_inv (SH : Nat → am_S) (ci k n t : Nat) : am_mo (im_inv SH ci k n t) := by
  intro ls st h r hf
  unfold im_inv at hf
  first
  | (cases hf; exact am_leH.rf _)
  | (repeat' split at hf) <;> first
    | (cases hf; exact am_leH.rf _)
    | (cases hf; exact trivial)
    | (cases hf; exact ⟨Nat.le_succ _, Nat.le_succ _, Nat.le_add_right _ _⟩)
    | (cases hf; exact ⟨Nat.le_refl _, Nat.le_succ _, Nat.le_add_right _ _⟩)
    | (cases hf; done)
theorem mo_ret0  : am_mo (im_ret0 ) := by
  intro ls st h r hf
  unfold im_ret0 at hf
  first
  | (cases hf; exact am_leH.rf _)
  | (repeat' split at hf) <;> first
    | (cases hf; exact am_leH.rf _)
    | (cases hf; exact trivial)
    | (cases hf; exact ⟨Nat.le_succ _, Nat.le_succ _, Nat.le_add_right _ _⟩)
    | (cases hf; exact ⟨Nat.le_refl _, Nat.le_succ _, Nat.le_add_right _ _⟩)
    | (cases hf; done)
theorem mo_reti  : am_mo (im_reti ) := by
  intro ls st h r hf
  unfold im_reti at hf
  first
  | (cases hf; exact am_leH.rf _)
  | (repeat' split at hf) <;> first
    | (cases hf; exact am_leH.rf _)
    | (cases hf; exact trivial)
    | (cases hf; exact ⟨Nat.le_succ _, Nat.le_succ _, Nat.le_add_right _ _⟩)
    | (cases hf; exact ⟨Nat.le_refl _, Nat.le_succ _, Nat.le_add_right _ _⟩)
    | (cases hf; done)
theorem mo_retz  : am_mo (im_retz ) := by
  intro ls st h r hf
  unfold im_retz at hf
  first
  | (cases hf; exact am_leH.rf _)
  | (repeat' split at hf) <;> first
    | (cases hf; exact am_leH.rf _)
    | (cases hf; exact trivial)
    | (cases hf; exact ⟨Nat.le_succ _, Nat.le_succ _, Nat.le_add_right _ _⟩)
    | (cases hf; exact ⟨Nat.le_refl _, Nat.le_succ _, Nat.le_add_right _ _⟩)
    | (cases hf; done)
theorem mo_retl  : am_mo (im_retl ) := by
  intro ls st h r hf
  unfold im_retl at hf
  first
  | (cases hf; exact am_leH.rf _)
  | (repeat' split at hf) <;> first
    | (cases hf; exact am_leH.rf _)
    | (cases hf; exact trivial)
    | (cases hf; exact ⟨Nat.le_succ _, Nat.le_succ _, Nat.le_add_right _ _⟩)
    | (cases hf; exact ⟨Nat.le_refl _, Nat.le_succ _, Nat.le_add_right _ _⟩)
    | (cases hf; done)
theorem mo_reta  : am_mo (im_reta ) := by
  intro ls st h r hf
  unfold im_reta at hf
  first
  | (cases hf; exact am_leH.rf _)
  | (repeat' split at hf) <;> first
    | (cases hf; exact am_leH.rf _)
    | (cases hf; exact trivial)
    | (cases hf; exact ⟨Nat.le_succ _, Nat.le_succ _, Nat.le_add_right _ _⟩)
    | (cases hf; exact ⟨Nat.le_refl _, Nat.le_succ _, Nat.le_add_right _ _⟩)
    | (cases hf; done)
theorem mo_thr (x : Nat) : am_mo (im_thr x) := by
  intro ls st h r hf
  unfold im_thr at hf
  first
  | (cases hf; exact am_leH.rf _)
  | (repeat' split at hf) <;> first
    | (cases hf; exact am_leH.rf _)
    | (cases hf; exact trivial)
    | (cases hf; exact ⟨Nat.le_succ _, Nat.le_succ _, Nat.le_add_right _ _⟩)
    | (cases hf; exact ⟨Nat.le_refl _, Nat.le_succ _, Nat.le_add_right _ _⟩)
    | (cases hf; done)
theorem mo_sw (g : Int32 → Option Nat) : am_mo (im_sw g) := by
  intro ls st h r hf
  unfold im_sw at hf
  first
  | (cases hf; exact am_leH.rf _)
  | (repeat' split at hf) <;> first
    | (cases hf; exact am_leH.rf _)
    | (cases hf; exact trivial)
    | (cases hf; exact ⟨Nat.le_succ _, Nat.le_succ _, Nat.le_add_right _ _⟩)
    | (cases hf; exact ⟨Nat.le_refl _, Nat.le_succ _, Nat.le_add_right _ _⟩)
    | (cases hf; done)
/-! ===== the run ===== -/
/-- P: the instructions; ML: how many locals; HD: where a method goes on when an exception comes out of a call at pc, and in which local it puts it; NT: it has no handlers -/
def am_ex (P : Nat → Nat → Option am_F) (ML : Nat → Nat) (HD : Nat → Nat → Nat → Option (Nat × Nat)) (NT : Nat → Bool) : Nat → Nat → Nat → Nat → List Value → List Value → am_H → Option (am_O × am_H)
  | 0, _, _, _, _, _, _ => none
  | n + 1, d, k, pc, ls, st, h => match P k pc with
    | none => none
    | some f => match f ls st h with
      | none => none
      | some (.inl x) => am_ex P ML HD NT n d k x.1 x.2.1 x.2.2.1 x.2.2.2
      | some (.inr (.inl x)) => (match d with
        | 0 => none
        | d' + 1 => match am_ex P ML HD NT n d' x.1 0 (x.2.1 ++ List.replicate (ML x.1 - x.2.1.length) (.retAddr 0)) [] h with
          | none => none
          | some (.inl v, h') => am_ex P ML HD NT n (d' + 1) k x.2.2.1 x.2.2.2.1 (v.toList ++ x.2.2.2.2) h'
          | some (.inr e, h') => match HD k pc e with
            | none => if NT k = true then some (.inr e, h') else none
            | some y => am_ex P ML HD NT n (d' + 1) k y.1 (am_set x.2.2.2.1 y.2 (.retAddr 0)) [] h')
      | some (.inr (.inr x)) => some x
theorem am_ex_le {P : Nat → Nat → Option am_F} {ML : Nat → Nat} {HD : Nat → Nat → Nat → Option (Nat × Nat)} {NT : Nat → Bool} (hP : ∀ k pc f, P k pc = some f → am_mo f) : ∀ (n d k pc : Nat) (ls st : List Value) (h : am_H) (r : am_O × am_H), am_ex P ML HD NT n d k pc ls st h = some r → am_leH h r.2 := by
  intro n
  induction n with
  | zero => intro d k pc ls st h r hr; cases hr
  | succ n ih =>
    intro d k pc ls st h r hr
    unfold am_ex at hr
    split at hr
    · cases hr
    · rename_i f hf
      split at hr
      · cases hr
      · rename_i x hx
        exact am_leH.tr (hP _ _ _ hf _ _ _ _ hx) (ih _ _ _ _ _ _ _ hr)
      · rename_i x hx
        split at hr
        · cases hr
        · split at hr
          · cases hr
          · rename_i v h' hc
            exact am_leH.tr (ih _ _ _ _ _ _ _ hc) (ih _ _ _ _ _ _ _ hr)
          · rename_i e h' hc
            have h1 := ih _ _ _ _ _ _ _ hc
            split at hr
            · split at hr
              · cases hr; exact h1
              · cases hr
            · exact am_leH.tr h1 (ih _ _ _ _ _ _ _ hr)
      · rename_i x hx
        cases hr
        exact hP _ _ _ hf _ _ _ _ hx
theorem am_ex_up {P : Nat → Nat → Option am_F} {ML : Nat → Nat} {HD : Nat → Nat → Nat → Option (Nat × Nat)} {NT : Nat → Bool} : ∀ (n n' d d' k pc : Nat) (ls st : List Value) (h : am_H) (r : am_O × am_H), n ≤ n' → d ≤ d' → am_ex P ML HD NT n d k pc ls st h = some r → am_ex P ML HD NT n' d' k pc ls st h = some r := by
  intro n
  induction n with
  | zero => intro n' d d' k pc ls st h r hn hd hr; cases hr
  | succ n ih =>
    intro n' d d' k pc ls st h r hn hd hr
    obtain ⟨m, rfl⟩ : ∃ m, n' = m + 1 := ⟨n' - 1, by omega⟩
    have hnm : n ≤ m := by omega
    unfold am_ex at hr ⊢
    split at hr
    · cases hr
    · rename_i f hf
      split at hr
      · cases hr
      · rename_i x hx
        try simp only [hf, hx]
        exact ih _ _ _ _ _ _ _ _ _ hnm hd hr
      · rename_i x hx
        try simp only [hf, hx]
        split at hr
        · cases hr
        · rename_i d1
          obtain ⟨d2, rfl⟩ : ∃ d2, d' = d2 + 1 := ⟨d' - 1, by omega⟩
          have hdd : d1 ≤ d2 := by omega
          dsimp only
          split at hr
          · cases hr
          · rename_i v h' hc
            rw [ih _ _ _ _ _ _ _ _ _ hnm hdd hc]
            exact ih _ _ _ _ _ _ _ _ _ hnm hd hr
          · rename_i e h' hc
            rw [ih _ _ _ _ _ _ _ _ _ hnm hdd hc]
            dsimp only
            split at hr
            · exact hr
            · exact ih _ _ _ _ _ _ _ _ _ hnm hd hr
      · rename_i x hx
        try simp only [hf, hx]
        exact hr

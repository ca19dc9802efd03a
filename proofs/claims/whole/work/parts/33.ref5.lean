/-! ===== the reference: worth of an expression ===== -/
section R5
variable {β : Bool} {xs : Nat → Int32} {L : Nat} {G : am_G} {I : Nat → Nat → Int32} {J : Nat → Nat → Int64}
theorem s_toInt_inj {x y : Int32} (h : x.toInt = y.toInt) : x = y := Int32.toInt_inj.mp h
theorem r_works {d : Nat} (hR : q_RT G) (op x y : Int32) : q_W β xs L d 160 0 [.int op, .int x, .int y] [] (G, I, J) (fun o h => o = .inl (some (.int (a_works op x y))) ∧ h = (G, I, J)) := by
  refine g_160_0 hR _ _ _ ?_
  by_cases h4 : op = 4
  · subst h4
    refine ⟨44, by decide, g_160_44 hR _ _ _ ⟨fun a => g_160_56 hR _ _ _ (g_160_57 hR _ _ _ _ ⟨by simp [a_works, a_is, a], rfl⟩), fun a => ⟨fun b => g_160_56 hR _ _ _ (g_160_57 hR _ _ _ _ ⟨by simp [a_works, a_is, b], rfl⟩), fun b => g_160_57 hR _ _ _ _ ⟨by simp [a_works, a_is, a, b], rfl⟩⟩⟩⟩
  by_cases h5 : op = 5
  · subst h5
    refine ⟨58, by decide, g_160_58 hR _ _ _ ⟨fun a => g_160_66 hR _ _ _ (g_160_71 hR _ _ _ _ ⟨by simp [a_works, a_is, a], rfl⟩), fun a => ⟨fun b => g_160_71 hR _ _ _ _ ⟨by simp [a_works, a_is, a, b], rfl⟩, fun b => g_160_66 hR _ _ _ (g_160_71 hR _ _ _ _ ⟨by simp [a_works, a_is, b], rfl⟩)⟩⟩⟩
  by_cases h6 : op = 6
  · subst h6
    exact ⟨72, by decide, g_160_72 hR _ _ _ ⟨fun a => g_160_82 hR _ _ _ _ ⟨by simp [a_works, a_is, a], rfl⟩, fun a => g_160_82 hR _ _ _ _ ⟨by simp [a_works, a_is, a], rfl⟩⟩⟩
  by_cases h7 : op = 7
  · subst h7
    exact ⟨83, by decide, g_160_83 hR _ _ _ ⟨fun a => g_160_93 hR _ _ _ _ ⟨by simp [a_works, a_is, a], rfl⟩, fun a => g_160_93 hR _ _ _ _ ⟨by simp [a_works, a_is, a], rfl⟩⟩⟩
  by_cases h8 : op = 8
  · subst h8
    exact ⟨94, by decide, g_160_94 hR _ _ _ ⟨by simp [a_works], rfl⟩⟩
  by_cases h9 : op = 9
  · subst h9
    exact ⟨98, by decide, g_160_98 hR _ _ _ ⟨by simp [a_works], rfl⟩⟩
  by_cases h10 : op = 10
  · subst h10
    exact ⟨102, by decide, g_160_102 hR _ _ _ ⟨by simp [a_works], rfl⟩⟩
  refine ⟨106, ?_, g_160_106 hR _ _ _ ⟨fun a => ⟨a, g_160_117 hR _ _ _ _ ⟨by simp [a_works, h4, h5, h6, h7, h8, h9, h10, a], rfl⟩⟩, fun a => g_160_117 hR _ _ _ _ ⟨by simp [a_works, h4, h5, h6, h7, h8, h9, h10, a], rfl⟩⟩⟩
  unfold q_sw
  have key : op.toInt < 4 ∨ 10 < op.toInt := by
    have q : ∀ n : Nat, n < 2 ^ 31 → op.toInt = (n : Int) → op = nI n := fun n hn hh => s_toInt_inj (by rw [hh, nI_toInt hn])
    have k4 : op.toInt ≠ 4 := fun z => h4 (q 4 (by decide) z)
    have k5 : op.toInt ≠ 5 := fun z => h5 (q 5 (by decide) z)
    have k6 : op.toInt ≠ 6 := fun z => h6 (q 6 (by decide) z)
    have k7 : op.toInt ≠ 7 := fun z => h7 (q 7 (by decide) z)
    have k8 : op.toInt ≠ 8 := fun z => h8 (q 8 (by decide) z)
    have k9 : op.toInt ≠ 9 := fun z => h9 (q 9 (by decide) z)
    have k10 : op.toInt ≠ 10 := fun z => h10 (q 10 (by decide) z)
    omega
  rw [if_pos key]
/-- codes that run: from height h they never want an operand, stay below 64, and end at 1 -/
def a_gd : List (Int32 × Int32) → Nat → Bool
  | [], h => Nat.beq h 1
  | op :: r, h => if op.1 = 1 then Nat.blt h 64 && a_gd r (h + 1) else if op.1 = 2 then am_is op.2 13 && (Nat.blt h 64 && a_gd r (h + 1)) else if op.1 = 3 then Nat.ble 1 h && a_gd r h else Nat.ble 2 h && a_gd r (h - 1)
/-- the pile holds the stack -/
def r_pl (I : a_F) (st : List Int32) : Prop := ∀ j, j < st.length → st[j]? = some (I 111 (st.length - 1 - j))
theorem r_pl.cons {I : a_F} {st : List Int32} (h : r_pl I st) (x : Int32) : r_pl (am_u I 111 st.length x) (x :: st) := by
  intro j hj
  cases j with
  | zero =>
    simp [am_u]
  | succ j =>
    have hj2 : j < st.length := by simpa using hj
    rw [List.getElem?_cons_succ, h j hj2]
    have e : (x :: st).length - 1 - (j + 1) = st.length - 1 - j := by simp; omega
    rw [e, am_u_ne (Or.inr (by omega))]
theorem r_pl.top {I : a_F} {x : Int32} {st : List Int32} (h : r_pl I (x :: st)) : I 111 st.length = x := by
  have := h 0 (by simp)
  simp at this
  exact this.symm
theorem r_pl.tail {I : a_F} {x : Int32} {st : List Int32} (h : r_pl I (x :: st)) : r_pl I st := by
  intro j hj
  have := h (j + 1) (by simp; omega)
  rw [List.getElem?_cons_succ] at this
  rw [this]
  have e : (x :: st).length - 1 - (j + 1) = st.length - 1 - j := by simp; omega
  rw [e]
theorem r_pl.keep {I : a_F} {st : List Int32} (h : r_pl I st) {n : Nat} (hn : st.length ≤ n) (x : Int32) : r_pl (am_u I 111 n x) st := by
  intro j hj
  rw [h j hj, am_u_ne (Or.inr (by omega))]
end R5

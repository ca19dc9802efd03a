/-! ===== the reference: a person is asked ===== -/
/-- a sound state -/
def a_ok (np nq : Nat) (s : a_F) : Prop := ∀ p, p < np → a_nn np (s 3 p) ∧ a_nn nq (s 4 p) ∧ (s 1 p ≠ -1 → ∃ j, j < nq ∧ s 2 p = nI j)
/-- births, spouses, stays, places are as they were -/
def a_kp (s s' : a_F) : Prop := ∀ c, 1 ≤ c → c ≤ 7 → s' c = s c
theorem a_kp.rf (s : a_F) : a_kp s s := fun _ _ _ => rfl
theorem a_kp.tr {s s1 s2 : a_F} (h1 : a_kp s s1) (h2 : a_kp s1 s2) : a_kp s s2 := fun c a b => (h2 c a b).trans (h1 c a b)
theorem a_kp.up {s s1 : a_F} (h : a_kp s s1) {c : Nat} (hc : c = 0 ∨ 7 < c) (i : Nat) (x : Int32) : a_kp s (am_u s1 c i x) := fun q a b => (am_u_row _ _ _ _ (by omega)).trans (h q a b)
theorem a_kp_gain (s : a_F) (today fact : Int32) (p l k : Nat) (on ch : Int32) : a_kp s (a_gain s today fact p l k on ch) :=
  ((((((((((a_kp.rf s).up (Or.inl rfl) _ _).up (Or.inr (by decide)) _ _).up (Or.inr (by decide)) _ _).up (Or.inr (by decide)) _ _).up (Or.inr (by decide)) _ _).up (Or.inr (by decide)) _ _).up (Or.inr (by decide)) _ _).up (Or.inr (by decide)) _ _).up (Or.inr (by decide)) _ _).up (Or.inr (by decide)) _ _
theorem a_kp_lose (s : a_F) (p l : Nat) : a_kp s (a_lose s p l) := (((a_kp.rf s).up (Or.inl rfl) _ _).up (Or.inr (by decide)) _ _).up (Or.inr (by decide)) _ _
theorem a_kp_kids (D : a_F) (today fact : Int32) (p l k : Nat) (gains : Bool) : ∀ n c s, a_kp s (a_kids D today fact p l k gains n c s)
  | 0, c, s => a_kp.rf s
  | n + 1, c, s => by
    refine a_kp.tr ?_ (a_kp_kids D today fact p l k gains n (c + 1) _)
    split
    · split
      · exact a_kp_gain _ _ _ _ _ _ _ _
      · exact a_kp_lose _ _ _
    · exact a_kp.rf s
theorem a_kp_change (D s : a_F) (c : a_C) (fact : Int32) (wc : Nat → Int32) (p l k : Nat) : a_kp s (a_change D s c fact wc p l k) := by
  have h : a_kp s (if decide (D 81 k = 0) = true then a_gain s c.1 fact p l k (a_lean D s c wc p l) 0 else a_lose s p l) := by
    split
    · exact a_kp_gain _ _ _ _ _ _ _ _
    · exact a_kp_lose _ _ _
  unfold a_change
  dsimp only
  split
  · exact h
  · exact h.tr (a_kp_kids _ _ _ _ _ _ _ _ _ _)
theorem a_kp_changes (D : a_F) (c : a_C) (fact : Int32) (wc ch : Nat → Int32) (p : Nat) : ∀ n l s, a_kp s (a_changes D c fact wc ch p n l s)
  | 0, l, s => a_kp.rf s
  | n + 1, l, s => by
    refine a_kp.tr ?_ (a_kp_changes D c fact wc ch p n (l + 1) _)
    split
    · exact a_kp.rf s
    · exact a_kp_change _ _ _ _ _ _ _ _
theorem a_ok.kp {np nq : Nat} {s s' : a_F} (h : a_ok np nq s) (hk : a_kp s s') : a_ok np nq s' := fun p hp => by
  rw [hk 3 (by decide) (by decide), hk 4 (by decide) (by decide), hk 1 (by decide) (by decide), hk 2 (by decide) (by decide)]
  exact h p hp
theorem r_S.f3 {nq : Nat} {I I' s : a_F} (h : r_S nq I s) (hf : r_f3 I I') : r_S nq I' s := by
  unfold r_S at h ⊢
  rw [hf 91 (by decide) (by decide) (by decide), hf 92 (by decide) (by decide) (by decide), hf 93 (by decide) (by decide) (by decide), hf 94 (by decide) (by decide) (by decide), hf 95 (by decide) (by decide) (by decide), hf 96 (by decide) (by decide) (by decide), hf 97 (by decide) (by decide) (by decide), hf 98 (by decide) (by decide) (by decide), hf 99 (by decide) (by decide) (by decide), hf 100 (by decide) (by decide) (by decide), hf 101 (by decide) (by decide) (by decide), hf 59 (by decide) (by decide) (by decide), hf 102 (by decide) (by decide) (by decide), hf 103 (by decide) (by decide) (by decide), hf 104 (by decide) (by decide) (by decide), hf 105 (by decide) (by decide) (by decide), hf 106 (by decide) (by decide) (by decide), hf 107 (by decide) (by decide) (by decide)]
  exact h
theorem r_f3.fr {I I' : a_F} (hf : r_f3 I I') : r_fr I I' := fun c i h => by
  by_cases h0 : c = 110
  · subst h0; cases h
  by_cases h1 : c = 111
  · subst h1; cases h
  by_cases h2 : c = 112
  · subst h2; cases h
  exact congrFun (hf c h0 h1 h2) i
theorem r_f3.vz {I I1 I2 : a_F} {v : Nat → Int32} {j : Nat} (h : r_f3 I I1) (h2 : r_vz I1 v j I2) : r_f3 I I2 := fun c a b d => (h2.1 c a).trans (h c a b d)

/-! ===== the reference: changes, from its entry ===== -/
section R4
variable {β : Bool} {xs : Nat → Int32} {L : Nat} {G : am_G} {I : Nat → Nat → Int32} {J : Nat → Nat → Int64}
/-- what a step of a run of the reference leaves, with r records at the most more -/
def r_post (nq : Nat) (I : a_F) (G : am_G) (J : Nat → Nat → Int64) (s' : a_F) (n : Nat) : am_O → am_H → Prop := fun o h => o = .inl none ∧ ∃ I', h = (G, I', J) ∧ r_fr I I' ∧ r_ct I I' ∧ r_S nq I' s' ∧ ∃ n', s' 17 0 = nI n' ∧ n' ≤ n
theorem r_changes {d nq np : Nat} (hR : q_RT G) {D s : a_F} (hS : r_S nq I s) {p l k n : Nat} (hp : p < 20) (hl : l < 5) (hk : k < 144) (hnp : I 59 5 = nI np) (hnp2 : np ≤ 20) (hDn : D 59 5 = nI np) (h6 : ∀ c, c < np → I 62 c = D 62 c ∧ I 63 c = D 63 c) (hpn : p < np) (h81 : I 81 k = D 81 k) (h85 : I 85 k = D 85 k)
    (hf : a_nn 20 (D 62 p)) (hm : a_nn 20 (D 63 p)) {c : a_C} {fact : Int32} (ht : I 59 76 = c.1) (hfa : I 59 81 = fact) (hw : I 59 78 = c.2.1) (hb : c.2.1 = 9 → I 59 82 = c.2.2.2.2) {wc : Nat → Int32} (hwc : c.2.1 = 9 → I 113 l = wc l) (hn : s 17 0 = nI n) (hbn : n + 21 < 23000) :
    q_W β xs L (d + 2) 162 0 [.ref 59, .int (nI p), .int (nI l), .int (nI k), .retAddr 0, .retAddr 0, .retAddr 0] [] (G, I, J) (r_post nq I G J (a_change D s c fact wc p l k) (n + 21)) := by
  have ek : (nI k).toNatClampNeg = k := nI_clamp (by omega)
  have ik : am_is (nI k) 144 = true := am_is_nI hk (by omega)
  have enp : a_ix (D 59 5) = np := by rw [hDn]; exact nI_clamp (by omega)
  have at44 : ∀ (I1 s1 : a_F) (n1 : Nat), r_fr I I1 → r_ct I I1 → r_S nq I1 s1 → s1 17 0 = nI n1 → n1 ≤ n + 1 → (if decide (D 81 k = 0) = true then a_gain s c.1 fact p l k (a_lean D s c wc p l) 0 else a_lose s p l) = s1 →
      q_W β xs L (d + 2) 162 44 [.ref 59, .int (nI p), .int (nI l), .int (nI k), .int (a_is (decide (D 81 k = 0))), .retAddr 0, .retAddr 0] [] (G, I1, J) (r_post nq I G J (a_change D s c fact wc p l k) (n + 21)) := by
    intro I1 s1 n1 q1 q2 q3 q4 q5 q6
    refine g_162_44 hR _ _ _ _ ?_
    by_cases h85n : D 85 k = -1
    · have fin : r_post nq I G J (a_change D s c fact wc p l k) (n + 21) (.inl none) (G, I1, J) := by
        refine ⟨rfl, I1, rfl, q1, q2, ?_, n1, ?_, by omega⟩
        · unfold a_change
          simp only [h85n, if_true]
          rw [q6]; exact q3
        · unfold a_change
          simp only [h85n, if_true]
          rw [q6]; exact q4
      refine g_162_47 hR _ _ _ _ _ _ rfl ⟨fun _ => g_162_202 hR _ _ _ _ _ _ rfl fin, fun _ => ⟨ik, fun _ => g_162_202 hR _ _ _ _ _ _ rfl fin, fun z => ?_⟩⟩
      rw [ek, q1 85 k rfl, h85] at z
      exact absurd h85n z
    · refine r_kids (d := d + 1) hR hp hl hk hnp hnp2 h6 h85 h85n ht hfa (decide (D 81 k = 0)) np 0 I1 s1 n1 _ rfl (by omega) q1 q2 q3 q4 (by omega) (fun I' n' z1 z2 z3 z4 z5 => ?_)
      have e : a_change D s c fact wc p l k = a_kids D c.1 fact p l k (decide (D 81 k = 0)) np 0 s1 := by
        unfold a_change
        simp only [h85n, if_false]
        rw [q6, enp]
      exact ⟨rfl, I', rfl, z1, z2, e ▸ z3, n', e ▸ z4, by omega⟩
  refine g_162_0 hR _ _ _ ⟨ik, fun z => ?_, fun z => ?_⟩
  · rw [ek, h81] at z
    have e : decide (D 81 k = 0) = false := by simp [z]
    refine g_162_14 hR _ _ _ _ ⟨fun _ => ?_, fun w => absurd rfl w⟩
    refine q_useV (r_loses (β := β) (xs := xs) (L := L) (d := d + 1) hR hS hp hl) (Nat.le_refl _) (fun I' hI' => ?_)
    obtain ⟨q1, q2, q3⟩ := hI'
    have := at44 I' _ n q1 q2 q3 (by rw [a_lose_n]; exact hn) (by omega) (by rw [e]; rfl)
    rw [e] at this
    exact this
  · rw [ek, h81] at z
    have e : decide (D 81 k = 0) = true := by simp [z]
    refine g_162_14 hR _ _ _ _ ⟨fun w => absurd w (by decide), fun _ => ?_⟩
    have hpc := h6 p hpn
    refine q_useI (r_leans (β := β) (xs := xs) (L := L) (d := d) hR hS hp hl hpc.1 hpc.2 hf hm hw hb hwc) (Nat.le_refl _) ?_
    refine q_useV (r_gains (β := β) (xs := xs) (L := L) (d := d + 1) hR hS hn (by omega) hp hl _ 0 vp_z0) (Nat.le_refl _) (fun I' hI' => ?_)
    obtain ⟨q1, q2, q3⟩ := hI'
    rw [ht, hfa] at q3
    have := at44 I' _ (n + 1) q1 q2 q3 (a_gain_n hn (by omega) _ _ _ _ _ _ _) (by omega) (by rw [e]; rfl)
    rw [e] at this
    exact this
end R4

/-! ===== the program of the little machine: shapes, outside objects, links ===== -/
theorem am_tb1 : ∀ w ∈ tables_1_1, w ∈ lw_tbl := fun w h => List.mem_append_right _ (List.mem_append_left _ h)
theorem am_in1 (i : Nat) {w : Cond} (h : tables_1_1[i]? = some w) (hg : goodWord w = true) : w ∈ am_ts := List.mem_filter.mpr ⟨am_tb1 w (List.mem_of_getElem? h), hg⟩
theorem am_tb2 : ∀ w ∈ tables_1_2, w ∈ lw_tbl := fun w h => List.mem_append_right _ (List.mem_append_right _ (List.mem_append_left _ h))
theorem am_in2 (i : Nat) {w : Cond} (h : tables_1_2[i]? = some w) (hg : goodWord w = true) : w ∈ am_ts := List.mem_filter.mpr ⟨am_tb2 w (List.mem_of_getElem? h), hg⟩
theorem am_tb3 : ∀ w ∈ tables_1_3, w ∈ lw_tbl := fun w h => List.mem_append_right _ (List.mem_append_right _ (List.mem_append_right _ (List.mem_append_left _ h)))
theorem am_in3 (i : Nat) {w : Cond} (h : tables_1_3[i]? = some w) (hg : goodWord w = true) : w ∈ am_ts := List.mem_filter.mpr ⟨am_tb3 w (List.mem_of_getElem? h), hg⟩
theorem am_tb4 : ∀ w ∈ tables_1_4, w ∈ lw_tbl := fun w h => List.mem_append_right _ (List.mem_append_right _ (List.mem_append_right _ (List.mem_append_right _ (List.mem_append_left _ h))))
theorem am_in4 (i : Nat) {w : Cond} (h : tables_1_4[i]? = some w) (hg : goodWord w = true) : w ∈ am_ts := List.mem_filter.mpr ⟨am_tb4 w (List.mem_of_getElem? h), hg⟩
theorem am_tb5 : ∀ w ∈ tables_1_5, w ∈ lw_tbl := fun w h => List.mem_append_right _ (List.mem_append_right _ (List.mem_append_right _ (List.mem_append_right _ (List.mem_append_right _ (List.mem_append_left _ h)))))
theorem am_in5 (i : Nat) {w : Cond} (h : tables_1_5[i]? = some w) (hg : goodWord w = true) : w ∈ am_ts := List.mem_filter.mpr ⟨am_tb5 w (List.mem_of_getElem? h), hg⟩
theorem am_tb6 : ∀ w ∈ tables_1_6, w ∈ lw_tbl := fun w h => List.mem_append_right _ (List.mem_append_right _ (List.mem_append_right _ (List.mem_append_right _ (List.mem_append_right _ (List.mem_append_right _ (List.mem_append_left _ h))))))
theorem am_in6 (i : Nat) {w : Cond} (h : tables_1_6[i]? = some w) (hg : goodWord w = true) : w ∈ am_ts := List.mem_filter.mpr ⟨am_tb6 w (List.mem_of_getElem? h), hg⟩
theorem am_tb7 : ∀ w ∈ tables_1_7, w ∈ lw_tbl := fun w h => List.mem_append_right _ (List.mem_append_right _ (List.mem_append_right _ (List.mem_append_right _ (List.mem_append_right _ (List.mem_append_right _ (List.mem_append_right _ (List.mem_append_left _ h)))))))
theorem am_in7 (i : Nat) {w : Cond} (h : tables_1_7[i]? = some w) (hg : goodWord w = true) : w ∈ am_ts := List.mem_filter.mpr ⟨am_tb7 w (List.mem_of_getElem? h), hg⟩
theorem am_tb8 : ∀ w ∈ tables_1_8, w ∈ lw_tbl := fun w h => List.mem_append_right _ (List.mem_append_right _ (List.mem_append_right _ (List.mem_append_right _ (List.mem_append_right _ (List.mem_append_right _ (List.mem_append_right _ (List.mem_append_right _ h)))))))
theorem am_in8 (i : Nat) {w : Cond} (h : tables_1_8[i]? = some w) (hg : goodWord w = true) : w ∈ am_ts := List.mem_filter.mpr ⟨am_tb8 w (List.mem_of_getElem? h), hg⟩
theorem am_inS1 (i : Nat) {q : MethodName × Nat} (h9 : lw_privs_1[i]? = some q) : Cond.selects q.1.cls q.1 q.1 ∈ am_ts := by
  have h := List.mem_of_getElem? h9
  have h2 : q ∈ lw_privs := (List.mem_append_left _ h)
  exact List.mem_filter.mpr ⟨List.mem_append_left _ (List.mem_map.mpr ⟨q, h2, rfl⟩), rfl⟩
theorem am_inS2 (i : Nat) {q : MethodName × Nat} (h9 : lw_privs_2[i]? = some q) : Cond.selects q.1.cls q.1 q.1 ∈ am_ts := by
  have h := List.mem_of_getElem? h9
  have h2 : q ∈ lw_privs := (List.mem_append_right _ (List.mem_append_left _ h))
  exact List.mem_filter.mpr ⟨List.mem_append_left _ (List.mem_map.mpr ⟨q, h2, rfl⟩), rfl⟩
theorem am_inS3 (i : Nat) {q : MethodName × Nat} (h9 : lw_privs_3[i]? = some q) : Cond.selects q.1.cls q.1 q.1 ∈ am_ts := by
  have h := List.mem_of_getElem? h9
  have h2 : q ∈ lw_privs := (List.mem_append_right _ (List.mem_append_right _ (List.mem_append_left _ h)))
  exact List.mem_filter.mpr ⟨List.mem_append_left _ (List.mem_map.mpr ⟨q, h2, rfl⟩), rfl⟩
theorem am_inS4 (i : Nat) {q : MethodName × Nat} (h9 : lw_privs_4[i]? = some q) : Cond.selects q.1.cls q.1 q.1 ∈ am_ts := by
  have h := List.mem_of_getElem? h9
  have h2 : q ∈ lw_privs := (List.mem_append_right _ (List.mem_append_right _ (List.mem_append_right _ (List.mem_append_left _ h))))
  exact List.mem_filter.mpr ⟨List.mem_append_left _ (List.mem_map.mpr ⟨q, h2, rfl⟩), rfl⟩
theorem am_inS5 (i : Nat) {q : MethodName × Nat} (h9 : lw_privs_5[i]? = some q) : Cond.selects q.1.cls q.1 q.1 ∈ am_ts := by
  have h := List.mem_of_getElem? h9
  have h2 : q ∈ lw_privs := (List.mem_append_right _ (List.mem_append_right _ (List.mem_append_right _ (List.mem_append_right _ (List.mem_append_left _ h)))))
  exact List.mem_filter.mpr ⟨List.mem_append_left _ (List.mem_map.mpr ⟨q, h2, rfl⟩), rfl⟩
theorem am_inS6 (i : Nat) {q : MethodName × Nat} (h9 : lw_privs_6[i]? = some q) : Cond.selects q.1.cls q.1 q.1 ∈ am_ts := by
  have h := List.mem_of_getElem? h9
  have h2 : q ∈ lw_privs := (List.mem_append_right _ (List.mem_append_right _ (List.mem_append_right _ (List.mem_append_right _ (List.mem_append_right _ h)))))
  exact List.mem_filter.mpr ⟨List.mem_append_left _ (List.mem_map.mpr ⟨q, h2, rfl⟩), rfl⟩
def q_SHl : List am_S := [.inr 10, .inr 8, .inl (.int, 12), .inr 7, .inl (.int, 20), .inl (.int, 20), .inl (.int, 20), .inr 3, .inl (.int, 100), .inl (.int, 100), .inl (.int, 100), .inl (.int, 100), .inl (.int, 100), .inl (.int, 100), .inl (.int, 300), .inl (.int, 100), .inr 0, .inl (.int, 12), .inl (.int, 12), .inl (.int, 12), .inl (.int, 12), .inl (.int, 12), .inl (.int, 12), .inl (.int, 12), .inl (.int, 12), .inl (.int, 144), .inl (.int, 144), .inl (.int, 144), .inl (.int, 144), .inl (.int, 144), .inl (.int, 144), .inl (.int, 6000), .inr 6, .inl (.byte, 0), .inr 2, .inl (.int, 3), .inl (.int, 3), .inl (.int, 3), .inr 9, .inr 1, .inl (.int, 112), .inr 4, .inr 5, .inl (.int, 100), .inl (.int, 100), .inl (.int, 100), .inl (.int, 448), .inl (.int, 20), .inl (.int, 20), .inl (.int, 20), .inl (.int, 20), .inl (.int, 20), .inl (.int, 20), .inl (.int, 12), .inl (.int, 12), .inl (.int, 5), .inl (.int, 64), .inl (.byte, 500), .inl (.int, 540), .inr 11, .inl (.int, 12), .inl (.int, 20), .inl (.int, 20), .inl (.int, 20), .inl (.int, 100), .inl (.int, 100), .inl (.int, 100), .inl (.int, 100), .inl (.int, 100), .inl (.int, 100), .inl (.int, 100), .inl (.int, 300), .inl (.int, 500), .inl (.long, 28), .inl (.int, 12), .inl (.int, 12), .inl (.int, 12), .inl (.int, 12), .inl (.int, 12), .inl (.int, 12), .inl (.int, 12), .inl (.int, 144), .inl (.int, 144), .inl (.int, 144), .inl (.int, 144), .inl (.int, 144), .inl (.int, 14600), .inl (.int, 520), .inl (.boolean, 9), .inl (.int, 3), .inl (.int, 100), .inl (.int, 20), .inl (.int, 20), .inl (.int, 20), .inl (.int, 20), .inl (.int, 20), .inl (.int, 20), .inl (.int, 12), .inl (.int, 12), .inl (.int, 100), .inl (.int, 100), .inl (.int, 100), .inl (.int, 23000), .inl (.int, 23000), .inl (.int, 23000), .inl (.int, 23000), .inl (.int, 23000), .inl (.boolean, 23000), .inl (.int, 112), .inl (.int, 112), .inl (.int, 13), .inl (.int, 520), .inl (.int, 5), .inl (.int, 5), .inl (.int, 5), .inl (.int, 540), .inl (.int, 20), .inl (.long, 1)]
/-- the cells in the order in which they are made; behind them the ledger's rows, each twice as long as the one before -/
def q_SH (i : Nat) : am_S := if i < 118 then q_SHl.getD i (.inr 999) else .inl (.int, 448 * 2 ^ (i - 117))
def q_EN (x : Nat) : String := if x = 1 then "java/util/NoSuchElementException" else "java/lang/IllegalArgumentException"
def q_sets : Nat → Int32 := fun j => ([0, 1, 2, 4, 3, 5, 6, 7] : List Int32).getD j 0
def q_tx3 : String := "gain lose strike unless children or and not birth wed oath choose serve border act here father mother wedded spouse sex age stay has others to year moved "
def q_tx4 : String := ";()+-*/<="
def q_b3 : List Int32 := [103, 97, 105, 110, 32, 108, 111, 115, 101, 32, 115, 116, 114, 105, 107, 101, 32, 117, 110, 108, 101, 115, 115, 32, 99, 104, 105, 108, 100, 114, 101, 110, 32, 111, 114, 32, 97, 110, 100, 32, 110, 111, 116, 32, 98, 105, 114, 116, 104, 32, 119, 101, 100, 32, 111, 97, 116, 104, 32, 99, 104, 111, 111, 115, 101, 32, 115, 101, 114, 118, 101, 32, 98, 111, 114, 100, 101, 114, 32, 97, 99, 116, 32, 104, 101, 114, 101, 32, 102, 97, 116, 104, 101, 114, 32, 109, 111, 116, 104, 101, 114, 32, 119, 101, 100, 100, 101, 100, 32, 115, 112, 111, 117, 115, 101, 32, 115, 101, 120, 32, 97, 103, 101, 32, 115, 116, 97, 121, 32, 104, 97, 115, 32, 111, 116, 104, 101, 114, 115, 32, 116, 111, 32, 121, 101, 97, 114, 32, 109, 111, 118, 101, 100, 32]
def q_b4 : List Int32 := [59, 40, 41, 43, 45, 42, 47, 60, 61]
def q_len : List Nat := [154, 9]
def q_byt : List (List Int32) := [q_b3, q_b4]
def q_isNw : Cond → Bool
  | .castable _ _ => true
  | .declares _ => true
  | .methodLinkNest _ _ _ _ => true
  | _ => false
/-- what is known of things outside: the script, SETS, the two texts, the words of tables that may come to stand on the heap -/
def q_E (ξ : Nat → Nat) (β : Bool) (xs : Nat → Int32) (L : Nat) : am_E := fun s H A =>
  va_T .int (ξ 1) L (fun j => .int (xs j)) A s H ∧ va_T .int (ξ 2) 8 (fun j => .int (q_sets j)) A s H ∧ va_Z "LandBonds" "SETS" "[I" (.ref (ξ 2)) A s H ∧
  vk_S 2 q_len q_byt (fun i => ξ (3 + i)) (fun i => ξ (5 + i)) A s H ∧ vk_R "LandBonds$Parser" 168 q_tx3 (ξ 3) s ∧ vk_R "LandBonds$Parser" 160 q_tx4 (ξ 4) s ∧
  vx_Zq Bundle.tN "UNASSIGNED_STACK" Bundle.steD A s H ∧ vx_Zq Bundle.tN "SUPPRESSED_SENTINEL" Bundle.listD A s H ∧
  (∀ w ∈ lw_tbl, q_isNw w = true → va_Nw w s) ∧ va_Nc "java/lang/IllegalArgumentException" "java/util/NoSuchElementException" s ∧
  va_Z "java/lang/String" "COMPACT_STRINGS" "Z" (.int 1) A s H ∧ va_Z "jdk/internal/util/Preconditions" "SIOOBE_FORMATTER" "Ljava/util/function/BiFunction;" (if β = true then .null else .ref (ξ 7)) A s H
section E
variable {ξ : Nat → Nat} {β : Bool} {xs : Nat → Int32} {L : Nat} {s : State} {H : Heap} {A : Nat → Prop}
theorem q_T1 (h : q_E ξ β xs L s H A) : va_T .int (ξ 1) L (fun j => .int (xs j)) A s H := h.1
theorem q_T2 (h : q_E ξ β xs L s H A) : va_T .int (ξ 2) 8 (fun j => .int (q_sets j)) A s H := h.2.1
theorem q_Z2 (h : q_E ξ β xs L s H A) : va_Z "LandBonds" "SETS" "[I" (.ref (ξ 2)) A s H := h.2.2.1
theorem q_S (h : q_E ξ β xs L s H A) : vk_S 2 q_len q_byt (fun i => ξ (3 + i)) (fun i => ξ (5 + i)) A s H := h.2.2.2.1
theorem q_R3 (h : q_E ξ β xs L s H A) : vk_R "LandBonds$Parser" 168 q_tx3 (ξ 3) s := h.2.2.2.2.1
theorem q_R4 (h : q_E ξ β xs L s H A) : vk_R "LandBonds$Parser" 160 q_tx4 (ξ 4) s := h.2.2.2.2.2.1
theorem q_U (h : q_E ξ β xs L s H A) : vx_Zq Bundle.tN "UNASSIGNED_STACK" Bundle.steD A s H := h.2.2.2.2.2.2.1
theorem q_N (h : q_E ξ β xs L s H A) : vx_Zq Bundle.tN "SUPPRESSED_SENTINEL" Bundle.listD A s H := h.2.2.2.2.2.2.2.1
theorem q_nws (h : q_E ξ β xs L s H A) : ∀ w ∈ lw_tbl, q_isNw w = true → va_Nw w s := h.2.2.2.2.2.2.2.2.1
theorem q_nc (h : q_E ξ β xs L s H A) : va_Nc "java/lang/IllegalArgumentException" "java/util/NoSuchElementException" s := h.2.2.2.2.2.2.2.2.2.1
theorem q_CS (h : q_E ξ β xs L s H A) : va_Z "java/lang/String" "COMPACT_STRINGS" "Z" (.int 1) A s H := h.2.2.2.2.2.2.2.2.2.2.1
theorem q_FM (h : q_E ξ β xs L s H A) : va_Z "jdk/internal/util/Preconditions" "SIOOBE_FORMATTER" "Ljava/util/function/BiFunction;" (if β = true then .null else .ref (ξ 7)) A s H := h.2.2.2.2.2.2.2.2.2.2.2
theorem q_nw1 (i : Nat) {w : Cond} (h : q_E ξ β xs L s H A) (hw : tables_1_1[i]? = some w) (hn : q_isNw w = true) : va_Nw w s := q_nws h w (am_tb1 w (List.mem_of_getElem? hw)) hn
theorem q_nw2 (i : Nat) {w : Cond} (h : q_E ξ β xs L s H A) (hw : tables_1_2[i]? = some w) (hn : q_isNw w = true) : va_Nw w s := q_nws h w (am_tb2 w (List.mem_of_getElem? hw)) hn
theorem q_nw3 (i : Nat) {w : Cond} (h : q_E ξ β xs L s H A) (hw : tables_1_3[i]? = some w) (hn : q_isNw w = true) : va_Nw w s := q_nws h w (am_tb3 w (List.mem_of_getElem? hw)) hn
theorem q_nw4 (i : Nat) {w : Cond} (h : q_E ξ β xs L s H A) (hw : tables_1_4[i]? = some w) (hn : q_isNw w = true) : va_Nw w s := q_nws h w (am_tb4 w (List.mem_of_getElem? hw)) hn
theorem q_nw5 (i : Nat) {w : Cond} (h : q_E ξ β xs L s H A) (hw : tables_1_5[i]? = some w) (hn : q_isNw w = true) : va_Nw w s := q_nws h w (am_tb5 w (List.mem_of_getElem? hw)) hn
theorem q_nw6 (i : Nat) {w : Cond} (h : q_E ξ β xs L s H A) (hw : tables_1_6[i]? = some w) (hn : q_isNw w = true) : va_Nw w s := q_nws h w (am_tb6 w (List.mem_of_getElem? hw)) hn
theorem q_nw7 (i : Nat) {w : Cond} (h : q_E ξ β xs L s H A) (hw : tables_1_7[i]? = some w) (hn : q_isNw w = true) : va_Nw w s := q_nws h w (am_tb7 w (List.mem_of_getElem? hw)) hn
theorem q_nw8 (i : Nat) {w : Cond} (h : q_E ξ β xs L s H A) (hw : tables_1_8[i]? = some w) (hn : q_isNw w = true) : va_Nw w s := q_nws h w (am_tb8 w (List.mem_of_getElem? hw)) hn
set_option maxRecDepth 20000 in
theorem q_bad1_in : ∀ w ∈ (vx_at0 RX10 253 "java/util/NoSuchElementException" ["java/lang/RuntimeException", "java/lang/Exception"]).filter (fun w => !goodWord w), w ∈ lw_tbl ∧ q_isNw w = true := by decide +kernel
set_option maxRecDepth 20000 in
theorem q_bad2_in : ∀ w ∈ (vx_at0 RX10 145 "java/lang/IllegalArgumentException" ["java/lang/RuntimeException", "java/lang/Exception"]).filter (fun w => !goodWord w), w ∈ lw_tbl ∧ q_isNw w = true := by decide +kernel
theorem q_bad1_253 (h : q_E ξ β xs L s H A) : ∀ w ∈ (vx_at0 RX10 253 "java/util/NoSuchElementException" ["java/lang/RuntimeException", "java/lang/Exception"]).filter (fun w => !goodWord w), w.before #[] s = true := fun w hw => q_nws h w (q_bad1_in w hw).1 (q_bad1_in w hw).2
theorem q_bad2_145 (h : q_E ξ β xs L s H A) : ∀ w ∈ (vx_at0 RX10 145 "java/lang/IllegalArgumentException" ["java/lang/RuntimeException", "java/lang/Exception"]).filter (fun w => !goodWord w), w.before #[] s = true := fun w hw => q_nws h w (q_bad2_in w hw).1 (q_bad2_in w hw).2
end E
theorem q_nw_warm {w : Cond} (hw : q_isNw w = true) {s U : State} (hW : s.WarmedH U.vm) (h : va_Nw w s) : va_Nw w U := by
  cases w <;> first | exact h.warmC hW | exact h.warmD hW | exact h.warmM hW | (simp [q_isNw] at hw)
theorem q_Eok {ξ : Nat → Nat} {β : Bool} {xs : Nat → Int32} {L : Nat} : am_Eok (q_E ξ β xs L) := by
  refine ⟨fun s U H A h hW => ?_, fun s H H1 A h hk => ?_, fun s H A B h hAB => ?_⟩
  · exact ⟨va_T.moved hW.alike (q_T1 h), va_T.moved hW.alike (q_T2 h), va_Z.moved hW.alike (q_Z2 h), vk_S.moved hW.alike (q_S h), (q_R3 h).warm hW, (q_R4 h).warm hW, vx_Zq.moved hW.alike (q_U h), vx_Zq.moved hW.alike (q_N h), fun w hw hn => q_nw_warm hn hW (q_nws h w hw hn), va_Nc.moved hW.alike (q_nc h), va_Z.moved hW.alike (q_CS h), va_Z.moved hW.alike (q_FM h)⟩
  · exact ⟨(q_T1 h).kept hk, (q_T2 h).kept hk, (q_Z2 h).kept hk, (q_S h).kept hk, q_R3 h, q_R4 h, (q_U h).kept hk, (q_N h).kept hk, q_nws h, q_nc h, (q_CS h).kept hk, (q_FM h).kept hk⟩
  · exact ⟨(q_T1 h).narrow hAB, (q_T2 h).narrow hAB, (q_Z2 h).narrow hAB, (q_S h).narrow hAB, q_R3 h, q_R4 h, (q_U h).narrow hAB, (q_N h).narrow hAB, q_nws h, q_nc h, (q_CS h).narrow hAB, (q_FM h).narrow hAB⟩
/-! switches -/
def q_sw (lo hi : Int) (ts : List Nat) (d : Nat) : Int32 → Option Nat := fun x => some (if x.toInt < lo ∨ hi < x.toInt then d else ts.getD (x.toInt - lo).toNat d)
def q_lsw (pc : Nat) (df : Int) (ps : List (Int × Int)) : Int32 → Option Nat := fun x => some (((pc : Int) + Op.lookupswitch.offset ps df x.toInt).toNat)
theorem q_off_in : ∀ (ps : List (Int × Int)) (df k : Int), Op.lookupswitch.offset ps df k = df ∨ ∃ q ∈ ps, Op.lookupswitch.offset ps df k = q.2
  | [], df, k => Or.inl rfl
  | (a, o) :: r, df, k => by
    rw [Op.lookupswitch.offset_cons]
    by_cases h : a = k
    · rw [if_pos h]; exact Or.inr ⟨(a, o), List.mem_cons_self, rfl⟩
    · rw [if_neg h]
      rcases q_off_in r df k with h1 | ⟨q, h1, h2⟩
      · exact Or.inl h1
      · exact Or.inr ⟨q, List.mem_cons_of_mem _ h1, h2⟩
section Sw
variable {cl : List vw_C} {SH : Nat → am_S} {ξ : Nat → Nat} {cc : ByteArray} {nL : Nat} {own nm : String} {Ts : List Cond} {E : State → Heap → (Nat → Prop) → Prop} {pc : Nat}
theorem ok_tsw {dflt lo hi : Int} {offs : Array Int} {len dt : Nat} {ts : List Nat} (hdt : (pc : Int) + dflt = (dt : Int)) (hts : offs.toList.map (fun o => (pc : Int) + o) = ts.map (fun (t : Nat) => (t : Int))) (hlen : (ts.length : Int) = hi - lo + 1)
    (hd : decode cc pc = .ok (.tableswitch dflt lo hi offs, len)) : am_okN cl SH ξ cc nL own nm Ts E pc (im_sw (q_sw lo hi ts dt)) := by
  intro D dA p l e R s m args below meth c Q A ρ0 n0 bc bs X hRf hRl hE hA ls st h r hf
  obtain ⟨hx, hb, hml, hown, hnm, hts2⟩ := id X
  unfold im_sw at hf
  split at hf
  · rename_i x r9
    simp only [q_sw] at hf
    cases hf
    refine ⟨_, _, _, _, rfl, Nat.le_refl _, Nat.le_refl _, fun _ _ hk ρ H locs jl hp h0 hr hS hl hwl hws hbc hbs => ?_⟩
    have hk := hk ρ H locs jl hp h0 hr hS hl hwl hws.tail hbc hbs
    by_cases ho : x.toInt < lo ∨ hi < x.toInt
    · rw [if_pos ho] at hk
      exact lv_tableOut hx hb hd ho hdt hk
    · rw [if_neg ho] at hk
      have h1 : ¬ x.toInt < lo := fun z => ho (Or.inl z)
      have h2 : ¬ hi < x.toInt := fun z => ho (Or.inr z)
      have hlt : (x.toInt - lo).toNat < ts.length := by omega
      have hol : offs.toList.length = ts.length := by
        have := congrArg List.length hts
        simpa using this
      have hlo : (x.toInt - lo).toNat < offs.toList.length := by omega
      have hg : offs[(x.toInt - lo).toNat]? = some (offs.toList[(x.toInt - lo).toNat]) := by
        rw [← Array.getElem?_toList, List.getElem?_eq_getElem hlo]
      have he : (pc : Int) + offs.toList[(x.toInt - lo).toNat] = ((ts.getD (x.toInt - lo).toNat dt : Nat) : Int) := by
        have h3 : (offs.toList.map (fun o => (pc : Int) + o))[(x.toInt - lo).toNat]? = (ts.map (fun (t : Nat) => (t : Int)))[(x.toInt - lo).toNat]? := by rw [hts]
        rw [List.getElem?_map, List.getElem?_map, List.getElem?_eq_getElem hlo, List.getElem?_eq_getElem hlt] at h3
        rw [List.getD_eq_getElem?_getD, List.getElem?_eq_getElem hlt]
        exact Option.some.inj h3
      exact lv_tableIn hx hb hd h1 h2 hg he hk
  · cases hf
theorem ok_lsw {df : Int} {ps : List (Int × Int)} {len : Nat} (h0 : 0 ≤ (pc : Int) + df) (hps : ∀ q ∈ ps, 0 ≤ (pc : Int) + q.2) (hs : (ps.zip (ps.drop 1)).all (fun (a, next) => a.1 < next.1) = true)
    (hd : decode cc pc = .ok (.lookupswitch df ps.toArray, len)) : am_okN cl SH ξ cc nL own nm Ts E pc (im_sw (q_lsw pc df ps)) := by
  intro D dA p l e R s m args below meth c Q A ρ0 n0 bc bs X hRf hRl hE hA ls st h r hf
  obtain ⟨hx, hb, hml, hown, hnm, hts2⟩ := id X
  unfold im_sw at hf
  split at hf
  · rename_i x r9
    simp only [q_lsw] at hf
    cases hf
    refine ⟨_, _, _, _, rfl, Nat.le_refl _, Nat.le_refl _, fun _ _ hk ρ H locs jl hp h9 hr hS hl hwl hws hbc hbs => ?_⟩
    have hk := hk ρ H locs jl hp h9 hr hS hl hwl hws.tail hbc hbs
    have hn : 0 ≤ (pc : Int) + Op.lookupswitch.offset ps df x.toInt := by
      rcases q_off_in ps df x.toInt with z | ⟨q, hq, z⟩
      · rw [z]; exact h0
      · rw [z]; exact hps q hq
    exact lv_lookup hx hb hd (by simpa using hs) (off := Op.lookupswitch.offset ps df x.toInt) (by simp) (Int.toNat_of_nonneg hn).symm hk
  · cases hf
end Sw

/-! links and callees -/
def q_KDl : List (MethodName × Cond) := [(yX0_init, Cond.code yX0_init cX0_init 1 none), (yX0_known, Cond.code yX0_known cX0_known 4 (some .int)), (yX0_inForce, Cond.code yX0_inForce cX0_inForce 7 (some .int)), (yX0_having, Cond.code yX0_having cX0_having 5 (some .int)), (yX1_init, Cond.code yX1_init cX1_init 1 none), (yX1_clear, Cond.code yX1_clear cX1_clear 1 none), (yX1_putAct, Cond.code yX1_putAct cX1_putAct 3 none), (yX1_putFact, Cond.code yX1_putFact cX1_putFact 3 none), (yX1_put, Cond.code yX1_put cX1_put 3 none), (yX1_dayAt, Cond.code yX1_dayAt cX1_dayAt 2 (some .int)), (yX1_factAt, Cond.code yX1_factAt cX1_factAt 2 (some .int)), (yX1_actAt, Cond.code yX1_actAt cX1_actAt 2 (some .int)), (yX2_init, Cond.code yX2_init cX2_init 2 none), (yX2_find, Cond.code yX2_find cX2_find 3 none), (yX2_pick, Cond.code yX2_pick cX2_pick 3 (some .int)), (yX2_dayIn, Cond.code yX2_dayIn cX2_dayIn 4 (some .int)), (yX2_firstLike, Cond.code yX2_firstLike cX2_firstLike 5 (some .int)), (yX3_init, Cond.code yX3_init cX3_init 1 none), (yX3_isKnown, Cond.code yX3_isKnown cX3_isKnown 3 (some .boolean)), (yX3_couldBeOn, Cond.code yX3_couldBeOn cX3_couldBeOn 4 (some .boolean)), (yX4_init, Cond.code yX4_init cX4_init 1 none), (yX5_init, Cond.code yX5_init cX5_init 1 none), (yX5_clear, Cond.code yX5_clear cX5_clear 1 none), (yX5_gain, Cond.code yX5_gain cX5_gain 9 (some .int)), (yX5_linksFrom, Cond.code yX5_linksFrom cX5_linksFrom 4 (some .int)), (yX5_tell, Cond.code yX5_tell cX5_tell 6 (some .int)), (yX6_init, Cond.code yX6_init cX6_init 2 none), (yX6_read, Cond.code yX6_read cX6_read 6 (some .int)), (yX6_readClause, Cond.code yX6_readClause cX6_readClause 4 none), (yX6_readStrike, Cond.code yX6_readStrike cX6_readStrike 2 none), (yX6_readBond, Cond.code yX6_readBond cX6_readBond 3 none), (yX6_readEither, Cond.code yX6_readEither cX6_readEither 3 none), (yX6_readBoth, Cond.code yX6_readBoth cX6_readBoth 3 none), (yX6_readTest, Cond.code yX6_readTest cX6_readTest 4 none), (yX6_readSum, Cond.code yX6_readSum cX6_readSum 4 none), (yX6_readProduct, Cond.code yX6_readProduct cX6_readProduct 4 none), (yX6_readPart, Cond.code yX6_readPart cX6_readPart 2 none), (yX6_isWord, Cond.code yX6_isWord cX6_isWord 2 (some .boolean)), (yX6_isSign, Cond.code yX6_isSign cX6_isSign 2 (some .boolean)), (yX6_isNumberHere, Cond.code yX6_isNumberHere cX6_isNumberHere 1 (some .boolean)), (yX6_expect, Cond.code yX6_expect cX6_expect 2 none), (yX6_fail, Cond.code yX6_fail cX6_fail 2 none), (yX6_put, Cond.code yX6_put cX6_put 2 none), (yX6_next, Cond.code yX6_next cX6_next 2 none), (yX6_readDigits, Cond.code yX6_readDigits cX6_readDigits 1 none), (yX6_wordNumber, Cond.code yX6_wordNumber cX6_wordNumber 5 (some .int)), (yX6_isLetter, Cond.code yX6_isLetter cX6_isLetter 1 (some .boolean)), (yX6_isDigit, Cond.code yX6_isDigit cX6_isDigit 1 (some .boolean)), (yX7_init, Cond.code yX7_init cX7_init 1 none), (yX7_isChildOf, Cond.code yX7_isChildOf cX7_isChildOf 4 (some .boolean)), (yX8_init, Cond.code yX8_init cX8_init 1 none), (yX9_init, Cond.code yX9_init cX9_init 6 none), (yX9_live, Cond.code yX9_live cX9_live 9 none), (yX9_holders, Cond.code yX9_holders cX9_holders 4 (some .int)), (yX9_begin, Cond.code yX9_begin cX9_begin 1 none), (yX9_putHappenings, Cond.code yX9_putHappenings cX9_putHappenings 5 none), (yX9_beginAct, Cond.code yX9_beginAct cX9_beginAct 4 none), (yX9_happen, Cond.code yX9_happen cX9_happen 3 none), (yX9_bear, Cond.code yX9_bear cX9_bear 2 none), (yX9_wed, Cond.code yX9_wed cX9_wed 3 none), (yX9_countAsked, Cond.code yX9_countAsked cX9_countAsked 1 (some .int)), (yX9_askedAt, Cond.code yX9_askedAt cX9_askedAt 2 (some .int)), (yX9_ask, Cond.code yX9_ask cX9_ask 3 none), (yX9_choose, Cond.code yX9_choose cX9_choose 8 (some .int)), (yX9_evaluate, Cond.code yX9_evaluate cX9_evaluate 8 (some .int)), (yX9_join, Cond.code yX9_join cX9_join 3 (some .int)), (yX9_valueOf, Cond.code yX9_valueOf cX9_valueOf 11 (some .int)), (yX9_change, Cond.code yX9_change cX9_change 9 none), (yX9_leansOn, Cond.code yX9_leansOn cX9_leansOn 7 (some .int)), (yX10_init, Cond.code yX10_init cX10_init 1 none), (yX10_land, Cond.code yX10_land cX10_land 1 (some .int)), (yX10_place, Cond.code yX10_place cX10_place 2 (some .int)), (yX10_person, Cond.code yX10_person cX10_person 5 (some .int)), (yX10_fact, Cond.code yX10_fact cX10_fact 9 (some .int)), (yX10_also, Cond.code yX10_also cX10_also 4 (some .int)), (yX10_back, Cond.code yX10_back cX10_back 4 (some .boolean)), (yX10_evenings, Cond.code yX10_evenings cX10_evenings 2 (some .int)), (yX10_feed, Cond.code yX10_feed cX10_feed 6 (some .int)), (yX10_act, Cond.code yX10_act cX10_act 7 (some .int)), (yX10_fault, Cond.code yX10_fault cX10_fault 1 (some .int)), (yX10_force, Cond.code yX10_force cX10_force 4 (some .boolean)), (yX10_landOf, Cond.code yX10_landOf cX10_landOf 8 (some .int)), (yX10_ways, Cond.code yX10_ways cX10_ways 3 (some .int)), (yX10_belongs, Cond.code yX10_belongs cX10_belongs 6 (some .int)), (yX10_says, Cond.code yX10_says cX10_says 5 (some .int)), (yX10_settles, Cond.code yX10_settles cX10_settles 9 (some .int)), (yX10_lands, Cond.code yX10_lands cX10_lands 5 (some .int)), (yX10_chain, Cond.code yX10_chain cX10_chain 10 (some .int)), (yX10_times, Cond.code yX10_times cX10_times 7 (some .int)), (yX10_ifStruck, Cond.code yX10_ifStruck cX10_ifStruck 7 (some .int)), (yX10_count, Cond.code yX10_count cX10_count 2 (some .int)), (yX10_needNumber, Cond.code yX10_needNumber cX10_needNumber 2 none), (yX10_needDay, Cond.code yX10_needDay cX10_needDay 1 none), (yX10_needEvening, Cond.code yX10_needEvening cX10_needEvening 2 none), (yX10_needBond, Cond.code yX10_needBond cX10_needBond 5 none), (yX10_isDay, Cond.code yX10_isDay cX10_isDay 1 (some .boolean)), (yX10_isParent, Cond.code yX10_isParent cX10_isParent 2 (some .boolean)), (yX10_putBytes, Cond.code yX10_putBytes cX10_putBytes 3 none), (yX10_forget, Cond.code yX10_forget cX10_forget 1 none), (yX10_workOutWays, Cond.code yX10_workOutWays cX10_workOutWays 5 none), (yX10_waysWith, Cond.code yX10_waysWith cX10_waysWith 5 (some .int)), (yX10_isSettledBy, Cond.code yX10_isSettledBy cX10_isSettledBy 7 (some .boolean)), (yX11_thrown, Cond.code yX11_thrown cX11_thrown 1 (some .int)), (yX11_right, Cond.code yX11_right cX11_right 3 (some .boolean)), (yX11_land, Cond.code yX11_land cX11_land 1 (some .int)), (yX11_place, Cond.code yX11_place cX11_place 2 (some .int)), (yX11_person, Cond.code yX11_person cX11_person 4 (some .int)), (yX11_isPerson, Cond.code yX11_isPerson cX11_isPerson 2 (some .boolean)), (yX11_isLand, Cond.code yX11_isLand cX11_isLand 2 (some .boolean)), (yX11_isDay, Cond.code yX11_isDay cX11_isDay 1 (some .boolean)), (yX11_fact, Cond.code yX11_fact cX11_fact 6 (some .int)), (yX11_also, Cond.code yX11_also cX11_also 5 (some .int)), (yX11_back, Cond.code yX11_back cX11_back 3 (some .boolean)), (yX11_evenings, Cond.code yX11_evenings cX11_evenings 2 (some .int)), (yX11_feed, Cond.code yX11_feed cX11_feed 6 (some .int)), (yX11_lays, Cond.code yX11_lays cX11_lays 3 none), (yX11_byteAt, Cond.code yX11_byteAt cX11_byteAt 2 (some .int)), (yX11_isLetter, Cond.code yX11_isLetter cX11_isLetter 1 (some .boolean)), (yX11_isDigit, Cond.code yX11_isDigit cX11_isDigit 1 (some .boolean)), (yX11_goes, Cond.code yX11_goes cX11_goes 2 none), (yX11_spelled, Cond.code yX11_spelled cX11_spelled 8 (some .long)), (yX11_init, Cond.code yX11_init cX11_init 1 none), (yX11_knownWord, Cond.code yX11_knownWord cX11_knownWord 2 (some .int)), (yX11_wrong, Cond.code yX11_wrong cX11_wrong 2 none), (yX11_isGood, Cond.code yX11_isGood cX11_isGood 1 (some .boolean)), (yX11_isSign, Cond.code yX11_isSign cX11_isSign 2 (some .boolean)), (yX11_puts, Cond.code yX11_puts cX11_puts 2 none), (yX11_strength, Cond.code yX11_strength cX11_strength 1 (some .int)), (yX11_drops, Cond.code yX11_drops cX11_drops 2 none), (yX11_waitsFor, Cond.code yX11_waitsFor cX11_waitsFor 2 none), (yX11_part, Cond.code yX11_part cX11_part 2 none), (yX11_begins, Cond.code yX11_begins cX11_begins 1 none), (yX11_operand, Cond.code yX11_operand cX11_operand 5 none), (yX11_expression, Cond.code yX11_expression cX11_expression 4 (some .int)), (yX11_number, Cond.code yX11_number cX11_number 2 (some .int)), (yX11_clause, Cond.code yX11_clause cX11_clause 4 none), (yX11_struck, Cond.code yX11_struck cX11_struck 3 none), (yX11_change, Cond.code yX11_change cX11_change 3 none), (yX11_act, Cond.code yX11_act cX11_act 6 (some .int)), (yX11_fault, Cond.code yX11_fault cX11_fault 1 (some .int)), (yX11_isKnownAct, Cond.code yX11_isKnownAct cX11_isKnownAct 3 (some .boolean)), (yX11_isKnownFact, Cond.code yX11_isKnownFact cX11_isKnownFact 3 (some .boolean)), (yX11_inForce, Cond.code yX11_inForce cX11_inForce 7 (some .int)), (yX11_findsDoubts, Cond.code yX11_findsDoubts cX11_findsDoubts 3 none), (yX11_dayIn, Cond.code yX11_dayIn cX11_dayIn 5 (some .int)), (yX11_starts, Cond.code yX11_starts cX11_starts 6 none), (yX11_sorts, Cond.code yX11_sorts cX11_sorts 5 none), (yX11_runs, Cond.code yX11_runs cX11_runs 7 none), (yX11_actBegins, Cond.code yX11_actBegins cX11_actBegins 3 none), (yX11_happens, Cond.code yX11_happens cX11_happens 4 none), (yX11_one, Cond.code yX11_one cX11_one 3 none), (yX11_birth, Cond.code yX11_birth cX11_birth 3 none), (yX11_wedding, Cond.code yX11_wedding cX11_wedding 6 none), (yX11_border, Cond.code yX11_border cX11_border 3 none), (yX11_stays, Cond.code yX11_stays cX11_stays 3 none), (yX11_bit, Cond.code yX11_bit cX11_bit 1 (some .int)), (yX11_has, Cond.code yX11_has cX11_has 3 (some .boolean)), (yX11_sees, Cond.code yX11_sees cX11_sees 7 none), (yX11_asks, Cond.code yX11_asks cX11_asks 7 none), (yX11_first, Cond.code yX11_first cX11_first 5 (some .int)), (yX11_works, Cond.code yX11_works cX11_works 3 (some .int)), (yX11_worth, Cond.code yX11_worth cX11_worth 5 (some .int)), (yX11_changes, Cond.code yX11_changes cX11_changes 7 none), (yX11_leans, Cond.code yX11_leans cX11_leans 3 (some .int)), (yX11_gains, Cond.code yX11_gains cX11_gains 6 none), (yX11_loses, Cond.code yX11_loses cX11_loses 3 none), (yX11_finds, Cond.code yX11_finds cX11_finds 5 none), (yX11_isEvening, Cond.code yX11_isEvening cX11_isEvening 2 (some .boolean)), (yX11_force, Cond.code yX11_force cX11_force 4 (some .boolean)), (yX11_landOf, Cond.code yX11_landOf cX11_landOf 4 (some .int)), (yX11_ways, Cond.code yX11_ways cX11_ways 3 (some .int)), (yX11_isBond, Cond.code yX11_isBond cX11_isBond 5 (some .boolean)), (yX11_says0, Cond.code yX11_says0 cX11_says0 5 (some .int)), (yX11_belongs, Cond.code yX11_belongs cX11_belongs 6 (some .int)), (yX11_says, Cond.code yX11_says cX11_says 5 (some .int)), (yX11_isSettled, Cond.code yX11_isSettled cX11_isSettled 8 (some .boolean)), (yX11_many, Cond.code yX11_many cX11_many 3 (some .int)), (yX11_settles, Cond.code yX11_settles cX11_settles 9 (some .int)), (yX11_lands, Cond.code yX11_lands cX11_lands 5 (some .int)), (yX11_chain, Cond.code yX11_chain cX11_chain 10 (some .int)), (yX11_times, Cond.code yX11_times cX11_times 6 (some .int)), (yX11_ifStruck, Cond.code yX11_ifStruck cX11_ifStruck 9 (some .int)), (yX11_count, Cond.code yX11_count cX11_count 2 (some .int)), (yL_fact, Cond.codeWith yL_fact cL_fact 8 (some .int) [(0, 16, 19, 13)]), (yL_also, Cond.codeWith yL_also cL_also 5 (some .int) [(0, 10, 13, 13)]), (yL_back, Cond.codeWith yL_back cL_back 5 (some .int) [(0, 17, 20, 13)]), (yL_evenings, Cond.codeWith yL_evenings cL_evenings 4 (some .int) [(0, 9, 12, 27)]), (yL_act, Cond.codeWith yL_act cL_act 7 (some .int) [(0, 14, 17, 13), (0, 14, 21, 27)]), (yL_force, Cond.codeWith yL_force cL_force 6 (some .int) [(0, 19, 22, 13), (0, 19, 26, 27)]), (yL_landOf, Cond.codeWith yL_landOf cL_landOf 6 (some .int) [(0, 12, 15, 13), (0, 12, 19, 27)]), (yL_ways, Cond.codeWith yL_ways cL_ways 5 (some .int) [(0, 10, 13, 13), (0, 10, 17, 27)]), (yL_belongs, Cond.codeWith yL_belongs cL_belongs 7 (some .int) [(0, 14, 17, 13), (0, 14, 21, 27)]), (yL_says, Cond.codeWith yL_says cL_says 7 (some .int) [(0, 14, 17, 13), (0, 14, 21, 27)]), (yL_settles, Cond.codeWith yL_settles cL_settles 7 (some .int) [(0, 14, 17, 13), (0, 14, 21, 27)]), (yL_lands, Cond.codeWith yL_lands cL_lands 7 (some .int) [(0, 14, 17, 13), (0, 14, 21, 27)]), (yL_chain, Cond.codeWith yL_chain cL_chain 9 (some .int) [(0, 18, 21, 13), (0, 18, 25, 27)]), (yL_times, Cond.codeWith yL_times cL_times 8 (some .int) [(0, 16, 19, 13), (0, 16, 23, 27)]), (yL_ifStruck, Cond.codeWith yL_ifStruck cL_ifStruck 7 (some .int) [(0, 14, 17, 13), (0, 14, 21, 27)]), (yL_count, Cond.codeWith yL_count cL_count 4 (some .int) [(0, 9, 12, 13)]), (yL_law, Cond.code yL_law cL_law 7 (some .boolean)), (yJ6_bitCount_0f7a4, Cond.code yJ6_bitCount_0f7a4 cJ6_bitCount_0f7a4 1 (some .int)), (yJ7_fill_53178, Cond.code yJ7_fill_53178 cJ7_fill_53178 4 none), (yJ7_copyOf_59c91, Cond.code yJ7_copyOf_59c91 cJ7_copyOf_59c91 3 (some (.array .int))), (yJ0_length_8abf5, Cond.code yJ0_length_8abf5 cJ0_length_8abf5 1 (some .int)), (yJ0_coder_7d493, Cond.code yJ0_coder_7d493 cJ0_coder_7d493 1 (some .byte)), (yJ0_charAt_5068e, Cond.code yJ0_charAt_5068e cJ0_charAt_5068e 2 (some .char)), (yJ0_isLatin1_aae02, Cond.code yJ0_isLatin1_aae02 cJ0_isLatin1_aae02 1 (some .boolean)), (yJ1_charAt_3b067, Cond.code yJ1_charAt_3b067 cJ1_charAt_3b067 2 (some .char)), (yJ0_checkIndex_df160, Cond.code yJ0_checkIndex_df160 cJ0_checkIndex_df160 2 none), (yJ3_checkIndex_8e157, Cond.code yJ3_checkIndex_8e157 cJ3_checkIndex_8e157 3 (some .int)), (yJ0_indexOf_0f7a4, Cond.code yJ0_indexOf_0f7a4 cJ0_indexOf_0f7a4 2 (some .int)), (yJ0_indexOf_7cf53, Cond.code yJ0_indexOf_7cf53 cJ0_indexOf_7cf53 3 (some .int)), (yJ1_indexOf_4cfef, Cond.code yJ1_indexOf_4cfef cJ1_indexOf_4cfef 4 (some .int)), (yJ1_canEncode_9a6ad, Cond.code yJ1_canEncode_9a6ad cJ1_canEncode_9a6ad 1 (some .boolean)), (yJ1_indexOfChar_4cfef, Cond.code yJ1_indexOfChar_4cfef cJ1_indexOfChar_4cfef 6 (some .int))]
def q_KD (k : Nat) : MethodName × Cond := q_KDl.getD k (yL_law, Cond.tt)
def q_MLl : List Nat := [1, 4, 7, 5, 1, 1, 3, 3, 3, 2, 2, 2, 2, 3, 3, 4, 5, 1, 3, 4, 1, 1, 1, 9, 4, 6, 2, 6, 4, 2, 3, 3, 3, 4, 4, 4, 2, 2, 2, 1, 2, 2, 2, 2, 1, 5, 1, 1, 1, 4, 1, 6, 9, 4, 1, 5, 4, 3, 2, 3, 1, 2, 3, 8, 8, 3, 11, 9, 7, 1, 1, 2, 5, 9, 4, 4, 2, 6, 7, 1, 4, 8, 3, 6, 5, 9, 5, 10, 7, 7, 2, 2, 1, 2, 5, 1, 2, 3, 1, 5, 5, 7, 1, 3, 1, 2, 4, 2, 2, 1, 6, 5, 3, 2, 6, 3, 2, 1, 1, 2, 8, 1, 2, 2, 1, 2, 2, 1, 2, 2, 2, 1, 5, 4, 2, 4, 3, 3, 6, 1, 3, 3, 7, 3, 5, 6, 5, 7, 3, 4, 3, 3, 6, 3, 3, 1, 3, 7, 7, 5, 3, 5, 7, 3, 6, 3, 5, 2, 4, 4, 3, 5, 5, 6, 5, 8, 3, 9, 5, 10, 6, 9, 2, 8, 5, 5, 4, 7, 6, 6, 5, 7, 7, 7, 7, 9, 8, 7, 4, 7, 1, 4, 3, 1, 1, 2, 1, 2, 2, 3, 2, 3, 4, 1, 6]
def q_ML (k : Nat) : Nat := q_MLl.getD k 0
set_option maxRecDepth 20000 in
theorem fl_X0_9 : Cond.fieldLink RX0 9 (TX0 0).1 (TX0 0).2.1 (TX0 0).2.2.1 ∈ am_ts := am_in1 137 rfl rfl
set_option maxRecDepth 20000 in
theorem fl_X0_15 : Cond.fieldLink RX0 15 (TX0 1).1 (TX0 1).2.1 (TX0 1).2.2.1 ∈ am_ts := am_in1 141 rfl rfl
set_option maxRecDepth 20000 in
theorem fl_X0_18 : Cond.fieldLink RX0 18 (TX0 2).1 (TX0 2).2.1 (TX0 2).2.2.1 ∈ am_ts := am_in1 144 rfl rfl
set_option maxRecDepth 20000 in
theorem fl_X0_21 : Cond.fieldLink RX0 21 (TX0 3).1 (TX0 3).2.1 (TX0 3).2.2.1 ∈ am_ts := am_in1 146 rfl rfl
set_option maxRecDepth 20000 in
theorem fl_X0_24 : Cond.fieldLink RX0 24 (TX0 4).1 (TX0 4).2.1 (TX0 4).2.2.1 ∈ am_ts := am_in1 148 rfl rfl
set_option maxRecDepth 20000 in
theorem fl_X0_27 : Cond.fieldLink RX0 27 (TX0 5).1 (TX0 5).2.1 (TX0 5).2.2.1 ∈ am_ts := am_in1 150 rfl rfl
set_option maxRecDepth 20000 in
theorem fl_X0_30 : Cond.fieldLink RX0 30 (TX0 6).1 (TX0 6).2.1 (TX0 6).2.2.1 ∈ am_ts := am_in1 152 rfl rfl
set_option maxRecDepth 20000 in
theorem fl_X0_33 : Cond.fieldLink RX0 33 (TX0 7).1 (TX0 7).2.1 (TX0 7).2.2.1 ∈ am_ts := am_in1 154 rfl rfl
set_option maxRecDepth 20000 in
theorem fl_X0_36 : Cond.fieldLink RX0 36 (TX0 8).1 (TX0 8).2.1 (TX0 8).2.2.1 ∈ am_ts := am_in1 157 rfl rfl
set_option maxRecDepth 20000 in
theorem fl_X0_39 : Cond.fieldLink RX0 39 (TX0 9).1 (TX0 9).2.1 (TX0 9).2.2.1 ∈ am_ts := am_in1 160 rfl rfl
set_option maxRecDepth 20000 in
theorem fl_X0_42 : Cond.fieldLink RX0 42 (TX0 10).1 (TX0 10).2.1 (TX0 10).2.2.1 ∈ am_ts := am_in1 163 rfl rfl
set_option maxRecDepth 20000 in
theorem fl_X0_45 : Cond.fieldLink RX0 45 (TX0 11).1 (TX0 11).2.1 (TX0 11).2.2.1 ∈ am_ts := am_in1 166 rfl rfl
set_option maxRecDepth 20000 in
theorem fl_X0_48 : Cond.fieldLink RX0 48 (TX0 12).1 (TX0 12).2.1 (TX0 12).2.2.1 ∈ am_ts := am_in1 169 rfl rfl
set_option maxRecDepth 20000 in
theorem fl_X0_51 : Cond.fieldLink RX0 51 (TX0 13).1 (TX0 13).2.1 (TX0 13).2.2.1 ∈ am_ts := am_in1 172 rfl rfl
set_option maxRecDepth 20000 in
theorem fl_X0_54 : Cond.fieldLink RX0 54 (TX0 14).1 (TX0 14).2.1 (TX0 14).2.2.1 ∈ am_ts := am_in1 175 rfl rfl
set_option maxRecDepth 20000 in
theorem fl_X0_57 : Cond.fieldLink RX0 57 (TX0 15).1 (TX0 15).2.1 (TX0 15).2.2.1 ∈ am_ts := am_in1 178 rfl rfl
set_option maxRecDepth 20000 in
theorem fl_X1_9 : Cond.fieldLink RX1 9 (TX1 0).1 (TX1 0).2.1 (TX1 0).2.2.1 ∈ am_ts := am_in2 64 rfl rfl
set_option maxRecDepth 20000 in
theorem fl_X1_15 : Cond.fieldLink RX1 15 (TX1 1).1 (TX1 1).2.1 (TX1 1).2.2.1 ∈ am_ts := am_in2 65 rfl rfl
set_option maxRecDepth 20000 in
theorem fl_X2_9 : Cond.fieldLink RX2 9 (TX2 0).1 (TX2 0).2.1 (TX2 0).2.2.1 ∈ am_ts := am_in2 26 rfl rfl
set_option maxRecDepth 20000 in
theorem fl_X2_15 : Cond.fieldLink RX2 15 (TX2 1).1 (TX2 1).2.1 (TX2 1).2.2.1 ∈ am_ts := am_in2 28 rfl rfl
set_option maxRecDepth 20000 in
theorem fl_X2_18 : Cond.fieldLink RX2 18 (TX2 2).1 (TX2 2).2.1 (TX2 2).2.2.1 ∈ am_ts := am_in2 29 rfl rfl
set_option maxRecDepth 20000 in
theorem fl_X2_21 : Cond.fieldLink RX2 21 (TX2 3).1 (TX2 3).2.1 (TX2 3).2.2.1 ∈ am_ts := am_in2 30 rfl rfl
set_option maxRecDepth 20000 in
theorem fl_X2_25 : Cond.fieldLink RX2 25 (TX2 5).1 (TX2 5).2.1 (TX2 5).2.2.1 ∈ am_ts := am_in2 33 rfl rfl
set_option maxRecDepth 20000 in
theorem fl_X2_29 : Cond.fieldLink RX2 29 (TX2 6).1 (TX2 6).2.1 (TX2 6).2.2.1 ∈ am_ts := am_in2 35 rfl rfl
set_option maxRecDepth 20000 in
theorem fl_X2_32 : Cond.fieldLink RX2 32 (TX2 4).1 (TX2 4).2.1 (TX2 4).2.2.1 ∈ am_ts := am_in2 31 rfl rfl
set_option maxRecDepth 20000 in
theorem fl_X2_35 : Cond.fieldLink RX2 35 (TX3 8).1 (TX3 8).2.1 (TX3 8).2.2.1 ∈ am_ts := am_in1 109 rfl rfl
set_option maxRecDepth 20000 in
theorem fl_X2_38 : Cond.fieldLink RX2 38 (TX3 7).1 (TX3 7).2.1 (TX3 7).2.2.1 ∈ am_ts := am_in1 107 rfl rfl
set_option maxRecDepth 20000 in
theorem fl_X2_45 : Cond.fieldLink RX2 45 (TX3 6).1 (TX3 6).2.1 (TX3 6).2.2.1 ∈ am_ts := am_in1 104 rfl rfl
set_option maxRecDepth 20000 in
theorem fl_X3_9 : Cond.fieldLink RX3 9 (TX3 0).1 (TX3 0).2.1 (TX3 0).2.2.1 ∈ am_ts := am_in1 87 rfl rfl
set_option maxRecDepth 20000 in
theorem fl_X3_15 : Cond.fieldLink RX3 15 (TX3 1).1 (TX3 1).2.1 (TX3 1).2.2.1 ∈ am_ts := am_in1 90 rfl rfl
set_option maxRecDepth 20000 in
theorem fl_X3_18 : Cond.fieldLink RX3 18 (TX3 2).1 (TX3 2).2.1 (TX3 2).2.2.1 ∈ am_ts := am_in1 93 rfl rfl
set_option maxRecDepth 20000 in
theorem fl_X3_21 : Cond.fieldLink RX3 21 (TX3 3).1 (TX3 3).2.1 (TX3 3).2.2.1 ∈ am_ts := am_in1 96 rfl rfl
set_option maxRecDepth 20000 in
theorem fl_X3_24 : Cond.fieldLink RX3 24 (TX3 4).1 (TX3 4).2.1 (TX3 4).2.2.1 ∈ am_ts := am_in1 99 rfl rfl
set_option maxRecDepth 20000 in
theorem fl_X3_27 : Cond.fieldLink RX3 27 (TX3 5).1 (TX3 5).2.1 (TX3 5).2.2.1 ∈ am_ts := am_in1 101 rfl rfl
set_option maxRecDepth 20000 in
theorem fl_X3_30 : Cond.fieldLink RX3 30 (TX3 6).1 (TX3 6).2.1 (TX3 6).2.2.1 ∈ am_ts := am_in1 103 rfl rfl
set_option maxRecDepth 20000 in
theorem fl_X3_33 : Cond.fieldLink RX3 33 (TX3 7).1 (TX3 7).2.1 (TX3 7).2.2.1 ∈ am_ts := am_in1 106 rfl rfl
set_option maxRecDepth 20000 in
theorem fl_X5_9 : Cond.fieldLink RX5 9 (TX5 0).1 (TX5 0).2.1 (TX5 0).2.2.1 ∈ am_ts := am_in2 121 rfl rfl
set_option maxRecDepth 20000 in
theorem fl_X5_15 : Cond.fieldLink RX5 15 (TX5 1).1 (TX5 1).2.1 (TX5 1).2.2.1 ∈ am_ts := am_in2 124 rfl rfl
set_option maxRecDepth 20000 in
theorem fl_X5_18 : Cond.fieldLink RX5 18 (TX5 2).1 (TX5 2).2.1 (TX5 2).2.2.1 ∈ am_ts := am_in2 126 rfl rfl
set_option maxRecDepth 20000 in
theorem fl_X5_21 : Cond.fieldLink RX5 21 (TX5 3).1 (TX5 3).2.1 (TX5 3).2.2.1 ∈ am_ts := am_in2 129 rfl rfl
set_option maxRecDepth 20000 in
theorem fl_X5_24 : Cond.fieldLink RX5 24 (TX5 4).1 (TX5 4).2.1 (TX5 4).2.2.1 ∈ am_ts := am_in2 130 rfl rfl
set_option maxRecDepth 20000 in
theorem fl_X6_9 : Cond.fieldLink RX6 9 (TX6 0).1 (TX6 0).2.1 (TX6 0).2.2.1 ∈ am_ts := am_in1 221 rfl rfl
set_option maxRecDepth 20000 in
theorem fl_X6_15 : Cond.fieldLink RX6 15 (TX6 1).1 (TX6 1).2.1 (TX6 1).2.2.1 ∈ am_ts := am_in1 222 rfl rfl
set_option maxRecDepth 20000 in
theorem fl_X6_19 : Cond.fieldLink RX6 19 (TX6 11).1 (TX6 11).2.1 (TX6 11).2.2.1 ∈ am_ts := am_in1 232 rfl rfl
set_option maxRecDepth 20000 in
theorem fl_X6_29 : Cond.fieldLink RX6 29 (TX6 2).1 (TX6 2).2.1 (TX6 2).2.2.1 ∈ am_ts := am_in1 223 rfl rfl
set_option maxRecDepth 20000 in
theorem fl_X6_32 : Cond.fieldLink RX6 32 (TX6 3).1 (TX6 3).2.1 (TX6 3).2.2.1 ∈ am_ts := am_in1 224 rfl rfl
set_option maxRecDepth 20000 in
theorem fl_X6_35 : Cond.fieldLink RX6 35 (TX6 10).1 (TX6 10).2.1 (TX6 10).2.2.1 ∈ am_ts := am_in1 231 rfl rfl
set_option maxRecDepth 20000 in
theorem fl_X6_38 : Cond.fieldLink RX6 38 (TX0 15).1 (TX0 15).2.1 (TX0 15).2.2.1 ∈ am_ts := am_in1 179 rfl rfl
set_option maxRecDepth 20000 in
theorem fl_X6_43 : Cond.fieldLink RX6 43 (TX6 9).1 (TX6 9).2.1 (TX6 9).2.2.1 ∈ am_ts := am_in1 230 rfl rfl
set_option maxRecDepth 20000 in
theorem fl_X6_46 : Cond.fieldLink RX6 46 (TX0 0).1 (TX0 0).2.1 (TX0 0).2.2.1 ∈ am_ts := am_in1 138 rfl rfl
set_option maxRecDepth 20000 in
theorem fl_X6_50 : Cond.fieldLink RX6 50 (TX0 5).1 (TX0 5).2.1 (TX0 5).2.2.1 ∈ am_ts := am_in1 151 rfl rfl
set_option maxRecDepth 20000 in
theorem fl_X6_53 : Cond.fieldLink RX6 53 (TX0 6).1 (TX0 6).2.1 (TX0 6).2.2.1 ∈ am_ts := am_in1 153 rfl rfl
set_option maxRecDepth 20000 in
theorem fl_X6_56 : Cond.fieldLink RX6 56 (TX0 7).1 (TX0 7).2.1 (TX0 7).2.2.1 ∈ am_ts := am_in1 155 rfl rfl
set_option maxRecDepth 20000 in
theorem fl_X6_62 : Cond.fieldLink RX6 62 (TX6 4).1 (TX6 4).2.1 (TX6 4).2.2.1 ∈ am_ts := am_in1 225 rfl rfl
set_option maxRecDepth 20000 in
theorem fl_X6_69 : Cond.fieldLink RX6 69 (TX6 8).1 (TX6 8).2.1 (TX6 8).2.2.1 ∈ am_ts := am_in1 229 rfl rfl
set_option maxRecDepth 20000 in
theorem fl_X6_76 : Cond.fieldLink RX6 76 (TX0 8).1 (TX0 8).2.1 (TX0 8).2.2.1 ∈ am_ts := am_in1 158 rfl rfl
set_option maxRecDepth 20000 in
theorem fl_X6_92 : Cond.fieldLink RX6 92 (TX6 7).1 (TX6 7).2.1 (TX6 7).2.2.1 ∈ am_ts := am_in1 228 rfl rfl
set_option maxRecDepth 20000 in
theorem fl_X6_95 : Cond.fieldLink RX6 95 (TX0 9).1 (TX0 9).2.1 (TX0 9).2.2.1 ∈ am_ts := am_in1 161 rfl rfl
set_option maxRecDepth 20000 in
theorem fl_X6_98 : Cond.fieldLink RX6 98 (TX0 10).1 (TX0 10).2.1 (TX0 10).2.2.1 ∈ am_ts := am_in1 164 rfl rfl
set_option maxRecDepth 20000 in
theorem fl_X6_104 : Cond.fieldLink RX6 104 (TX0 11).1 (TX0 11).2.1 (TX0 11).2.2.1 ∈ am_ts := am_in1 167 rfl rfl
set_option maxRecDepth 20000 in
theorem fl_X6_111 : Cond.fieldLink RX6 111 (TX0 12).1 (TX0 12).2.1 (TX0 12).2.2.1 ∈ am_ts := am_in1 170 rfl rfl
set_option maxRecDepth 20000 in
theorem fl_X6_114 : Cond.fieldLink RX6 114 (TX0 13).1 (TX0 13).2.1 (TX0 13).2.2.1 ∈ am_ts := am_in1 173 rfl rfl
set_option maxRecDepth 20000 in
theorem fl_X6_138 : Cond.fieldLink RX6 138 (TX6 6).1 (TX6 6).2.1 (TX6 6).2.2.1 ∈ am_ts := am_in1 227 rfl rfl
set_option maxRecDepth 20000 in
theorem fl_X6_141 : Cond.fieldLink RX6 141 (TX6 5).1 (TX6 5).2.1 (TX6 5).2.2.1 ∈ am_ts := am_in1 226 rfl rfl
set_option maxRecDepth 20000 in
theorem fl_X6_144 : Cond.fieldLink RX6 144 (TX0 14).1 (TX0 14).2.1 (TX0 14).2.2.1 ∈ am_ts := am_in1 177 rfl rfl
set_option maxRecDepth 20000 in
theorem fl_X7_9 : Cond.fieldLink RX7 9 (TX7 0).1 (TX7 0).2.1 (TX7 0).2.2.1 ∈ am_ts := am_in1 61 rfl rfl
set_option maxRecDepth 20000 in
theorem fl_X7_15 : Cond.fieldLink RX7 15 (TX7 1).1 (TX7 1).2.1 (TX7 1).2.2.1 ∈ am_ts := am_in1 64 rfl rfl
set_option maxRecDepth 20000 in
theorem fl_X7_18 : Cond.fieldLink RX7 18 (TX7 2).1 (TX7 2).2.1 (TX7 2).2.2.1 ∈ am_ts := am_in1 67 rfl rfl
set_option maxRecDepth 20000 in
theorem fl_X8_9 : Cond.fieldLink RX8 9 (TX8 0).1 (TX8 0).2.1 (TX8 0).2.2.1 ∈ am_ts := am_in1 41 rfl rfl
set_option maxRecDepth 20000 in
theorem fl_X9_12 : Cond.fieldLink RX9 12 (TX9 5).1 (TX9 5).2.1 (TX9 5).2.2.1 ∈ am_ts := am_in2 148 rfl rfl
set_option maxRecDepth 20000 in
theorem fl_X9_21 : Cond.fieldLink RX9 21 (TX9 6).1 (TX9 6).2.1 (TX9 6).2.2.1 ∈ am_ts := am_in2 149 rfl rfl
set_option maxRecDepth 20000 in
theorem fl_X9_28 : Cond.fieldLink RX9 28 (TX9 7).1 (TX9 7).2.1 (TX9 7).2.2.1 ∈ am_ts := am_in2 150 rfl rfl
set_option maxRecDepth 20000 in
theorem fl_X9_32 : Cond.fieldLink RX9 32 (TX9 8).1 (TX9 8).2.1 (TX9 8).2.2.1 ∈ am_ts := am_in2 152 rfl rfl
set_option maxRecDepth 20000 in
theorem fl_X9_36 : Cond.fieldLink RX9 36 (TX9 9).1 (TX9 9).2.1 (TX9 9).2.2.1 ∈ am_ts := am_in2 154 rfl rfl
set_option maxRecDepth 20000 in
theorem fl_X9_39 : Cond.fieldLink RX9 39 (TX9 10).1 (TX9 10).2.1 (TX9 10).2.2.1 ∈ am_ts := am_in2 155 rfl rfl
set_option maxRecDepth 20000 in
theorem fl_X9_42 : Cond.fieldLink RX9 42 (TX9 11).1 (TX9 11).2.1 (TX9 11).2.2.1 ∈ am_ts := am_in2 156 rfl rfl
set_option maxRecDepth 20000 in
theorem fl_X9_45 : Cond.fieldLink RX9 45 (TX9 12).1 (TX9 12).2.1 (TX9 12).2.2.1 ∈ am_ts := am_in2 157 rfl rfl
set_option maxRecDepth 20000 in
theorem fl_X9_48 : Cond.fieldLink RX9 48 (TX9 13).1 (TX9 13).2.1 (TX9 13).2.2.1 ∈ am_ts := am_in2 158 rfl rfl
set_option maxRecDepth 20000 in
theorem fl_X9_51 : Cond.fieldLink RX9 51 (TX9 14).1 (TX9 14).2.1 (TX9 14).2.2.1 ∈ am_ts := am_in2 159 rfl rfl
set_option maxRecDepth 20000 in
theorem fl_X9_54 : Cond.fieldLink RX9 54 (TX9 15).1 (TX9 15).2.1 (TX9 15).2.2.1 ∈ am_ts := am_in2 160 rfl rfl
set_option maxRecDepth 20000 in
theorem fl_X9_57 : Cond.fieldLink RX9 57 (TX9 16).1 (TX9 16).2.1 (TX9 16).2.2.1 ∈ am_ts := am_in2 161 rfl rfl
set_option maxRecDepth 20000 in
theorem fl_X9_60 : Cond.fieldLink RX9 60 (TX9 17).1 (TX9 17).2.1 (TX9 17).2.2.1 ∈ am_ts := am_in2 162 rfl rfl
set_option maxRecDepth 20000 in
theorem fl_X9_63 : Cond.fieldLink RX9 63 (TX9 1).1 (TX9 1).2.1 (TX9 1).2.2.1 ∈ am_ts := am_in2 144 rfl rfl
set_option maxRecDepth 20000 in
theorem fl_X9_67 : Cond.fieldLink RX9 67 (TX9 0).1 (TX9 0).2.1 (TX9 0).2.2.1 ∈ am_ts := am_in2 143 rfl rfl
set_option maxRecDepth 20000 in
theorem fl_X9_71 : Cond.fieldLink RX9 71 (TX9 2).1 (TX9 2).2.1 (TX9 2).2.2.1 ∈ am_ts := am_in2 145 rfl rfl
set_option maxRecDepth 20000 in
theorem fl_X9_75 : Cond.fieldLink RX9 75 (TX9 3).1 (TX9 3).2.1 (TX9 3).2.2.1 ∈ am_ts := am_in2 146 rfl rfl
set_option maxRecDepth 20000 in
theorem fl_X9_79 : Cond.fieldLink RX9 79 (TX9 4).1 (TX9 4).2.1 (TX9 4).2.2.1 ∈ am_ts := am_in2 147 rfl rfl
set_option maxRecDepth 20000 in
theorem fl_X9_85 : Cond.fieldLink RX9 85 (TX9 19).1 (TX9 19).2.1 (TX9 19).2.2.1 ∈ am_ts := am_in2 164 rfl rfl
set_option maxRecDepth 20000 in
theorem fl_X9_89 : Cond.fieldLink RX9 89 (TX2 6).1 (TX2 6).2.1 (TX2 6).2.2.1 ∈ am_ts := am_in2 36 rfl rfl
set_option maxRecDepth 20000 in
theorem fl_X9_107 : Cond.fieldLink RX9 107 (TX9 18).1 (TX9 18).2.1 (TX9 18).2.2.1 ∈ am_ts := am_in2 163 rfl rfl
set_option maxRecDepth 20000 in
theorem fl_X9_116 : Cond.fieldLink RX9 116 (TX1 1).1 (TX1 1).2.1 (TX1 1).2.2.1 ∈ am_ts := am_in2 66 rfl rfl
set_option maxRecDepth 20000 in
theorem fl_X9_122 : Cond.fieldLink RX9 122 (TX4 0).1 (TX4 0).2.1 (TX4 0).2.2.1 ∈ am_ts := am_in2 78 rfl rfl
set_option maxRecDepth 20000 in
theorem fl_X9_128 : Cond.fieldLink RX9 128 (TX4 4).1 (TX4 4).2.1 (TX4 4).2.2.1 ∈ am_ts := am_in2 82 rfl rfl
set_option maxRecDepth 20000 in
theorem fl_X9_151 : Cond.fieldLink RX9 151 (TX7 3).1 (TX7 3).2.1 (TX7 3).2.2.1 ∈ am_ts := am_in1 70 rfl rfl
set_option maxRecDepth 20000 in
theorem fl_X9_163 : Cond.fieldLink RX9 163 (TX8 0).1 (TX8 0).2.1 (TX8 0).2.2.1 ∈ am_ts := am_in1 43 rfl rfl
set_option maxRecDepth 20000 in
theorem fl_X9_175 : Cond.fieldLink RX9 175 (TX0 15).1 (TX0 15).2.1 (TX0 15).2.2.1 ∈ am_ts := am_in1 180 rfl rfl
set_option maxRecDepth 20000 in
theorem fl_X9_176 : Cond.fieldLink RX9 176 (TX0 1).1 (TX0 1).2.1 (TX0 1).2.2.1 ∈ am_ts := am_in1 142 rfl rfl
set_option maxRecDepth 20000 in
theorem fl_X9_182 : Cond.fieldLink RX9 182 (TX3 8).1 (TX3 8).2.1 (TX3 8).2.2.1 ∈ am_ts := am_in1 110 rfl rfl
set_option maxRecDepth 20000 in
theorem fl_X9_199 : Cond.fieldLink RX9 199 (TX4 1).1 (TX4 1).2.1 (TX4 1).2.2.1 ∈ am_ts := am_in2 79 rfl rfl
set_option maxRecDepth 20000 in
theorem fl_X9_202 : Cond.fieldLink RX9 202 (TX4 2).1 (TX4 2).2.1 (TX4 2).2.2.1 ∈ am_ts := am_in2 80 rfl rfl
set_option maxRecDepth 20000 in
theorem fl_X9_205 : Cond.fieldLink RX9 205 (TX0 0).1 (TX0 0).2.1 (TX0 0).2.2.1 ∈ am_ts := am_in1 139 rfl rfl
set_option maxRecDepth 20000 in
theorem fl_X9_208 : Cond.fieldLink RX9 208 (TX4 3).1 (TX4 3).2.1 (TX4 3).2.2.1 ∈ am_ts := am_in2 81 rfl rfl
set_option maxRecDepth 20000 in
theorem fl_X9_214 : Cond.fieldLink RX9 214 (TX4 5).1 (TX4 5).2.1 (TX4 5).2.2.1 ∈ am_ts := am_in2 83 rfl rfl
set_option maxRecDepth 20000 in
theorem fl_X9_217 : Cond.fieldLink RX9 217 (TX4 6).1 (TX4 6).2.1 (TX4 6).2.2.1 ∈ am_ts := am_in2 84 rfl rfl
set_option maxRecDepth 20000 in
theorem fl_X9_220 : Cond.fieldLink RX9 220 (TX4 7).1 (TX4 7).2.1 (TX4 7).2.2.1 ∈ am_ts := am_in2 85 rfl rfl
set_option maxRecDepth 20000 in
theorem fl_X9_223 : Cond.fieldLink RX9 223 (TX4 10).1 (TX4 10).2.1 (TX4 10).2.2.1 ∈ am_ts := am_in2 88 rfl rfl
set_option maxRecDepth 20000 in
theorem fl_X9_225 : Cond.fieldLink RX9 225 (TX4 11).1 (TX4 11).2.1 (TX4 11).2.2.1 ∈ am_ts := am_in2 89 rfl rfl
set_option maxRecDepth 20000 in
theorem fl_X9_228 : Cond.fieldLink RX9 228 (TX3 0).1 (TX3 0).2.1 (TX3 0).2.2.1 ∈ am_ts := am_in1 89 rfl rfl
set_option maxRecDepth 20000 in
theorem fl_X9_231 : Cond.fieldLink RX9 231 (TX3 3).1 (TX3 3).2.1 (TX3 3).2.2.1 ∈ am_ts := am_in1 98 rfl rfl
set_option maxRecDepth 20000 in
theorem fl_X9_233 : Cond.fieldLink RX9 233 (TX3 2).1 (TX3 2).2.1 (TX3 2).2.2.1 ∈ am_ts := am_in1 95 rfl rfl
set_option maxRecDepth 20000 in
theorem fl_X9_235 : Cond.fieldLink RX9 235 (TX3 1).1 (TX3 1).2.1 (TX3 1).2.2.1 ∈ am_ts := am_in1 92 rfl rfl
set_option maxRecDepth 20000 in
theorem fl_X9_237 : Cond.fieldLink RX9 237 (TX8 2).1 (TX8 2).2.1 (TX8 2).2.2.1 ∈ am_ts := am_in1 46 rfl rfl
set_option maxRecDepth 20000 in
theorem fl_X9_246 : Cond.fieldLink RX9 246 (TX4 8).1 (TX4 8).2.1 (TX4 8).2.2.1 ∈ am_ts := am_in2 86 rfl rfl
set_option maxRecDepth 20000 in
theorem fl_X9_249 : Cond.fieldLink RX9 249 (TX4 9).1 (TX4 9).2.1 (TX4 9).2.2.1 ∈ am_ts := am_in2 87 rfl rfl
set_option maxRecDepth 20000 in
theorem fl_X9_259 : Cond.fieldLink RX9 259 (TX0 7).1 (TX0 7).2.1 (TX0 7).2.2.1 ∈ am_ts := am_in1 156 rfl rfl
set_option maxRecDepth 20000 in
theorem fl_X9_262 : Cond.fieldLink RX9 262 (TX0 8).1 (TX0 8).2.1 (TX0 8).2.2.1 ∈ am_ts := am_in1 159 rfl rfl
set_option maxRecDepth 20000 in
theorem fl_X9_263 : Cond.fieldLink RX9 263 (TX0 9).1 (TX0 9).2.1 (TX0 9).2.2.1 ∈ am_ts := am_in1 162 rfl rfl
set_option maxRecDepth 20000 in
theorem fl_X9_265 : Cond.fieldLink RX9 265 (TX0 10).1 (TX0 10).2.1 (TX0 10).2.2.1 ∈ am_ts := am_in1 165 rfl rfl
set_option maxRecDepth 20000 in
theorem fl_X9_268 : Cond.fieldLink RX9 268 (TX0 11).1 (TX0 11).2.1 (TX0 11).2.2.1 ∈ am_ts := am_in1 168 rfl rfl
set_option maxRecDepth 20000 in
theorem fl_X9_275 : Cond.fieldLink RX9 275 (TX0 12).1 (TX0 12).2.1 (TX0 12).2.2.1 ∈ am_ts := am_in1 171 rfl rfl
set_option maxRecDepth 20000 in
theorem fl_X9_278 : Cond.fieldLink RX9 278 (TX0 14).1 (TX0 14).2.1 (TX0 14).2.2.1 ∈ am_ts := am_in1 176 rfl rfl
set_option maxRecDepth 20000 in
theorem fl_X9_288 : Cond.fieldLink RX9 288 (TX7 1).1 (TX7 1).2.1 (TX7 1).2.2.1 ∈ am_ts := am_in1 66 rfl rfl
set_option maxRecDepth 20000 in
theorem fl_X9_291 : Cond.fieldLink RX9 291 (TX7 2).1 (TX7 2).2.1 (TX7 2).2.2.1 ∈ am_ts := am_in1 69 rfl rfl
set_option maxRecDepth 20000 in
theorem fl_X9_294 : Cond.fieldLink RX9 294 (TX7 0).1 (TX7 0).2.1 (TX7 0).2.2.1 ∈ am_ts := am_in1 63 rfl rfl
set_option maxRecDepth 20000 in
theorem fl_X9_310 : Cond.fieldLink RX9 310 (TX5 2).1 (TX5 2).2.1 (TX5 2).2.2.1 ∈ am_ts := am_in2 127 rfl rfl
set_option maxRecDepth 20000 in
theorem fl_X9_313 : Cond.fieldLink RX9 313 (TX0 13).1 (TX0 13).2.1 (TX0 13).2.2.1 ∈ am_ts := am_in1 174 rfl rfl
set_option maxRecDepth 20000 in
theorem fl_X9_319 : Cond.fieldLink RX9 319 (TX5 0).1 (TX5 0).2.1 (TX5 0).2.2.1 ∈ am_ts := am_in2 122 rfl rfl
set_option maxRecDepth 20000 in
theorem fl_X10_10 : Cond.fieldLink RX10 10 (TX10 0).1 (TX10 0).2.1 (TX10 0).2.2.1 ∈ am_ts := am_in2 207 rfl rfl
set_option maxRecDepth 20000 in
theorem fl_X10_19 : Cond.fieldLink RX10 19 (TX10 1).1 (TX10 1).2.1 (TX10 1).2.2.1 ∈ am_ts := am_in2 208 rfl rfl
set_option maxRecDepth 20000 in
theorem fl_X10_26 : Cond.fieldLink RX10 26 (TX10 2).1 (TX10 2).2.1 (TX10 2).2.2.1 ∈ am_ts := am_in2 209 rfl rfl
set_option maxRecDepth 20000 in
theorem fl_X10_33 : Cond.fieldLink RX10 33 (TX10 3).1 (TX10 3).2.1 (TX10 3).2.2.1 ∈ am_ts := am_in2 210 rfl rfl
set_option maxRecDepth 20000 in
theorem fl_X10_42 : Cond.fieldLink RX10 42 (TX10 4).1 (TX10 4).2.1 (TX10 4).2.2.1 ∈ am_ts := am_in2 211 rfl rfl
set_option maxRecDepth 20000 in
theorem fl_X10_51 : Cond.fieldLink RX10 51 (TX10 5).1 (TX10 5).2.1 (TX10 5).2.2.1 ∈ am_ts := am_in2 212 rfl rfl
set_option maxRecDepth 20000 in
theorem fl_X10_60 : Cond.fieldLink RX10 60 (TX10 6).1 (TX10 6).2.1 (TX10 6).2.2.1 ∈ am_ts := am_in2 213 rfl rfl
set_option maxRecDepth 20000 in
theorem fl_X10_64 : Cond.fieldLink RX10 64 (TX10 7).1 (TX10 7).2.1 (TX10 7).2.2.1 ∈ am_ts := am_in2 214 rfl rfl
set_option maxRecDepth 20000 in
theorem fl_X10_68 : Cond.fieldLink RX10 68 (TX10 8).1 (TX10 8).2.1 (TX10 8).2.2.1 ∈ am_ts := am_in2 215 rfl rfl
set_option maxRecDepth 20000 in
theorem fl_X10_72 : Cond.fieldLink RX10 72 (TX10 11).1 (TX10 11).2.1 (TX10 11).2.2.1 ∈ am_ts := am_in2 218 rfl rfl
set_option maxRecDepth 20000 in
theorem fl_X10_76 : Cond.fieldLink RX10 76 (TX8 2).1 (TX8 2).2.1 (TX8 2).2.2.1 ∈ am_ts := am_in1 45 rfl rfl
set_option maxRecDepth 20000 in
theorem fl_X10_82 : Cond.fieldLink RX10 82 (TX8 1).1 (TX8 1).2.1 (TX8 1).2.2.1 ∈ am_ts := am_in1 44 rfl rfl
set_option maxRecDepth 20000 in
theorem fl_X10_85 : Cond.fieldLink RX10 85 (TX8 0).1 (TX8 0).2.1 (TX8 0).2.2.1 ∈ am_ts := am_in1 42 rfl rfl
set_option maxRecDepth 20000 in
theorem fl_X10_92 : Cond.fieldLink RX10 92 (TX7 3).1 (TX7 3).2.1 (TX7 3).2.2.1 ∈ am_ts := am_in1 71 rfl rfl
set_option maxRecDepth 20000 in
theorem fl_X10_93 : Cond.fieldLink RX10 93 (TX7 0).1 (TX7 0).2.1 (TX7 0).2.2.1 ∈ am_ts := am_in1 62 rfl rfl
set_option maxRecDepth 20000 in
theorem fl_X10_96 : Cond.fieldLink RX10 96 (TX7 1).1 (TX7 1).2.1 (TX7 1).2.2.1 ∈ am_ts := am_in1 65 rfl rfl
set_option maxRecDepth 20000 in
theorem fl_X10_99 : Cond.fieldLink RX10 99 (TX7 2).1 (TX7 2).2.1 (TX7 2).2.2.1 ∈ am_ts := am_in1 68 rfl rfl
set_option maxRecDepth 20000 in
theorem fl_X10_106 : Cond.fieldLink RX10 106 (TX3 8).1 (TX3 8).2.1 (TX3 8).2.2.1 ∈ am_ts := am_in1 111 rfl rfl
set_option maxRecDepth 20000 in
theorem fl_X10_110 : Cond.fieldLink RX10 110 (TX3 0).1 (TX3 0).2.1 (TX3 0).2.2.1 ∈ am_ts := am_in1 88 rfl rfl
set_option maxRecDepth 20000 in
theorem fl_X10_113 : Cond.fieldLink RX10 113 (TX3 1).1 (TX3 1).2.1 (TX3 1).2.2.1 ∈ am_ts := am_in1 91 rfl rfl
set_option maxRecDepth 20000 in
theorem fl_X10_116 : Cond.fieldLink RX10 116 (TX3 2).1 (TX3 2).2.1 (TX3 2).2.2.1 ∈ am_ts := am_in1 94 rfl rfl
set_option maxRecDepth 20000 in
theorem fl_X10_119 : Cond.fieldLink RX10 119 (TX3 3).1 (TX3 3).2.1 (TX3 3).2.2.1 ∈ am_ts := am_in1 97 rfl rfl
set_option maxRecDepth 20000 in
theorem fl_X10_122 : Cond.fieldLink RX10 122 (TX3 4).1 (TX3 4).2.1 (TX3 4).2.2.1 ∈ am_ts := am_in1 100 rfl rfl
set_option maxRecDepth 20000 in
theorem fl_X10_125 : Cond.fieldLink RX10 125 (TX10 10).1 (TX10 10).2.1 (TX10 10).2.2.1 ∈ am_ts := am_in2 217 rfl rfl
set_option maxRecDepth 20000 in
theorem fl_X10_128 : Cond.fieldLink RX10 128 (TX3 5).1 (TX3 5).2.1 (TX3 5).2.2.1 ∈ am_ts := am_in1 102 rfl rfl
set_option maxRecDepth 20000 in
theorem fl_X10_131 : Cond.fieldLink RX10 131 (TX3 6).1 (TX3 6).2.1 (TX3 6).2.2.1 ∈ am_ts := am_in1 105 rfl rfl
set_option maxRecDepth 20000 in
theorem fl_X10_134 : Cond.fieldLink RX10 134 (TX3 7).1 (TX3 7).2.1 (TX3 7).2.2.1 ∈ am_ts := am_in1 108 rfl rfl
set_option maxRecDepth 20000 in
theorem fl_X10_141 : Cond.fieldLink RX10 141 (TX0 15).1 (TX0 15).2.1 (TX0 15).2.2.1 ∈ am_ts := am_in1 181 rfl rfl
set_option maxRecDepth 20000 in
theorem fl_X10_142 : Cond.fieldLink RX10 142 (TX0 4).1 (TX0 4).2.1 (TX0 4).2.2.1 ∈ am_ts := am_in1 149 rfl rfl
set_option maxRecDepth 20000 in
theorem fl_X10_146 : Cond.fieldLink RX10 146 (TX10 9).1 (TX10 9).2.1 (TX10 9).2.2.1 ∈ am_ts := am_in2 216 rfl rfl
set_option maxRecDepth 20000 in
theorem fl_X10_153 : Cond.fieldLink RX10 153 (TX6 11).1 (TX6 11).2.1 (TX6 11).2.2.1 ∈ am_ts := am_in1 233 rfl rfl
set_option maxRecDepth 20000 in
theorem fl_X10_160 : Cond.fieldLink RX10 160 (TX0 1).1 (TX0 1).2.1 (TX0 1).2.2.1 ∈ am_ts := am_in1 143 rfl rfl
set_option maxRecDepth 20000 in
theorem fl_X10_163 : Cond.fieldLink RX10 163 (TX0 2).1 (TX0 2).2.1 (TX0 2).2.2.1 ∈ am_ts := am_in1 145 rfl rfl
set_option maxRecDepth 20000 in
theorem fl_X10_166 : Cond.fieldLink RX10 166 (TX0 3).1 (TX0 3).2.1 (TX0 3).2.2.1 ∈ am_ts := am_in1 147 rfl rfl
set_option maxRecDepth 20000 in
theorem fl_X10_187 : Cond.fieldLink RX10 187 (TX2 5).1 (TX2 5).2.1 (TX2 5).2.2.1 ∈ am_ts := am_in2 34 rfl rfl
set_option maxRecDepth 20000 in
theorem fl_X10_190 : Cond.fieldLink RX10 190 (TX2 4).1 (TX2 4).2.1 (TX2 4).2.2.1 ∈ am_ts := am_in2 32 rfl rfl
set_option maxRecDepth 20000 in
theorem fl_X10_191 : Cond.fieldLink RX10 191 (TX2 0).1 (TX2 0).2.1 (TX2 0).2.2.1 ∈ am_ts := am_in2 27 rfl rfl
set_option maxRecDepth 20000 in
theorem fl_X10_215 : Cond.fieldLink RX10 215 (TX9 8).1 (TX9 8).2.1 (TX9 8).2.2.1 ∈ am_ts := am_in2 153 rfl rfl
set_option maxRecDepth 20000 in
theorem fl_X10_218 : Cond.fieldLink RX10 218 (TX9 7).1 (TX9 7).2.1 (TX9 7).2.2.1 ∈ am_ts := am_in2 151 rfl rfl
set_option maxRecDepth 20000 in
theorem fl_X10_222 : Cond.fieldLink RX10 222 (TX5 0).1 (TX5 0).2.1 (TX5 0).2.2.1 ∈ am_ts := am_in2 123 rfl rfl
set_option maxRecDepth 20000 in
theorem fl_X10_234 : Cond.fieldLink RX10 234 (TX5 1).1 (TX5 1).2.1 (TX5 1).2.2.1 ∈ am_ts := am_in2 125 rfl rfl
set_option maxRecDepth 20000 in
theorem fl_X10_237 : Cond.fieldLink RX10 237 (TX5 2).1 (TX5 2).2.1 (TX5 2).2.2.1 ∈ am_ts := am_in2 128 rfl rfl
set_option maxRecDepth 20000 in
theorem fl_X10_240 : Cond.fieldLink RX10 240 (TX0 0).1 (TX0 0).2.1 (TX0 0).2.2.1 ∈ am_ts := am_in1 140 rfl rfl
set_option maxRecDepth 20000 in
theorem fl_X10_257 : Cond.fieldLink RX10 257 (TX9 19).1 (TX9 19).2.1 (TX9 19).2.2.1 ∈ am_ts := am_in2 165 rfl rfl
set_option maxRecDepth 20000 in
theorem fl_X11_1 : Cond.fieldLink RX11 1 (TX11 0).1 (TX11 0).2.1 (TX11 0).2.2.1 ∈ am_ts := am_in5 226 rfl rfl
set_option maxRecDepth 20000 in
theorem fl_X11_7 : Cond.fieldLink RX11 7 (TX11 3).1 (TX11 3).2.1 (TX11 3).2.2.1 ∈ am_ts := am_in5 229 rfl rfl
set_option maxRecDepth 20000 in
theorem fl_X11_10 : Cond.fieldLink RX11 10 (TX11 2).1 (TX11 2).2.1 (TX11 2).2.2.1 ∈ am_ts := am_in5 228 rfl rfl
set_option maxRecDepth 20000 in
theorem fl_X11_13 : Cond.fieldLink RX11 13 (TX11 4).1 (TX11 4).2.1 (TX11 4).2.2.1 ∈ am_ts := am_in5 230 rfl rfl
set_option maxRecDepth 20000 in
theorem fl_X11_16 : Cond.fieldLink RX11 16 (TX11 7).1 (TX11 7).2.1 (TX11 7).2.2.1 ∈ am_ts := am_in5 233 rfl rfl
set_option maxRecDepth 20000 in
theorem fl_X11_20 : Cond.fieldLink RX11 20 (TX11 5).1 (TX11 5).2.1 (TX11 5).2.2.1 ∈ am_ts := am_in5 231 rfl rfl
set_option maxRecDepth 20000 in
theorem fl_X11_23 : Cond.fieldLink RX11 23 (TX11 8).1 (TX11 8).2.1 (TX11 8).2.2.1 ∈ am_ts := am_in5 234 rfl rfl
set_option maxRecDepth 20000 in
theorem fl_X11_26 : Cond.fieldLink RX11 26 (TX11 9).1 (TX11 9).2.1 (TX11 9).2.2.1 ∈ am_ts := am_in5 235 rfl rfl
set_option maxRecDepth 20000 in
theorem fl_X11_29 : Cond.fieldLink RX11 29 (TX11 10).1 (TX11 10).2.1 (TX11 10).2.2.1 ∈ am_ts := am_in5 236 rfl rfl
set_option maxRecDepth 20000 in
theorem fl_X11_44 : Cond.fieldLink RX11 44 (TX11 6).1 (TX11 6).2.1 (TX11 6).2.2.1 ∈ am_ts := am_in5 232 rfl rfl
set_option maxRecDepth 20000 in
theorem fl_X11_50 : Cond.fieldLink RX11 50 (TX11 11).1 (TX11 11).2.1 (TX11 11).2.2.1 ∈ am_ts := am_in5 237 rfl rfl
set_option maxRecDepth 20000 in
theorem fl_X11_53 : Cond.fieldLink RX11 53 (TX11 12).1 (TX11 12).2.1 (TX11 12).2.2.1 ∈ am_ts := am_in5 238 rfl rfl
set_option maxRecDepth 20000 in
theorem fl_X11_56 : Cond.fieldLink RX11 56 (TX11 13).1 (TX11 13).2.1 (TX11 13).2.2.1 ∈ am_ts := am_in5 239 rfl rfl
set_option maxRecDepth 20000 in
theorem fl_X11_59 : Cond.fieldLink RX11 59 (TX11 14).1 (TX11 14).2.1 (TX11 14).2.2.1 ∈ am_ts := am_in6 0 rfl rfl
set_option maxRecDepth 20000 in
theorem fl_X11_62 : Cond.fieldLink RX11 62 (TX11 15).1 (TX11 15).2.1 (TX11 15).2.2.1 ∈ am_ts := am_in6 1 rfl rfl
set_option maxRecDepth 20000 in
theorem fl_X11_65 : Cond.fieldLink RX11 65 (TX11 1).1 (TX11 1).2.1 (TX11 1).2.2.1 ∈ am_ts := am_in5 227 rfl rfl
set_option maxRecDepth 20000 in
theorem fl_X11_68 : Cond.fieldLink RX11 68 (TX11 16).1 (TX11 16).2.1 (TX11 16).2.2.1 ∈ am_ts := am_in6 2 rfl rfl
set_option maxRecDepth 20000 in
theorem fl_X11_71 : Cond.fieldLink RX11 71 (TX11 17).1 (TX11 17).2.1 (TX11 17).2.2.1 ∈ am_ts := am_in6 3 rfl rfl
set_option maxRecDepth 20000 in
theorem fl_X11_74 : Cond.fieldLink RX11 74 (TX11 18).1 (TX11 18).2.1 (TX11 18).2.2.1 ∈ am_ts := am_in6 4 rfl rfl
set_option maxRecDepth 20000 in
theorem fl_X11_77 : Cond.fieldLink RX11 77 (TX11 32).1 (TX11 32).2.1 (TX11 32).2.2.1 ∈ am_ts := am_in6 18 rfl rfl
set_option maxRecDepth 20000 in
theorem fl_X11_80 : Cond.fieldLink RX11 80 (TX11 40).1 (TX11 40).2.1 (TX11 40).2.2.1 ∈ am_ts := am_in6 26 rfl rfl
set_option maxRecDepth 20000 in
theorem fl_X11_83 : Cond.fieldLink RX11 83 (TX11 20).1 (TX11 20).2.1 (TX11 20).2.2.1 ∈ am_ts := am_in6 6 rfl rfl
set_option maxRecDepth 20000 in
theorem fl_X11_90 : Cond.fieldLink RX11 90 (TX11 19).1 (TX11 19).2.1 (TX11 19).2.2.1 ∈ am_ts := am_in6 5 rfl rfl
set_option maxRecDepth 20000 in
theorem fl_X11_93 : Cond.fieldLink RX11 93 (TX11 23).1 (TX11 23).2.1 (TX11 23).2.2.1 ∈ am_ts := am_in6 9 rfl rfl
set_option maxRecDepth 20000 in
theorem fl_X11_96 : Cond.fieldLink RX11 96 (TX11 24).1 (TX11 24).2.1 (TX11 24).2.2.1 ∈ am_ts := am_in6 10 rfl rfl
set_option maxRecDepth 20000 in
theorem fl_X11_103 : Cond.fieldLink RX11 103 (TX11 26).1 (TX11 26).2.1 (TX11 26).2.2.1 ∈ am_ts := am_in6 12 rfl rfl
set_option maxRecDepth 20000 in
theorem fl_X11_106 : Cond.fieldLink RX11 106 (TX11 30).1 (TX11 30).2.1 (TX11 30).2.2.1 ∈ am_ts := am_in6 16 rfl rfl
set_option maxRecDepth 20000 in
theorem fl_X11_110 : Cond.fieldLink RX11 110 (TX11 28).1 (TX11 28).2.1 (TX11 28).2.2.1 ∈ am_ts := am_in6 14 rfl rfl
set_option maxRecDepth 20000 in
theorem fl_X11_113 : Cond.fieldLink RX11 113 (TX11 29).1 (TX11 29).2.1 (TX11 29).2.2.1 ∈ am_ts := am_in6 15 rfl rfl
set_option maxRecDepth 20000 in
theorem fl_X11_116 : Cond.fieldLink RX11 116 (TX11 25).1 (TX11 25).2.1 (TX11 25).2.2.1 ∈ am_ts := am_in6 11 rfl rfl
set_option maxRecDepth 20000 in
theorem fl_X11_125 : Cond.fieldLink RX11 125 (TX11 27).1 (TX11 27).2.1 (TX11 27).2.2.1 ∈ am_ts := am_in6 13 rfl rfl
set_option maxRecDepth 20000 in
theorem fl_X11_134 : Cond.fieldLink RX11 134 (TX11 22).1 (TX11 22).2.1 (TX11 22).2.2.1 ∈ am_ts := am_in6 8 rfl rfl
set_option maxRecDepth 20000 in
theorem fl_X11_137 : Cond.fieldLink RX11 137 (TX11 31).1 (TX11 31).2.1 (TX11 31).2.2.1 ∈ am_ts := am_in6 17 rfl rfl
set_option maxRecDepth 20000 in
theorem fl_X11_141 : Cond.fieldLink RX11 141 (TX11 36).1 (TX11 36).2.1 (TX11 36).2.2.1 ∈ am_ts := am_in6 22 rfl rfl
set_option maxRecDepth 20000 in
theorem fl_X11_144 : Cond.fieldLink RX11 144 (TX11 37).1 (TX11 37).2.1 (TX11 37).2.2.1 ∈ am_ts := am_in6 23 rfl rfl
set_option maxRecDepth 20000 in
theorem fl_X11_147 : Cond.fieldLink RX11 147 (TX11 38).1 (TX11 38).2.1 (TX11 38).2.2.1 ∈ am_ts := am_in6 24 rfl rfl
set_option maxRecDepth 20000 in
theorem fl_X11_150 : Cond.fieldLink RX11 150 (TX11 39).1 (TX11 39).2.1 (TX11 39).2.2.1 ∈ am_ts := am_in6 25 rfl rfl
set_option maxRecDepth 20000 in
theorem fl_X11_153 : Cond.fieldLink RX11 153 (TX11 41).1 (TX11 41).2.1 (TX11 41).2.2.1 ∈ am_ts := am_in6 27 rfl rfl
set_option maxRecDepth 20000 in
theorem fl_X11_156 : Cond.fieldLink RX11 156 (TX11 42).1 (TX11 42).2.1 (TX11 42).2.2.1 ∈ am_ts := am_in6 28 rfl rfl
set_option maxRecDepth 20000 in
theorem fl_X11_159 : Cond.fieldLink RX11 159 (TX11 43).1 (TX11 43).2.1 (TX11 43).2.2.1 ∈ am_ts := am_in6 29 rfl rfl
set_option maxRecDepth 20000 in
theorem fl_X11_162 : Cond.fieldLink RX11 162 (TX11 44).1 (TX11 44).2.1 (TX11 44).2.2.1 ∈ am_ts := am_in6 30 rfl rfl
set_option maxRecDepth 20000 in
theorem fl_X11_165 : Cond.fieldLink RX11 165 (TX11 45).1 (TX11 45).2.1 (TX11 45).2.2.1 ∈ am_ts := am_in6 31 rfl rfl
set_option maxRecDepth 20000 in
theorem fl_X11_168 : Cond.fieldLink RX11 168 (TX11 46).1 (TX11 46).2.1 (TX11 46).2.2.1 ∈ am_ts := am_in6 32 rfl rfl
set_option maxRecDepth 20000 in
theorem fl_X11_171 : Cond.fieldLink RX11 171 (TX11 47).1 (TX11 47).2.1 (TX11 47).2.2.1 ∈ am_ts := am_in6 33 rfl rfl
set_option maxRecDepth 20000 in
theorem fl_X11_174 : Cond.fieldLink RX11 174 (TX11 48).1 (TX11 48).2.1 (TX11 48).2.2.1 ∈ am_ts := am_in6 34 rfl rfl
set_option maxRecDepth 20000 in
theorem fl_X11_177 : Cond.fieldLink RX11 177 (TX11 49).1 (TX11 49).2.1 (TX11 49).2.2.1 ∈ am_ts := am_in6 35 rfl rfl
set_option maxRecDepth 20000 in
theorem fl_X11_180 : Cond.fieldLink RX11 180 (TX11 50).1 (TX11 50).2.1 (TX11 50).2.2.1 ∈ am_ts := am_in6 36 rfl rfl
set_option maxRecDepth 20000 in
theorem fl_X11_184 : Cond.fieldLink RX11 184 (TX11 53).1 (TX11 53).2.1 (TX11 53).2.2.1 ∈ am_ts := am_in6 39 rfl rfl
set_option maxRecDepth 20000 in
theorem fl_X11_187 : Cond.fieldLink RX11 187 (TX11 54).1 (TX11 54).2.1 (TX11 54).2.2.1 ∈ am_ts := am_in6 40 rfl rfl
set_option maxRecDepth 20000 in
theorem fl_X11_190 : Cond.fieldLink RX11 190 (TX11 55).1 (TX11 55).2.1 (TX11 55).2.2.1 ∈ am_ts := am_in6 41 rfl rfl
set_option maxRecDepth 20000 in
theorem fl_X11_193 : Cond.fieldLink RX11 193 (TX11 56).1 (TX11 56).2.1 (TX11 56).2.2.1 ∈ am_ts := am_in6 42 rfl rfl
set_option maxRecDepth 20000 in
theorem fl_X11_196 : Cond.fieldLink RX11 196 (TX11 57).1 (TX11 57).2.1 (TX11 57).2.2.1 ∈ am_ts := am_in6 43 rfl rfl
set_option maxRecDepth 20000 in
theorem fl_X11_199 : Cond.fieldLink RX11 199 (TX11 58).1 (TX11 58).2.1 (TX11 58).2.2.1 ∈ am_ts := am_in6 44 rfl rfl
set_option maxRecDepth 20000 in
theorem fl_X11_202 : Cond.fieldLink RX11 202 (TX11 59).1 (TX11 59).2.1 (TX11 59).2.2.1 ∈ am_ts := am_in6 45 rfl rfl
set_option maxRecDepth 20000 in
theorem fl_X11_205 : Cond.fieldLink RX11 205 (TX11 60).1 (TX11 60).2.1 (TX11 60).2.2.1 ∈ am_ts := am_in6 46 rfl rfl
set_option maxRecDepth 20000 in
theorem fl_X11_208 : Cond.fieldLink RX11 208 (TX11 61).1 (TX11 61).2.1 (TX11 61).2.2.1 ∈ am_ts := am_in6 47 rfl rfl
set_option maxRecDepth 20000 in
theorem fl_X11_211 : Cond.fieldLink RX11 211 (TX11 62).1 (TX11 62).2.1 (TX11 62).2.2.1 ∈ am_ts := am_in6 48 rfl rfl
set_option maxRecDepth 20000 in
theorem fl_X11_214 : Cond.fieldLink RX11 214 (TX11 63).1 (TX11 63).2.1 (TX11 63).2.2.1 ∈ am_ts := am_in6 49 rfl rfl
set_option maxRecDepth 20000 in
theorem fl_X11_217 : Cond.fieldLink RX11 217 (TX11 64).1 (TX11 64).2.1 (TX11 64).2.2.1 ∈ am_ts := am_in6 50 rfl rfl
set_option maxRecDepth 20000 in
theorem fl_X11_220 : Cond.fieldLink RX11 220 (TX11 65).1 (TX11 65).2.1 (TX11 65).2.2.1 ∈ am_ts := am_in6 51 rfl rfl
set_option maxRecDepth 20000 in
theorem fl_X11_223 : Cond.fieldLink RX11 223 (TX11 67).1 (TX11 67).2.1 (TX11 67).2.2.1 ∈ am_ts := am_in6 53 rfl rfl
set_option maxRecDepth 20000 in
theorem fl_X11_226 : Cond.fieldLink RX11 226 (TX11 68).1 (TX11 68).2.1 (TX11 68).2.2.1 ∈ am_ts := am_in6 54 rfl rfl
set_option maxRecDepth 20000 in
theorem fl_X11_229 : Cond.fieldLink RX11 229 (TX11 69).1 (TX11 69).2.1 (TX11 69).2.2.1 ∈ am_ts := am_in6 55 rfl rfl
set_option maxRecDepth 20000 in
theorem fl_X11_232 : Cond.fieldLink RX11 232 (TX11 70).1 (TX11 70).2.1 (TX11 70).2.2.1 ∈ am_ts := am_in6 56 rfl rfl
set_option maxRecDepth 20000 in
theorem fl_X11_235 : Cond.fieldLink RX11 235 (TX11 71).1 (TX11 71).2.1 (TX11 71).2.2.1 ∈ am_ts := am_in6 57 rfl rfl
set_option maxRecDepth 20000 in
theorem fl_X11_238 : Cond.fieldLink RX11 238 (TX11 72).1 (TX11 72).2.1 (TX11 72).2.2.1 ∈ am_ts := am_in6 58 rfl rfl
set_option maxRecDepth 20000 in
theorem fl_X11_241 : Cond.fieldLink RX11 241 (TX11 74).1 (TX11 74).2.1 (TX11 74).2.2.1 ∈ am_ts := am_in6 60 rfl rfl
set_option maxRecDepth 20000 in
theorem fl_X11_244 : Cond.fieldLink RX11 244 (TX11 75).1 (TX11 75).2.1 (TX11 75).2.2.1 ∈ am_ts := am_in6 61 rfl rfl
set_option maxRecDepth 20000 in
theorem fl_X11_247 : Cond.fieldLink RX11 247 (TX11 83).1 (TX11 83).2.1 (TX11 83).2.2.1 ∈ am_ts := am_in6 69 rfl rfl
set_option maxRecDepth 20000 in
theorem fl_X11_250 : Cond.fieldLink RX11 250 (TX11 84).1 (TX11 84).2.1 (TX11 84).2.2.1 ∈ am_ts := am_in6 70 rfl rfl
set_option maxRecDepth 20000 in
theorem fl_X11_253 : Cond.fieldLink RX11 253 (TX11 85).1 (TX11 85).2.1 (TX11 85).2.2.1 ∈ am_ts := am_in6 71 rfl rfl
set_option maxRecDepth 20000 in
theorem fl_X11_256 : Cond.fieldLink RX11 256 (TX11 86).1 (TX11 86).2.1 (TX11 86).2.2.1 ∈ am_ts := am_in6 72 rfl rfl
set_option maxRecDepth 20000 in
theorem fl_X11_259 : Cond.fieldLink RX11 259 (TX11 87).1 (TX11 87).2.1 (TX11 87).2.2.1 ∈ am_ts := am_in6 73 rfl rfl
set_option maxRecDepth 20000 in
theorem fl_X11_262 : Cond.fieldLink RX11 262 (TX11 91).1 (TX11 91).2.1 (TX11 91).2.2.1 ∈ am_ts := am_in6 77 rfl rfl
set_option maxRecDepth 20000 in
theorem fl_X11_265 : Cond.fieldLink RX11 265 (TX11 92).1 (TX11 92).2.1 (TX11 92).2.2.1 ∈ am_ts := am_in6 78 rfl rfl
set_option maxRecDepth 20000 in
theorem fl_X11_276 : Cond.fieldLink RX11 276 (TX11 21).1 (TX11 21).2.1 (TX11 21).2.2.1 ∈ am_ts := am_in6 7 rfl rfl
set_option maxRecDepth 20000 in
theorem fl_X11_279 : Cond.fieldLink RX11 279 (TX11 33).1 (TX11 33).2.1 (TX11 33).2.2.1 ∈ am_ts := am_in6 19 rfl rfl
set_option maxRecDepth 20000 in
theorem fl_X11_282 : Cond.fieldLink RX11 282 (TX11 34).1 (TX11 34).2.1 (TX11 34).2.2.1 ∈ am_ts := am_in6 20 rfl rfl
set_option maxRecDepth 20000 in
theorem fl_X11_305 : Cond.fieldLink RX11 305 (TX11 35).1 (TX11 35).2.1 (TX11 35).2.2.1 ∈ am_ts := am_in6 21 rfl rfl
set_option maxRecDepth 20000 in
theorem fl_X11_346 : Cond.fieldLink RX11 346 (TX11 51).1 (TX11 51).2.1 (TX11 51).2.2.1 ∈ am_ts := am_in6 37 rfl rfl
set_option maxRecDepth 20000 in
theorem fl_X11_349 : Cond.fieldLink RX11 349 (TX11 52).1 (TX11 52).2.1 (TX11 52).2.2.1 ∈ am_ts := am_in6 38 rfl rfl
set_option maxRecDepth 20000 in
theorem fl_X11_355 : Cond.fieldLink RX11 355 (TX11 66).1 (TX11 66).2.1 (TX11 66).2.2.1 ∈ am_ts := am_in6 52 rfl rfl
set_option maxRecDepth 20000 in
theorem fl_X11_358 : Cond.fieldLink RX11 358 (TX11 73).1 (TX11 73).2.1 (TX11 73).2.2.1 ∈ am_ts := am_in6 59 rfl rfl
set_option maxRecDepth 20000 in
theorem fl_X11_373 : Cond.fieldLink RX11 373 (TX11 76).1 (TX11 76).2.1 (TX11 76).2.2.1 ∈ am_ts := am_in6 62 rfl rfl
set_option maxRecDepth 20000 in
theorem fl_X11_380 : Cond.fieldLink RX11 380 (TX11 77).1 (TX11 77).2.1 (TX11 77).2.2.1 ∈ am_ts := am_in6 63 rfl rfl
set_option maxRecDepth 20000 in
theorem fl_X11_389 : Cond.fieldLink RX11 389 (TX11 78).1 (TX11 78).2.1 (TX11 78).2.2.1 ∈ am_ts := am_in6 64 rfl rfl
set_option maxRecDepth 20000 in
theorem fl_X11_392 : Cond.fieldLink RX11 392 (TX11 79).1 (TX11 79).2.1 (TX11 79).2.2.1 ∈ am_ts := am_in6 65 rfl rfl
set_option maxRecDepth 20000 in
theorem fl_X11_395 : Cond.fieldLink RX11 395 (TX11 80).1 (TX11 80).2.1 (TX11 80).2.2.1 ∈ am_ts := am_in6 66 rfl rfl
set_option maxRecDepth 20000 in
theorem fl_X11_398 : Cond.fieldLink RX11 398 (TX11 81).1 (TX11 81).2.1 (TX11 81).2.2.1 ∈ am_ts := am_in6 67 rfl rfl
set_option maxRecDepth 20000 in
theorem fl_X11_420 : Cond.fieldLink RX11 420 (TX11 82).1 (TX11 82).2.1 (TX11 82).2.2.1 ∈ am_ts := am_in6 68 rfl rfl
set_option maxRecDepth 20000 in
theorem fl_X11_459 : Cond.fieldLink RX11 459 (TX11 88).1 (TX11 88).2.1 (TX11 88).2.2.1 ∈ am_ts := am_in6 74 rfl rfl
set_option maxRecDepth 20000 in
theorem fl_X11_462 : Cond.fieldLink RX11 462 (TX11 89).1 (TX11 89).2.1 (TX11 89).2.2.1 ∈ am_ts := am_in6 75 rfl rfl
set_option maxRecDepth 20000 in
theorem fl_X11_465 : Cond.fieldLink RX11 465 (TX11 90).1 (TX11 90).2.1 (TX11 90).2.2.1 ∈ am_ts := am_in6 76 rfl rfl
set_option maxRecDepth 20000 in
theorem ml_X1_19 : Cond.methodLink RX1 19 yX1_put ∈ am_ts := am_in4 209 rfl rfl
set_option maxRecDepth 20000 in
theorem ml_X2_41 : Cond.methodLink RX2 41 yX3_isKnown ∈ am_ts := am_in4 158 rfl rfl
set_option maxRecDepth 20000 in
theorem ml_X2_48 : Cond.methodLink RX2 48 yX2_pick ∈ am_ts := am_in4 217 rfl rfl
set_option maxRecDepth 20000 in
theorem ml_X5_28 : Cond.methodLink RX5 28 yJ7_fill_53178 ∈ am_ts := am_in4 190 rfl rfl
set_option maxRecDepth 20000 in
theorem ml_X5_34 : Cond.methodLink RX5 34 yJ7_copyOf_59c91 ∈ am_ts := am_in5 66 rfl rfl
set_option maxRecDepth 20000 in
theorem ml_X6_59 : Cond.methodLink RX6 59 yX6_next ∈ am_ts := am_in3 169 rfl rfl
set_option maxRecDepth 20000 in
theorem ml_X6_65 : Cond.methodLink RX6 65 yX6_readClause ∈ am_ts := am_in4 54 rfl rfl
set_option maxRecDepth 20000 in
theorem ml_X6_72 : Cond.methodLink RX6 72 yX6_fail ∈ am_ts := am_in4 58 rfl rfl
set_option maxRecDepth 20000 in
theorem ml_X6_79 : Cond.methodLink RX6 79 yX6_readStrike ∈ am_ts := am_in4 62 rfl rfl
set_option maxRecDepth 20000 in
theorem ml_X6_82 : Cond.methodLink RX6 82 yX6_readBond ∈ am_ts := am_in4 70 rfl rfl
set_option maxRecDepth 20000 in
theorem ml_X6_85 : Cond.methodLink RX6 85 yX6_expect ∈ am_ts := am_in4 106 rfl rfl
set_option maxRecDepth 20000 in
theorem ml_X6_88 : Cond.methodLink RX6 88 yX6_isNumberHere ∈ am_ts := am_in4 66 rfl rfl
set_option maxRecDepth 20000 in
theorem ml_X6_101 : Cond.methodLink RX6 101 yX6_readEither ∈ am_ts := am_in4 74 rfl rfl
set_option maxRecDepth 20000 in
theorem ml_X6_107 : Cond.methodLink RX6 107 yX6_isWord ∈ am_ts := am_in4 86 rfl rfl
set_option maxRecDepth 20000 in
theorem ml_X6_117 : Cond.methodLink RX6 117 yX6_readBoth ∈ am_ts := am_in4 78 rfl rfl
set_option maxRecDepth 20000 in
theorem ml_X6_120 : Cond.methodLink RX6 120 yX6_put ∈ am_ts := am_in4 110 rfl rfl
set_option maxRecDepth 20000 in
theorem ml_X6_123 : Cond.methodLink RX6 123 yX6_readTest ∈ am_ts := am_in4 82 rfl rfl
set_option maxRecDepth 20000 in
theorem ml_X6_126 : Cond.methodLink RX6 126 yX6_readSum ∈ am_ts := am_in4 90 rfl rfl
set_option maxRecDepth 20000 in
theorem ml_X6_129 : Cond.methodLink RX6 129 yX6_isSign ∈ am_ts := am_in4 102 rfl rfl
set_option maxRecDepth 20000 in
theorem ml_X6_132 : Cond.methodLink RX6 132 yX6_readProduct ∈ am_ts := am_in4 94 rfl rfl
set_option maxRecDepth 20000 in
theorem ml_X6_135 : Cond.methodLink RX6 135 yX6_readPart ∈ am_ts := am_in4 98 rfl rfl
set_option maxRecDepth 20000 in
theorem ml_X6_147 : Cond.methodLink RX6 147 yX6_isLetter ∈ am_ts := am_in3 173 rfl rfl
set_option maxRecDepth 20000 in
theorem ml_X6_150 : Cond.methodLink RX6 150 yX6_wordNumber ∈ am_ts := am_in3 176 rfl rfl
set_option maxRecDepth 20000 in
theorem ml_X6_154 : Cond.methodLink RX6 154 yX6_isDigit ∈ am_ts := am_in3 229 rfl rfl
set_option maxRecDepth 20000 in
theorem ml_X6_157 : Cond.methodLink RX6 157 yX6_readDigits ∈ am_ts := am_in3 232 rfl rfl
set_option maxRecDepth 20000 in
theorem ml_X6_162 : Cond.methodLink RX6 162 yJ0_indexOf_0f7a4 ∈ am_ts := am_in3 237 rfl rfl
set_option maxRecDepth 20000 in
theorem ml_X6_170 : Cond.methodLink RX6 170 yJ0_length_8abf5 ∈ am_ts := am_in3 181 rfl rfl
set_option maxRecDepth 20000 in
theorem ml_X6_172 : Cond.methodLink RX6 172 yJ0_charAt_5068e ∈ am_ts := am_in3 191 rfl rfl
set_option maxRecDepth 20000 in
theorem ml_X9_101 : Cond.methodLink RX9 101 yX0_known ∈ am_ts := am_in4 181 rfl rfl
set_option maxRecDepth 20000 in
theorem ml_X9_109 : Cond.methodLink RX9 109 yX9_begin ∈ am_ts := am_in4 182 rfl rfl
set_option maxRecDepth 20000 in
theorem ml_X9_112 : Cond.methodLink RX9 112 yX9_putHappenings ∈ am_ts := am_in4 197 rfl rfl
set_option maxRecDepth 20000 in
theorem ml_X9_119 : Cond.methodLink RX9 119 yX1_dayAt ∈ am_ts := am_in4 226 rfl rfl
set_option maxRecDepth 20000 in
theorem ml_X9_125 : Cond.methodLink RX9 125 yX1_factAt ∈ am_ts := am_in4 230 rfl rfl
set_option maxRecDepth 20000 in
theorem ml_X9_131 : Cond.methodLink RX9 131 yX1_actAt ∈ am_ts := am_in4 235 rfl rfl
set_option maxRecDepth 20000 in
theorem ml_X9_134 : Cond.methodLink RX9 134 yX9_beginAct ∈ am_ts := am_in4 239 rfl rfl
set_option maxRecDepth 20000 in
theorem ml_X9_138 : Cond.methodLink RX9 138 yX9_happen ∈ am_ts := am_in5 8 rfl rfl
set_option maxRecDepth 20000 in
theorem ml_X9_141 : Cond.methodLink RX9 141 yX9_countAsked ∈ am_ts := am_in5 20 rfl rfl
set_option maxRecDepth 20000 in
theorem ml_X9_145 : Cond.methodLink RX9 145 yX9_askedAt ∈ am_ts := am_in5 24 rfl rfl
set_option maxRecDepth 20000 in
theorem ml_X9_148 : Cond.methodLink RX9 148 yX9_ask ∈ am_ts := am_in5 28 rfl rfl
set_option maxRecDepth 20000 in
theorem ml_X9_154 : Cond.methodLink RX9 154 yX5_clear ∈ am_ts := am_in4 186 rfl rfl
set_option maxRecDepth 20000 in
theorem ml_X9_157 : Cond.methodLink RX9 157 yJ7_fill_53178 ∈ am_ts := am_in4 193 rfl rfl
set_option maxRecDepth 20000 in
theorem ml_X9_174 : Cond.methodLink RX9 174 yX1_clear ∈ am_ts := am_in4 201 rfl rfl
set_option maxRecDepth 20000 in
theorem ml_X9_179 : Cond.methodLink RX9 179 yX1_putAct ∈ am_ts := am_in4 205 rfl rfl
set_option maxRecDepth 20000 in
theorem ml_X9_185 : Cond.methodLink RX9 185 yX2_dayIn ∈ am_ts := am_in4 213 rfl rfl
set_option maxRecDepth 20000 in
theorem ml_X9_189 : Cond.methodLink RX9 189 yX3_isKnown ∈ am_ts := am_in4 221 rfl rfl
set_option maxRecDepth 20000 in
theorem ml_X9_193 : Cond.methodLink RX9 193 yX1_putFact ∈ am_ts := am_in4 222 rfl rfl
set_option maxRecDepth 20000 in
theorem ml_X9_196 : Cond.methodLink RX9 196 yX0_inForce ∈ am_ts := am_in5 3 rfl rfl
set_option maxRecDepth 20000 in
theorem ml_X9_211 : Cond.methodLink RX9 211 yX0_having ∈ am_ts := am_in5 4 rfl rfl
set_option maxRecDepth 20000 in
theorem ml_X9_240 : Cond.methodLink RX9 240 yX9_bear ∈ am_ts := am_in5 12 rfl rfl
set_option maxRecDepth 20000 in
theorem ml_X9_243 : Cond.methodLink RX9 243 yX9_wed ∈ am_ts := am_in5 16 rfl rfl
set_option maxRecDepth 20000 in
theorem ml_X9_252 : Cond.methodLink RX9 252 yX9_choose ∈ am_ts := am_in5 32 rfl rfl
set_option maxRecDepth 20000 in
theorem ml_X9_255 : Cond.methodLink RX9 255 yX9_change ∈ am_ts := am_in5 54 rfl rfl
set_option maxRecDepth 20000 in
theorem ml_X9_271 : Cond.methodLink RX9 271 yX9_evaluate ∈ am_ts := am_in5 36 rfl rfl
set_option maxRecDepth 20000 in
theorem ml_X9_281 : Cond.methodLink RX9 281 yX9_valueOf ∈ am_ts := am_in5 40 rfl rfl
set_option maxRecDepth 20000 in
theorem ml_X9_285 : Cond.methodLink RX9 285 yX9_join ∈ am_ts := am_in5 51 rfl rfl
set_option maxRecDepth 20000 in
theorem ml_X9_297 : Cond.methodLink RX9 297 yJ6_bitCount_0f7a4 ∈ am_ts := am_in5 44 rfl rfl
set_option maxRecDepth 20000 in
theorem ml_X9_303 : Cond.methodLink RX9 303 yX9_leansOn ∈ am_ts := am_in5 58 rfl rfl
set_option maxRecDepth 20000 in
theorem ml_X9_306 : Cond.methodLink RX9 306 yX5_gain ∈ am_ts := am_in5 62 rfl rfl
set_option maxRecDepth 20000 in
theorem ml_X9_316 : Cond.methodLink RX9 316 yX7_isChildOf ∈ am_ts := am_in5 78 rfl rfl
set_option maxRecDepth 20000 in
theorem ml_X10_39 : Cond.methodLink RX10 39 yX6_init ∈ am_ts := am_in1 217 rfl rfl
set_option maxRecDepth 20000 in
theorem ml_X10_48 : Cond.methodLink RX10 48 yX2_init ∈ am_ts := am_in2 22 rfl rfl
set_option maxRecDepth 20000 in
theorem ml_X10_57 : Cond.methodLink RX10 57 yX9_init ∈ am_ts := am_in2 54 rfl rfl
set_option maxRecDepth 20000 in
theorem ml_X10_79 : Cond.methodLink RX10 79 yX10_forget ∈ am_ts := am_in3 8 rfl rfl
set_option maxRecDepth 20000 in
theorem ml_X10_88 : Cond.methodLink RX10 88 yX10_isParent ∈ am_ts := am_in3 21 rfl rfl
set_option maxRecDepth 20000 in
theorem ml_X10_102 : Cond.methodLink RX10 102 yX10_needNumber ∈ am_ts := am_in3 45 rfl rfl
set_option maxRecDepth 20000 in
theorem ml_X10_107 : Cond.methodLink RX10 107 yX10_isDay ∈ am_ts := am_in3 110 rfl rfl
set_option maxRecDepth 20000 in
theorem ml_X10_137 : Cond.methodLink RX10 137 yX3_couldBeOn ∈ am_ts := am_in3 121 rfl rfl
set_option maxRecDepth 20000 in
theorem ml_X10_149 : Cond.methodLink RX10 149 yX10_putBytes ∈ am_ts := am_in3 29 rfl rfl
set_option maxRecDepth 20000 in
theorem ml_X10_156 : Cond.methodLink RX10 156 yX6_read ∈ am_ts := am_in3 162 rfl rfl
set_option maxRecDepth 20000 in
theorem ml_X10_167 : Cond.methodLink RX10 167 yX10_needDay ∈ am_ts := am_in4 121 rfl rfl
set_option maxRecDepth 20000 in
theorem ml_X10_170 : Cond.methodLink RX10 170 yX10_needEvening ∈ am_ts := am_in4 124 rfl rfl
set_option maxRecDepth 20000 in
theorem ml_X10_173 : Cond.methodLink RX10 173 yX0_known ∈ am_ts := am_in4 128 rfl rfl
set_option maxRecDepth 20000 in
theorem ml_X10_177 : Cond.methodLink RX10 177 yX0_inForce ∈ am_ts := am_in4 132 rfl rfl
set_option maxRecDepth 20000 in
theorem ml_X10_181 : Cond.methodLink RX10 181 yX3_isKnown ∈ am_ts := am_in4 143 rfl rfl
set_option maxRecDepth 20000 in
theorem ml_X10_184 : Cond.methodLink RX10 184 yX2_find ∈ am_ts := am_in4 154 rfl rfl
set_option maxRecDepth 20000 in
theorem ml_X10_194 : Cond.methodLink RX10 194 yX10_needBond ∈ am_ts := am_in4 166 rfl rfl
set_option maxRecDepth 20000 in
theorem ml_X10_198 : Cond.methodLink RX10 198 yX10_workOutWays ∈ am_ts := am_in4 170 rfl rfl
set_option maxRecDepth 20000 in
theorem ml_X10_201 : Cond.methodLink RX10 201 yX10_waysWith ∈ am_ts := am_in5 83 rfl rfl
set_option maxRecDepth 20000 in
theorem ml_X10_207 : Cond.methodLink RX10 207 yX10_isSettledBy ∈ am_ts := am_in5 103 rfl rfl
set_option maxRecDepth 20000 in
theorem ml_X10_211 : Cond.methodLink RX10 211 yX9_live ∈ am_ts := am_in4 174 rfl rfl
set_option maxRecDepth 20000 in
theorem ml_X10_227 : Cond.methodLink RX10 227 yX5_linksFrom ∈ am_ts := am_in5 125 rfl rfl
set_option maxRecDepth 20000 in
theorem ml_X10_230 : Cond.methodLink RX10 230 yX5_tell ∈ am_ts := am_in5 129 rfl rfl
set_option maxRecDepth 20000 in
theorem ml_X10_243 : Cond.methodLink RX10 243 yX9_holders ∈ am_ts := am_in5 147 rfl rfl
set_option maxRecDepth 20000 in
theorem ml_X10_246 : Cond.methodLink RX10 246 yJ6_bitCount_0f7a4 ∈ am_ts := am_in5 151 rfl rfl
set_option maxRecDepth 20000 in
theorem ml_X10_267 : Cond.methodLink RX10 267 yX2_firstLike ∈ am_ts := am_in5 107 rfl rfl
set_option maxRecDepth 20000 in
theorem ml_X11_32 : Cond.methodLink RX11 32 yX11_right ∈ am_ts := am_in5 179 rfl rfl
set_option maxRecDepth 20000 in
theorem ml_X11_37 : Cond.methodLink RX11 37 yX11_isPerson ∈ am_ts := am_in5 184 rfl rfl
set_option maxRecDepth 20000 in
theorem ml_X11_41 : Cond.methodLink RX11 41 yX11_isLand ∈ am_ts := am_in5 188 rfl rfl
set_option maxRecDepth 20000 in
theorem ml_X11_47 : Cond.methodLink RX11 47 yX11_isDay ∈ am_ts := am_in5 192 rfl rfl
set_option maxRecDepth 20000 in
theorem ml_X11_86 : Cond.methodLink RX11 86 yX11_lays ∈ am_ts := am_in5 212 rfl rfl
set_option maxRecDepth 20000 in
theorem ml_X11_99 : Cond.methodLink RX11 99 yX11_byteAt ∈ am_ts := am_in7 36 rfl rfl
set_option maxRecDepth 20000 in
theorem ml_X11_119 : Cond.methodLink RX11 119 yX11_isLetter ∈ am_ts := am_in7 40 rfl rfl
set_option maxRecDepth 20000 in
theorem ml_X11_122 : Cond.methodLink RX11 122 yX11_isDigit ∈ am_ts := am_in7 43 rfl rfl
set_option maxRecDepth 20000 in
theorem ml_X11_268 : Cond.methodLink RX11 268 yX11_spelled ∈ am_ts := am_in5 221 rfl rfl
set_option maxRecDepth 20000 in
theorem ml_X11_285 : Cond.methodLink RX11 285 yX11_strength ∈ am_ts := am_in7 106 rfl rfl
set_option maxRecDepth 20000 in
theorem ml_X11_288 : Cond.methodLink RX11 288 yX11_puts ∈ am_ts := am_in7 98 rfl rfl
set_option maxRecDepth 20000 in
theorem ml_X11_291 : Cond.methodLink RX11 291 yX11_isGood ∈ am_ts := am_in7 46 rfl rfl
set_option maxRecDepth 20000 in
theorem ml_X11_295 : Cond.methodLink RX11 295 yX11_wrong ∈ am_ts := am_in7 58 rfl rfl
set_option maxRecDepth 20000 in
theorem ml_X11_298 : Cond.methodLink RX11 298 yX11_knownWord ∈ am_ts := am_in7 54 rfl rfl
set_option maxRecDepth 20000 in
theorem ml_X11_302 : Cond.methodLink RX11 302 yX11_goes ∈ am_ts := am_in7 32 rfl rfl
set_option maxRecDepth 20000 in
theorem ml_X11_308 : Cond.methodLink RX11 308 yX11_isSign ∈ am_ts := am_in7 82 rfl rfl
set_option maxRecDepth 20000 in
theorem ml_X11_311 : Cond.methodLink RX11 311 yX11_waitsFor ∈ am_ts := am_in7 90 rfl rfl
set_option maxRecDepth 20000 in
theorem ml_X11_314 : Cond.methodLink RX11 314 yX11_begins ∈ am_ts := am_in7 78 rfl rfl
set_option maxRecDepth 20000 in
theorem ml_X11_317 : Cond.methodLink RX11 317 yX11_part ∈ am_ts := am_in7 94 rfl rfl
set_option maxRecDepth 20000 in
theorem ml_X11_320 : Cond.methodLink RX11 320 yX11_operand ∈ am_ts := am_in7 86 rfl rfl
set_option maxRecDepth 20000 in
theorem ml_X11_324 : Cond.methodLink RX11 324 yX11_drops ∈ am_ts := am_in7 102 rfl rfl
set_option maxRecDepth 20000 in
theorem ml_X11_327 : Cond.methodLink RX11 327 yX11_struck ∈ am_ts := am_in7 62 rfl rfl
set_option maxRecDepth 20000 in
theorem ml_X11_330 : Cond.methodLink RX11 330 yX11_change ∈ am_ts := am_in7 70 rfl rfl
set_option maxRecDepth 20000 in
theorem ml_X11_333 : Cond.methodLink RX11 333 yX11_number ∈ am_ts := am_in7 66 rfl rfl
set_option maxRecDepth 20000 in
theorem ml_X11_336 : Cond.methodLink RX11 336 yX11_expression ∈ am_ts := am_in7 74 rfl rfl
set_option maxRecDepth 20000 in
theorem ml_X11_339 : Cond.methodLink RX11 339 yX11_clause ∈ am_ts := am_in7 50 rfl rfl
set_option maxRecDepth 20000 in
theorem ml_X11_342 : Cond.methodLink RX11 342 yX11_isKnownAct ∈ am_ts := am_in7 125 rfl rfl
set_option maxRecDepth 20000 in
theorem ml_X11_352 : Cond.methodLink RX11 352 yX11_isKnownFact ∈ am_ts := am_in7 137 rfl rfl
set_option maxRecDepth 20000 in
theorem ml_X11_361 : Cond.methodLink RX11 361 yX11_sorts ∈ am_ts := am_in7 149 rfl rfl
set_option maxRecDepth 20000 in
theorem ml_X11_365 : Cond.methodLink RX11 365 yX11_dayIn ∈ am_ts := am_in7 153 rfl rfl
set_option maxRecDepth 20000 in
theorem ml_X11_369 : Cond.methodLink RX11 369 yX11_starts ∈ am_ts := am_in7 145 rfl rfl
set_option maxRecDepth 20000 in
theorem ml_X11_376 : Cond.methodLink RX11 376 yX11_inForce ∈ am_ts := am_in7 121 rfl rfl
set_option maxRecDepth 20000 in
theorem ml_X11_383 : Cond.methodLink RX11 383 yX11_happens ∈ am_ts := am_in7 157 rfl rfl
set_option maxRecDepth 20000 in
theorem ml_X11_386 : Cond.methodLink RX11 386 yX11_actBegins ∈ am_ts := am_in7 224 rfl rfl
set_option maxRecDepth 20000 in
theorem ml_X11_401 : Cond.methodLink RX11 401 yX11_asks ∈ am_ts := am_in7 169 rfl rfl
set_option maxRecDepth 20000 in
theorem ml_X11_404 : Cond.methodLink RX11 404 yX11_birth ∈ am_ts := am_in7 161 rfl rfl
set_option maxRecDepth 20000 in
theorem ml_X11_408 : Cond.methodLink RX11 408 yX11_wedding ∈ am_ts := am_in7 212 rfl rfl
set_option maxRecDepth 20000 in
theorem ml_X11_411 : Cond.methodLink RX11 411 yX11_one ∈ am_ts := am_in7 165 rfl rfl
set_option maxRecDepth 20000 in
theorem ml_X11_414 : Cond.methodLink RX11 414 yX11_border ∈ am_ts := am_in7 216 rfl rfl
set_option maxRecDepth 20000 in
theorem ml_X11_417 : Cond.methodLink RX11 417 yX11_stays ∈ am_ts := am_in7 220 rfl rfl
set_option maxRecDepth 20000 in
theorem ml_X11_423 : Cond.methodLink RX11 423 yX11_bit ∈ am_ts := am_in7 177 rfl rfl
set_option maxRecDepth 20000 in
theorem ml_X11_427 : Cond.methodLink RX11 427 yX11_has ∈ am_ts := am_in7 180 rfl rfl
set_option maxRecDepth 20000 in
theorem ml_X11_431 : Cond.methodLink RX11 431 yX11_sees ∈ am_ts := am_in7 173 rfl rfl
set_option maxRecDepth 20000 in
theorem ml_X11_434 : Cond.methodLink RX11 434 yX11_first ∈ am_ts := am_in7 185 rfl rfl
set_option maxRecDepth 20000 in
theorem ml_X11_437 : Cond.methodLink RX11 437 yX11_changes ∈ am_ts := am_in7 196 rfl rfl
set_option maxRecDepth 20000 in
theorem ml_X11_440 : Cond.methodLink RX11 440 yX11_worth ∈ am_ts := am_in7 189 rfl rfl
set_option maxRecDepth 20000 in
theorem ml_X11_443 : Cond.methodLink RX11 443 yX11_works ∈ am_ts := am_in7 193 rfl rfl
set_option maxRecDepth 20000 in
theorem ml_X11_446 : Cond.methodLink RX11 446 yX11_leans ∈ am_ts := am_in7 200 rfl rfl
set_option maxRecDepth 20000 in
theorem ml_X11_449 : Cond.methodLink RX11 449 yX11_gains ∈ am_ts := am_in7 204 rfl rfl
set_option maxRecDepth 20000 in
theorem ml_X11_453 : Cond.methodLink RX11 453 yX11_loses ∈ am_ts := am_in7 208 rfl rfl
set_option maxRecDepth 20000 in
theorem ml_X11_456 : Cond.methodLink RX11 456 yX11_findsDoubts ∈ am_ts := am_in7 133 rfl rfl
set_option maxRecDepth 20000 in
theorem ml_X11_468 : Cond.methodLink RX11 468 yX11_runs ∈ am_ts := am_in7 141 rfl rfl
set_option maxRecDepth 20000 in
theorem ml_X11_471 : Cond.methodLink RX11 471 yX11_isEvening ∈ am_ts := am_in7 117 rfl rfl
set_option maxRecDepth 20000 in
theorem ml_X11_474 : Cond.methodLink RX11 474 yX11_isBond ∈ am_ts := am_in7 236 rfl rfl
set_option maxRecDepth 20000 in
theorem ml_X11_478 : Cond.methodLink RX11 478 yX11_finds ∈ am_ts := am_in8 0 rfl rfl
set_option maxRecDepth 20000 in
theorem ml_X11_481 : Cond.methodLink RX11 481 yX11_says0 ∈ am_ts := am_in8 4 rfl rfl
set_option maxRecDepth 20000 in
theorem ml_X11_484 : Cond.methodLink RX11 484 yX11_many ∈ am_ts := am_in8 16 rfl rfl
set_option maxRecDepth 20000 in
theorem ml_X11_487 : Cond.methodLink RX11 487 yX11_isSettled ∈ am_ts := am_in8 19 rfl rfl
set_option maxRecDepth 20000 in
theorem ml_L_7 : Cond.methodLink RL 7 yX10_fact ∈ am_ts := am_in3 41 rfl rfl
set_option maxRecDepth 20000 in
theorem ml_L_15 : Cond.methodLink RL 15 yX10_also ∈ am_ts := am_in3 117 rfl rfl
set_option maxRecDepth 20000 in
theorem ml_L_19 : Cond.methodLink RL 19 yX10_back ∈ am_ts := am_in3 128 rfl rfl
set_option maxRecDepth 20000 in
theorem ml_L_23 : Cond.methodLink RL 23 yX10_evenings ∈ am_ts := am_in3 136 rfl rfl
set_option maxRecDepth 20000 in
theorem ml_L_29 : Cond.methodLink RL 29 yX10_act ∈ am_ts := am_in3 158 rfl rfl
set_option maxRecDepth 20000 in
theorem ml_L_33 : Cond.methodLink RL 33 yX10_force ∈ am_ts := am_in4 117 rfl rfl
set_option maxRecDepth 20000 in
theorem ml_L_37 : Cond.methodLink RL 37 yX10_landOf ∈ am_ts := am_in4 139 rfl rfl
set_option maxRecDepth 20000 in
theorem ml_L_41 : Cond.methodLink RL 41 yX10_ways ∈ am_ts := am_in4 150 rfl rfl
set_option maxRecDepth 20000 in
theorem ml_L_44 : Cond.methodLink RL 44 yX10_belongs ∈ am_ts := am_in4 162 rfl rfl
set_option maxRecDepth 20000 in
theorem ml_L_47 : Cond.methodLink RL 47 yX10_says ∈ am_ts := am_in5 90 rfl rfl
set_option maxRecDepth 20000 in
theorem ml_L_50 : Cond.methodLink RL 50 yX10_settles ∈ am_ts := am_in5 97 rfl rfl
set_option maxRecDepth 20000 in
theorem ml_L_53 : Cond.methodLink RL 53 yX10_lands ∈ am_ts := am_in5 114 rfl rfl
set_option maxRecDepth 20000 in
theorem ml_L_56 : Cond.methodLink RL 56 yX10_chain ∈ am_ts := am_in5 121 rfl rfl
set_option maxRecDepth 20000 in
theorem ml_L_60 : Cond.methodLink RL 60 yX10_times ∈ am_ts := am_in5 136 rfl rfl
set_option maxRecDepth 20000 in
theorem ml_L_63 : Cond.methodLink RL 63 yX10_ifStruck ∈ am_ts := am_in5 143 rfl rfl
set_option maxRecDepth 20000 in
theorem ml_L_66 : Cond.methodLink RL 66 yX10_count ∈ am_ts := am_in5 155 rfl rfl
set_option maxRecDepth 20000 in
theorem ml_L_69 : Cond.methodLink RL 69 yX10_init ∈ am_ts := am_in1 29 rfl rfl
set_option maxRecDepth 20000 in
theorem ml_L_72 : Cond.methodLink RL 72 yX11_init ∈ am_ts := am_in5 217 rfl rfl
set_option maxRecDepth 20000 in
theorem ml_L_73 : Cond.methodLink RL 73 yX10_land ∈ am_ts := am_in3 4 rfl rfl
set_option maxRecDepth 20000 in
theorem ml_L_77 : Cond.methodLink RL 77 yX11_land ∈ am_ts := am_in5 163 rfl rfl
set_option maxRecDepth 20000 in
theorem ml_L_78 : Cond.methodLink RL 78 yX10_place ∈ am_ts := am_in3 13 rfl rfl
set_option maxRecDepth 20000 in
theorem ml_L_81 : Cond.methodLink RL 81 yX11_place ∈ am_ts := am_in5 167 rfl rfl
set_option maxRecDepth 20000 in
theorem ml_L_82 : Cond.methodLink RL 82 yX10_person ∈ am_ts := am_in3 17 rfl rfl
set_option maxRecDepth 20000 in
theorem ml_L_85 : Cond.methodLink RL 85 yX11_person ∈ am_ts := am_in5 171 rfl rfl
set_option maxRecDepth 20000 in
theorem ml_L_86 : Cond.methodLink RL 86 yL_fact ∈ am_ts := am_in3 37 rfl rfl
set_option maxRecDepth 20000 in
theorem ml_L_91 : Cond.methodLink RL 91 yX11_fact ∈ am_ts := am_in5 175 rfl rfl
set_option maxRecDepth 20000 in
theorem ml_L_92 : Cond.methodLink RL 92 yX11_thrown ∈ am_ts := am_in5 159 rfl rfl
set_option maxRecDepth 20000 in
theorem ml_L_95 : Cond.methodLink RL 95 yL_also ∈ am_ts := am_in3 114 rfl rfl
set_option maxRecDepth 20000 in
theorem ml_L_98 : Cond.methodLink RL 98 yX11_also ∈ am_ts := am_in5 196 rfl rfl
set_option maxRecDepth 20000 in
theorem ml_L_99 : Cond.methodLink RL 99 yL_back ∈ am_ts := am_in3 125 rfl rfl
set_option maxRecDepth 20000 in
theorem ml_L_102 : Cond.methodLink RL 102 yX11_back ∈ am_ts := am_in5 200 rfl rfl
set_option maxRecDepth 20000 in
theorem ml_L_103 : Cond.methodLink RL 103 yL_evenings ∈ am_ts := am_in3 132 rfl rfl
set_option maxRecDepth 20000 in
theorem ml_L_106 : Cond.methodLink RL 106 yX11_evenings ∈ am_ts := am_in5 204 rfl rfl
set_option maxRecDepth 20000 in
theorem ml_L_107 : Cond.methodLink RL 107 yX10_feed ∈ am_ts := am_in3 25 rfl rfl
set_option maxRecDepth 20000 in
theorem ml_L_110 : Cond.methodLink RL 110 yX11_feed ∈ am_ts := am_in5 208 rfl rfl
set_option maxRecDepth 20000 in
theorem ml_L_111 : Cond.methodLink RL 111 yL_act ∈ am_ts := am_in3 155 rfl rfl
set_option maxRecDepth 20000 in
theorem ml_L_114 : Cond.methodLink RL 114 yX11_act ∈ am_ts := am_in7 28 rfl rfl
set_option maxRecDepth 20000 in
theorem ml_L_115 : Cond.methodLink RL 115 yX10_fault ∈ am_ts := am_in3 33 rfl rfl
set_option maxRecDepth 20000 in
theorem ml_L_118 : Cond.methodLink RL 118 yX11_fault ∈ am_ts := am_in7 109 rfl rfl
set_option maxRecDepth 20000 in
theorem ml_L_119 : Cond.methodLink RL 119 yL_force ∈ am_ts := am_in4 114 rfl rfl
set_option maxRecDepth 20000 in
theorem ml_L_122 : Cond.methodLink RL 122 yX11_force ∈ am_ts := am_in7 113 rfl rfl
set_option maxRecDepth 20000 in
theorem ml_L_123 : Cond.methodLink RL 123 yL_landOf ∈ am_ts := am_in4 136 rfl rfl
set_option maxRecDepth 20000 in
theorem ml_L_125 : Cond.methodLink RL 125 yX11_landOf ∈ am_ts := am_in7 129 rfl rfl
set_option maxRecDepth 20000 in
theorem ml_L_126 : Cond.methodLink RL 126 yL_ways ∈ am_ts := am_in4 147 rfl rfl
set_option maxRecDepth 20000 in
theorem ml_L_128 : Cond.methodLink RL 128 yX11_ways ∈ am_ts := am_in7 228 rfl rfl
set_option maxRecDepth 20000 in
theorem ml_L_129 : Cond.methodLink RL 129 yL_belongs ∈ am_ts := am_in4 159 rfl rfl
set_option maxRecDepth 20000 in
theorem ml_L_131 : Cond.methodLink RL 131 yX11_belongs ∈ am_ts := am_in7 232 rfl rfl
set_option maxRecDepth 20000 in
theorem ml_L_132 : Cond.methodLink RL 132 yL_says ∈ am_ts := am_in5 87 rfl rfl
set_option maxRecDepth 20000 in
theorem ml_L_134 : Cond.methodLink RL 134 yX11_says ∈ am_ts := am_in8 8 rfl rfl
set_option maxRecDepth 20000 in
theorem ml_L_135 : Cond.methodLink RL 135 yL_settles ∈ am_ts := am_in5 94 rfl rfl
set_option maxRecDepth 20000 in
theorem ml_L_137 : Cond.methodLink RL 137 yX11_settles ∈ am_ts := am_in8 12 rfl rfl
set_option maxRecDepth 20000 in
theorem ml_L_138 : Cond.methodLink RL 138 yL_lands ∈ am_ts := am_in5 111 rfl rfl
set_option maxRecDepth 20000 in
theorem ml_L_140 : Cond.methodLink RL 140 yX11_lands ∈ am_ts := am_in8 23 rfl rfl
set_option maxRecDepth 20000 in
theorem ml_L_141 : Cond.methodLink RL 141 yL_chain ∈ am_ts := am_in5 118 rfl rfl
set_option maxRecDepth 20000 in
theorem ml_L_144 : Cond.methodLink RL 144 yX11_chain ∈ am_ts := am_in8 27 rfl rfl
set_option maxRecDepth 20000 in
theorem ml_L_145 : Cond.methodLink RL 145 yL_times ∈ am_ts := am_in5 133 rfl rfl
set_option maxRecDepth 20000 in
theorem ml_L_147 : Cond.methodLink RL 147 yX11_times ∈ am_ts := am_in8 31 rfl rfl
set_option maxRecDepth 20000 in
theorem ml_L_148 : Cond.methodLink RL 148 yL_ifStruck ∈ am_ts := am_in5 140 rfl rfl
set_option maxRecDepth 20000 in
theorem ml_L_150 : Cond.methodLink RL 150 yX11_ifStruck ∈ am_ts := am_in8 35 rfl rfl
set_option maxRecDepth 20000 in
theorem ml_L_151 : Cond.methodLink RL 151 yL_count ∈ am_ts := am_in5 152 rfl rfl
set_option maxRecDepth 20000 in
theorem ml_L_153 : Cond.methodLink RL 153 yX11_count ∈ am_ts := am_in8 39 rfl rfl
set_option maxRecDepth 20000 in
theorem ml_J0_335 : Cond.methodLink RJ0 335 yJ0_coder_7d493 ∈ am_ts := am_in3 185 rfl rfl
set_option maxRecDepth 20000 in
theorem ml_J0_492 : Cond.methodLink RJ0 492 yJ0_isLatin1_aae02 ∈ am_ts := am_in3 195 rfl rfl
set_option maxRecDepth 20000 in
theorem ml_J0_495 : Cond.methodLink RJ0 495 yJ1_charAt_3b067 ∈ am_ts := am_in3 199 rfl rfl
set_option maxRecDepth 20000 in
theorem ml_J1_9 : Cond.methodLink RJ1 9 yJ0_checkIndex_df160 ∈ am_ts := am_in3 202 rfl rfl
set_option maxRecDepth 20000 in
theorem ml_J0_1059 : Cond.methodLink RJ0 1059 yJ3_checkIndex_8e157 ∈ am_ts := am_in3 207 rfl rfl
set_option maxRecDepth 20000 in
theorem ml_J0_633 : Cond.methodLink RJ0 633 yJ0_indexOf_7cf53 ∈ am_ts := am_in4 1 rfl rfl
set_option maxRecDepth 20000 in
theorem ml_J0_505 : Cond.methodLink RJ0 505 yJ0_length_8abf5 ∈ am_ts := am_in4 5 rfl rfl
set_option maxRecDepth 20000 in
theorem ml_J0_637 : Cond.methodLink RJ0 637 yJ1_indexOf_4cfef ∈ am_ts := am_in4 6 rfl rfl
set_option maxRecDepth 20000 in
theorem ml_J1_88 : Cond.methodLink RJ1 88 yJ1_canEncode_9a6ad ∈ am_ts := am_in4 9 rfl rfl
set_option maxRecDepth 20000 in
theorem ml_J1_95 : Cond.methodLink RJ1 95 yJ1_indexOfChar_4cfef ∈ am_ts := am_in4 16 rfl rfl
set_option maxRecDepth 20000 in
theorem ci_X1_put : Cond.instanceMethod yX1_put ∈ am_ts := am_in4 211 rfl rfl
set_option maxRecDepth 20000 in
theorem cv_X1_put : Cond.selects (yX1_put).cls yX1_put yX1_put ∈ am_ts := am_inS2 11 rfl
set_option maxRecDepth 20000 in
theorem cw_X1_put : Cond.code yX1_put cX1_put 3 none ∈ am_ts := am_in4 212 rfl rfl
set_option maxRecDepth 20000 in
theorem ci_X3_isKnown : Cond.instanceMethod yX3_isKnown ∈ am_ts := am_in4 144 rfl rfl
set_option maxRecDepth 20000 in
theorem cv_X3_isKnown : Cond.selects (yX3_isKnown).cls yX3_isKnown yX3_isKnown ∈ am_ts := am_in4 145 rfl rfl
set_option maxRecDepth 20000 in
theorem cw_X3_isKnown : Cond.code yX3_isKnown cX3_isKnown 3 (some .boolean) ∈ am_ts := am_in4 146 rfl rfl
set_option maxRecDepth 20000 in
theorem ci_X2_pick : Cond.instanceMethod yX2_pick ∈ am_ts := am_in4 219 rfl rfl
set_option maxRecDepth 20000 in
theorem cv_X2_pick : Cond.selects (yX2_pick).cls yX2_pick yX2_pick ∈ am_ts := am_inS2 12 rfl
set_option maxRecDepth 20000 in
theorem cw_X2_pick : Cond.code yX2_pick cX2_pick 3 (some .int) ∈ am_ts := am_in4 220 rfl rfl
set_option maxRecDepth 20000 in
theorem cs_J7_fill_53178 : Cond.static yJ7_fill_53178 ∈ am_ts := am_in4 191 rfl rfl
set_option maxRecDepth 20000 in
theorem cw_J7_fill_53178 : Cond.code yJ7_fill_53178 cJ7_fill_53178 4 none ∈ am_ts := am_in4 192 rfl rfl
set_option maxRecDepth 20000 in
theorem cs_J7_copyOf_59c91 : Cond.static yJ7_copyOf_59c91 ∈ am_ts := am_in5 67 rfl rfl
set_option maxRecDepth 20000 in
theorem cw_J7_copyOf_59c91 : Cond.code yJ7_copyOf_59c91 cJ7_copyOf_59c91 3 (some (.array .int)) ∈ am_ts := am_in5 68 rfl rfl
set_option maxRecDepth 20000 in
theorem ci_X6_next : Cond.instanceMethod yX6_next ∈ am_ts := am_in3 171 rfl rfl
set_option maxRecDepth 20000 in
theorem cv_X6_next : Cond.selects (yX6_next).cls yX6_next yX6_next ∈ am_ts := am_inS1 4 rfl
set_option maxRecDepth 20000 in
theorem cw_X6_next : Cond.code yX6_next cX6_next 2 none ∈ am_ts := am_in3 172 rfl rfl
set_option maxRecDepth 20000 in
theorem ci_X6_readClause : Cond.instanceMethod yX6_readClause ∈ am_ts := am_in4 56 rfl rfl
set_option maxRecDepth 20000 in
theorem cv_X6_readClause : Cond.selects (yX6_readClause).cls yX6_readClause yX6_readClause ∈ am_ts := am_inS1 7 rfl
set_option maxRecDepth 20000 in
theorem cw_X6_readClause : Cond.code yX6_readClause cX6_readClause 4 none ∈ am_ts := am_in4 57 rfl rfl
set_option maxRecDepth 20000 in
theorem ci_X6_fail : Cond.instanceMethod yX6_fail ∈ am_ts := am_in4 60 rfl rfl
set_option maxRecDepth 20000 in
theorem cv_X6_fail : Cond.selects (yX6_fail).cls yX6_fail yX6_fail ∈ am_ts := am_inS1 8 rfl
set_option maxRecDepth 20000 in
theorem cw_X6_fail : Cond.code yX6_fail cX6_fail 2 none ∈ am_ts := am_in4 61 rfl rfl
set_option maxRecDepth 20000 in
theorem ci_X6_readStrike : Cond.instanceMethod yX6_readStrike ∈ am_ts := am_in4 64 rfl rfl
set_option maxRecDepth 20000 in
theorem cv_X6_readStrike : Cond.selects (yX6_readStrike).cls yX6_readStrike yX6_readStrike ∈ am_ts := am_inS1 9 rfl
set_option maxRecDepth 20000 in
theorem cw_X6_readStrike : Cond.code yX6_readStrike cX6_readStrike 2 none ∈ am_ts := am_in4 65 rfl rfl
set_option maxRecDepth 20000 in
theorem ci_X6_readBond : Cond.instanceMethod yX6_readBond ∈ am_ts := am_in4 72 rfl rfl
set_option maxRecDepth 20000 in
theorem cv_X6_readBond : Cond.selects (yX6_readBond).cls yX6_readBond yX6_readBond ∈ am_ts := am_inS1 11 rfl
set_option maxRecDepth 20000 in
theorem cw_X6_readBond : Cond.code yX6_readBond cX6_readBond 3 none ∈ am_ts := am_in4 73 rfl rfl
set_option maxRecDepth 20000 in
theorem ci_X6_expect : Cond.instanceMethod yX6_expect ∈ am_ts := am_in4 108 rfl rfl
set_option maxRecDepth 20000 in
theorem cv_X6_expect : Cond.selects (yX6_expect).cls yX6_expect yX6_expect ∈ am_ts := am_inS2 4 rfl
set_option maxRecDepth 20000 in
theorem cw_X6_expect : Cond.code yX6_expect cX6_expect 2 none ∈ am_ts := am_in4 109 rfl rfl
set_option maxRecDepth 20000 in
theorem ci_X6_isNumberHere : Cond.instanceMethod yX6_isNumberHere ∈ am_ts := am_in4 68 rfl rfl
set_option maxRecDepth 20000 in
theorem cv_X6_isNumberHere : Cond.selects (yX6_isNumberHere).cls yX6_isNumberHere yX6_isNumberHere ∈ am_ts := am_inS1 10 rfl
set_option maxRecDepth 20000 in
theorem cw_X6_isNumberHere : Cond.code yX6_isNumberHere cX6_isNumberHere 1 (some .boolean) ∈ am_ts := am_in4 69 rfl rfl
set_option maxRecDepth 20000 in
theorem ci_X6_readEither : Cond.instanceMethod yX6_readEither ∈ am_ts := am_in4 76 rfl rfl
set_option maxRecDepth 20000 in
theorem cv_X6_readEither : Cond.selects (yX6_readEither).cls yX6_readEither yX6_readEither ∈ am_ts := am_inS1 12 rfl
set_option maxRecDepth 20000 in
theorem cw_X6_readEither : Cond.code yX6_readEither cX6_readEither 3 none ∈ am_ts := am_in4 77 rfl rfl
set_option maxRecDepth 20000 in
theorem ci_X6_isWord : Cond.instanceMethod yX6_isWord ∈ am_ts := am_in4 88 rfl rfl
set_option maxRecDepth 20000 in
theorem cv_X6_isWord : Cond.selects (yX6_isWord).cls yX6_isWord yX6_isWord ∈ am_ts := am_inS1 15 rfl
set_option maxRecDepth 20000 in
theorem cw_X6_isWord : Cond.code yX6_isWord cX6_isWord 2 (some .boolean) ∈ am_ts := am_in4 89 rfl rfl
set_option maxRecDepth 20000 in
theorem ci_X6_readBoth : Cond.instanceMethod yX6_readBoth ∈ am_ts := am_in4 80 rfl rfl
set_option maxRecDepth 20000 in
theorem cv_X6_readBoth : Cond.selects (yX6_readBoth).cls yX6_readBoth yX6_readBoth ∈ am_ts := am_inS1 13 rfl
set_option maxRecDepth 20000 in
theorem cw_X6_readBoth : Cond.code yX6_readBoth cX6_readBoth 3 none ∈ am_ts := am_in4 81 rfl rfl
set_option maxRecDepth 20000 in
theorem ci_X6_put : Cond.instanceMethod yX6_put ∈ am_ts := am_in4 112 rfl rfl
set_option maxRecDepth 20000 in
theorem cv_X6_put : Cond.selects (yX6_put).cls yX6_put yX6_put ∈ am_ts := am_inS2 5 rfl
set_option maxRecDepth 20000 in
theorem cw_X6_put : Cond.code yX6_put cX6_put 2 none ∈ am_ts := am_in4 113 rfl rfl
set_option maxRecDepth 20000 in
theorem ci_X6_readTest : Cond.instanceMethod yX6_readTest ∈ am_ts := am_in4 84 rfl rfl
set_option maxRecDepth 20000 in
theorem cv_X6_readTest : Cond.selects (yX6_readTest).cls yX6_readTest yX6_readTest ∈ am_ts := am_inS1 14 rfl
set_option maxRecDepth 20000 in
theorem cw_X6_readTest : Cond.code yX6_readTest cX6_readTest 4 none ∈ am_ts := am_in4 85 rfl rfl
set_option maxRecDepth 20000 in
theorem ci_X6_readSum : Cond.instanceMethod yX6_readSum ∈ am_ts := am_in4 92 rfl rfl
set_option maxRecDepth 20000 in
theorem cv_X6_readSum : Cond.selects (yX6_readSum).cls yX6_readSum yX6_readSum ∈ am_ts := am_inS2 0 rfl
set_option maxRecDepth 20000 in
theorem cw_X6_readSum : Cond.code yX6_readSum cX6_readSum 4 none ∈ am_ts := am_in4 93 rfl rfl
set_option maxRecDepth 20000 in
theorem ci_X6_isSign : Cond.instanceMethod yX6_isSign ∈ am_ts := am_in4 104 rfl rfl
set_option maxRecDepth 20000 in
theorem cv_X6_isSign : Cond.selects (yX6_isSign).cls yX6_isSign yX6_isSign ∈ am_ts := am_inS2 3 rfl
set_option maxRecDepth 20000 in
theorem cw_X6_isSign : Cond.code yX6_isSign cX6_isSign 2 (some .boolean) ∈ am_ts := am_in4 105 rfl rfl
set_option maxRecDepth 20000 in
theorem ci_X6_readProduct : Cond.instanceMethod yX6_readProduct ∈ am_ts := am_in4 96 rfl rfl
set_option maxRecDepth 20000 in
theorem cv_X6_readProduct : Cond.selects (yX6_readProduct).cls yX6_readProduct yX6_readProduct ∈ am_ts := am_inS2 1 rfl
set_option maxRecDepth 20000 in
theorem cw_X6_readProduct : Cond.code yX6_readProduct cX6_readProduct 4 none ∈ am_ts := am_in4 97 rfl rfl
set_option maxRecDepth 20000 in
theorem ci_X6_readPart : Cond.instanceMethod yX6_readPart ∈ am_ts := am_in4 100 rfl rfl
set_option maxRecDepth 20000 in
theorem cv_X6_readPart : Cond.selects (yX6_readPart).cls yX6_readPart yX6_readPart ∈ am_ts := am_inS2 2 rfl
set_option maxRecDepth 20000 in
theorem cw_X6_readPart : Cond.code yX6_readPart cX6_readPart 2 none ∈ am_ts := am_in4 101 rfl rfl
set_option maxRecDepth 20000 in
theorem cs_X6_isLetter : Cond.static yX6_isLetter ∈ am_ts := am_in3 174 rfl rfl
set_option maxRecDepth 20000 in
theorem cw_X6_isLetter : Cond.code yX6_isLetter cX6_isLetter 1 (some .boolean) ∈ am_ts := am_in3 175 rfl rfl
set_option maxRecDepth 20000 in
theorem ci_X6_wordNumber : Cond.instanceMethod yX6_wordNumber ∈ am_ts := am_in3 178 rfl rfl
set_option maxRecDepth 20000 in
theorem cv_X6_wordNumber : Cond.selects (yX6_wordNumber).cls yX6_wordNumber yX6_wordNumber ∈ am_ts := am_inS1 5 rfl
set_option maxRecDepth 20000 in
theorem cw_X6_wordNumber : Cond.code yX6_wordNumber cX6_wordNumber 5 (some .int) ∈ am_ts := am_in3 179 rfl rfl
set_option maxRecDepth 20000 in
theorem cs_X6_isDigit : Cond.static yX6_isDigit ∈ am_ts := am_in3 230 rfl rfl
set_option maxRecDepth 20000 in
theorem cw_X6_isDigit : Cond.code yX6_isDigit cX6_isDigit 1 (some .boolean) ∈ am_ts := am_in3 231 rfl rfl
set_option maxRecDepth 20000 in
theorem ci_X6_readDigits : Cond.instanceMethod yX6_readDigits ∈ am_ts := am_in3 234 rfl rfl
set_option maxRecDepth 20000 in
theorem cv_X6_readDigits : Cond.selects (yX6_readDigits).cls yX6_readDigits yX6_readDigits ∈ am_ts := am_inS1 6 rfl
set_option maxRecDepth 20000 in
theorem cw_X6_readDigits : Cond.code yX6_readDigits cX6_readDigits 1 none ∈ am_ts := am_in3 235 rfl rfl
set_option maxRecDepth 20000 in
theorem ci_J0_indexOf_0f7a4 : Cond.instanceMethod yJ0_indexOf_0f7a4 ∈ am_ts := am_in3 238 rfl rfl
set_option maxRecDepth 20000 in
theorem cv_J0_indexOf_0f7a4 : Cond.selects (yJ0_indexOf_0f7a4).cls yJ0_indexOf_0f7a4 yJ0_indexOf_0f7a4 ∈ am_ts := am_in3 239 rfl rfl
set_option maxRecDepth 20000 in
theorem cw_J0_indexOf_0f7a4 : Cond.code yJ0_indexOf_0f7a4 cJ0_indexOf_0f7a4 2 (some .int) ∈ am_ts := am_in4 0 rfl rfl
set_option maxRecDepth 20000 in
theorem ci_J0_length_8abf5 : Cond.instanceMethod yJ0_length_8abf5 ∈ am_ts := am_in3 182 rfl rfl
set_option maxRecDepth 20000 in
theorem cv_J0_length_8abf5 : Cond.selects (yJ0_length_8abf5).cls yJ0_length_8abf5 yJ0_length_8abf5 ∈ am_ts := am_in3 183 rfl rfl
set_option maxRecDepth 20000 in
theorem cw_J0_length_8abf5 : Cond.code yJ0_length_8abf5 cJ0_length_8abf5 1 (some .int) ∈ am_ts := am_in3 184 rfl rfl
set_option maxRecDepth 20000 in
theorem ci_J0_charAt_5068e : Cond.instanceMethod yJ0_charAt_5068e ∈ am_ts := am_in3 192 rfl rfl
set_option maxRecDepth 20000 in
theorem cv_J0_charAt_5068e : Cond.selects (yJ0_charAt_5068e).cls yJ0_charAt_5068e yJ0_charAt_5068e ∈ am_ts := am_in3 193 rfl rfl
set_option maxRecDepth 20000 in
theorem cw_J0_charAt_5068e : Cond.code yJ0_charAt_5068e cJ0_charAt_5068e 2 (some .char) ∈ am_ts := am_in3 194 rfl rfl
set_option maxRecDepth 20000 in
theorem ci_X1_init : Cond.instanceMethod yX1_init ∈ am_ts := am_in2 61 rfl rfl
set_option maxRecDepth 20000 in
theorem cw_X1_init : Cond.code yX1_init cX1_init 1 none ∈ am_ts := am_in2 62 rfl rfl
set_option maxRecDepth 20000 in
theorem ci_X4_init : Cond.instanceMethod yX4_init ∈ am_ts := am_in2 75 rfl rfl
set_option maxRecDepth 20000 in
theorem cw_X4_init : Cond.code yX4_init cX4_init 1 none ∈ am_ts := am_in2 76 rfl rfl
set_option maxRecDepth 20000 in
theorem ci_X5_init : Cond.instanceMethod yX5_init ∈ am_ts := am_in2 118 rfl rfl
set_option maxRecDepth 20000 in
theorem cw_X5_init : Cond.code yX5_init cX5_init 1 none ∈ am_ts := am_in2 119 rfl rfl
set_option maxRecDepth 20000 in
theorem ci_X0_known : Cond.instanceMethod yX0_known ∈ am_ts := am_in4 129 rfl rfl
set_option maxRecDepth 20000 in
theorem cv_X0_known : Cond.selects (yX0_known).cls yX0_known yX0_known ∈ am_ts := am_in4 130 rfl rfl
set_option maxRecDepth 20000 in
theorem cw_X0_known : Cond.code yX0_known cX0_known 4 (some .int) ∈ am_ts := am_in4 131 rfl rfl
set_option maxRecDepth 20000 in
theorem ci_X9_begin : Cond.instanceMethod yX9_begin ∈ am_ts := am_in4 184 rfl rfl
set_option maxRecDepth 20000 in
theorem cv_X9_begin : Cond.selects (yX9_begin).cls yX9_begin yX9_begin ∈ am_ts := am_inS2 9 rfl
set_option maxRecDepth 20000 in
theorem cw_X9_begin : Cond.code yX9_begin cX9_begin 1 none ∈ am_ts := am_in4 185 rfl rfl
set_option maxRecDepth 20000 in
theorem ci_X9_putHappenings : Cond.instanceMethod yX9_putHappenings ∈ am_ts := am_in4 199 rfl rfl
set_option maxRecDepth 20000 in
theorem cv_X9_putHappenings : Cond.selects (yX9_putHappenings).cls yX9_putHappenings yX9_putHappenings ∈ am_ts := am_inS2 10 rfl
set_option maxRecDepth 20000 in
theorem cw_X9_putHappenings : Cond.code yX9_putHappenings cX9_putHappenings 5 none ∈ am_ts := am_in4 200 rfl rfl
set_option maxRecDepth 20000 in
theorem ci_X1_dayAt : Cond.instanceMethod yX1_dayAt ∈ am_ts := am_in4 227 rfl rfl
set_option maxRecDepth 20000 in
theorem cv_X1_dayAt : Cond.selects (yX1_dayAt).cls yX1_dayAt yX1_dayAt ∈ am_ts := am_in4 228 rfl rfl
set_option maxRecDepth 20000 in
theorem cw_X1_dayAt : Cond.code yX1_dayAt cX1_dayAt 2 (some .int) ∈ am_ts := am_in4 229 rfl rfl
set_option maxRecDepth 20000 in
theorem ci_X1_factAt : Cond.instanceMethod yX1_factAt ∈ am_ts := am_in4 231 rfl rfl
set_option maxRecDepth 20000 in
theorem cv_X1_factAt : Cond.selects (yX1_factAt).cls yX1_factAt yX1_factAt ∈ am_ts := am_in4 232 rfl rfl
set_option maxRecDepth 20000 in
theorem cw_X1_factAt : Cond.code yX1_factAt cX1_factAt 2 (some .int) ∈ am_ts := am_in4 233 rfl rfl
set_option maxRecDepth 20000 in
theorem ci_X1_actAt : Cond.instanceMethod yX1_actAt ∈ am_ts := am_in4 236 rfl rfl
set_option maxRecDepth 20000 in
theorem cv_X1_actAt : Cond.selects (yX1_actAt).cls yX1_actAt yX1_actAt ∈ am_ts := am_in4 237 rfl rfl
set_option maxRecDepth 20000 in
theorem cw_X1_actAt : Cond.code yX1_actAt cX1_actAt 2 (some .int) ∈ am_ts := am_in4 238 rfl rfl
set_option maxRecDepth 20000 in
theorem ci_X9_beginAct : Cond.instanceMethod yX9_beginAct ∈ am_ts := am_in5 1 rfl rfl
set_option maxRecDepth 20000 in
theorem cv_X9_beginAct : Cond.selects (yX9_beginAct).cls yX9_beginAct yX9_beginAct ∈ am_ts := am_inS2 13 rfl
set_option maxRecDepth 20000 in
theorem cw_X9_beginAct : Cond.code yX9_beginAct cX9_beginAct 4 none ∈ am_ts := am_in5 2 rfl rfl
set_option maxRecDepth 20000 in
theorem ci_X9_happen : Cond.instanceMethod yX9_happen ∈ am_ts := am_in5 10 rfl rfl
set_option maxRecDepth 20000 in
theorem cv_X9_happen : Cond.selects (yX9_happen).cls yX9_happen yX9_happen ∈ am_ts := am_inS2 14 rfl
set_option maxRecDepth 20000 in
theorem cw_X9_happen : Cond.code yX9_happen cX9_happen 3 none ∈ am_ts := am_in5 11 rfl rfl
set_option maxRecDepth 20000 in
theorem ci_X9_countAsked : Cond.instanceMethod yX9_countAsked ∈ am_ts := am_in5 22 rfl rfl
set_option maxRecDepth 20000 in
theorem cv_X9_countAsked : Cond.selects (yX9_countAsked).cls yX9_countAsked yX9_countAsked ∈ am_ts := am_inS3 1 rfl
set_option maxRecDepth 20000 in
theorem cw_X9_countAsked : Cond.code yX9_countAsked cX9_countAsked 1 (some .int) ∈ am_ts := am_in5 23 rfl rfl
set_option maxRecDepth 20000 in
theorem ci_X9_askedAt : Cond.instanceMethod yX9_askedAt ∈ am_ts := am_in5 26 rfl rfl
set_option maxRecDepth 20000 in
theorem cv_X9_askedAt : Cond.selects (yX9_askedAt).cls yX9_askedAt yX9_askedAt ∈ am_ts := am_inS3 2 rfl
set_option maxRecDepth 20000 in
theorem cw_X9_askedAt : Cond.code yX9_askedAt cX9_askedAt 2 (some .int) ∈ am_ts := am_in5 27 rfl rfl
set_option maxRecDepth 20000 in
theorem ci_X9_ask : Cond.instanceMethod yX9_ask ∈ am_ts := am_in5 30 rfl rfl
set_option maxRecDepth 20000 in
theorem cv_X9_ask : Cond.selects (yX9_ask).cls yX9_ask yX9_ask ∈ am_ts := am_inS3 3 rfl
set_option maxRecDepth 20000 in
theorem cw_X9_ask : Cond.code yX9_ask cX9_ask 3 none ∈ am_ts := am_in5 31 rfl rfl
set_option maxRecDepth 20000 in
theorem ci_X5_clear : Cond.instanceMethod yX5_clear ∈ am_ts := am_in4 187 rfl rfl
set_option maxRecDepth 20000 in
theorem cv_X5_clear : Cond.selects (yX5_clear).cls yX5_clear yX5_clear ∈ am_ts := am_in4 188 rfl rfl
set_option maxRecDepth 20000 in
theorem cw_X5_clear : Cond.code yX5_clear cX5_clear 1 none ∈ am_ts := am_in4 189 rfl rfl
set_option maxRecDepth 20000 in
theorem ci_X1_clear : Cond.instanceMethod yX1_clear ∈ am_ts := am_in4 202 rfl rfl
set_option maxRecDepth 20000 in
theorem cv_X1_clear : Cond.selects (yX1_clear).cls yX1_clear yX1_clear ∈ am_ts := am_in4 203 rfl rfl
set_option maxRecDepth 20000 in
theorem cw_X1_clear : Cond.code yX1_clear cX1_clear 1 none ∈ am_ts := am_in4 204 rfl rfl
set_option maxRecDepth 20000 in
theorem ci_X1_putAct : Cond.instanceMethod yX1_putAct ∈ am_ts := am_in4 206 rfl rfl
set_option maxRecDepth 20000 in
theorem cv_X1_putAct : Cond.selects (yX1_putAct).cls yX1_putAct yX1_putAct ∈ am_ts := am_in4 207 rfl rfl
set_option maxRecDepth 20000 in
theorem cw_X1_putAct : Cond.code yX1_putAct cX1_putAct 3 none ∈ am_ts := am_in4 208 rfl rfl
set_option maxRecDepth 20000 in
theorem ci_X2_dayIn : Cond.instanceMethod yX2_dayIn ∈ am_ts := am_in4 214 rfl rfl
set_option maxRecDepth 20000 in
theorem cv_X2_dayIn : Cond.selects (yX2_dayIn).cls yX2_dayIn yX2_dayIn ∈ am_ts := am_in4 215 rfl rfl
set_option maxRecDepth 20000 in
theorem cw_X2_dayIn : Cond.code yX2_dayIn cX2_dayIn 4 (some .int) ∈ am_ts := am_in4 216 rfl rfl
set_option maxRecDepth 20000 in
theorem ci_X1_putFact : Cond.instanceMethod yX1_putFact ∈ am_ts := am_in4 223 rfl rfl
set_option maxRecDepth 20000 in
theorem cv_X1_putFact : Cond.selects (yX1_putFact).cls yX1_putFact yX1_putFact ∈ am_ts := am_in4 224 rfl rfl
set_option maxRecDepth 20000 in
theorem cw_X1_putFact : Cond.code yX1_putFact cX1_putFact 3 none ∈ am_ts := am_in4 225 rfl rfl
set_option maxRecDepth 20000 in
theorem ci_X0_inForce : Cond.instanceMethod yX0_inForce ∈ am_ts := am_in4 133 rfl rfl
set_option maxRecDepth 20000 in
theorem cv_X0_inForce : Cond.selects (yX0_inForce).cls yX0_inForce yX0_inForce ∈ am_ts := am_in4 134 rfl rfl
set_option maxRecDepth 20000 in
theorem cw_X0_inForce : Cond.code yX0_inForce cX0_inForce 7 (some .int) ∈ am_ts := am_in4 135 rfl rfl
set_option maxRecDepth 20000 in
theorem ci_X0_having : Cond.instanceMethod yX0_having ∈ am_ts := am_in5 5 rfl rfl
set_option maxRecDepth 20000 in
theorem cv_X0_having : Cond.selects (yX0_having).cls yX0_having yX0_having ∈ am_ts := am_in5 6 rfl rfl
set_option maxRecDepth 20000 in
theorem cw_X0_having : Cond.code yX0_having cX0_having 5 (some .int) ∈ am_ts := am_in5 7 rfl rfl
set_option maxRecDepth 20000 in
theorem ci_X9_bear : Cond.instanceMethod yX9_bear ∈ am_ts := am_in5 14 rfl rfl
set_option maxRecDepth 20000 in
theorem cv_X9_bear : Cond.selects (yX9_bear).cls yX9_bear yX9_bear ∈ am_ts := am_inS2 15 rfl
set_option maxRecDepth 20000 in
theorem cw_X9_bear : Cond.code yX9_bear cX9_bear 2 none ∈ am_ts := am_in5 15 rfl rfl
set_option maxRecDepth 20000 in
theorem ci_X9_wed : Cond.instanceMethod yX9_wed ∈ am_ts := am_in5 18 rfl rfl
set_option maxRecDepth 20000 in
theorem cv_X9_wed : Cond.selects (yX9_wed).cls yX9_wed yX9_wed ∈ am_ts := am_inS3 0 rfl
set_option maxRecDepth 20000 in
theorem cw_X9_wed : Cond.code yX9_wed cX9_wed 3 none ∈ am_ts := am_in5 19 rfl rfl
set_option maxRecDepth 20000 in
theorem ci_X9_choose : Cond.instanceMethod yX9_choose ∈ am_ts := am_in5 34 rfl rfl
set_option maxRecDepth 20000 in
theorem cv_X9_choose : Cond.selects (yX9_choose).cls yX9_choose yX9_choose ∈ am_ts := am_inS3 4 rfl
set_option maxRecDepth 20000 in
theorem cw_X9_choose : Cond.code yX9_choose cX9_choose 8 (some .int) ∈ am_ts := am_in5 35 rfl rfl
set_option maxRecDepth 20000 in
theorem ci_X9_change : Cond.instanceMethod yX9_change ∈ am_ts := am_in5 56 rfl rfl
set_option maxRecDepth 20000 in
theorem cv_X9_change : Cond.selects (yX9_change).cls yX9_change yX9_change ∈ am_ts := am_inS3 7 rfl
set_option maxRecDepth 20000 in
theorem cw_X9_change : Cond.code yX9_change cX9_change 9 none ∈ am_ts := am_in5 57 rfl rfl
set_option maxRecDepth 20000 in
theorem ci_X9_evaluate : Cond.instanceMethod yX9_evaluate ∈ am_ts := am_in5 38 rfl rfl
set_option maxRecDepth 20000 in
theorem cv_X9_evaluate : Cond.selects (yX9_evaluate).cls yX9_evaluate yX9_evaluate ∈ am_ts := am_inS3 5 rfl
set_option maxRecDepth 20000 in
theorem cw_X9_evaluate : Cond.code yX9_evaluate cX9_evaluate 8 (some .int) ∈ am_ts := am_in5 39 rfl rfl
set_option maxRecDepth 20000 in
theorem ci_X9_valueOf : Cond.instanceMethod yX9_valueOf ∈ am_ts := am_in5 42 rfl rfl
set_option maxRecDepth 20000 in
theorem cv_X9_valueOf : Cond.selects (yX9_valueOf).cls yX9_valueOf yX9_valueOf ∈ am_ts := am_inS3 6 rfl
set_option maxRecDepth 20000 in
theorem cw_X9_valueOf : Cond.code yX9_valueOf cX9_valueOf 11 (some .int) ∈ am_ts := am_in5 43 rfl rfl
set_option maxRecDepth 20000 in
theorem cs_X9_join : Cond.static yX9_join ∈ am_ts := am_in5 52 rfl rfl
set_option maxRecDepth 20000 in
theorem cw_X9_join : Cond.code yX9_join cX9_join 3 (some .int) ∈ am_ts := am_in5 53 rfl rfl
set_option maxRecDepth 20000 in
theorem cs_J6_bitCount_0f7a4 : Cond.static yJ6_bitCount_0f7a4 ∈ am_ts := am_in5 45 rfl rfl
set_option maxRecDepth 20000 in
theorem cw_J6_bitCount_0f7a4 : Cond.code yJ6_bitCount_0f7a4 cJ6_bitCount_0f7a4 1 (some .int) ∈ am_ts := am_in5 46 rfl rfl
set_option maxRecDepth 20000 in
theorem ci_X9_leansOn : Cond.instanceMethod yX9_leansOn ∈ am_ts := am_in5 60 rfl rfl
set_option maxRecDepth 20000 in
theorem cv_X9_leansOn : Cond.selects (yX9_leansOn).cls yX9_leansOn yX9_leansOn ∈ am_ts := am_inS3 8 rfl
set_option maxRecDepth 20000 in
theorem cw_X9_leansOn : Cond.code yX9_leansOn cX9_leansOn 7 (some .int) ∈ am_ts := am_in5 61 rfl rfl
set_option maxRecDepth 20000 in
theorem ci_X5_gain : Cond.instanceMethod yX5_gain ∈ am_ts := am_in5 63 rfl rfl
set_option maxRecDepth 20000 in
theorem cv_X5_gain : Cond.selects (yX5_gain).cls yX5_gain yX5_gain ∈ am_ts := am_in5 64 rfl rfl
set_option maxRecDepth 20000 in
theorem cw_X5_gain : Cond.code yX5_gain cX5_gain 9 (some .int) ∈ am_ts := am_in5 65 rfl rfl
set_option maxRecDepth 20000 in
theorem ci_X7_isChildOf : Cond.instanceMethod yX7_isChildOf ∈ am_ts := am_in5 79 rfl rfl
set_option maxRecDepth 20000 in
theorem cv_X7_isChildOf : Cond.selects (yX7_isChildOf).cls yX7_isChildOf yX7_isChildOf ∈ am_ts := am_in5 80 rfl rfl
set_option maxRecDepth 20000 in
theorem cw_X7_isChildOf : Cond.code yX7_isChildOf cX7_isChildOf 4 (some .boolean) ∈ am_ts := am_in5 81 rfl rfl
set_option maxRecDepth 20000 in
theorem ci_X8_init : Cond.instanceMethod yX8_init ∈ am_ts := am_in1 38 rfl rfl
set_option maxRecDepth 20000 in
theorem cw_X8_init : Cond.code yX8_init cX8_init 1 none ∈ am_ts := am_in1 39 rfl rfl
set_option maxRecDepth 20000 in
theorem ci_X7_init : Cond.instanceMethod yX7_init ∈ am_ts := am_in1 58 rfl rfl
set_option maxRecDepth 20000 in
theorem cw_X7_init : Cond.code yX7_init cX7_init 1 none ∈ am_ts := am_in1 59 rfl rfl
set_option maxRecDepth 20000 in
theorem ci_X3_init : Cond.instanceMethod yX3_init ∈ am_ts := am_in1 84 rfl rfl
set_option maxRecDepth 20000 in
theorem cw_X3_init : Cond.code yX3_init cX3_init 1 none ∈ am_ts := am_in1 85 rfl rfl
set_option maxRecDepth 20000 in
theorem ci_X0_init : Cond.instanceMethod yX0_init ∈ am_ts := am_in1 134 rfl rfl
set_option maxRecDepth 20000 in
theorem cw_X0_init : Cond.code yX0_init cX0_init 1 none ∈ am_ts := am_in1 135 rfl rfl
set_option maxRecDepth 20000 in
theorem ci_X6_init : Cond.instanceMethod yX6_init ∈ am_ts := am_in1 218 rfl rfl
set_option maxRecDepth 20000 in
theorem cw_X6_init : Cond.code yX6_init cX6_init 2 none ∈ am_ts := am_in1 219 rfl rfl
set_option maxRecDepth 20000 in
theorem ci_X2_init : Cond.instanceMethod yX2_init ∈ am_ts := am_in2 23 rfl rfl
set_option maxRecDepth 20000 in
theorem cw_X2_init : Cond.code yX2_init cX2_init 2 none ∈ am_ts := am_in2 24 rfl rfl
set_option maxRecDepth 20000 in
theorem ci_X9_init : Cond.instanceMethod yX9_init ∈ am_ts := am_in2 55 rfl rfl
set_option maxRecDepth 20000 in
theorem cw_X9_init : Cond.code yX9_init cX9_init 6 none ∈ am_ts := am_in2 56 rfl rfl
set_option maxRecDepth 20000 in
theorem ci_X10_forget : Cond.instanceMethod yX10_forget ∈ am_ts := am_in3 10 rfl rfl
set_option maxRecDepth 20000 in
theorem cv_X10_forget : Cond.selects (yX10_forget).cls yX10_forget yX10_forget ∈ am_ts := am_inS1 0 rfl
set_option maxRecDepth 20000 in
theorem cw_X10_forget : Cond.code yX10_forget cX10_forget 1 none ∈ am_ts := am_in3 11 rfl rfl
set_option maxRecDepth 20000 in
theorem ci_X10_isParent : Cond.instanceMethod yX10_isParent ∈ am_ts := am_in3 23 rfl rfl
set_option maxRecDepth 20000 in
theorem cv_X10_isParent : Cond.selects (yX10_isParent).cls yX10_isParent yX10_isParent ∈ am_ts := am_inS1 1 rfl
set_option maxRecDepth 20000 in
theorem cw_X10_isParent : Cond.code yX10_isParent cX10_isParent 2 (some .boolean) ∈ am_ts := am_in3 24 rfl rfl
set_option maxRecDepth 20000 in
theorem cs_X10_needNumber : Cond.static yX10_needNumber ∈ am_ts := am_in3 46 rfl rfl
set_option maxRecDepth 20000 in
theorem cw_X10_needNumber : Cond.code yX10_needNumber cX10_needNumber 2 none ∈ am_ts := am_in3 47 rfl rfl
set_option maxRecDepth 20000 in
theorem cs_X10_isDay : Cond.static yX10_isDay ∈ am_ts := am_in3 111 rfl rfl
set_option maxRecDepth 20000 in
theorem cw_X10_isDay : Cond.code yX10_isDay cX10_isDay 1 (some .boolean) ∈ am_ts := am_in3 112 rfl rfl
set_option maxRecDepth 20000 in
theorem ci_X3_couldBeOn : Cond.instanceMethod yX3_couldBeOn ∈ am_ts := am_in3 122 rfl rfl
set_option maxRecDepth 20000 in
theorem cv_X3_couldBeOn : Cond.selects (yX3_couldBeOn).cls yX3_couldBeOn yX3_couldBeOn ∈ am_ts := am_in3 123 rfl rfl
set_option maxRecDepth 20000 in
theorem cw_X3_couldBeOn : Cond.code yX3_couldBeOn cX3_couldBeOn 4 (some .boolean) ∈ am_ts := am_in3 124 rfl rfl
set_option maxRecDepth 20000 in
theorem ci_X10_putBytes : Cond.instanceMethod yX10_putBytes ∈ am_ts := am_in3 31 rfl rfl
set_option maxRecDepth 20000 in
theorem cv_X10_putBytes : Cond.selects (yX10_putBytes).cls yX10_putBytes yX10_putBytes ∈ am_ts := am_inS1 2 rfl
set_option maxRecDepth 20000 in
theorem cw_X10_putBytes : Cond.code yX10_putBytes cX10_putBytes 3 none ∈ am_ts := am_in3 32 rfl rfl
set_option maxRecDepth 20000 in
theorem ci_X6_read : Cond.instanceMethod yX6_read ∈ am_ts := am_in3 163 rfl rfl
set_option maxRecDepth 20000 in
theorem cv_X6_read : Cond.selects (yX6_read).cls yX6_read yX6_read ∈ am_ts := am_in3 164 rfl rfl
set_option maxRecDepth 20000 in
theorem cw_X6_read : Cond.code yX6_read cX6_read 6 (some .int) ∈ am_ts := am_in3 165 rfl rfl
set_option maxRecDepth 20000 in
theorem cs_X10_needDay : Cond.static yX10_needDay ∈ am_ts := am_in4 122 rfl rfl
set_option maxRecDepth 20000 in
theorem cw_X10_needDay : Cond.code yX10_needDay cX10_needDay 1 none ∈ am_ts := am_in4 123 rfl rfl
set_option maxRecDepth 20000 in
theorem ci_X10_needEvening : Cond.instanceMethod yX10_needEvening ∈ am_ts := am_in4 126 rfl rfl
set_option maxRecDepth 20000 in
theorem cv_X10_needEvening : Cond.selects (yX10_needEvening).cls yX10_needEvening yX10_needEvening ∈ am_ts := am_inS2 6 rfl
set_option maxRecDepth 20000 in
theorem cw_X10_needEvening : Cond.code yX10_needEvening cX10_needEvening 2 none ∈ am_ts := am_in4 127 rfl rfl
set_option maxRecDepth 20000 in
theorem ci_X2_find : Cond.instanceMethod yX2_find ∈ am_ts := am_in4 155 rfl rfl
set_option maxRecDepth 20000 in
theorem cv_X2_find : Cond.selects (yX2_find).cls yX2_find yX2_find ∈ am_ts := am_in4 156 rfl rfl
set_option maxRecDepth 20000 in
theorem cw_X2_find : Cond.code yX2_find cX2_find 3 none ∈ am_ts := am_in4 157 rfl rfl
set_option maxRecDepth 20000 in
theorem ci_X10_needBond : Cond.instanceMethod yX10_needBond ∈ am_ts := am_in4 168 rfl rfl
set_option maxRecDepth 20000 in
theorem cv_X10_needBond : Cond.selects (yX10_needBond).cls yX10_needBond yX10_needBond ∈ am_ts := am_inS2 7 rfl
set_option maxRecDepth 20000 in
theorem cw_X10_needBond : Cond.code yX10_needBond cX10_needBond 5 none ∈ am_ts := am_in4 169 rfl rfl
set_option maxRecDepth 20000 in
theorem ci_X10_workOutWays : Cond.instanceMethod yX10_workOutWays ∈ am_ts := am_in4 172 rfl rfl
set_option maxRecDepth 20000 in
theorem cv_X10_workOutWays : Cond.selects (yX10_workOutWays).cls yX10_workOutWays yX10_workOutWays ∈ am_ts := am_inS2 8 rfl
set_option maxRecDepth 20000 in
theorem cw_X10_workOutWays : Cond.code yX10_workOutWays cX10_workOutWays 5 none ∈ am_ts := am_in4 173 rfl rfl
set_option maxRecDepth 20000 in
theorem ci_X10_waysWith : Cond.instanceMethod yX10_waysWith ∈ am_ts := am_in5 85 rfl rfl
set_option maxRecDepth 20000 in
theorem cv_X10_waysWith : Cond.selects (yX10_waysWith).cls yX10_waysWith yX10_waysWith ∈ am_ts := am_inS3 9 rfl
set_option maxRecDepth 20000 in
theorem cw_X10_waysWith : Cond.code yX10_waysWith cX10_waysWith 5 (some .int) ∈ am_ts := am_in5 86 rfl rfl
set_option maxRecDepth 20000 in
theorem ci_X10_isSettledBy : Cond.instanceMethod yX10_isSettledBy ∈ am_ts := am_in5 105 rfl rfl
set_option maxRecDepth 20000 in
theorem cv_X10_isSettledBy : Cond.selects (yX10_isSettledBy).cls yX10_isSettledBy yX10_isSettledBy ∈ am_ts := am_inS3 10 rfl
set_option maxRecDepth 20000 in
theorem cw_X10_isSettledBy : Cond.code yX10_isSettledBy cX10_isSettledBy 7 (some .boolean) ∈ am_ts := am_in5 106 rfl rfl
set_option maxRecDepth 20000 in
theorem ci_X9_live : Cond.instanceMethod yX9_live ∈ am_ts := am_in4 175 rfl rfl
set_option maxRecDepth 20000 in
theorem cv_X9_live : Cond.selects (yX9_live).cls yX9_live yX9_live ∈ am_ts := am_in4 176 rfl rfl
set_option maxRecDepth 20000 in
theorem cw_X9_live : Cond.code yX9_live cX9_live 9 none ∈ am_ts := am_in4 177 rfl rfl
set_option maxRecDepth 20000 in
theorem ci_X5_linksFrom : Cond.instanceMethod yX5_linksFrom ∈ am_ts := am_in5 126 rfl rfl
set_option maxRecDepth 20000 in
theorem cv_X5_linksFrom : Cond.selects (yX5_linksFrom).cls yX5_linksFrom yX5_linksFrom ∈ am_ts := am_in5 127 rfl rfl
set_option maxRecDepth 20000 in
theorem cw_X5_linksFrom : Cond.code yX5_linksFrom cX5_linksFrom 4 (some .int) ∈ am_ts := am_in5 128 rfl rfl
set_option maxRecDepth 20000 in
theorem ci_X5_tell : Cond.instanceMethod yX5_tell ∈ am_ts := am_in5 130 rfl rfl
set_option maxRecDepth 20000 in
theorem cv_X5_tell : Cond.selects (yX5_tell).cls yX5_tell yX5_tell ∈ am_ts := am_in5 131 rfl rfl
set_option maxRecDepth 20000 in
theorem cw_X5_tell : Cond.code yX5_tell cX5_tell 6 (some .int) ∈ am_ts := am_in5 132 rfl rfl
set_option maxRecDepth 20000 in
theorem ci_X9_holders : Cond.instanceMethod yX9_holders ∈ am_ts := am_in5 148 rfl rfl
set_option maxRecDepth 20000 in
theorem cv_X9_holders : Cond.selects (yX9_holders).cls yX9_holders yX9_holders ∈ am_ts := am_in5 149 rfl rfl
set_option maxRecDepth 20000 in
theorem cw_X9_holders : Cond.code yX9_holders cX9_holders 4 (some .int) ∈ am_ts := am_in5 150 rfl rfl
set_option maxRecDepth 20000 in
theorem ci_X2_firstLike : Cond.instanceMethod yX2_firstLike ∈ am_ts := am_in5 108 rfl rfl
set_option maxRecDepth 20000 in
theorem cv_X2_firstLike : Cond.selects (yX2_firstLike).cls yX2_firstLike yX2_firstLike ∈ am_ts := am_in5 109 rfl rfl
set_option maxRecDepth 20000 in
theorem cw_X2_firstLike : Cond.code yX2_firstLike cX2_firstLike 5 (some .int) ∈ am_ts := am_in5 110 rfl rfl
set_option maxRecDepth 20000 in
theorem ci_X11_right : Cond.instanceMethod yX11_right ∈ am_ts := am_in5 181 rfl rfl
set_option maxRecDepth 20000 in
theorem cv_X11_right : Cond.selects (yX11_right).cls yX11_right yX11_right ∈ am_ts := am_inS3 11 rfl
set_option maxRecDepth 20000 in
theorem cw_X11_right : Cond.code yX11_right cX11_right 3 (some .boolean) ∈ am_ts := am_in5 183 rfl rfl
set_option maxRecDepth 20000 in
theorem ci_X11_isPerson : Cond.instanceMethod yX11_isPerson ∈ am_ts := am_in5 186 rfl rfl
set_option maxRecDepth 20000 in
theorem cv_X11_isPerson : Cond.selects (yX11_isPerson).cls yX11_isPerson yX11_isPerson ∈ am_ts := am_inS3 12 rfl
set_option maxRecDepth 20000 in
theorem cw_X11_isPerson : Cond.code yX11_isPerson cX11_isPerson 2 (some .boolean) ∈ am_ts := am_in5 187 rfl rfl
set_option maxRecDepth 20000 in
theorem ci_X11_isLand : Cond.instanceMethod yX11_isLand ∈ am_ts := am_in5 190 rfl rfl
set_option maxRecDepth 20000 in
theorem cv_X11_isLand : Cond.selects (yX11_isLand).cls yX11_isLand yX11_isLand ∈ am_ts := am_inS3 13 rfl
set_option maxRecDepth 20000 in
theorem cw_X11_isLand : Cond.code yX11_isLand cX11_isLand 2 (some .boolean) ∈ am_ts := am_in5 191 rfl rfl
set_option maxRecDepth 20000 in
theorem cs_X11_isDay : Cond.static yX11_isDay ∈ am_ts := am_in5 193 rfl rfl
set_option maxRecDepth 20000 in
theorem cw_X11_isDay : Cond.code yX11_isDay cX11_isDay 1 (some .boolean) ∈ am_ts := am_in5 194 rfl rfl
set_option maxRecDepth 20000 in
theorem ci_X11_lays : Cond.instanceMethod yX11_lays ∈ am_ts := am_in5 214 rfl rfl
set_option maxRecDepth 20000 in
theorem cv_X11_lays : Cond.selects (yX11_lays).cls yX11_lays yX11_lays ∈ am_ts := am_inS3 14 rfl
set_option maxRecDepth 20000 in
theorem cw_X11_lays : Cond.code yX11_lays cX11_lays 3 none ∈ am_ts := am_in5 215 rfl rfl
set_option maxRecDepth 20000 in
theorem ci_X11_byteAt : Cond.instanceMethod yX11_byteAt ∈ am_ts := am_in7 38 rfl rfl
set_option maxRecDepth 20000 in
theorem cv_X11_byteAt : Cond.selects (yX11_byteAt).cls yX11_byteAt yX11_byteAt ∈ am_ts := am_inS4 0 rfl
set_option maxRecDepth 20000 in
theorem cw_X11_byteAt : Cond.code yX11_byteAt cX11_byteAt 2 (some .int) ∈ am_ts := am_in7 39 rfl rfl
set_option maxRecDepth 20000 in
theorem cs_X11_isLetter : Cond.static yX11_isLetter ∈ am_ts := am_in7 41 rfl rfl
set_option maxRecDepth 20000 in
theorem cw_X11_isLetter : Cond.code yX11_isLetter cX11_isLetter 1 (some .boolean) ∈ am_ts := am_in7 42 rfl rfl
set_option maxRecDepth 20000 in
theorem cs_X11_isDigit : Cond.static yX11_isDigit ∈ am_ts := am_in7 44 rfl rfl
set_option maxRecDepth 20000 in
theorem cw_X11_isDigit : Cond.code yX11_isDigit cX11_isDigit 1 (some .boolean) ∈ am_ts := am_in7 45 rfl rfl
set_option maxRecDepth 20000 in
theorem cs_X11_spelled : Cond.static yX11_spelled ∈ am_ts := am_in5 222 rfl rfl
set_option maxRecDepth 20000 in
theorem cw_X11_spelled : Cond.code yX11_spelled cX11_spelled 8 (some .long) ∈ am_ts := am_in5 223 rfl rfl
set_option maxRecDepth 20000 in
theorem cs_X11_strength : Cond.static yX11_strength ∈ am_ts := am_in7 107 rfl rfl
set_option maxRecDepth 20000 in
theorem cw_X11_strength : Cond.code yX11_strength cX11_strength 1 (some .int) ∈ am_ts := am_in7 108 rfl rfl
set_option maxRecDepth 20000 in
theorem ci_X11_puts : Cond.instanceMethod yX11_puts ∈ am_ts := am_in7 100 rfl rfl
set_option maxRecDepth 20000 in
theorem cv_X11_puts : Cond.selects (yX11_puts).cls yX11_puts yX11_puts ∈ am_ts := am_inS4 14 rfl
set_option maxRecDepth 20000 in
theorem cw_X11_puts : Cond.code yX11_puts cX11_puts 2 none ∈ am_ts := am_in7 101 rfl rfl
set_option maxRecDepth 20000 in
theorem ci_X11_isGood : Cond.instanceMethod yX11_isGood ∈ am_ts := am_in7 48 rfl rfl
set_option maxRecDepth 20000 in
theorem cv_X11_isGood : Cond.selects (yX11_isGood).cls yX11_isGood yX11_isGood ∈ am_ts := am_inS4 1 rfl
set_option maxRecDepth 20000 in
theorem cw_X11_isGood : Cond.code yX11_isGood cX11_isGood 1 (some .boolean) ∈ am_ts := am_in7 49 rfl rfl
set_option maxRecDepth 20000 in
theorem ci_X11_wrong : Cond.instanceMethod yX11_wrong ∈ am_ts := am_in7 60 rfl rfl
set_option maxRecDepth 20000 in
theorem cv_X11_wrong : Cond.selects (yX11_wrong).cls yX11_wrong yX11_wrong ∈ am_ts := am_inS4 4 rfl
set_option maxRecDepth 20000 in
theorem cw_X11_wrong : Cond.code yX11_wrong cX11_wrong 2 none ∈ am_ts := am_in7 61 rfl rfl
set_option maxRecDepth 20000 in
theorem ci_X11_knownWord : Cond.instanceMethod yX11_knownWord ∈ am_ts := am_in7 56 rfl rfl
set_option maxRecDepth 20000 in
theorem cv_X11_knownWord : Cond.selects (yX11_knownWord).cls yX11_knownWord yX11_knownWord ∈ am_ts := am_inS4 3 rfl
set_option maxRecDepth 20000 in
theorem cw_X11_knownWord : Cond.code yX11_knownWord cX11_knownWord 2 (some .int) ∈ am_ts := am_in7 57 rfl rfl
set_option maxRecDepth 20000 in
theorem ci_X11_goes : Cond.instanceMethod yX11_goes ∈ am_ts := am_in7 34 rfl rfl
set_option maxRecDepth 20000 in
theorem cv_X11_goes : Cond.selects (yX11_goes).cls yX11_goes yX11_goes ∈ am_ts := am_inS3 15 rfl
set_option maxRecDepth 20000 in
theorem cw_X11_goes : Cond.code yX11_goes cX11_goes 2 none ∈ am_ts := am_in7 35 rfl rfl
set_option maxRecDepth 20000 in
theorem ci_X11_isSign : Cond.instanceMethod yX11_isSign ∈ am_ts := am_in7 84 rfl rfl
set_option maxRecDepth 20000 in
theorem cv_X11_isSign : Cond.selects (yX11_isSign).cls yX11_isSign yX11_isSign ∈ am_ts := am_inS4 10 rfl
set_option maxRecDepth 20000 in
theorem cw_X11_isSign : Cond.code yX11_isSign cX11_isSign 2 (some .boolean) ∈ am_ts := am_in7 85 rfl rfl
set_option maxRecDepth 20000 in
theorem ci_X11_waitsFor : Cond.instanceMethod yX11_waitsFor ∈ am_ts := am_in7 92 rfl rfl
set_option maxRecDepth 20000 in
theorem cv_X11_waitsFor : Cond.selects (yX11_waitsFor).cls yX11_waitsFor yX11_waitsFor ∈ am_ts := am_inS4 12 rfl
set_option maxRecDepth 20000 in
theorem cw_X11_waitsFor : Cond.code yX11_waitsFor cX11_waitsFor 2 none ∈ am_ts := am_in7 93 rfl rfl
set_option maxRecDepth 20000 in
theorem ci_X11_begins : Cond.instanceMethod yX11_begins ∈ am_ts := am_in7 80 rfl rfl
set_option maxRecDepth 20000 in
theorem cv_X11_begins : Cond.selects (yX11_begins).cls yX11_begins yX11_begins ∈ am_ts := am_inS4 9 rfl
set_option maxRecDepth 20000 in
theorem cw_X11_begins : Cond.code yX11_begins cX11_begins 1 none ∈ am_ts := am_in7 81 rfl rfl
set_option maxRecDepth 20000 in
theorem ci_X11_part : Cond.instanceMethod yX11_part ∈ am_ts := am_in7 96 rfl rfl
set_option maxRecDepth 20000 in
theorem cv_X11_part : Cond.selects (yX11_part).cls yX11_part yX11_part ∈ am_ts := am_inS4 13 rfl
set_option maxRecDepth 20000 in
theorem cw_X11_part : Cond.code yX11_part cX11_part 2 none ∈ am_ts := am_in7 97 rfl rfl
set_option maxRecDepth 20000 in
theorem ci_X11_operand : Cond.instanceMethod yX11_operand ∈ am_ts := am_in7 88 rfl rfl
set_option maxRecDepth 20000 in
theorem cv_X11_operand : Cond.selects (yX11_operand).cls yX11_operand yX11_operand ∈ am_ts := am_inS4 11 rfl
set_option maxRecDepth 20000 in
theorem cw_X11_operand : Cond.code yX11_operand cX11_operand 5 none ∈ am_ts := am_in7 89 rfl rfl
set_option maxRecDepth 20000 in
theorem ci_X11_drops : Cond.instanceMethod yX11_drops ∈ am_ts := am_in7 104 rfl rfl
set_option maxRecDepth 20000 in
theorem cv_X11_drops : Cond.selects (yX11_drops).cls yX11_drops yX11_drops ∈ am_ts := am_inS4 15 rfl
set_option maxRecDepth 20000 in
theorem cw_X11_drops : Cond.code yX11_drops cX11_drops 2 none ∈ am_ts := am_in7 105 rfl rfl
set_option maxRecDepth 20000 in
theorem ci_X11_struck : Cond.instanceMethod yX11_struck ∈ am_ts := am_in7 64 rfl rfl
set_option maxRecDepth 20000 in
theorem cv_X11_struck : Cond.selects (yX11_struck).cls yX11_struck yX11_struck ∈ am_ts := am_inS4 5 rfl
set_option maxRecDepth 20000 in
theorem cw_X11_struck : Cond.code yX11_struck cX11_struck 3 none ∈ am_ts := am_in7 65 rfl rfl
set_option maxRecDepth 20000 in
theorem ci_X11_change : Cond.instanceMethod yX11_change ∈ am_ts := am_in7 72 rfl rfl
set_option maxRecDepth 20000 in
theorem cv_X11_change : Cond.selects (yX11_change).cls yX11_change yX11_change ∈ am_ts := am_inS4 7 rfl
set_option maxRecDepth 20000 in
theorem cw_X11_change : Cond.code yX11_change cX11_change 3 none ∈ am_ts := am_in7 73 rfl rfl
set_option maxRecDepth 20000 in
theorem ci_X11_number : Cond.instanceMethod yX11_number ∈ am_ts := am_in7 68 rfl rfl
set_option maxRecDepth 20000 in
theorem cv_X11_number : Cond.selects (yX11_number).cls yX11_number yX11_number ∈ am_ts := am_inS4 6 rfl
set_option maxRecDepth 20000 in
theorem cw_X11_number : Cond.code yX11_number cX11_number 2 (some .int) ∈ am_ts := am_in7 69 rfl rfl
set_option maxRecDepth 20000 in
theorem ci_X11_expression : Cond.instanceMethod yX11_expression ∈ am_ts := am_in7 76 rfl rfl
set_option maxRecDepth 20000 in
theorem cv_X11_expression : Cond.selects (yX11_expression).cls yX11_expression yX11_expression ∈ am_ts := am_inS4 8 rfl
set_option maxRecDepth 20000 in
theorem cw_X11_expression : Cond.code yX11_expression cX11_expression 4 (some .int) ∈ am_ts := am_in7 77 rfl rfl
set_option maxRecDepth 20000 in
theorem ci_X11_clause : Cond.instanceMethod yX11_clause ∈ am_ts := am_in7 52 rfl rfl
set_option maxRecDepth 20000 in
theorem cv_X11_clause : Cond.selects (yX11_clause).cls yX11_clause yX11_clause ∈ am_ts := am_inS4 2 rfl
set_option maxRecDepth 20000 in
theorem cw_X11_clause : Cond.code yX11_clause cX11_clause 4 none ∈ am_ts := am_in7 53 rfl rfl
set_option maxRecDepth 20000 in
theorem ci_X11_isKnownAct : Cond.instanceMethod yX11_isKnownAct ∈ am_ts := am_in7 127 rfl rfl
set_option maxRecDepth 20000 in
theorem cv_X11_isKnownAct : Cond.selects (yX11_isKnownAct).cls yX11_isKnownAct yX11_isKnownAct ∈ am_ts := am_inS5 2 rfl
set_option maxRecDepth 20000 in
theorem cw_X11_isKnownAct : Cond.code yX11_isKnownAct cX11_isKnownAct 3 (some .boolean) ∈ am_ts := am_in7 128 rfl rfl
set_option maxRecDepth 20000 in
theorem ci_X11_isKnownFact : Cond.instanceMethod yX11_isKnownFact ∈ am_ts := am_in7 139 rfl rfl
set_option maxRecDepth 20000 in
theorem cv_X11_isKnownFact : Cond.selects (yX11_isKnownFact).cls yX11_isKnownFact yX11_isKnownFact ∈ am_ts := am_inS5 4 rfl
set_option maxRecDepth 20000 in
theorem cw_X11_isKnownFact : Cond.code yX11_isKnownFact cX11_isKnownFact 3 (some .boolean) ∈ am_ts := am_in7 140 rfl rfl
set_option maxRecDepth 20000 in
theorem ci_X11_sorts : Cond.instanceMethod yX11_sorts ∈ am_ts := am_in7 151 rfl rfl
set_option maxRecDepth 20000 in
theorem cv_X11_sorts : Cond.selects (yX11_sorts).cls yX11_sorts yX11_sorts ∈ am_ts := am_inS5 7 rfl
set_option maxRecDepth 20000 in
theorem cw_X11_sorts : Cond.code yX11_sorts cX11_sorts 5 none ∈ am_ts := am_in7 152 rfl rfl
set_option maxRecDepth 20000 in
theorem ci_X11_dayIn : Cond.instanceMethod yX11_dayIn ∈ am_ts := am_in7 155 rfl rfl
set_option maxRecDepth 20000 in
theorem cv_X11_dayIn : Cond.selects (yX11_dayIn).cls yX11_dayIn yX11_dayIn ∈ am_ts := am_inS5 8 rfl
set_option maxRecDepth 20000 in
theorem cw_X11_dayIn : Cond.code yX11_dayIn cX11_dayIn 5 (some .int) ∈ am_ts := am_in7 156 rfl rfl
set_option maxRecDepth 20000 in
theorem ci_X11_starts : Cond.instanceMethod yX11_starts ∈ am_ts := am_in7 147 rfl rfl
set_option maxRecDepth 20000 in
theorem cv_X11_starts : Cond.selects (yX11_starts).cls yX11_starts yX11_starts ∈ am_ts := am_inS5 6 rfl
set_option maxRecDepth 20000 in
theorem cw_X11_starts : Cond.code yX11_starts cX11_starts 6 none ∈ am_ts := am_in7 148 rfl rfl
set_option maxRecDepth 20000 in
theorem ci_X11_inForce : Cond.instanceMethod yX11_inForce ∈ am_ts := am_in7 123 rfl rfl
set_option maxRecDepth 20000 in
theorem cv_X11_inForce : Cond.selects (yX11_inForce).cls yX11_inForce yX11_inForce ∈ am_ts := am_inS5 1 rfl
set_option maxRecDepth 20000 in
theorem cw_X11_inForce : Cond.code yX11_inForce cX11_inForce 7 (some .int) ∈ am_ts := am_in7 124 rfl rfl
set_option maxRecDepth 20000 in
theorem ci_X11_happens : Cond.instanceMethod yX11_happens ∈ am_ts := am_in7 159 rfl rfl
set_option maxRecDepth 20000 in
theorem cv_X11_happens : Cond.selects (yX11_happens).cls yX11_happens yX11_happens ∈ am_ts := am_inS5 9 rfl
set_option maxRecDepth 20000 in
theorem cw_X11_happens : Cond.code yX11_happens cX11_happens 4 none ∈ am_ts := am_in7 160 rfl rfl
set_option maxRecDepth 20000 in
theorem ci_X11_actBegins : Cond.instanceMethod yX11_actBegins ∈ am_ts := am_in7 226 rfl rfl
set_option maxRecDepth 20000 in
theorem cv_X11_actBegins : Cond.selects (yX11_actBegins).cls yX11_actBegins yX11_actBegins ∈ am_ts := am_inS6 8 rfl
set_option maxRecDepth 20000 in
theorem cw_X11_actBegins : Cond.code yX11_actBegins cX11_actBegins 3 none ∈ am_ts := am_in7 227 rfl rfl
set_option maxRecDepth 20000 in
theorem ci_X11_asks : Cond.instanceMethod yX11_asks ∈ am_ts := am_in7 171 rfl rfl
set_option maxRecDepth 20000 in
theorem cv_X11_asks : Cond.selects (yX11_asks).cls yX11_asks yX11_asks ∈ am_ts := am_inS5 12 rfl
set_option maxRecDepth 20000 in
theorem cw_X11_asks : Cond.code yX11_asks cX11_asks 7 none ∈ am_ts := am_in7 172 rfl rfl
set_option maxRecDepth 20000 in
theorem ci_X11_birth : Cond.instanceMethod yX11_birth ∈ am_ts := am_in7 163 rfl rfl
set_option maxRecDepth 20000 in
theorem cv_X11_birth : Cond.selects (yX11_birth).cls yX11_birth yX11_birth ∈ am_ts := am_inS5 10 rfl
set_option maxRecDepth 20000 in
theorem cw_X11_birth : Cond.code yX11_birth cX11_birth 3 none ∈ am_ts := am_in7 164 rfl rfl
set_option maxRecDepth 20000 in
theorem ci_X11_wedding : Cond.instanceMethod yX11_wedding ∈ am_ts := am_in7 214 rfl rfl
set_option maxRecDepth 20000 in
theorem cv_X11_wedding : Cond.selects (yX11_wedding).cls yX11_wedding yX11_wedding ∈ am_ts := am_inS6 5 rfl
set_option maxRecDepth 20000 in
theorem cw_X11_wedding : Cond.code yX11_wedding cX11_wedding 6 none ∈ am_ts := am_in7 215 rfl rfl
set_option maxRecDepth 20000 in
theorem ci_X11_one : Cond.instanceMethod yX11_one ∈ am_ts := am_in7 167 rfl rfl
set_option maxRecDepth 20000 in
theorem cv_X11_one : Cond.selects (yX11_one).cls yX11_one yX11_one ∈ am_ts := am_inS5 11 rfl
set_option maxRecDepth 20000 in
theorem cw_X11_one : Cond.code yX11_one cX11_one 3 none ∈ am_ts := am_in7 168 rfl rfl
set_option maxRecDepth 20000 in
theorem ci_X11_border : Cond.instanceMethod yX11_border ∈ am_ts := am_in7 218 rfl rfl
set_option maxRecDepth 20000 in
theorem cv_X11_border : Cond.selects (yX11_border).cls yX11_border yX11_border ∈ am_ts := am_inS6 6 rfl
set_option maxRecDepth 20000 in
theorem cw_X11_border : Cond.code yX11_border cX11_border 3 none ∈ am_ts := am_in7 219 rfl rfl
set_option maxRecDepth 20000 in
theorem ci_X11_stays : Cond.instanceMethod yX11_stays ∈ am_ts := am_in7 222 rfl rfl
set_option maxRecDepth 20000 in
theorem cv_X11_stays : Cond.selects (yX11_stays).cls yX11_stays yX11_stays ∈ am_ts := am_inS6 7 rfl
set_option maxRecDepth 20000 in
theorem cw_X11_stays : Cond.code yX11_stays cX11_stays 3 none ∈ am_ts := am_in7 223 rfl rfl
set_option maxRecDepth 20000 in
theorem cs_X11_bit : Cond.static yX11_bit ∈ am_ts := am_in7 178 rfl rfl
set_option maxRecDepth 20000 in
theorem cw_X11_bit : Cond.code yX11_bit cX11_bit 1 (some .int) ∈ am_ts := am_in7 179 rfl rfl
set_option maxRecDepth 20000 in
theorem ci_X11_has : Cond.instanceMethod yX11_has ∈ am_ts := am_in7 182 rfl rfl
set_option maxRecDepth 20000 in
theorem cv_X11_has : Cond.selects (yX11_has).cls yX11_has yX11_has ∈ am_ts := am_inS5 14 rfl
set_option maxRecDepth 20000 in
theorem cw_X11_has : Cond.code yX11_has cX11_has 3 (some .boolean) ∈ am_ts := am_in7 183 rfl rfl
set_option maxRecDepth 20000 in
theorem ci_X11_sees : Cond.instanceMethod yX11_sees ∈ am_ts := am_in7 175 rfl rfl
set_option maxRecDepth 20000 in
theorem cv_X11_sees : Cond.selects (yX11_sees).cls yX11_sees yX11_sees ∈ am_ts := am_inS5 13 rfl
set_option maxRecDepth 20000 in
theorem cw_X11_sees : Cond.code yX11_sees cX11_sees 7 none ∈ am_ts := am_in7 176 rfl rfl
set_option maxRecDepth 20000 in
theorem ci_X11_first : Cond.instanceMethod yX11_first ∈ am_ts := am_in7 187 rfl rfl
set_option maxRecDepth 20000 in
theorem cv_X11_first : Cond.selects (yX11_first).cls yX11_first yX11_first ∈ am_ts := am_inS5 15 rfl
set_option maxRecDepth 20000 in
theorem cw_X11_first : Cond.code yX11_first cX11_first 5 (some .int) ∈ am_ts := am_in7 188 rfl rfl
set_option maxRecDepth 20000 in
theorem ci_X11_changes : Cond.instanceMethod yX11_changes ∈ am_ts := am_in7 198 rfl rfl
set_option maxRecDepth 20000 in
theorem cv_X11_changes : Cond.selects (yX11_changes).cls yX11_changes yX11_changes ∈ am_ts := am_inS6 1 rfl
set_option maxRecDepth 20000 in
theorem cw_X11_changes : Cond.code yX11_changes cX11_changes 7 none ∈ am_ts := am_in7 199 rfl rfl
set_option maxRecDepth 20000 in
theorem ci_X11_worth : Cond.instanceMethod yX11_worth ∈ am_ts := am_in7 191 rfl rfl
set_option maxRecDepth 20000 in
theorem cv_X11_worth : Cond.selects (yX11_worth).cls yX11_worth yX11_worth ∈ am_ts := am_inS6 0 rfl
set_option maxRecDepth 20000 in
theorem cw_X11_worth : Cond.code yX11_worth cX11_worth 5 (some .int) ∈ am_ts := am_in7 192 rfl rfl
set_option maxRecDepth 20000 in
theorem cs_X11_works : Cond.static yX11_works ∈ am_ts := am_in7 194 rfl rfl
set_option maxRecDepth 20000 in
theorem cw_X11_works : Cond.code yX11_works cX11_works 3 (some .int) ∈ am_ts := am_in7 195 rfl rfl
set_option maxRecDepth 20000 in
theorem ci_X11_leans : Cond.instanceMethod yX11_leans ∈ am_ts := am_in7 202 rfl rfl
set_option maxRecDepth 20000 in
theorem cv_X11_leans : Cond.selects (yX11_leans).cls yX11_leans yX11_leans ∈ am_ts := am_inS6 2 rfl
set_option maxRecDepth 20000 in
theorem cw_X11_leans : Cond.code yX11_leans cX11_leans 3 (some .int) ∈ am_ts := am_in7 203 rfl rfl
set_option maxRecDepth 20000 in
theorem ci_X11_gains : Cond.instanceMethod yX11_gains ∈ am_ts := am_in7 206 rfl rfl
set_option maxRecDepth 20000 in
theorem cv_X11_gains : Cond.selects (yX11_gains).cls yX11_gains yX11_gains ∈ am_ts := am_inS6 3 rfl
set_option maxRecDepth 20000 in
theorem cw_X11_gains : Cond.code yX11_gains cX11_gains 6 none ∈ am_ts := am_in7 207 rfl rfl
set_option maxRecDepth 20000 in
theorem ci_X11_loses : Cond.instanceMethod yX11_loses ∈ am_ts := am_in7 210 rfl rfl
set_option maxRecDepth 20000 in
theorem cv_X11_loses : Cond.selects (yX11_loses).cls yX11_loses yX11_loses ∈ am_ts := am_inS6 4 rfl
set_option maxRecDepth 20000 in
theorem cw_X11_loses : Cond.code yX11_loses cX11_loses 3 none ∈ am_ts := am_in7 211 rfl rfl
set_option maxRecDepth 20000 in
theorem ci_X11_findsDoubts : Cond.instanceMethod yX11_findsDoubts ∈ am_ts := am_in7 135 rfl rfl
set_option maxRecDepth 20000 in
theorem cv_X11_findsDoubts : Cond.selects (yX11_findsDoubts).cls yX11_findsDoubts yX11_findsDoubts ∈ am_ts := am_inS5 3 rfl
set_option maxRecDepth 20000 in
theorem cw_X11_findsDoubts : Cond.code yX11_findsDoubts cX11_findsDoubts 3 none ∈ am_ts := am_in7 136 rfl rfl
set_option maxRecDepth 20000 in
theorem ci_X11_runs : Cond.instanceMethod yX11_runs ∈ am_ts := am_in7 143 rfl rfl
set_option maxRecDepth 20000 in
theorem cv_X11_runs : Cond.selects (yX11_runs).cls yX11_runs yX11_runs ∈ am_ts := am_inS5 5 rfl
set_option maxRecDepth 20000 in
theorem cw_X11_runs : Cond.code yX11_runs cX11_runs 7 none ∈ am_ts := am_in7 144 rfl rfl
set_option maxRecDepth 20000 in
theorem ci_X11_isEvening : Cond.instanceMethod yX11_isEvening ∈ am_ts := am_in7 119 rfl rfl
set_option maxRecDepth 20000 in
theorem cv_X11_isEvening : Cond.selects (yX11_isEvening).cls yX11_isEvening yX11_isEvening ∈ am_ts := am_inS5 0 rfl
set_option maxRecDepth 20000 in
theorem cw_X11_isEvening : Cond.code yX11_isEvening cX11_isEvening 2 (some .boolean) ∈ am_ts := am_in7 120 rfl rfl
set_option maxRecDepth 20000 in
theorem ci_X11_isBond : Cond.instanceMethod yX11_isBond ∈ am_ts := am_in7 238 rfl rfl
set_option maxRecDepth 20000 in
theorem cv_X11_isBond : Cond.selects (yX11_isBond).cls yX11_isBond yX11_isBond ∈ am_ts := am_inS6 9 rfl
set_option maxRecDepth 20000 in
theorem cw_X11_isBond : Cond.code yX11_isBond cX11_isBond 5 (some .boolean) ∈ am_ts := am_in7 239 rfl rfl
set_option maxRecDepth 20000 in
theorem ci_X11_finds : Cond.instanceMethod yX11_finds ∈ am_ts := am_in8 2 rfl rfl
set_option maxRecDepth 20000 in
theorem cv_X11_finds : Cond.selects (yX11_finds).cls yX11_finds yX11_finds ∈ am_ts := am_inS6 10 rfl
set_option maxRecDepth 20000 in
theorem cw_X11_finds : Cond.code yX11_finds cX11_finds 5 none ∈ am_ts := am_in8 3 rfl rfl
set_option maxRecDepth 20000 in
theorem ci_X11_says0 : Cond.instanceMethod yX11_says0 ∈ am_ts := am_in8 6 rfl rfl
set_option maxRecDepth 20000 in
theorem cv_X11_says0 : Cond.selects (yX11_says0).cls yX11_says0 yX11_says0 ∈ am_ts := am_inS6 11 rfl
set_option maxRecDepth 20000 in
theorem cw_X11_says0 : Cond.code yX11_says0 cX11_says0 5 (some .int) ∈ am_ts := am_in8 7 rfl rfl
set_option maxRecDepth 20000 in
theorem cs_X11_many : Cond.static yX11_many ∈ am_ts := am_in8 17 rfl rfl
set_option maxRecDepth 20000 in
theorem cw_X11_many : Cond.code yX11_many cX11_many 3 (some .int) ∈ am_ts := am_in8 18 rfl rfl
set_option maxRecDepth 20000 in
theorem ci_X11_isSettled : Cond.instanceMethod yX11_isSettled ∈ am_ts := am_in8 21 rfl rfl
set_option maxRecDepth 20000 in
theorem cv_X11_isSettled : Cond.selects (yX11_isSettled).cls yX11_isSettled yX11_isSettled ∈ am_ts := am_inS6 12 rfl
set_option maxRecDepth 20000 in
theorem cw_X11_isSettled : Cond.code yX11_isSettled cX11_isSettled 8 (some .boolean) ∈ am_ts := am_in8 22 rfl rfl
set_option maxRecDepth 20000 in
theorem ci_X10_fact : Cond.instanceMethod yX10_fact ∈ am_ts := am_in3 42 rfl rfl
set_option maxRecDepth 20000 in
theorem cv_X10_fact : Cond.selects (yX10_fact).cls yX10_fact yX10_fact ∈ am_ts := am_in3 43 rfl rfl
set_option maxRecDepth 20000 in
theorem cw_X10_fact : Cond.code yX10_fact cX10_fact 9 (some .int) ∈ am_ts := am_in3 44 rfl rfl
set_option maxRecDepth 20000 in
theorem ci_X10_also : Cond.instanceMethod yX10_also ∈ am_ts := am_in3 118 rfl rfl
set_option maxRecDepth 20000 in
theorem cv_X10_also : Cond.selects (yX10_also).cls yX10_also yX10_also ∈ am_ts := am_in3 119 rfl rfl
set_option maxRecDepth 20000 in
theorem cw_X10_also : Cond.code yX10_also cX10_also 4 (some .int) ∈ am_ts := am_in3 120 rfl rfl
set_option maxRecDepth 20000 in
theorem ci_X10_back : Cond.instanceMethod yX10_back ∈ am_ts := am_in3 129 rfl rfl
set_option maxRecDepth 20000 in
theorem cv_X10_back : Cond.selects (yX10_back).cls yX10_back yX10_back ∈ am_ts := am_in3 130 rfl rfl
set_option maxRecDepth 20000 in
theorem cw_X10_back : Cond.code yX10_back cX10_back 4 (some .boolean) ∈ am_ts := am_in3 131 rfl rfl
set_option maxRecDepth 20000 in
theorem ci_X10_evenings : Cond.instanceMethod yX10_evenings ∈ am_ts := am_in3 137 rfl rfl
set_option maxRecDepth 20000 in
theorem cv_X10_evenings : Cond.selects (yX10_evenings).cls yX10_evenings yX10_evenings ∈ am_ts := am_in3 138 rfl rfl
set_option maxRecDepth 20000 in
theorem cw_X10_evenings : Cond.code yX10_evenings cX10_evenings 2 (some .int) ∈ am_ts := am_in3 139 rfl rfl
set_option maxRecDepth 20000 in
theorem ci_X10_act : Cond.instanceMethod yX10_act ∈ am_ts := am_in3 159 rfl rfl
set_option maxRecDepth 20000 in
theorem cv_X10_act : Cond.selects (yX10_act).cls yX10_act yX10_act ∈ am_ts := am_in3 160 rfl rfl
set_option maxRecDepth 20000 in
theorem cw_X10_act : Cond.code yX10_act cX10_act 7 (some .int) ∈ am_ts := am_in3 161 rfl rfl
set_option maxRecDepth 20000 in
theorem ci_X10_force : Cond.instanceMethod yX10_force ∈ am_ts := am_in4 118 rfl rfl
set_option maxRecDepth 20000 in
theorem cv_X10_force : Cond.selects (yX10_force).cls yX10_force yX10_force ∈ am_ts := am_in4 119 rfl rfl
set_option maxRecDepth 20000 in
theorem cw_X10_force : Cond.code yX10_force cX10_force 4 (some .boolean) ∈ am_ts := am_in4 120 rfl rfl
set_option maxRecDepth 20000 in
theorem ci_X10_landOf : Cond.instanceMethod yX10_landOf ∈ am_ts := am_in4 140 rfl rfl
set_option maxRecDepth 20000 in
theorem cv_X10_landOf : Cond.selects (yX10_landOf).cls yX10_landOf yX10_landOf ∈ am_ts := am_in4 141 rfl rfl
set_option maxRecDepth 20000 in
theorem cw_X10_landOf : Cond.code yX10_landOf cX10_landOf 8 (some .int) ∈ am_ts := am_in4 142 rfl rfl
set_option maxRecDepth 20000 in
theorem ci_X10_ways : Cond.instanceMethod yX10_ways ∈ am_ts := am_in4 151 rfl rfl
set_option maxRecDepth 20000 in
theorem cv_X10_ways : Cond.selects (yX10_ways).cls yX10_ways yX10_ways ∈ am_ts := am_in4 152 rfl rfl
set_option maxRecDepth 20000 in
theorem cw_X10_ways : Cond.code yX10_ways cX10_ways 3 (some .int) ∈ am_ts := am_in4 153 rfl rfl
set_option maxRecDepth 20000 in
theorem ci_X10_belongs : Cond.instanceMethod yX10_belongs ∈ am_ts := am_in4 163 rfl rfl
set_option maxRecDepth 20000 in
theorem cv_X10_belongs : Cond.selects (yX10_belongs).cls yX10_belongs yX10_belongs ∈ am_ts := am_in4 164 rfl rfl
set_option maxRecDepth 20000 in
theorem cw_X10_belongs : Cond.code yX10_belongs cX10_belongs 6 (some .int) ∈ am_ts := am_in4 165 rfl rfl
set_option maxRecDepth 20000 in
theorem ci_X10_says : Cond.instanceMethod yX10_says ∈ am_ts := am_in5 91 rfl rfl
set_option maxRecDepth 20000 in
theorem cv_X10_says : Cond.selects (yX10_says).cls yX10_says yX10_says ∈ am_ts := am_in5 92 rfl rfl
set_option maxRecDepth 20000 in
theorem cw_X10_says : Cond.code yX10_says cX10_says 5 (some .int) ∈ am_ts := am_in5 93 rfl rfl
set_option maxRecDepth 20000 in
theorem ci_X10_settles : Cond.instanceMethod yX10_settles ∈ am_ts := am_in5 98 rfl rfl
set_option maxRecDepth 20000 in
theorem cv_X10_settles : Cond.selects (yX10_settles).cls yX10_settles yX10_settles ∈ am_ts := am_in5 99 rfl rfl
set_option maxRecDepth 20000 in
theorem cw_X10_settles : Cond.code yX10_settles cX10_settles 9 (some .int) ∈ am_ts := am_in5 100 rfl rfl
set_option maxRecDepth 20000 in
theorem ci_X10_lands : Cond.instanceMethod yX10_lands ∈ am_ts := am_in5 115 rfl rfl
set_option maxRecDepth 20000 in
theorem cv_X10_lands : Cond.selects (yX10_lands).cls yX10_lands yX10_lands ∈ am_ts := am_in5 116 rfl rfl
set_option maxRecDepth 20000 in
theorem cw_X10_lands : Cond.code yX10_lands cX10_lands 5 (some .int) ∈ am_ts := am_in5 117 rfl rfl
set_option maxRecDepth 20000 in
theorem ci_X10_chain : Cond.instanceMethod yX10_chain ∈ am_ts := am_in5 122 rfl rfl
set_option maxRecDepth 20000 in
theorem cv_X10_chain : Cond.selects (yX10_chain).cls yX10_chain yX10_chain ∈ am_ts := am_in5 123 rfl rfl
set_option maxRecDepth 20000 in
theorem cw_X10_chain : Cond.code yX10_chain cX10_chain 10 (some .int) ∈ am_ts := am_in5 124 rfl rfl
set_option maxRecDepth 20000 in
theorem ci_X10_times : Cond.instanceMethod yX10_times ∈ am_ts := am_in5 137 rfl rfl
set_option maxRecDepth 20000 in
theorem cv_X10_times : Cond.selects (yX10_times).cls yX10_times yX10_times ∈ am_ts := am_in5 138 rfl rfl
set_option maxRecDepth 20000 in
theorem cw_X10_times : Cond.code yX10_times cX10_times 7 (some .int) ∈ am_ts := am_in5 139 rfl rfl
set_option maxRecDepth 20000 in
theorem ci_X10_ifStruck : Cond.instanceMethod yX10_ifStruck ∈ am_ts := am_in5 144 rfl rfl
set_option maxRecDepth 20000 in
theorem cv_X10_ifStruck : Cond.selects (yX10_ifStruck).cls yX10_ifStruck yX10_ifStruck ∈ am_ts := am_in5 145 rfl rfl
set_option maxRecDepth 20000 in
theorem cw_X10_ifStruck : Cond.code yX10_ifStruck cX10_ifStruck 7 (some .int) ∈ am_ts := am_in5 146 rfl rfl
set_option maxRecDepth 20000 in
theorem ci_X10_count : Cond.instanceMethod yX10_count ∈ am_ts := am_in5 156 rfl rfl
set_option maxRecDepth 20000 in
theorem cv_X10_count : Cond.selects (yX10_count).cls yX10_count yX10_count ∈ am_ts := am_in5 157 rfl rfl
set_option maxRecDepth 20000 in
theorem cw_X10_count : Cond.code yX10_count cX10_count 2 (some .int) ∈ am_ts := am_in5 158 rfl rfl
set_option maxRecDepth 20000 in
theorem ci_X10_init : Cond.instanceMethod yX10_init ∈ am_ts := am_in1 30 rfl rfl
set_option maxRecDepth 20000 in
theorem cw_X10_init : Cond.code yX10_init cX10_init 1 none ∈ am_ts := am_in1 31 rfl rfl
set_option maxRecDepth 20000 in
theorem ci_X11_init : Cond.instanceMethod yX11_init ∈ am_ts := am_in5 218 rfl rfl
set_option maxRecDepth 20000 in
theorem cw_X11_init : Cond.code yX11_init cX11_init 1 none ∈ am_ts := am_in5 219 rfl rfl
set_option maxRecDepth 20000 in
theorem ci_X10_land : Cond.instanceMethod yX10_land ∈ am_ts := am_in3 5 rfl rfl
set_option maxRecDepth 20000 in
theorem cv_X10_land : Cond.selects (yX10_land).cls yX10_land yX10_land ∈ am_ts := am_in3 6 rfl rfl
set_option maxRecDepth 20000 in
theorem cw_X10_land : Cond.code yX10_land cX10_land 1 (some .int) ∈ am_ts := am_in3 7 rfl rfl
set_option maxRecDepth 20000 in
theorem ci_X11_land : Cond.instanceMethod yX11_land ∈ am_ts := am_in5 164 rfl rfl
set_option maxRecDepth 20000 in
theorem cv_X11_land : Cond.selects (yX11_land).cls yX11_land yX11_land ∈ am_ts := am_in5 165 rfl rfl
set_option maxRecDepth 20000 in
theorem cw_X11_land : Cond.code yX11_land cX11_land 1 (some .int) ∈ am_ts := am_in5 166 rfl rfl
set_option maxRecDepth 20000 in
theorem ci_X10_place : Cond.instanceMethod yX10_place ∈ am_ts := am_in3 14 rfl rfl
set_option maxRecDepth 20000 in
theorem cv_X10_place : Cond.selects (yX10_place).cls yX10_place yX10_place ∈ am_ts := am_in3 15 rfl rfl
set_option maxRecDepth 20000 in
theorem cw_X10_place : Cond.code yX10_place cX10_place 2 (some .int) ∈ am_ts := am_in3 16 rfl rfl
set_option maxRecDepth 20000 in
theorem ci_X11_place : Cond.instanceMethod yX11_place ∈ am_ts := am_in5 168 rfl rfl
set_option maxRecDepth 20000 in
theorem cv_X11_place : Cond.selects (yX11_place).cls yX11_place yX11_place ∈ am_ts := am_in5 169 rfl rfl
set_option maxRecDepth 20000 in
theorem cw_X11_place : Cond.code yX11_place cX11_place 2 (some .int) ∈ am_ts := am_in5 170 rfl rfl
set_option maxRecDepth 20000 in
theorem ci_X10_person : Cond.instanceMethod yX10_person ∈ am_ts := am_in3 18 rfl rfl
set_option maxRecDepth 20000 in
theorem cv_X10_person : Cond.selects (yX10_person).cls yX10_person yX10_person ∈ am_ts := am_in3 19 rfl rfl
set_option maxRecDepth 20000 in
theorem cw_X10_person : Cond.code yX10_person cX10_person 5 (some .int) ∈ am_ts := am_in3 20 rfl rfl
set_option maxRecDepth 20000 in
theorem ci_X11_person : Cond.instanceMethod yX11_person ∈ am_ts := am_in5 172 rfl rfl
set_option maxRecDepth 20000 in
theorem cv_X11_person : Cond.selects (yX11_person).cls yX11_person yX11_person ∈ am_ts := am_in5 173 rfl rfl
set_option maxRecDepth 20000 in
theorem cw_X11_person : Cond.code yX11_person cX11_person 4 (some .int) ∈ am_ts := am_in5 174 rfl rfl
set_option maxRecDepth 20000 in
theorem cs_L_fact : Cond.static yL_fact ∈ am_ts := am_in3 38 rfl rfl
set_option maxRecDepth 20000 in
theorem cw_L_fact : Cond.codeWith yL_fact cL_fact 8 (some .int) [(0, 16, 19, 13)] ∈ am_ts := am_in3 39 rfl rfl
set_option maxRecDepth 20000 in
theorem ci_X11_fact : Cond.instanceMethod yX11_fact ∈ am_ts := am_in5 176 rfl rfl
set_option maxRecDepth 20000 in
theorem cv_X11_fact : Cond.selects (yX11_fact).cls yX11_fact yX11_fact ∈ am_ts := am_in5 177 rfl rfl
set_option maxRecDepth 20000 in
theorem cw_X11_fact : Cond.code yX11_fact cX11_fact 6 (some .int) ∈ am_ts := am_in5 178 rfl rfl
set_option maxRecDepth 20000 in
theorem ci_X11_thrown : Cond.instanceMethod yX11_thrown ∈ am_ts := am_in5 160 rfl rfl
set_option maxRecDepth 20000 in
theorem cv_X11_thrown : Cond.selects (yX11_thrown).cls yX11_thrown yX11_thrown ∈ am_ts := am_in5 161 rfl rfl
set_option maxRecDepth 20000 in
theorem cw_X11_thrown : Cond.code yX11_thrown cX11_thrown 1 (some .int) ∈ am_ts := am_in5 162 rfl rfl
set_option maxRecDepth 20000 in
theorem cs_L_also : Cond.static yL_also ∈ am_ts := am_in3 115 rfl rfl
set_option maxRecDepth 20000 in
theorem cw_L_also : Cond.codeWith yL_also cL_also 5 (some .int) [(0, 10, 13, 13)] ∈ am_ts := am_in3 116 rfl rfl
set_option maxRecDepth 20000 in
theorem ci_X11_also : Cond.instanceMethod yX11_also ∈ am_ts := am_in5 197 rfl rfl
set_option maxRecDepth 20000 in
theorem cv_X11_also : Cond.selects (yX11_also).cls yX11_also yX11_also ∈ am_ts := am_in5 198 rfl rfl
set_option maxRecDepth 20000 in
theorem cw_X11_also : Cond.code yX11_also cX11_also 5 (some .int) ∈ am_ts := am_in5 199 rfl rfl
set_option maxRecDepth 20000 in
theorem cs_L_back : Cond.static yL_back ∈ am_ts := am_in3 126 rfl rfl
set_option maxRecDepth 20000 in
theorem cw_L_back : Cond.codeWith yL_back cL_back 5 (some .int) [(0, 17, 20, 13)] ∈ am_ts := am_in3 127 rfl rfl
set_option maxRecDepth 20000 in
theorem ci_X11_back : Cond.instanceMethod yX11_back ∈ am_ts := am_in5 201 rfl rfl
set_option maxRecDepth 20000 in
theorem cv_X11_back : Cond.selects (yX11_back).cls yX11_back yX11_back ∈ am_ts := am_in5 202 rfl rfl
set_option maxRecDepth 20000 in
theorem cw_X11_back : Cond.code yX11_back cX11_back 3 (some .boolean) ∈ am_ts := am_in5 203 rfl rfl
set_option maxRecDepth 20000 in
theorem cs_L_evenings : Cond.static yL_evenings ∈ am_ts := am_in3 133 rfl rfl
set_option maxRecDepth 20000 in
theorem cw_L_evenings : Cond.codeWith yL_evenings cL_evenings 4 (some .int) [(0, 9, 12, 27)] ∈ am_ts := am_in3 134 rfl rfl
set_option maxRecDepth 20000 in
theorem ci_X11_evenings : Cond.instanceMethod yX11_evenings ∈ am_ts := am_in5 205 rfl rfl
set_option maxRecDepth 20000 in
theorem cv_X11_evenings : Cond.selects (yX11_evenings).cls yX11_evenings yX11_evenings ∈ am_ts := am_in5 206 rfl rfl
set_option maxRecDepth 20000 in
theorem cw_X11_evenings : Cond.code yX11_evenings cX11_evenings 2 (some .int) ∈ am_ts := am_in5 207 rfl rfl
set_option maxRecDepth 20000 in
theorem ci_X10_feed : Cond.instanceMethod yX10_feed ∈ am_ts := am_in3 26 rfl rfl
set_option maxRecDepth 20000 in
theorem cv_X10_feed : Cond.selects (yX10_feed).cls yX10_feed yX10_feed ∈ am_ts := am_in3 27 rfl rfl
set_option maxRecDepth 20000 in
theorem cw_X10_feed : Cond.code yX10_feed cX10_feed 6 (some .int) ∈ am_ts := am_in3 28 rfl rfl
set_option maxRecDepth 20000 in
theorem ci_X11_feed : Cond.instanceMethod yX11_feed ∈ am_ts := am_in5 209 rfl rfl
set_option maxRecDepth 20000 in
theorem cv_X11_feed : Cond.selects (yX11_feed).cls yX11_feed yX11_feed ∈ am_ts := am_in5 210 rfl rfl
set_option maxRecDepth 20000 in
theorem cw_X11_feed : Cond.code yX11_feed cX11_feed 6 (some .int) ∈ am_ts := am_in5 211 rfl rfl
set_option maxRecDepth 20000 in
theorem cs_L_act : Cond.static yL_act ∈ am_ts := am_in3 156 rfl rfl
set_option maxRecDepth 20000 in
theorem cw_L_act : Cond.codeWith yL_act cL_act 7 (some .int) [(0, 14, 17, 13), (0, 14, 21, 27)] ∈ am_ts := am_in3 157 rfl rfl
set_option maxRecDepth 20000 in
theorem ci_X11_act : Cond.instanceMethod yX11_act ∈ am_ts := am_in7 29 rfl rfl
set_option maxRecDepth 20000 in
theorem cv_X11_act : Cond.selects (yX11_act).cls yX11_act yX11_act ∈ am_ts := am_in7 30 rfl rfl
set_option maxRecDepth 20000 in
theorem cw_X11_act : Cond.code yX11_act cX11_act 6 (some .int) ∈ am_ts := am_in7 31 rfl rfl
set_option maxRecDepth 20000 in
theorem ci_X10_fault : Cond.instanceMethod yX10_fault ∈ am_ts := am_in3 34 rfl rfl
set_option maxRecDepth 20000 in
theorem cv_X10_fault : Cond.selects (yX10_fault).cls yX10_fault yX10_fault ∈ am_ts := am_in3 35 rfl rfl
set_option maxRecDepth 20000 in
theorem cw_X10_fault : Cond.code yX10_fault cX10_fault 1 (some .int) ∈ am_ts := am_in3 36 rfl rfl
set_option maxRecDepth 20000 in
theorem ci_X11_fault : Cond.instanceMethod yX11_fault ∈ am_ts := am_in7 110 rfl rfl
set_option maxRecDepth 20000 in
theorem cv_X11_fault : Cond.selects (yX11_fault).cls yX11_fault yX11_fault ∈ am_ts := am_in7 111 rfl rfl
set_option maxRecDepth 20000 in
theorem cw_X11_fault : Cond.code yX11_fault cX11_fault 1 (some .int) ∈ am_ts := am_in7 112 rfl rfl
set_option maxRecDepth 20000 in
theorem cs_L_force : Cond.static yL_force ∈ am_ts := am_in4 115 rfl rfl
set_option maxRecDepth 20000 in
theorem cw_L_force : Cond.codeWith yL_force cL_force 6 (some .int) [(0, 19, 22, 13), (0, 19, 26, 27)] ∈ am_ts := am_in4 116 rfl rfl
set_option maxRecDepth 20000 in
theorem ci_X11_force : Cond.instanceMethod yX11_force ∈ am_ts := am_in7 114 rfl rfl
set_option maxRecDepth 20000 in
theorem cv_X11_force : Cond.selects (yX11_force).cls yX11_force yX11_force ∈ am_ts := am_in7 115 rfl rfl
set_option maxRecDepth 20000 in
theorem cw_X11_force : Cond.code yX11_force cX11_force 4 (some .boolean) ∈ am_ts := am_in7 116 rfl rfl
set_option maxRecDepth 20000 in
theorem cs_L_landOf : Cond.static yL_landOf ∈ am_ts := am_in4 137 rfl rfl
set_option maxRecDepth 20000 in
theorem cw_L_landOf : Cond.codeWith yL_landOf cL_landOf 6 (some .int) [(0, 12, 15, 13), (0, 12, 19, 27)] ∈ am_ts := am_in4 138 rfl rfl
set_option maxRecDepth 20000 in
theorem ci_X11_landOf : Cond.instanceMethod yX11_landOf ∈ am_ts := am_in7 130 rfl rfl
set_option maxRecDepth 20000 in
theorem cv_X11_landOf : Cond.selects (yX11_landOf).cls yX11_landOf yX11_landOf ∈ am_ts := am_in7 131 rfl rfl
set_option maxRecDepth 20000 in
theorem cw_X11_landOf : Cond.code yX11_landOf cX11_landOf 4 (some .int) ∈ am_ts := am_in7 132 rfl rfl
set_option maxRecDepth 20000 in
theorem cs_L_ways : Cond.static yL_ways ∈ am_ts := am_in4 148 rfl rfl
set_option maxRecDepth 20000 in
theorem cw_L_ways : Cond.codeWith yL_ways cL_ways 5 (some .int) [(0, 10, 13, 13), (0, 10, 17, 27)] ∈ am_ts := am_in4 149 rfl rfl
set_option maxRecDepth 20000 in
theorem ci_X11_ways : Cond.instanceMethod yX11_ways ∈ am_ts := am_in7 229 rfl rfl
set_option maxRecDepth 20000 in
theorem cv_X11_ways : Cond.selects (yX11_ways).cls yX11_ways yX11_ways ∈ am_ts := am_in7 230 rfl rfl
set_option maxRecDepth 20000 in
theorem cw_X11_ways : Cond.code yX11_ways cX11_ways 3 (some .int) ∈ am_ts := am_in7 231 rfl rfl
set_option maxRecDepth 20000 in
theorem cs_L_belongs : Cond.static yL_belongs ∈ am_ts := am_in4 160 rfl rfl
set_option maxRecDepth 20000 in
theorem cw_L_belongs : Cond.codeWith yL_belongs cL_belongs 7 (some .int) [(0, 14, 17, 13), (0, 14, 21, 27)] ∈ am_ts := am_in4 161 rfl rfl
set_option maxRecDepth 20000 in
theorem ci_X11_belongs : Cond.instanceMethod yX11_belongs ∈ am_ts := am_in7 233 rfl rfl
set_option maxRecDepth 20000 in
theorem cv_X11_belongs : Cond.selects (yX11_belongs).cls yX11_belongs yX11_belongs ∈ am_ts := am_in7 234 rfl rfl
set_option maxRecDepth 20000 in
theorem cw_X11_belongs : Cond.code yX11_belongs cX11_belongs 6 (some .int) ∈ am_ts := am_in7 235 rfl rfl
set_option maxRecDepth 20000 in
theorem cs_L_says : Cond.static yL_says ∈ am_ts := am_in5 88 rfl rfl
set_option maxRecDepth 20000 in
theorem cw_L_says : Cond.codeWith yL_says cL_says 7 (some .int) [(0, 14, 17, 13), (0, 14, 21, 27)] ∈ am_ts := am_in5 89 rfl rfl
set_option maxRecDepth 20000 in
theorem ci_X11_says : Cond.instanceMethod yX11_says ∈ am_ts := am_in8 9 rfl rfl
set_option maxRecDepth 20000 in
theorem cv_X11_says : Cond.selects (yX11_says).cls yX11_says yX11_says ∈ am_ts := am_in8 10 rfl rfl
set_option maxRecDepth 20000 in
theorem cw_X11_says : Cond.code yX11_says cX11_says 5 (some .int) ∈ am_ts := am_in8 11 rfl rfl
set_option maxRecDepth 20000 in
theorem cs_L_settles : Cond.static yL_settles ∈ am_ts := am_in5 95 rfl rfl
set_option maxRecDepth 20000 in
theorem cw_L_settles : Cond.codeWith yL_settles cL_settles 7 (some .int) [(0, 14, 17, 13), (0, 14, 21, 27)] ∈ am_ts := am_in5 96 rfl rfl
set_option maxRecDepth 20000 in
theorem ci_X11_settles : Cond.instanceMethod yX11_settles ∈ am_ts := am_in8 13 rfl rfl
set_option maxRecDepth 20000 in
theorem cv_X11_settles : Cond.selects (yX11_settles).cls yX11_settles yX11_settles ∈ am_ts := am_in8 14 rfl rfl
set_option maxRecDepth 20000 in
theorem cw_X11_settles : Cond.code yX11_settles cX11_settles 9 (some .int) ∈ am_ts := am_in8 15 rfl rfl
set_option maxRecDepth 20000 in
theorem cs_L_lands : Cond.static yL_lands ∈ am_ts := am_in5 112 rfl rfl
set_option maxRecDepth 20000 in
theorem cw_L_lands : Cond.codeWith yL_lands cL_lands 7 (some .int) [(0, 14, 17, 13), (0, 14, 21, 27)] ∈ am_ts := am_in5 113 rfl rfl
set_option maxRecDepth 20000 in
theorem ci_X11_lands : Cond.instanceMethod yX11_lands ∈ am_ts := am_in8 24 rfl rfl
set_option maxRecDepth 20000 in
theorem cv_X11_lands : Cond.selects (yX11_lands).cls yX11_lands yX11_lands ∈ am_ts := am_in8 25 rfl rfl
set_option maxRecDepth 20000 in
theorem cw_X11_lands : Cond.code yX11_lands cX11_lands 5 (some .int) ∈ am_ts := am_in8 26 rfl rfl
set_option maxRecDepth 20000 in
theorem cs_L_chain : Cond.static yL_chain ∈ am_ts := am_in5 119 rfl rfl
set_option maxRecDepth 20000 in
theorem cw_L_chain : Cond.codeWith yL_chain cL_chain 9 (some .int) [(0, 18, 21, 13), (0, 18, 25, 27)] ∈ am_ts := am_in5 120 rfl rfl
set_option maxRecDepth 20000 in
theorem ci_X11_chain : Cond.instanceMethod yX11_chain ∈ am_ts := am_in8 28 rfl rfl
set_option maxRecDepth 20000 in
theorem cv_X11_chain : Cond.selects (yX11_chain).cls yX11_chain yX11_chain ∈ am_ts := am_in8 29 rfl rfl
set_option maxRecDepth 20000 in
theorem cw_X11_chain : Cond.code yX11_chain cX11_chain 10 (some .int) ∈ am_ts := am_in8 30 rfl rfl
set_option maxRecDepth 20000 in
theorem cs_L_times : Cond.static yL_times ∈ am_ts := am_in5 134 rfl rfl
set_option maxRecDepth 20000 in
theorem cw_L_times : Cond.codeWith yL_times cL_times 8 (some .int) [(0, 16, 19, 13), (0, 16, 23, 27)] ∈ am_ts := am_in5 135 rfl rfl
set_option maxRecDepth 20000 in
theorem ci_X11_times : Cond.instanceMethod yX11_times ∈ am_ts := am_in8 32 rfl rfl
set_option maxRecDepth 20000 in
theorem cv_X11_times : Cond.selects (yX11_times).cls yX11_times yX11_times ∈ am_ts := am_in8 33 rfl rfl
set_option maxRecDepth 20000 in
theorem cw_X11_times : Cond.code yX11_times cX11_times 6 (some .int) ∈ am_ts := am_in8 34 rfl rfl
set_option maxRecDepth 20000 in
theorem cs_L_ifStruck : Cond.static yL_ifStruck ∈ am_ts := am_in5 141 rfl rfl
set_option maxRecDepth 20000 in
theorem cw_L_ifStruck : Cond.codeWith yL_ifStruck cL_ifStruck 7 (some .int) [(0, 14, 17, 13), (0, 14, 21, 27)] ∈ am_ts := am_in5 142 rfl rfl
set_option maxRecDepth 20000 in
theorem ci_X11_ifStruck : Cond.instanceMethod yX11_ifStruck ∈ am_ts := am_in8 36 rfl rfl
set_option maxRecDepth 20000 in
theorem cv_X11_ifStruck : Cond.selects (yX11_ifStruck).cls yX11_ifStruck yX11_ifStruck ∈ am_ts := am_in8 37 rfl rfl
set_option maxRecDepth 20000 in
theorem cw_X11_ifStruck : Cond.code yX11_ifStruck cX11_ifStruck 9 (some .int) ∈ am_ts := am_in8 38 rfl rfl
set_option maxRecDepth 20000 in
theorem cs_L_count : Cond.static yL_count ∈ am_ts := am_in5 153 rfl rfl
set_option maxRecDepth 20000 in
theorem cw_L_count : Cond.codeWith yL_count cL_count 4 (some .int) [(0, 9, 12, 13)] ∈ am_ts := am_in5 154 rfl rfl
set_option maxRecDepth 20000 in
theorem ci_X11_count : Cond.instanceMethod yX11_count ∈ am_ts := am_in8 40 rfl rfl
set_option maxRecDepth 20000 in
theorem cv_X11_count : Cond.selects (yX11_count).cls yX11_count yX11_count ∈ am_ts := am_in8 41 rfl rfl
set_option maxRecDepth 20000 in
theorem cw_X11_count : Cond.code yX11_count cX11_count 2 (some .int) ∈ am_ts := am_in8 42 rfl rfl
set_option maxRecDepth 20000 in
theorem ci_J0_coder_7d493 : Cond.instanceMethod yJ0_coder_7d493 ∈ am_ts := am_in3 186 rfl rfl
set_option maxRecDepth 20000 in
theorem cv_J0_coder_7d493 : Cond.selects (yJ0_coder_7d493).cls yJ0_coder_7d493 yJ0_coder_7d493 ∈ am_ts := am_in3 187 rfl rfl
set_option maxRecDepth 20000 in
theorem cw_J0_coder_7d493 : Cond.code yJ0_coder_7d493 cJ0_coder_7d493 1 (some .byte) ∈ am_ts := am_in3 188 rfl rfl
set_option maxRecDepth 20000 in
theorem ci_J0_isLatin1_aae02 : Cond.instanceMethod yJ0_isLatin1_aae02 ∈ am_ts := am_in3 196 rfl rfl
set_option maxRecDepth 20000 in
theorem cv_J0_isLatin1_aae02 : Cond.selects (yJ0_isLatin1_aae02).cls yJ0_isLatin1_aae02 yJ0_isLatin1_aae02 ∈ am_ts := am_in3 197 rfl rfl
set_option maxRecDepth 20000 in
theorem cw_J0_isLatin1_aae02 : Cond.code yJ0_isLatin1_aae02 cJ0_isLatin1_aae02 1 (some .boolean) ∈ am_ts := am_in3 198 rfl rfl
set_option maxRecDepth 20000 in
theorem cs_J1_charAt_3b067 : Cond.static yJ1_charAt_3b067 ∈ am_ts := am_in3 200 rfl rfl
set_option maxRecDepth 20000 in
theorem cw_J1_charAt_3b067 : Cond.code yJ1_charAt_3b067 cJ1_charAt_3b067 2 (some .char) ∈ am_ts := am_in3 201 rfl rfl
set_option maxRecDepth 20000 in
theorem cs_J0_checkIndex_df160 : Cond.static yJ0_checkIndex_df160 ∈ am_ts := am_in3 203 rfl rfl
set_option maxRecDepth 20000 in
theorem cw_J0_checkIndex_df160 : Cond.code yJ0_checkIndex_df160 cJ0_checkIndex_df160 2 none ∈ am_ts := am_in3 204 rfl rfl
set_option maxRecDepth 20000 in
theorem cs_J3_checkIndex_8e157 : Cond.static yJ3_checkIndex_8e157 ∈ am_ts := am_in3 208 rfl rfl
set_option maxRecDepth 20000 in
theorem cw_J3_checkIndex_8e157 : Cond.code yJ3_checkIndex_8e157 cJ3_checkIndex_8e157 3 (some .int) ∈ am_ts := am_in3 209 rfl rfl
set_option maxRecDepth 20000 in
theorem ci_J0_indexOf_7cf53 : Cond.instanceMethod yJ0_indexOf_7cf53 ∈ am_ts := am_in4 2 rfl rfl
set_option maxRecDepth 20000 in
theorem cv_J0_indexOf_7cf53 : Cond.selects (yJ0_indexOf_7cf53).cls yJ0_indexOf_7cf53 yJ0_indexOf_7cf53 ∈ am_ts := am_in4 3 rfl rfl
set_option maxRecDepth 20000 in
theorem cw_J0_indexOf_7cf53 : Cond.code yJ0_indexOf_7cf53 cJ0_indexOf_7cf53 3 (some .int) ∈ am_ts := am_in4 4 rfl rfl
set_option maxRecDepth 20000 in
theorem cs_J1_indexOf_4cfef : Cond.static yJ1_indexOf_4cfef ∈ am_ts := am_in4 7 rfl rfl
set_option maxRecDepth 20000 in
theorem cw_J1_indexOf_4cfef : Cond.code yJ1_indexOf_4cfef cJ1_indexOf_4cfef 4 (some .int) ∈ am_ts := am_in4 8 rfl rfl
set_option maxRecDepth 20000 in
theorem cs_J1_canEncode_9a6ad : Cond.static yJ1_canEncode_9a6ad ∈ am_ts := am_in4 10 rfl rfl
set_option maxRecDepth 20000 in
theorem cw_J1_canEncode_9a6ad : Cond.code yJ1_canEncode_9a6ad cJ1_canEncode_9a6ad 1 (some .boolean) ∈ am_ts := am_in4 11 rfl rfl
set_option maxRecDepth 20000 in
theorem cs_J1_indexOfChar_4cfef : Cond.static yJ1_indexOfChar_4cfef ∈ am_ts := am_in4 17 rfl rfl
set_option maxRecDepth 20000 in
theorem cw_J1_indexOfChar_4cfef : Cond.code yJ1_indexOfChar_4cfef cJ1_indexOfChar_4cfef 6 (some .int) ∈ am_ts := am_in4 18 rfl rfl
set_option maxRecDepth 20000 in
theorem ci9_RX1 : Cond.initialized RX1 ∈ am_ts := am_in1 9 rfl rfl
set_option maxRecDepth 20000 in
theorem ci9_RX3 : Cond.initialized RX3 ∈ am_ts := am_in1 4 rfl rfl
set_option maxRecDepth 20000 in
theorem ci9_RX2 : Cond.initialized RX2 ∈ am_ts := am_in1 7 rfl rfl
set_option maxRecDepth 20000 in
theorem ci9_RJ7 : Cond.initialized RJ7 ∈ am_ts := am_in1 24 rfl rfl
set_option maxRecDepth 20000 in
theorem ci9_RX6 : Cond.initialized RX6 ∈ am_ts := am_in1 6 rfl rfl
set_option maxRecDepth 20000 in
theorem ci9_RJ0 : Cond.initialized RJ0 ∈ am_ts := am_in1 19 rfl rfl
set_option maxRecDepth 20000 in
theorem ci9_RX4 : Cond.initialized RX4 ∈ am_ts := am_in1 10 rfl rfl
set_option maxRecDepth 20000 in
theorem ci9_RX5 : Cond.initialized RX5 ∈ am_ts := am_in1 11 rfl rfl
set_option maxRecDepth 20000 in
theorem ci9_RX0 : Cond.initialized RX0 ∈ am_ts := am_in1 5 rfl rfl
set_option maxRecDepth 20000 in
theorem ci9_RX9 : Cond.initialized RX9 ∈ am_ts := am_in1 8 rfl rfl
set_option maxRecDepth 20000 in
theorem ci9_RJ6 : Cond.initialized RJ6 ∈ am_ts := am_in1 26 rfl rfl
set_option maxRecDepth 20000 in
theorem ci9_RX7 : Cond.initialized RX7 ∈ am_ts := am_in1 3 rfl rfl
set_option maxRecDepth 20000 in
theorem ci9_RX8 : Cond.initialized RX8 ∈ am_ts := am_in1 2 rfl rfl
set_option maxRecDepth 20000 in
theorem ci9_RX10 : Cond.initialized RX10 ∈ am_ts := am_in1 1 rfl rfl
set_option maxRecDepth 20000 in
theorem ci9_RX11 : Cond.initialized RX11 ∈ am_ts := am_in1 12 rfl rfl
set_option maxRecDepth 20000 in
theorem ci9_RL : Cond.initialized RL ∈ am_ts := am_in1 0 rfl rfl
set_option maxRecDepth 20000 in
theorem ci9_RJ1 : Cond.initialized RJ1 ∈ am_ts := am_in1 20 rfl rfl
set_option maxRecDepth 20000 in
theorem ci9_RJ3 : Cond.initialized RJ3 ∈ am_ts := am_in1 21 rfl rfl

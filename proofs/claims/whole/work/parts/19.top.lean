/-! ===== the law: its start and its end ===== -/
def R_law : String := "LandBondsLaw"
def lw_P (b : Addr) (xs : List Int32) (args : Array Value) (s : State) : Prop := args = #[.ref b] ∧ s.IntsAt b xs ∧ xs.length ≤ 3584 ∧ (Jvm.Cond.and given_1 narrow_1).before args s = true
def lw_Q (_ : Array Value) (s : State) (o : Outcome) (t : State) : Prop := o = .returned (some (.int 1)) ∧ Framed s o t [] 601024 7293034
def lw_Z (below : List Frame) (a : Array Value) (s : State) : State → Prop := fun t => ∃ o, t.status = .running ∧ Ended t below o ∧ lw_Q a s o t
def lw_At (p : Program) (s : State) (m : MethodId) (meth : Method) (c : Code) (b L : Nat) (xs : Nat → Int32) : Prop :=
  p.tables.exec = Jvm.exec ∧ c.code = code ∧ meth.sig.returnType = ret ∧ c.maxLocals = 7 ∧ s.vm.findClass R_law = some m.cls ∧ (∀ w ∈ lw_tbl, w.before #[Value.ref b] s = true) ∧ va_X b L xs s s.heap ∧ b < s.heap.size ∧ meth.locks = false ∧ (Jvm.Cond.and given_1 narrow_1).before #[Value.ref b] s = true ∧ meth.name = "law" ∧ c.exceptionTable.toList = []
theorem q_flat {args : Array Value} {s : State} (h : (Jvm.Cond.and given_1 narrow_1).before args s = true) (i : Nat) {w : Cond} (hw : (flatC (Jvm.Cond.and given_1 narrow_1))[i]? = some w) : w.before args s = true := flat_of_before _ h _ (List.mem_of_getElem? hw)
theorem vk_S_congr {N : Nat} {len : List Nat} {byt : List (List Int32)} {adK adV adK' adV' : Nat → Nat} {A : Nat → Prop} {U : State} {H : Heap} (h : vk_S N len byt adK adV A U H) (hk : ∀ i, i < N → adK' i = adK i) (hv : ∀ i, i < N → adV' i = adV i) : vk_S N len byt adK' adV' A U H :=
  ⟨fun i hi => by rw [hk i hi, hv i hi]; exact h.1 i hi, fun i j hi hj e => h.2 i j hi hj (by rw [← hk i hi, ← hk j hj]; exact e)⟩
def q_tm (i : Nat) : Term := .string "LandBonds$Parser" (if i = 0 then 168 else 160)
def q_tv (i : Nat) : Term := .field (q_tm i) "java/lang/String" "value" "[B"
theorem q_f1 : ∀ j, j < 8 → (flatC (Jvm.Cond.and given_1 narrow_1))[14 + j]? = some (Cond.eq (.elem (.static "LandBonds" "SETS" "[I") (.int (Int32.ofNat j))) (.int (q_sets j))) := by decide +kernel
theorem q_f2 : ∀ i, i < 2 → (flatC (Jvm.Cond.and given_1 narrow_1))[48 + 158 * i]? = some (Cond.exactly (q_tm i) "java/lang/String") := by decide +kernel
theorem q_f3 : ∀ i, i < 2 → (flatC (Jvm.Cond.and given_1 narrow_1))[49 + 158 * i]? = some (Cond.eq (.field (q_tm i) "java/lang/String" "coder" "B") (.int 0)) := by decide +kernel
theorem q_f4 : ∀ i, i < 2 → (flatC (Jvm.Cond.and given_1 narrow_1))[50 + 158 * i]? = some (Cond.arrayOf (q_tv i) .byte) := by decide +kernel
theorem q_f5 : ∀ i, i < 2 → (flatC (Jvm.Cond.and given_1 narrow_1))[51 + 158 * i]? = some (Cond.eq (.length (q_tv i)) (.int (Int32.ofNat (q_len.getD i 0)))) := by decide +kernel
theorem q_f6 : ∀ i, i < 2 → ∀ j, j < q_len.getD i 0 → (flatC (Jvm.Cond.and given_1 narrow_1))[52 + 158 * i + j]? = some (Cond.eq (.elem (q_tv i) (.int (Int32.ofNat j))) (.int ((q_byt.getD i []).getD j 0))) := by decide +kernel
theorem q_f7 : (flatC (Jvm.Cond.and given_1 narrow_1))[219]? = some (Cond.not (Cond.eq (q_tm 0) (q_tm 1))) := by decide +kernel
theorem q_start {s : State} {b L : Nat} {xs : Nat → Int32} (hL : L ≤ 3584) (hX : va_X b L xs s s.heap) (hbs : b < s.heap.size) (hts : ∀ w ∈ am_ts, w.before #[Value.ref b] s = true) (htl : ∀ w ∈ lw_tbl, w.before #[Value.ref b] s = true) (hg : (Jvm.Cond.and given_1 narrow_1).before #[Value.ref b] s = true) :
    ∃ (ξ : Nat → Nat) (β : Bool), ξ 1 = b ∧ q_E ξ β xs L s s.heap (fun q => s.heap.size ≤ q) := by
  have hA : ∀ a : Nat, a < s.heap.size → ¬ (fun q => s.heap.size ≤ q) a := fun a h => Nat.not_le.mpr h
  obtain ⟨t2, e2, hT2⟩ := va_Tof (ty := .int) (tm := .static "LandBonds" "SETS" "[I") (N := 8) (f := fun j => .int (q_sets j)) (by decide) (q_flat hg 12 (by decide +kernel)) (va_eqt (q_flat hg 13 (by decide +kernel))) (fun j hj => va_eqt (q_flat hg (14 + j) (q_f1 j hj))) hA
  have hZ2 : va_Z "LandBonds" "SETS" "[I" (.ref t2) (fun q => s.heap.size ≤ q) s s.heap := va_Zref (htl _ (am_tb5 _ (List.mem_of_getElem? (i := 102) rfl))) (htl _ (am_tb1 _ (List.mem_of_getElem? (i := 1) rfl))) e2 hA
  obtain ⟨adK, adV, hS, hSe⟩ := vk_Sof (N := 2) (tm := q_tm) (len := q_len) (byt := q_byt) (by decide) (fun i hi => q_flat hg _ (q_f2 i hi)) (fun i hi => q_flat hg _ (q_f3 i hi)) (fun i hi => q_flat hg _ (q_f4 i hi)) (fun i hi => q_flat hg _ (q_f5 i hi)) (fun i hi j hj => q_flat hg _ (q_f6 i hi j hj)) (fun i j hi hj hij => by
    have h01 := q_flat hg 219 q_f7
    rcases i with _ | _ | i
    · rcases j with _ | _ | j
      · exact absurd rfl hij
      · exact Or.inl h01
      · omega
    · rcases j with _ | _ | j
      · exact Or.inr h01
      · exact absurd rfl hij
      · omega
    · omega) hA
  have hR3 : vk_R "LandBonds$Parser" 168 q_tx3 (adK 0) s := vk_R.of (htl _ (am_tb3 _ (List.mem_of_getElem? (i := 180) rfl))) (hSe 0 (by decide))
  have hR4 : vk_R "LandBonds$Parser" 160 q_tx4 (adK 1) s := vk_R.of (htl _ (am_tb3 _ (List.mem_of_getElem? (i := 236) rfl))) (hSe 1 (by decide))
  have hini : (Cond.initialized "java/lang/Throwable").before #[Value.ref b] s = true := htl _ (am_tb1 _ (List.mem_of_getElem? (i := 13) rfl))
  have hU : vx_Zq Bundle.tN "UNASSIGNED_STACK" Bundle.steD (fun q => s.heap.size ≤ q) s s.heap := vx_Zqof (htl _ (am_tb3 _ (List.mem_of_getElem? (i := 75) rfl))) hini (q_flat hg 4 (by decide +kernel)) hA
  have hN : vx_Zq Bundle.tN "SUPPRESSED_SENTINEL" Bundle.listD (fun q => s.heap.size ≤ q) s s.heap := vx_Zqof (htl _ (am_tb3 _ (List.mem_of_getElem? (i := 77) rfl))) hini (q_flat hg 5 (by decide +kernel)) hA
  have hCS : va_Z "java/lang/String" "COMPACT_STRINGS" "Z" (.int 1) (fun q => s.heap.size ≤ q) s s.heap := va_Zof (htl _ (am_tb3 _ (List.mem_of_getElem? (i := 190) rfl))) (htl _ (am_tb1 _ (List.mem_of_getElem? (i := 19) rfl))) (va_eqt (q_flat hg 6 (by decide +kernel))) hA
  have hNc : va_Nc "java/lang/IllegalArgumentException" "java/util/NoSuchElementException" s := va_Nc.of (q_flat hg 34 (by decide +kernel))
  have hT1 : va_T .int b L (fun j => .int (xs j)) (fun q => s.heap.size ≤ q) s s.heap := by
    obtain ⟨scr, h1, h2, h3, h4, h5⟩ := hX
    exact ⟨scr, h1, h2, h3, by omega, by rw [h4], h5, hA b hbs⟩
  have hnw : ∀ w ∈ lw_tbl, q_isNw w = true → va_Nw w s := fun w hw hn => by
    have h9 := htl w hw
    cases w <;> first | exact va_Nw.of rfl h9 | (simp [q_isNw] at hn)
  have fin : ∀ (β : Bool) (t7 : Nat), va_Z "jdk/internal/util/Preconditions" "SIOOBE_FORMATTER" "Ljava/util/function/BiFunction;" (if β = true then .null else .ref t7) (fun q => s.heap.size ≤ q) s s.heap → ∃ (ξ : Nat → Nat) (β : Bool), ξ 1 = b ∧ q_E ξ β xs L s s.heap (fun q => s.heap.size ≤ q) := by
    intro β t7 h7
    refine ⟨fun e => ([0, b, t2, adK 0, adK 1, adV 0, adV 1, t7] : List Nat).getD e 0, β, rfl, hT1, hT2, hZ2, vk_S_congr hS (fun i hi => ?_) (fun i hi => ?_), hR3, hR4, hU, hN, hnw, hNc, hCS, h7⟩
    · rcases i with _ | _ | i
      · rfl
      · rfl
      · omega
    · rcases i with _ | _ | i
      · rfl
      · rfl
      · omega
  rcases va_Zqof (htl _ (am_tb3 _ (List.mem_of_getElem? (i := 206) rfl))) (htl _ (am_tb1 _ (List.mem_of_getElem? (i := 21) rfl))) (q_flat hg 7 (by decide +kernel)) hA with h7 | ⟨t7, h7⟩
  · exact fin true 0 h7
  · exact fin false t7 h7
theorem q_known {s : State} {b : Nat} (hts : ∀ w ∈ am_ts, w.before #[Value.ref b] s = true) : ∀ q ∈ vwCl, ∃ (cC : ClassId) (iS : Nat → Nat), u_Kn s q.1 q.2.1 q.2.2 cC iS := by
  exact List.forall_mem_cons.mpr ⟨u_known hts inX0 (hts (Cond.instantiable "LandBonds$Acts" (16 : Nat)) (am_in1 132 rfl rfl)), List.forall_mem_cons.mpr ⟨u_known hts inX1 (hts (Cond.instantiable "LandBonds$Calendar" (2 : Nat)) (am_in2 59 rfl rfl)), List.forall_mem_cons.mpr ⟨u_known hts inX2 (hts (Cond.instantiable "LandBonds$Doubts" (7 : Nat)) (am_in2 21 rfl rfl)), List.forall_mem_cons.mpr ⟨u_known hts inX3 (hts (Cond.instantiable "LandBonds$Facts" (9 : Nat)) (am_in1 82 rfl rfl)), List.forall_mem_cons.mpr ⟨u_known hts inX4 (hts (Cond.instantiable "LandBonds$Happening" (12 : Nat)) (am_in2 73 rfl rfl)), List.forall_mem_cons.mpr ⟨u_known hts inX5 (hts (Cond.instantiable "LandBonds$Ledger" (5 : Nat)) (am_in2 116 rfl rfl)), List.forall_mem_cons.mpr ⟨u_known hts inX6 (hts (Cond.instantiable "LandBonds$Parser" (12 : Nat)) (am_in1 216 rfl rfl)), List.forall_mem_cons.mpr ⟨u_known hts inX7 (hts (Cond.instantiable "LandBonds$Persons" (4 : Nat)) (am_in1 56 rfl rfl)), List.forall_mem_cons.mpr ⟨u_known hts inX8 (hts (Cond.instantiable "LandBonds$Places" (3 : Nat)) (am_in1 36 rfl rfl)), List.forall_mem_cons.mpr ⟨u_known hts inX9 (hts (Cond.instantiable "LandBonds$World" (20 : Nat)) (am_in2 53 rfl rfl)), List.forall_mem_cons.mpr ⟨u_known hts inX10 (hts (Cond.instantiable "LandBonds" (12 : Nat)) (am_in1 28 rfl rfl)), List.forall_mem_cons.mpr ⟨u_known hts inX11 (hts (Cond.instantiable "LandBondsModel" (93 : Nat)) (am_in5 182 rfl rfl)), fun _ h => absurd h List.not_mem_nil⟩⟩⟩⟩⟩⟩⟩⟩⟩⟩⟩⟩
theorem q_arr {s : State} {args : Array Value} {ty : FieldType} (h : (Cond.arrayClass ty).before args s = true) : ∃ cA : ClassId, ArrOfT s cA ty ∧ s.vm.findClass ("[" ++ ty.toString) = some cA := by
  obtain ⟨cA, kA, comp, h1, h2, h3⟩ := Cond.arrayClass_spec h
  exact ⟨cA, fun n z => ⟨fun k h => (by cases h), kA, h2, comp, h3⟩, h1⟩
theorem q_world {s : State} {b : Nat} (hts : ∀ w ∈ am_ts, w.before #[Value.ref b] s = true) : ∃ (D : va_G) (dA : FieldType → ClassId), va_K D vwCl (am_ty dA) s := by
  have h0 : ∀ c : Nat, ∃ z : ClassId × (Nat → Nat), ∀ q : vw_C, vwCl[c]? = some q → u_Kn s q.1 q.2.1 q.2.2 z.1 z.2 := by
    intro c
    cases hc : vwCl[c]? with
    | none => exact ⟨(default, fun _ => 0), fun q hq => by cases hq⟩
    | some q =>
      obtain ⟨cC, iS, h⟩ := q_known hts q (List.mem_of_getElem? hc)
      exact ⟨(cC, iS), fun q' hq => by cases hq; exact h⟩
  obtain ⟨z, hz⟩ := Classical.axiomOfChoice h0
  obtain ⟨a1, g1, f1⟩ := q_arr (hts (Cond.arrayClass .int) (am_in1 54 rfl rfl))
  obtain ⟨a2, g2, f2⟩ := q_arr (hts (Cond.arrayClass .byte) (am_in2 19 rfl rfl))
  obtain ⟨a3, g3, f3⟩ := q_arr (hts (Cond.arrayClass .boolean) (am_in7 27 rfl rfl))
  obtain ⟨a4, g4, f4⟩ := q_arr (hts (Cond.arrayClass .long) (am_in7 26 rfl rfl))
  refine ⟨(fun c => (z c).1, fun c => (z c).2), fun t => match t with | .int => a1 | .byte => a2 | .boolean => a3 | _ => a4, fun c q hq => hz c q hq, fun k q hk => ?_⟩
  rcases k with _ | _ | _ | _ | k
  · cases hk; exact ⟨g1, f1⟩
  · cases hk; exact ⟨g2, f2⟩
  · cases hk; exact ⟨g3, f3⟩
  · cases hk; exact ⟨g4, f4⟩
  · exact absurd hk (by simp [am_ty])
theorem q_room {p : Program} {l : Launch} {e : Env} {R R' : Room} {s : State} {m : MethodId} {args : Array Value} {below : List Frame} {meth : Method} {c : Code} {H : Heap} {locs : List Loc} {cells slots : Nat} {Q Q' : State → Prop} {g : JFrame} (h1 : R'.frames ≤ R.frames) (h2 : R'.locals ≤ R.locals) (h3 : R'.cells ≤ R.cells) (h4 : R'.slots ≤ R.slots) (hQ : ∀ t, Q' t → Q t)
    (k : W p l e R' s m args below meth c H locs cells slots Q' g) : W p l e R s m args below meth c H locs cells slots Q g := by
  intro T hT X
  have hrm : s.hasRoom e.platform R' = true := by
    have h := X.room
    simp only [State.hasRoom, Bool.and_eq_true, decide_eq_true_eq] at h ⊢
    obtain ⟨⟨⟨⟨b1, b2, b3, b4, b5, b6⟩, b7⟩, b8⟩, b9⟩ := h
    exact ⟨⟨⟨⟨by omega, by omega, by omega, by omega, by omega, b6⟩, by omega⟩, by omega⟩, b9⟩
  obtain ⟨t, a1, a2⟩ := k T hT { X with room := hrm }
  exact ⟨t, a1, hQ t a2⟩
def q_h0 : am_H := ((0, fun _ _ => none, 0, 0), fun _ _ => 0, fun _ _ => 0)
theorem q_wf {dA : FieldType → ClassId} {D : va_G} {ρ : Nat → Nat} {A : Nat → Prop} {s : State} {H : Heap} (hK : va_K D vwCl (am_ty dA) s) : am_pic vwCl q_SH D dA ρ q_h0 A s H :=
  ⟨fun k q hq => absurd hq (by simp [am_ws, q_h0]), ⟨fun i j p q hp => absurd hp (by simp [am_ws, q_h0]), fun k q hq => absurd hq (by simp [am_ws, q_h0])⟩, hK, fun i k j h => absurd h (by simp [q_h0])⟩
theorem q_top {ξ : Nat → Nat} {β : Bool} {xs : Nat → Int32} {L : Nat} {n d : Nat} {h1 : am_H} (hd : d ≤ 1300) (hr : am_ex (q_P β xs L) q_ML q_HD q_NT n d q_law 0 (.retAddr 1 :: List.replicate 6 (.retAddr 0)) [] q_h0 = some (.inl (some (.int 1)), h1)) (hc : h1.1.2.2.1 ≤ 601024) (hs : h1.1.2.2.2 ≤ 7293034)
    {p : Program} {l : Launch} (hlt : l.stackTraces = false) {e : Env} {s : State} {m : MethodId} {below : List Frame} {meth : Method} {c : Code} {D : va_G} {dA : FieldType → ClassId} (hK : va_K D vwCl (am_ty dA) s)
    (X : am_X code 7 RL "law" p s m #[Value.ref (ξ 1)] meth c am_ts) (Y : am_Y (some .boolean) [] meth c) (hE : q_E ξ β xs L s s.heap (fun q => s.heap.size ≤ q)) :
    W p l e room_1 s m #[Value.ref (ξ 1)] below meth c s.heap [] 0 0 (lw_Z below #[Value.ref (ξ 1)] s) (entryFrame m ([Value.ref (ξ 1)] : List Value).toArray 7) := by
  have hA : ∀ a : Nat, a < s.heap.size → ¬ (fun q => s.heap.size ≤ q) a := fun a h => Nat.not_le.mpr h
  have hl := lv_entry ([.retAddr 1].map (am_cv (fun _ => 0) ξ)) (n := 7) (by show 1 ≤ 7; decide)
  rw [lg_entry_eq]
  show W p l e room_1 s m #[Value.ref (ξ 1)] below meth c s.heap [] 0 0 (lw_Z below #[Value.ref (ξ 1)] s) (F0 m 0 (lg_sl ([.retAddr 1].map (am_cv (fun _ => 0) ξ)) ++ List.replicate (7 - (lg_sl ([.retAddr 1].map (am_cv (fun _ => 0) ξ))).length) Slot.unset).toArray [])
  generalize (lg_sl ([.retAddr 1].map (am_cv (fun _ => 0) ξ)) ++ List.replicate (7 - (lg_sl ([.retAddr 1].map (am_cv (fun _ => 0) ξ))).length) Slot.unset).toArray = jl at hl ⊢
  have hlv : am_lv (fun _ => 0) ξ 7 (.retAddr 1 :: List.replicate 6 (.retAddr 0)) jl := am_entry (as := [.retAddr 1]) (by decide) (fun v hv => by rw [List.mem_singleton.mp hv]; rfl) hl
  have hX : am_X (q_KI q_law).1 (q_KI q_law).2.1 (q_KI q_law).2.2.1 (q_KI q_law).2.2.2.1 p s m #[Value.ref (ξ 1)] meth c am_ts := X
  have hY : am_Y (q_KI q_law).2.2.2.2.1 (q_KI q_law).2.2.2.2.2 meth c := Y
  refine q_room (R' := am_rm d (h1.1.2.2.1 - 0) (h1.1.2.2.2 - 0)) (Q' := vx_MQ below (am_Qc vwCl q_SH ξ D dA (fun _ => 0) 0 (fun q => s.heap.size ≤ q) (.inl (some (.int 1))) h1) (am_XC vwCl q_SH q_EN D dA (fun _ => 0) 0 (fun q => s.heap.size ≤ q) (.inl (some (.int 1))) h1) #[Value.ref (ξ 1)] s (h1.1.2.2.1 - 0) (h1.1.2.2.2 - 0) (fun q => s.heap.size ≤ q)) (by show 30 + d ≤ 2048; omega) (by show 500 + 60 * d ≤ 84000; omega) (by show h1.1.2.2.1 - 0 ≤ 601024; omega) (by show h1.1.2.2.2 - 0 ≤ 7293034; omega) ?_ ?_
  · rintro t ⟨oc, a1, a2, a3⟩
    rcases a3 with ⟨⟨v, ρ1, e1, e2, -⟩, Lc, ⟨g1, g2, g3⟩, g4⟩ | ⟨q, -, E, ce, Lc, ⟨x, ρ1, e1, -⟩, -⟩
    · cases e1
      exact ⟨oc, a1, a2, e2, g1, g2, g3.weaken (fun y hy hlt => absurd (g4 y hy) (hA _ hlt)) (by omega) (by omega)⟩
    · cases e1
  · refine q_sound (ξ := ξ) n d q_law 0 _ _ q_h0 _ h1 hr D dA p l e (am_rm d (h1.1.2.2.1 - 0) (h1.1.2.2.2 - 0)) s m #[Value.ref (ξ 1)] below meth c _ (fun q => s.heap.size ≤ q) (fun _ => 0) 0 0 0 hX hY hlt hE (fun q h => h) (Nat.le_refl _) (Nat.le_refl _) (Nat.le_refl _) (Nat.le_refl _) ?_ (fun h => absurd h (by decide)) (fun _ => 0) s.heap [] jl (q_wf hK) (Nat.le_refl _) (fun _ _ => rfl) va_S.rf hlv (fun w hw => ?_) am_wl.nil (Nat.le_refl _) (Nat.le_refl _)
    · intro pc ls st h2 f hf hx
      obtain ⟨-, hok⟩ := q_OK (ξ := ξ) _ _ _ hf
      rcases hok with hok | hok | hok
      · obtain ⟨pc', ls', st', h', e1, -⟩ := hok D dA p l e (am_rm d 0 0) s m #[Value.ref (ξ 1)] below meth c (fun _ => True) (fun q => s.heap.size ≤ q) (fun _ => 0) 0 0 0 hX (by show 30 ≤ 30 + d; omega) (by show 500 ≤ 500 + 60 * d; omega) hE (fun q h => h) _ _ _ _ hx
        cases e1
      · obtain ⟨k', as, st', e1, -⟩ := hok D dA p l e d (am_rm (d + 1) 0 0) s m #[Value.ref (ξ 1)] below meth c (fun _ => True) (fun q => s.heap.size ≤ q) (fun _ => 0) 0 0 0 hX (Nat.le_refl _) (Nat.le_refl _) q_Eok hE (fun q h => h) _ _ _ _ hx
        cases e1
      · obtain ⟨o', h', e1, e2⟩ := hok D dA p l e d (h1.1.2.2.1 - 0) (h1.1.2.2.2 - 0) s m #[Value.ref (ξ 1)] below meth c (fun q => s.heap.size ≤ q) (fun _ => 0) 0 0 0 hX hY hlt q_Eok hE (fun q h => h) _ _ _ _ hx
        cases e1
        exact e2 rfl rfl
    · rcases List.mem_cons.mp hw with hw | hw
      · rw [hw]; exact am_wv.ext
      · rw [List.eq_of_mem_replicate hw]; exact am_wv.ext
/-- the law's run in the little machine gives what the claim owes -/
theorem q_whole (hrun : ∀ (β : Bool) (xs : Nat → Int32) (L : Nat), L ≤ 3584 → ∃ (n d : Nat) (h1 : am_H), d ≤ 1300 ∧ am_ex (q_P β xs L) q_ML q_HD q_NT n d q_law 0 (.retAddr 1 :: List.replicate 6 (.retAddr 0)) [] q_h0 = some (.inl (some (.int 1)), h1) ∧ h1.1.2.2.1 ≤ 601024 ∧ h1.1.2.2.2 ≤ 7293034)
    {p : Program} {e : Env} {s : State} {m : MethodId} {below : List Frame} {meth : Method} {c : Code} (l : Launch) (hflags : l.flags = flags0) {b L : Nat} {xs : Nat → Int32} (hL : L ≤ 3584) (C0 : lw_At p s m meth c b L xs) : W p l e room_1 s m #[Value.ref b] below meth c s.heap [] 0 0 (lw_Z below #[Value.ref b] s) (entryFrame m ([Value.ref b] : List Value).toArray 7) := by
  obtain ⟨hx, hcode, hret, hml, hown, htl, hX, hbl, hlk, hg, hnm, htb⟩ := C0
  have hts : ∀ w ∈ am_ts, w.before #[Value.ref b] s = true := fun w hw => htl w (List.mem_filter.mp hw).1
  obtain ⟨ξ, β, rfl, hE⟩ := q_start hL hX hbl hts htl hg
  obtain ⟨D, dA, hK⟩ := q_world hts
  obtain ⟨n, d, h1, hd, hr, hc, hs⟩ := hrun β xs L hL
  have hlt : l.stackTraces = false := by
    unfold Launch.stackTraces
    rw [hflags]
    decide
  exact q_top hd hr hc hs hlt hK ⟨hx, hcode, hml, hown, hnm, hts⟩ ⟨hret, hlk, htb⟩ hE

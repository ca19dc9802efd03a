/-! ===== instructions on cells ===== -/
def am_is (j : Int32) (n : Nat) : Bool := !(decide (j < 0) || decide (n ≤ j.toNatClampNeg))
theorem am_is_in {j : Int32} {n : Nat} (h : am_is j n = true) : vp_in j n := by
  simp only [am_is, Bool.not_eq_true', Bool.or_eq_false_iff, decide_eq_false_iff_not] at h
  exact fun z => z.elim h.1 h.2
theorem am_in_is {j : Int32} {n : Nat} (h : vp_in j n) : am_is j n = true := by
  simp only [am_is, Bool.not_eq_true', Bool.or_eq_false_iff, decide_eq_false_iff_not]
  exact ⟨fun z => h (Or.inl z), fun z => h (Or.inr z)⟩
theorem am_N_of {cl : List vw_C} {ci N : Nat} {C : String} {T : u_T} (hc : cl[ci]? = some (C, T, N)) : am_N cl ci = N := by
  unfold am_N; rw [hc]
theorem am_ce_o {cl : List vw_C} {ρ : Nat → Nat} {dA : FieldType → ClassId} {sh : am_S} {i ci : Nat} {h : am_H} (hs : sh = .inr ci) : am_ce cl ρ dA sh i h = .inr (ci, am_fs cl ρ ci i h) := by
  rw [hs]; rfl
theorem am_ce_a {cl : List vw_C} {ρ : Nat → Nat} {dA : FieldType → ClassId} {sh : am_S} {i n : Nat} {ty : FieldType} {h : am_H} (hs : sh = .inl (ty, n)) (ht : ty ≠ .long) : am_ce cl ρ dA sh i h = .inl (dA ty, n, .inl (h.2.1 i)) := by
  rw [hs]; simp only [am_ce, if_neg ht]
theorem am_ce_l {cl : List vw_C} {ρ : Nat → Nat} {dA : FieldType → ClassId} {sh : am_S} {i n : Nat} {h : am_H} (hs : sh = .inl (.long, n)) : am_ce cl ρ dA sh i h = .inl (dA .long, n, .inr (.inl (h.2.2 i))) := by
  rw [hs]; rfl
theorem am_fs_set {cl : List vw_C} {ρ : Nat → Nat} {ci i k : Nat} {h h' : am_H} {v : Value} (hk : k < am_N cl ci) (hv : am_fv cl ρ ci i h' k = v) (ho : ∀ j, j ≠ k → am_fv cl ρ ci i h' j = am_fv cl ρ ci i h j) : (am_fs cl ρ ci i h).set k v = am_fs cl ρ ci i h' := by
  apply List.ext_getElem?
  intro j
  by_cases hj : j < am_N cl ci
  · rw [am_fs_get hj]
    by_cases hjk : j = k
    · subst hjk
      rw [List.getElem?_set_self (by rw [am_fs_len]; exact hj), hv]
    · rw [List.getElem?_set_ne (Ne.symm hjk), am_fs_get hj, ho j hjk]
  · have e1 : (am_fs cl ρ ci i h').length ≤ j := by rw [am_fs_len]; omega
    have e2 : ((am_fs cl ρ ci i h).set k v).length ≤ j := by rw [List.length_set, am_fs_len]; omega
    rw [List.getElem?_eq_none e1, List.getElem?_eq_none e2]
theorem am_fv_congr {cl : List vw_C} {ρ : Nat → Nat} {ci i j : Nat} {h h' : am_H} (h1 : h'.2.1 i j = h.2.1 i j) (h2 : h'.2.2 i j = h.2.2 i j) (h3 : h'.1.2.1 i j = h.1.2.1 i j) : am_fv cl ρ ci i h' j = am_fv cl ρ ci i h j := by
  simp only [am_fv, h1, h2, h3]
section Heap
variable {cl : List vw_C} {SH : Nat → am_S} {ξ : Nat → Nat} {cc : ByteArray} {nL : Nat} {own nm : String} {Ts : List Cond} {E : State → Heap → (Nat → Prop) → Prop} {pc : Nat}
def im_gi (SH : Nat → am_S) (ci k t : Nat) : am_F := fun ls st h => match st with
  | .ref i :: r => if SH i = .inr ci then some (.inl (t, ls, .int (h.2.1 i k) :: r, h)) else none
  | _ => none
theorem ok_gi {C : String} {T : u_T} {N ci k idx : Nat} (hc : cl[ci]? = some (C, T, N)) (hin : ∀ w ∈ u_ws C T N, w ∈ Ts) (hkN : k < N) (hlink : Cond.fieldLink own idx (T k).1 (T k).2.1 (T k).2.2.1 ∈ Ts) (hkd : am_kd cl ci k = 0) (hd : decode cc pc = .ok (.getfield idx, 3)) : am_okN cl SH ξ cc nL own nm Ts E pc (im_gi SH ci k (pc + 3)) := by
  intro D dA p l e R s m args below meth c Q A ρ0 n0 bc bs X hRf hRl hE hA ls st h r hf
  obtain ⟨hx, hb, hml, hown, hnm, hts⟩ := id X
  unfold im_gi at hf
  split at hf
  · split at hf
    · rename_i i r9 hsh
      cases hf
      refine ⟨_, _, _, _, rfl, Nat.le_refl _, Nat.le_refl _, fun _ _ hk ρ H locs jl hp h0 hr hS hl hwl hws hbc hbs => ?_⟩
      have hi : i < h.1.1 := hws.head i rfl
      have hg := am_ws_get (cl := cl) (SH := SH) (ρ := ρ) (dA := dA) hi
      rw [am_ce_o hsh] at hg
      exact va_get hx hb hts hin hown hp.2.2.1 hp.1 i hg hc k hkN (hts _ hlink) (fun _ z => z) (by rw [am_fs_get (by rw [am_N_of hc]; exact hkN), am_fv, hkd]; rfl) hd (hk ρ H locs jl hp h0 hr hS hl hwl (am_wl.cons am_wv.int hws.tail) hbc hbs)
    · cases hf
  · cases hf

def im_gl (SH : Nat → am_S) (ci k t : Nat) : am_F := fun ls st h => match st with
  | .ref i :: r => if SH i = .inr ci then some (.inl (t, ls, .long (h.2.2 i k) :: r, h)) else none
  | _ => none
theorem ok_gl {C : String} {T : u_T} {N ci k idx : Nat} (hc : cl[ci]? = some (C, T, N)) (hin : ∀ w ∈ u_ws C T N, w ∈ Ts) (hkN : k < N) (hlink : Cond.fieldLink own idx (T k).1 (T k).2.1 (T k).2.2.1 ∈ Ts) (hkd : am_kd cl ci k = 1) (hd : decode cc pc = .ok (.getfield idx, 3)) : am_okN cl SH ξ cc nL own nm Ts E pc (im_gl SH ci k (pc + 3)) := by
  intro D dA p l e R s m args below meth c Q A ρ0 n0 bc bs X hRf hRl hE hA ls st h r hf
  obtain ⟨hx, hb, hml, hown, hnm, hts⟩ := id X
  unfold im_gl at hf
  split at hf
  · split at hf
    · rename_i i r9 hsh
      cases hf
      refine ⟨_, _, _, _, rfl, Nat.le_refl _, Nat.le_refl _, fun _ _ hk ρ H locs jl hp h0 hr hS hl hwl hws hbc hbs => ?_⟩
      have hi : i < h.1.1 := hws.head i rfl
      have hg := am_ws_get (cl := cl) (SH := SH) (ρ := ρ) (dA := dA) hi
      rw [am_ce_o hsh] at hg
      exact va_get hx hb hts hin hown hp.2.2.1 hp.1 i hg hc k hkN (hts _ hlink) (fun _ z => z) (by rw [am_fs_get (by rw [am_N_of hc]; exact hkN), am_fv, hkd]; rfl) hd (hk ρ H locs jl hp h0 hr hS hl hwl (am_wl.cons am_wv.long hws.tail) hbc hbs)
    · cases hf
  · cases hf

def im_gr (SH : Nat → am_S) (ci k t : Nat) : am_F := fun ls st h => match st with
  | .ref i :: r => if SH i = .inr ci then (match h.1.2.1 i k with
    | some j => some (.inl (t, ls, .ref j :: r, h))
    | none => none) else none
  | _ => none
theorem ok_gr {C : String} {T : u_T} {N ci k idx : Nat} (hc : cl[ci]? = some (C, T, N)) (hin : ∀ w ∈ u_ws C T N, w ∈ Ts) (hkN : k < N) (hlink : Cond.fieldLink own idx (T k).1 (T k).2.1 (T k).2.2.1 ∈ Ts) (hkd : am_kd cl ci k = 2) (hd : decode cc pc = .ok (.getfield idx, 3)) : am_okN cl SH ξ cc nL own nm Ts E pc (im_gr SH ci k (pc + 3)) := by
  intro D dA p l e R s m args below meth c Q A ρ0 n0 bc bs X hRf hRl hE hA ls st h r hf
  obtain ⟨hx, hb, hml, hown, hnm, hts⟩ := id X
  unfold im_gr at hf
  split at hf
  · split at hf
    · split at hf
      · rename_i i r9 hsh _ j hj
        cases hf
        refine ⟨_, _, _, _, rfl, Nat.le_refl _, Nat.le_refl _, fun _ _ hk ρ H locs jl hp h0 hr hS hl hwl hws hbc hbs => ?_⟩
        have hi : i < h.1.1 := hws.head i rfl
        have hg := am_ws_get (cl := cl) (SH := SH) (ρ := ρ) (dA := dA) hi
        rw [am_ce_o hsh] at hg
        exact va_get hx hb hts hin hown hp.2.2.1 hp.1 i hg hc k hkN (hts _ hlink) (fun _ z => z) (v := .ref (ρ j)) (by rw [am_fs_get (by rw [am_N_of hc]; exact hkN), am_fv, hkd, hj]; rfl) hd (hk ρ H locs jl hp h0 hr hS hl hwl (am_wl.cons (am_wv.ref (hp.2.2.2 _ _ _ hj)) hws.tail) hbc hbs)
      · cases hf
    · cases hf
  · cases hf

def im_pi (SH : Nat → am_S) (ci k t : Nat) : am_F := fun ls st h => match st with
  | .int x :: .ref i :: r => if SH i = .inr ci then some (.inl (t, ls, r, (h.1, am_u h.2.1 i k x, h.2.2))) else none
  | _ => none
theorem ok_pi {C : String} {T : u_T} {N ci k idx : Nat} (hc : cl[ci]? = some (C, T, N)) (hin : ∀ w ∈ u_ws C T N, w ∈ Ts) (hkN : k < N) (hlink : Cond.fieldLink own idx (T k).1 (T k).2.1 (T k).2.2.1 ∈ Ts) (hkd : am_kd cl ci k = 0) {ty : FieldType} (ty0 : Nat → FieldType) (hty : ∀ k, k < N → parseFieldDescriptor (T k).2.2.1 = some (ty0 k)) (hnm2 : ∀ a, a < N → ∀ b, b < N → a ≠ b → (T a).2.1 ≠ (T b).2.1) (hfin : (T k).2.2.2 = false) (hpd : parseFieldDescriptor (T k).2.2.1 = some .int) (hd : decode cc pc = .ok (.putfield idx, 3)) : am_okN cl SH ξ cc nL own nm Ts E pc (im_pi SH ci k (pc + 3)) := by
  intro D dA p l e R s m args below meth c Q A ρ0 n0 bc bs X hRf hRl hE hA ls st h r hf
  obtain ⟨hx, hb, hml, hown, hnm, hts⟩ := id X
  unfold im_pi at hf
  split at hf
  · split at hf
    · rename_i x i r9 hsh
      cases hf
      refine ⟨_, _, _, _, rfl, Nat.le_refl _, Nat.le_refl _, fun _ _ hk ρ H locs jl hp h0 hr hS hl hwl hws hbc hbs => ?_⟩
      have hi : i < h.1.1 := hws.tail.head i rfl
      have hg := am_ws_get (cl := cl) (SH := SH) (ρ := ρ) (dA := dA) hi
      rw [am_ce_o hsh] at hg
      have hN := am_N_of hc
      have hset := am_ws_set (cl := cl) (SH := SH) (ρ := ρ) (dA := dA) (h := h) (h' := (h.1, am_u h.2.1 i k x, h.2.2)) (i := i) (x := .inr (ci, (am_fs cl ρ ci i h).set k (.int x))) rfl (by rw [am_ce_o hsh]; exact congrArg (fun z => Sum.inr (ci, z)) (am_fs_set (h := h) (h' := (h.1, am_u h.2.1 i k x, h.2.2)) (by rw [hN]; exact hkN) (by simp only [am_fv, hkd, am_u_same]) (fun j hj => am_fv_congr (am_u_ne (Or.inr hj)) rfl rfl)).symm) (fun j hj => am_ce_congr (am_u_row _ _ _ _ hj) rfl rfl)
      refine va_put (v := .int x) hx hb hts hin ty0 hty hnm2 hown hp.2.2.1 hp.1 hp.2.1 hS i hg hc k hkN (hts _ hlink) (fun _ z => z) hfin hpd rfl rfl (by rw [am_fs_len, hN]; exact hkN) hd (fun H1 locs1 hP1 hD1 hS1 => ?_)
      rw [hset] at hP1 hD1
      exact hk ρ H1 locs1 jl ⟨hP1, hD1, hp.2.2.1, hp.2.2.2⟩ h0 hr hS1 hl hwl hws.tail.tail hbc hbs
    · cases hf
  · cases hf

theorem ok_piF {C : String} {T : u_T} {N ci k idx : Nat} (hc : cl[ci]? = some (C, T, N)) (hin : ∀ w ∈ u_ws C T N, w ∈ Ts) (hkN : k < N) (hlink : Cond.fieldLink own idx (T k).1 (T k).2.1 (T k).2.2.1 ∈ Ts) (hkd : am_kd cl ci k = 0) {ty : FieldType} (ty0 : Nat → FieldType) (hty : ∀ k, k < N → parseFieldDescriptor (T k).2.2.1 = some (ty0 k)) (hnm2 : ∀ a, a < N → ∀ b, b < N → a ≠ b → (T a).2.1 ≠ (T b).2.1) (hfin : (T k).2.2.2 = true) (hinit : nm = "<init>") (hdecl : (T k).1 = own) (hpd : parseFieldDescriptor (T k).2.2.1 = some .int) (hd : decode cc pc = .ok (.putfield idx, 3)) : am_okN cl SH ξ cc nL own nm Ts E pc (im_pi SH ci k (pc + 3)) := by
  intro D dA p l e R s m args below meth c Q A ρ0 n0 bc bs X hRf hRl hE hA ls st h r hf
  obtain ⟨hx, hb, hml, hown, hnm, hts⟩ := id X
  unfold im_pi at hf
  split at hf
  · split at hf
    · rename_i x i r9 hsh
      cases hf
      refine ⟨_, _, _, _, rfl, Nat.le_refl _, Nat.le_refl _, fun _ _ hk ρ H locs jl hp h0 hr hS hl hwl hws hbc hbs => ?_⟩
      have hi : i < h.1.1 := hws.tail.head i rfl
      have hg := am_ws_get (cl := cl) (SH := SH) (ρ := ρ) (dA := dA) hi
      rw [am_ce_o hsh] at hg
      have hN := am_N_of hc
      have hset := am_ws_set (cl := cl) (SH := SH) (ρ := ρ) (dA := dA) (h := h) (h' := (h.1, am_u h.2.1 i k x, h.2.2)) (i := i) (x := .inr (ci, (am_fs cl ρ ci i h).set k (.int x))) rfl (by rw [am_ce_o hsh]; exact congrArg (fun z => Sum.inr (ci, z)) (am_fs_set (h := h) (h' := (h.1, am_u h.2.1 i k x, h.2.2)) (by rw [hN]; exact hkN) (by simp only [am_fv, hkd, am_u_same]) (fun j hj => am_fv_congr (am_u_ne (Or.inr hj)) rfl rfl)).symm) (fun j hj => am_ce_congr (am_u_row _ _ _ _ hj) rfl rfl)
      refine va_putF (v := .int x) hx hb hts hin ty0 hty hnm2 hown hp.2.2.1 hp.1 hp.2.1 hS i hg hc k hkN (hts _ hlink) (fun _ z => z) hfin (hnm.trans hinit) hdecl hpd rfl rfl (by rw [am_fs_len, hN]; exact hkN) hd (fun H1 locs1 hP1 hD1 hS1 => ?_)
      rw [hset] at hP1 hD1
      exact hk ρ H1 locs1 jl ⟨hP1, hD1, hp.2.2.1, hp.2.2.2⟩ h0 hr hS1 hl hwl hws.tail.tail hbc hbs
    · cases hf
  · cases hf

def im_pl (SH : Nat → am_S) (ci k t : Nat) : am_F := fun ls st h => match st with
  | .long x :: .ref i :: r => if SH i = .inr ci then some (.inl (t, ls, r, (h.1, h.2.1, am_u h.2.2 i k x))) else none
  | _ => none
theorem ok_pl {C : String} {T : u_T} {N ci k idx : Nat} (hc : cl[ci]? = some (C, T, N)) (hin : ∀ w ∈ u_ws C T N, w ∈ Ts) (hkN : k < N) (hlink : Cond.fieldLink own idx (T k).1 (T k).2.1 (T k).2.2.1 ∈ Ts) (hkd : am_kd cl ci k = 1) {ty : FieldType} (ty0 : Nat → FieldType) (hty : ∀ k, k < N → parseFieldDescriptor (T k).2.2.1 = some (ty0 k)) (hnm2 : ∀ a, a < N → ∀ b, b < N → a ≠ b → (T a).2.1 ≠ (T b).2.1) (hfin : (T k).2.2.2 = false) (hpd : parseFieldDescriptor (T k).2.2.1 = some .long) (hd : decode cc pc = .ok (.putfield idx, 3)) : am_okN cl SH ξ cc nL own nm Ts E pc (im_pl SH ci k (pc + 3)) := by
  intro D dA p l e R s m args below meth c Q A ρ0 n0 bc bs X hRf hRl hE hA ls st h r hf
  obtain ⟨hx, hb, hml, hown, hnm, hts⟩ := id X
  unfold im_pl at hf
  split at hf
  · split at hf
    · rename_i x i r9 hsh
      cases hf
      refine ⟨_, _, _, _, rfl, Nat.le_refl _, Nat.le_refl _, fun _ _ hk ρ H locs jl hp h0 hr hS hl hwl hws hbc hbs => ?_⟩
      have hi : i < h.1.1 := hws.tail.head i rfl
      have hg := am_ws_get (cl := cl) (SH := SH) (ρ := ρ) (dA := dA) hi
      rw [am_ce_o hsh] at hg
      have hN := am_N_of hc
      have hset := am_ws_set (cl := cl) (SH := SH) (ρ := ρ) (dA := dA) (h := h) (h' := (h.1, h.2.1, am_u h.2.2 i k x)) (i := i) (x := .inr (ci, (am_fs cl ρ ci i h).set k (.long x))) rfl (by rw [am_ce_o hsh]; exact congrArg (fun z => Sum.inr (ci, z)) (am_fs_set (h := h) (h' := (h.1, h.2.1, am_u h.2.2 i k x)) (by rw [hN]; exact hkN) (by simp only [am_fv, hkd, am_u_same]) (fun j hj => am_fv_congr rfl (am_u_ne (Or.inr hj)) rfl)).symm) (fun j hj => am_ce_congr rfl (am_u_row _ _ _ _ hj) rfl)
      refine va_put (v := .long x) hx hb hts hin ty0 hty hnm2 hown hp.2.2.1 hp.1 hp.2.1 hS i hg hc k hkN (hts _ hlink) (fun _ z => z) hfin hpd rfl rfl (by rw [am_fs_len, hN]; exact hkN) hd (fun H1 locs1 hP1 hD1 hS1 => ?_)
      rw [hset] at hP1 hD1
      exact hk ρ H1 locs1 jl ⟨hP1, hD1, hp.2.2.1, hp.2.2.2⟩ h0 hr hS1 hl hwl hws.tail.tail hbc hbs
    · cases hf
  · cases hf

theorem ok_plF {C : String} {T : u_T} {N ci k idx : Nat} (hc : cl[ci]? = some (C, T, N)) (hin : ∀ w ∈ u_ws C T N, w ∈ Ts) (hkN : k < N) (hlink : Cond.fieldLink own idx (T k).1 (T k).2.1 (T k).2.2.1 ∈ Ts) (hkd : am_kd cl ci k = 1) {ty : FieldType} (ty0 : Nat → FieldType) (hty : ∀ k, k < N → parseFieldDescriptor (T k).2.2.1 = some (ty0 k)) (hnm2 : ∀ a, a < N → ∀ b, b < N → a ≠ b → (T a).2.1 ≠ (T b).2.1) (hfin : (T k).2.2.2 = true) (hinit : nm = "<init>") (hdecl : (T k).1 = own) (hpd : parseFieldDescriptor (T k).2.2.1 = some .long) (hd : decode cc pc = .ok (.putfield idx, 3)) : am_okN cl SH ξ cc nL own nm Ts E pc (im_pl SH ci k (pc + 3)) := by
  intro D dA p l e R s m args below meth c Q A ρ0 n0 bc bs X hRf hRl hE hA ls st h r hf
  obtain ⟨hx, hb, hml, hown, hnm, hts⟩ := id X
  unfold im_pl at hf
  split at hf
  · split at hf
    · rename_i x i r9 hsh
      cases hf
      refine ⟨_, _, _, _, rfl, Nat.le_refl _, Nat.le_refl _, fun _ _ hk ρ H locs jl hp h0 hr hS hl hwl hws hbc hbs => ?_⟩
      have hi : i < h.1.1 := hws.tail.head i rfl
      have hg := am_ws_get (cl := cl) (SH := SH) (ρ := ρ) (dA := dA) hi
      rw [am_ce_o hsh] at hg
      have hN := am_N_of hc
      have hset := am_ws_set (cl := cl) (SH := SH) (ρ := ρ) (dA := dA) (h := h) (h' := (h.1, h.2.1, am_u h.2.2 i k x)) (i := i) (x := .inr (ci, (am_fs cl ρ ci i h).set k (.long x))) rfl (by rw [am_ce_o hsh]; exact congrArg (fun z => Sum.inr (ci, z)) (am_fs_set (h := h) (h' := (h.1, h.2.1, am_u h.2.2 i k x)) (by rw [hN]; exact hkN) (by simp only [am_fv, hkd, am_u_same]) (fun j hj => am_fv_congr rfl (am_u_ne (Or.inr hj)) rfl)).symm) (fun j hj => am_ce_congr rfl (am_u_row _ _ _ _ hj) rfl)
      refine va_putF (v := .long x) hx hb hts hin ty0 hty hnm2 hown hp.2.2.1 hp.1 hp.2.1 hS i hg hc k hkN (hts _ hlink) (fun _ z => z) hfin (hnm.trans hinit) hdecl hpd rfl rfl (by rw [am_fs_len, hN]; exact hkN) hd (fun H1 locs1 hP1 hD1 hS1 => ?_)
      rw [hset] at hP1 hD1
      exact hk ρ H1 locs1 jl ⟨hP1, hD1, hp.2.2.1, hp.2.2.2⟩ h0 hr hS1 hl hwl hws.tail.tail hbc hbs
    · cases hf
  · cases hf

def im_pr (SH : Nat → am_S) (ci k t : Nat) : am_F := fun ls st h => match st with
  | .ref x :: .ref i :: r => if SH i = .inr ci then some (.inl (t, ls, r, ((h.1.1, am_u h.1.2.1 i k (some x), h.1.2.2), h.2))) else none
  | _ => none
theorem ok_pr {C : String} {T : u_T} {N ci k idx : Nat} (hc : cl[ci]? = some (C, T, N)) (hin : ∀ w ∈ u_ws C T N, w ∈ Ts) (hkN : k < N) (hlink : Cond.fieldLink own idx (T k).1 (T k).2.1 (T k).2.2.1 ∈ Ts) (hkd : am_kd cl ci k = 2) {ty : FieldType} (ty0 : Nat → FieldType) (hty : ∀ k, k < N → parseFieldDescriptor (T k).2.2.1 = some (ty0 k)) (hnm2 : ∀ a, a < N → ∀ b, b < N → a ≠ b → (T a).2.1 ≠ (T b).2.1) (hfin : (T k).2.2.2 = false) (hpd : parseFieldDescriptor (T k).2.2.1 = some ty) (hfit : ∀ q : Nat, narrow ty (.ref q) = .ref q ∧ fits ty (.ref q) = true) (hd : decode cc pc = .ok (.putfield idx, 3)) : am_okN cl SH ξ cc nL own nm Ts E pc (im_pr SH ci k (pc + 3)) := by
  intro D dA p l e R s m args below meth c Q A ρ0 n0 bc bs X hRf hRl hE hA ls st h r hf
  obtain ⟨hx, hb, hml, hown, hnm, hts⟩ := id X
  unfold im_pr at hf
  split at hf
  · split at hf
    · rename_i x i r9 hsh
      cases hf
      refine ⟨_, _, _, _, rfl, Nat.le_refl _, Nat.le_refl _, fun _ _ hk ρ H locs jl hp h0 hr hS hl hwl hws hbc hbs => ?_⟩
      have hi : i < h.1.1 := hws.tail.head i rfl
      have hg := am_ws_get (cl := cl) (SH := SH) (ρ := ρ) (dA := dA) hi
      rw [am_ce_o hsh] at hg
      have hN := am_N_of hc
      have hset := am_ws_set (cl := cl) (SH := SH) (ρ := ρ) (dA := dA) (h := h) (h' := ((h.1.1, am_u h.1.2.1 i k (some x), h.1.2.2), h.2)) (i := i) (x := .inr (ci, (am_fs cl ρ ci i h).set k (.ref (ρ x)))) rfl (by rw [am_ce_o hsh]; exact congrArg (fun z => Sum.inr (ci, z)) (am_fs_set (h := h) (h' := ((h.1.1, am_u h.1.2.1 i k (some x), h.1.2.2), h.2)) (by rw [hN]; exact hkN) (by simp only [am_fv, hkd, am_u_same]; rfl) (fun j hj => am_fv_congr rfl rfl (am_u_ne (Or.inr hj)))).symm) (fun j hj => am_ce_congr rfl rfl (am_u_row _ _ _ _ hj))
      refine va_put (v := .ref (ρ x)) hx hb hts hin ty0 hty hnm2 hown hp.2.2.1 hp.1 hp.2.1 hS i hg hc k hkN (hts _ hlink) (fun _ z => z) hfin hpd (hfit _).1 (hfit _).2 (by rw [am_fs_len, hN]; exact hkN) hd (fun H1 locs1 hP1 hD1 hS1 => ?_)
      rw [hset] at hP1 hD1
      exact hk ρ H1 locs1 jl ⟨hP1, hD1, hp.2.2.1, (fun a b j hj => by
          by_cases hab : a = i ∧ b = k
          · have e1 : (some x : Option Nat) = some j := by rw [← hj]; exact (if_pos hab).symm
            cases e1
            exact hws.head x rfl
          · have e1 : h.1.2.1 a b = some j := by rw [← hj]; exact (if_neg hab).symm
            exact hp.2.2.2 a b j e1)⟩ h0 hr hS1 hl hwl hws.tail.tail hbc hbs
    · cases hf
  · cases hf

theorem ok_prF {C : String} {T : u_T} {N ci k idx : Nat} (hc : cl[ci]? = some (C, T, N)) (hin : ∀ w ∈ u_ws C T N, w ∈ Ts) (hkN : k < N) (hlink : Cond.fieldLink own idx (T k).1 (T k).2.1 (T k).2.2.1 ∈ Ts) (hkd : am_kd cl ci k = 2) {ty : FieldType} (ty0 : Nat → FieldType) (hty : ∀ k, k < N → parseFieldDescriptor (T k).2.2.1 = some (ty0 k)) (hnm2 : ∀ a, a < N → ∀ b, b < N → a ≠ b → (T a).2.1 ≠ (T b).2.1) (hfin : (T k).2.2.2 = true) (hinit : nm = "<init>") (hdecl : (T k).1 = own) (hpd : parseFieldDescriptor (T k).2.2.1 = some ty) (hfit : ∀ q : Nat, narrow ty (.ref q) = .ref q ∧ fits ty (.ref q) = true) (hd : decode cc pc = .ok (.putfield idx, 3)) : am_okN cl SH ξ cc nL own nm Ts E pc (im_pr SH ci k (pc + 3)) := by
  intro D dA p l e R s m args below meth c Q A ρ0 n0 bc bs X hRf hRl hE hA ls st h r hf
  obtain ⟨hx, hb, hml, hown, hnm, hts⟩ := id X
  unfold im_pr at hf
  split at hf
  · split at hf
    · rename_i x i r9 hsh
      cases hf
      refine ⟨_, _, _, _, rfl, Nat.le_refl _, Nat.le_refl _, fun _ _ hk ρ H locs jl hp h0 hr hS hl hwl hws hbc hbs => ?_⟩
      have hi : i < h.1.1 := hws.tail.head i rfl
      have hg := am_ws_get (cl := cl) (SH := SH) (ρ := ρ) (dA := dA) hi
      rw [am_ce_o hsh] at hg
      have hN := am_N_of hc
      have hset := am_ws_set (cl := cl) (SH := SH) (ρ := ρ) (dA := dA) (h := h) (h' := ((h.1.1, am_u h.1.2.1 i k (some x), h.1.2.2), h.2)) (i := i) (x := .inr (ci, (am_fs cl ρ ci i h).set k (.ref (ρ x)))) rfl (by rw [am_ce_o hsh]; exact congrArg (fun z => Sum.inr (ci, z)) (am_fs_set (h := h) (h' := ((h.1.1, am_u h.1.2.1 i k (some x), h.1.2.2), h.2)) (by rw [hN]; exact hkN) (by simp only [am_fv, hkd, am_u_same]; rfl) (fun j hj => am_fv_congr rfl rfl (am_u_ne (Or.inr hj)))).symm) (fun j hj => am_ce_congr rfl rfl (am_u_row _ _ _ _ hj))
      refine va_putF (v := .ref (ρ x)) hx hb hts hin ty0 hty hnm2 hown hp.2.2.1 hp.1 hp.2.1 hS i hg hc k hkN (hts _ hlink) (fun _ z => z) hfin (hnm.trans hinit) hdecl hpd (hfit _).1 (hfit _).2 (by rw [am_fs_len, hN]; exact hkN) hd (fun H1 locs1 hP1 hD1 hS1 => ?_)
      rw [hset] at hP1 hD1
      exact hk ρ H1 locs1 jl ⟨hP1, hD1, hp.2.2.1, (fun a b j hj => by
          by_cases hab : a = i ∧ b = k
          · have e1 : (some x : Option Nat) = some j := by rw [← hj]; exact (if_pos hab).symm
            cases e1
            exact hws.head x rfl
          · have e1 : h.1.2.1 a b = some j := by rw [← hj]; exact (if_neg hab).symm
            exact hp.2.2.2 a b j e1)⟩ h0 hr hS1 hl hwl hws.tail.tail hbc hbs
    · cases hf
  · cases hf

def im_ald (SH : Nat → am_S) (ty : FieldType) (t : Nat) : am_F := fun ls st h => match st with
  | .int j :: .ref i :: r => (match SH i with
    | .inl b => if b.1 = ty ∧ am_is j b.2 = true then some (.inl (t, ls, .int (h.2.1 i j.toNatClampNeg) :: r, h)) else none
    | _ => none)
  | _ => none
def im_lald (SH : Nat → am_S) (t : Nat) : am_F := fun ls st h => match st with
  | .int j :: .ref i :: r => (match SH i with
    | .inl b => if b.1 = .long ∧ am_is j b.2 = true then some (.inl (t, ls, .long (h.2.2 i j.toNatClampNeg) :: r, h)) else none
    | _ => none)
  | _ => none
def im_ast (SH : Nat → am_S) (ty : FieldType) (g : Int32 → Int32) (t : Nat) : am_F := fun ls st h => match st with
  | .int x :: .int j :: .ref i :: r => (match SH i with
    | .inl b => if b.1 = ty ∧ am_is j b.2 = true then some (.inl (t, ls, r, (h.1, am_u h.2.1 i j.toNatClampNeg (g x), h.2.2))) else none
    | _ => none)
  | _ => none
def im_last (SH : Nat → am_S) (t : Nat) : am_F := fun ls st h => match st with
  | .long x :: .int j :: .ref i :: r => (match SH i with
    | .inl b => if b.1 = .long ∧ am_is j b.2 = true then some (.inl (t, ls, r, (h.1, h.2.1, am_u h.2.2 i j.toNatClampNeg x))) else none
    | _ => none)
  | _ => none
def im_alen (SH : Nat → am_S) (ty : FieldType) (t : Nat) : am_F := fun ls st h => match st with
  | .ref i :: r => (match SH i with
    | .inl b => if b.1 = ty then some (.inl (t, ls, .int (Int32.ofNat b.2) :: r, h)) else none
    | _ => none)
  | _ => none
theorem ok_iald (hd : decode cc pc = .ok (.iaload, 1)) : am_okN cl SH ξ cc nL own nm Ts E pc (im_ald SH .int (pc + 1)) := by
  intro D dA p l e R s m args below meth c Q A ρ0 n0 bc bs X hRf hRl hE hA ls st h r hf
  obtain ⟨hx, hb, hml, hown, hnm, hts⟩ := id X
  unfold im_ald at hf
  split at hf
  · split at hf
    · split at hf
      · rename_i j i r9 _ b9 hsh hcnd
        obtain ⟨ty9, n⟩ := b9
        obtain ⟨ht9, hin⟩ := hcnd
        dsimp only at ht9 hin
        subst ht9
        cases hf
        refine ⟨_, _, _, _, rfl, Nat.le_refl _, Nat.le_refl _, fun _ _ hk ρ H locs jl hp h0 hr hS hl hwl hws hbc hbs => ?_⟩
        have hi : i < h.1.1 := hws.tail.head i rfl
        have hg := am_ws_get (cl := cl) (SH := SH) (ρ := ρ) (dA := dA) hi
        rw [am_ce_a hsh (fun z => by cases z)] at hg
        exact va_iald hx hb hp.2.2.1 hp.1 i 0 hg rfl (am_is_in hin) hd (hk ρ H locs jl hp h0 hr hS hl hwl (am_wl.cons am_wv.int hws.tail.tail) hbc hbs)
      · cases hf
    · cases hf
  · cases hf

theorem ok_bald (hd : decode cc pc = .ok (.baload, 1)) : am_okN cl SH ξ cc nL own nm Ts E pc (im_ald SH .byte (pc + 1)) := by
  intro D dA p l e R s m args below meth c Q A ρ0 n0 bc bs X hRf hRl hE hA ls st h r hf
  obtain ⟨hx, hb, hml, hown, hnm, hts⟩ := id X
  unfold im_ald at hf
  split at hf
  · split at hf
    · split at hf
      · rename_i j i r9 _ b9 hsh hcnd
        obtain ⟨ty9, n⟩ := b9
        obtain ⟨ht9, hin⟩ := hcnd
        dsimp only at ht9 hin
        subst ht9
        cases hf
        refine ⟨_, _, _, _, rfl, Nat.le_refl _, Nat.le_refl _, fun _ _ hk ρ H locs jl hp h0 hr hS hl hwl hws hbc hbs => ?_⟩
        have hi : i < h.1.1 := hws.tail.head i rfl
        have hg := am_ws_get (cl := cl) (SH := SH) (ρ := ρ) (dA := dA) hi
        rw [am_ce_a hsh (fun z => by cases z)] at hg
        exact va_bald hx hb hp.2.2.1 hp.1 i 1 hg rfl (am_is_in hin) hd (hk ρ H locs jl hp h0 hr hS hl hwl (am_wl.cons am_wv.int hws.tail.tail) hbc hbs)
      · cases hf
    · cases hf
  · cases hf

theorem ok_zald (hd : decode cc pc = .ok (.baload, 1)) : am_okN cl SH ξ cc nL own nm Ts E pc (im_ald SH .boolean (pc + 1)) := by
  intro D dA p l e R s m args below meth c Q A ρ0 n0 bc bs X hRf hRl hE hA ls st h r hf
  obtain ⟨hx, hb, hml, hown, hnm, hts⟩ := id X
  unfold im_ald at hf
  split at hf
  · split at hf
    · split at hf
      · rename_i j i r9 _ b9 hsh hcnd
        obtain ⟨ty9, n⟩ := b9
        obtain ⟨ht9, hin⟩ := hcnd
        dsimp only at ht9 hin
        subst ht9
        cases hf
        refine ⟨_, _, _, _, rfl, Nat.le_refl _, Nat.le_refl _, fun _ _ hk ρ H locs jl hp h0 hr hS hl hwl hws hbc hbs => ?_⟩
        have hi : i < h.1.1 := hws.tail.head i rfl
        have hg := am_ws_get (cl := cl) (SH := SH) (ρ := ρ) (dA := dA) hi
        rw [am_ce_a hsh (fun z => by cases z)] at hg
        exact va_zald hx hb hp.2.2.1 hp.1 i 2 hg rfl (am_is_in hin) hd (hk ρ H locs jl hp h0 hr hS hl hwl (am_wl.cons am_wv.int hws.tail.tail) hbc hbs)
      · cases hf
    · cases hf
  · cases hf

theorem ok_lald (hd : decode cc pc = .ok (.laload, 1)) : am_okN cl SH ξ cc nL own nm Ts E pc (im_lald SH (pc + 1)) := by
  intro D dA p l e R s m args below meth c Q A ρ0 n0 bc bs X hRf hRl hE hA ls st h r hf
  obtain ⟨hx, hb, hml, hown, hnm, hts⟩ := id X
  unfold im_lald at hf
  split at hf
  · split at hf
    · split at hf
      · rename_i j i r9 _ b9 hsh hcnd
        obtain ⟨ty9, n⟩ := b9
        obtain ⟨ht9, hin⟩ := hcnd
        dsimp only at ht9 hin
        subst ht9
        cases hf
        refine ⟨_, _, _, _, rfl, Nat.le_refl _, Nat.le_refl _, fun _ _ hk ρ H locs jl hp h0 hr hS hl hwl hws hbc hbs => ?_⟩
        have hi : i < h.1.1 := hws.tail.head i rfl
        have hg := am_ws_get (cl := cl) (SH := SH) (ρ := ρ) (dA := dA) hi
        rw [am_ce_l hsh] at hg
        exact va_lald hx hb hp.2.2.1 hp.1 i 3 hg rfl (am_is_in hin) hd (hk ρ H locs jl hp h0 hr hS hl hwl (am_wl.cons am_wv.long hws.tail.tail) hbc hbs)
      · cases hf
    · cases hf
  · cases hf

theorem ok_iast (hd : decode cc pc = .ok (.iastore, 1)) : am_okN cl SH ξ cc nL own nm Ts E pc (im_ast SH .int (fun x => x) (pc + 1)) := by
  intro D dA p l e R s m args below meth c Q A ρ0 n0 bc bs X hRf hRl hE hA ls st h r hf
  obtain ⟨hx, hb, hml, hown, hnm, hts⟩ := id X
  unfold im_ast at hf
  split at hf
  · split at hf
    · split at hf
      · rename_i x j i r9 _ b9 hsh hcnd
        obtain ⟨ty9, n⟩ := b9
        obtain ⟨ht9, hin⟩ := hcnd
        dsimp only at ht9 hin
        subst ht9
        cases hf
        refine ⟨_, _, _, _, rfl, Nat.le_refl _, Nat.le_refl _, fun _ _ hk ρ H locs jl hp h0 hr hS hl hwl hws hbc hbs => ?_⟩
        have hi : i < h.1.1 := hws.tail.tail.head i rfl
        have hg := am_ws_get (cl := cl) (SH := SH) (ρ := ρ) (dA := dA) hi
        rw [am_ce_a hsh (fun z => by cases z)] at hg
        have hset := am_ws_set (cl := cl) (SH := SH) (ρ := ρ) (dA := dA) (h := h) (h' := (h.1, am_u h.2.1 i j.toNatClampNeg x, h.2.2)) (i := i) (x := .inl (dA .int, n, .inl (upd (h.2.1 i) j.toNatClampNeg x))) rfl (by rw [am_ce_a hsh (fun z => by cases z)]; exact congrArg (fun z => Sum.inl (dA .int, n, Sum.inl z)) (am_u_eq _ _ _ _)) (fun j hj => am_ce_congr (am_u_row _ _ _ _ hj) rfl rfl)
        refine va_iast hx hb hp.2.2.1 hp.1 hp.2.1 hS i 0 hg rfl (am_is_in hin) hd (fun H1 locs1 hP1 hD1 hS1 => ?_)
        rw [hset] at hP1 hD1
        exact hk ρ H1 locs1 jl ⟨hP1, hD1, hp.2.2.1, hp.2.2.2⟩ h0 hr hS1 hl hwl hws.tail.tail.tail hbc hbs
      · cases hf
    · cases hf
  · cases hf

theorem ok_bast (hd : decode cc pc = .ok (.bastore, 1)) : am_okN cl SH ξ cc nL own nm Ts E pc (im_ast SH .byte (vp_nar .byte) (pc + 1)) := by
  intro D dA p l e R s m args below meth c Q A ρ0 n0 bc bs X hRf hRl hE hA ls st h r hf
  obtain ⟨hx, hb, hml, hown, hnm, hts⟩ := id X
  unfold im_ast at hf
  split at hf
  · split at hf
    · split at hf
      · rename_i x j i r9 _ b9 hsh hcnd
        obtain ⟨ty9, n⟩ := b9
        obtain ⟨ht9, hin⟩ := hcnd
        dsimp only at ht9 hin
        subst ht9
        cases hf
        refine ⟨_, _, _, _, rfl, Nat.le_refl _, Nat.le_refl _, fun _ _ hk ρ H locs jl hp h0 hr hS hl hwl hws hbc hbs => ?_⟩
        have hi : i < h.1.1 := hws.tail.tail.head i rfl
        have hg := am_ws_get (cl := cl) (SH := SH) (ρ := ρ) (dA := dA) hi
        rw [am_ce_a hsh (fun z => by cases z)] at hg
        have hset := am_ws_set (cl := cl) (SH := SH) (ρ := ρ) (dA := dA) (h := h) (h' := (h.1, am_u h.2.1 i j.toNatClampNeg (vp_nar .byte x), h.2.2)) (i := i) (x := .inl (dA .byte, n, .inl (upd (h.2.1 i) j.toNatClampNeg (vp_nar .byte x)))) rfl (by rw [am_ce_a hsh (fun z => by cases z)]; exact congrArg (fun z => Sum.inl (dA .byte, n, Sum.inl z)) (am_u_eq _ _ _ _)) (fun j hj => am_ce_congr (am_u_row _ _ _ _ hj) rfl rfl)
        refine va_bast hx hb hp.2.2.1 hp.1 hp.2.1 hS i 1 hg rfl (am_is_in hin) hd (fun H1 locs1 hP1 hD1 hS1 => ?_)
        rw [hset] at hP1 hD1
        exact hk ρ H1 locs1 jl ⟨hP1, hD1, hp.2.2.1, hp.2.2.2⟩ h0 hr hS1 hl hwl hws.tail.tail.tail hbc hbs
      · cases hf
    · cases hf
  · cases hf

theorem ok_zast (hd : decode cc pc = .ok (.bastore, 1)) : am_okN cl SH ξ cc nL own nm Ts E pc (im_ast SH .boolean (vp_nar .boolean) (pc + 1)) := by
  intro D dA p l e R s m args below meth c Q A ρ0 n0 bc bs X hRf hRl hE hA ls st h r hf
  obtain ⟨hx, hb, hml, hown, hnm, hts⟩ := id X
  unfold im_ast at hf
  split at hf
  · split at hf
    · split at hf
      · rename_i x j i r9 _ b9 hsh hcnd
        obtain ⟨ty9, n⟩ := b9
        obtain ⟨ht9, hin⟩ := hcnd
        dsimp only at ht9 hin
        subst ht9
        cases hf
        refine ⟨_, _, _, _, rfl, Nat.le_refl _, Nat.le_refl _, fun _ _ hk ρ H locs jl hp h0 hr hS hl hwl hws hbc hbs => ?_⟩
        have hi : i < h.1.1 := hws.tail.tail.head i rfl
        have hg := am_ws_get (cl := cl) (SH := SH) (ρ := ρ) (dA := dA) hi
        rw [am_ce_a hsh (fun z => by cases z)] at hg
        have hset := am_ws_set (cl := cl) (SH := SH) (ρ := ρ) (dA := dA) (h := h) (h' := (h.1, am_u h.2.1 i j.toNatClampNeg (vp_nar .boolean x), h.2.2)) (i := i) (x := .inl (dA .boolean, n, .inl (upd (h.2.1 i) j.toNatClampNeg (vp_nar .boolean x)))) rfl (by rw [am_ce_a hsh (fun z => by cases z)]; exact congrArg (fun z => Sum.inl (dA .boolean, n, Sum.inl z)) (am_u_eq _ _ _ _)) (fun j hj => am_ce_congr (am_u_row _ _ _ _ hj) rfl rfl)
        refine va_zast hx hb hp.2.2.1 hp.1 hp.2.1 hS i 2 hg rfl (am_is_in hin) hd (fun H1 locs1 hP1 hD1 hS1 => ?_)
        rw [hset] at hP1 hD1
        exact hk ρ H1 locs1 jl ⟨hP1, hD1, hp.2.2.1, hp.2.2.2⟩ h0 hr hS1 hl hwl hws.tail.tail.tail hbc hbs
      · cases hf
    · cases hf
  · cases hf

theorem ok_last (hd : decode cc pc = .ok (.lastore, 1)) : am_okN cl SH ξ cc nL own nm Ts E pc (im_last SH (pc + 1)) := by
  intro D dA p l e R s m args below meth c Q A ρ0 n0 bc bs X hRf hRl hE hA ls st h r hf
  obtain ⟨hx, hb, hml, hown, hnm, hts⟩ := id X
  unfold im_last at hf
  split at hf
  · split at hf
    · split at hf
      · rename_i x j i r9 _ b9 hsh hcnd
        obtain ⟨ty9, n⟩ := b9
        obtain ⟨ht9, hin⟩ := hcnd
        dsimp only at ht9 hin
        subst ht9
        cases hf
        refine ⟨_, _, _, _, rfl, Nat.le_refl _, Nat.le_refl _, fun _ _ hk ρ H locs jl hp h0 hr hS hl hwl hws hbc hbs => ?_⟩
        have hi : i < h.1.1 := hws.tail.tail.head i rfl
        have hg := am_ws_get (cl := cl) (SH := SH) (ρ := ρ) (dA := dA) hi
        rw [am_ce_l hsh] at hg
        have hset := am_ws_set (cl := cl) (SH := SH) (ρ := ρ) (dA := dA) (h := h) (h' := (h.1, h.2.1, am_u h.2.2 i j.toNatClampNeg x)) (i := i) (x := .inl (dA .long, n, .inr (.inl (vp_updL (h.2.2 i) j.toNatClampNeg x)))) rfl (by rw [am_ce_l hsh]; exact congrArg (fun z => Sum.inl (dA .long, n, Sum.inr (Sum.inl z))) (am_u_eqL _ _ _ _)) (fun j hj => am_ce_congr rfl (am_u_row _ _ _ _ hj) rfl)
        refine va_last hx hb hp.2.2.1 hp.1 hp.2.1 hS i 3 hg rfl (am_is_in hin) hd (fun H1 locs1 hP1 hD1 hS1 => ?_)
        rw [hset] at hP1 hD1
        exact hk ρ H1 locs1 jl ⟨hP1, hD1, hp.2.2.1, hp.2.2.2⟩ h0 hr hS1 hl hwl hws.tail.tail.tail hbc hbs
      · cases hf
    · cases hf
  · cases hf

theorem ok_alen (hd : decode cc pc = .ok (.arraylength, 1)) : am_okN cl SH ξ cc nL own nm Ts E pc (im_alen SH .int (pc + 1)) := by
  intro D dA p l e R s m args below meth c Q A ρ0 n0 bc bs X hRf hRl hE hA ls st h r hf
  obtain ⟨hx, hb, hml, hown, hnm, hts⟩ := id X
  unfold im_alen at hf
  split at hf
  · split at hf
    · split at hf
      · rename_i i r9 _ b9 hsh ht9
        obtain ⟨ty9, n⟩ := b9
        dsimp only at ht9
        subst ht9
        cases hf
        refine ⟨_, _, _, _, rfl, Nat.le_refl _, Nat.le_refl _, fun _ _ hk ρ H locs jl hp h0 hr hS hl hwl hws hbc hbs => ?_⟩
        have hi : i < h.1.1 := hws.head i rfl
        have hg := am_ws_get (cl := cl) (SH := SH) (ρ := ρ) (dA := dA) hi
        rw [am_ce_a hsh (fun z => by cases z)] at hg
        exact va_alen hx hb hp.2.2.1 hp.1 i 0 hg rfl rfl hd (hk ρ H locs jl hp h0 hr hS hl hwl (am_wl.cons am_wv.int hws.tail) hbc hbs)
      · cases hf
    · cases hf
  · cases hf

theorem ok_alenb (hd : decode cc pc = .ok (.arraylength, 1)) : am_okN cl SH ξ cc nL own nm Ts E pc (im_alen SH .byte (pc + 1)) := by
  intro D dA p l e R s m args below meth c Q A ρ0 n0 bc bs X hRf hRl hE hA ls st h r hf
  obtain ⟨hx, hb, hml, hown, hnm, hts⟩ := id X
  unfold im_alen at hf
  split at hf
  · split at hf
    · split at hf
      · rename_i i r9 _ b9 hsh ht9
        obtain ⟨ty9, n⟩ := b9
        dsimp only at ht9
        subst ht9
        cases hf
        refine ⟨_, _, _, _, rfl, Nat.le_refl _, Nat.le_refl _, fun _ _ hk ρ H locs jl hp h0 hr hS hl hwl hws hbc hbs => ?_⟩
        have hi : i < h.1.1 := hws.head i rfl
        have hg := am_ws_get (cl := cl) (SH := SH) (ρ := ρ) (dA := dA) hi
        rw [am_ce_a hsh (fun z => by cases z)] at hg
        exact va_alen hx hb hp.2.2.1 hp.1 i 1 hg rfl rfl hd (hk ρ H locs jl hp h0 hr hS hl hwl (am_wl.cons am_wv.int hws.tail) hbc hbs)
      · cases hf
    · cases hf
  · cases hf

def im_obj (t : Nat) : am_F := fun ls st h => match st with
  | [.ref _] => some (.inl (t, ls, [], h))
  | _ => none
theorem ok_obj {idx : Nat} (h1 : Cond.methodLink own idx Lib.objectInit ∈ Ts) (h2 : Cond.instanceMethod Lib.objectInit ∈ Ts) (h3 : Cond.code Lib.objectInit ⟨#[0xb1]⟩ 1 none ∈ Ts) (hd : decode cc pc = .ok (.invokespecial idx, 3)) : am_okN cl SH ξ cc nL own nm Ts E pc (im_obj (pc + 3)) := by
  intro D dA p l e R s m args below meth c Q A ρ0 n0 bc bs X hRf hRl hE hA ls st h r hf
  obtain ⟨hx, hb, hml, hown, hnm, hts⟩ := id X
  unfold im_obj at hf
  split at hf
  · cases hf
    refine ⟨_, _, _, _, rfl, Nat.le_refl _, Nat.le_refl _, fun _ _ hk ρ H locs jl hp h0 hr hS hl hwl hws hbc hbs => ?_⟩
    exact W.objInit hx hb hown (hts _ h1) (hts _ h2) (hts _ h3) rfl (by rw [hml]; exact hl.2.1) (rest := []) rfl hd (by omega) (by show 2 * 0 + 0 + 12 ≤ _; omega) (hk ρ H locs jl hp h0 hr hS hl hwl am_wl.nil hbc hbs)
  · cases hf

end Heap

/-! ===== chain, times ===== -/
def o_chain (x1 x2 x3 x4 x5 x6 : Int32) : w_T → Nat × Int32 := fun w => match w with
  | ((nl, nq, np, nf, na, tn, tp), tb, fp, D) =>
    let t := a_bt (a_lt x5 6 && (a_lt x1 np && (a_lt x2 nl && a_dy x3))) (a_ev x6 tn)
    let s := a_run D 0 x3 x6 (-1)
    let x0 := s 8 (5 * a_ix x1 + a_ix x2)
    (if t = 0 then (if x4 = -1 then 0 else if a_lt x4 (a_links s 40 x0) = false then 1 else 0) else t,
     if x4 = -1 then nI (a_links s 40 x0) else a_tell s (a_ix x5) (a_ix (a_link s (a_ix x4) x0)))
def o_times (x1 x2 x3 x4 x5 : Int32) : w_T → Nat × Int32 := fun w => match w with
  | ((nl, nq, np, nf, na, tn, tp), tb, fp, D) =>
    (a_bt (a_lt x4 2 && (a_lt x1 np && (a_lt x2 nl && a_dy x3))) (a_ev x5 tn),
     if x4 = 0 then a_run D 0 x3 x5 (-1) 9 (5 * a_ix x1 + a_ix x2) else a_run D 0 x3 x5 (-1) 10 (5 * a_ix x1 + a_ix x2))
theorem a_bt_and {b c e : Bool} (h : b = true) : a_bt (b && c) e = a_bt c e := by subst h; rfl
section Chain2
variable {β : Bool} {xs : Nat → Int32} {L : Nat} {G : am_G} {I : a_F} {J : Nat → Nat → Int64}
theorem k_chain {d e : Nat} {w : w_T} (hC : c_I e w G I J) (hw : w_O w) (x1 x2 x3 x4 x5 x6 : Int32) : q_W β xs L (d + 6) 87 0 [.ref 0, .int x1, .int x2, .int x3, .int x4, .int x5, .int x6, .retAddr 0, .retAddr 0, .retAddr 0] [] (G, I, J) (k_T (o_chain x1 x2 x3 x4 x5 x6 w).1 w e I J (o_chain x1 x2 x3 x4 x5 x6 w).2) := by
  obtain ⟨⟨nl, nq, np, nf, na, tn, tp⟩, tb, fp, D⟩ := w
  have hC0 := hC
  obtain ⟨j, hL, hD, h3, h4, h5, h6⟩ := hC
  have hn5 := hw.1.1.2.1
  have hl5 : nl ≤ 5 := hn5.1
  have hp20 : np ≤ 20 := hn5.2.2.1
  have ht : tn ≤ 999 := hw.2.2.1
  have hR := hL.2.1
  have bad : ∀ t : Nat, t ≠ 0 → a_bt (a_lt x5 6 && (a_lt x1 np && (a_lt x2 nl && a_dy x3))) (a_ev x6 tn) = t → k_T (o_chain x1 x2 x3 x4 x5 x6 ((nl, nq, np, nf, na, tn, tp), tb, fp, D)).1 ((nl, nq, np, nf, na, tn, tp), tb, fp, D) e I J (o_chain x1 x2 x3 x4 x5 x6 ((nl, nq, np, nf, na, tn, tp), tb, fp, D)).2 (.inr t) ((am_thr (G, I, J)).1, I, J) := fun t ht0 hto => by
    have ev : (o_chain x1 x2 x3 x4 x5 x6 ((nl, nq, np, nf, na, tn, tp), tb, fp, D)).1 = t := by
      unfold o_chain
      dsimp only
      rw [hto, if_neg ht0]
    rw [ev]
    exact k_bad hC0 ht0 _
  refine g_87_0 hR _ _ _ _ _ _ ?_
  refine q_needN (d := d) hR x5 6 (by omega) (fun b5 => ?_) (fun b5 => bad 1 (by decide) (a_bt1 (by rw [b5]; rfl)))
  refine k_bond (d := d + 3) (nl := nl) (np := np) (tn := tn) hR hD.1.2.2.1 hD.1.1 h3.1 x1 x2 x3 x6 (fun ok => ⟨hR, ?_⟩) (fun t ht0 hto => bad t ht0 (by rw [a_bt_and b5]; exact hto))
  obtain ⟨p, l, day, k, hp, hl, hd, hk, rfl, rfl, rfl, rfl⟩ := a_bond_of hp20 hl5 ht ok
  obtain ⟨wh, hwh, rfl⟩ := a_lt_of (by omega) b5
  have bt0 : a_bt (a_lt (nI wh) 6 && (a_lt (nI p) np && (a_lt (nI l) nl && a_dy (nI day)))) (a_ev (nI k) tn) = 0 := by rw [a_bt_and b5]; exact ok
  have ev : o_chain (nI p) (nI l) (nI day) x4 (nI wh) (nI k) ((nl, nq, np, nf, na, tn, tp), tb, fp, D) = (if x4 = -1 then 0 else if a_lt x4 (a_links (a_run D 0 (nI day) (nI k) (-1)) 40 (a_run D 0 (nI day) (nI k) (-1) 8 (5 * p + l))) = false then 1 else 0, if x4 = -1 then nI (a_links (a_run D 0 (nI day) (nI k) (-1)) 40 (a_run D 0 (nI day) (nI k) (-1) 8 (5 * p + l))) else a_tell (a_run D 0 (nI day) (nI k) (-1)) wh (a_ix (a_link (a_run D 0 (nI day) (nI k) (-1)) (a_ix x4) (a_run D 0 (nI day) (nI k) (-1) 8 (5 * p + l))))) := by
    unfold o_chain
    dsimp only
    rw [bt0, if_pos rfl, show a_ix (nI p) = p from nI_clamp (by omega), show a_ix (nI l) = l from nI_clamp (by omega), show a_ix (nI wh) = wh from nI_clamp (by omega)]
  rw [ev]
  obtain ⟨n, hn, lk⟩ := a_lk_run hw.1 0 (nI day) (nI k) (-1)
  refine k_find (d := d + 4) hC0 hw k (fun I1 f1 C1 c1 k1 => ⟨hR, ?_⟩)
  refine k_live (d := d) (x := 0) (way := 0) C1 hw hd (k := k) (by omega) (by omega) (by decide) c1 k1 (fun G2 I2 J2 j2 f2 g2 C2 L2 S2 _ _ _ => ⟨L2.2.1, am_is_nI (by omega) (by omega), ?_⟩)
  have R2 := L2.2.1
  have S2' : c_S nq j2 I2 (a_run D 0 (nI day) (nI k) (-1)) := S2
  have lk' : a_lk n (a_run D 0 (nI day) (nI k) (-1)) := lk
  clear S2 lk
  generalize a_run D 0 (nI day) (nI k) (-1) = s at S2' lk' ⊢
  have e47 : I2 47 p = s 0 p := (S2'.1 p (by omega)).1
  have at84 : ∀ x i7 : Int32, x = s 8 (5 * p + l) → q_W β xs L (d + 6) 87 84 [.ref 0, .int (nI p), .int (nI l), .int (nI day), .int x4, .int (nI wh), .int (nI k), .int i7, .retAddr 0, .retAddr 0] [.int x] (G2, I2, J2) (k_T (if x4 = -1 then 0 else if a_lt x4 (a_links s 40 (s 8 (5 * p + l))) = false then 1 else 0) ((nl, nq, np, nf, na, tn, tp), tb, fp, D) e I J (if x4 = -1 then nI (a_links s 40 (s 8 (5 * p + l))) else a_tell s wh (a_ix (a_link s (a_ix x4) (s 8 (5 * p + l)))))) := fun x i7 hx => by
    subst hx
    have hin := lk'.2.1 (5 * p + l)
    generalize s 8 (5 * p + l) = x0 at hin ⊢
    refine g_87_84 R2 _ _ _ _ _ _ _ _ ?_
    refine g_24_0 R2 _ ?_
    refine k_lnL (e := e) L2 S2' lk' hn x0 40 0 x0 rfl hin ?_
    rw [Nat.zero_add]
    have hle := a_links_le s 40 x0
    refine ⟨fun z => ?_, fun z => ?_⟩
    · refine q_needN (d := d) R2 x4 _ (by omega) (fun b4 => ⟨R2, ?_⟩) (fun b4 => ?_)
      · obtain ⟨i, hi, rfl⟩ := a_lt_of (by omega) b4
        rw [if_neg z, if_neg z, b4, if_neg (by decide), show a_ix (nI i) = i from nI_clamp (by omega)]
        refine g_25_0 R2 _ _ _ ?_
        refine k_tlL (e := e) L2 S2' lk' hn (i := i) (w := wh) (by omega) hwh x0 i 0 40 x0 (Nat.zero_add _) hin hi ?_
        exact k_good (f1.tr f2) g2 C2 _
      · rw [if_neg z, if_neg z, b4, if_pos rfl]
        exact k_badF (G := G2) (f1.tr f2) g2 C2 (by decide) _
    · rw [if_pos z, if_pos z]
      exact k_good (f1.tr f2) g2 C2 _
  dsimp only
  rw [show (nI p).toNatClampNeg = p from nI_clamp (by omega), e47, s_bit1 _ (by omega)]
  have e5 : (nI p * 5 + nI l : Int32) = nI (5 * p + l) := by rw [show (5 : Int32) = nI 5 from rfl, pk_mul, Nat.mul_comm, nI_add]
  refine ⟨fun z => g_87_57 R2 _ _ _ _ _ _ _ ⟨fun _ => at84 _ _ ?_, fun q => absurd rfl q⟩, fun z => g_87_57 R2 _ _ _ _ _ _ _ ⟨fun q => absurd q (by decide), fun _ => ?_⟩⟩
  · have hb : bt (s 0 p) l = false := by
      cases hh : bt (s 0 p) l with
      | false => rfl
      | true => exact absurd hh z
    exact (lk'.2.2.2 p l (by omega) hb).symm
  · rw [e5, show (nI (5 * p + l)).toNatClampNeg = 5 * p + l from nI_clamp (by omega)]
    exact ⟨am_is_nI (by omega) (by omega), at84 _ _ ((S2'.2.2.1 p l (by omega) (by omega)).1 z)⟩
theorem k_times {d e : Nat} {w : w_T} (hC : c_I e w G I J) (hw : w_O w) (x1 x2 x3 x4 x5 : Int32) : q_W β xs L (d + 6) 88 0 [.ref 0, .int x1, .int x2, .int x3, .int x4, .int x5, .retAddr 0] [] (G, I, J) (k_T (o_times x1 x2 x3 x4 x5 w).1 w e I J (o_times x1 x2 x3 x4 x5 w).2) := by
  obtain ⟨⟨nl, nq, np, nf, na, tn, tp⟩, tb, fp, D⟩ := w
  have hC0 := hC
  obtain ⟨j, hL, hD, h3, h4, h5, h6⟩ := hC
  have hn5 := hw.1.1.2.1
  have hl5 : nl ≤ 5 := hn5.1
  have hp20 : np ≤ 20 := hn5.2.2.1
  have ht : tn ≤ 999 := hw.2.2.1
  have hR := hL.2.1
  have bad : ∀ t : Nat, t ≠ 0 → a_bt (a_lt x4 2 && (a_lt x1 np && (a_lt x2 nl && a_dy x3))) (a_ev x5 tn) = t → k_T (o_times x1 x2 x3 x4 x5 ((nl, nq, np, nf, na, tn, tp), tb, fp, D)).1 ((nl, nq, np, nf, na, tn, tp), tb, fp, D) e I J (o_times x1 x2 x3 x4 x5 ((nl, nq, np, nf, na, tn, tp), tb, fp, D)).2 (.inr t) ((am_thr (G, I, J)).1, I, J) := fun t ht0 hto => by
    have ev : (o_times x1 x2 x3 x4 x5 ((nl, nq, np, nf, na, tn, tp), tb, fp, D)).1 = t := hto
    rw [ev]
    exact k_bad hC0 ht0 _
  refine g_88_0 hR _ _ _ _ _ ?_
  refine q_needN (d := d) hR x4 2 (by omega) (fun b5 => ?_) (fun b5 => bad 1 (by decide) (a_bt1 (by rw [b5]; rfl)))
  refine k_bond (d := d + 3) (nl := nl) (np := np) (tn := tn) hR hD.1.2.2.1 hD.1.1 h3.1 x1 x2 x3 x5 (fun ok => ⟨hR, ?_⟩) (fun t ht0 hto => bad t ht0 (by rw [a_bt_and b5]; exact hto))
  obtain ⟨p, l, day, k, hp, hl, hd, hk, rfl, rfl, rfl, rfl⟩ := a_bond_of hp20 hl5 ht ok
  have bt0 : a_bt (a_lt x4 2 && (a_lt (nI p) np && (a_lt (nI l) nl && a_dy (nI day)))) (a_ev (nI k) tn) = 0 := by rw [a_bt_and b5]; exact ok
  have ev : o_times (nI p) (nI l) (nI day) x4 (nI k) ((nl, nq, np, nf, na, tn, tp), tb, fp, D) = (0, if x4 = 0 then a_run D 0 (nI day) (nI k) (-1) 9 (5 * p + l) else a_run D 0 (nI day) (nI k) (-1) 10 (5 * p + l)) := by
    unfold o_times
    dsimp only
    rw [bt0, show a_ix (nI p) = p from nI_clamp (by omega), show a_ix (nI l) = l from nI_clamp (by omega)]
  rw [ev]
  refine k_find (d := d + 4) hC0 hw k (fun I1 f1 C1 c1 k1 => ⟨hR, ?_⟩)
  refine k_live (d := d) (x := 0) (way := 0) C1 hw hd (k := k) (by omega) (by omega) (by decide) c1 k1 (fun G2 I2 J2 j2 f2 g2 C2 L2 S2 _ _ _ => ⟨L2.2.1, ?_⟩)
  have e5 : (nI p * 5 + nI l : Int32) = nI (5 * p + l) := by rw [show (5 : Int32) = nI 5 from rfl, pk_mul, Nat.mul_comm, nI_add]
  obtain ⟨-, s9, s10⟩ := S2.2.2.1 p l (by omega) (by omega)
  dsimp only at s9 s10 ⊢
  rw [e5, show (nI (5 * p + l)).toNatClampNeg = 5 * p + l from nI_clamp (by omega), s9, s10]
  refine ⟨fun z => ⟨am_is_nI (by omega) (by omega), g_88_75 L2.2.1 _ _ _ _ _ _ _ ?_⟩, fun z => ⟨am_is_nI (by omega) (by omega), g_88_75 L2.2.1 _ _ _ _ _ _ _ ?_⟩⟩
  · rw [if_neg z]; exact k_good (f1.tr f2) g2 C2 _
  · rw [if_pos z]; exact k_good (f1.tr f2) g2 C2 _
end Chain2

/-! ===== the two texts' own methods: length, charAt, indexOf ===== -/
section Txt
variable {ξ adV : Nat → Nat} {xs : Nat → Int32} {L : Nat} {cc : ByteArray} {nL : Nat} {own nm : String} {pc idx : Nat}
theorem ok_slen3 (w : Cond.methodLink own idx yJ0_length_8abf5 ∈ am_ts) (hd : decode cc pc = .ok (.invokevirtual idx, 3)) : am_okN vwCl q_SH ξ cc nL own nm am_ts (q_E ξ adV xs L) pc (im_slen 3 q_b3 (pc + 3)) := sorry
theorem ok_sat3 (w : Cond.methodLink own idx yJ0_charAt_5068e ∈ am_ts) (hd : decode cc pc = .ok (.invokevirtual idx, 3)) : am_okN vwCl q_SH ξ cc nL own nm am_ts (q_E ξ adV xs L) pc (im_sat 3 q_b3 (pc + 3)) := sorry
theorem ok_six4 (w : Cond.methodLink own idx yJ0_indexOf_0f7a4 ∈ am_ts) (hd : decode cc pc = .ok (.invokevirtual idx, 3)) : am_okN vwCl q_SH ξ cc nL own nm am_ts (q_E ξ adV xs L) pc (im_six 4 q_b4 (pc + 3)) := sorry
end Txt

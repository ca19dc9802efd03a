/-! ===== sets of facts in doubt: days of a way as digits ===== -/
def d_w : List Nat → Nat
  | [] => 1
  | c :: r => c * d_w r
def d_pk (cs : List Nat) (way i : Nat) : Nat := way / d_w (cs.drop (i + 1)) % cs.getD i 1
def d_fst (cs : List Nat) (way set : Nat) : Nat → Nat
  | 0 => 0
  | n + 1 => d_fst cs way set n + (if set / 2 ^ n % 2 = 1 then d_pk cs way n * d_w (cs.drop (n + 1)) else 0)
def d_one : List (List Nat) := [[1], [2], [3]]
def d_two : List (List Nat) := d_one.flatMap (fun r => [1 :: r, 2 :: r, 3 :: r])
def d_all : List (List Nat) := [] :: (d_one ++ (d_two ++ d_two.flatMap (fun r => [1 :: r, 2 :: r, 3 :: r])))
/-- the first way alike -/
theorem d_tab : ∀ cs ∈ d_all, ∀ way, way < d_w cs → ∀ set, set < 8 → d_fst cs way set cs.length < d_w cs ∧ ∀ i, i < cs.length → d_pk cs (d_fst cs way set cs.length) i = (if set / 2 ^ i % 2 = 1 then d_pk cs way i else 0) := by decide +kernel
theorem d_c3 {c : Nat} (h : 1 ≤ c ∧ c ≤ 3) : c = 1 ∨ c = 2 ∨ c = 3 := by omega
theorem d_mem : ∀ cs : List Nat, cs.length ≤ 3 → (∀ c ∈ cs, 1 ≤ c ∧ c ≤ 3) → cs ∈ d_all
  | [], _, _ => by decide
  | [a], _, h => by
    rcases d_c3 (h a (by simp)) with e | e | e <;> subst e <;> decide
  | [a, b], _, h => by
    rcases d_c3 (h a (by simp)) with e | e | e <;> subst e <;> rcases d_c3 (h b (by simp)) with e | e | e <;> subst e <;> decide
  | [a, b, c], _, h => by
    rcases d_c3 (h a (by simp)) with e | e | e <;> subst e <;> rcases d_c3 (h b (by simp)) with e | e | e <;> subst e <;> rcases d_c3 (h c (by simp)) with e | e | e <;> subst e <;> decide
  | a :: b :: c :: d :: r, hl, _ => by
    simp only [List.length_cons] at hl
    omega
/-- a set settles: ways alike on it tell alike -/
def d_R (cs : List Nat) (b : Nat → Bool) (set : Nat) : Prop := ∀ v w, v < d_w cs → w < v → (∀ i, i < cs.length → set / 2 ^ i % 2 = 1 → d_pk cs v i = d_pk cs w i) → b v = b w
def d_S (cs : List Nat) (b : Nat → Bool) (set : Nat) : Prop := ∀ w, w < d_w cs → b w = b (d_fst cs w set cs.length)
theorem d_fst_eq (cs : List Nat) (v w set : Nat) : ∀ n, (∀ i, i < n → set / 2 ^ i % 2 = 1 → d_pk cs v i = d_pk cs w i) → d_fst cs v set n = d_fst cs w set n
  | 0, _ => rfl
  | n + 1, h => by
    unfold d_fst
    rw [d_fst_eq cs v w set n (fun i hi => h i (by omega))]
    by_cases hb : set / 2 ^ n % 2 = 1
    · rw [if_pos hb, if_pos hb, h n (by omega) hb]
    · rw [if_neg hb, if_neg hb]
theorem d_SR {cs : List Nat} (hc : cs ∈ d_all) (b : Nat → Bool) {set : Nat} (hs : set < 8) : d_S cs b set ↔ d_R cs b set := by
  constructor
  · intro h v w hv hw hal
    rw [h v hv, h w (by omega), d_fst_eq cs v w set cs.length hal]
  · intro h w hw
    obtain ⟨h1, h2⟩ := d_tab cs hc w hw set hs
    have al : ∀ i, i < cs.length → set / 2 ^ i % 2 = 1 → d_pk cs (d_fst cs w set cs.length) i = d_pk cs w i := fun i hi hb => by rw [h2 i hi, if_pos hb]
    rcases Nat.lt_trichotomy (d_fst cs w set cs.length) w with hlt | heq | hgt
    · exact h w _ hw hlt (fun i hi hb => (al i hi hb).symm)
    · rw [heq]
    · exact (h _ w h1 hgt al).symm

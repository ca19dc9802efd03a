/-! ===== what happens, without a machine: D the data, in the reference's numbering; s the state: 0 bonds, 1 born, 2 born at, 3 spouse, 4 stay at, 5 since, 6 land of a place, 7 moved, 8 came, 9 gained, 10 lost, 11-16 records, 17 0 how many ===== -/
abbrev a_F : Type := Nat → Nat → Int32
def a_ix (x : Int32) : Nat := x.toNatClampNeg
def a_is (b : Bool) : Int32 := if b = true then 1 else 0
def a_has (s : a_F) (p : Int32) (l : Nat) : Bool := !decide (p = -1) && bt (s 0 (a_ix p)) l
/-- how many lands below n but l are in a person's bonds -/
def a_oth (x : Int32) (l : Nat) : Nat → Nat
  | 0 => 0
  | n + 1 => a_oth x l n + (if n ≠ l ∧ bt x n = true then 1 else 0)
/-- of what is asked: today, what (8 birth .. 14 act), place, to, the other's bonds at a wedding -/
abbrev a_C : Type := Int32 × Int32 × Int32 × Int32 × Int32
def a_val (D s : a_F) (c : a_C) (p l : Nat) : Nat → Int32
  | 0 => a_is (!decide ((if c.2.2.1 = -1 then s 4 p else c.2.2.1) = -1) && decide (s 6 (a_ix (if c.2.2.1 = -1 then s 4 p else c.2.2.1)) = nI l))
  | 1 => a_is (a_has s (D 62 p) l)
  | 2 => a_is (a_has s (D 63 p) l)
  | 3 => a_is (if c.2.1 = 8 then !decide (D 62 p = -1) && (!decide (D 63 p = -1) && (decide (s 3 (a_ix (D 62 p)) = D 63 p) && decide (s 3 (a_ix (D 63 p)) = D 62 p))) else !decide (s 3 p = -1))
  | 4 => if c.2.1 = 9 then a_is (bt c.2.2.2.2 l) else a_is (a_has s (s 3 p) l)
  | 5 => D 61 p
  | 6 => if s 1 p = -1 then 0 else (c.1 - s 1 p) / 365
  | 7 => if s 4 p ≠ -1 ∧ s 6 (a_ix (s 4 p)) = nI l then c.1 - s 5 p else 0
  | 8 => a_is (bt (s 0 p) l)
  | 9 => nI (a_oth (s 0 p) l (a_ix (D 59 3)))
  | 10 => a_is (decide (c.2.1 = 14) || decide (c.2.2.2.1 = nI l))
  | 11 => c.1 / 365
  | _ => if s 1 p = -1 ∨ s 7 (a_ix (s 2 p)) = -1 then 99999 else c.1 - s 7 (a_ix (s 2 p))
/-- an expression's codes -/
def a_ops (c : Nat → Int32) : Nat → Nat → List (Int32 × Int32)
  | 0, _ => []
  | n + 1, k => if c k = 0 then [] else if c k = 1 ∨ c k = 2 then (c k, c (k + 1)) :: a_ops c n (k + 2) else (c k, 0) :: a_ops c n (k + 1)
def a_works (op x y : Int32) : Int32 :=
  if op = 4 then a_is (!decide (x = 0) && !decide (y = 0)) else if op = 5 then a_is (!decide (x = 0) || !decide (y = 0)) else if op = 6 then a_is (decide (x < y)) else if op = 7 then a_is (decide (x = y))
  else if op = 8 then x + y else if op = 9 then x - y else if op = 10 then x * y else if y = 0 then 0 else x / y
def a_step (v : Nat → Int32) (st : List Int32) (op : Int32 × Int32) : List Int32 :=
  if op.1 = 1 then op.2 :: st else if op.1 = 2 then v (a_ix op.2) :: st else if op.1 = 3 then (match st with
    | x :: r => a_is (decide (x = 0)) :: r
    | [] => [])
  else match st with
    | y :: x :: r => a_works op.1 x y :: r
    | r => r
def a_worth (D : a_F) (v : Nat → Int32) (k : Nat) : Int32 := ((a_ops (D 86) 1211 k).foldl (a_step v) []).headD 0
/-- the first clause of an act, from the c-th on -/
def a_first (D : a_F) (v : Nat → Int32) (what wanted : Int32) (a : Nat) : Nat → Nat → Int32
  | 0, _ => -1
  | n + 1, c => if (D 81 (12 * a + c) = wanted ∧ D 82 (12 * a + c) = what) ∧ (D 84 (12 * a + c) = -1 ∨ a_worth D v (a_ix (D 84 (12 * a + c))) = 0) ∧ a_worth D v (a_ix (D 83 (12 * a + c))) ≠ 0 then nI (12 * a + c) else a_first D v what wanted a n (c + 1)
def a_choose (D : a_F) (v : Nat → Int32) (what wanted force : Int32) (l : Nat) : Nat → Nat → Int32
  | 0, _ => -1
  | n + 1, a => if bt force a = true ∧ D 74 a = nI l then (if a_first D v what wanted a (a_ix (D 79 a)) 0 = -1 then a_choose D v what wanted force l n (a + 1) else a_first D v what wanted a (a_ix (D 79 a)) 0) else a_choose D v what wanted force l n (a + 1)
def a_bit (l : Nat) : Int32 := 1 <<< (nI l &&& 31)
def a_rec (s : a_F) (n p k : Nat) (today fact on child : Int32) : a_F := am_u (am_u (am_u (am_u (am_u (am_u (am_u s 11 n (nI p)) 12 n today) 13 n (nI k)) 14 n fact) 15 n on) 16 n child) 17 0 (nI (n + 1))
def a_gain (s : a_F) (today fact : Int32) (p l k : Nat) (on child : Int32) : a_F :=
  a_rec (am_u (am_u (am_u s 0 p (s 0 p ||| a_bit l)) 9 (5 * p + l) (s 9 (5 * p + l) + 1)) 8 (5 * p + l) (s 17 0)) (a_ix (s 17 0)) p k today fact on child
def a_lose (s : a_F) (p l : Nat) : a_F := am_u (am_u (am_u s 0 p (s 0 p &&& (a_bit l ^^^ (-1)))) 10 (5 * p + l) (s 10 (5 * p + l) + 1)) 8 (5 * p + l) (-1)
def a_isk (D s : a_F) (today : Int32) (p l k : Nat) (gains : Bool) (c : Nat) : Bool :=
  (decide (D 62 c = nI p) || (decide (D 62 c = -1) && decide (D 63 c = nI p))) && (!decide (s 1 c = -1) && (decide ((today - s 1 c) / 365 < D 85 k) && !decide (bt (s 0 c) l = gains)))
def a_kids (D : a_F) (today fact : Int32) (p l k : Nat) (gains : Bool) : Nat → Nat → a_F → a_F
  | 0, _, s => s
  | n + 1, c, s => a_kids D today fact p l k gains n (c + 1) (if a_isk D s today p l k gains c = true then (if gains = true then a_gain s today fact c l k (s 8 (5 * p + l)) 1 else a_lose s c l) else s)
def a_lean (D s : a_F) (c : a_C) (wc : Nat → Int32) (p l : Nat) : Int32 :=
  if c.2.1 = 8 then (if a_has s (D 62 p) l = true then s 8 (5 * a_ix (D 62 p) + l) else if a_has s (D 63 p) l = true then s 8 (5 * a_ix (D 63 p) + l) else -1)
  else if c.2.1 = 9 ∧ bt c.2.2.2.2 l = true then wc l else -1
def a_change (D s : a_F) (c : a_C) (fact : Int32) (wc : Nat → Int32) (p l k : Nat) : a_F :=
  let gains := decide (D 81 k = 0)
  let s1 := if gains = true then a_gain s c.1 fact p l k (a_lean D s c wc p l) 0 else a_lose s p l
  if D 85 k = -1 then s1 else a_kids D c.1 fact p l k gains (a_ix (D 59 5)) 0 s1
def a_changes (D : a_F) (c : a_C) (fact : Int32) (wc ch : Nat → Int32) (p : Nat) : Nat → Nat → a_F → a_F
  | 0, _, s => s
  | n + 1, l, s => a_changes D c fact wc ch p n (l + 1) (if ch l = -1 then s else a_change D s c fact wc p l (a_ix (ch l)))
def a_pick (D s : a_F) (c : a_C) (force : Int32) (p l : Nat) : Int32 := a_choose D (a_val D s c p l) c.2.1 (if bt (s 0 p) l = true then 1 else 0) force l (a_ix (D 59 32)) 0
/-- a person is asked of the lands lo .. lo + n - 1 -/
def a_ask (D : a_F) (c : a_C) (fact force : Int32) (wc : Nat → Int32) (lo n p : Nat) (s : a_F) : a_F := a_changes D c fact wc (a_pick D s c force p) p n lo s
def a_all (D : a_F) (c : a_C) (fact force : Int32) (wc : Nat → Int32) (lo n : Nat) : Nat → Nat → a_F → a_F
  | 0, _, s => s
  | m + 1, p, s => a_all D c fact force wc lo n m (p + 1) (a_ask D c fact force wc lo n p s)
/-! acts in force, facts that are known -/
def a_knA (D : a_F) (k wo : Int32) (a : Nat) : Bool := !decide (nI a = wo) && s_kn (D 77) (D 78) k a
def a_knF (D : a_F) (k : Int32) (f : Nat) : Bool := s_kn (D 68) (D 69) k f
/-- (in force, struck) of the acts from n - 1 on upwards -/
def a_frc (D : a_F) (day k wo : Int32) (na : Nat) : Nat → Int32 × Int32
  | 0 => (0, 0)
  | m + 1 => let r := a_frc D day k wo na m
    let a := na - (m + 1)
    if a_knA D k wo a = true ∧ ¬ day < D 75 a ∧ day < D 76 a ∧ bt r.2 a = false then (r.1 ||| a_bit a, r.2 ||| D 80 a) else r
def a_force (D : a_F) (day k wo : Int32) : Int32 := (a_frc D day k wo (a_ix (D 59 32)) (a_ix (D 59 32))).1
/-! one happening -/
def a_birth (D : a_F) (today force : Int32) (f p : Nat) (s : a_F) : a_F :=
  if s 1 p = -1 then a_ask D (today, 8, D 67 f, -1, 0) (nI f) force (fun _ => -1) 0 (a_ix (D 59 3)) p (am_u (am_u s 1 p today) 2 p (D 67 f)) else s
def a_wed (D : a_F) (today force : Int32) (f p q : Nat) (s : a_F) : a_F :=
  let s1 := am_u (am_u s 3 p (nI q)) 3 q (nI p)
  let s2 := a_ask D (today, 9, D 67 f, -1, s 0 q) (nI f) force (fun l => s 8 (5 * q + l)) 0 (a_ix (D 59 3)) p s1
  a_ask D (today, 9, D 67 f, -1, s 0 p) (nI f) force (fun l => s 8 (5 * p + l)) 0 (a_ix (D 59 3)) q s2
def a_fact (D : a_F) (today force : Int32) (f : Nat) (s : a_F) : a_F :=
  if D 64 f = 0 then a_birth D today force f (a_ix (D 65 f)) s
  else if D 64 f = 1 then a_wed D today force f (a_ix (D 65 f)) (a_ix (D 66 f)) s
  else if D 64 f = 5 then a_all D (today, 13, D 67 f, D 66 f, 0) (nI f) force (fun _ => -1) 0 (a_ix (D 59 3)) (a_ix (D 59 5)) 0 (am_u (am_u s 6 (a_ix (D 67 f)) (D 66 f)) 7 (a_ix (D 67 f)) today)
  else if D 64 f = 6 then am_u (am_u s 4 (a_ix (D 65 f)) (D 67 f)) 5 (a_ix (D 65 f)) today
  else a_ask D (today, D 64 f + 8, -1, D 66 f, 0) (nI f) force (fun _ => -1) 0 (a_ix (D 59 3)) (a_ix (D 65 f)) s
def a_act (D : a_F) (today force : Int32) (a : Nat) (s : a_F) : a_F :=
  if bt force a = true then a_all D (today, 14, -1, D 74 a, 0) (-1) force (fun _ => -1) (a_ix (D 74 a)) 1 (a_ix (D 59 5)) 0 s else s
def a_event (D : a_F) (k wo : Int32) (s : a_F) (key : Nat) : a_F :=
  let today := nI (key / 128)
  let force := a_force D today k wo
  if key % 128 < 12 then a_act D today force (key % 128) s else a_fact D today force (key % 128 - 12) s
/-! facts in doubt, and the days of a way -/
def a_dbs (D : a_F) (k : Int32) : Nat → Nat → List Nat
  | 0, _ => []
  | n + 1, f => if a_knF D k f = true ∧ ¬ D 70 f < 2 then f :: a_dbs D k n (f + 1) else a_dbs D k n (f + 1)
def a_doubts (D : a_F) (k : Int32) : List Nat := (a_dbs D k (a_ix (D 59 6)) 0).take 3
def a_ways (D : a_F) : List Nat → Nat
  | [] => 1
  | f :: r => a_ix (D 70 f) * a_ways D r
/-- which of its days a fact has in a way -/
def a_day (D : a_F) (way : Nat) : List Nat → Nat → Nat
  | [], _ => 0
  | f :: r, g => if f = g then way / a_ways D r % a_ix (D 70 f) else a_day D way r g
def a_on (D : a_F) (k : Int32) (way f : Nat) : Int32 := D 71 (3 * f + a_day D way (a_doubts D k) f)
/-! the calendar -/
def a_ins (x : Nat) : List Nat → List Nat
  | [] => [x]
  | y :: r => if x < y then x :: y :: r else y :: a_ins x r
def a_calA (D : a_F) (k wo last : Int32) : Nat → Nat → List Nat → List Nat
  | 0, _, c => c
  | n + 1, a, c => a_calA D k wo last n (a + 1) (if a_knA D k wo a = true ∧ D 75 a < D 76 a ∧ ¬ last < D 75 a then a_ins (a_ix (D 75 a) * 128 + a) c else c)
def a_calF (D : a_F) (k last : Int32) (way : Nat) : Nat → Nat → List Nat → List Nat
  | 0, _, c => c
  | n + 1, f, c => a_calF D k last way n (f + 1) (if a_knF D k f = true ∧ ¬ last < a_on D k way f then a_ins (a_ix (a_on D k way f) * 128 + (12 + f)) c else c)
def a_cal (D : a_F) (k wo last : Int32) (way : Nat) : List Nat := a_calF D k last way (a_ix (D 59 6)) 0 (a_calA D k wo last (a_ix (D 59 32)) 0 [])
def a_init (D : a_F) : a_F := fun c i => if c = 0 ∨ c = 9 ∨ c = 10 ∨ c = 17 then 0 else if c = 6 then D 60 i else -1
/-- a way of the evening k, up to a day, an act taken as not known -/
def a_run (D : a_F) (way : Nat) (last k wo : Int32) : a_F := (a_cal D k wo last way).foldl (a_event D k wo) (a_init D)

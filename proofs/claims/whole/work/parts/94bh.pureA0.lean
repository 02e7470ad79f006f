/-! the law's text: a reader of numbers -/
abbrev zR : Type := Bool × List Int32 × Nat
theorem ff {P : Prop} (h : false = true) : P := Bool.noConfusion h
def isdg (b : Nat) : Bool := decide (48 ≤ b) && decide (b ≤ 57)
def rnk (b : Nat) : Nat := if b = 124 then 0 else if b = 38 then 1 else if b = 60 ∨ b = 61 ∨ b = 62 then 2 else if b = 43 ∨ b = 45 then 3 else if b = 42 ∨ b = 47 ∨ b = 37 then 4 else 9
def chn (x : Nat → Nat) (s : Nat → zR) (r : Nat) : Nat → List Int32 → Nat → zR
  | 0, cs, p => (true, cs, p)
  | k + 1, cs, p => if rnk (x p) = r then (if (s (p + 1)).1 = true then chn x s r k (cs ++ (s (p + 1)).2.1 ++ [-nI (x p)]) (s (p + 1)).2.2 else (false, [], (s (p + 1)).2.2)) else (true, cs, p)
theorem chn_s (x : Nat → Nat) (s : Nat → zR) (r k : Nat) (cs : List Int32) (p : Nat) : chn x s r (k + 1) cs p = if rnk (x p) = r then (if (s (p + 1)).1 = true then chn x s r k (cs ++ (s (p + 1)).2.1 ++ [-nI (x p)]) (s (p + 1)).2.2 else (false, [], (s (p + 1)).2.2)) else (true, cs, p) := rfl
def mst (r : Nat) : Nat := if r = 2 then 1 else 120
def jnd (x : Nat → Nat) (s : Nat → zR) (r : Nat) (p : Nat) : zR := if (s p).1 = true then chn x s r (mst r) (s p).2.1 (s p).2.2 else (false, [], (s p).2.2)
def lvl (x : Nat → Nat) (O : Nat → zR) : Nat → Nat → zR
  | 0 => O
  | i + 1 => jnd x (lvl x O i) (4 - i)
def dgs (x : Nat → Nat) : Nat → Nat → Nat → Nat × Nat
  | 0, v, p => (v, p)
  | k + 1, v, p => if isdg (x p) = true then dgs x k (10 * v + x p - 48) (p + 1) else (v, p)
theorem dgs_s (x : Nat → Nat) (k v p : Nat) : dgs x (k + 1) v p = if isdg (x p) = true then dgs x k (10 * v + x p - 48) (p + 1) else (v, p) := rfl
def lef (x : Nat → Nat) (p : Nat) (r : zR) : zR := if isdg (x p) = true then (true, [nI (dgs x 4 0 p).1], (dgs x 4 0 p).2) else if x p = 104 then (true, [-1], p + 1) else if x p = 110 then (true, [-2], p + 1) else if x p = 106 then (true, [-3], p + 1) else r
def enc (x : Nat → Nat) (r : zR) : zR := if r.1 = true ∧ x r.2.2 = 41 then (true, r.2.1, r.2.2 + 1) else (false, [], r.2.2)
def trn (b : Nat) (r : zR) : zR := if r.1 = true then (true, r.2.1 ++ [if b = 33 then -33 else -4], r.2.2) else (false, [], r.2.2)
def opd (x : Nat → Nat) : Nat → Nat → zR
  | 0 => fun p => lef x p (false, [], p)
  | o + 1 => fun p => lef x p (if x p = 40 then enc x (lvl x (opd x o) 5 (p + 1)) else if x p = 33 ∨ x p = 45 then trn (x p) (opd x o (p + 1)) else (false, [], p))
abbrev zL : Type := List Int32 × List Int32
def exq (x : Nat → Nat) : Nat → zR := lvl x (opd x 6) 5
def lin (x : Nat → Nat) (p : Nat) : Bool × zL × Nat :=
  if (exq x p).1 = true then
    (if x (exq x p).2.2 = 63 then (if (exq x ((exq x p).2.2 + 1)).1 = true then (true, ((exq x p).2.1, (exq x ((exq x p).2.2 + 1)).2.1), (exq x ((exq x p).2.2 + 1)).2.2) else (false, ([], []), (exq x ((exq x p).2.2 + 1)).2.2))
     else (true, ([], (exq x p).2.1), (exq x p).2.2))
  else (false, ([], []), (exq x p).2.2)
def lns (x : Nat → Nat) : Nat → List zL → Nat → Bool × List zL × Nat
  | 0, ls, p => (true, ls, p)
  | k + 1, ls, p => if x p = 59 then (if (lin x (p + 1)).1 = true then lns x k (ls ++ [(lin x (p + 1)).2.1]) (lin x (p + 1)).2.2 else (false, [], (lin x (p + 1)).2.2)) else (true, ls, p)
theorem lns_s (x : Nat → Nat) (k : Nat) (ls : List zL) (p : Nat) : lns x (k + 1) ls p = if x p = 59 then (if (lin x (p + 1)).1 = true then lns x k (ls ++ [(lin x (p + 1)).2.1]) (lin x (p + 1)).2.2 else (false, [], (lin x (p + 1)).2.2)) else (true, ls, p) := rfl
def txt (x : Nat → Nat) (n : Nat) : Bool × List zL × Nat :=
  if (lin x 0).1 = true then
    (if (lns x 119 [(lin x 0).2.1] (lin x 0).2.2).1 = true then
      (if (lns x 119 [(lin x 0).2.1] (lin x 0).2.2).2.2 = n then lns x 119 [(lin x 0).2.1] (lin x 0).2.2 else (false, [], (lns x 119 [(lin x 0).2.1] (lin x 0).2.2).2.2))
     else (false, [], (lns x 119 [(lin x 0).2.1] (lin x 0).2.2).2.2))
  else (false, [], (lin x 0).2.2)
/-! working it out -/
def two (sg a b : Int32) : Int32 :=
  if sg = 38 then (if a = 0 then 0 else if b = 0 then 0 else 1) else if sg = 42 then a * b else if sg = 43 then a + b else if sg = 45 then a - b
  else if sg = 47 then (if b = 0 then 0 else a / b) else if sg = 60 then (if b ≤ a then 0 else 1) else if sg = 61 then (if a = b then 1 else 0)
  else if sg = 62 then (if a ≤ b then 0 else 1) else if sg = 124 then (if a = 0 then (if b = 0 then 0 else 1) else 1) else (if b = 0 then 0 else a - a / b * b)
def sgn (c : Int32) : Bool := decide (c = -37) || decide (c = -38) || decide (c = -42) || decide (c = -43) || decide (c = -45) || decide (c = -47) || decide (c = -60) || decide (c = -61) || decide (c = -62) || decide (c = -124)
/-- one code; none: there is too little, or it is no code of this kind -/
def stp (e : Nat → Int32) (c : Int32) (st : List Int32) : Option (List Int32) :=
  if c < 0 then
    (if c = -1 then some (e 0 :: st) else if c = -2 then some (e 1 :: st) else if c = -3 then some (e 2 :: st)
     else if c = -4 then (match st with | a :: s => some (-a :: s) | [] => none)
     else if c = -33 then (match st with | a :: s => some ((if a = 0 then 1 else 0) :: s) | [] => none)
     else if sgn c = true then (match st with | b :: a :: s => some (two (-c) a b :: s) | _ => none) else none)
  else some (c :: st)
def evO (e : Nat → Int32) : List Int32 → List Int32 → Option (List Int32)
  | [], st => some st
  | c :: cs, st => match stp e c st with
    | some s => evO e cs s
    | none => none
theorem evO_app (e : Nat → Int32) : ∀ (cs ds st : List Int32) (s : List Int32), evO e cs st = some s → evO e (cs ++ ds) st = evO e ds s
  | [], ds, st, s, h => by
    cases h
    rfl
  | c :: cs, ds, st, s, h => by
    show (match stp e c st with | some s => evO e (cs ++ ds) s | none => none) = _
    have h : (match stp e c st with | some s => evO e cs s | none => none) = some s := h
    cases hs : stp e c st with
    | none =>
      rw [hs] at h
      cases h
    | some s1 =>
      rw [hs] at h
      exact evO_app e cs ds s1 s h
/-- codes that leave just one value more -/
def PE (cs : List Int32) : Prop := ∀ (e : Nat → Int32) (st : List Int32), ∃ v : Int32, evO e cs st = some (v :: st)
def vE (e : Nat → Int32) (cs : List Int32) : Int32 := match evO e cs [] with
  | some (v :: _) => v
  | _ => 0
theorem PE_v {cs : List Int32} (h : PE cs) (e : Nat → Int32) : evO e cs [] = some [vE e cs] := by
  obtain ⟨v, hv⟩ := h e []
  unfold vE
  rw [hv]
theorem evO_1 (e : Nat → Int32) (c : Int32) (st : List Int32) : evO e [c] st = stp e c st := by
  show (match stp e c st with | some s => evO e [] s | none => none) = _
  cases stp e c st <;> rfl
theorem PE_push {v : Nat} (hv : v < 2 ^ 31) : PE [nI v] := fun e st => ⟨nI v, by rw [evO_1]; unfold stp; rw [if_neg (nI_pos hv)]⟩
theorem PE_nm (c : Int32) (h : c = -1 ∨ c = -2 ∨ c = -3) : PE [c] := fun e st => by
  rcases h with rfl | rfl | rfl
  · exact ⟨e 0, rfl⟩
  · exact ⟨e 1, rfl⟩
  · exact ⟨e 2, rfl⟩
theorem PE_un {cs : List Int32} (h : PE cs) (c : Int32) (hc : c = -33 ∨ c = -4) : PE (cs ++ [c]) := fun e st => by
  obtain ⟨v, hv⟩ := h e st
  rw [evO_app e cs [c] st _ hv, evO_1]
  rcases hc with rfl | rfl
  · exact ⟨if v = 0 then 1 else 0, rfl⟩
  · exact ⟨-v, rfl⟩
theorem sgn_or {c : Int32} (h : sgn c = true) : c = -37 ∨ c = -38 ∨ c = -42 ∨ c = -43 ∨ c = -45 ∨ c = -47 ∨ c = -60 ∨ c = -61 ∨ c = -62 ∨ c = -124 := by
  unfold sgn at h
  simp only [Bool.or_eq_true, decide_eq_true_eq] at h
  rcases h with ((((((((h | h) | h) | h) | h) | h) | h) | h) | h) | h <;> simp [h]
theorem stp_two {c : Int32} (hc : sgn c = true) (e : Nat → Int32) (a b : Int32) (s : List Int32) : stp e c (b :: a :: s) = some (two (-c) a b :: s) := by
  rcases sgn_or hc with rfl | rfl | rfl | rfl | rfl | rfl | rfl | rfl | rfl | rfl <;> rfl
theorem PE_two {cs ds : List Int32} (h : PE cs) (h2 : PE ds) {c : Int32} (hc : sgn c = true) : PE (cs ++ ds ++ [c]) := fun e st => by
  obtain ⟨v, hv⟩ := h e st
  obtain ⟨w, hw⟩ := h2 e (v :: st)
  have h3 : evO e (cs ++ ds) st = some (w :: v :: st) := by rw [evO_app e cs ds st _ hv, hw]
  rw [evO_app e (cs ++ ds) [c] st _ h3, evO_1, stp_two hc]
  exact ⟨_, rfl⟩
theorem rnk_sgn {b r : Nat} (h : rnk b = r) (hr : r ≤ 4) : sgn (-nI b) = true ∧ b < 128 ∧ (b = 37 ∨ b = 38 ∨ b = 42 ∨ b = 43 ∨ b = 45 ∨ b = 47 ∨ b = 60 ∨ b = 61 ∨ b = 62 ∨ b = 124) := by
  have hb : b = 37 ∨ b = 38 ∨ b = 42 ∨ b = 43 ∨ b = 45 ∨ b = 47 ∨ b = 60 ∨ b = 61 ∨ b = 62 ∨ b = 124 := by
    unfold rnk at h
    repeat' split at h
    all_goals omega
  refine ⟨?_, by omega, hb⟩
  rcases hb with rfl | rfl | rfl | rfl | rfl | rfl | rfl | rfl | rfl | rfl <;> decide
/-- what a reader of a part does: it goes on, stays in the text, and what it laid leaves one value -/
def okR (n : Nat) (s : Nat → zR) : Prop := ∀ p : Nat, p ≤ n → p ≤ (s p).2.2 ∧ (s p).2.2 ≤ n ∧ ((s p).1 = true → p < (s p).2.2 ∧ 1 ≤ (s p).2.1.length ∧ (s p).2.1.length + p ≤ (s p).2.2 ∧ PE (s p).2.1)
theorem okR_chn {x : Nat → Nat} {n : Nat} (hx : ∀ p : Nat, x p < 256 → p < n) {s : Nat → zR} (hs : okR n s) {r : Nat} (hr : r ≤ 4) : ∀ (k : Nat) (cs : List Int32) (p p0 : Nat), p0 < p → p ≤ n → 1 ≤ cs.length → cs.length + p0 ≤ p → PE cs →
    p ≤ (chn x s r k cs p).2.2 ∧ (chn x s r k cs p).2.2 ≤ n ∧ ((chn x s r k cs p).1 = true → p0 < (chn x s r k cs p).2.2 ∧ 1 ≤ (chn x s r k cs p).2.1.length ∧ (chn x s r k cs p).2.1.length + p0 ≤ (chn x s r k cs p).2.2 ∧ PE (chn x s r k cs p).2.1)
  | 0, cs, p, p0, h0, h1, h2, h3, h4 => ⟨Nat.le_refl _, h1, fun _ => ⟨h0, h2, h3, h4⟩⟩
  | k + 1, cs, p, p0, h0, h1, h2, h3, h4 => by
    rw [chn_s]
    by_cases c : rnk (x p) = r
    · rw [if_pos c]
      obtain ⟨g1, g2, -⟩ := rnk_sgn c hr
      have hp := hx p (by omega)
      obtain ⟨q1, q2, q3⟩ := hs (p + 1) (by omega)
      by_cases c2 : (s (p + 1)).1 = true
      · rw [if_pos c2]
        obtain ⟨q4, q5, q6, q7⟩ := q3 c2
        have := okR_chn hx hs hr k (cs ++ (s (p + 1)).2.1 ++ [-nI (x p)]) (s (p + 1)).2.2 p0 (by omega) q2 (by simp only [List.length_append, List.length_singleton]; omega) (by simp only [List.length_append, List.length_singleton]; omega) (PE_two h4 q7 g1)
        exact ⟨by omega, this.2.1, this.2.2⟩
      · rw [if_neg c2]
        exact ⟨by show p ≤ (s (p + 1)).2.2; omega, q2, fun c => ff c⟩
    · rw [if_neg c]
      exact ⟨Nat.le_refl _, h1, fun _ => ⟨h0, h2, h3, h4⟩⟩
theorem okR_jnd {x : Nat → Nat} {n : Nat} (hx : ∀ p : Nat, x p < 256 → p < n) {s : Nat → zR} (hs : okR n s) {r : Nat} (hr : r ≤ 4) : okR n (jnd x s r) := by
  intro p hp
  obtain ⟨q1, q2, q3⟩ := hs p hp
  unfold jnd
  by_cases c : (s p).1 = true
  · rw [if_pos c]
    obtain ⟨q4, q5, q6, q7⟩ := q3 c
    have := okR_chn hx hs hr (mst r) (s p).2.1 (s p).2.2 p q4 q2 q5 q6 q7
    exact ⟨by omega, this.2.1, this.2.2⟩
  · rw [if_neg c]
    exact ⟨q1, q2, fun c => ff c⟩
theorem okR_lvl {x : Nat → Nat} {n : Nat} (hx : ∀ p : Nat, x p < 256 → p < n) {O : Nat → zR} (hO : okR n O) : ∀ i : Nat, okR n (lvl x O i)
  | 0 => hO
  | i + 1 => okR_jnd hx (okR_lvl hx hO i) (by omega)
theorem dgs_le {x : Nat → Nat} {n : Nat} (hx : ∀ p : Nat, x p < 256 → p < n) : ∀ k v p : Nat, p ≤ n → p ≤ (dgs x k v p).2 ∧ (dgs x k v p).2 ≤ n ∧ (dgs x k v p).1 + 1 ≤ 10 ^ k * (v + 1)
  | 0, v, p, hp => ⟨Nat.le_refl _, hp, by show v + 1 ≤ _; omega⟩
  | k + 1, v, p, hp => by
    rw [dgs_s]
    by_cases c : isdg (x p) = true
    · rw [if_pos c]
      unfold isdg at c
      simp only [Bool.and_eq_true, decide_eq_true_eq] at c
      have h1 := hx p (by omega)
      obtain ⟨q1, q2, q3⟩ := dgs_le hx k (10 * v + x p - 48) (p + 1) (by omega)
      refine ⟨by omega, q2, Nat.le_trans q3 ?_⟩
      rw [Nat.pow_succ, Nat.mul_assoc]
      exact Nat.mul_le_mul_left _ (by omega)
    · rw [if_neg c]
      refine ⟨Nat.le_refl _, hp, ?_⟩
      show v + 1 ≤ _
      have := Nat.mul_le_mul_right (v + 1) (Nat.one_le_pow (k + 1) 10 (by decide))
      omega
theorem dgs_4 {x : Nat → Nat} {n : Nat} (hx : ∀ p : Nat, x p < 256 → p < n) {p : Nat} (hp : p ≤ n) (c : isdg (x p) = true) : p < (dgs x 4 0 p).2 ∧ (dgs x 4 0 p).2 ≤ n ∧ (dgs x 4 0 p).1 < 10000 := by
  have h := dgs_le hx 4 0 p hp
  refine ⟨?_, h.2.1, by have := h.2.2; omega⟩
  show p < (if isdg (x p) = true then dgs x 3 (10 * 0 + x p - 48) (p + 1) else (0, p)).2
  rw [if_pos c]
  have h1 : p < n := by
    unfold isdg at c
    simp only [Bool.and_eq_true, decide_eq_true_eq] at c
    exact hx p (by omega)
  have := dgs_le hx 3 (10 * 0 + x p - 48) (p + 1) (by omega)
  omega
theorem okR_lef {x : Nat → Nat} {n : Nat} (hx : ∀ p : Nat, x p < 256 → p < n) {f : Nat → zR} (hf : okR n f) : okR n (fun p => lef x p (f p)) := by
  intro p hp
  dsimp only
  unfold lef
  by_cases c : isdg (x p) = true
  · rw [if_pos c]
    have h := dgs_4 hx hp c
    exact ⟨by show p ≤ (dgs x 4 0 p).2; omega, h.2.1, fun _ => ⟨h.1, Nat.le_refl 1, by show 1 + p ≤ (dgs x 4 0 p).2; omega, PE_push (by omega)⟩⟩
  rw [if_neg c]
  by_cases c1 : x p = 104
  · rw [if_pos c1]
    have := hx p (by omega)
    exact ⟨Nat.le_succ p, this, fun _ => ⟨Nat.lt_succ_self p, Nat.le_refl 1, by show 1 + p ≤ p + 1; omega, PE_nm _ (.inl rfl)⟩⟩
  rw [if_neg c1]
  by_cases c2 : x p = 110
  · rw [if_pos c2]
    have := hx p (by omega)
    exact ⟨Nat.le_succ p, this, fun _ => ⟨Nat.lt_succ_self p, Nat.le_refl 1, by show 1 + p ≤ p + 1; omega, PE_nm _ (.inr (.inl rfl))⟩⟩
  rw [if_neg c2]
  by_cases c3 : x p = 106
  · rw [if_pos c3]
    have := hx p (by omega)
    exact ⟨Nat.le_succ p, this, fun _ => ⟨Nat.lt_succ_self p, Nat.le_refl 1, by show 1 + p ≤ p + 1; omega, PE_nm _ (.inr (.inr rfl))⟩⟩
  rw [if_neg c3]
  exact hf p hp
theorem okR_opd {x : Nat → Nat} {n : Nat} (hx : ∀ p : Nat, x p < 256 → p < n) : ∀ o : Nat, okR n (opd x o)
  | 0 => okR_lef hx (f := fun p => (false, [], p)) (fun p hp => ⟨Nat.le_refl _, hp, fun c => ff c⟩)
  | o + 1 => by
    have ih := okR_opd hx o
    have il := okR_lvl hx ih 5
    refine okR_lef hx (f := fun p => if x p = 40 then enc x (lvl x (opd x o) 5 (p + 1)) else if x p = 33 ∨ x p = 45 then trn (x p) (opd x o (p + 1)) else (false, [], p)) (fun p hp => ?_)
    dsimp only
    by_cases c : x p = 40
    · rw [if_pos c]
      have h1 := hx p (by omega)
      obtain ⟨q1, q2, q3⟩ := il (p + 1) (by omega)
      unfold enc
      by_cases c2 : (lvl x (opd x o) 5 (p + 1)).1 = true ∧ x (lvl x (opd x o) 5 (p + 1)).2.2 = 41
      · rw [if_pos c2]
        obtain ⟨q4, q5, q6, q7⟩ := q3 c2.1
        have h2 := hx (lvl x (opd x o) 5 (p + 1)).2.2 (by omega)
        refine ⟨?_, h2, fun _ => ⟨?_, q5, ?_, q7⟩⟩
        · show p ≤ (lvl x (opd x o) 5 (p + 1)).2.2 + 1
          omega
        · show p < (lvl x (opd x o) 5 (p + 1)).2.2 + 1
          omega
        · show (lvl x (opd x o) 5 (p + 1)).2.1.length + p ≤ (lvl x (opd x o) 5 (p + 1)).2.2 + 1
          omega
      · rw [if_neg c2]
        exact ⟨by show p ≤ (lvl x (opd x o) 5 (p + 1)).2.2; omega, q2, fun c => ff c⟩
    rw [if_neg c]
    by_cases c1 : x p = 33 ∨ x p = 45
    · rw [if_pos c1]
      have h1 := hx p (by omega)
      obtain ⟨q1, q2, q3⟩ := ih (p + 1) (by omega)
      unfold trn
      by_cases c2 : (opd x o (p + 1)).1 = true
      · rw [if_pos c2]
        obtain ⟨q4, q5, q6, q7⟩ := q3 c2
        refine ⟨?_, q2, fun _ => ⟨?_, by simp, ?_, PE_un q7 _ ?_⟩⟩
        · show p ≤ (opd x o (p + 1)).2.2
          omega
        · show p < (opd x o (p + 1)).2.2
          omega
        · simp only [List.length_append, List.length_singleton]
          omega
        · by_cases c3 : x p = 33
          · rw [if_pos c3]
            exact .inl rfl
          · rw [if_neg c3]
            exact .inr rfl
      · rw [if_neg c2]
        exact ⟨by show p ≤ (opd x o (p + 1)).2.2; omega, q2, fun c => ff c⟩
    rw [if_neg c1]
    exact ⟨Nat.le_refl _, hp, fun c => ff c⟩
theorem okR_exq {x : Nat → Nat} {n : Nat} (hx : ∀ p : Nat, x p < 256 → p < n) : okR n (exq x) := okR_lvl hx (okR_opd hx 6) 5

/-! the best of a row of tries, the first of them: numbers; zF stands for none -/
def zF : Nat := 1000000
def bst (z : Nat) (f : Nat → Nat) : Nat → Nat × Nat
  | 0 => (z, 0)
  | n + 1 => if f (n + 1) < (bst z f n).1 then (f (n + 1), n + 1) else bst z f n
theorem bst_s (z : Nat) (f : Nat → Nat) (n : Nat) : bst z f (n + 1) = if f (n + 1) < (bst z f n).1 then (f (n + 1), n + 1) else bst z f n := rfl
theorem bst_y {z : Nat} {f : Nat → Nat} {n : Nat} (h : f (n + 1) < (bst z f n).1) : bst z f (n + 1) = (f (n + 1), n + 1) := by rw [bst_s, if_pos h]
theorem bst_n {z : Nat} {f : Nat → Nat} {n : Nat} (h : ¬ f (n + 1) < (bst z f n).1) : bst z f (n + 1) = bst z f n := by rw [bst_s, if_neg h]
theorem bst_le (z : Nat) (f : Nat → Nat) : ∀ n : Nat, (bst z f n).1 ≤ z
  | 0 => Nat.le_refl _
  | n + 1 => by
    have := bst_le z f n
    rw [bst_s]
    split
    · exact Nat.le_trans (Nat.le_of_lt (by assumption)) this
    · exact this
theorem bst_i (z : Nat) (f : Nat → Nat) : ∀ n : Nat, (bst z f n).2 ≤ n
  | 0 => Nat.le_refl _
  | n + 1 => by
    have := bst_i z f n
    rw [bst_s]
    split
    · exact Nat.le_refl _
    · exact Nat.le_succ_of_le this
/-- what the number of the best one tells -/
theorem bst_at (z : Nat) (f : Nat → Nat) : ∀ n : Nat, ((bst z f n).2 = 0 ∧ (bst z f n).1 = z) ∨ (0 < (bst z f n).2 ∧ (bst z f n).1 = f (bst z f n).2 ∧ (bst z f n).1 < z)
  | 0 => .inl ⟨rfl, rfl⟩
  | n + 1 => by
    have h := bst_at z f n
    have h2 := bst_le z f n
    rw [bst_s]
    split
    · rename_i c
      exact .inr ⟨Nat.succ_pos _, rfl, Nat.lt_of_lt_of_le c h2⟩
    · exact h
theorem bst_mono (z : Nat) (f : Nat → Nat) {n m : Nat} (h : n ≤ m) : (bst z f m).1 ≤ (bst z f n).1 := by
  induction h with
  | refl => exact Nat.le_refl _
  | step _ ih =>
    rw [bst_s]
    split
    · exact Nat.le_trans (Nat.le_of_lt (by assumption)) ih
    · exact ih
theorem bst_min (z : Nat) (f : Nat → Nat) {n k : Nat} (h1 : 1 ≤ k) (h2 : k ≤ n) : (bst z f n).1 ≤ f k := by
  obtain ⟨j, rfl⟩ : ∃ j, k = j + 1 := ⟨k - 1, by omega⟩
  refine Nat.le_trans (bst_mono z f h2) ?_
  rw [bst_s]
  split
  · exact Nat.le_refl _
  · exact Nat.le_of_not_lt (by assumption)
theorem bst_cg {z : Nat} {f g : Nat → Nat} : ∀ {n : Nat}, (∀ k, 1 ≤ k → k ≤ n → f k = g k ∨ (z ≤ f k ∧ z ≤ g k)) → bst z f n = bst z g n
  | 0, _ => rfl
  | n + 1, h => by
    have e := bst_cg (n := n) (fun k h1 h2 => h k h1 (by omega))
    have l := bst_le z g n
    rw [bst_s, bst_s, e]
    rcases h (n + 1) (by omega) (Nat.le_refl _) with c | ⟨c1, c2⟩
    · rw [c]
    · rw [if_neg (by omega), if_neg (by omega)]
theorem bst_stop {z : Nat} {f : Nat → Nat} {n m : Nat} (h : n ≤ m) (hk : ∀ k, n < k → k ≤ m → (bst z f n).1 ≤ f k) : bst z f m = bst z f n := by
  induction h with
  | refl => rfl
  | @step m h ih =>
    have e := ih (fun k h1 h2 => hk k h1 (by omega))
    rw [bst_s, e, if_neg (Nat.not_lt.mpr (hk (m + 1) (by have : n ≤ m := h; omega) (Nat.le_refl _)))]
/-- tables by levels and by how many: g of how many, of what is left if it breaks, if not -/
def lad (g : Nat → Nat → Nat → Nat) : Nat → Nat → Nat → Nat
  | 0, _, _ => 0
  | n + 1, j, m => (bst (if m = 1 then 0 else zF) (fun k => if j = 0 then zF else g m (lad g n (j - 1) k) (lad g n j (m - k))) (m - 1)).1
theorem lad_fuel (g : Nat → Nat → Nat → Nat) : ∀ n n' j m : Nat, 1 ≤ m → m ≤ n → m ≤ n' → lad g n j m = lad g n' j m
  | 0, _, _, _, h1, h2, _ => by omega
  | _ + 1, 0, _, _, h1, _, h3 => by omega
  | n + 1, n' + 1, j, m, h1, h2, h3 => by
    show (bst _ _ _).1 = (bst _ _ _).1
    refine congrArg Prod.fst (bst_cg fun k k1 k2 => .inl ?_)
    rw [lad_fuel g n n' (j - 1) k k1 (by omega) (by omega), lad_fuel g n n' j (m - k) (by omega) (by omega) (by omega)]
def lT (g : Nat → Nat → Nat → Nat) (j m : Nat) : Nat := lad g 61 j m
def lf (g : Nat → Nat → Nat → Nat) (j m : Nat) : Nat → Nat := fun k => if j = 0 then zF else g m (lT g (j - 1) k) (lT g j (m - k))
def lB (g : Nat → Nat → Nat → Nat) (j m : Nat) : Nat × Nat := bst (if m = 1 then 0 else zF) (lf g j m) (m - 1)
theorem lT_eq (g : Nat → Nat → Nat → Nat) (j : Nat) {m : Nat} (h1 : 1 ≤ m) (h2 : m ≤ 61) : lT g j m = (lB g j m).1 := by
  show (bst _ _ _).1 = (bst _ _ _).1
  refine congrArg Prod.fst (bst_cg fun k k1 k2 => .inl ?_)
  unfold lf lT
  dsimp only
  rw [lad_fuel g 60 61 (j - 1) k k1 (by omega) (by omega), lad_fuel g 60 61 j (m - k) (by omega) (by omega) (by omega)]
/-- the ladder's rule: together or at worst, with the prices of a drop and of a jar -/
def gl (t : Bool) (d p m b w : Nat) : Nat := if b < zF ∧ w < zF then (if t then m + b + w else d + (if p + b < w then w else p + b)) else zF
theorem lT_le (g : Nat → Nat → Nat → Nat) (j : Nat) {m : Nat} (h1 : 1 ≤ m) (h2 : m ≤ 61) : lT g j m ≤ zF := by
  rw [lT_eq g j h1 h2]
  refine Nat.le_trans (bst_le _ _ _) ?_
  split
  · exact Nat.zero_le _
  · exact Nat.le_refl _
theorem lT_1 (g : Nat → Nat → Nat → Nat) (j : Nat) : lT g j 1 = 0 := by
  rw [lT_eq g j (by decide) (by decide)]
  rfl
theorem lT_0 (g : Nat → Nat → Nat → Nat) {m : Nat} (h1 : 2 ≤ m) (h2 : m ≤ 61) : lT g 0 m = zF := by
  rw [lT_eq g 0 (by omega) h2]
  unfold lB lf
  rw [if_neg (by omega), bst_stop (n := 0) (m := m - 1) (by omega) (fun k _ _ => ?_)]
  · rfl
  · exact Nat.le_refl _
theorem sq_ab {a b : Nat} (ha : 1 ≤ a) (hb : 1 ≤ b) : a * a + b * b + (a + b) ≤ (a + b) * (a + b) := by
  have h1 : a ≤ a * b := by
    have := Nat.mul_le_mul_left a hb
    omega
  have h2 : b ≤ a * b := by
    have := Nat.mul_le_mul_right b ha
    omega
  have e : (a + b) * (a + b) = a * a + b * b + (a * b + a * b) := by
    rw [Nat.add_mul, Nat.mul_add, Nat.mul_add, Nat.mul_comm b a]
    omega
  omega
/-- what isn't none is small -/
theorem lT_small {t : Bool} {d p : Nat} (hd : d ≤ 99) (hp : p ≤ 99) : ∀ M m : Nat, m ≤ M → ∀ j : Nat, 1 ≤ m → m ≤ 61 → lT (gl t d p) j m < zF → lT (gl t d p) j m ≤ (if t then m * m else 198 * m)
  | 0, _, h, _, h1, _, _ => by omega
  | M + 1, m, hM, j, h1, h2, hf => by
    rw [lT_eq _ j h1 h2] at hf ⊢
    by_cases c1 : m = 1
    · subst c1
      exact Nat.zero_le _
    unfold lB at hf ⊢
    rw [if_neg c1] at hf ⊢
    obtain ⟨-, e⟩ | ⟨i0, ei, hz⟩ := bst_at zF (lf (gl t d p) j m) (m - 1)
    · omega
    have hi := bst_i zF (lf (gl t d p) j m) (m - 1)
    rw [ei] at hf ⊢
    generalize (bst zF (lf (gl t d p) j m) (m - 1)).2 = k at *
    unfold lf at hf ⊢
    by_cases cj : j = 0
    · rw [if_pos cj] at hf
      omega
    rw [if_neg cj] at hf ⊢
    unfold gl at hf ⊢
    by_cases cc : lT (gl t d p) (j - 1) k < zF ∧ lT (gl t d p) j (m - k) < zF
    · have q1 := lT_small hd hp M k (by omega) (j - 1) (by omega) (by omega) cc.1
      have q2 := lT_small hd hp M (m - k) (by omega) j (by omega) (by omega) cc.2
      unfold gl at cc q1 q2
      rw [if_pos cc]
      cases t with
      | true =>
        simp only [if_true] at q1 q2 ⊢
        have := sq_ab (a := k) (b := m - k) (by omega) (by omega)
        rw [show k + (m - k) = m by omega] at this
        omega
      | false =>
        simp only [if_false, Bool.false_eq_true] at q1 q2 ⊢
        split <;> omega
    · unfold gl at cc
      rw [if_neg cc] at hf
      omega

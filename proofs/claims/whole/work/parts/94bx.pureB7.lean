/-! two towers -/
theorem bst_v (z : Nat) (f : Nat → Nat) (n : Nat) : (bst z f (n + 1)).1 = if f (n + 1) < (bst z f n).1 then f (n + 1) else (bst z f n).1 := by
  rw [bst_s]
  split <;> rfl
theorem bst_z {z : Nat} (hz : z ≤ zF) (f : Nat → Nat) : ∀ n : Nat, (bst z f n).1 = if z < (bst zF f n).1 then z else (bst zF f n).1
  | 0 => by
    show z = if z < zF then z else zF
    split <;> omega
  | n + 1 => by
    have ih := bst_z hz f n
    rw [bst_v, bst_v, ih]
    repeat' split
    all_goals (first | rfl | omega)
abbrev g2 : Nat → Nat → Nat := gl false 1 0 0
theorem g2_mono {x x' y y' : Nat} (h : x ≤ x') (h2 : y ≤ y') : g2 x y ≤ g2 x' y' := by
  have hz := zF_e
  show gl false 1 0 0 x y ≤ gl false 1 0 0 x' y'
  unfold gl
  rw [if_neg (show ¬ (false = true) by decide), if_neg (show ¬ (false = true) by decide)]
  by_cases c : x' < zF ∧ y' < zF
  · rw [if_pos c, if_pos (by omega)]
    split <;> split <;> omega
  · rw [if_neg c]
    split
    · rename_i c2
      split <;> omega
    · exact Nat.le_refl _
theorem g2_l {x y : Nat} (h : x ≤ zF) : x ≤ g2 x y := by
  have hz := zF_e
  show x ≤ gl false 1 0 0 x y
  unfold gl
  rw [if_neg (show ¬ (false = true) by decide)]
  split
  · split <;> omega
  · exact h
def tw : Nat → Nat → Nat → Nat → Nat
  | 0, _, _, _ => 0
  | n + 1, a, b, j => (bst (bst (if a = 1 ∧ b = 1 then 0 else zF) (fun k => if j = 0 then zF else g2 (tw n k b (j - 1)) (tw n (a - k) b j)) (a - 1)).1 (fun k => if j = 0 then zF else g2 (tw n a k (j - 1)) (tw n a (b - k) j)) (b - 1)).1
theorem tw_fuel : ∀ n n' a b j : Nat, 1 ≤ a → 1 ≤ b → a + b ≤ n → a + b ≤ n' → tw n a b j = tw n' a b j
  | 0, _, _, _, _, h1, _, h3, _ => by omega
  | _ + 1, 0, _, _, _, h1, _, _, h4 => by omega
  | n + 1, n' + 1, a, b, j, h1, h2, h3, h4 => by
    show (bst _ _ _).1 = (bst _ _ _).1
    have e1 : (bst (if a = 1 ∧ b = 1 then 0 else zF) (fun k => if j = 0 then zF else g2 (tw n k b (j - 1)) (tw n (a - k) b j)) (a - 1)) = (bst (if a = 1 ∧ b = 1 then 0 else zF) (fun k => if j = 0 then zF else g2 (tw n' k b (j - 1)) (tw n' (a - k) b j)) (a - 1)) := bst_cg fun k k1 k2 => .inl (by rw [tw_fuel n n' k b (j - 1) k1 h2 (by omega) (by omega), tw_fuel n n' (a - k) b j (by omega) h2 (by omega) (by omega)])
    rw [e1]
    refine congrArg Prod.fst (bst_cg fun k k1 k2 => .inl ?_)
    rw [tw_fuel n n' a k (j - 1) h1 k1 (by omega) (by omega), tw_fuel n n' a (b - k) j h1 (by omega) (by omega) (by omega)]
def T2 (a b j : Nat) : Nat := tw 64 a b j
def f21 (a b j : Nat) : Nat → Nat := fun k => if j = 0 then zF else g2 (T2 k b (j - 1)) (T2 (a - k) b j)
def f22 (a b j : Nat) : Nat → Nat := fun k => if j = 0 then zF else g2 (T2 a k (j - 1)) (T2 a (b - k) j)
def z2 (a b : Nat) : Nat := if a = 1 ∧ b = 1 then 0 else zF
def B21 (a b j : Nat) : Nat × Nat := bst (z2 a b) (f21 a b j) (a - 1)
def B22 (a b j : Nat) : Nat × Nat := bst (B21 a b j).1 (f22 a b j) (b - 1)
theorem z2_le (a b : Nat) : z2 a b ≤ zF := by
  have hz := zF_e
  unfold z2
  split <;> omega
theorem T2_eq {a b : Nat} (j : Nat) (h1 : 1 ≤ a) (h2 : 1 ≤ b) (h3 : a + b ≤ 62) : T2 a b j = (B22 a b j).1 := by
  show (bst (bst _ _ _).1 _ _).1 = (bst (bst _ _ _).1 _ _).1
  have e1 : (bst (if a = 1 ∧ b = 1 then 0 else zF) (fun k => if j = 0 then zF else g2 (tw 63 k b (j - 1)) (tw 63 (a - k) b j)) (a - 1)) = (bst (z2 a b) (f21 a b j) (a - 1)) := by
    refine bst_cg fun k k1 k2 => .inl ?_
    unfold f21 T2
    try dsimp only
    rw [tw_fuel 63 64 k b (j - 1) k1 h2 (by omega) (by omega), tw_fuel 63 64 (a - k) b j (by omega) h2 (by omega) (by omega)]
  rw [e1]
  refine congrArg Prod.fst (bst_cg fun k k1 k2 => .inl ?_)
  unfold f22 T2
  try dsimp only
  rw [tw_fuel 63 64 a k (j - 1) h1 k1 (by omega) (by omega), tw_fuel 63 64 a (b - k) j h1 (by omega) (by omega) (by omega)]
theorem T2_le {a b : Nat} (j : Nat) (h1 : 1 ≤ a) (h2 : 1 ≤ b) (h3 : a + b ≤ 62) : T2 a b j ≤ zF := by
  rw [T2_eq j h1 h2 h3]
  exact Nat.le_trans (bst_le _ _ _) (Nat.le_trans (bst_le _ _ _) (z2_le a b))
theorem T2_11 (j : Nat) : T2 1 1 j = 0 := by
  rw [T2_eq j (by decide) (by decide) (by decide)]
  rfl
theorem T2_l1 {a b j k : Nat} (h2 : 1 ≤ b) (h3 : a + b ≤ 62) (hj : j ≠ 0) (k1 : 1 ≤ k) (k2 : k < a) : T2 a b j ≤ g2 (T2 k b (j - 1)) (T2 (a - k) b j) := by
  rw [T2_eq j (by omega) h2 h3]
  refine Nat.le_trans (bst_le _ _ _) ?_
  have := bst_min (z2 a b) (f21 a b j) (n := a - 1) k1 (by omega)
  unfold f21 at this
  rw [if_neg hj] at this
  exact this
theorem T2_l2 {a b j k : Nat} (h1 : 1 ≤ a) (h3 : a + b ≤ 62) (hj : j ≠ 0) (k1 : 1 ≤ k) (k2 : k < b) : T2 a b j ≤ g2 (T2 a k (j - 1)) (T2 a (b - k) j) := by
  rw [T2_eq j h1 (by omega) h3]
  have := bst_min (B21 a b j).1 (f22 a b j) (n := b - 1) k1 (by omega)
  unfold f22 at this
  rw [if_neg hj] at this
  exact this
/-- where the least comes from -/
theorem T2_or {a b : Nat} (j : Nat) (h1 : 1 ≤ a) (h2 : 1 ≤ b) (h3 : a + b ≤ 62) : T2 a b j = zF ∨ (a = 1 ∧ b = 1) ∨ (j ≠ 0 ∧ ∃ k : Nat, 1 ≤ k ∧ k < a ∧ T2 a b j = g2 (T2 k b (j - 1)) (T2 (a - k) b j)) ∨ (j ≠ 0 ∧ ∃ k : Nat, 1 ≤ k ∧ k < b ∧ T2 a b j = g2 (T2 a k (j - 1)) (T2 a (b - k) j)) := by
  have hz := zF_e
  rw [T2_eq j h1 h2 h3]
  have i2 := bst_i (B21 a b j).1 (f22 a b j) (b - 1)
  have i1 := bst_i (z2 a b) (f21 a b j) (a - 1)
  have l1 := bst_le (z2 a b) (f21 a b j) (a - 1)
  have lz := z2_le a b
  unfold B22
  rcases bst_at (B21 a b j).1 (f22 a b j) (b - 1) with ⟨-, e⟩ | ⟨p, e, l⟩
  · rw [e]
    unfold B21
    rcases bst_at (z2 a b) (f21 a b j) (a - 1) with ⟨-, e⟩ | ⟨p, e, l⟩
    · rw [e]
      unfold z2
      by_cases c : a = 1 ∧ b = 1
      · exact .inr (.inl c)
      · rw [if_neg c]
        exact .inl rfl
    · rw [e]
      rw [e] at l
      generalize (bst (z2 a b) (f21 a b j) (a - 1)).2 = k at *
      unfold f21 at l ⊢
      by_cases hj : j = 0
      · rw [if_pos hj] at l
        omega
      · rw [if_neg hj]
        exact .inr (.inr (.inl ⟨hj, k, by omega, by omega, rfl⟩))
  · rw [e]
    rw [e] at l
    have l1 : (B21 a b j).1 ≤ z2 a b := l1
    generalize (bst (B21 a b j).1 (f22 a b j) (b - 1)).2 = k at *
    unfold f22 at l ⊢
    by_cases hj : j = 0
    · rw [if_pos hj] at l
      omega
    · rw [if_neg hj]
      exact .inr (.inr (.inr ⟨hj, k, by omega, by omega, rfl⟩))
theorem T2_sym : ∀ M a b j : Nat, a + b ≤ M → 1 ≤ a → 1 ≤ b → a + b ≤ 62 → T2 a b j ≤ T2 b a j
  | 0, _, _, _, h, h1, _, _ => by omega
  | M + 1, a, b, j, h, h1, h2, h3 => by
    have hle := T2_le j h1 h2 h3
    rcases T2_or j h2 h1 (by omega) with e | ⟨e1, e2⟩ | ⟨hj, k, k1, k2, e⟩ | ⟨hj, k, k1, k2, e⟩
    · omega
    · rw [e1, e2]
      exact Nat.le_refl _
    · rw [e]
      refine Nat.le_trans (T2_l2 h1 h3 hj k1 k2) (g2_mono ?_ ?_)
      · exact T2_sym M a k (j - 1) (by omega) h1 k1 (by omega)
      · exact T2_sym M a (b - k) j (by omega) h1 (by omega) (by omega)
    · rw [e]
      refine Nat.le_trans (T2_l1 h2 h3 hj k1 k2) (g2_mono ?_ ?_)
      · exact T2_sym M k b (j - 1) (by omega) k1 h2 (by omega)
      · exact T2_sym M (a - k) b j (by omega) (by omega) h2 (by omega)
theorem T2_sy {a b : Nat} (j : Nat) (h1 : 1 ≤ a) (h2 : 1 ≤ b) (h3 : a + b ≤ 62) : T2 a b j = T2 b a j :=
  Nat.le_antisymm (T2_sym (a + b) a b j (Nat.le_refl _) h1 h2 h3) (T2_sym (b + a) b a j (Nat.le_refl _) h2 h1 (by omega))
/-- a jar more is no worse -/
theorem T2_jar : ∀ M a b j : Nat, a + b ≤ M → 1 ≤ a → 1 ≤ b → a + b ≤ 62 → T2 a b (j + 1) ≤ T2 a b j
  | 0, _, _, _, h, h1, _, _ => by omega
  | M + 1, a, b, j, h, h1, h2, h3 => by
    have hle := T2_le (j + 1) h1 h2 h3
    rcases T2_or j h1 h2 h3 with e | ⟨e1, e2⟩ | ⟨hj, k, k1, k2, e⟩ | ⟨hj, k, k1, k2, e⟩
    · omega
    · rw [e1, e2, T2_11]
      exact Nat.zero_le _
    · rw [e]
      refine Nat.le_trans (T2_l1 h2 h3 (by omega) k1 k2) (g2_mono ?_ ?_)
      · have := T2_jar M k b (j - 1) (by omega) k1 h2 (by omega)
        rw [show j - 1 + 1 = j + 1 - 1 by omega] at this
        exact this
      · exact T2_jar M (a - k) b j (by omega) (by omega) h2 (by omega)
    · rw [e]
      refine Nat.le_trans (T2_l2 h1 h3 (by omega) k1 k2) (g2_mono ?_ ?_)
      · have := T2_jar M a k (j - 1) (by omega) h1 k1 (by omega)
        rw [show j - 1 + 1 = j + 1 - 1 by omega] at this
        exact this
      · exact T2_jar M a (b - k) j (by omega) h1 (by omega) (by omega)
/-- a height more is no better -/
theorem T2_up : ∀ M a b j : Nat, a + b ≤ M → 1 ≤ a → 1 ≤ b → a + 1 + b ≤ 62 → T2 a b j ≤ T2 (a + 1) b j
  | 0, _, _, _, h, h1, _, _ => by omega
  | M + 1, a, b, j, h, h1, h2, h3 => by
    have hle := T2_le j h1 h2 (by omega)
    rcases T2_or j (a := a + 1) (by omega) h2 (by omega) with e | ⟨e1, e2⟩ | ⟨hj, k, k1, k2, e⟩ | ⟨hj, k, k1, k2, e⟩
    · omega
    · omega
    · rw [e]
      by_cases c : k < a
      · refine Nat.le_trans (T2_l1 h2 (by omega) hj k1 c) (g2_mono (Nat.le_refl _) ?_)
        rw [show a + 1 - k = a - k + 1 by omega]
        exact T2_up M (a - k) b j (by omega) (by omega) h2 (by omega)
      · have ek : k = a := by omega
        subst ek
        refine Nat.le_trans ?_ (g2_l (T2_le (j - 1) h1 h2 (by omega)))
        have := T2_jar (k + b) k b (j - 1) (Nat.le_refl _) h1 h2 (by omega)
        rw [show j - 1 + 1 = j by omega] at this
        exact this
    · rw [e]
      refine Nat.le_trans (T2_l2 h1 (by omega) hj k1 k2) (g2_mono ?_ ?_)
      · exact T2_up M a k (j - 1) (by omega) h1 k1 (by omega)
      · exact T2_up M a (b - k) j (by omega) h1 (by omega) (by omega)
theorem T2_ups {a a' b : Nat} (j : Nat) (h : a ≤ a') (h1 : 1 ≤ a) (h2 : 1 ≤ b) (h3 : a' + b ≤ 62) : T2 a b j ≤ T2 a' b j := by
  induction h with
  | refl => exact Nat.le_refl _
  | @step m h ih =>
    have hm : a ≤ m := h
    have h3 : m + 1 + b ≤ 62 := h3
    exact Nat.le_trans (ih (by omega)) (T2_up (m + b) m b j (Nat.le_refl _) (by omega) h2 h3)
/-- what isn't none is small -/
theorem T2_small : ∀ M a b j : Nat, a + b ≤ M → 1 ≤ a → 1 ≤ b → a + b ≤ 62 → T2 a b j < zF → T2 a b j ≤ a + b
  | 0, _, _, _, h, h1, _, _, _ => by omega
  | M + 1, a, b, j, h, h1, h2, h3, hf => by
    have hz := zF_e
    have key : ∀ x y v : Nat, v = g2 x y → v < zF → (x < zF → x + 1 ≤ a + b) → (y < zF → y + 1 ≤ a + b) → v ≤ a + b := by
      intro x y v e hv hx hy
      have e : v = gl false 1 0 0 x y := e
      unfold gl at e
      rw [if_neg (show ¬ (false = true) by decide)] at e
      split at e
      · rename_i c
        have := hx c.1
        have := hy c.2
        split at e <;> omega
      · omega
    rcases T2_or j h1 h2 h3 with e | ⟨e1, e2⟩ | ⟨hj, k, k1, k2, e⟩ | ⟨hj, k, k1, k2, e⟩
    · omega
    · rw [e1, e2, T2_11]
      exact Nat.zero_le _
    · refine key _ _ _ e hf (fun c => ?_) (fun c => ?_)
      · have := T2_small M k b (j - 1) (by omega) k1 h2 (by omega) c
        omega
      · have := T2_small M (a - k) b j (by omega) (by omega) h2 (by omega) c
        omega
    · refine key _ _ _ e hf (fun c => ?_) (fun c => ?_)
      · have := T2_small M a k (j - 1) (by omega) h1 k1 (by omega) c
        omega
      · have := T2_small M a (b - k) j (by omega) h1 (by omega) (by omega) c
        omega

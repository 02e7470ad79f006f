theorem g2_brk {b w b' w' : Nat} (h : w ≤ b) (h2 : b ≤ b') : g2 b w ≤ g2 b' w' := by
  have hz := zF_e
  show gl false 1 0 0 b w ≤ gl false 1 0 0 b' w'
  unfold gl
  rw [if_neg (show ¬ (false = true) by decide), if_neg (show ¬ (false = true) by decide)]
  by_cases c : b' < zF ∧ w' < zF
  · rw [if_pos c, if_pos (by omega)]
    split <;> split <;> omega
  · rw [if_neg c]
    split
    · split <;> omega
    · exact Nat.le_refl _
theorem cN_or (v : Nat) : (v < zF ∧ cN v = v) ∨ (¬ v < zF ∧ cN v = 268435456) := by
  by_cases c : v < zF
  · exact .inl ⟨c, cN_f c⟩
  · exact .inr ⟨c, cN_i c⟩
theorem cN_le (v : Nat) : cN v ≤ 268435456 := by
  have := zF_e
  rcases cN_or v with ⟨a, b⟩ | ⟨a, b⟩ <;> omega
theorem g2_step {b t s : Nat} (hs : s ≤ zF) (hb : b < zF → b ≤ 100) (ht : t < zF → t ≤ 100) : (if 1 + (if cN b < cN t then cN t else cN b) < cN s then 1 + (if cN b < cN t then cN t else cN b) else cN s) = cN (if g2 b t < s then g2 b t else s) := by
  have hz := zF_e
  have es := cN_or s
  show _ = cN (if gl false 1 0 0 b t < s then gl false 1 0 0 b t else s)
  unfold gl
  rw [if_neg (show ¬ (false = true) by decide)]
  by_cases c : b < zF ∧ t < zF
  · have hb := hb c.1
    have ht := ht c.2
    rw [if_pos c, cN_f c.1, cN_f c.2, Nat.zero_add]
    have hM : (if b < t then t else b) ≤ 100 := by split <;> omega
    generalize (if b < t then t else b) = M at hM
    by_cases c2 : 1 + M < s
    · rw [if_pos c2, cN_f (v := 1 + M) (by omega), if_pos (by rcases es with ⟨_, e⟩ | ⟨_, e⟩ <;> omega)]
    · rw [if_neg c2, cN_f (v := s) (by omega), if_neg c2]
  · rw [if_neg c, if_neg (show ¬ zF < s by omega)]
    have hM : 268435456 ≤ (if cN b < cN t then cN t else cN b) := by
      rcases cN_or b with ⟨b1, b2⟩ | ⟨b1, b2⟩ <;> rcases cN_or t with ⟨t1, t2⟩ | ⟨t1, t2⟩
      · exact absurd ⟨b1, t1⟩ c
      · split <;> omega
      · split <;> omega
      · split <;> omega
    rw [if_neg (by rcases es with ⟨_, e⟩ | ⟨_, e⟩ <;> omega)]
/-- a cell of the class's square -/
def P2c (P : ST) (a b j : Nat) : Prop := gG P 0 j (a * 32 + b) = nI (cN (T2 a b j))
theorem zneed {P : ST} {a b j : Nat} (hj : j ≤ 6) (a1 : 1 ≤ a) (a2 : a ≤ 31) (b1 : 1 ≤ b) (b2 : b ≤ 31) (hc : P2c P a b j) {Q : Int32 → ST → Prop} (hq : Q (nI (cN (T2 a b j))) P) : wp_X5_need (nI j) (nI a) (nI b) P Q := by
  unfold wp_X5_need
  refine zWin (lo := 0) (hi := 6) (by omega) hj (by decide) ⟨fun c => absurd c (by decide), fun _ => zWin (lo := 1) (hi := 31) a1 a2 (by decide) ⟨fun c => absurd c (by decide), fun _ => zWin (lo := 1) (hi := 31) b1 b2 (by decide) ⟨fun _ => ⟨nI_in (by omega) (by decide), ?_⟩, fun c => absurd c (by decide)⟩⟩⟩
  rw [show nI a * (32 : Int32) = nI (a * 32) from pk_mul a 32]
  rintro _ rfl
  rw [nI_add]
  rintro _ rfl
  refine ⟨nI_in (by omega) (by decide), ?_⟩
  rintro _ rfl
  rw [nI_clamp (by omega), nI_clamp (by omega)]
  rw [show gG P 0 j (a * 32 + b) = nI (cN (T2 a b j)) from hc]
  exact hq
theorem zneed0 {P : ST} {x a b : Int32} (h : x < 0) {Q : Int32 → ST → Prop} (hq : Q 268435456 P) : wp_X5_need x a b P Q := by
  unfold wp_X5_need wp_X5_need_p30
  exact zWb (.inl h) ⟨fun _ => hq, fun c => absurd rfl c⟩
theorem zbestIn {P : ST} {j m o : Nat} (hj : j ≤ 6) (m1 : 1 ≤ m) (m2 : m ≤ 31) (o1 : 1 ≤ o) (o2 : o ≤ 31) (hC : ∀ k : Nat, 1 ≤ k → k < m → (0 < j → P2c P k o (j - 1)) ∧ P2c P (m - k) o j) {Q : Int32 → ST → Prop} (hq : Q (nI (cN (bst zF (f21 m o j) (m - 1)).1)) P) : wp_X5_bestIn (nI j) (nI m) (nI o) P Q := by
  have hz := zF_e
  unfold wp_X5_bestIn wp_X5_bestIn_p7
  refine ⟨fun x1 x2 x3 x4 x5 u => x1 = nI j ∧ x2 = nI m ∧ x3 = nI o ∧ P = u ∧ ∃ n : Nat, n + 1 ≤ m ∧ x5 = nI (n + 1) ∧ x4 = nI (cN (bst zF (f21 m o j) n).1), fun _ _ _ _ x5 _ => 32 - x5.toNatClampNeg, ⟨rfl, rfl, rfl, rfl, 0, m1, rfl, rfl⟩, ?_⟩
  rintro _ _ _ _ _ _ ⟨rfl, rfl, rfl, rfl, n, hn, rfl, rfl⟩
  unfold wp_X5_bestIn_p7b wp_X5_bestIn_p69
  refine ⟨fun c => ?_, fun c => ?_⟩
  · have := (nI_leI (by omega) (by omega)).mp c
    rw [show n = m - 1 by omega]
    exact hq
  have hlt : n + 1 < m := by
    have := mt (nI_leI (a := m) (b := n + 1) (by omega) (by omega)).mpr c
    omega
  have hle : (bst zF (f21 m o j) n).1 ≤ zF := bst_le _ _ _
  have hmu : 32 - (nI (n + 1 + 1)).toNatClampNeg < 32 - (nI (n + 1)).toNatClampNeg := by
    try dsimp only
    rw [nI_clamp (by omega), nI_clamp (by omega)]
    omega
  have wle := T2_le j (a := m - (n + 1)) (b := o) (by omega) o1 (by omega)
  have hC1 := hC (n + 1) (by omega) hlt
  have hbb := cN_b (bst zF (f21 m o j) n).1
  -- b: what is left when it breaks, as the class has it
  have key : ∀ b : Nat, b ≤ zF → (b < zF → b ≤ 100) → f21 m o j (n + 1) = g2 b (T2 (m - (n + 1)) o j) → (∀ k : Nat, n + 1 < k → k ≤ m - 1 → T2 (m - (n + 1)) o j ≤ b → g2 b (T2 (m - (n + 1)) o j) ≤ f21 m o j k) →
      (∀ y44 : Int32, y44 = (if nI (cN b) < nI (cN (T2 (m - (n + 1)) o j)) then nI (cN (T2 (m - (n + 1)) o j)) else nI (cN b)) → (∀ y47 : Int32, y47 = (1 : Int32) + y44 → (∀ y48 : Int32, y48 = (if y47 < nI (cN (bst zF (f21 m o j) n).1) then y47 else nI (cN (bst zF (f21 m o j) n).1)) → ((nI (cN b) < nI (cN (T2 (m - (n + 1)) o j)) → (∀ y63 : Int32, y63 = nI (n + 1) + 1 → ((nI j = nI j ∧ nI m = nI m ∧ nI o = nI o ∧ P = P ∧ ∃ n : Nat, n + 1 ≤ m ∧ y63 = nI (n + 1) ∧ y48 = nI (cN (bst zF (f21 m o j) n).1)) ∧ 32 - y63.toNatClampNeg < 32 - (nI (n + 1)).toNatClampNeg))) ∧ (¬ nI (cN b) < nI (cN (T2 (m - (n + 1)) o j)) → Q y48 P))))) := by
    intro b hb hbs hf hst
    have eb := cN_b b
    have ew := cN_b (T2 (m - (n + 1)) o j)
    have lb := cN_lt b
    have lw := cN_lt (T2 (m - (n + 1)) o j)
    have lx := cN_lt (bst zF (f21 m o j) n).1
    have cb := cN_cmp (a := T2 (m - (n + 1)) o j) (b := b) wle
    have e48 : nI (if (1 + (if cN b < cN (T2 (m - (n + 1)) o j) then cN (T2 (m - (n + 1)) o j) else cN b)) < cN (bst zF (f21 m o j) n).1 then (1 + (if cN b < cN (T2 (m - (n + 1)) o j) then cN (T2 (m - (n + 1)) o j) else cN b)) else cN (bst zF (f21 m o j) n).1) = nI (cN (bst zF (f21 m o j) (n + 1)).1) := by
      congr 1
      rw [bst_v, hf]
      exact g2_step hle hbs (fun q => Nat.le_trans (T2_small (m - (n + 1) + o) (m - (n + 1)) o j (Nat.le_refl _) (by omega) o1 (by omega) q) (by omega))
    have eb2 := cN_le b
    have ew2 := cN_le (T2 (m - (n + 1)) o j)
    rw [zmaxI eb ew]
    rintro _ rfl
    rw [show (1 : Int32) = nI 1 from rfl, nI_add]
    rintro _ rfl
    rw [zminI (by split <;> omega) hbb, e48]
    rintro _ rfl
    refine ⟨fun _ => ?_, fun c2 => ?_⟩
    · rw [nI_add]
      rintro _ rfl
      exact ⟨⟨rfl, rfl, rfl, rfl, n + 1, by omega, rfl, rfl⟩, hmu⟩
    · have c2 := mt (nI_ltI eb ew).mpr c2
      have hwb : T2 (m - (n + 1)) o j ≤ b := by
        have := cb.mp (by omega)
        omega
      have : bst zF (f21 m o j) (m - 1) = bst zF (f21 m o j) (n + 1) := by
        refine bst_stop (by omega) fun k k1 k2 => ?_
        refine Nat.le_trans ?_ (hst k k1 k2 hwb)
        rw [← hf]
        exact bst_min zF (f21 m o j) (n := n + 1) (by omega) (Nat.le_refl _)
      rw [this] at hq
      exact hq
  by_cases hj0 : j = 0
  · subst hj0
    rintro _ rfl
    refine zneed0 (by decide) ?_
    rw [nI_sub (by omega)]
    rintro _ rfl
    refine zneed hj (by omega) (by omega) o1 o2 hC1.2 ?_
    refine key zF (Nat.le_refl _) (fun q => absurd q (Nat.lt_irrefl _)) ?_ (fun k k1 k2 _ => ?_)
    · show zF = gl false 1 0 0 zF _
      unfold gl
      rw [if_neg (by omega)]
    · show gl false 1 0 0 zF _ ≤ zF
      unfold gl
      rw [if_neg (by omega)]
      exact Nat.le_refl _
  · obtain ⟨j', rfl⟩ : ∃ j', j = j' + 1 := ⟨j - 1, by omega⟩
    rw [nI_pred]
    rintro _ rfl
    refine zneed (by omega) (by omega) (by omega) o1 o2 (hC1.1 (by omega)) ?_
    rw [nI_sub (by omega)]
    rintro _ rfl
    refine zneed hj (by omega) (by omega) o1 o2 hC1.2 ?_
    refine key (T2 (n + 1) o j') (T2_le _ (by omega) o1 (by omega)) (fun q => Nat.le_trans (T2_small (n + 1 + o) (n + 1) o j' (Nat.le_refl _) (by omega) o1 (by omega) q) (by omega)) rfl (fun k k1 k2 h => ?_)
    show _ ≤ g2 (T2 k o j') (T2 (m - k) o (j' + 1))
    exact g2_brk h (T2_ups j' (by omega) (by omega) o1 (by omega))
def P2i (j m1 m2 : Nat) (P : ST) : Prop := ∀ j' a b : Nat, (j' < j ∨ j' = j ∧ (a < m1 ∧ b < m1 ∨ a = m1 ∧ b < m2 ∨ b = m1 ∧ a < m2)) → j' ≤ 6 → 1 ≤ a → a ≤ 31 → 1 ≤ b → b ≤ 31 → P2c P a b j'
theorem zfill2 {P : ST} {j m1 m2 : Nat} (hj : j ≤ 6) (a1 : 1 ≤ m1) (a2 : m1 ≤ 31) (b1 : 1 ≤ m2) (b2 : m2 ≤ m1) (hi : P2i j m1 m2 P) {Q : ST → Prop} (hq : ∀ P' : ST, P2i j m1 (m2 + 1) P' → ¬ gI P 1 = 0 → gI P' 1 = gI P 1 → Q P') (h1 : ¬ gI P 1 = 0) : wp_X5_fill (nI j) (nI m1) (nI m2) P Q := by
  have hz := zF_e
  have fin : wp_X5_fill_p31 (nI j) (nI m1) (nI m2) (nI (cN (T2 m1 m2 j))) P Q := by
    unfold wp_X5_fill_p31
    refine ⟨nI_in (by omega) (by decide), ?_⟩
    rw [show nI m1 * (32 : Int32) = nI (m1 * 32) from pk_mul m1 32]
    rintro _ rfl
    rw [nI_add]
    rintro _ rfl
    refine ⟨nI_in (by omega) (by decide), ?_⟩
    rintro _ rfl
    refine ⟨nI_in (by omega) (by decide), ?_⟩
    rw [show nI m2 * (32 : Int32) = nI (m2 * 32) from pk_mul m2 32]
    rintro _ rfl
    rw [nI_add]
    rintro _ rfl
    refine ⟨nI_in (by omega) (by decide), ?_⟩
    rintro _ rfl
    simp only [gI_sI, gI_sI', gI_sA, gI_sJ, gI_sG, gA_sA, gA_sA', gA_sI, gA_sJ, gA_sG, gJ_sJ, gJ_sJ', gJ_sI, gJ_sA, gJ_sG, gG_sG, gG_sG', gG_sI, gG_sA, gG_sJ, ne_eq, Nat.reduceEqDiff, Nat.succ_ne_zero, Nat.zero_ne_one, not_false_eq_true, reduceCtorEq]
    rw [nI_clamp (n := j) (by omega), nI_clamp (n := m1 * 32 + m2) (by omega), nI_clamp (n := m2 * 32 + m1) (by omega)]
    refine hq _ (fun j' a b q q1 q2 q3 q4 q5 => ?_) h1 rfl
    unfold P2c
    simp only [gI_sI, gI_sI', gI_sA, gI_sJ, gI_sG, gA_sA, gA_sA', gA_sI, gA_sJ, gA_sG, gJ_sJ, gJ_sJ', gJ_sI, gJ_sA, gJ_sG, gG_sG, gG_sG', gG_sI, gG_sA, gG_sJ, ne_eq, Nat.reduceEqDiff, Nat.succ_ne_zero, Nat.zero_ne_one, not_false_eq_true, reduceCtorEq]
    by_cases cj : j' = j
    · subst cj
      rw [mu_at, mu_at]
      by_cases c1 : a * 32 + b = m2 * 32 + m1
      · have e1 : a = m2 := by omega
        have e2 : b = m1 := by omega
        subst e1 e2
        rw [pk_us, T2_sy j' a1 b1 (by omega)]
      · rw [pk_un c1]
        by_cases c2 : a * 32 + b = m1 * 32 + m2
        · have e1 : a = m1 := by omega
          have e2 : b = m2 := by omega
          subst e1 e2
          rw [pk_us]
        · rw [pk_un c2]
          refine hi j' a b (.inr ⟨rfl, ?_⟩) q1 q2 q3 q4 q5
          omega
    · rw [mu_ne _ _ cj, mu_ne _ _ cj]
      exact hi j' a b (.inl (by omega)) q1 q2 q3 q4 q5
  have p14 : ¬ (m1 = 1 ∧ m2 = 1) → wp_X5_fill_p14 (nI j) (nI m1) (nI m2) P Q := by
    intro hn
    unfold wp_X5_fill_p14
    refine zbestIn hj a1 a2 b1 (by omega) (fun k k1 k2 => ⟨fun _ => hi _ _ _ (.inl (by omega)) (by omega) k1 (by omega) b1 (by omega), hi _ _ _ (.inr ⟨rfl, by omega⟩) hj (by omega) (by omega) b1 (by omega)⟩) ?_
    refine zbestIn hj b1 (by omega) a1 a2 (fun k k1 k2 => ⟨fun _ => hi _ _ _ (.inl (by omega)) (by omega) k1 (by omega) a1 a2, hi _ _ _ (.inr ⟨rfl, by omega⟩) hj (by omega) (by omega) a1 a2⟩) ?_
    have l1 := bst_le zF (f21 m1 m2 j) (m1 - 1)
    have l2 := bst_le zF (f21 m2 m1 j) (m2 - 1)
    have e22 : (bst zF (f22 m1 m2 j) (m2 - 1)) = (bst zF (f21 m2 m1 j) (m2 - 1)) := by
      refine bst_cg fun k k1 k2 => .inl ?_
      unfold f22 f21
      rw [T2_sy (j - 1) a1 k1 (by omega), T2_sy j a1 (b := m2 - k) (by omega) (by omega)]
    have eT : T2 m1 m2 j = if (bst zF (f21 m1 m2 j) (m1 - 1)).1 < (bst zF (f21 m2 m1 j) (m2 - 1)).1 then (bst zF (f21 m1 m2 j) (m1 - 1)).1 else (bst zF (f21 m2 m1 j) (m2 - 1)).1 := by
      rw [T2_eq j a1 b1 (by omega)]
      unfold B22 B21
      have hz2 : z2 m1 m2 = zF := if_neg hn
      rw [hz2, bst_z l1, e22]
    have e28 : (if nI (cN (bst zF (f21 m2 m1 j) (m2 - 1)).1) < nI (cN (bst zF (f21 m1 m2 j) (m1 - 1)).1) then nI (cN (bst zF (f21 m2 m1 j) (m2 - 1)).1) else nI (cN (bst zF (f21 m1 m2 j) (m1 - 1)).1)) = nI (cN (T2 m1 m2 j)) := by
      rw [zminI (cN_b _) (cN_b _), eT]
      congr 1
      have c1 := cN_cmp (b := (bst zF (f21 m2 m1 j) (m2 - 1)).1) l1
      by_cases c : (bst zF (f21 m2 m1 j) (m2 - 1)).1 < (bst zF (f21 m1 m2 j) (m1 - 1)).1
      · rw [if_pos (by have := mt c1.mp (by omega); omega), if_neg (by omega)]
      · have := c1.mpr c
        rw [if_neg (by omega)]
        by_cases c2 : (bst zF (f21 m1 m2 j) (m1 - 1)).1 < (bst zF (f21 m2 m1 j) (m2 - 1)).1
        · rw [if_pos c2]
        · rw [if_neg c2]
          congr 1
          omega
    rw [e28]
    rintro _ rfl
    exact fin
  unfold wp_X5_fill
  refine ⟨fun c => p14 fun q => c (by rw [q.1]; rfl), fun c => ⟨fun c2 => p14 fun q => c2 (by rw [q.2]; rfl), fun c2 => ?_⟩⟩
  have e1 : m1 = 1 := (nI_eq (b := 1) (by omega) (by decide)).mp c
  have e2 : m2 = 1 := (nI_eq (b := 1) (by omega) (by decide)).mp c2
  subst e1 e2
  rw [T2_11] at fin
  exact fin
def R2 (P : ST) : Prop := gI P 1 = 0 ∨ (¬ gI P 1 = 0 ∧ P2i 7 1 1 P)
theorem zprep2 {P : ST} (h : R2 P) {Q : ST → Prop} (hq : ∀ P' : ST, ¬ gI P' 1 = 0 → P2i 7 1 1 P' → Q P') : wp_X5_prepare P Q := by
  unfold wp_X5_prepare
  refine ⟨fun _ => ?_, fun c => hq P c (h.resolve_left c).2⟩
  rintro _ rfl
  unfold wp_X5_prepare_p15
  refine ⟨fun x1 u => ∃ j : Nat, j ≤ 7 ∧ x1 = nI j ∧ gI u 1 = 1 ∧ P2i j 1 1 u, fun x1 _ => 7 - x1.toNatClampNeg, ⟨0, by omega, rfl, rfl, fun _ _ _ q _ _ _ _ _ => by omega⟩, ?_⟩
  rintro _ u ⟨j, hj, rfl, h1, hi⟩
  unfold wp_X5_prepare_p15b
  refine ⟨fun c => ?_, fun c => ?_⟩
  · have := (nI_ltI (a := 6) (by decide) (by omega)).mp c
    have ej : j = 7 := by omega
    subst ej
    exact hq u (by rw [h1]; decide) hi
  have hj6 : j ≤ 6 := by
    have := mt (nI_ltI (a := 6) (b := j) (by decide) (by omega)).mpr c
    omega
  unfold wp_X5_prepare_p23
  refine ⟨fun x1 x2 v => x1 = nI j ∧ ∃ m1 : Nat, 1 ≤ m1 ∧ m1 ≤ 32 ∧ x2 = nI m1 ∧ gI v 1 = 1 ∧ P2i j m1 1 v, fun _ x2 _ => 32 - x2.toNatClampNeg, ⟨rfl, 1, by omega, by omega, rfl, h1, hi⟩, ?_⟩
  rintro _ _ v ⟨rfl, m1, a1, a2, rfl, hv1, hv⟩
  unfold wp_X5_prepare_p23b
  refine ⟨fun c2 => ?_, fun c2 => ?_⟩
  · have := (nI_leI (a := 32) (by decide) (by omega)).mp c2
    rintro _ rfl
    rw [nI_1]
    refine ⟨⟨j + 1, by omega, rfl, hv1, fun j' a b q q1 q2 q3 q4 q5 => hv j' a b ?_ q1 q2 q3 q4 q5⟩, ?_⟩
    · omega
    · show 7 - (nI (j + 1)).toNatClampNeg < 7 - (nI j).toNatClampNeg
      try dsimp only
      rw [nI_clamp (by omega), nI_clamp (by omega)]
      omega
  have hm : m1 ≤ 31 := by
    have := mt (nI_leI (a := 32) (b := m1) (by decide) (by omega)).mpr c2
    omega
  unfold wp_X5_prepare_p31
  refine ⟨fun x1 x2 x3 w => x1 = nI j ∧ x2 = nI m1 ∧ ∃ m2 : Nat, 1 ≤ m2 ∧ m2 ≤ m1 + 1 ∧ x3 = nI m2 ∧ gI w 1 = 1 ∧ P2i j m1 m2 w, fun _ _ x3 _ => 33 - x3.toNatClampNeg, ⟨rfl, rfl, 1, by omega, by omega, rfl, hv1, hv⟩, ?_⟩
  rintro _ _ _ w ⟨rfl, rfl, m2, b1, b2, rfl, hw1, hw⟩
  unfold wp_X5_prepare_p31b
  refine ⟨fun c3 => ?_, fun c3 => ?_⟩
  · have := (nI_ltI (by omega) (by omega)).mp c3
    rintro _ rfl
    rw [nI_1]
    refine ⟨⟨rfl, m1 + 1, by omega, by omega, rfl, hw1, fun j' a b q q1 q2 q3 q4 q5 => hw j' a b ?_ q1 q2 q3 q4 q5⟩, ?_⟩
    · omega
    · show 32 - (nI (m1 + 1)).toNatClampNeg < 32 - (nI m1).toNatClampNeg
      try dsimp only
      rw [nI_clamp (by omega), nI_clamp (by omega)]
      omega
  · have hm2 : m2 ≤ m1 := by
      have := mt (nI_ltI (a := m1) (b := m2) (by omega) (by omega)).mpr c3
      omega
    refine zfill2 hj6 a1 hm b1 hm2 hw (fun P' hP _ e => ?_) (by rw [hw1]; decide)
    rintro _ rfl
    rw [nI_1]
    refine ⟨⟨rfl, rfl, m2 + 1, by omega, by omega, rfl, e.trans hw1, hP⟩, ?_⟩
    try dsimp only
    rw [nI_clamp (by omega), nI_clamp (by omega)]
    omega

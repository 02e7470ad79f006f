/-- a cell of the reference's square -/
def V2c (v : ST) (a b j : Nat) : Prop := gA v 36 ((32 * a + b) * 7 + j) = nI (T2 a b j)
theorem zpair {a b j : Nat} {Q : Int32 → Prop} (hq : Q (nI ((32 * a + b) * 7 + j))) : wp_X12_pair (nI a) (nI b) (nI j) Q := by
  unfold wp_X12_pair
  rw [show (32 : Int32) * nI a = nI (32 * a) from pk_mul 32 a]
  rintro _ rfl
  rw [nI_add]
  rintro _ rfl
  rw [show nI (32 * a + b) * (7 : Int32) = nI ((32 * a + b) * 7) from pk_mul _ 7]
  rintro _ rfl
  rw [nI_add]
  rintro _ rfl
  exact hq
def tf2 (i1 i2 : Nat) : Int32 := if i2 ≠ 0 then 1 else if i1 ≠ 0 then 0 else -2
/-- one turn's number: as g2 has it, or no better than the best -/
theorem g2_ref {b w s : Nat} (h : s ≤ zF) : ((1 + if b ≤ w then w else b) < s ↔ g2 b w < s) ∧ ((1 + if b ≤ w then w else b) < s → (1 + if b ≤ w then w else b) = g2 b w) := by
  have := gl_ref (d := 1) (p := 0) (m := 0) (b := b) (w := w) (s := s) h
  rw [Nat.zero_add] at this
  exact this
theorem zleast2 {v : ST} {a b j : Nat} (hj : j ≤ 6) (a1 : 1 ≤ a) (a2 : a ≤ 31) (b1 : 1 ≤ b) (b2 : b ≤ 31) (hA : ∀ k : Nat, 1 ≤ k → k < a → 0 < j → V2c v k b (j - 1) ∧ V2c v (a - k) b j) (hB : ∀ k : Nat, 1 ≤ k → k < b → 0 < j → V2c v a k (j - 1) ∧ V2c v a (b - k) j) {Q : Int32 → ST → Prop}
    (hq : Q (nI (T2 a b j)) (sI v 37 (tf2 (B21 a b j).2 (B22 a b j).2))) : wp_X12_leastTwo (nI a) (nI b) (nI j) v Q := by
  have hz := zF_e
  have lz := z2_le a b
  -- the second loop
  have two : wp_X12_leastTwo_p100 (nI a) (nI b) (nI j) (nI (B21 a b j).1) 1 (sI v 37 (tf2 (B21 a b j).2 0)) Q := by
    unfold wp_X12_leastTwo_p100
    have lB : (B21 a b j).1 ≤ zF := Nat.le_trans (bst_le _ _ _) lz
    refine ⟨fun x1 x2 x3 x4 x5 u => x1 = nI a ∧ x2 = nI b ∧ x3 = nI j ∧ ∃ n : Nat, n + 1 ≤ b ∧ x5 = nI (n + 1) ∧ x4 = nI (bst (B21 a b j).1 (f22 a b j) n).1 ∧ u = sI v 37 (tf2 (B21 a b j).2 (bst (B21 a b j).1 (f22 a b j) n).2), fun _ _ _ _ x5 _ => 32 - x5.toNatClampNeg, ⟨rfl, rfl, rfl, 0, b1, rfl, rfl, rfl⟩, ?_⟩
    rintro _ _ _ _ _ _ ⟨rfl, rfl, rfl, n, hn, rfl, rfl, rfl⟩
    unfold wp_X12_leastTwo_p100b wp_X12_leastTwo_p170 wp_X12_leastTwo_p184 wp_X12_leastTwo_p164
    have hle : (bst (B21 a b j).1 (f22 a b j) n).1 ≤ zF := Nat.le_trans (bst_le _ _ _) lB
    have fin : bst (B21 a b j).1 (f22 a b j) n = B22 a b j → ((nI (bst (B21 a b j).1 (f22 a b j) n).1 ≤ (1000000 : Int32) → Q (nI (bst (B21 a b j).1 (f22 a b j) n).1) (sI v 37 (tf2 (B21 a b j).2 (bst (B21 a b j).1 (f22 a b j) n).2))) ∧ (¬ nI (bst (B21 a b j).1 (f22 a b j) n).1 ≤ (1000000 : Int32) → Q (1000000 : Int32) (sI v 37 (tf2 (B21 a b j).2 (bst (B21 a b j).1 (f22 a b j) n).2)))) := by
      intro e
      refine ⟨fun _ => ?_, fun c => absurd (nI_le (b := 1000000) (by omega) (by decide)) c⟩
      rw [e, ← T2_eq j a1 b1 (by omega)]
      exact hq
    refine ⟨fun c => ?_, fun c => ⟨fun c2 => ?_, fun c2 => ?_⟩⟩
    · have := (nI_leI (by omega) (by omega)).mp c
      refine fin ?_
      unfold B22
      rw [show n = b - 1 by omega]
    · have hj0 : j = 0 := by
        have := (nI_leI (a := j) (b := 0) (by omega) (by decide)).mp c2
        omega
      subst hj0
      refine fin ?_
      unfold B22
      rw [bst_stop (z := (B21 a b 0).1) (f := f22 a b 0) (n := 0) (m := n) (by omega) (fun k _ _ => lB), bst_stop (z := (B21 a b 0).1) (f := f22 a b 0) (n := 0) (m := b - 1) (by omega) (fun k _ _ => lB)]
    have hlt : n + 1 < b := by
      have := mt (nI_leI (a := b) (b := n + 1) (by omega) (by omega)).mpr c
      omega
    have hj0 : 0 < j := by
      have := mt (nI_leI (a := j) (b := 0) (by omega) (by decide)).mpr c2
      omega
    obtain ⟨q1, q2⟩ := hB (n + 1) (by omega) hlt hj0
    have w1 := T2_le (j - 1) (a := a) (b := n + 1) a1 (by omega) (by omega)
    have w2 := T2_le j (a := a) (b := b - (n + 1)) a1 (by omega) (by omega)
    have hmu : 32 - (nI (n + 1 + 1)).toNatClampNeg < 32 - (nI (n + 1)).toNatClampNeg := by
      try dsimp only
      rw [nI_clamp (by omega), nI_clamp (by omega)]
      omega
    rw [show nI j - (1 : Int32) = nI (j - 1) from nI_sub (b := 1) (by omega)]
    rintro _ rfl
    refine zpair ⟨nI_in (by omega) (by decide), ?_⟩
    rw [nI_clamp (by omega), show gA (sI v 37 (tf2 (B21 a b j).2 (bst (B21 a b j).1 (f22 a b j) n).2)) 36 ((32 * a + (n + 1)) * 7 + (j - 1)) = _ from q1]
    rintro _ rfl
    rw [nI_sub (by omega)]
    rintro _ rfl
    refine zpair ⟨nI_in (by omega) (by decide), ?_⟩
    rw [nI_clamp (by omega), show gA (sI v 37 (tf2 (B21 a b j).2 (bst (B21 a b j).1 (f22 a b j) n).2)) 36 ((32 * a + (b - (n + 1))) * 7 + j) = _ from q2]
    rintro _ rfl
    refine zgreater (by omega) (by omega) ?_
    rw [one_add]
    rintro _ rfl
    have hr := g2_ref (b := T2 a (n + 1) (j - 1)) (w := T2 a (b - (n + 1)) j) hle
    have hf : f22 a b j (n + 1) = g2 (T2 a (n + 1) (j - 1)) (T2 a (b - (n + 1)) j) := if_neg (by omega)
    rw [← hf] at hr
    have hb2 : 1 + (if T2 a (n + 1) (j - 1) ≤ T2 a (b - (n + 1)) j then T2 a (b - (n + 1)) j else T2 a (n + 1) (j - 1)) < 2 ^ 31 := by split <;> omega
    rw [nI_ltI hb2 (by omega), hr.1]
    refine ⟨fun c3 => ?_, fun c3 => ?_⟩
    · rintro _ rfl
      rw [nI_1]
      rintro _ rfl
      refine ⟨⟨rfl, rfl, rfl, n + 1, by omega, rfl, ?_, ?_⟩, hmu⟩
      · rw [bst_y c3, hr.2 (hr.1.mpr c3)]
      · rw [bst_y c3, sI_sI]
        rfl
    · rw [nI_1]
      rintro _ rfl
      exact ⟨⟨rfl, rfl, rfl, n + 1, by omega, rfl, by rw [bst_n c3], by rw [bst_n c3]⟩, hmu⟩
  have one : wp_X12_leastTwo_p27 (nI a) (nI b) (nI j) (nI (z2 a b)) 1 (sI v 37 (-2)) Q := by
    unfold wp_X12_leastTwo_p27
    refine ⟨fun x1 x2 x3 x4 x5 u => x1 = nI a ∧ x2 = nI b ∧ x3 = nI j ∧ ∃ n : Nat, n + 1 ≤ a ∧ x5 = nI (n + 1) ∧ x4 = nI (bst (z2 a b) (f21 a b j) n).1 ∧ u = sI v 37 (tf2 (bst (z2 a b) (f21 a b j) n).2 0), fun _ _ _ _ x5 _ => 32 - x5.toNatClampNeg, ⟨rfl, rfl, rfl, 0, a1, rfl, rfl, rfl⟩, ?_⟩
    rintro _ _ _ _ _ _ ⟨rfl, rfl, rfl, n, hn, rfl, rfl, rfl⟩
    unfold wp_X12_leastTwo_p27b wp_X12_leastTwo_p97 wp_X12_leastTwo_p91
    have hle : (bst (z2 a b) (f21 a b j) n).1 ≤ zF := Nat.le_trans (bst_le _ _ _) lz
    have fin : bst (z2 a b) (f21 a b j) n = B21 a b j → wp_X12_leastTwo_p100 (nI a) (nI b) (nI j) (nI (bst (z2 a b) (f21 a b j) n).1) 1 (sI v 37 (tf2 (bst (z2 a b) (f21 a b j) n).2 0)) Q := by
      intro e
      rw [e]
      exact two
    refine ⟨fun c => ?_, fun c => ⟨fun c2 => ?_, fun c2 => ?_⟩⟩
    · have := (nI_leI (by omega) (by omega)).mp c
      refine fin ?_
      unfold B21
      rw [show n = a - 1 by omega]
    · have hj0 : j = 0 := by
        have := (nI_leI (a := j) (b := 0) (by omega) (by decide)).mp c2
        omega
      subst hj0
      refine fin ?_
      unfold B21
      rw [bst_stop (z := z2 a b) (f := f21 a b 0) (n := 0) (m := n) (by omega) (fun k _ _ => lz), bst_stop (z := z2 a b) (f := f21 a b 0) (n := 0) (m := a - 1) (by omega) (fun k _ _ => lz)]
    have hlt : n + 1 < a := by
      have := mt (nI_leI (a := a) (b := n + 1) (by omega) (by omega)).mpr c
      omega
    have hj0 : 0 < j := by
      have := mt (nI_leI (a := j) (b := 0) (by omega) (by decide)).mpr c2
      omega
    obtain ⟨q1, q2⟩ := hA (n + 1) (by omega) hlt hj0
    have w1 := T2_le (j - 1) (a := n + 1) (b := b) (by omega) b1 (by omega)
    have w2 := T2_le j (a := a - (n + 1)) (b := b) (by omega) b1 (by omega)
    have hmu : 32 - (nI (n + 1 + 1)).toNatClampNeg < 32 - (nI (n + 1)).toNatClampNeg := by
      try dsimp only
      rw [nI_clamp (by omega), nI_clamp (by omega)]
      omega
    rw [show nI j - (1 : Int32) = nI (j - 1) from nI_sub (b := 1) (by omega)]
    rintro _ rfl
    refine zpair ⟨nI_in (by omega) (by decide), ?_⟩
    rw [nI_clamp (by omega), show gA (sI v 37 (tf2 (bst (z2 a b) (f21 a b j) n).2 0)) 36 ((32 * (n + 1) + b) * 7 + (j - 1)) = _ from q1]
    rintro _ rfl
    rw [nI_sub (by omega)]
    rintro _ rfl
    refine zpair ⟨nI_in (by omega) (by decide), ?_⟩
    rw [nI_clamp (by omega), show gA (sI v 37 (tf2 (bst (z2 a b) (f21 a b j) n).2 0)) 36 ((32 * (a - (n + 1)) + b) * 7 + j) = _ from q2]
    rintro _ rfl
    refine zgreater (by omega) (by omega) ?_
    rw [one_add]
    rintro _ rfl
    have hr := g2_ref (b := T2 (n + 1) b (j - 1)) (w := T2 (a - (n + 1)) b j) hle
    have hf : f21 a b j (n + 1) = g2 (T2 (n + 1) b (j - 1)) (T2 (a - (n + 1)) b j) := if_neg (by omega)
    rw [← hf] at hr
    have hb2 : 1 + (if T2 (n + 1) b (j - 1) ≤ T2 (a - (n + 1)) b j then T2 (a - (n + 1)) b j else T2 (n + 1) b (j - 1)) < 2 ^ 31 := by split <;> omega
    rw [nI_ltI hb2 (by omega), hr.1]
    refine ⟨fun c3 => ?_, fun c3 => ?_⟩
    · rintro _ rfl
      rw [nI_1]
      rintro _ rfl
      refine ⟨⟨rfl, rfl, rfl, n + 1, by omega, rfl, ?_, ?_⟩, hmu⟩
      · rw [bst_y c3, hr.2 (hr.1.mpr c3)]
      · rw [bst_y c3, sI_sI]
        rfl
    · rw [nI_1]
      rintro _ rfl
      exact ⟨⟨rfl, rfl, rfl, n + 1, by omega, rfl, by rw [bst_n c3], by rw [bst_n c3]⟩, hmu⟩
  unfold wp_X12_leastTwo wp_X12_leastTwo_p14 wp_X12_leastTwo_p16
  have st : ¬ (a = 1 ∧ b = 1) → ∀ u21 : ST, u21 = sI v 37 ((-2) : Int32) → wp_X12_leastTwo_p27 (nI a) (nI b) (nI j) (1000000 : Int32) (1 : Int32) u21 Q := by
    rintro hn _ rfl
    unfold z2 at one
    rw [if_neg hn] at one
    exact one
  refine ⟨fun c => st fun q => c (by rw [q.1]; rfl), fun c => ⟨fun c2 => st fun q => c2 (by rw [q.2]; rfl), fun c2 => ?_⟩⟩
  rintro _ rfl
  have e1 : a = 1 := (nI_eq (b := 1) (by omega) (by decide)).mp c
  have e2 : b = 1 := (nI_eq (b := 1) (by omega) (by decide)).mp c2
  unfold z2 at one
  rw [if_pos ⟨e1, e2⟩] at one
  exact one

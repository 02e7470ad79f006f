/-! two -/
def bad2 (a : Int32) : Prop := a < 0 ∨ ∃ n : Nat, n < 2 ^ 31 ∧ a = nI n ∧ (n / 100 < 1 ∨ 31 < n / 100 ∨ n % 100 < 1 ∨ 31 < n % 100)
theorem two_or (a : Int32) : (∃ m1 m2 : Nat, a = nI (100 * m1 + m2) ∧ 1 ≤ m1 ∧ m1 ≤ 31 ∧ 1 ≤ m2 ∧ m2 ≤ 31) ∨ bad2 a := by
  by_cases h : a < 0
  · exact .inr (.inl h)
  · obtain ⟨n, hn, rfl⟩ := nI_of h
    by_cases c : n / 100 < 1 ∨ 31 < n / 100 ∨ n % 100 < 1 ∨ 31 < n % 100
    · exact .inr (.inr ⟨n, hn, rfl, c⟩)
    · exact .inl ⟨n / 100, n % 100, by rw [Nat.div_add_mod], by omega, by omega, by omega, by omega⟩
theorem t100 {m1 m2 : Nat} (h : m2 ≤ 31) (h2 : m1 ≤ 31) : nI (100 * m1 + m2) / (100 : Int32) = nI m1 ∧ nI (100 * m1 + m2) - nI (100 * m1 + m2) / (100 : Int32) * (100 : Int32) = nI m2 := by
  rw [n100r (by omega), n100 (by omega), show (100 * m1 + m2) / 100 = m1 by omega, show (100 * m1 + m2) % 100 = m2 by omega]
  exact ⟨rfl, rfl⟩
def two2 (a3 : Int32) (a b j : Nat) : Int32 := if T2 a b j < zF then (if a3 = 0 then nI (T2 a b j) else tf2 (B21 a b j).2 (B22 a b j).2) else -2
def V2i (m2 J a b j : Nat) (V v : ST) : Prop := Ag [36, 37] v V ∧ ∀ a' b' j' : Nat, 1 ≤ a' → 1 ≤ b' → b' ≤ m2 → j' ≤ J → (a' < a ∨ a' = a ∧ (b' < b ∨ b' = b ∧ j' < j)) → V2c v a' b' j'
theorem ztwoR {V : ST} {m1 m2 J : Nat} (a1 : 1 ≤ m1) (a2 : m1 ≤ 31) (b1 : 1 ≤ m2) (b2 : m2 ≤ 31) (hJ : J ≤ 6) {a3 : Int32} (ha : a3 = 0 ∨ a3 = 1) {Q : Int32 → ST → Prop} (hq : ∀ V' : ST, Ag [36, 37] V' V → Q (two2 a3 m1 m2 J) V') : wp_X12_two (nI (100 * m1 + m2)) (nI J) a3 V Q := by
  have hz := zF_e
  obtain ⟨e1, e2⟩ := t100 (m1 := m1) (m2 := m2) b2 a2
  unfold wp_X12_two wp_X12_two_p49
  refine ⟨fun c => absurd c (nI_pos (by omega)), fun _ => ⟨by decide, ?_⟩⟩
  rw [e2, e1]
  rintro _ rfl
  refine zIn (lo := 1) (hi := 31) a1 a2 (by decide) ⟨fun c => absurd c (by decide), fun _ => ⟨by decide, ?_⟩⟩
  rintro _ rfl
  refine zIn (lo := 1) (hi := 31) b1 b2 (by decide) ⟨fun c => absurd c (by decide), fun _ => zIn (lo := 0) (hi := 6) (by omega) hJ (by decide) ⟨fun c => absurd c (by decide), fun _ => zI01 ha ⟨fun _ => ?_, fun c => absurd c (by decide)⟩⟩⟩
  unfold wp_X12_two_p54
  refine ⟨fun x1 x2 x3 x4 v => x1 = nI (100 * m1 + m2) ∧ x2 = nI J ∧ a3 = x3 ∧ ∃ a : Nat, 1 ≤ a ∧ a ≤ m1 + 1 ∧ x4 = nI a ∧ V2i m2 J a 1 0 V v, fun _ _ _ x4 _ => 33 - x4.toNatClampNeg, ⟨rfl, rfl, rfl, 1, Nat.le_refl _, by omega, rfl, Ag_r _ _, fun a' b' j' q1 q2 q3 q4 q5 => by omega⟩, ?_⟩
  rintro _ _ _ _ v ⟨rfl, rfl, rfl, a, h1, h2, rfl, hA, hV⟩
  unfold wp_X12_two_p54b wp_X12_two_p166
  rw [e2, e1]
  refine ⟨by decide, ?_⟩
  rintro _ rfl
  refine ⟨fun c => ⟨by decide, ?_⟩, fun c => ?_⟩
  · have ha1 : a = m1 + 1 := by
      have := (nI_ltI (by omega) (by omega)).mp c
      omega
    rintro _ rfl
    refine ⟨by decide, ?_⟩
    rintro _ rfl
    refine zleast2 hJ a1 a2 b1 b2 (fun k k1 k2 k3 => ⟨hV _ _ _ k1 b1 (Nat.le_refl _) (by omega) (by omega), hV _ _ _ (by omega) b1 (Nat.le_refl _) (Nat.le_refl _) (by omega)⟩) (fun k k1 k2 k3 => ⟨hV _ _ _ a1 k1 (by omega) (by omega) (by omega), hV _ _ _ a1 (by omega) (by omega) (Nat.le_refl _) (by omega)⟩) ?_
    have hq := hq (sI v 37 (tf2 (B21 m1 m2 J).2 (B22 m1 m2 J).2)) (Ag_sI hA (by decide) _)
    have le := T2_le J a1 b1 (show m1 + m2 ≤ 62 by omega)
    unfold two2 at hq
    refine ⟨fun c2 => ?_, fun c2 => ?_⟩
    · have c2 := (nI_ltI (b := 1000000) (by omega) (by decide)).mp c2
      rw [if_pos (by omega)] at hq
      refine ⟨fun c3 => ?_, fun c3 => ?_⟩
      · rw [if_neg c3] at hq
        exact hq
      · rw [if_pos c3] at hq
        exact hq
    · have c2 := mt (nI_ltI (a := T2 m1 m2 J) (b := 1000000) (by omega) (by decide)).mpr c2
      rw [if_neg (by omega)] at hq
      exact hq
  have ha1 : a ≤ m1 := by
    have := mt (nI_ltI (a := m1) (b := a) (by omega) (by omega)).mpr c
    omega
  unfold wp_X12_two_p66
  refine ⟨fun x1 x2 x3 x4 x5 u => x1 = nI (100 * m1 + m2) ∧ x2 = nI J ∧ a3 = x3 ∧ x4 = nI a ∧ ∃ b : Nat, 1 ≤ b ∧ b ≤ m2 + 1 ∧ x5 = nI b ∧ V2i m2 J a b 0 V u, fun _ _ _ _ x5 _ => 33 - x5.toNatClampNeg, ⟨rfl, rfl, rfl, rfl, 1, Nat.le_refl _, by omega, rfl, hA, hV⟩, ?_⟩
  rintro _ _ _ _ _ u ⟨rfl, rfl, rfl, rfl, b, h3, h4, rfl, hA2, hV2⟩
  unfold wp_X12_two_p66b
  rw [e2]
  refine ⟨by decide, ?_⟩
  rintro _ rfl
  refine ⟨fun c2 => ?_, fun c2 => ?_⟩
  · have hb1 : b = m2 + 1 := by
      have := (nI_ltI (by omega) (by omega)).mp c2
      omega
    rw [nI_1]
    rintro _ rfl
    refine ⟨⟨rfl, rfl, rfl, a + 1, by omega, by omega, rfl, hA2, fun a' b' j' q1 q2 q3 q4 q5 => hV2 a' b' j' q1 q2 q3 q4 (by omega)⟩, ?_⟩
    try dsimp only
    rw [nI_clamp (by omega), nI_clamp (by omega)]
    omega
  have hb1 : b ≤ m2 := by
    have := mt (nI_ltI (a := m2) (b := b) (by omega) (by omega)).mpr c2
    omega
  unfold wp_X12_two_p78
  refine ⟨fun x1 x2 x3 x4 x5 x6 u => x1 = nI (100 * m1 + m2) ∧ x2 = nI J ∧ a3 = x3 ∧ x4 = nI a ∧ x5 = nI b ∧ ∃ j : Nat, j ≤ J + 1 ∧ x6 = nI j ∧ V2i m2 J a b j V u, fun _ _ _ _ _ x6 _ => 33 - x6.toNatClampNeg, ⟨rfl, rfl, rfl, rfl, rfl, 0, by omega, rfl, hA2, hV2⟩, ?_⟩
  rintro _ _ _ _ _ _ z ⟨rfl, rfl, rfl, rfl, rfl, j, h5, rfl, hA3, hV3⟩
  unfold wp_X12_two_p78b
  refine ⟨fun c3 => ?_, fun c3 => ?_⟩
  · have hj1 : j = J + 1 := by
      have := (nI_ltI (by omega) (by omega)).mp c3
      omega
    rw [nI_1]
    rintro _ rfl
    refine ⟨⟨rfl, rfl, rfl, rfl, b + 1, by omega, by omega, rfl, hA3, fun a' b' j' q1 q2 q3 q4 q5 => hV3 a' b' j' q1 q2 q3 q4 (by omega)⟩, ?_⟩
    try dsimp only
    rw [nI_clamp (by omega), nI_clamp (by omega)]
    omega
  have hj1 : j ≤ J := by
    have := mt (nI_ltI (a := J) (b := j) (by omega) (by omega)).mpr c3
    omega
  refine zpair (zleast2 (by omega) h1 (by omega) h3 (by omega) (fun k k1 k2 k3 => ⟨hV3 _ _ _ k1 h3 hb1 (by omega) (by omega), hV3 _ _ _ (by omega) h3 hb1 hj1 (by omega)⟩) (fun k k1 k2 k3 => ⟨hV3 _ _ _ h1 k1 (by omega) (by omega) (by omega), hV3 _ _ _ h1 (by omega) (by omega) hj1 (by omega)⟩) ⟨nI_in (by omega) (by decide), ?_⟩)
  rw [nI_clamp (by omega)]
  rintro _ rfl
  rw [nI_1]
  rintro _ rfl
  refine ⟨⟨rfl, rfl, rfl, rfl, rfl, j + 1, by omega, rfl, Ag_sA (Ag_sI hA3 (by decide) _) (by decide) _, fun a' b' j' q1 q2 q3 q4 q5 => ?_⟩, ?_⟩
  · by_cases ce : (32 * a' + b') * 7 + j' = (32 * a + b) * 7 + j
    · have w1 : j' = j := by omega
      have w2 : b' = b := by omega
      have w3 : a' = a := by omega
      subst w1 w2 w3
      exact Eq.trans (b := upd (gA z 36) ((32 * a' + b') * 7 + j') (nI (T2 a' b' j')) ((32 * a' + b') * 7 + j')) rfl pk_us
    · refine (Eq.trans (b := upd (gA z 36) ((32 * a + b) * 7 + j) (nI (T2 a b j)) ((32 * a' + b') * 7 + j')) rfl (pk_un ce)).trans (hV3 a' b' j' q1 q2 q3 q4 ?_)
      omega
  · try dsimp only
    rw [nI_clamp (by omega), nI_clamp (by omega)]
    omega
theorem ztwoN {V : ST} {a1 a2 a3 : Int32} (h : bad2 a1 ∨ ((∃ m1 m2 : Nat, a1 = nI (100 * m1 + m2) ∧ 1 ≤ m1 ∧ m1 ≤ 31 ∧ 1 ≤ m2 ∧ m2 ≤ 31) ∧ ((a2 < 0 ∨ 6 < a2) ∨ ((¬ a2 < 0 ∧ ¬ 6 < a2) ∧ (a3 < 0 ∨ 1 < a3))))) {Q : Int32 → ST → Prop} (hq : Q (-1) V) : wp_X12_two a1 a2 a3 V Q := by
  unfold wp_X12_two wp_X12_two_p49
  refine ⟨fun _ => hq, fun c => ⟨by decide, ?_⟩⟩
  rcases h with h | ⟨⟨m1, m2, rfl, h1, h2, h3, h4⟩, h⟩
  · rcases h with h | ⟨n, hn, rfl, h⟩
    · exact absurd h c
    rw [n100r hn, n100 hn]
    rintro _ rfl
    refine zin (fun p q => ⟨fun c => absurd c (by decide), fun _ => ⟨by decide, ?_⟩⟩) (fun _ => ⟨fun _ => hq, fun c => absurd rfl c⟩)
    rintro _ rfl
    refine zin (fun p2 q2 => ?_) (fun _ => ⟨fun _ => hq, fun c => absurd rfl c⟩)
    have w1 := mt (nI_ltI (a := n / 100) (b := 1) (by omega) (by decide)).mpr p
    have w2 := mt (nI_ltI (a := 31) (b := n / 100) (by decide) (by omega)).mpr q
    have w3 := mt (nI_ltI (a := n % 100) (b := 1) (by omega) (by decide)).mpr p2
    have w4 := mt (nI_ltI (a := 31) (b := n % 100) (by decide) (by omega)).mpr q2
    omega
  · obtain ⟨e1, e2⟩ := t100 (m1 := m1) (m2 := m2) h4 h2
    rw [e2, e1]
    rintro _ rfl
    refine zIn (lo := 1) (hi := 31) h1 h2 (by decide) ⟨fun c => absurd c (by decide), fun _ => ⟨by decide, ?_⟩⟩
    rintro _ rfl
    refine zIn (lo := 1) (hi := 31) h3 h4 (by decide) ⟨fun c => absurd c (by decide), fun _ => ?_⟩
    rcases h with h | ⟨⟨q1, q2⟩, h⟩
    · exact zIb h ⟨fun _ => hq, fun c => absurd rfl c⟩
    · exact zin (fun _ _ => ⟨fun c => absurd c (by decide), fun _ => zIb h ⟨fun c => absurd rfl c, fun _ => hq⟩⟩) (fun p => (p.elim q1 q2).elim)

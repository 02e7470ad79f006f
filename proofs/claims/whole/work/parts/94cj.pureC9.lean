theorem g2_ge1 (x y : Nat) : 1 ≤ g2 x y := by
  have hz := zF_e
  unfold g2 gl
  rw [if_neg (show ¬ (false = true) by decide)]
  split
  · split <;> omega
  · omega
theorem two_tf {a b : Nat} (j : Nat) (h1 : 1 ≤ a) (h2 : 1 ≤ b) (h3 : a + b ≤ 62) (hf : T2 a b j < zF) : (T2 a b j = 0 → tf2 (B21 a b j).2 (B22 a b j).2 = -2) ∧ (T2 a b j ≠ 0 → (bst zF (f21 a b j) (a - 1)).1 = (B21 a b j).1 ∧ (tf2 (B21 a b j).2 (B22 a b j).2 = if (B21 a b j).1 = T2 a b j then 0 else 1)) := by
  have hz := zF_e
  have e := T2_eq j h1 h2 h3
  by_cases c : a = 1 ∧ b = 1
  · obtain ⟨rfl, rfl⟩ := c
    exact ⟨fun _ => rfl, fun c => absurd (T2_11 j) c⟩
  refine ⟨fun e0 => ?_, fun _ => ?_⟩
  · rcases T2_or j h1 h2 h3 with q | q | ⟨-, k, -, -, q⟩ | ⟨-, k, -, -, q⟩
    · omega
    · exact absurd q c
    · have := g2_ge1 (T2 k b (j - 1)) (T2 (a - k) b j)
      omega
    · have := g2_ge1 (T2 a k (j - 1)) (T2 a (b - k) j)
      omega
  have ez : z2 a b = zF := if_neg c
  have eB : B21 a b j = bst zF (f21 a b j) (a - 1) := by
    unfold B21
    rw [ez]
  refine ⟨by rw [eB], ?_⟩
  have q1 := bst_at zF (f21 a b j) (a - 1)
  rw [← eB] at q1
  have q2 := bst_at (B21 a b j).1 (f22 a b j) (b - 1)
  rw [show bst (B21 a b j).1 (f22 a b j) (b - 1) = B22 a b j from rfl] at q2
  unfold tf2
  rcases q2 with ⟨i2, v2⟩ | ⟨i2, -, v2⟩
  · rw [if_neg (fun c2 => c2 i2), if_pos (by omega)]
    rcases q1 with ⟨i1, v1⟩ | ⟨i1, -⟩
    · omega
    · rw [if_pos (by omega)]
  · rw [if_pos (by omega), if_neg (by omega)]
theorem ztwo {U : CS} {V : ST} (hR : R2 (U 8)) (a1 a2 a3 : Int32) : Sim (wp_X11_two a1 a2 a3 U) (wp_X12_two a1 a2 a3 V) (fun U' V' => R2 (U' 8) ∧ AgU [8] U' U ∧ Ag [36, 37] V' V) := by
  intro Q h
  have hz := zF_e
  have bad : (bad2 a1 ∨ ((∃ m1 m2 : Nat, a1 = nI (100 * m1 + m2) ∧ 1 ≤ m1 ∧ m1 ≤ 31 ∧ 1 ≤ m2 ∧ m2 ≤ 31) ∧ ((a2 < 0 ∨ 6 < a2) ∨ ((¬ a2 < 0 ∧ ¬ 6 < a2) ∧ (a3 < 0 ∨ 1 < a3))))) → Q (-1) U := fun hb => h _ _ fun K hK => ztwoN hb (hK V ⟨hR, AgU_r _ _, Ag_r _ _⟩)
  unfold wp_X11_two wp_X11_two_p57
  refine ⟨by decide, ?_⟩
  rintro _ rfl
  refine ⟨by decide, ?_⟩
  rintro _ rfl
  rcases two_or a1 with ⟨m1, m2, rfl, h1, h2, h3, h4⟩ | hb
  rotate_left
  · refine ⟨fun _ => bad (.inl hb), fun c => ?_⟩
    rcases id hb with hb' | ⟨n, hn, rfl, hb'⟩
    · exact absurd hb' c
    rw [n100r hn, n100 hn]
    refine zwithin (fun p q => ⟨fun c => absurd c (by decide), fun _ => ?_⟩) (fun _ => ⟨fun _ => bad (.inl hb), fun c => absurd rfl c⟩)
    refine zwithin (fun p2 q2 => ?_) (fun _ => ⟨fun _ => bad (.inl hb), fun c => absurd rfl c⟩)
    have w1 := mt (nI_ltI (a := n / 100) (b := 1) (by omega) (by decide)).mpr p
    have w2 := mt (nI_ltI (a := 31) (b := n / 100) (by decide) (by omega)).mpr q
    have w3 := mt (nI_ltI (a := n % 100) (b := 1) (by omega) (by decide)).mpr p2
    have w4 := mt (nI_ltI (a := 31) (b := n % 100) (by decide) (by omega)).mpr q2
    omega
  obtain ⟨e1, e2⟩ := t100 (m1 := m1) (m2 := m2) h4 h2
  have bad := fun q => bad (.inr ⟨⟨m1, m2, rfl, h1, h2, h3, h4⟩, q⟩)
  rw [e2, e1]
  refine ⟨fun c => absurd c (nI_pos (by omega)), fun _ => zWin (lo := 1) (hi := 31) h1 h2 (by decide) ⟨fun c => absurd c (by decide), fun _ => zWin (lo := 1) (hi := 31) h3 h4 (by decide) ⟨fun c => absurd c (by decide), fun _ => ?_⟩⟩⟩
  refine zwithin (fun p q => ⟨fun c => absurd c (by decide), fun _ => ?_⟩) (fun p => ⟨fun _ => bad (.inl p), fun c => absurd rfl c⟩)
  rcases what_or a3 with ha | ha
  rotate_left
  · exact zWb ha ⟨fun c => absurd rfl c, fun _ => bad (.inr ⟨⟨p, q⟩, ha⟩)⟩
  obtain ⟨j, hj', rfl⟩ := nI_of p
  have hj : j ≤ 6 := by
    have := mt (nI_ltI (a := 6) (b := j) (by decide) hj').mpr q
    omega
  refine zW01 ha ⟨fun _ => ?_, fun c => absurd c (by decide)⟩
  refine zprep2 hR fun P' g1 g2 => ?_
  rintro _ rfl
  have hR' : R2 (mu U 8 P' 8) := .inr ⟨g1, g2⟩
  have hA' : AgU [8] (mu U 8 P') U := AgU_mu (AgU_r _ _) (by decide) _
  have hC : ∀ a b j : Nat, j ≤ 6 → 1 ≤ a → a ≤ 31 → 1 ≤ b → b ≤ 31 → P2c P' a b j := fun a b j q q1 q2 q3 q4 => g2 j a b (.inl (by omega)) q q1 q2 q3 q4
  have le := T2_le j h1 h3 (show m1 + m2 ≤ 62 by omega)
  have key : ∀ y : Int32, y = two2 a3 m1 m2 j → Q y (mu U 8 P') := fun y ey => h _ _ fun K hK => ztwoR h1 h2 h3 h4 hj ha fun V' hV => by
    rw [← ey]
    exact hK V' ⟨hR', hA', hV⟩
  unfold two2 at key
  refine zneed (P := mu U 8 P' 8) hj h1 h2 h3 h4 (hC _ _ _ hj h1 h2 h3 h4) ?_
  rintro _ rfl
  rw [mu_self]
  unfold wp_X11_two_p97 wp_X11_two_p100 wp_X11_two_p129
  refine ⟨fun c => key _ ?_, fun c => ?_⟩
  · have c := (nI_leI (a := 268435456) (by decide) (cN_b _)).mp c
    rw [if_neg (mt (cN_lt _).mpr (by omega))]
  have c : T2 m1 m2 j < zF := by
    have := mt (nI_leI (a := 268435456) (b := cN (T2 m1 m2 j)) (by decide) (cN_b _)).mpr c
    exact (cN_lt _).mp (by omega)
  rw [if_pos c] at key
  rw [cN_f c]
  obtain ⟨k1, k2⟩ := two_tf j h1 h3 (show m1 + m2 ≤ 62 by omega) c
  have more : (a3 = 0 ∨ ¬ T2 m1 m2 j = 0) → ((¬ a3 = 0 → (wp_X5_bestIn (nI j) (nI m1) (nI m2) (mu U 8 P' 8) (fun y116 v116 => ∀ u116 : CS, u116 = mu (mu U 8 P') 8 v116 → ((¬ y116 = nI (T2 m1 m2 j) → Q 1 u116) ∧ (y116 = nI (T2 m1 m2 j) → Q 0 u116))))) ∧ (a3 = 0 → Q (nI (T2 m1 m2 j)) (mu U 8 P'))) := by
    intro hn
    refine ⟨fun c2 => ?_, fun c2 => key _ (by rw [if_pos c2])⟩
    obtain ⟨k3, k4⟩ := k2 (hn.resolve_left c2)
    refine zbestIn (P := mu U 8 P' 8) hj h1 h2 h3 h4 (fun k q1 q2 => ⟨fun q3 => hC _ _ _ (by omega) q1 (by omega) h3 h4, hC _ _ _ hj (by omega) (by omega) h3 h4⟩) ?_
    rintro _ rfl
    rw [mu_self, k3]
    rw [if_neg c2, k4] at key
    have hc := cN_or (B21 m1 m2 j).1
    refine ⟨fun c3 => key _ ?_, fun c3 => key _ ?_⟩
    · rw [if_neg]
      intro e
      exact c3 (by rw [e, cN_f c])
    · have c3 := (nI_eq (cN_b _) (by omega)).mp c3
      rw [if_pos]
      omega
  refine ⟨fun c2 => more (.inl (ha.resolve_right c2)), fun c2 => ⟨fun c3 => more (.inr fun e => c3 (by rw [e]; rfl)), fun c3 => key _ ?_⟩⟩
  have c3 := (nI_z0 (by omega)).mp c3
  rw [k1 c3, if_neg (by rw [c2]; decide)]

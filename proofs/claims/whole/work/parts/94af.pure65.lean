/-! count, feed, the shelves -/
/-- the tape -/
def RL0 (L V : ST) : Prop := ∃ n : Nat, n ≤ 120 ∧ gI L 4 = nI n ∧ gI V 12 = nI n ∧ ∀ i : Nat, i < n → ∃ b : Nat, b < 256 ∧ gA L 0 i = nI b ∧ gA V 11 i = (nI b).toInt8.toInt32
theorem zfeed {U : CS} {V : ST} (hL : RL0 (U 2) V) (a1 : Int32) : Sim (wp_X11_feed a1 U) (wp_X12_feed a1 V) (fun U' V' => (RL0 (U' 2) V' ∧ (∀ k : Nat, k ≠ 0 → gA (U' 2) k = gA (U 2) k) ∧ (∀ k : Nat, k ≠ 4 → gI (U' 2) k = gI (U 2) k)) ∧ AgU [2] U' U ∧ Ag [11, 12] V' V) := by
  intro Q h
  unfold wp_X11_feed wp_X11_feed_p11 wp_X11_feed_p23
  have hbad : (a1 < 0 ∨ 255 < a1) → Q (-1) U := fun hc => h _ _ fun K hK => by
    unfold wp_X12_feed
    exact zin (fun p q => (hc.elim p q).elim) (fun _ => ⟨fun c => absurd rfl c, fun _ => hK _ ⟨⟨hL, fun _ _ => rfl, fun _ _ => rfl⟩, AgU_r _ _, Ag_r _ _⟩⟩)
  refine ⟨fun c => hbad (.inl c), fun c => ⟨fun c2 => ?_, fun c2 => hbad (.inr (Int32.not_le.mp c2))⟩⟩
  obtain ⟨b, hb, rfl⟩ := nI_of c
  have hb2 : b < 256 := by
    have := (nI_leI (a := b) (b := 255) hb (by decide)).mp c2
    omega
  have hR : ∀ {Q2 : Int32 → Prop}, Q2 1 → wp_X12_in (nI b) 0 255 Q2 := fun hq => zin (fun _ _ => hq) (fun p => by
    rcases p with p | p
    · exact absurd p c
    · exact absurd c2 (Int32.not_le.mpr p))
  have hL0 := hL
  obtain ⟨n, hn, e1, e2, ht⟩ := hL
  unfold wp_X3_take
  rw [e1]
  refine ⟨fun c3 => ?_, fun c3 => ?_⟩
  · have hlt : n < 120 := (nI_ltI (b := 120) (by omega) (by decide)).mp c3
    refine ⟨nI_in hlt (by decide), ?_⟩
    rintro _ rfl
    simp only [gI_sI, gI_sI', gI_sA, gI_sJ, gI_sG, gA_sA, gA_sA', gA_sI, gA_sJ, gA_sG, gJ_sJ, gJ_sJ', gJ_sI, gJ_sA, gJ_sG, gG_sG, gG_sG', gG_sI, gG_sA, gG_sJ, ne_eq, Nat.reduceEqDiff, Nat.succ_ne_zero, Nat.zero_ne_one, not_false_eq_true, reduceCtorEq]
    rw [e1, nI_1]
    rintro _ rfl _ rfl _ rfl
    simp only [gI_sI, gI_sI', gI_sA, gI_sJ, gI_sG, gA_sA, gA_sA', gA_sI, gA_sJ, gA_sG, gJ_sJ, gJ_sJ', gJ_sI, gJ_sA, gJ_sG, gG_sG, gG_sG', gG_sI, gG_sA, gG_sJ, ne_eq, Nat.reduceEqDiff, Nat.succ_ne_zero, Nat.zero_ne_one, not_false_eq_true, reduceCtorEq]
    rw [nI_clamp (by omega)]
    refine h _ _ fun K hK => ?_
    unfold wp_X12_feed
    refine hR ⟨fun _ => ?_, fun c => absurd c (by decide)⟩
    rw [e2]
    refine ⟨fun _ => ?_, fun c4 => absurd ((nI_eq (b := 120) (by omega) (by decide)).mp c4) (by omega)⟩
    rintro _ rfl
    refine ⟨nI_in hlt (by decide), ?_⟩
    rintro _ rfl
    simp only [gI_sI, gI_sI', gI_sA, gI_sJ, gI_sG, gA_sA, gA_sA', gA_sI, gA_sJ, gA_sG, gJ_sJ, gJ_sJ', gJ_sI, gJ_sA, gJ_sG, gG_sG, gG_sG', gG_sI, gG_sA, gG_sJ, ne_eq, Nat.reduceEqDiff, Nat.succ_ne_zero, Nat.zero_ne_one, not_false_eq_true, reduceCtorEq]
    rw [e2, nI_1]
    rintro _ rfl _ rfl
    rw [nI_clamp (by omega)]
    simp only [gI_sI, gI_sI', gI_sA, gI_sJ, gI_sG, gA_sA, gA_sA', gA_sI, gA_sJ, gA_sG, gJ_sJ, gJ_sJ', gJ_sI, gJ_sA, gJ_sG, gG_sG, gG_sG', gG_sI, gG_sA, gG_sJ, ne_eq, Nat.reduceEqDiff, Nat.succ_ne_zero, Nat.zero_ne_one, not_false_eq_true, reduceCtorEq]
    refine hK _ ⟨⟨⟨n + 1, by omega, rfl, rfl, fun i hi => ?_⟩, fun k hk => ?_, fun k hk => ?_⟩, AgU_mu (AgU_r _ _) (by decide) _, Ag_sI (Ag_sA (Ag_r _ _) (by decide) _) (by decide) _⟩
    · by_cases e : i = n
      · subst e
        refine ⟨b, hb2, pk_us, ?_⟩
        refine Eq.trans (b := upd (gA V 11) i (vp_nar .byte (nI b).toInt8.toInt32) i) rfl ?_
        rw [pk_us]
        show (nI b).toInt8.toInt32.toInt8.toInt32 = _
        rw [Int8.toInt8_toInt32]
      · obtain ⟨b', k1, k2, k3⟩ := ht i (by omega)
        exact ⟨b', k1, (pk_un e).trans k2, (pk_un e).trans k3⟩
    · rw [mu_at, gA_sI, gA_sA' _ _ hk]
    · rw [mu_at, gI_sI' _ _ hk, gI_sA]
  · rintro _ rfl
    rw [mu_self]
    have hge : n = 120 := by
      have := mt (nI_ltI (a := n) (b := 120) (by omega) (by decide)).mpr c3
      omega
    refine h _ _ fun K hK => ?_
    unfold wp_X12_feed
    refine hR ⟨fun _ => ⟨fun c4 => ?_, fun _ => hK _ ⟨⟨hL0, fun _ _ => rfl, fun _ _ => rfl⟩, AgU_r _ _, Ag_r _ _⟩⟩, fun c => absurd c (by decide)⟩
    exact absurd (by rw [e2, hge]; rfl) c4
theorem zcount {U : CS} {V : ST} (hT : RT (U 1) V) (hL : RL0 (U 2) V) (hB : RB (U 17) V) (a1 : Int32) : Sim (wp_X11_count a1 U) (wp_X12_count a1 V) (fun U' V' => U' = U ∧ V' = V) := by
  intro Q h
  unfold wp_X11_count
  obtain ⟨d, n, val, wh, b, a, hdn, e4, e5, e6, e7, hV, hH⟩ := hT
  obtain ⟨n2, hn, l1, l2, ht⟩ := hL
  obtain ⟨n3, k, hn3, b1, b2, hk, b3, b4, hk2, ht3⟩ := hB
  refine ⟨fun c => ?_, fun c => ⟨fun c2 => ?_, fun c2 => ⟨fun c3 => ?_, fun c3 => ⟨fun c4 => ?_, fun c4 => ?_⟩⟩⟩⟩
  · refine h _ _ fun K hK => ?_
    unfold wp_X12_count
    exact ⟨fun _ => zK (hK _ ⟨rfl, rfl⟩) (by rw [l1, l2]), fun c' => absurd c c'⟩
  · refine h _ _ fun K hK => ?_
    unfold wp_X12_count
    exact ⟨fun c' => absurd c' c, fun _ => ⟨fun _ => zK (hK _ ⟨rfl, rfl⟩) (by rw [e4, e5]), fun c' => absurd c2 c'⟩⟩
  · refine h _ _ fun K hK => ?_
    unfold wp_X12_count
    exact ⟨fun c' => absurd c' c, fun _ => ⟨fun c' => absurd c' c2, fun _ => ⟨fun _ => zK (hK _ ⟨rfl, rfl⟩) (by rw [b1, b2]), fun c' => absurd c3 c'⟩⟩⟩
  · refine h _ _ fun K hK => ?_
    unfold wp_X12_count
    exact ⟨fun c' => absurd c' c, fun _ => ⟨fun c' => absurd c' c2, fun _ => ⟨fun c' => absurd c' c3, fun _ => ⟨fun _ => zK (hK _ ⟨rfl, rfl⟩) (by rw [b3, b4]), fun c' => absurd c4 c'⟩⟩⟩⟩
  · refine h _ _ fun K hK => ?_
    unfold wp_X12_count
    exact ⟨fun c' => absurd c' c, fun _ => ⟨fun c' => absurd c' c2, fun _ => ⟨fun c' => absurd c' c3, fun _ => ⟨fun c' => absurd c' c4, fun _ => hK _ ⟨rfl, rfl⟩⟩⟩⟩⟩

/-! in deed -/
theorem v9 {k : Nat} (h : k < 9) : vp_in (nI k) 9 := nI_in h (by decide)
theorem c9_0 : (0 : Int32).toNatClampNeg = 0 := by decide
theorem c9_1 : (1 : Int32).toNatClampNeg = 1 := by decide
theorem c9_2 : (2 : Int32).toNatClampNeg = 2 := by decide
theorem c9_3 : (3 : Int32).toNatClampNeg = 3 := by decide
theorem c9_4 : (4 : Int32).toNatClampNeg = 4 := by decide
theorem c9_5 : (5 : Int32).toNatClampNeg = 5 := by decide
theorem c9_6 : (6 : Int32).toNatClampNeg = 6 := by decide
theorem c9_7 : (7 : Int32).toNatClampNeg = 7 := by decide
theorem c9_8 : (8 : Int32).toNatClampNeg = 8 := by decide
theorem AgU_emb {ks : List Nat} {u v w : CS} {l : List Nat} (h : AgU ks u w) (hl : ∀ k, ix l k < l.length → k ∈ ks) : AgU ks (emb u l v) w := fun k hk => by
  unfold emb
  rw [if_neg (fun c => hk (hl k c))]
  exact h k hk
/-- one who is hidden, his row in the reference -/
def RD (H S : ST) (f : Nat → Int32) : Prop :=
  ((gI H 1 = 1 ∧ f 0 = gI H 2 ∧ ¬ f 0 < 0) ∨ (gI H 1 = 0 ∧ f 0 = -1)) ∧ f 1 = gI H 3 ∧ f 2 = gI S 2 ∧ f 3 = gI H 4 ∧ f 4 = gI H 5 ∧ f 5 = gI S 0 ∧ f 6 = gI S 1 ∧ f 7 = gI H 6 ∧ f 8 = gI H 7
theorem zdrops1 {a : Int32} {V : ST} {Q : Int32 → ST → Prop} (f : Nat → Int32) (ef : gA V 46 = f)
    (h1 : f 0 < a → ∀ f' : Nat → Int32, f' 0 = f 0 → f' 1 = f 1 → f' 2 = f 2 - 1 → f' 3 = f 3 + 1 → f' 4 = f 4 + 1 → f' 5 = f 5 → f' 6 = (if a - 1 < f 6 then a - 1 else f 6) → f' 7 = f 7 → f' 8 = f 8 → Q 1 (sA V 46 f'))
    (h0 : ¬ f 0 < a → ∀ f' : Nat → Int32, f' 0 = f 0 → f' 1 = f 1 → f' 2 = f 2 → f' 3 = f 3 + 1 → f' 4 = f 4 → f' 5 = (if f 5 < a then a else f 5) → f' 6 = f 6 → f' 7 = f 7 → f' 8 = f 8 → Q 0 (sA V 46 f')) : wp_X12_drops1 a V Q := by
  unfold wp_X12_drops1 wp_X12_drops1_p82 wp_X12_drops1_p37
  rw [ef, c9_0, c9_2, c9_3, c9_4, c9_5, c9_6]
  refine ⟨v9 (k := 3) (by decide), ?_⟩
  rintro _ rfl _ rfl
  refine ⟨v9 (k := 3) (by decide), ?_⟩
  rintro _ rfl
  refine ⟨v9 (k := 0) (by decide), ?_⟩
  simp only [gI_sI, gI_sI', gI_sA, gI_sJ, gI_sG, gA_sA, gA_sA', gA_sI, gA_sJ, gA_sG, gJ_sJ, gJ_sJ', gJ_sI, gJ_sA, gJ_sG, gG_sG, gG_sG', gG_sI, gG_sA, gG_sJ, ne_eq, Nat.reduceEqDiff, Nat.succ_ne_zero, Nat.zero_ne_one, not_false_eq_true, reduceCtorEq]
  rintro _ rfl
  refine ⟨fun c => ?_, fun c => ?_⟩
  · have c : f 0 < a := c
    refine ⟨v9 (k := 2) (by decide), ?_⟩
    rintro _ rfl _ rfl
    refine ⟨v9 (k := 2) (by decide), ?_⟩
    rintro _ rfl
    refine ⟨v9 (k := 4) (by decide), ?_⟩
    simp only [gI_sI, gI_sI', gI_sA, gI_sJ, gI_sG, gA_sA, gA_sA', gA_sI, gA_sJ, gA_sG, gJ_sJ, gJ_sJ', gJ_sI, gJ_sA, gJ_sG, gG_sG, gG_sG', gG_sI, gG_sA, gG_sJ, ne_eq, Nat.reduceEqDiff, Nat.succ_ne_zero, Nat.zero_ne_one, not_false_eq_true, reduceCtorEq]
    rintro _ rfl _ rfl
    refine ⟨v9 (k := 4) (by decide), ?_⟩
    rintro _ rfl _ rfl
    refine ⟨v9 (k := 6) (by decide), ?_⟩
    simp only [gI_sI, gI_sI', gI_sA, gI_sJ, gI_sG, gA_sA, gA_sA', gA_sI, gA_sJ, gA_sG, gJ_sJ, gJ_sJ', gJ_sI, gJ_sA, gJ_sG, gG_sG, gG_sG', gG_sI, gG_sA, gG_sJ, ne_eq, Nat.reduceEqDiff, Nat.succ_ne_zero, Nat.zero_ne_one, not_false_eq_true, reduceCtorEq]
    rintro _ rfl
    refine ⟨fun c2 => ?_, fun c2 => ?_⟩
    · have c2 : f 6 ≤ a - 1 := c2
      rw [sA_sA, sA_sA]
      refine h1 c _ rfl rfl rfl rfl rfl rfl ?_ rfl rfl
      rw [if_neg (Int32.not_lt.mpr c2)]
      rfl
    · have c2 : ¬ f 6 ≤ a - 1 := c2
      rintro _ rfl
      refine ⟨v9 (k := 6) (by decide), ?_⟩
      rintro _ rfl
      rw [sA_sA, sA_sA, sA_sA]
      refine h1 c _ rfl rfl rfl rfl rfl rfl ?_ rfl rfl
      rw [if_pos (Int32.not_le.mp c2)]
      rfl
  · have c : ¬ f 0 < a := c
    refine ⟨v9 (k := 5) (by decide), ?_⟩
    rintro _ rfl
    refine ⟨fun c2 => ?_, fun c2 => ?_⟩
    · have c2 : a ≤ f 5 := c2
      refine h0 c _ rfl rfl rfl rfl rfl ?_ rfl rfl rfl
      rw [if_neg (Int32.not_lt.mpr c2)]
      rfl
    · have c2 : ¬ a ≤ f 5 := c2
      refine ⟨v9 (k := 5) (by decide), ?_⟩
      rintro _ rfl
      rw [sA_sA]
      refine h0 c _ rfl rfl rfl rfl rfl ?_ rfl rfl rfl
      rw [if_pos (Int32.not_le.mp c2)]
      rfl
/-- the class's drop in deed -/
theorem zdropFrom {a : Int32} {u : CS} {Q : Int32 → CS → Prop}
    (h1 : gI (u 0) 2 < a → ∀ u' : CS, u' 0 = sI (sI (u 0) 4 (gI (u 0) 4 + 1)) 5 (gI (u 0) 5 + 1) → u' 1 = sI (sI (u 1) 1 (if a - 1 < gI (u 1) 1 then a - 1 else gI (u 1) 1)) 2 (gI (u 1) 2 - 1) → Q 1 u')
    (h0 : ¬ gI (u 0) 2 < a → ∀ u' : CS, u' 0 = sI (u 0) 4 (gI (u 0) 4 + 1) → u' 1 = sI (u 1) 0 (if gI (u 1) 0 < a then a else gI (u 1) 0) → Q 0 u') : wp_X1_dropFrom a u Q := by
  unfold wp_X1_dropFrom wp_X1_dropFrom_p13 wp_X1_dropFrom_p38 wp_X7_part wp_X7_part_p43
  refine ⟨fun c => ?_, fun c => ?_⟩
  · rintro _ rfl _ rfl
    refine ⟨fun _ => ?_, fun c => absurd rfl c⟩
    refine ⟨fun _ => ?_, fun c => absurd rfl c⟩
    rintro _ rfl _ rfl _ rfl
    exact ⟨by decide, h0 (Int32.not_lt.mpr c) _ rfl rfl⟩
  · rintro _ rfl _ rfl
    refine ⟨fun c => absurd c (by decide), fun _ => ?_⟩
    rintro _ rfl _ rfl
    refine ⟨fun c => absurd c (by decide), fun _ => ?_⟩
    rintro _ rfl _ rfl _ rfl _ rfl _ rfl _ rfl
    exact ⟨by decide, h1 (Int32.not_le.mp c) _ rfl rfl⟩
/-- one drop on both sides -/
theorem zdrop1 {U : CS} {V : ST} (hD : RD (U 13) (U 14) (gA V 46)) (ht : ¬ gI (U 13) 1 = 0) (a : Int32) : ∃ y : Int32, (y = 0 ∨ y = 1) ∧ ∀ Q : Int32 → CS → Prop, (∀ v : CS, (∀ K : Int32 → ST → Prop, (∀ f' : Nat → Int32, RD (v 0) (v 1) f' → ¬ gI (v 0) 1 = 0 → gI (v 0) 3 = gI (U 13) 3 → K y (sA V 46 f')) → wp_X12_drops1 a V K) → Q y v) → wp_X1_dropFrom a (fun i => U ([13, 14].getD i 0)) Q := by
  obtain ⟨hH, e1, e2, e3, e4, e5, e6, e7, e8⟩ := hD
  obtain ⟨t1, t2, t3⟩ := hH.resolve_right fun c => ht c.1
  by_cases c : gI (U 13) 2 < a
  · refine ⟨1, .inr rfl, fun Q h => zdropFrom (fun _ v q0 q1 => h v fun K hK => ?_) (fun c' => absurd c c')⟩
    refine zdrops1 _ rfl (fun c2 f' g0 g1 g2 g3 g4 g5 g6 g7 g8 => hK f' ?_ ?_ ?_) (fun c2 => absurd c (by rw [← t2]; exact c2))
    · unfold RD
      rw [q0, q1]
      refine ⟨.inl ⟨t1, g0.trans t2, by rw [g0]; exact t3⟩, g1.trans e1, ?_, ?_, ?_, g5.trans e5, ?_, g7.trans e7, g8.trans e8⟩
      · rw [g2, e2]; rfl
      · rw [g3, e3]; rfl
      · rw [g4, e4]; rfl
      · rw [g6, e6]; rfl
    · rw [q0]
      exact ht
    · rw [q0]
      rfl
  · refine ⟨0, .inl rfl, fun Q h => zdropFrom (fun c' => absurd c' c) (fun _ v q0 q1 => h v fun K hK => ?_)⟩
    refine zdrops1 _ rfl (fun c2 => absurd (by rw [← t2]; exact c2) c) (fun c2 f' g0 g1 g2 g3 g4 g5 g6 g7 g8 => hK f' ?_ ?_ ?_)
    · unfold RD
      rw [q0, q1]
      refine ⟨.inl ⟨t1, g0.trans t2, by rw [g0]; exact t3⟩, g1.trans e1, g2.trans e2, ?_, g4.trans e4, ?_, g6.trans e6, g7.trans e7, g8.trans e8⟩
      · rw [g3, e3]; rfl
      · rw [g5, e5]; rfl
    · rw [q0]
      exact ht
    · rw [q0]
      rfl

theorem zcanBe {U : CS} {N lo hi j : Nat} {st : Int32} {o : Int64} (t1 : gA (U 1) 0 0 = nI N) (hN : N ≤ 60) (e0 : gI (U 12) 0 = nI lo) (e1 : gI (U 12) 1 = nI hi) (e2 : gI (U 12) 2 = nI j) (hlo : lo ≤ 60) (hhi : hi ≤ 60) (hj : j ≤ 6) {Q : Int32 → CS → Prop} (hq : Q (if tvd N lo hi j st o = true then 1 else 0) U) : wp_X11_canBe st o U Q := by
  unfold wp_X11_canBe wp_X11_canBe_p25 wp_X11_canBe_p71 wp_X11_canBe_p72 wp_X11_canBe_p49
  have no : tvd N lo hi j st o = false → ((0 : Int32) &&& 1 = (0 : Int32) ∧ Q (0 : Int32) U) := fun h => by
    rw [h] at hq
    exact ⟨by decide, hq⟩
  have ye : tvd N lo hi j st o = true → ((1 : Int32) &&& 1 = (1 : Int32) ∧ Q (1 : Int32) U) := fun h => by
    rw [h] at hq
    exact ⟨by decide, hq⟩
  refine zstepsT ?_
  rintro _ rfl
  rw [show mu U 1 (U 1) = U from mu_self U 1, t1, e0, e1, e2]
  refine zwithin (fun p q => ⟨fun c => absurd c (by decide), fun _ => ?_⟩) (fun p => ⟨fun _ => no ?_, fun c => absurd rfl c⟩)
  rotate_left
  · unfold tvd
    rcases p with p | p
    · rw [decide_eq_false (fun c => c p), Bool.false_and]
    · rw [decide_eq_false (p := ¬ nI N < st) (fun c => c p), Bool.false_and, Bool.and_false]
  have h0 : ¬ st < 0 := by
    intro c
    refine p ?_
    rw [Int32.lt_iff_toInt_lt] at c ⊢
    have e0 : (0 : Int32).toInt = 0 := by decide
    have e1 : (1 : Int32).toInt = 1 := by decide
    omega
  obtain ⟨s, hs, rfl⟩ := nI_of h0
  have hsN : s ≤ N := by
    have := mt (nI_ltI (a := N) (b := s) (by omega) hs).mpr q
    omega
  have hval : tvd N lo hi j (nI s) o = (decide (j ≠ 0) && ((decide (o = 1) && decide (lo < s)) || (decide (o = 0) && decide (s ≤ hi)))) := by
    unfold tvd
    rw [decide_eq_true p, decide_eq_true q, nI_clamp hs, Bool.true_and, Bool.true_and]
  rw [hval] at no ye
  refine ⟨fun c => ?_, fun c => no ?_⟩
  rotate_left
  · have : j = 0 := (nI_eq (b := 0) (by omega) (by decide)).mp c
    rw [this]
    rfl
  have hj0 : j ≠ 0 := fun e => c (by rw [e]; rfl)
  rw [decide_eq_true hj0, Bool.true_and] at no ye
  rintro _ rfl
  rw [lg_cmp_eq]
  refine ⟨fun c1 => ?_, fun c1 => ?_⟩
  · rintro _ rfl
    rw [lg_cmp_eq]
    rw [decide_eq_false c1, Bool.false_and, Bool.false_or] at no ye
    refine ⟨fun c2 => no ?_, fun c2 => ⟨fun c3 => no ?_, fun c3 => ye ?_⟩⟩
    · rw [decide_eq_false c2, Bool.false_and]
    · have := (nI_ltI (by omega) (by omega)).mp c3
      rw [decide_eq_false (show ¬ s ≤ hi by omega), Bool.and_false]
    · have := mt (nI_ltI (a := hi) (b := s) (by omega) (by omega)).mpr c3
      rw [decide_eq_true c2, decide_eq_true (show s ≤ hi by omega)]
      rfl
  · refine ⟨fun c3 => no ?_, fun c3 => ye ?_⟩
    · have := (nI_leI (by omega) (by omega)).mp c3
      rw [decide_eq_false (show ¬ lo < s by omega), c1]
      rfl
    · have := mt (nI_leI (a := s) (b := lo) (by omega) (by omega)).mpr c3
      rw [decide_eq_true c1, decide_eq_true (show lo < s by omega)]
      rfl
theorem zminI {a b : Nat} (ha : a < 2 ^ 31) (hb : b < 2 ^ 31) : (if nI a < nI b then nI a else nI b) = nI (if a < b then a else b) := by
  by_cases c : a < b
  · rw [if_pos c, if_pos ((nI_ltI ha hb).mpr c)]
  · rw [if_neg c, if_neg (mt (nI_ltI ha hb).mp c)]
theorem zget {S : ST} {i m : Nat} (e3 : gI S 3 = nI m) (hi : i < m) (hm : m ≤ 60) {Q : Int64 → ST → Prop} (hq : Q (gJ S 0 i) S) : wp_X6_get (nI i) S Q := by
  unfold wp_X6_get wp_X6_get_p21 wp_X6_get_p22
  rw [e3]
  refine ⟨fun c => absurd c (nI_pos (by omega)), fun _ => ⟨fun c => absurd ((nI_leI (by omega) (by omega)).mp c) (by omega), fun _ => ⟨nI_in (by omega) (by decide), ?_⟩⟩⟩
  rintro _ rfl
  rw [nI_clamp (by omega)]
  exact hq
/-- the class's told drops are as the tale has them -/
def TM (v : CS) (S : tS) : Prop := gI (v 12) 0 = nI S.1 ∧ gI (v 12) 1 = nI S.2.1 ∧ gI (v 12) 2 = nI S.2.2.1 ∧ gI (v 0) 15 = nI S.2.2.2
def TF (U v : CS) : Prop := AgU [0, 3, 12] v U ∧ Ag [15] (v 0) (U 0) ∧ RLd false (v 3)
theorem zlisten {U : CS} {N J s m : Nat} (hs : s < 6) (t1 : gA (U 1) 0 0 = nI N) (t2 : gA (U 1) 0 1 = nI J) (hN : N ≤ 60) (hJ : J ≤ 6) (hL : RLd false (U 3)) (hm : m ≤ 60) (e3 : gI (U (18 + s)) 3 = nI m) {Q : Int32 → CS → Prop}
    (hq : ∀ U' : CS, TF U U' → TM U' (tld N m (gJ (U (18 + s)) 0) 31 0 (0, N, J, 0)).2.2 → (tld N m (gJ (U (18 + s)) 0) 31 0 (0, N, J, 0)).2.1 < 100 → Q (if (tld N m (gJ (U (18 + s)) 0) 31 0 (0, N, J, 0)).1 = true then -2 else nI (tld N m (gJ (U (18 + s)) 0) 31 0 (0, N, J, 0)).2.1) U') : wp_X11_listen_S s U Q := by
  unfold wp_X11_listen_S
  refine zstepsT ?_
  rintro _ rfl
  rw [show mu U 1 (U 1) = U from mu_self U 1]
  refine zjarsT ?_
  rintro _ rfl
  rw [show mu U 1 (U 1) = U from mu_self U 1, t1, t2]
  unfold wp_X7_become
  rintro _ rfl _ rfl _ rfl _ rfl _ rfl
  generalize hX : mu (mu U 12 (sI (sI (sI (U 12) 0 0) 1 (nI N)) 2 (nI J))) 0 (sI (mu U 12 (sI (sI (sI (U 12) 0 0) 1 (nI N)) 2 (nI J)) 0) 15 0) = X
  have hTX : TF U X := by
    subst hX
    exact ⟨AgU_mu (AgU_mu (AgU_r _ _) (by decide) _) (by decide) _, Ag_sI (Ag_r _ _) (by decide) _, hL⟩
  have hMX : TM X (0, N, J, 0) := by
    subst hX
    exact ⟨rfl, rfl, rfl, rfl⟩
  clear hX
  generalize hF : tld N m (gJ (U (18 + s)) 0) 31 0 (0, N, J, 0) = F at hq
  unfold wp_X11_listen_S_p29
  refine ⟨fun x2 v => ∃ (f k : Nat) (S : tS), x2 = nI (2 * k) ∧ 31 ≤ k + f ∧ 2 * k ≤ m + 1 ∧ TF U v ∧ TM v S ∧ tok N k S ∧ tld N m (gJ (U (18 + s)) 0) f k S = F, fun x2 _ => 64 - x2.toNatClampNeg, ⟨31, 0, (0, N, J, 0), rfl, by omega, by omega, hTX, hMX, ⟨Nat.zero_le _, Nat.le_refl _, hJ, Nat.le_refl _⟩, hF⟩, ?_⟩
  rintro _ v ⟨f, k, S, rfl, hf, hk, hT, hM, hok, hF⟩
  have eS : v (18 + s) = U (18 + s) := hT.1 (18 + s) (by
    intro c
    simp only [List.mem_cons, List.not_mem_nil, or_false] at c
    omega)
  have e1v : v 1 = U 1 := hT.1 1 (by decide)
  obtain ⟨k0, k1, k2, k3⟩ := hok
  unfold wp_X11_listen_S_p29b wp_X11_listen_S_p69
  rw [eS, e3]
  have hmS : mu v (18 + s) (U (18 + s)) = v := by
    rw [← eS]
    exact mu_self v (18 + s)
  refine ⟨fun c => ?_, fun c => ?_⟩
  · have := (nI_leI (by omega) (by omega)).mp c
    have hF2 : (true, k, S) = F := by
      cases f with
      | zero => exact hF
      | succ f =>
        rw [tld_s, if_pos this] at hF
        exact hF
    subst hF2
    have := hq v hT hM (by show k < 100; omega)
    rw [if_pos rfl] at this
    exact this
  have hlt : 2 * k < m := by
    have := mt (nI_leI (a := m) (b := 2 * k) (by omega) (by omega)).mpr c
    omega
  obtain ⟨f, rfl⟩ : ∃ f', f = f' + 1 := ⟨f - 1, by omega⟩
  rw [tld_s, if_neg (by omega)] at hF
  have fail : (false, k, S) = F → (¬ (2 : Int32) = 0 ∧ ∀ y71 : Int32, y71 = nI (2 * k) / (2 : Int32) → Q y71 v) := by
    rintro rfl
    refine ⟨by decide, ?_⟩
    rw [show nI (2 * k) / (2 : Int32) = nI (2 * k / 2) from pk_div (by omega) (by decide) (by decide), show 2 * k / 2 = k by omega]
    rintro _ rfl
    have := hq v hT hM (by show k < 100; omega)
    rw [if_neg (fun c => ff c)] at this
    exact this
  refine zget e3 hlt hm ?_
  rintro _ rfl
  rw [hmS]
  rintro _ rfl
  rw [show nI (2 * k) + (1 : Int32) = nI (2 * k + 1) from nI_add (2 * k) 1]
  rintro _ rfl
  rw [eS, e3]
  refine ⟨fun c2 => ?_, fun c2 => ?_⟩
  · have := (nI_leI (by omega) (by omega)).mp c2
    rw [if_pos this] at hF
    exact fail hF
  have hlt2 : 2 * k + 1 < m := by
    have := mt (nI_leI (a := m) (b := 2 * k + 1) (by omega) (by omega)).mpr c2
    omega
  rw [if_neg (by omega)] at hF
  rintro _ rfl
  refine zget e3 hlt2 hm ?_
  rintro _ rfl
  rw [hmS]
  refine zcanBe (N := N) (lo := S.1) (hi := S.2.1) (j := S.2.2.1) (by rw [e1v]; exact t1) hN hM.1 hM.2.1 hM.2.2.1 (by omega) (by omega) k2 ?_
  by_cases cv : tvd N S.1 S.2.1 S.2.2.1 (gJ (U (18 + s)) 0 (2 * k)).toInt32 (gJ (U (18 + s)) 0 (2 * k + 1)) = true
  rotate_left
  · rw [if_neg cv] at hF ⊢
    exact ⟨fun c3 => absurd rfl c3, fun _ => fail hF⟩
  rw [if_pos cv] at hF ⊢
  refine ⟨fun _ => ?_, fun c3 => absurd c3 (by decide)⟩
  obtain ⟨q, eq, ec, q1, q2, q3, q4⟩ := tvd_s hN cv
  rw [ec] at hF
  have hok2 := tnx_ok (s := q) ⟨k0, k1, k2, k3⟩ q2 (q4.imp id id)
  rw [eq]
  refine zwiseC hT.2.2 hM.1 hM.2.1 hM.2.2.1 k0 (by omega) k2 q3 (by omega) fun L' hL' => ?_
  -- the drop is laid
  have hmu : 64 - (nI (2 * (k + 1))).toNatClampNeg < 64 - (nI (2 * k)).toNatClampNeg := by
    try dsimp only
    rw [nI_clamp (by omega), nI_clamp (by omega)]
    omega
  have fin : ∀ w : CS, TF U w → w 12 = v 12 → gI (w 0) 15 = nI (S.2.2.2 + if wz S.1 S.2.1 S.2.2.1 q = true then 1 else 0) → wp_X11_listen_S_p95 s (nI (2 * k)) (nI q) w (fun yx2 yu => (∃ (f k : Nat) (S : tS), yx2 = nI (2 * k) ∧ 31 ≤ k + f ∧ 2 * k ≤ m + 1 ∧ TF U yu ∧ TM yu S ∧ tok N k S ∧ tld N m (gJ (U (18 + s)) 0) f k S = F) ∧ 64 - yx2.toNatClampNeg < 64 - (nI (2 * k)).toNatClampNeg) Q := by
    intro w hw e12 e15
    have eSw : w (18 + s) = U (18 + s) := hw.1 (18 + s) (by
      intro c
      simp only [List.mem_cons, List.not_mem_nil, or_false] at c
      omega)
    unfold wp_X11_listen_S_p95 wp_X11_listen_S_p117 wp_X7_part wp_X7_part_p43
    rw [show nI (2 * k) + (1 : Int32) = nI (2 * k + 1) from nI_add (2 * k) 1, eSw]
    rintro _ rfl
    refine zget e3 hlt2 hm ?_
    rintro _ rfl
    rw [show mu w (18 + s) (U (18 + s)) = w by rw [← eSw]; exact mu_self w (18 + s), e12, hM.1, hM.2.1]
    rintro _ rfl
    rw [lg_cmp_eq]
    have nx : ∀ u12 : ST, gI u12 0 = nI (tnx S q (gJ (U (18 + s)) 0 (2 * k + 1))).1 → gI u12 1 = nI (tnx S q (gJ (U (18 + s)) 0 (2 * k + 1))).2.1 → gI u12 2 = nI (tnx S q (gJ (U (18 + s)) 0 (2 * k + 1))).2.2.1 → ∀ y120 : Int32, y120 = nI (2 * k) + 2 → ((∃ (f k : Nat) (S : tS), y120 = nI (2 * k) ∧ 31 ≤ k + f ∧ 2 * k ≤ m + 1 ∧ TF U (mu w 12 u12) ∧ TM (mu w 12 u12) S ∧ tok N k S ∧ tld N m (gJ (U (18 + s)) 0) f k S = F) ∧ 64 - y120.toNatClampNeg < 64 - (nI (2 * k)).toNatClampNeg) := by
      rintro u12 g0 g1 g2 _ rfl
      rw [show nI (2 * k) + (2 : Int32) = nI (2 * (k + 1)) from nI_add (2 * k) 2]
      exact ⟨⟨f, k + 1, _, rfl, by omega, by omega, ⟨AgU_mu hw.1 (by decide) _, hw.2.1, hw.2.2⟩, ⟨g0, g1, g2, e15⟩, hok2, hF⟩, hmu⟩
    refine ⟨fun c4 => ?_, fun c4 => ?_⟩
    · refine ⟨fun _ => ?_, fun c5 => absurd rfl c5⟩
      rw [zmaxI (by omega) (by omega)]
      rintro _ rfl _ rfl _ rfl
      refine nx _ ?_ ?_ ?_
      · unfold tnx
        rw [if_neg c4]
        rfl
      · unfold tnx
        try dsimp only
        rw [if_neg c4]
        exact hM.2.1
      · unfold tnx
        try dsimp only
        rw [if_neg c4]
        exact hM.2.2.1
    · refine ⟨fun c5 => absurd c5 (by decide), fun _ => ?_⟩
      rw [show nI q - (1 : Int32) = nI (q - 1) from nI_sub (b := 1) q1]
      rintro _ rfl
      rw [zminI (by omega) (by omega)]
      rintro _ rfl _ rfl
      simp only [gI_sI, gI_sI', gI_sA, gI_sJ, gI_sG, gA_sA, gA_sA', gA_sI, gA_sJ, gA_sG, gJ_sJ, gJ_sJ', gJ_sI, gJ_sA, gJ_sG, gG_sG, gG_sG', gG_sI, gG_sA, gG_sJ, ne_eq, Nat.reduceEqDiff, Nat.succ_ne_zero, Nat.zero_ne_one, not_false_eq_true, reduceCtorEq]
      rw [hM.2.2.1, show nI S.2.2.1 - (1 : Int32) = nI (S.2.2.1 - 1) from nI_sub (b := 1) (by omega)]
      rintro _ rfl _ rfl _ rfl
      refine nx _ ?_ ?_ ?_
      · unfold tnx
        try dsimp only
        rw [if_pos c4]
        exact hM.1
      · unfold tnx
        try dsimp only
        rw [if_pos c4]
        rfl
      · unfold tnx
        try dsimp only
        rw [if_pos c4]
        rfl
  have hw3 : TF U (mu v 3 L') := ⟨AgU_mu hT.1 (by decide) _, hT.2.1, hL'⟩
  by_cases cw : wz S.1 S.2.1 S.2.2.1 q = true
  · rw [if_pos cw]
    refine ⟨fun c4 => absurd c4 (by decide), fun _ => ?_⟩
    rintro _ rfl _ rfl
    refine fin _ ⟨AgU_mu hw3.1 (by decide) _, Ag_sI hT.2.1 (by decide) _, hL'⟩ rfl ?_
    show gI (v 0) 15 + 1 = _
    rw [hM.2.2.2, nI_1, if_pos cw]
  · rw [if_neg cw]
    refine ⟨fun _ => fin _ hw3 rfl ?_, fun c4 => absurd rfl c4⟩
    show gI (v 0) 15 = _
    rw [hM.2.2.2, if_neg cw, Nat.add_zero]

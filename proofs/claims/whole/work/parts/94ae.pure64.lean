theorem zof {U : CS} {V : ST} (hT : RT (U 1) V) (a1 : Int32) : Sim (wp_X11_of a1 U) (wp_X12_of a1 V) (RTx U V) := by
  intro Q h
  unfold wp_X11_of wp_X8_value wp_X8_value_p19
  refine zwithin (fun p q => ⟨fun c => absurd c (by decide), fun _ => ?_⟩) (fun p => ⟨fun _ => ?_, fun c => absurd rfl c⟩)
  · obtain ⟨w, hw, rfl⟩ := nI_of p
    have hw4 : w < 4 := by
      have := mt (nI_ltI (a := 3) (b := w) (by decide) hw).mpr q
      omega
    refine ⟨nI_in hw4 (by decide), ?_⟩
    rintro _ rfl _ rfl
    rw [mu_self, nI_clamp hw]
    refine h _ _ fun K hK => ?_
    unfold wp_X12_of wp_X12_of_p19
    refine zin (fun _ _ => ⟨fun c => absurd c (by decide), fun _ => ?_⟩) (fun pp => (pp.elim p q).elim)
    refine zvalueAt hw4 (zK (hK V ⟨hT, AgU_r _ _, Ag_r _ _⟩) ?_)
    obtain ⟨d, n, val, wh, b, a, hdn, e4, e5, e6, e7, hV, hH⟩ := hT
    rw [(hV w hw4).1, (hV w hw4).2.1]
  · rintro _ rfl
    rw [mu_self]
    refine h _ _ fun K hK => ?_
    unfold wp_X12_of wp_X12_of_p19
    exact zin (fun p' q' => (p.elim p' q').elim) (fun _ => ⟨fun _ => hK V ⟨hT, AgU_r _ _, Ag_r _ _⟩, fun c => absurd rfl c⟩)
/-- a value laid on both sides -/
theorem RT_lay {T V : ST} {d n d' n' : Nat} {val w b a : Nat → Nat} {x y : Nat}
    (hs : d' + n' = d + n) (h0 : d + n ≤ 40) (e5 : gI T 5 = nI (d + n))
    (hH : ∀ i, i < d + n → w i < 4 ∧ gA T 1 i = nI (w i) ∧ gA V 7 i = nI (w i) ∧ gA T 2 i = nI (b i) ∧ gA V 9 i = nI (b i) ∧ OKv (w i) (b i) ∧ gA T 3 i = nI (a i) ∧ gA V 10 i = nI (a i) ∧ OKv (w i) (a i))
    (hv : ∀ k : Nat, k < 4 → gA T 0 k = nI (val k) ∧ gI V (k + 1) = nI (val k) ∧ OKv k (val k)) (hx : x < 4) (hy : OKv x y) {T' V' : ST}
    (g4 : gI T' 4 = nI d') (g5 : gI T' 5 = gI T 5) (g0 : gA T' 0 = upd (gA T 0) x (nI y)) (g1 : gA T' 1 = gA T 1) (g2 : gA T' 2 = gA T 2) (g3 : gA T' 3 = gA T 3)
    (k5 : gI V' 5 = nI d') (k6 : gI V' 6 = nI n') (kx : gI V' (x + 1) = nI y) (kn : ∀ k : Nat, k < 4 → k ≠ x → gI V' (k + 1) = gI V (k + 1)) (k7 : gA V' 7 = gA V 7) (k9 : gA V' 9 = gA V 9) (k10 : gA V' 10 = gA V 10) :
    RT T' V' := by
  refine ⟨d', n', fun k => if k = x then y else val k, w, b, a, by omega, g4, k5, by rw [g5, e5, hs], k6, ?_, ?_⟩
  · intro k hk
    dsimp only
    by_cases e : k = x
    · subst e
      rw [if_pos rfl, g0, pk_us]
      exact ⟨rfl, kx, hy⟩
    · rw [if_neg e, g0, pk_un e, kn k hk e]
      exact hv k hk
  · rw [hs, g1, g2, g3, k7, k9, k10]
    exact hH
theorem zundo {U : CS} {V : ST} (hT : RT (U 1) V) : Sim (wp_X11_undo U) (wp_X12_undo V) (RTx U V) := by
  intro Q h
  unfold wp_X11_undo wp_X8_takeBack
  have hT0 := hT
  obtain ⟨d, n, val, wh, b, a, hdn, e4, e5, e6, e7, hV, hH⟩ := hT
  rw [e4]
  refine ⟨fun c => ?_, fun c => ?_⟩
  · obtain ⟨d', rfl⟩ : ∃ d', d = d' + 1 := by
      cases d with
      | zero => exact absurd rfl c
      | succ d' => exact ⟨d', rfl⟩
    have hd := hH d' (by omega)
    rw [nI_pred]
    rintro _ rfl _ rfl
    simp only [gI_sI, gI_sI', gI_sA, gI_sJ, gI_sG, gA_sA, gA_sA', gA_sI, gA_sJ, gA_sG, gJ_sJ, gJ_sJ', gJ_sI, gJ_sA, gJ_sG, gG_sG, gG_sG', gG_sI, gG_sA, gG_sJ, ne_eq, Nat.reduceEqDiff, Nat.succ_ne_zero, Nat.zero_ne_one, not_false_eq_true, reduceCtorEq]
    refine ⟨nI_in (by omega) (by decide), ?_⟩
    rintro _ rfl
    refine ⟨nI_in (by omega) (by decide), ?_⟩
    rintro _ rfl
    rw [nI_clamp (by omega), hd.2.1, hd.2.2.2.1]
    refine ⟨nI_in hd.1 (by decide), ?_⟩
    rintro _ rfl _ rfl
    rw [nI_clamp (by omega)]
    refine h _ _ fun K hK => ?_
    unfold wp_X12_undo
    rw [e5]
    refine ⟨fun _ => ?_, fun c' => absurd c' c⟩
    rw [nI_pred]
    rintro _ rfl _ rfl
    simp only [gI_sI, gI_sI', gI_sA, gI_sJ, gI_sG, gA_sA, gA_sA', gA_sI, gA_sJ, gA_sG, gJ_sJ, gJ_sJ', gJ_sI, gJ_sA, gJ_sG, gG_sG, gG_sG', gG_sI, gG_sA, gG_sJ, ne_eq, Nat.reduceEqDiff, Nat.succ_ne_zero, Nat.zero_ne_one, not_false_eq_true, reduceCtorEq]
    rw [e7, nI_1]
    rintro _ rfl _ rfl
    simp only [gI_sI, gI_sI', gI_sA, gI_sJ, gI_sG, gA_sA, gA_sA', gA_sI, gA_sJ, gA_sG, gJ_sJ, gJ_sJ', gJ_sI, gJ_sA, gJ_sG, gG_sG, gG_sG', gG_sI, gG_sA, gG_sJ, ne_eq, Nat.reduceEqDiff, Nat.succ_ne_zero, Nat.zero_ne_one, not_false_eq_true, reduceCtorEq]
    refine ⟨nI_in (by omega) (by decide), ?_⟩
    rintro _ rfl
    refine ⟨nI_in (by omega) (by decide), ?_⟩
    rintro _ rfl
    refine ⟨nI_in (by omega) (by decide), ?_⟩
    rintro _ rfl
    rw [nI_clamp (by omega), hd.2.2.1, hd.2.2.2.2.1]
    refine zlays hd.1 ?_
    have hw := hd.1
    refine zK (hK _ ⟨?_, AgU_mu (AgU_r _ _) (by decide) _, ?_⟩) ?_
    · refine RT_lay (d' := d') (n' := n + 1) (by omega) hdn e6 hH hV hd.1 hd.2.2.2.2.2.1 rfl rfl rfl rfl rfl rfl ?_ ?_ (gI_sI _ _ _) (fun k hk hn => ?_) rfl rfl rfl
      · rw [gI_sI' _ _ (by omega)]
        rfl
      · rw [gI_sI' _ _ (by omega)]
        rfl
      · rw [gI_sI' _ _ (by omega), gI_sI' _ _ (by omega), gI_sI' _ _ (by omega)]
    · refine Ag_sI (Ag_sI (Ag_sI (Ag_r _ _) (by decide) _) (by decide) _) ?_ _
      match wh d', hw with
      | 0, _ => decide
      | 1, _ => decide
      | 2, _ => decide
      | 3, _ => decide
    · simp only [gI_sI, gI_sI', gI_sA, gI_sJ, gI_sG, gA_sA, gA_sA', gA_sI, gA_sJ, gA_sG, gJ_sJ, gJ_sJ', gJ_sI, gJ_sA, gJ_sG, gG_sG, gG_sG', gG_sI, gG_sA, gG_sJ, ne_eq, Nat.reduceEqDiff, Nat.succ_ne_zero, Nat.zero_ne_one, not_false_eq_true, reduceCtorEq]
      rw [gI_sI' _ _ (by omega)]
      simp only [gI_sI, gI_sI', gI_sA, gI_sJ, gI_sG, gA_sA, gA_sA', gA_sI, gA_sJ, gA_sG, gJ_sJ, gJ_sJ', gJ_sI, gJ_sA, gJ_sG, gG_sG, gG_sG', gG_sI, gG_sA, gG_sJ, ne_eq, Nat.reduceEqDiff, Nat.succ_ne_zero, Nat.zero_ne_one, not_false_eq_true, reduceCtorEq]
  · rintro _ rfl
    rw [mu_self]
    refine h _ _ fun K hK => ?_
    unfold wp_X12_undo
    rw [e5]
    exact ⟨fun c' => absurd c c', fun _ => hK V ⟨hT0, AgU_r _ _, Ag_r _ _⟩⟩
theorem zredo {U : CS} {V : ST} (hT : RT (U 1) V) : Sim (wp_X11_redo U) (wp_X12_redo V) (RTx U V) := by
  intro Q h
  unfold wp_X11_redo wp_X8_doAgain
  have hT0 := hT
  obtain ⟨d, n, val, wh, b, a, hdn, e4, e5, e6, e7, hV, hH⟩ := hT
  rw [e4, e6]
  refine ⟨fun c => ?_, fun c => ?_⟩
  · obtain ⟨n', rfl⟩ : ∃ n', n = n' + 1 := by
      cases n with
      | zero => exact absurd rfl c
      | succ n' => exact ⟨n', rfl⟩
    have hd := hH d (by omega)
    refine ⟨nI_in (by omega) (by decide), ?_⟩
    rintro _ rfl
    refine ⟨nI_in (by omega) (by decide), ?_⟩
    rintro _ rfl
    rw [nI_clamp (by omega), hd.2.1, hd.2.2.2.2.2.2.1]
    refine ⟨nI_in hd.1 (by decide), ?_⟩
    rintro _ rfl
    simp only [gI_sI, gI_sI', gI_sA, gI_sJ, gI_sG, gA_sA, gA_sA', gA_sI, gA_sJ, gA_sG, gJ_sJ, gJ_sJ', gJ_sI, gJ_sA, gJ_sG, gG_sG, gG_sG', gG_sI, gG_sA, gG_sJ, ne_eq, Nat.reduceEqDiff, Nat.succ_ne_zero, Nat.zero_ne_one, not_false_eq_true, reduceCtorEq]
    rw [e4, nI_1]
    rintro _ rfl _ rfl
    simp only [gI_sI, gI_sI', gI_sA, gI_sJ, gI_sG, gA_sA, gA_sA', gA_sI, gA_sJ, gA_sG, gJ_sJ, gJ_sJ', gJ_sI, gJ_sA, gJ_sG, gG_sG, gG_sG', gG_sI, gG_sA, gG_sJ, ne_eq, Nat.reduceEqDiff, Nat.succ_ne_zero, Nat.zero_ne_one, not_false_eq_true, reduceCtorEq]
    rw [e6, pk_sub (by omega), show d + (n' + 1) - (d + 1) = n' from by omega]
    rintro _ rfl _ rfl
    rw [nI_clamp (by omega)]
    refine h _ _ fun K hK => ?_
    unfold wp_X12_redo
    rw [e5, e7]
    refine ⟨fun _ => ?_, fun c' => absurd c' (nI_ne0 (by omega) (by omega))⟩
    refine ⟨nI_in (by omega) (by decide), ?_⟩
    rintro _ rfl
    refine ⟨nI_in (by omega) (by decide), ?_⟩
    rintro _ rfl
    refine ⟨nI_in (by omega) (by decide), ?_⟩
    rintro _ rfl
    rw [nI_clamp (by omega), hd.2.2.1, hd.2.2.2.2.2.2.2.1]
    refine zlays hd.1 ?_
    have hw := hd.1
    rw [gI_sI' _ _ (by omega), e5, nI_1]
    rintro _ rfl _ rfl
    simp only [gI_sI, gI_sI', gI_sA, gI_sJ, gI_sG, gA_sA, gA_sA', gA_sI, gA_sJ, gA_sG, gJ_sJ, gJ_sJ', gJ_sI, gJ_sA, gJ_sG, gG_sG, gG_sG', gG_sI, gG_sA, gG_sJ, ne_eq, Nat.reduceEqDiff, Nat.succ_ne_zero, Nat.zero_ne_one, not_false_eq_true, reduceCtorEq]
    rw [gI_sI' _ _ (by omega), e7, nI_pred]
    rintro _ rfl _ rfl
    simp only [gI_sI, gI_sI', gI_sA, gI_sJ, gI_sG, gA_sA, gA_sA', gA_sI, gA_sJ, gA_sG, gJ_sJ, gJ_sJ', gJ_sI, gJ_sA, gJ_sG, gG_sG, gG_sG', gG_sI, gG_sA, gG_sJ, ne_eq, Nat.reduceEqDiff, Nat.succ_ne_zero, Nat.zero_ne_one, not_false_eq_true, reduceCtorEq]
    refine hK _ ⟨?_, AgU_mu (AgU_r _ _) (by decide) _, ?_⟩
    · refine RT_lay (d' := d + 1) (n' := n') (by omega) hdn e6 hH hV hd.1 hd.2.2.2.2.2.2.2.2 rfl rfl rfl rfl rfl rfl rfl rfl ?_ (fun k hk hn => ?_) rfl rfl rfl
      · rw [gI_sI' _ _ (by omega), gI_sI' _ _ (by omega), gI_sI]
      · rw [gI_sI' _ _ (by omega), gI_sI' _ _ (by omega), gI_sI' _ _ (by omega)]
    · refine Ag_sI (Ag_sI (Ag_sI (Ag_r _ _) ?_ _) (by decide) _) (by decide) _
      match wh d, hw with
      | 0, _ => decide
      | 1, _ => decide
      | 2, _ => decide
      | 3, _ => decide
  · rintro _ rfl
    rw [mu_self]
    have hn0 : n = 0 := by
      have := (nI_eq (a := d) (b := d + n) (by omega) (by omega)).mp c
      omega
    subst hn0
    refine h _ _ fun K hK => ?_
    unfold wp_X12_redo
    rw [e7]
    exact ⟨fun c' => absurd rfl c', fun _ => hK V ⟨hT0, AgU_r _ _, Ag_r _ _⟩⟩

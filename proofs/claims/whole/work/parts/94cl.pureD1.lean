/-! walks: the class -/
theorem emb_2 (U : CS) {a b : Nat} (h : a ≠ b) (v : CS) : emb U [a, b] v = mu (mu U a (v 0)) b (v 1) := by
  funext k
  unfold emb
  by_cases e : k = b
  · subst e
    have e2 : ix [a, k] k = 1 := by
      show (if a = k then 0 else (if k = k then 0 else _) + 1) = 1
      rw [if_neg h, if_pos rfl]
    rw [mu_at, e2, if_pos (show 1 < [a, k].length from Nat.lt_succ_self 1)]
  · rw [mu_ne _ _ e]
    by_cases e3 : k = a
    · subst e3
      rw [mu_at, show ix [k, b] k = 0 from if_pos rfl, if_pos (show 0 < [k, b].length from Nat.zero_lt_succ 1)]
    · have e2 : ix [a, b] k = 2 := by
        show (if a = k then 0 else (if b = k then 0 else _) + 1) = _
        rw [if_neg (fun c => e3 c.symm), if_neg (fun c => e c.symm)]
        rfl
      rw [mu_ne _ _ e3, e2, if_neg (show ¬ 2 < [a, b].length from Nat.lt_irrefl 2)]
def WCk (F : Nat → Nat → Nat → Nat) (h N J k : Nat) (W S : ST) : Prop := sp3 S (wk F h N J k).1 (wk F h N J k).2.1 (J - (wk F h N J k).2.2) ∧ gI W 2 = nI k ∧ gI W 3 = nI (wk F h N J k).2.2 ∧ ∀ i : Nat, i < k → gA W 0 i = nI (sk F h N J i)
theorem zpartS {S : ST} {lo hi j s : Nat} (hs : sp3 S lo hi j) (h1 : lo < s) (h2 : s ≤ hi) (h3 : hi < 2 ^ 31) (hj : j ≠ 0) {x : Int32} {Q : ST → Prop} (hy : ¬ x = 0 → ∀ S' : ST, sp3 S' lo (s - 1) (j - 1) → Q S') (hn : x = 0 → ∀ S' : ST, sp3 S' s hi j → Q S') : wp_X7_part (nI s) x S Q := by
  obtain ⟨e0, e1, e2⟩ := hs
  unfold wp_X7_part wp_X7_part_p43
  rw [e0, e1]
  refine ⟨fun c => ?_, fun c => ?_⟩
  · rw [if_pos ((nI_ltI (by omega) (by omega)).mpr h1)]
    rintro _ rfl _ rfl
    exact hn c _ ⟨rfl, e1, e2⟩
  · rw [show nI s - (1 : Int32) = nI (s - 1) from nI_sub (b := 1) (by omega)]
    rintro _ rfl
    rw [if_pos ((nI_ltI (by omega) (by omega)).mpr (by omega))]
    rintro _ rfl _ rfl
    rw [show gI (sI S 1 (nI (s - 1))) 2 = nI j from e2, show nI j - (1 : Int32) = nI (j - 1) from nI_sub (b := 1) (by omega)]
    rintro _ rfl _ rfl
    exact hy c _ ⟨e0, rfl, rfl⟩
theorem zaddW {F : Nat → Nat → Nat → Nat} {h N J k : Nat} (hh : h < 2 ^ 31) (hN : N ≤ 60) (hF : FP F N) (hJ : J ≠ 0) (g : goes F h N J k) (l : (wk F h N J k).1 < (wk F h N J k).2.1) (hk : k < 60) {u : CS} (hw : WCk F h N J k (u 0) (u 1)) {Q : CS → Prop} (hq : ∀ v : CS, WCk F h N J (k + 1) (v 0) (v 1) → Q v) : wp_X10_add (nI (sk F h N J k)) (nI h) u Q := by
  obtain ⟨i1, i2, i3, i4, i5⟩ := wk_ok hF hJ k g
  have i5 := i5 l
  obtain ⟨f1, f2⟩ := sk_ok hF hJ g l
  obtain ⟨w1, w2, w3, w4⟩ := hw
  have row : ∀ i : Nat, i < k + 1 → upd (gA (u 0) 0) k (nI (sk F h N J k)) i = nI (sk F h N J i) := fun i hi => by
    by_cases c : i = k
    · subst c
      exact pk_us
    · exact (pk_un c).trans (w4 i (by omega))
  have es := wk_s F h N J k
  unfold WCk at hq
  unfold wp_X10_add
  rw [w2]
  refine ⟨fun _ => ⟨nI_in hk (by decide), ?_⟩, fun c => absurd ((nI_ltI (b := 60) (by omega) (by decide)).mpr hk) c⟩
  rw [nI_clamp (by omega)]
  rintro _ rfl
  rw [show gI (mu u 0 (sA (u 0) 0 (upd (gA (u 0) 0) k (nI (sk F h N J k)))) 0) 2 = nI k from w2, nI_1]
  rintro _ rfl _ rfl
  unfold wp_X10_add_p40 wp_X10_add_p55
  refine ⟨fun c => ⟨fun _ => ?_, fun c2 => absurd rfl c2⟩, fun c => ⟨fun c2 => absurd c2 (by decide), fun _ => ?_⟩⟩
  · have c := (nI_leI (by omega) hh).mp c
    rw [if_neg (by omega)] at es
    refine zpartS (S := mu (mu u 0 _) 0 _ 1) w1 f1 f2 (by omega) (by omega) (fun c => absurd rfl c) (fun _ S' hS => ?_)
    rintro _ rfl
    refine hq _ ?_
    rw [es]
    exact ⟨hS, rfl, w3, row⟩
  · have c := mt (nI_leI (a := sk F h N J k) (b := h) (by omega) hh).mpr c
    rw [if_pos (by omega)] at es
    rw [show gI (mu (mu u 0 (sA (u 0) 0 (upd (gA (u 0) 0) k (nI (sk F h N J k))))) 0 (sI (mu u 0 (sA (u 0) 0 (upd (gA (u 0) 0) k (nI (sk F h N J k)))) 0) 2 (nI (k + 1))) 0) 3 = nI (wk F h N J k).2.2 from w3, nI_1]
    rintro _ rfl _ rfl
    refine zpartS (S := mu (mu (mu u 0 _) 0 _) 0 _ 1) w1 f1 f2 (by omega) (by omega) (fun _ S' hS => ?_) (fun c => absurd c (by decide))
    rintro _ rfl
    refine hq _ ?_
    rw [es]
    refine ⟨?_, rfl, rfl, row⟩
    rw [show J - ((wk F h N J k).1, sk F h N J k - 1, (wk F h N J k).2.2 + 1).2.2 = J - (wk F h N J k).2.2 - 1 from by show J - ((wk F h N J k).2.2 + 1) = _; omega]
    exact hS
theorem zbegW {F : Nat → Nat → Nat → Nat} {h N J : Nat} {u : CS} {Q : CS → Prop} (hq : ∀ v : CS, WCk F h N J 0 (v 0) (v 1) → Q v) : wp_X10_begin (nI N) (nI J) u Q := by
  unfold wp_X10_begin wp_X7_become
  rintro _ rfl _ rfl _ rfl _ rfl _ rfl _ rfl
  exact hq _ ⟨⟨rfl, rfl, rfl⟩, rfl, rfl, fun i hi => absurd hi (Nat.not_lt_zero _)⟩

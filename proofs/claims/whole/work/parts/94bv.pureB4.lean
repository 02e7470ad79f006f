def kG : List Nat := [25, 26, 27, 41, 42, 43, 44]
def VM (v : ST) (S : tS) : Prop := gI v 41 = nI S.1 ∧ gI v 42 = nI S.2.1 ∧ gI v 43 = nI S.2.2.1 ∧ gI v 44 = nI S.2.2.2
theorem zgoTold {V : ST} {N J s m : Nat} {el : Nat → Int64} (hs : s < 6) (t1 : gI V 1 = nI N) (t2 : gI V 2 = nI J) (hN : N ≤ 60) (hJ : J ≤ 6) (hW : RW V) (hm : m ≤ 60) (e54 : gA V 54 s = nI m) (hel : ∀ i : Nat, i < 60 → el i = gJ V 55 (60 * s + i)) {Q : Int32 → ST → Prop}
    (hq : ∀ V' : ST, Ag kG V' V → RW V' → VM V' (tld N m el 31 0 (0, N, J, 0)).2.2 → (tld N m el 31 0 (0, N, J, 0)).2.1 < 100 → Q (if (tld N m el 31 0 (0, N, J, 0)).1 = true then -2 else nI (tld N m el 31 0 (0, N, J, 0)).2.1) V') : wp_X12_goTold (nI s) V Q := by
  unfold wp_X12_goTold
  refine zfindW hW fun V1 hA1 hW1 h27 => ?_
  rintro _ rfl _ rfl _ rfl _ rfl
  generalize hX : sI (sI (sI (sI V1 41 0) 42 (gI (sI V1 41 0) 1)) 43 (gI (sI (sI V1 41 0) 42 (gI (sI V1 41 0) 1)) 2)) 44 0 = X
  have hAX : Ag kG X V := by
    subst hX
    exact Ag_sI (Ag_sI (Ag_sI (Ag_sI (Ag_m hA1 (by decide)) (by decide) _) (by decide) _) (by decide) _) (by decide) _
  have hWX : WTW 1 0 X := by
    subst hX
    exact hW1
  have h27X : ¬ gI X 27 = 0 := by
    subst hX
    exact h27
  have hMX : VM X (0, N, J, 0) := by
    subst hX
    exact ⟨rfl, (Ag_I hA1 1 (by decide)).trans t1, (Ag_I hA1 2 (by decide)).trans t2, rfl⟩
  clear hX
  generalize hF : tld N m el 31 0 (0, N, J, 0) = F at hq
  unfold wp_X12_goTold_p32
  refine ⟨fun x1 x2 v => x1 = nI s ∧ ∃ (f k : Nat) (S : tS), x2 = nI k ∧ 31 ≤ k + f ∧ 2 * k ≤ m + 1 ∧ Ag kG v V ∧ WTW 1 0 v ∧ ¬ gI v 27 = 0 ∧ VM v S ∧ tok N k S ∧ tld N m el f k S = F, fun _ x2 _ => 64 - x2.toNatClampNeg, ⟨rfl, 31, 0, (0, N, J, 0), rfl, by omega, by omega, hAX, hWX, h27X, hMX, ⟨Nat.zero_le _, Nat.le_refl _, hJ, Nat.le_refl _⟩, hF⟩, ?_⟩
  rintro _ _ v ⟨rfl, f, k, S, rfl, hf, hk, hA, hWv, h27v, hM, hok, hF⟩
  obtain ⟨k0, k1, k2, k3⟩ := hok
  have e54v : gA v 54 s = nI m := by rw [Ag_A hA 54 (by decide)]; exact e54
  have e55v : gJ v 55 = gJ V 55 := Ag_J hA 55 (by decide)
  have e1v : gI v 1 = nI N := (Ag_I hA 1 (by decide)).trans t1
  have hcs : (nI s).toNatClampNeg = s := nI_clamp (by omega)
  unfold wp_X12_goTold_p32b wp_X12_goTold_p65 wp_X12_goTold_p155
  have fail : (false, k, S) = F → Q (nI k) v := by
    rintro rfl
    have := hq v hA (.inr ⟨h27v, hWv⟩) hM (by show k < 100; omega)
    rw [if_neg (fun c => ff c)] at this
    exact this
  rw [show (2 : Int32) * nI k = nI (2 * k) from pk_mul 2 k]
  rintro _ rfl
  refine ⟨nI_in hs (by decide), ?_⟩
  rw [hcs, e54v]
  rintro _ rfl
  refine ⟨fun c => ?_, fun c => ?_⟩
  · have := (nI_leI (by omega) (by omega)).mp c
    have hF2 : (true, k, S) = F := by
      cases f with
      | zero => exact hF
      | succ f =>
        rw [tld_s, if_pos this] at hF
        exact hF
    subst hF2
    have := hq v hA (.inr ⟨h27v, hWv⟩) hM (by show k < 100; omega)
    rw [if_pos rfl] at this
    exact this
  have hlt : 2 * k < m := by
    have := mt (nI_leI (a := m) (b := 2 * k) (by omega) (by omega)).mpr c
    omega
  obtain ⟨f, rfl⟩ : ∃ f', f = f' + 1 := ⟨f - 1, by omega⟩
  rw [tld_s, if_neg (by omega)] at hF
  rintro _ rfl
  rw [show nI (2 * k) + (1 : Int32) = nI (2 * k + 1) from nI_add (2 * k) 1]
  rintro _ rfl
  refine ⟨nI_in hs (by decide), ?_⟩
  rintro _ rfl
  refine ⟨fun c2 => ?_, fun c2 => ?_⟩
  · have := (nI_leI (by omega) (by omega)).mp c2
    rw [if_pos this] at hF
    exact fail hF
  have hlt2 : 2 * k + 1 < m := by
    have := mt (nI_leI (a := m) (b := 2 * k + 1) (by omega) (by omega)).mpr c2
    omega
  rw [if_neg (by omega)] at hF
  rw [hM.2.2.1]
  refine ⟨fun c3 => ?_, fun c3 => ?_⟩
  rotate_left
  · have hj : S.2.2.1 = 0 := (nI_eq (b := 0) (by omega) (by decide)).mp c3
    rw [if_neg] at hF
    · exact fail hF
    · intro cv
      obtain ⟨q, eq, ec, q1, q2, q3, q4⟩ := tvd_s hN cv
      exact q3 hj
  have hj0 : S.2.2.1 ≠ 0 := fun e => c3 (by rw [e]; rfl)
  have g1 : gJ V 55 (60 * s + 2 * k) = el (2 * k) := (hel (2 * k) (by omega)).symm
  have g2 : gJ V 55 (60 * s + (2 * k + 1)) = el (2 * k + 1) := (hel (2 * k + 1) (by omega)).symm
  rw [show (60 : Int32) * nI s = nI (60 * s) from pk_mul 60 s]
  rintro _ rfl _ rfl
  rw [nI_add]
  rintro _ rfl
  refine ⟨nI_in (by omega) (by decide), ?_⟩
  rw [nI_clamp (by omega), e55v, g1]
  rintro _ rfl _ rfl _ rfl _ rfl
  rw [nI_add]
  rintro _ rfl
  rw [show nI (60 * s + 2 * k) + (1 : Int32) = nI (60 * s + (2 * k + 1)) from nI_add (60 * s + 2 * k) 1]
  rintro _ rfl
  refine ⟨nI_in (by omega) (by decide), ?_⟩
  rw [nI_clamp (by omega), g2, e1v]
  rintro _ rfl
  have hnv : ∀ {P : Prop}, tvd N S.1 S.2.1 S.2.2.1 (el (2 * k)).toInt32 (el (2 * k + 1)) = false → (Q (nI k) v → P) → P := by
    intro P hv hp
    rw [if_neg (by rw [hv]; decide)] at hF
    exact hp (fail hF)
  refine zin (fun p q => ⟨fun c4 => absurd c4 (by decide), fun _ => ?_⟩) (fun p => ⟨fun _ => hnv ?_ id, fun c4 => absurd rfl c4⟩)
  rotate_left
  · unfold tvd
    rcases p with p | p
    · rw [decide_eq_false (fun c => c p), Bool.false_and]
    · rw [decide_eq_false (p := ¬ nI N < (el (2 * k)).toInt32) (fun c => c p), Bool.false_and, Bool.and_false]
  have h0 : ¬ (el (2 * k)).toInt32 < 0 := by
    intro c
    refine p ?_
    rw [Int32.lt_iff_toInt_lt] at c ⊢
    have e0 : (0 : Int32).toInt = 0 := by decide
    have e1 : (1 : Int32).toInt = 1 := by decide
    omega
  obtain ⟨q', hq', eq⟩ := nI_of h0
  rw [eq] at p q
  have hqN : q' ≤ N := by
    have := mt (nI_ltI (a := N) (b := q') (by omega) hq').mpr q
    omega
  have hq1 : 1 ≤ q' := by
    have := mt (nI_ltI (a := q') (b := 1) hq' (by decide)).mpr p
    omega
  have hval : tvd N S.1 S.2.1 S.2.2.1 (el (2 * k)).toInt32 (el (2 * k + 1)) = ((decide (el (2 * k + 1) = 1) && decide (S.1 < q')) || (decide (el (2 * k + 1) = 0) && decide (q' ≤ S.2.1))) := by
    unfold tvd
    rw [eq, decide_eq_true p, decide_eq_true q, nI_clamp hq', decide_eq_true hj0, Bool.true_and, Bool.true_and, Bool.true_and]
  rw [hval] at hnv hF
  rw [eq] at hF ⊢
  rw [nI_clamp hq'] at hF
  rw [hM.1]
  -- the drop can be
  have hmu : 64 - (nI (k + 1)).toNatClampNeg < 64 - (nI k).toNatClampNeg := by
    try dsimp only
    rw [nI_clamp (by omega), nI_clamp (by omega)]
    omega
  have go : ((decide (el (2 * k + 1) = 1) && decide (S.1 < q')) || (decide (el (2 * k + 1) = 0) && decide (q' ≤ S.2.1))) = true → (el (2 * k + 1) = 1 ∧ S.1 < q' ∨ ¬ el (2 * k + 1) = 1 ∧ el (2 * k + 1) = 0 ∧ q' ≤ S.2.1) → wp_X12_goTold_p157 (nI s) (nI k) (nI q') (el (2 * k + 1)) v (fun yx1 yx2 yu => (yx1 = nI s ∧ ∃ (f k : Nat) (S : tS), yx2 = nI k ∧ 31 ≤ k + f ∧ 2 * k ≤ m + 1 ∧ Ag kG yu V ∧ WTW 1 0 yu ∧ ¬ gI yu 27 = 0 ∧ VM yu S ∧ tok N k S ∧ tld N m el f k S = F) ∧ 64 - yx2.toNatClampNeg < 64 - (nI k).toNatClampNeg) Q := by
    intro hv hor
    rw [if_pos hv] at hF
    have hok2 := tnx_ok (s := q') ⟨k0, k1, k2, k3⟩ hqN hor
    unfold wp_X12_goTold_p157
    refine zwiseR hWv hM.1 hM.2.1 hM.2.2.1 k0 (by omega) k2 hj0 (by omega) ?_
    have fin : ∀ w : ST, Ag kG w V → WTW 1 0 w → ¬ gI w 27 = 0 → gI w 41 = nI S.1 → gI w 42 = nI S.2.1 → gI w 43 = nI S.2.2.1 → gI w 44 = nI (S.2.2.2 + if wz S.1 S.2.1 S.2.2.1 q' = true then 1 else 0) → wp_X12_goTold_p175 (nI s) (nI k) (nI q') (el (2 * k + 1)) w (fun yx1 yx2 yu => (yx1 = nI s ∧ ∃ (f k : Nat) (S : tS), yx2 = nI k ∧ 31 ≤ k + f ∧ 2 * k ≤ m + 1 ∧ Ag kG yu V ∧ WTW 1 0 yu ∧ ¬ gI yu 27 = 0 ∧ VM yu S ∧ tok N k S ∧ tld N m el f k S = F) ∧ 64 - yx2.toNatClampNeg < 64 - (nI k).toNatClampNeg) Q := by
      intro w a1 a2 a3 g41 g42 g43 g44
      unfold wp_X12_goTold_p175 wp_X12_goTold_p225
      have nx : ∀ u12 : ST, Ag kG u12 V → WTW 1 0 u12 → ¬ gI u12 27 = 0 → gI u12 41 = nI (tnx S q' (el (2 * k + 1))).1 → gI u12 42 = nI (tnx S q' (el (2 * k + 1))).2.1 → gI u12 43 = nI (tnx S q' (el (2 * k + 1))).2.2.1 → gI u12 44 = nI (S.2.2.2 + if wz S.1 S.2.1 S.2.2.1 q' = true then 1 else 0) → ∀ y120 : Int32, y120 = nI k + 1 → ((nI s = nI s ∧ ∃ (f k : Nat) (S : tS), y120 = nI k ∧ 31 ≤ k + f ∧ 2 * k ≤ m + 1 ∧ Ag kG u12 V ∧ WTW 1 0 u12 ∧ ¬ gI u12 27 = 0 ∧ VM u12 S ∧ tok N k S ∧ tld N m el f k S = F) ∧ 64 - y120.toNatClampNeg < 64 - (nI k).toNatClampNeg) := by
        rintro u12 b1 b2 b3 b4 b5 b6 b7 _ rfl
        rw [nI_1]
        exact ⟨⟨rfl, f, k + 1, _, rfl, by omega, by omega, b1, b2, b3, ⟨b4, b5, b6, b7⟩, hok2, hF⟩, hmu⟩
      rintro _ rfl
      rw [lg_cmp_eq, g41, g43]
      refine ⟨fun c5 => ⟨fun c6 => ?_, fun c6 => ?_⟩, fun c5 => ?_⟩
      · have := (nI_leI (by omega) (by omega)).mp c6
        refine nx w a1 a2 a3 ?_ ?_ ?_ g44
        · rw [g41]
          unfold tnx
          try dsimp only
          rw [if_neg c5, if_neg (by omega)]
        · rw [g42]
          unfold tnx
          try dsimp only
          rw [if_neg c5]
        · rw [g43]
          unfold tnx
          try dsimp only
          rw [if_neg c5]
      · have := mt (nI_leI (a := q') (b := S.1) (by omega) (by omega)).mpr c6
        rintro _ rfl
        refine nx _ (Ag_sI a1 (by decide) _) a2 a3 ?_ ?_ ?_ g44
        · show nI q' = _
          unfold tnx
          try dsimp only
          rw [if_neg c5, if_pos (by omega)]
        · show gI w 42 = _
          rw [g42]
          unfold tnx
          try dsimp only
          rw [if_neg c5]
        · show gI w 43 = _
          rw [g43]
          unfold tnx
          try dsimp only
          rw [if_neg c5]
      · rw [show nI S.2.2.1 - (1 : Int32) = nI (S.2.2.1 - 1) from nI_sub (b := 1) (by omega)]
        rintro _ rfl _ rfl
        rw [show nI q' - (1 : Int32) = nI (q' - 1) from nI_sub (b := 1) hq1]
        rintro _ rfl
        rw [show gI (sI w 43 (nI (S.2.2.1 - 1))) 42 = nI S.2.1 from g42]
        refine ⟨fun c6 => ?_, fun c6 => ?_⟩
        · have := (nI_leI (by omega) (by omega)).mp c6
          refine nx _ (Ag_sI a1 (by decide) _) a2 a3 ?_ ?_ ?_ g44
          · show gI w 41 = _
            rw [g41]
            unfold tnx
            try dsimp only
            rw [if_pos c5]
          · show gI w 42 = _
            rw [g42]
            unfold tnx
            try dsimp only
            rw [if_pos c5, if_neg (by omega)]
          · show nI (S.2.2.1 - 1) = _
            unfold tnx
            try dsimp only
            rw [if_pos c5]
        · have := mt (nI_leI (a := S.2.1) (b := q' - 1) (by omega) (by omega)).mpr c6
          rintro _ rfl _ rfl
          refine nx _ (Ag_sI (Ag_sI a1 (by decide) _) (by decide) _) a2 a3 ?_ ?_ ?_ g44
          · show gI w 41 = _
            rw [g41]
            unfold tnx
            try dsimp only
            rw [if_pos c5]
          · show nI (q' - 1) = _
            unfold tnx
            try dsimp only
            rw [if_pos c5, if_pos (by omega)]
          · show nI (S.2.2.1 - 1) = _
            unfold tnx
            try dsimp only
            rw [if_pos c5]
    by_cases cw : wz S.1 S.2.1 S.2.2.1 q' = true
    · rw [if_pos cw]
      refine ⟨fun c4 => absurd c4 (by decide), fun _ => ?_⟩
      rw [hM.2.2.2, show nI S.2.2.2 + (1 : Int32) = nI (S.2.2.2 + 1) from nI_1 _]
      rintro _ rfl _ rfl
      refine fin _ (Ag_sI hA (by decide) _) hWv h27v hM.1 hM.2.1 hM.2.2.1 ?_
      rw [if_pos cw]
      rfl
    · rw [if_neg cw]
      refine ⟨fun _ => fin v hA hWv h27v hM.1 hM.2.1 hM.2.2.1 ?_, fun c4 => absurd rfl c4⟩
      rw [if_neg cw]
      exact hM.2.2.2
  unfold wp_X12_goTold_p140 wp_X12_goTold_p155
  rintro _ rfl
  rw [lg_cmp_lt]
  refine ⟨fun c4 => hnv ?_ id, fun c4 => ?_⟩
  · have n1 : ¬ el (2 * k + 1) = 1 := fun e => by
      rw [e] at c4
      exact absurd c4 (by decide)
    have n0 : ¬ el (2 * k + 1) = 0 := fun e => by
      rw [e] at c4
      exact absurd c4 (by decide)
    rw [decide_eq_false n1, decide_eq_false n0]
    rfl
  rintro _ rfl
  rw [lg_cmp_gt]
  refine ⟨fun c5 => hnv ?_ id, fun c5 => ?_⟩
  · have n1 : ¬ el (2 * k + 1) = 1 := fun e => by
      rw [e] at c5
      exact absurd c5 (by decide)
    have n0 : ¬ el (2 * k + 1) = 0 := fun e => by
      rw [e] at c5
      exact absurd c5 (by decide)
    rw [decide_eq_false n1, decide_eq_false n0]
    rfl
  rintro _ rfl
  rw [lg_cmp_eq]
  refine ⟨fun c6 => ?_, fun c6 => ⟨fun c7 => hnv ?_ id, fun c7 => ?_⟩⟩
  · rintro _ rfl
    rw [lg_cmp_eq, hM.2.1]
    refine ⟨fun c8 => ?_, fun c8 => ⟨fun c9 => ?_, fun c9 => hnv ?_ id⟩⟩
    · -- neither 0 nor 1: it can't be
      exfalso
      rw [Int64.lt_iff_toInt_lt] at c4 c5
      have e0 : (0 : Int64).toInt = 0 := by decide
      have e1 : (1 : Int64).toInt = 1 := by decide
      rcases (show (el (2 * k + 1)).toInt = 0 ∨ (el (2 * k + 1)).toInt = 1 by omega) with g | g
      · exact c8 (Int64.toInt_inj.mp (g.trans e0.symm))
      · exact c6 (Int64.toInt_inj.mp (g.trans e1.symm))
    · have := (nI_leI (by omega) (by omega)).mp c9
      exact go (by rw [decide_eq_true c8, decide_eq_true (show q' ≤ S.2.1 from this), Bool.true_and, Bool.or_true]) (.inr ⟨c6, c8, this⟩)
    · have := mt (nI_leI (a := q') (b := S.2.1) (by omega) (by omega)).mpr c9
      rw [decide_eq_false c6, decide_eq_false (show ¬ q' ≤ S.2.1 from this), Bool.false_and, Bool.and_false]
      rfl
  · have := (nI_leI (by omega) (by omega)).mp c7
    rw [decide_eq_false (show ¬ S.1 < q' by omega), c6]
    rfl
  · have hlo : S.1 < q' := by
      have := mt (nI_leI (a := q') (b := S.1) (by omega) (by omega)).mpr c7
      omega
    rintro _ rfl
    rw [lg_cmp_eq]
    have n0 : ¬ el (2 * k + 1) = 0 := fun e => by
      rw [e] at c6
      exact absurd c6 (by decide)
    exact ⟨fun _ => go (by rw [decide_eq_true c6, decide_eq_true hlo]; rfl) (.inl ⟨c6, hlo⟩), fun c8 => absurd c8 n0⟩

theorem re_cl {n K : Nat} (hn : n < 50) (hK : K < 8) (x : Int32) : RE n K 6 (fun V Q => wp_X12_climbing (nI n) x V Q) (clV (nI n) K x) (clL K) := by
  have hl : (clL K).length ≤ 6 := by
    rcases (show K = 0 ∨ K = 1 ∨ K = 2 ∨ K = 3 ∨ K = 4 ∨ K = 5 ∨ K = 6 ∨ K = 7 by omega) with rfl | rfl | rfl | rfl | rfl | rfl | rfl | rfl <;> decide
  refine ⟨hl, fun V k Q e hk eK hq => ?_⟩
  show wp_X12_climbing (nI n) x V Q
  unfold wp_X12_climbing wp_X12_climbing_p57
  refine ⟨nI_in hn (by decide), ?_⟩
  rw [nI_clamp (by omega), eK]
  rintro _ rfl
  unfold clV clL at hq
  refine ⟨fun c5 => ⟨nI_in hn (by decide), ?_⟩, fun c5 => ?_⟩
  · have n5 : ¬ K = 5 := fun e => c5 (by rw [e]; rfl)
    rw [if_neg n5, if_neg n5] at hq
    rintro _ rfl
    refine ⟨fun c3 => ?_, fun c3 => ?_⟩
    · have n3 : ¬ K = 3 := fun e => c3 (by rw [e]; rfl)
      rw [if_neg n3, if_neg n3] at hq
      exact (re_pC x).2 V k _ e (by omega) eK hq
    · have e3 : K = 3 := (nI_eq (b := 3) (by omega) (by decide)).mp c3
      rw [if_pos e3, if_pos e3] at hq
      exact (re_sC x).2 V k _ e (by omega) eK hq
  · have e5 : K = 5 := (nI_eq (b := 5) (by omega) (by decide)).mp c5
    rw [if_pos e5, if_pos e5] at hq
    refine zran1 e (by omega) 60 ((re_sC x).2 (rn1 V 60) (k + 1) _ (rn1_3 e 60) (by omega) ((congrFun (rn1_A (by decide)) n).trans eK) ?_)
    refine (re_dr hn hK 2).2 (rnL (rn1 V 60) [40, 11]) (k + 3) _ (rnL_3 [40, 11] (rn1_3 e 60)) (by omega) ((congrFun ((rnL_A (by decide) [40, 11] _).trans (rn1_A (by decide))) n).trans eK) ?_
    rw [rnL_ap V]
    rintro _ rfl
    exact hq
theorem re_br {n K : Nat} (hn : n < 50) (hK : K < 8) (x : Int32) : RE n K 11 (fun V Q => wp_X12_breaking (nI n) x V Q) (brV (nI n) K x) (brL K) := by
  have hl : (brL K).length ≤ 11 := by
    rcases (show K = 0 ∨ K = 1 ∨ K = 2 ∨ K = 3 ∨ K = 4 ∨ K = 5 ∨ K = 6 ∨ K = 7 by omega) with rfl | rfl | rfl | rfl | rfl | rfl | rfl | rfl <;> decide
  refine ⟨hl, fun V k Q e hk eK hq => ?_⟩
  show wp_X12_breaking (nI n) x V Q
  unfold wp_X12_breaking wp_X12_breaking_p86
  refine ⟨nI_in hn (by decide), ?_⟩
  rw [nI_clamp (by omega), eK]
  rintro _ rfl
  have hu : underN K 3 = true ↔ (K = 3 ∨ K = 5) := by
    rcases (show K = 0 ∨ K = 1 ∨ K = 2 ∨ K = 3 ∨ K = 4 ∨ K = 5 ∨ K = 6 ∨ K = 7 by omega) with rfl | rfl | rfl | rfl | rfl | rfl | rfl | rfl <;> decide
  unfold brV brL at hq
  refine zUnderM (a := 3) hK (by decide) ⟨fun c => ⟨nI_in hn (by decide), ?_⟩, fun c => ?_⟩
  · have h35 : ¬ (K = 3 ∨ K = 5) := fun q => by
      rw [if_pos (hu.mpr q)] at c
      exact absurd c (by decide)
    rw [if_neg h35, if_neg h35] at hq
    rintro _ rfl
    refine ⟨fun c7 => ⟨nI_in hn (by decide), ?_⟩, fun c7 => ?_⟩
    · have n7 : ¬ K = 7 := fun e => c7 (by rw [e]; rfl)
      rw [if_neg n7, if_neg n7] at hq
      rintro _ rfl
      refine ⟨fun c2 => ?_, fun c2 => ?_⟩
      · have n2 : ¬ K = 2 := fun e => c2 (by rw [e]; rfl)
        rw [if_neg n2, if_neg n2] at hq
        exact (re_pB hn hK x).2 V k _ e (by omega) eK hq
      · have e2 : K = 2 := (nI_eq (b := 2) (by omega) (by decide)).mp c2
        rw [if_pos e2, if_pos e2] at hq
        exact (re_mB hn hK x).2 V k _ e (by omega) eK hq
    · have e7 : K = 7 := (nI_eq (b := 7) (by omega) (by decide)).mp c7
      rw [if_pos e7, if_pos e7] at hq
      have hp := (re_pB hn hK x).1
      refine zran1 e (by omega) 80 ((re_pB hn hK x).2 (rn1 V 80) (k + 1) _ (rn1_3 e 80) (by omega) ((congrFun (rn1_A (by decide)) n).trans eK) ?_)
      refine (re_cl hn hK 2).2 (rnL (rn1 V 80) (pBL K)) (k + 1 + (pBL K).length) _ (rnL_3 (pBL K) (rn1_3 e 80)) (by omega) ((congrFun ((rnL_A (by decide) (pBL K) _).trans (rn1_A (by decide))) n).trans eK) ?_
      rw [rnL_ap V]
      rintro _ rfl
      exact hq
  · have h35 : K = 3 ∨ K = 5 := by
      refine hu.mp (Classical.byContradiction fun q => c ?_)
      rw [if_neg q]
    rw [if_pos h35, if_pos h35] at hq
    refine zran1 e (by omega) 41 ?_
    rintro _ rfl
    exact (re_mB hn hK (x + 1)).2 (rn1 V 41) (k + 1) _ (rn1_3 e 41) (by omega) ((congrFun (rn1_A (by decide)) n).trans eK) hq
theorem re_pT {n K : Nat} (hn : n < 50) (hK : K < 8) (x : Int32) : RE n K 18 (fun V Q => wp_X12_plainTells (nI n) x V Q) (pTV (nI n) K x) (pTL K) := by
  have hb := (re_br hn hK x).1
  have hc := (re_cl hn hK 1).1
  refine ⟨by unfold pTL; simp only [List.length_cons, List.length_append]; omega, fun V k Q e hk eK hq => ?_⟩
  show wp_X12_plainTells (nI n) x V Q
  unfold wp_X12_plainTells
  refine zran1 e (by omega) 2 ((re_br hn hK x).2 (rn1 V 2) (k + 1) _ (rn1_3 e 2) (by omega) ((congrFun (rn1_A (by decide)) n).trans eK) ?_)
  refine (re_cl hn hK 1).2 (rnL (rn1 V 2) (brL K)) (k + 1 + (brL K).length) _ (rnL_3 (brL K) (rn1_3 e 2)) (by omega) ((congrFun ((rnL_A (by decide) (brL K) _).trans (rn1_A (by decide))) n).trans eK) ?_
  rw [rnL_ap V]
  rintro _ rfl
  exact hq
theorem re_te {n K : Nat} (hn : n < 50) (hK : K < 8) (x : Int32) : RE n K 19 (fun V Q => wp_X12_telling (nI n) x V Q) (teV (nI n) K x) (teL K) := by
  have hp := (re_pT hn hK x).1
  have hl : (teL K).length ≤ 19 := by
    unfold teL
    split
    · simp only [List.length_cons]; omega
    · split
      · simp only [List.length_cons]; omega
      · omega
  refine ⟨hl, fun V k Q e hk eK hq => ?_⟩
  show wp_X12_telling (nI n) x V Q
  unfold wp_X12_telling
  refine ⟨nI_in hn (by decide), ?_⟩
  rw [nI_clamp (by omega), eK]
  rintro _ rfl
  unfold teV teL at hq
  refine ⟨fun c4 => ⟨nI_in hn (by decide), ?_⟩, fun c4 => ?_⟩
  · have n4 : ¬ K = 4 := fun e => c4 (by rw [e]; rfl)
    rw [if_neg n4, if_neg n4] at hq
    rintro _ rfl
    refine ⟨fun c5 => ?_, fun c5 => ?_⟩
    · have n5 : ¬ K = 5 := fun e => c5 (by rw [e]; rfl)
      rw [if_neg n5, if_neg n5] at hq
      exact (re_pT hn hK x).2 V k _ e (by omega) eK hq
    · have e5 : K = 5 := (nI_eq (b := 5) (by omega) (by decide)).mp c5
      rw [if_pos e5, if_pos e5] at hq
      refine zran1 e (by omega) 61 ((re_pT hn hK x).2 (rn1 V 61) (k + 1) _ (rn1_3 e 61) (by omega) ((congrFun (rn1_A (by decide)) n).trans eK) ?_)
      rintro _ rfl
      exact hq
  · have e4 : K = 4 := (nI_eq (b := 4) (by omega) (by decide)).mp c4
    rw [if_pos e4, if_pos e4] at hq
    refine zran1 e (by omega) 50 ((re_pT hn hK x).2 (rn1 V 50) (k + 1) _ (rn1_3 e 50) (by omega) ((congrFun (rn1_A (by decide)) n).trans eK) ?_)
    rintro _ rfl
    exact hq

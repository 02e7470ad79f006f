/-! walks: the reference -/
def V40 (F : Nat → Nat → Nat → Nat) (h N J : Nat) (a3 : Int32) (k : Nat) (y : Int32) : Prop := (∀ i : Nat, a3 = nI i → i < k → y = nI (sk F h N J i)) ∧ ((∀ i : Nat, i < k → a3 ≠ nI i) → y = -2)
theorem V40_s {F : Nat → Nat → Nat → Nat} {h N J : Nat} {a3 : Int32} {k : Nat} {y y' : Int32} (hk : k < 2 ^ 31) (H : V40 F h N J a3 k y) (hs : a3 = nI k → y' = nI (sk F h N J k)) (hn : a3 ≠ nI k → y' = y) : V40 F h N J a3 (k + 1) y' := by
  refine ⟨fun i e hi => ?_, fun q => ?_⟩
  · by_cases c : i = k
    · subst c
      exact hs e
    · rw [hn fun e2 => c ((nI_eq (by omega) hk).mp (e.symm.trans e2))]
      exact H.1 i e (by omega)
  · rw [hn (q k (Nat.lt_succ_self k))]
    exact H.2 fun i hi => q i (by omega)
def kGR2 : List Nat := [22, 23, 28, 29, 30, 31, 38, 39, 40]
def kGR : List Nat := [22, 23, 25, 26, 27, 28, 29, 30, 31, 38, 39, 40]
def GRI (F : Nat → Nat → Nat → Nat) (h N J : Nat) (a3 : Int32) (k : Nat) (V1 u : ST) : Prop := Ag kGR2 u V1 ∧ gI u 38 = nI k ∧ gI u 39 = nI (wk F h N J k).2.2 ∧ V40 F h N J a3 k (gI u 40)
theorem zruleFirst {V1 u L : ST} {o : Option (List zL)} {N J lo hi j : Nat} {F : Nat → Nat → Nat → Nat} {x1 : Int32} (hL : RLw L V1 o) (hA : Ag kGR2 u V1) (v1 : gI V1 1 = nI N) (v2 : gI V1 2 = nI J) (hN : N ≤ 60) (hj : j ≤ 6) (hj0 : j ≠ 0) (hlo : lo < hi) (hhi : hi ≤ N) (hW : WTW 1 0 V1) (hF : F = if x1 = 0 then Fw else Fm (fun h => wt o h N J)) {Q : Int32 → ST → Prop} (hq : ∀ u' : ST, Ag kM u' u → Q (nI (F j lo hi)) u') : wp_X12_ruleFirst x1 (nI lo) (nI hi) (nI j) u Q := by
  unfold wp_X12_ruleFirst
  refine ⟨fun c => ?_, fun c => ?_⟩
  · have hL' : RLw L u o := RLw_ag hL (Ag_r [] L) (by decide) (by decide) hA (by decide) (by decide) (by decide) (by decide) (by decide) (by decide)
    refine zmeanOf hL' ((Ag_I hA 1 (by decide)).trans v1) ((Ag_I hA 2 (by decide)).trans v2) (by omega) hhi hN hj fun V' hb h31 => ?_
    rw [h31 hj0 hlo]
    have hq := hq V' hb.1
    rw [hF, if_neg c] at hq
    exact hq
  · rw [nI_sub (by omega)]
    rintro _ rfl
    rw [nI_1]
    rintro _ rfl
    rw [show (7 : Int32) * nI (hi - lo + 1) = nI (7 * (hi - lo + 1)) from pk_mul 7 _]
    rintro _ rfl
    rw [nI_add]
    rintro _ rfl
    refine ⟨nI_in (by omega) (by decide), ?_⟩
    rw [nI_clamp (by omega), Ag_A hA 26 (by decide), (hW j (hi - lo + 1) hj (by omega) (by omega)).2, nF_p (lBW hj0 (by omega) (by omega)).1]
    rintro _ rfl
    rw [nI_add]
    rintro _ rfl
    have hq := hq u (Ag_r _ _)
    rw [hF, if_pos c] at hq
    exact hq
theorem zgoR {V L : ST} {o : Option (List zL)} {N J h D : Nat} {F : Nat → Nat → Nat → Nat} {x1 a3 : Int32} (hL : RLw L V o) (v1 : gI V 1 = nI N) (v2 : gI V 2 = nI J) (hN : N ≤ 60) (hJ : J ≤ 6) (hJ0 : J ≠ 0) (hh : h < 2 ^ 31) (hW : RW V) (hF : F = if x1 = 0 then Fw else Fm (fun h => wt o h N J)) (gD : goes F h N J D) (lD : ¬ (wk F h N J D).1 < (wk F h N J D).2.1) {Q : ST → Prop}
    (hq : ∀ V' : ST, Ag kGR V' V → RW V' → gI V' 38 = nI D → gI V' 39 = nI (wk F h N J D).2.2 → V40 F h N J a3 D (gI V' 40) → Q V') : wp_X12_goRule x1 (nI h) a3 V Q := by
  have hw0 : okw (fun h => wt o h N J) := fun h _ => wt_le o h N J
  have hFP : FP F N := by
    rw [hF]
    split
    · exact FP0 hN
    · exact FP1 hw0 hN
  unfold wp_X12_goRule
  refine zfindW hW fun V1 hA1 hW1 h27 => ?_
  have v1' : gI V1 1 = nI N := (Ag_I hA1 1 (by decide)).trans v1
  have v2' : gI V1 2 = nI J := (Ag_I hA1 2 (by decide)).trans v2
  have hL1 : RLw L V1 o := RLw_ag hL (Ag_r [] L) (by decide) (by decide) hA1 (by decide) (by decide) (by decide) (by decide) (by decide) (by decide)
  rintro _ rfl _ rfl _ rfl
  rw [v1']
  have G0 : GRI F h N J a3 0 V1 (sI (sI (sI V1 38 0) 39 0) 40 (-2)) := ⟨Ag_sI (Ag_sI (Ag_sI (Ag_r _ _) (by decide) _) (by decide) _) (by decide) _, rfl, rfl, fun i _ hi => absurd hi (Nat.not_lt_zero _), fun _ => rfl⟩
  generalize sI (sI (sI V1 38 0) 39 0) 40 (-2) = X at G0
  unfold wp_X12_goRule_p29
  refine ⟨fun y1 y2 y3 y4 y5 u => x1 = y1 ∧ y2 = nI h ∧ a3 = y3 ∧ ∃ k : Nat, k ≤ D ∧ y4 = nI (wk F h N J k).1 ∧ y5 = nI (wk F h N J k).2.1 ∧ GRI F h N J a3 k V1 u, fun _ _ _ y4 y5 _ => y5.toNatClampNeg - y4.toNatClampNeg, ⟨rfl, rfl, rfl, 0, Nat.zero_le _, rfl, rfl, G0⟩, ?_⟩
  rintro _ _ _ _ _ u ⟨rfl, rfl, rfl, k, hk, rfl, rfl, hA, e38, e39, e40⟩
  have g : goes F h N J k := fun i hi => gD i (by omega)
  obtain ⟨i1, i2, i3, i4, i5⟩ := wk_ok hFP hJ0 k g
  unfold wp_X12_goRule_p29b
  refine ⟨fun c => ?_, fun c => ?_⟩
  · have c := (nI_leI (by omega) (by omega)).mp c
    have ek : k = D := by
      by_cases c2 : k = D
      · exact c2
      · have := gD k (by omega)
        omega
    subst ek
    refine hq u (Ag_t (Ag_m hA (by decide)) (Ag_m hA1 (by decide))) (.inr ⟨?_, fun j m q1 q2 q3 => ?_⟩) e38 e39 e40
    · rw [Ag_I hA 27 (by decide)]
      exact h27
    · rw [Ag_A hA 25 (by decide), Ag_A hA 26 (by decide)]
      exact hW1 j m q1 q2 q3
  have l : (wk F h N J k).1 < (wk F h N J k).2.1 := by
    have := mt (nI_leI (a := (wk F h N J k).2.1) (b := (wk F h N J k).1) (by omega) (by omega)).mpr c
    omega
  have hkD : k < D := by
    by_cases c2 : k = D
    · subst c2
      exact absurd l lD
    · omega
  have i5 := i5 l
  obtain ⟨f1, f2⟩ := sk_ok hFP hJ0 g l
  rw [Ag_I hA 2 (by decide), v2', e39, nI_sub (by omega)]
  rintro _ rfl
  refine zruleFirst hL1 hA v1' v2' hN (by omega) (by omega) l i2 hW1 hF fun u1 hu1 => ?_
  rw [show F (J - (wk F h N J k).2.2) (wk F h N J k).1 (wk F h N J k).2.1 = sk F h N J k from rfl]
  have hA2 : Ag kGR2 u1 V1 := Ag_t (Ag_m hu1 (by decide)) hA
  have f38 : gI u1 38 = nI k := (Ag_I hu1 38 (by decide)).trans e38
  have f39 : gI u1 39 = nI (wk F h N J k).2.2 := (Ag_I hu1 39 (by decide)).trans e39
  have f40 : gI u1 40 = gI u 40 := Ag_I hu1 40 (by decide)
  have fin : ∀ u2 : ST, Ag kGR2 u2 V1 → gI u2 38 = nI k → gI u2 39 = nI (wk F h N J k).2.2 → V40 F h N J a3 (k + 1) (gI u2 40) → wp_X12_goRule_p70 x1 (nI h) a3 (nI (wk F h N J k).1) (nI (wk F h N J k).2.1) (nI (sk F h N J k)) u2 (fun yx1 yx2 yx3 yx4 yx5 yu => (x1 = yx1 ∧ yx2 = nI h ∧ a3 = yx3 ∧ ∃ k : Nat, k ≤ D ∧ yx4 = nI (wk F h N J k).1 ∧ yx5 = nI (wk F h N J k).2.1 ∧ GRI F h N J a3 k V1 yu) ∧ yx5.toNatClampNeg - yx4.toNatClampNeg < (nI (wk F h N J k).2.1).toNatClampNeg - (nI (wk F h N J k).1).toNatClampNeg) Q := by
    intro u2 b1 b2 b3 b4
    have es := wk_s F h N J k
    unfold wp_X12_goRule_p70 wp_X12_goRule_p109
    rw [b2, nI_1]
    rintro _ rfl _ rfl
    refine ⟨fun c2 => ?_, fun c2 => ?_⟩
    · have c2 := (nI_leI (by omega) hh).mp c2
      rw [if_neg (by omega)] at es
      refine ⟨⟨rfl, rfl, rfl, k + 1, hkD, by rw [es], by rw [es], Ag_sI b1 (by decide) _, rfl, ?_, b4⟩, ?_⟩
      · rw [es]
        exact b3
      · rw [nI_clamp (by omega), nI_clamp (by omega), nI_clamp (by omega)]
        omega
    · have c2 := mt (nI_leI (a := sk F h N J k) (b := h) (by omega) hh).mpr c2
      rw [if_pos (by omega)] at es
      rw [show gI (sI u2 38 (nI (k + 1))) 39 = nI (wk F h N J k).2.2 from b3, nI_1]
      rintro _ rfl _ rfl
      rw [show nI (sk F h N J k) - (1 : Int32) = nI (sk F h N J k - 1) from nI_sub (b := 1) (by omega)]
      rintro _ rfl
      refine ⟨⟨rfl, rfl, rfl, k + 1, hkD, by rw [es], by rw [es], Ag_sI (Ag_sI b1 (by decide) _) (by decide) _, rfl, ?_, b4⟩, ?_⟩
      · rw [es]
        rfl
      · rw [nI_clamp (by omega), nI_clamp (by omega), nI_clamp (by omega)]
        omega
  refine ⟨fun c2 => ?_, fun c2 => ?_⟩
  · refine fin u1 hA2 f38 f39 (V40_s (by omega) e40 (fun e => absurd (f38.trans e.symm) c2) fun _ => f40)
  · rintro _ rfl
    refine fin _ (Ag_sI hA2 (by decide) _) f38 f39 (V40_s (by omega) e40 (fun _ => rfl) fun e => absurd (c2.symm.trans f38) e)

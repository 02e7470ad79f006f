/-! walks: the math -/
theorem lTW_fin {j : Nat} (hj : j ≠ 0) : ∀ m : Nat, 1 ≤ m → m ≤ 61 → lT gW j m ≤ m - 1
  | 0, h, _ => by omega
  | 1, _, _ => by
    rw [lT_1]
    exact Nat.zero_le _
  | m + 2, _, h2 => by
    have hz := zF_e
    have ih := lTW_fin hj (m + 1) (by omega) (by omega)
    rw [lT_eq gW j (by omega) h2]
    have m1 := bst_min (if m + 2 = 1 then 0 else zF) (lf gW j (m + 2)) (n := m + 2 - 1) (k := 1) (Nat.le_refl _) (by omega)
    refine Nat.le_trans m1 ?_
    have key : ∀ y : Nat, y ≤ m → gW (m + 2) 0 y ≤ m + 2 - 1 := fun y hy => by
      unfold gW gl
      rw [if_neg (show ¬ (false = true) by decide), if_pos ⟨by omega, by omega⟩]
      split <;> omega
    unfold lf
    rw [if_neg hj, lT_1]
    rw [show m + 2 - 1 = m + 1 from rfl]
    exact key _ ih
theorem gW_fin {m b w : Nat} (h : gW m b w < zF) : b < zF ∧ w < zF := by
  unfold gW gl at h
  split at h
  · assumption
  · exact absurd h (Nat.lt_irrefl _)
theorem lBW {j m : Nat} (hj : j ≠ 0) (h1 : 2 ≤ m) (h2 : m ≤ 61) : 0 < (lB gW j m).2 ∧ (lB gW j m).2 ≤ m - 1 ∧ (j = 1 → (lB gW j m).2 = 1) := by
  have hz := zF_e
  have hf := lTW_fin hj m (by omega) h2
  rw [lT_eq gW j (by omega) h2] at hf
  have hi : (lB gW j m).2 ≤ m - 1 := bst_i _ _ _
  have ha : ((lB gW j m).2 = 0 ∧ (lB gW j m).1 = (if m = 1 then 0 else zF)) ∨ (0 < (lB gW j m).2 ∧ (lB gW j m).1 = lf gW j m (lB gW j m).2 ∧ (lB gW j m).1 < (if m = 1 then 0 else zF)) := bst_at _ _ _
  rw [if_neg (by omega)] at ha
  rcases ha with ⟨-, e⟩ | ⟨p, e, l⟩
  · omega
  refine ⟨p, hi, fun e1 => ?_⟩
  subst e1
  rw [e] at l
  unfold lf at l
  rw [if_neg hj] at l
  have b := (gW_fin l).1
  by_cases c : (lB gW 1 m).2 = 1
  · exact c
  · rw [lT_0 gW (by omega) (by omega)] at b
    exact absurd b (Nat.lt_irrefl _)
theorem BMf {w : Nat → Nat} (hw : okw w) {j lo hi : Nat} (hj : j ≠ 0) (h : lo < hi) (h2 : hi ≤ 60) : 0 < (BM w j lo hi).2 ∧ (BM w j lo hi).2 ≤ hi - lo ∧ (j = 1 → (BM w j lo hi).2 = 1) := by
  have hz := zF_e
  obtain ⟨f1, f2, f3⟩ := BM_fin hw hj h h2
  have hi' : (BM w j lo hi).2 ≤ hi - lo := bst_i _ _ _
  have ha : ((BM w j lo hi).2 = 0 ∧ (BM w j lo hi).1 = zF) ∨ (0 < (BM w j lo hi).2 ∧ (BM w j lo hi).1 = fM w j lo hi (BM w j lo hi).2 ∧ (BM w j lo hi).1 < zF) := bst_at _ _ _
  rcases ha with ⟨-, e⟩ | ⟨p, e, l⟩
  · omega
  refine ⟨p, hi', fun e1 => ?_⟩
  subst e1
  rw [e] at l
  unfold fM at l
  rw [if_neg hj] at l
  by_cases c : (BM w 1 lo hi).2 = 1
  · exact c
  · rw [show 1 - 1 = 0 from rfl, M_0 w (a := lo) (b := lo + (BM w 1 lo hi).2 - 1) (by omega) (by omega)] at l
    unfold ad at l
    split at l <;> omega
def Fw (j lo hi : Nat) : Nat := lo + (lB gW j (hi - lo + 1)).2
def Fm (w : Nat → Nat) (j lo hi : Nat) : Nat := lo + (BM (ew w lo hi) j lo hi).2
def FP (F : Nat → Nat → Nat → Nat) (N : Nat) : Prop := ∀ j lo hi : Nat, j ≠ 0 → lo < hi → hi ≤ N → lo < F j lo hi ∧ F j lo hi ≤ hi ∧ (j = 1 → F j lo hi = lo + 1)
theorem FP0 {N : Nat} (hN : N ≤ 60) : FP Fw N := fun j lo hi hj h h2 => by
  have q := lBW hj (m := hi - lo + 1) (by omega) (by omega)
  unfold Fw
  refine ⟨by omega, by omega, fun e => ?_⟩
  have := q.2.2 e
  omega
theorem FP1 {w : Nat → Nat} (hw : okw w) {N : Nat} (hN : N ≤ 60) : FP (Fm w) N := fun j lo hi hj h h2 => by
  have q := BMf (ew_ok hw lo hi) hj h (by omega)
  unfold Fm
  refine ⟨by omega, by omega, fun e => ?_⟩
  have := q.2.2 e
  omega
/-- after k drops: what is left of the span, how many broke -/
def wk (F : Nat → Nat → Nat → Nat) (h N J : Nat) : Nat → Nat × Nat × Nat
  | 0 => (0, N, 0)
  | k + 1 => if h < F (J - (wk F h N J k).2.2) (wk F h N J k).1 (wk F h N J k).2.1 then ((wk F h N J k).1, F (J - (wk F h N J k).2.2) (wk F h N J k).1 (wk F h N J k).2.1 - 1, (wk F h N J k).2.2 + 1) else (F (J - (wk F h N J k).2.2) (wk F h N J k).1 (wk F h N J k).2.1, (wk F h N J k).2.1, (wk F h N J k).2.2)
def sk (F : Nat → Nat → Nat → Nat) (h N J k : Nat) : Nat := F (J - (wk F h N J k).2.2) (wk F h N J k).1 (wk F h N J k).2.1
theorem wk_s (F : Nat → Nat → Nat → Nat) (h N J k : Nat) : wk F h N J (k + 1) = if h < sk F h N J k then ((wk F h N J k).1, sk F h N J k - 1, (wk F h N J k).2.2 + 1) else (sk F h N J k, (wk F h N J k).2.1, (wk F h N J k).2.2) := rfl
def goes (F : Nat → Nat → Nat → Nat) (h N J k : Nat) : Prop := ∀ i : Nat, i < k → (wk F h N J i).1 < (wk F h N J i).2.1
theorem goes_s {F : Nat → Nat → Nat → Nat} {h N J k : Nat} (g : goes F h N J k) (l : (wk F h N J k).1 < (wk F h N J k).2.1) : goes F h N J (k + 1) := fun i hi => by
  by_cases c : i = k
  · subst c
    exact l
  · exact g i (by omega)
theorem wk_ok {F : Nat → Nat → Nat → Nat} {h N J : Nat} (hF : FP F N) (hJ : J ≠ 0) : ∀ k : Nat, goes F h N J k → (wk F h N J k).1 ≤ (wk F h N J k).2.1 ∧ (wk F h N J k).2.1 ≤ N ∧ (wk F h N J k).2.1 - (wk F h N J k).1 + k ≤ N ∧ (wk F h N J k).2.2 ≤ J ∧ ((wk F h N J k).1 < (wk F h N J k).2.1 → (wk F h N J k).2.2 < J)
  | 0, _ => ⟨Nat.zero_le _, Nat.le_refl _, Nat.le_refl _, Nat.zero_le _, fun _ => by
    show 0 < J
    omega⟩
  | k + 1, g => by
    obtain ⟨i1, i2, i3, i4, i5⟩ := wk_ok hF hJ k (fun i hi => g i (by omega))
    have l := g k (Nat.lt_succ_self k)
    have i5 := i5 l
    obtain ⟨f1, f2, f3⟩ := hF (J - (wk F h N J k).2.2) _ _ (by omega) l i2
    rw [show F (J - (wk F h N J k).2.2) (wk F h N J k).1 (wk F h N J k).2.1 = sk F h N J k from rfl] at f1 f2 f3
    rw [wk_s]
    generalize sk F h N J k = s at *
    generalize wk F h N J k = S at *
    split
    · refine ⟨?_, ?_, ?_, ?_, fun q => ?_⟩
      · show S.1 ≤ s - 1
        omega
      · show s - 1 ≤ N
        omega
      · show s - 1 - S.1 + (k + 1) ≤ N
        omega
      · show S.2.2 + 1 ≤ J
        omega
      · have q : S.1 < s - 1 := q
        show S.2.2 + 1 < J
        by_cases c : J - S.2.2 = 1
        · have := f3 c
          omega
        · omega
    · refine ⟨?_, i2, ?_, i4, fun q => i5⟩
      · show s ≤ S.2.1
        omega
      · show S.2.1 - s + (k + 1) ≤ N
        omega
theorem sk_ok {F : Nat → Nat → Nat → Nat} {h N J : Nat} (hF : FP F N) (hJ : J ≠ 0) {k : Nat} (g : goes F h N J k) (l : (wk F h N J k).1 < (wk F h N J k).2.1) : (wk F h N J k).1 < sk F h N J k ∧ sk F h N J k ≤ (wk F h N J k).2.1 := by
  obtain ⟨i1, i2, i3, i4, i5⟩ := wk_ok hF hJ k g
  have i5 := i5 l
  obtain ⟨f1, f2, f3⟩ := hF (J - (wk F h N J k).2.2) _ _ (by omega) l i2
  exact ⟨f1, f2⟩

/-! the least mean: by weights w of the heights -/
def psm (w : Nat → Nat) : Nat → Nat
  | 0 => 0
  | n + 1 => psm w n + w n
def Wt (w : Nat → Nat) (lo hi : Nat) : Nat := psm w (hi + 1) - psm w lo
def ad (x y : Nat) : Nat := if x + y < zF then x + y else zF
def mn (w : Nat → Nat) : Nat → Nat → Nat → Nat → Nat
  | 0, _, _, _ => 0
  | n + 1, j, lo, hi => if lo = hi then 0 else (if (bst zF (fun i => if j = 0 then zF else ad (mn w n (j - 1) lo (lo + i - 1)) (mn w n j (lo + i) hi)) (hi - lo)).1 < zF then (bst zF (fun i => if j = 0 then zF else ad (mn w n (j - 1) lo (lo + i - 1)) (mn w n j (lo + i) hi)) (hi - lo)).1 + Wt w lo hi else zF)
theorem mn_fuel (w : Nat → Nat) : ∀ n n' j lo hi : Nat, lo ≤ hi → hi - lo < n → hi - lo < n' → mn w n j lo hi = mn w n' j lo hi
  | 0, _, _, _, _, _, h, _ => by omega
  | _ + 1, 0, _, _, _, _, _, h => by omega
  | n + 1, n' + 1, j, lo, hi, h, h2, h3 => by
    have e : bst zF (fun i => if j = 0 then zF else ad (mn w n (j - 1) lo (lo + i - 1)) (mn w n j (lo + i) hi)) (hi - lo) = bst zF (fun i => if j = 0 then zF else ad (mn w n' (j - 1) lo (lo + i - 1)) (mn w n' j (lo + i) hi)) (hi - lo) := bst_cg fun i i1 i2 => .inl (by rw [mn_fuel w n n' (j - 1) lo (lo + i - 1) (by omega) (by omega) (by omega), mn_fuel w n n' j (lo + i) hi (by omega) (by omega) (by omega)])
    show (if lo = hi then 0 else (if (bst zF _ (hi - lo)).1 < zF then (bst zF _ (hi - lo)).1 + Wt w lo hi else zF)) = (if lo = hi then 0 else (if (bst zF _ (hi - lo)).1 < zF then (bst zF _ (hi - lo)).1 + Wt w lo hi else zF))
    rw [e]
def M (w : Nat → Nat) (j lo hi : Nat) : Nat := mn w 62 j lo hi
def fM (w : Nat → Nat) (j lo hi : Nat) : Nat → Nat := fun i => if j = 0 then zF else ad (M w (j - 1) lo (lo + i - 1)) (M w j (lo + i) hi)
def BM (w : Nat → Nat) (j lo hi : Nat) : Nat × Nat := bst zF (fM w j lo hi) (hi - lo)
theorem M_eq (w : Nat → Nat) (j : Nat) {lo hi : Nat} (h : lo < hi) (h2 : hi ≤ 60) : M w j lo hi = if (BM w j lo hi).1 < zF then (BM w j lo hi).1 + Wt w lo hi else zF := by
  have e : bst zF (fun i => if j = 0 then zF else ad (mn w 61 (j - 1) lo (lo + i - 1)) (mn w 61 j (lo + i) hi)) (hi - lo) = BM w j lo hi := by
    refine bst_cg fun i i1 i2 => .inl ?_
    unfold fM M
    rw [mn_fuel w 61 62 (j - 1) lo (lo + i - 1) (by omega) (by omega) (by omega), mn_fuel w 61 62 j (lo + i) hi (by omega) (by omega) (by omega)]
  show (if lo = hi then 0 else (if (bst zF _ (hi - lo)).1 < zF then (bst zF _ (hi - lo)).1 + Wt w lo hi else zF)) = _
  rw [e, if_neg (by omega)]
theorem M_r (w : Nat → Nat) (j a : Nat) : M w j a a = 0 := if_pos rfl
theorem psm_le {w : Nat → Nat} (hw : ∀ h : Nat, h ≤ 60 → w h ≤ 9) : ∀ n : Nat, n ≤ 61 → psm w n ≤ 9 * n
  | 0, _ => Nat.le_refl _
  | n + 1, h => by
    have := psm_le hw n (by omega)
    have := hw n (by omega)
    show psm w n + w n ≤ _
    omega
theorem psm_mono (w : Nat → Nat) {a b : Nat} (h : a ≤ b) : psm w a ≤ psm w b := by
  induction h with
  | refl => exact Nat.le_refl _
  | step _ ih => exact Nat.le_trans ih (Nat.le_add_right _ _)
theorem Wt_le {w : Nat → Nat} (hw : ∀ h : Nat, h ≤ 60 → w h ≤ 9) {lo hi : Nat} (h2 : hi ≤ 60) : Wt w lo hi ≤ 549 := by
  have := psm_le hw (hi + 1) (by omega)
  unfold Wt
  omega
theorem Wt_mono (w : Nat → Nat) {lo hi : Nat} : Wt w lo hi ≤ Wt w lo (hi + 1) := by
  have := psm_mono w (show hi + 1 ≤ hi + 1 + 1 by omega)
  unfold Wt
  omega
theorem ad_mono {x x' y y' : Nat} (h : x ≤ x') (h2 : y ≤ y') : ad x y ≤ ad x' y' := by
  unfold ad
  split <;> split <;> omega
theorem ad_l {x y : Nat} (h : x ≤ zF) : x ≤ ad x y := by
  unfold ad
  split <;> omega
theorem M_le (w : Nat → Nat) (j : Nat) {lo hi : Nat} (hw : ∀ h : Nat, h ≤ 60 → w h ≤ 9) : ∀ N : Nat, hi - lo ≤ N → lo ≤ hi → hi ≤ 60 → M w j lo hi = zF ∨ M w j lo hi ≤ 549 * (hi - lo) := by
  intro N
  induction N generalizing j lo hi with
  | zero =>
    intro h h1 _
    have : lo = hi := by omega
    subst this
    rw [M_r]
    exact .inr (Nat.zero_le _)
  | succ N ih =>
    intro h h1 h2
    have hz := zF_e
    by_cases c : lo = hi
    · subst c
      rw [M_r]
      exact .inr (Nat.zero_le _)
    rw [M_eq w j (by omega) h2]
    by_cases cf : (BM w j lo hi).1 < zF
    · rw [if_pos cf]
      have hW := Wt_le hw h2 (lo := lo)
      unfold BM at cf ⊢
      have hi' := bst_i zF (fM w j lo hi) (hi - lo)
      rcases bst_at zF (fM w j lo hi) (hi - lo) with ⟨-, e⟩ | ⟨p, e, l⟩
      · omega
      rw [e] at cf ⊢
      generalize (bst zF (fM w j lo hi) (hi - lo)).2 = i at *
      unfold fM at cf ⊢
      by_cases hj : j = 0
      · rw [if_pos hj] at cf
        omega
      rw [if_neg hj] at cf ⊢
      unfold ad at cf ⊢
      by_cases c2 : M w (j - 1) lo (lo + i - 1) + M w j (lo + i) hi < zF
      · rw [if_pos c2]
        have r1 := ih (j - 1) (lo := lo) (hi := lo + i - 1) (by omega) (by omega) (by omega)
        have r2 := ih j (lo := lo + i) (hi := hi) (by omega) (by omega) (by omega)
        right
        rcases r1 with r1 | r1 <;> rcases r2 with r2 | r2 <;> omega
      · rw [if_neg c2] at cf
        omega
    · rw [if_neg cf]
      exact .inl rfl
theorem M_lez {w : Nat → Nat} (j : Nat) {lo hi : Nat} (hw : ∀ h : Nat, h ≤ 60 → w h ≤ 9) (h : lo ≤ hi) (h2 : hi ≤ 60) : M w j lo hi ≤ zF := by
  have hz := zF_e
  rcases M_le w j hw (hi - lo) (Nat.le_refl _) h h2 with e | e <;> omega
/-- a jar or more: there is a plan -/
theorem M_fin {w : Nat → Nat} (hw : ∀ h : Nat, h ≤ 60 → w h ≤ 9) : ∀ (N j lo hi : Nat), hi - lo ≤ N → lo ≤ hi → hi ≤ 60 → j ≠ 0 → M w j lo hi ≤ 549 * (hi - lo)
  | 0, j, lo, hi, h, h1, _, _ => by
    have : lo = hi := by omega
    subst this
    rw [M_r]
    exact Nat.zero_le _
  | N + 1, j, lo, hi, h, h1, h2, hj => by
    have hz := zF_e
    rcases M_le w j hw (hi - lo) (Nat.le_refl _) h1 h2 with e | e
    · exfalso
      by_cases c : lo = hi
      · subst c
        rw [M_r] at e
        omega
      have ih := M_fin hw N j (lo + 1) hi (by omega) (by omega) h2 hj
      have m := bst_min zF (fM w j lo hi) (n := hi - lo) (k := 1) (Nat.le_refl _) (by omega)
      unfold fM at m
      rw [if_neg hj, show lo + 1 - 1 = lo by omega, M_r] at m
      unfold ad at m
      rw [if_pos (by omega)] at m
      have mB : (BM w j lo hi).1 ≤ 0 + M w j (lo + 1) hi := m
      have hW := Wt_le hw h2 (lo := lo)
      rw [M_eq w j (by omega) h2, if_pos (by omega)] at e
      omega
    · exact e
theorem M_l {w : Nat → Nat} (hw : ∀ h : Nat, h ≤ 60 → w h ≤ 9) {j lo hi k : Nat} (hj : j ≠ 0) (h1 : lo < k) (h2 : k ≤ hi) (h3 : hi ≤ 60) : M w j lo hi ≤ M w (j - 1) lo (k - 1) + M w j k hi + Wt w lo hi := by
  have hz := zF_e
  have m := bst_min zF (fM w j lo hi) (n := hi - lo) (k := k - lo) (by omega) (by omega)
  unfold fM at m
  rw [if_neg hj, show lo + (k - lo) - 1 = k - 1 by omega, show lo + (k - lo) = k by omega] at m
  have mB : (BM w j lo hi).1 ≤ ad (M w (j - 1) lo (k - 1)) (M w j k hi) := m
  have hl := M_lez j hw (show lo ≤ hi by omega) h3
  unfold ad at mB
  rw [M_eq w j (by omega) h3] at hl ⊢
  by_cases c : M w (j - 1) lo (k - 1) + M w j k hi < zF
  · rw [if_pos c] at mB
    rw [if_pos (by omega)]
    omega
  · split <;> omega
theorem M_or {w : Nat → Nat} {j lo hi : Nat} (h1 : lo < hi) (h3 : hi ≤ 60) : M w j lo hi = zF ∨ (j ≠ 0 ∧ ∃ k : Nat, lo < k ∧ k ≤ hi ∧ M w (j - 1) lo (k - 1) + M w j k hi < zF ∧ M w j lo hi = M w (j - 1) lo (k - 1) + M w j k hi + Wt w lo hi) := by
  have hz := zF_e
  rw [M_eq w j h1 h3]
  by_cases cf : (BM w j lo hi).1 < zF
  · rw [if_pos cf]
    unfold BM at cf ⊢
    have hi' := bst_i zF (fM w j lo hi) (hi - lo)
    rcases bst_at zF (fM w j lo hi) (hi - lo) with ⟨-, e⟩ | ⟨p, e, l⟩
    · omega
    rw [e] at cf ⊢
    generalize (bst zF (fM w j lo hi) (hi - lo)).2 = i at *
    unfold fM at cf ⊢
    by_cases hj : j = 0
    · rw [if_pos hj] at cf
      omega
    rw [if_neg hj] at cf ⊢
    unfold ad at cf ⊢
    by_cases c2 : M w (j - 1) lo (lo + i - 1) + M w j (lo + i) hi < zF
    · rw [if_pos c2]
      exact .inr ⟨hj, lo + i, by omega, by omega, c2, rfl⟩
    · rw [if_neg c2] at cf
      omega
  · rw [if_neg cf]
    exact .inl rfl
theorem M_jar {w : Nat → Nat} (hw : ∀ h : Nat, h ≤ 60 → w h ≤ 9) : ∀ (N j lo hi : Nat), hi - lo ≤ N → lo ≤ hi → hi ≤ 60 → M w (j + 1) lo hi ≤ M w j lo hi
  | 0, j, lo, hi, h, h1, _ => by
    have : lo = hi := by omega
    subst this
    rw [M_r]
    exact Nat.zero_le _
  | N + 1, j, lo, hi, h, h1, h2 => by
    by_cases c : lo = hi
    · subst c
      rw [M_r]
      exact Nat.zero_le _
    rcases M_or (w := w) (j := j) (show lo < hi by omega) h2 with e | ⟨hj, k, k1, k2, -, e⟩
    · rw [e]
      exact M_lez _ hw h1 h2
    · have m := M_l hw (j := j + 1) (by omega) k1 k2 h2
      have a := M_jar hw N (j - 1) lo (k - 1) (by omega) (by omega) (by omega)
      have b := M_jar hw N j k hi (by omega) (by omega) (by omega)
      rw [show j - 1 + 1 = j + 1 - 1 by omega] at a
      omega
theorem M_up {w : Nat → Nat} (hw : ∀ h : Nat, h ≤ 60 → w h ≤ 9) : ∀ (N j lo hi : Nat), hi - lo ≤ N → lo ≤ hi → hi + 1 ≤ 60 → M w j lo hi ≤ M w j lo (hi + 1)
  | N, j, lo, hi, h, h1, h2 => by
    by_cases c : lo = hi
    · subst c
      rw [M_r]
      exact Nat.zero_le _
    cases N with
    | zero => omega
    | succ N =>
      rcases M_or (w := w) (j := j) (show lo < hi + 1 by omega) h2 with e | ⟨hj, k, k1, k2, -, e⟩
      · rw [e]
        exact M_lez _ hw h1 (by omega)
      · have hW := Wt_mono w (lo := lo) (hi := hi)
        by_cases ck : k ≤ hi
        · have m := M_l hw hj k1 ck (by omega)
          have b := M_up hw N j k hi (by omega) (by omega) h2
          omega
        · have ek : k = hi + 1 := by omega
          subst ek
          have a := M_jar hw (hi - lo) (j - 1) lo hi (Nat.le_refl _) h1 (by omega)
          rw [show j - 1 + 1 = j by omega] at a
          rw [show hi + 1 - 1 = hi by omega] at e
          omega
theorem M_ups {w : Nat → Nat} (hw : ∀ h : Nat, h ≤ 60 → w h ≤ 9) (j : Nat) {lo hi hi' : Nat} (h : hi ≤ hi') (h1 : lo ≤ hi) (h2 : hi' ≤ 60) : M w j lo hi ≤ M w j lo hi' := by
  induction h with
  | refl => exact Nat.le_refl _
  | @step m h ih =>
    have hm : hi ≤ m := h
    have h2 : m + 1 ≤ 60 := h2
    exact Nat.le_trans (ih (by omega)) (M_up hw (m - lo) j lo m (Nat.le_refl _) (by omega) h2)
/-- only the weights of the span count -/
theorem psm_cg {w w' : Nat → Nat} {lo : Nat} : ∀ n : Nat, (∀ h : Nat, lo ≤ h → h < lo + n → w h = w' h) → psm w (lo + n) - psm w lo = psm w' (lo + n) - psm w' lo
  | 0, _ => by
    rw [Nat.add_zero]
    omega
  | n + 1, h => by
    have ih := psm_cg n (fun k h1 h2 => h k h1 (by omega))
    have e := h (lo + n) (by omega) (by omega)
    have m1 := psm_mono w (show lo ≤ lo + n by omega)
    have m2 := psm_mono w' (show lo ≤ lo + n by omega)
    show psm w (lo + n) + w (lo + n) - _ = psm w' (lo + n) + w' (lo + n) - _
    omega
theorem Wt_cg {w w' : Nat → Nat} {lo hi : Nat} (hl : lo ≤ hi) (h : ∀ k : Nat, lo ≤ k → k ≤ hi → w k = w' k) : Wt w lo hi = Wt w' lo hi := by
  have := psm_cg (w := w) (w' := w') (lo := lo) (hi + 1 - lo) (fun k h1 h2 => h k h1 (by omega))
  rw [show lo + (hi + 1 - lo) = hi + 1 by omega] at this
  exact this
theorem M_cg {w w' : Nat → Nat} : ∀ (N j lo hi : Nat), hi - lo ≤ N → lo ≤ hi → hi ≤ 60 → (∀ k : Nat, lo ≤ k → k ≤ hi → w k = w' k) → M w j lo hi = M w' j lo hi ∧ (lo < hi → BM w j lo hi = BM w' j lo hi)
  | 0, j, lo, hi, h, h1, _, _ => by
    have : lo = hi := by omega
    subst this
    exact ⟨by rw [M_r, M_r], fun c => absurd c (Nat.lt_irrefl _)⟩
  | N + 1, j, lo, hi, h, h1, h2, hc => by
    by_cases c : lo = hi
    · subst c
      exact ⟨by rw [M_r, M_r], fun c => absurd c (Nat.lt_irrefl _)⟩
    have eB : BM w j lo hi = BM w' j lo hi := by
      unfold BM
      refine bst_cg fun i i1 i2 => .inl ?_
      unfold fM
      rw [(M_cg N (j - 1) lo (lo + i - 1) (by omega) (by omega) (by omega) (fun k k1 k2 => hc k k1 (by omega))).1, (M_cg N j (lo + i) hi (by omega) (by omega) h2 (fun k k1 k2 => hc k (by omega) k2)).1]
    refine ⟨?_, fun _ => eB⟩
    rw [M_eq w j (by omega) h2, M_eq w' j (by omega) h2, eB, Wt_cg h1 hc]
/-- weights of one each: the ladder's plans -/
theorem bst_sh {f g : Nat → Nat} {c : Nat} : ∀ n : Nat, (∀ k : Nat, 1 ≤ k → k ≤ n → (zF ≤ f k ∧ zF ≤ g k) ∨ (g k = f k + c ∧ g k < zF)) → (bst zF g n).2 = (bst zF f n).2 ∧ (bst zF g n).1 = (if (bst zF f n).1 < zF then (bst zF f n).1 + c else zF) ∧ ((bst zF f n).1 < zF → (bst zF f n).1 + c < zF)
  | 0, _ => by
    refine ⟨rfl, ?_, fun h => absurd h (Nat.lt_irrefl _)⟩
    show zF = if zF < zF then zF + c else zF
    rw [if_neg (Nat.lt_irrefl _)]
  | n + 1, h => by
    obtain ⟨i1, i2, i3⟩ := bst_sh n (fun k k1 k2 => h k k1 (by omega))
    have l := bst_le zF f n
    rcases h (n + 1) (by omega) (Nat.le_refl _) with ⟨a, b⟩ | ⟨a, b⟩
    · have lg := bst_le zF g n
      rw [bst_n (f := f) (by omega), bst_n (f := g) (by omega)]
      exact ⟨i1, i2, i3⟩
    · by_cases cf : f (n + 1) < (bst zF f n).1
      · have cg : g (n + 1) < (bst zF g n).1 := by
          rw [i2]
          split
          · omega
          · omega
        rw [bst_y cf, bst_y cg]
        refine ⟨rfl, ?_, fun _ => by show f (n + 1) + c < zF; omega⟩
        show g (n + 1) = if f (n + 1) < zF then f (n + 1) + c else zF
        rw [if_pos (by omega), a]
      · have cg : ¬ g (n + 1) < (bst zF g n).1 := by
          rw [i2]
          split
          · omega
          · omega
        rw [bst_n cf, bst_n cg]
        exact ⟨i1, i2, i3⟩
abbrev gE : Nat → Nat → Nat → Nat := gl true 1 0
theorem psm_1 : ∀ n : Nat, psm (fun _ => 1) n = n
  | 0 => rfl
  | n + 1 => by
    show psm (fun _ => 1) n + 1 = n + 1
    rw [psm_1 n]
theorem Wt_1 {lo hi : Nat} (h : lo ≤ hi) : Wt (fun _ => 1) lo hi = hi - lo + 1 := by
  unfold Wt
  rw [psm_1, psm_1]
  omega
theorem M_1 : ∀ (N j lo hi : Nat), hi - lo ≤ N → lo ≤ hi → hi ≤ 60 → M (fun _ => 1) j lo hi = lT gE j (hi - lo + 1) ∧ (lo < hi → (BM (fun _ => 1) j lo hi).2 = (lB gE j (hi - lo + 1)).2)
  | N, j, lo, hi, h, h1, h2 => by
    have hz := zF_e
    by_cases c : lo = hi
    · subst c
      rw [M_r, show lo - lo + 1 = 1 by omega, lT_1]
      exact ⟨rfl, fun c => absurd c (Nat.lt_irrefl _)⟩
    cases N with
    | zero => omega
    | succ N =>
      have key := bst_sh (f := fM (fun _ => 1) j lo hi) (g := lf gE j (hi - lo + 1)) (c := hi - lo + 1) (hi - lo) (fun k k1 k2 => by
        unfold fM lf
        by_cases hj : j = 0
        · rw [if_pos hj, if_pos hj]
          exact .inl ⟨Nat.le_refl _, Nat.le_refl _⟩
        rw [if_neg hj, if_neg hj, (M_1 N (j - 1) lo (lo + k - 1) (by omega) (by omega) (by omega)).1, (M_1 N j (lo + k) hi (by omega) (by omega) h2).1, show lo + k - 1 - lo + 1 = k by omega, show hi - (lo + k) + 1 = hi - lo + 1 - k by omega]
        have s1 : lT gE (j - 1) k < zF → lT gE (j - 1) k ≤ 20000 := lT_20k (t := true) (d := 1) (p := 0) (by decide) (by decide) (j := j - 1) (m := k) k1 (by omega)
        have s2 : lT gE j (hi - lo + 1 - k) < zF → lT gE j (hi - lo + 1 - k) ≤ 20000 := lT_20k (t := true) (d := 1) (p := 0) (by decide) (by decide) (j := j) (m := hi - lo + 1 - k) (by omega) (by omega)
        have z1 := lT_le gE (j - 1) (m := k) k1 (by omega)
        have z2 := lT_le gE j (m := hi - lo + 1 - k) (by omega) (by omega)
        show (zF ≤ ad _ _ ∧ zF ≤ gl true 1 0 _ _ _) ∨ (gl true 1 0 _ _ _ = _ ∧ gl true 1 0 _ _ _ < zF)
        unfold ad gl
        by_cases cc : lT gE (j - 1) k < zF ∧ lT gE j (hi - lo + 1 - k) < zF
        · have s1 := s1 cc.1
          have s2 := s2 cc.2
          rw [if_pos cc, if_pos (by show lT gE _ _ + lT gE _ _ < zF; omega), if_pos rfl]
          right
          constructor <;> omega
        · left
          rw [if_neg cc, if_neg (by omega)]
          exact ⟨Nat.le_refl _, Nat.le_refl _⟩)
      have e61 : hi - lo + 1 - 1 = hi - lo := by omega
      have eB : lB gE j (hi - lo + 1) = bst zF (lf gE j (hi - lo + 1)) (hi - lo) := by
        unfold lB
        rw [if_neg (by omega), e61]
      refine ⟨?_, fun _ => ?_⟩
      · rw [M_eq _ j (by omega) h2, lT_eq gE j (by omega) (by omega), eB, key.2.1, Wt_1 h1]
        rfl
      · rw [eB, key.1]
        rfl

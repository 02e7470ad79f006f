/-! the tower -/
/-- within what is asked of the value of number k -/
def OKv (k v : Nat) : Prop := (if k = 0 then 1 else 0) ≤ v ∧ v ≤ if k = 0 then 60 else if k = 1 then 6 else 99
def RT (T V : ST) : Prop := ∃ (d n : Nat) (val w b a : Nat → Nat), d + n ≤ 40 ∧ gI T 4 = nI d ∧ gI V 5 = nI d ∧ gI T 5 = nI (d + n) ∧ gI V 6 = nI n ∧ (∀ k : Nat, k < 4 → gA T 0 k = nI (val k) ∧ gI V (k + 1) = nI (val k) ∧ OKv k (val k)) ∧ ∀ i : Nat, i < d + n → w i < 4 ∧ gA T 1 i = nI (w i) ∧ gA V 7 i = nI (w i) ∧ gA T 2 i = nI (b i) ∧ gA V 9 i = nI (b i) ∧ OKv (w i) (b i) ∧ gA T 3 i = nI (a i) ∧ gA V 10 i = nI (a i) ∧ OKv (w i) (a i)
theorem OKv_lt {k v : Nat} (h : OKv k v) : v < 100 := by
  have h2 := h.2
  have : (if k = 0 then 60 else if k = 1 then 6 else 99) ≤ 99 := by split <;> (try split) <;> omega
  omega
theorem zvalueAt {w : Nat} (hw : w < 4) {y : Int32} {V : ST} {Q : Int32 → ST → Prop} (h : Q (gI V (w + 1)) V) : wp_X12_valueAt (nI w) y V Q := by
  unfold wp_X12_valueAt wp_X12_valueAt_p39
  match w, hw with
  | 0, _ => exact ⟨fun c => absurd rfl c, fun _ => h⟩
  | 1, _ => exact ⟨fun _ => ⟨fun c => absurd rfl c, fun _ => h⟩, fun c => absurd c (by decide)⟩
  | 2, _ => exact ⟨fun _ => ⟨fun _ => ⟨fun c => absurd rfl c, fun _ => h⟩, fun c => absurd c (by decide)⟩, fun c => absurd c (by decide)⟩
  | 3, _ => exact ⟨fun _ => ⟨fun _ => ⟨fun _ => h, fun c => absurd c (by decide)⟩, fun c => absurd c (by decide)⟩, fun c => absurd c (by decide)⟩
theorem zlays {w : Nat} (hw : w < 4) {y v : Int32} {V : ST} {Q : ST → Prop} (h : Q (sI V (w + 1) v)) : wp_X12_lays (nI w) y v V Q := by
  unfold wp_X12_lays wp_X12_lays_p43
  match w, hw with
  | 0, _ => exact ⟨fun c => absurd rfl c, fun _ => by rintro _ rfl; exact h⟩
  | 1, _ => exact ⟨fun _ => ⟨fun c => absurd rfl c, fun _ => by rintro _ rfl; exact h⟩, fun c => absurd c (by decide)⟩
  | 2, _ => exact ⟨fun _ => ⟨fun _ => ⟨fun c => absurd rfl c, fun _ => by rintro _ rfl; exact h⟩, fun c => absurd c (by decide)⟩, fun c => absurd c (by decide)⟩
  | 3, _ => exact ⟨fun _ => ⟨fun _ => ⟨fun _ => by rintro _ rfl; exact h, fun c => absurd c (by decide)⟩, fun c => absurd c (by decide)⟩, fun c => absurd c (by decide)⟩
/-- fits: asked on both sides -/
theorem zfits {a1 a2 : Int32} {u : ST} {Q : Int32 → ST → Prop} (h1 : ∀ w v : Nat, a1 = nI w → a2 = nI v → w < 4 → OKv w v → Q 1 u) (h0 : (∀ w v : Nat, a1 = nI w → a2 = nI v → w < 4 → ¬ OKv w v) → Q 0 u) : wp_X8_fits a1 a2 u Q := by
  unfold wp_X8_fits wp_X8_fits_p30 wp_X8_fits_p31
  refine zwithin (fun p q => ⟨fun c => absurd c (by decide), fun _ => ?_⟩) (fun p => ⟨fun _ => ⟨by decide, h0 ?_⟩, fun c => absurd rfl c⟩)
  · obtain ⟨w, hw, rfl⟩ := nI_of p
    have hw4 : w < 4 := by
      have := mt (nI_ltI (a := 3) (b := w) (by decide) hw).mpr q
      omega
    have eL : xLEAST w = nI (if w = 0 then 1 else 0) := by
      match w, hw4 with
      | 0, _ => rfl
      | 1, _ => rfl
      | 2, _ => rfl
      | 3, _ => rfl
    have eM : xMOST w = nI (if w = 0 then 60 else if w = 1 then 6 else 99) := by
      match w, hw4 with
      | 0, _ => rfl
      | 1, _ => rfl
      | 2, _ => rfl
      | 3, _ => rfl
    refine ⟨nI_in hw4 (by decide), ?_⟩
    rintro _ rfl
    refine ⟨nI_in hw4 (by decide), ?_⟩
    rintro _ rfl
    rw [nI_clamp hw, eL, eM]
    refine zwithin (fun p2 q2 => ⟨fun c => absurd c (by decide), fun _ => ⟨by decide, ?_⟩⟩) (fun p2 => ⟨fun _ => ⟨by decide, h0 ?_⟩, fun c => absurd rfl c⟩)
    · have h0 : ¬ a2 < 0 := by
        intro c
        refine p2 (Int32.lt_iff_toInt_lt.mpr ?_)
        rw [nI_toInt (by split <;> omega)]
        have := Int32.lt_iff_toInt_lt.mp c
        have e0 : (0 : Int32).toInt = 0 := by decide
        omega
      obtain ⟨v, hv, rfl⟩ := nI_of h0
      refine h1 w v rfl rfl hw4 ⟨?_, ?_⟩
      · exact Nat.le_of_not_lt (mt (nI_ltI hv (by split <;> omega)).mpr p2)
      · exact Nat.le_of_not_lt (mt (nI_ltI (by split <;> (try split) <;> omega) hv).mpr q2)
    · rintro w' v e1 rfl h4 ⟨k1, k2⟩
      have := (nI_eq hw (by omega)).mp e1
      subst this
      have hv : v < 2 ^ 31 := by
        have : v < 100 := OKv_lt ⟨k1, k2⟩
        omega
      rcases p2 with p2 | p2
      · have := (nI_ltI hv (by split <;> omega)).mp p2
        omega
      · have := (nI_ltI (by split <;> (try split) <;> omega) hv).mp p2
        omega
  · rintro w v rfl rfl h4 _
    rcases p with p | p
    · exact nI_pos (by omega) p
    · have := (nI_ltI (a := 3) (b := w) (by decide) (by omega)).mp p
      omega
def shl (f : Nat → Int32) (i : Nat) : Nat → Int32 := fun j => if j + 1 < i then f (j + 1) else f j
theorem shl_1 (f : Nat → Int32) : shl f 1 = f := funext fun j => by simp [shl]
theorem shl_s (f : Nat → Int32) (i : Nat) : upd (shl f (i + 1)) i (shl f (i + 1) (i + 1)) = shl f (i + 2) := funext fun j => by
  by_cases h : j = i
  · subst h
    rw [pk_us]
    unfold shl
    rw [if_neg (by omega), if_pos (by omega)]
  · rw [pk_un h]
    unfold shl
    by_cases h2 : j + 1 < i + 1
    · rw [if_pos h2, if_pos (by omega)]
    · rw [if_neg h2, if_neg (by omega)]
theorem sA_sA (u : ST) (k : Nat) (x y : Nat → Int32) : sA (sA u k x) k y = sA u k y := by
  unfold sA mu
  refine Prod.ext rfl (Prod.ext (funext fun j => ?_) rfl)
  show (if j = k then _ else if j = k then _ else _) = if j = k then _ else _
  split <;> rfl
theorem sI_sI (u : ST) (k : Nat) (x y : Int32) : sI (sI u k x) k y = sI u k y := by
  unfold sI mu
  refine Prod.ext (funext fun j => ?_) rfl
  show (if j = k then _ else if j = k then _ else _) = if j = k then _ else _
  split <;> rfl
theorem sA_cm (u : ST) {k l : Nat} (x y : Nat → Int32) (h : l ≠ k) : sA (sA u k x) l y = sA (sA u l y) k x := by
  unfold sA mu
  refine Prod.ext rfl (Prod.ext (funext fun j => ?_) rfl)
  show (if j = l then _ else if j = k then _ else _) = if j = k then _ else if j = l then _ else _
  by_cases h1 : j = l
  · rw [if_pos h1, if_neg (by omega), if_pos h1]
  · rw [if_neg h1, if_neg h1]
theorem sA_self (u : ST) (k : Nat) : sA u k (gA u k) = u := by
  unfold sA mu gA
  refine Prod.ext rfl (Prod.ext (funext fun j => ?_) rfl)
  show (if j = k then u.2.1 k else u.2.1 j) = _
  split
  · rename_i e
    rw [e]
  · rfl
theorem zforget {T : ST} {Q : ST → Prop} (h : Q (sI (sA (sA (sA T 1 (shl (gA T 1) 40)) 2 (shl (gA T 2) 40)) 3 (shl (gA T 3) 40)) 4 (39 : Int32))) : wp_X8_forgetOldest T Q := by
  unfold wp_X8_forgetOldest wp_X8_forgetOldest_p2
  refine ⟨fun x u => ∃ i : Nat, i + 1 ≤ 40 ∧ x = nI (i + 1) ∧ u = sA (sA (sA T 1 (shl (gA T 1) (i + 1))) 2 (shl (gA T 2) (i + 1))) 3 (shl (gA T 3) (i + 1)), fun x _ => 40 - x.toNatClampNeg, ⟨0, by omega, rfl, ?_⟩, ?_⟩
  · rw [shl_1, shl_1, shl_1, sA_self, sA_self, sA_self]
  · rintro _ _ ⟨i, hi, rfl, rfl⟩
    unfold wp_X8_forgetOldest_p2b
    refine ⟨fun c => ?_, fun c => ?_⟩
    · have := (nI_leI (a := 40) (by decide) (by omega)).mp c
      have : i + 1 = 40 := by omega
      rintro _ rfl
      rw [this]
      exact h
    · have hlt : i + 1 < 40 := by
        have := mt (nI_leI (a := 40) (b := i + 1) (by decide) (by omega)).mpr c
        omega
      have ey : nI (i + 1) - 1 = nI i := nI_pred i
      rintro _ rfl
      refine ⟨nI_in hlt (by decide), ?_⟩
      rintro _ rfl
      rw [ey]
      refine ⟨nI_in (by omega) (by decide), ?_⟩
      rintro _ rfl _ rfl
      refine ⟨nI_in hlt (by decide), ?_⟩
      rintro _ rfl
      refine ⟨nI_in (by omega) (by decide), ?_⟩
      rintro _ rfl _ rfl
      refine ⟨nI_in hlt (by decide), ?_⟩
      rintro _ rfl
      refine ⟨nI_in (by omega) (by decide), ?_⟩
      rintro _ rfl _ rfl
      refine ⟨⟨i + 1, by omega, nI_1 _, ?_⟩, ?_⟩
      · rw [nI_clamp (by omega), nI_clamp (by omega)]
        simp only [gI_sI, gI_sI', gI_sA, gI_sJ, gI_sG, gA_sA, gA_sA', gA_sI, gA_sJ, gA_sG, gJ_sJ, gJ_sJ', gJ_sI, gJ_sA, gJ_sG, gG_sG, gG_sG', gG_sI, gG_sA, gG_sJ, ne_eq, Nat.reduceEqDiff, Nat.succ_ne_zero, Nat.zero_ne_one, not_false_eq_true, reduceCtorEq]
        rw [shl_s, shl_s, shl_s]
        rw [sA_cm (sA _ _ _) (k := 3) (l := 1) _ _ (by decide), sA_cm (sA _ _ _) (k := 2) (l := 1) _ _ (by decide), sA_sA, sA_cm (sA _ _ _) (k := 3) (l := 2) _ _ (by decide), sA_sA, sA_sA]
      · show 40 - (nI (i + 1) + 1).toNatClampNeg < 40 - (nI (i + 1)).toNatClampNeg
        rw [nI_1, nI_clamp (by omega), nI_clamp (by omega)]
        omega

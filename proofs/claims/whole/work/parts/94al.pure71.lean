theorem cpy_0 {α : Type} (f g : Nat → α) (sp dp : Nat) : va_cpy f g sp dp 0 = g := funext fun j => pk_cpy_out (by omega)
theorem cpy_s (f g : Nat → Int64) (sp dp n : Nat) : vp_updL (va_cpy f g sp dp n) (dp + n) (f (sp + n)) = va_cpy f g sp dp (n + 1) := funext fun j => by
  by_cases c : j = dp + n
  · subst c
    rw [pk_uLs, pk_cpy_in (by omega) (by omega)]
    congr 1
    omega
  · rw [pk_uLn c]
    by_cases c2 : dp ≤ j ∧ j < dp + n
    · rw [pk_cpy_in c2.1 c2.2, pk_cpy_in c2.1 (by omega)]
    · rw [pk_cpy_out (by omega), pk_cpy_out (by omega)]
theorem zcpy2 {s o i j n : Nat} (hs : s < 6) (ho : o < 6) (hi : i + n ≤ 60) (hj : j + n ≤ 60) {V : ST} {Q : Int32 → ST → Prop} (f : Nat → Int64) (hf : ∀ k, k < n → gJ V 56 k = f (60 * s + i + k)) (h : Q (nI n) (sJ V 55 (va_cpy f (gJ V 55) (60 * s + i) (60 * o + j) n))) : wp_X12_shift_p150 (nI o) (nI j) (nI n) 0 V Q := by
  unfold wp_X12_shift_p150
  refine ⟨fun x3 x4 x5 x6 u => x3 = nI o ∧ x4 = nI j ∧ x5 = nI n ∧ ∃ k : Nat, k ≤ n ∧ x6 = nI k ∧ u = sJ V 55 (va_cpy f (gJ V 55) (60 * s + i) (60 * o + j) k), fun _ _ _ x6 _ => n - x6.toNatClampNeg, ⟨rfl, rfl, rfl, 0, by omega, rfl, by rw [cpy_0, sJ_self]⟩, ?_⟩
  rintro _ _ _ _ _ ⟨rfl, rfl, rfl, k, hk, rfl, rfl⟩
  unfold wp_X12_shift_p150b
  refine ⟨fun c => ?_, fun c => ?_⟩
  · have := (nI_leI (by omega) (by omega)).mp c
    have : k = n := by omega
    subst this
    exact h
  · have hlt : k < n := by
      have := mt (nI_leI (a := n) (b := k) (by omega) (by omega)).mpr c
      omega
    rw [show (60 : Int32) * nI o = nI (60 * o) from pk_mul 60 o]
    rintro _ rfl
    rw [nI_add]
    rintro _ rfl
    rw [nI_add]
    rintro _ rfl
    refine ⟨nI_in (by omega) (by decide), ?_⟩
    rintro _ rfl
    refine ⟨nI_in (by omega) (by decide), ?_⟩
    rintro _ rfl _ rfl
    rw [nI_clamp (by omega), nI_clamp (by omega), nI_1]
    refine ⟨⟨rfl, rfl, rfl, k + 1, by omega, rfl, ?_⟩, ?_⟩
    · simp only [gI_sI, gI_sI', gI_sA, gI_sJ, gI_sG, gA_sA, gA_sA', gA_sI, gA_sJ, gA_sG, gJ_sJ, gJ_sJ', gJ_sI, gJ_sA, gJ_sG, gG_sG, gG_sG', gG_sI, gG_sA, gG_sJ, ne_eq, Nat.reduceEqDiff, Nat.succ_ne_zero, Nat.zero_ne_one, not_false_eq_true, reduceCtorEq]
      rw [sJ_sJ, hf k hlt, cpy_s]
    · show n - (nI (k + 1)).toNatClampNeg < n - (nI k).toNatClampNeg
      rw [nI_clamp (by omega), nI_clamp (by omega)]
      omega
theorem zcpy1 {s o i j n : Nat} (hs : s < 6) (ho : o < 6) (hi : i + n ≤ 60) (hj : j + n ≤ 60) {V : ST} {Q : Int32 → ST → Prop} (h : ∀ g : Nat → Int64, Q (nI n) (sJ (sJ V 56 g) 55 (va_cpy (gJ V 55) (gJ V 55) (60 * s + i) (60 * o + j) n))) : wp_X12_shift_p113 (nI s) (nI i) (nI o) (nI j) (nI n) 0 V Q := by
  unfold wp_X12_shift_p113
  refine ⟨fun x1 x2 x3 x4 x5 x6 u => x1 = nI s ∧ x2 = nI i ∧ x3 = nI o ∧ x4 = nI j ∧ x5 = nI n ∧ ∃ k : Nat, k ≤ n ∧ x6 = nI k ∧ u = sJ V 56 (va_cpy (gJ V 55) (gJ V 56) (60 * s + i) 0 k), fun _ _ _ _ _ x6 _ => n - x6.toNatClampNeg, ⟨rfl, rfl, rfl, rfl, rfl, 0, by omega, rfl, by rw [cpy_0, sJ_self]⟩, ?_⟩
  rintro _ _ _ _ _ _ _ ⟨rfl, rfl, rfl, rfl, rfl, k, hk, rfl, rfl⟩
  unfold wp_X12_shift_p113b
  refine ⟨fun c => ?_, fun c => ?_⟩
  · have := (nI_leI (by omega) (by omega)).mp c
    have : k = n := by omega
    subst this
    refine zcpy2 (s := s) (i := i) hs ho hi hj (gJ V 55) (fun q hq => ?_) ?_
    · rw [gJ_sJ, pk_cpy_in (by omega) (by omega)]
      rfl
    · simp only [gI_sI, gI_sI', gI_sA, gI_sJ, gI_sG, gA_sA, gA_sA', gA_sI, gA_sJ, gA_sG, gJ_sJ, gJ_sJ', gJ_sI, gJ_sA, gJ_sG, gG_sG, gG_sG', gG_sI, gG_sA, gG_sJ, ne_eq, Nat.reduceEqDiff, Nat.succ_ne_zero, Nat.zero_ne_one, not_false_eq_true, reduceCtorEq]
      exact h _
  · have hlt : k < n := by
      have := mt (nI_leI (a := n) (b := k) (by omega) (by omega)).mpr c
      omega
    rw [show (60 : Int32) * nI s = nI (60 * s) from pk_mul 60 s]
    rintro _ rfl
    rw [nI_add]
    rintro _ rfl
    rw [nI_add]
    rintro _ rfl
    refine ⟨nI_in (by omega) (by decide), ?_⟩
    rintro _ rfl
    refine ⟨nI_in (by omega) (by decide), ?_⟩
    rintro _ rfl _ rfl
    rw [nI_clamp (by omega), nI_clamp (by omega), nI_1]
    refine ⟨⟨rfl, rfl, rfl, rfl, rfl, k + 1, by omega, rfl, ?_⟩, ?_⟩
    · simp only [gI_sI, gI_sI', gI_sA, gI_sJ, gI_sG, gA_sA, gA_sA', gA_sI, gA_sJ, gA_sG, gJ_sJ, gJ_sJ', gJ_sI, gJ_sA, gJ_sG, gG_sG, gG_sG', gG_sI, gG_sA, gG_sJ, ne_eq, Nat.reduceEqDiff, Nat.succ_ne_zero, Nat.zero_ne_one, not_false_eq_true, reduceCtorEq]
      have := cpy_s (gJ V 55) (gJ V 56) (60 * s + i) 0 k
      rw [Nat.zero_add] at this
      rw [sJ_sJ, this]
    · show n - (nI (k + 1)).toNatClampNeg < n - (nI k).toNatClampNeg
      rw [nI_clamp (by omega), nI_clamp (by omega)]
      omega
theorem so_neg {so : Nat} (h : so < 5) : ¬ (-2 - nI so : Int32) = -1 ∧ (-2 - nI so : Int32) < 0 ∧ ¬ 0 ≤ (-2 - nI so : Int32) := by
  rcases (show so = 0 ∨ so = 1 ∨ so = 2 ∨ so = 3 ∨ so = 4 by omega) with e | e | e | e | e <;> rw [e] <;> decide
theorem so_inj {so so' : Nat} (h : so < 5) (h' : so' < 5) (e : (-2 - nI so : Int32) = -2 - nI so') : so = so' := by
  rcases (show so = 0 ∨ so = 1 ∨ so = 2 ∨ so = 3 ∨ so = 4 by omega) with q | q | q | q | q <;> rcases (show so' = 0 ∨ so' = 1 ∨ so' = 2 ∨ so' = 3 ∨ so' = 4 by omega) with q' | q' | q' | q' | q' <;> rw [q, q'] at e ⊢ <;> first | rfl | exact absurd e (by decide)

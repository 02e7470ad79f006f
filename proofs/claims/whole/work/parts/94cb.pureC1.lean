/-! the class's means -/
def tri (n : Nat) : Nat := n * (n + 1) / 2
theorem tri_s (n : Nat) : tri (n + 1) = tri n + (n + 1) := by
  unfold tri
  have e : (n + 1) * (n + 1 + 1) = n * (n + 1) + (n + 1) + (n + 1) := by
    rw [Nat.mul_add (n + 1) (n + 1) 1, Nat.add_mul n 1 (n + 1), Nat.one_mul, Nat.mul_one]
  rw [e]
  omega
theorem tri_mono {a b : Nat} (h : a ≤ b) : tri a ≤ tri b := by
  induction h with
  | refl => exact Nat.le_refl _
  | step _ ih =>
    rw [tri_s]
    omega
theorem tri_60 : tri 60 = 1830 := by decide
def pl (lo hi : Nat) : Nat := tri hi + lo
theorem pl_lt {lo hi : Nat} (h : lo ≤ hi) (h2 : hi ≤ 60) : pl lo hi < 1891 := by
  have := tri_mono h2
  have := tri_60
  unfold pl
  omega
theorem pl_inj {lo hi lo' hi' : Nat} (h : lo ≤ hi) (h' : lo' ≤ hi') (e : pl lo hi = pl lo' hi') : lo = lo' ∧ hi = hi' := by
  unfold pl at e
  have : hi = hi' := by
    rcases Nat.lt_trichotomy hi hi' with c | c | c
    · have := tri_mono (show hi + 1 ≤ hi' from c)
      rw [tri_s] at this
      omega
    · exact c
    · have := tri_mono (show hi' + 1 ≤ hi from c)
      rw [tri_s] at this
      omega
  subst this
  omega
theorem zplc {lo hi : Nat} (h2 : hi ≤ 60) {Q : Int32 → Prop} (hq : Q (nI (pl lo hi))) : wp_X4_placeOf (nI lo) (nI hi) Q := by
  unfold wp_X4_placeOf
  have hm : hi * (hi + 1) ≤ 60 * 61 := Nat.mul_le_mul h2 (by omega)
  rw [show nI hi + (1 : Int32) = nI (hi + 1) from nI_1 hi]
  rintro _ rfl
  rw [pk_mul]
  rintro _ rfl
  refine ⟨by decide, ?_⟩
  rw [show nI (hi * (hi + 1)) / (2 : Int32) = nI (hi * (hi + 1) / 2) from pk_div (by omega) (by decide) (by decide)]
  rintro _ rfl
  rw [nI_add]
  rintro _ rfl
  exact hq
def okw (w : Nat → Nat) : Prop := ∀ h : Nat, h ≤ 60 → w h ≤ 9
def CM (m : ST) (w : Nat → Nat) (j lo hi : Nat) : Prop := gG m 2 j (pl lo hi) = nI (cN (M w j lo hi))
def FM (m : ST) (w : Nat → Nat) (j lo hi : Nat) : Prop := gG m 3 j (pl lo hi) = nI (lo + (BM w j lo hi).2)
theorem BM_fin {w : Nat → Nat} (hw : okw w) {j lo hi : Nat} (hj : j ≠ 0) (h : lo < hi) (h2 : hi ≤ 60) : (BM w j lo hi).1 < zF ∧ (BM w j lo hi).1 + Wt w lo hi = M w j lo hi ∧ 0 < (BM w j lo hi).2 := by
  have hz := zF_e
  have m := M_fin hw (hi - lo) j lo hi (Nat.le_refl _) (by omega) h2 hj
  have e := M_eq w j h h2
  by_cases c : (BM w j lo hi).1 < zF
  · rw [if_pos c] at e
    refine ⟨c, e.symm, ?_⟩
    rcases bst_at zF (fM w j lo hi) (hi - lo) with ⟨-, q⟩ | ⟨p, -, -⟩
    · have q : (BM w j lo hi).1 = zF := q
      omega
    · exact p
  · rw [if_neg c] at e
    omega
/-- one cell is worked out -/
def putM (m m' : ST) (w : Nat → Nat) (j lo hi : Nat) : Prop := Ag [2, 3] m' m ∧ (∀ j' p : Nat, ¬ (j' = j ∧ p = pl lo hi) → gG m' 2 j' p = gG m 2 j' p ∧ gG m' 3 j' p = gG m 3 j' p) ∧ CM m' w j lo hi ∧ (j ≠ 0 → lo < hi → FM m' w j lo hi)
theorem zfillM {w : Nat → Nat} (hw : okw w) {m : ST} {j lo hi : Nat} (hj : j ≠ 0) (h : lo < hi) (h2 : hi ≤ 60) (hs : ∀ k : Nat, k ≤ hi + 1 → gA m 1 k = nI (psm w k)) (hf : ∀ k : Nat, lo < k → k ≤ hi → CM m w (j - 1) lo (k - 1) ∧ CM m w j k hi) {Q : ST → Prop} (hq : ∀ m' : ST, putM m m' w j lo hi → Q m') : wp_X4_fill (j - 1) j j (nI lo) (nI hi) m Q := by
  have hz := zF_e
  have hpl := pl_lt (show lo ≤ hi by omega) h2
  unfold wp_X4_fill
  refine zplc h2 ?_
  rw [nI_1]
  rintro _ rfl
  unfold wp_X4_fill_p19
  refine ⟨fun x4 x5 x6 x7 x8 u => x4 = nI lo ∧ x5 = nI hi ∧ x7 = nI (pl lo hi) ∧ ∃ n : Nat, n ≤ hi - lo ∧ x8 = nI (lo + 1 + n) ∧ x6 = nI (cN (bst zF (fM w j lo hi) n).1) ∧ Ag [3] u m ∧ (∀ j' p : Nat, ¬ (j' = j ∧ p = pl lo hi) → gG u 3 j' p = gG m 3 j' p) ∧ (0 < (bst zF (fM w j lo hi) n).2 → gG u 3 j (pl lo hi) = nI (lo + (bst zF (fM w j lo hi) n).2)), fun _ _ _ _ x8 _ => 100 - x8.toNatClampNeg, ⟨rfl, rfl, rfl, 0, Nat.zero_le _, rfl, rfl, Ag_r _ _, fun _ _ _ => rfl, fun c => absurd c (Nat.lt_irrefl 0)⟩, ?_⟩
  rintro _ _ _ _ _ u ⟨rfl, rfl, rfl, n, hn, rfl, rfl, hA, hu1, hu2⟩
  unfold wp_X4_fill_p19b wp_X4_fill_p80 wp_X4_fill_p86
  have e1 : gA u 1 = gA m 1 := Ag_A hA 1 (by decide)
  have e2 : gG u 2 = gG m 2 := Ag_G hA 2 (by decide)
  have hle : (bst zF (fM w j lo hi) n).1 ≤ zF := bst_le _ _ _
  have hbb := cN_b (bst zF (fM w j lo hi) n).1
  have hps := psm_le hw (hi + 1) (by omega)
  have hpl2 := psm_mono w (show lo ≤ hi + 1 by omega)
  obtain ⟨f1, f2, f3⟩ := BM_fin hw hj h h2
  have hMs := M_fin hw (hi - lo) j lo hi (Nat.le_refl _) (by omega) h2 hj
  -- it ends with the best so far
  have fin : bst zF (fM w j lo hi) n = BM w j lo hi → (∀ y98 : Int32, y98 = nI hi + (1 : Int32) → (vp_in y98 62 ∧ ∀ y99 : Int32, y99 = gA u 1 y98.toNatClampNeg → (∀ y100 : Int32, y100 = nI (cN (bst zF (fM w j lo hi) n).1) + y99 → (vp_in (nI lo) 62 ∧ ∀ y107 : Int32, y107 = gA u 1 (nI lo).toNatClampNeg → (∀ y108 : Int32, y108 = y100 - y107 → (vp_in (nI (pl lo hi)) 1891 ∧ ∀ u109 : ST, u109 = sG u 2 (mu (gG u 2) j (upd (gG u 2 j) (nI (pl lo hi)).toNatClampNeg y108)) → Q u109)))))) := by
    intro e
    rw [e, cN_f f1, e1]
    rw [nI_1]
    rintro _ rfl
    refine ⟨nI_in (by omega) (by decide), ?_⟩
    rw [nI_clamp (by omega), hs (hi + 1) (Nat.le_refl _)]
    rintro _ rfl
    rw [nI_add]
    rintro _ rfl
    refine ⟨nI_in (by omega) (by decide), ?_⟩
    rw [nI_clamp (by omega), hs lo (by omega)]
    rintro _ rfl
    rw [nI_sub (by omega), show (BM w j lo hi).1 + psm w (hi + 1) - psm w lo = M w j lo hi by rw [← f2]; unfold Wt; omega]
    rintro _ rfl
    refine ⟨nI_in hpl (by decide), ?_⟩
    rintro _ rfl
    rw [nI_clamp (by omega)]
    refine hq _ ⟨Ag_sG (Ag_m hA (by decide)) (by decide) _, fun j' p hne => ⟨?_, hu1 j' p hne⟩, ?_, fun _ _ => ?_⟩
    · show mu (gG u 2) j (upd (gG u 2 j) (pl lo hi) (nI (M w j lo hi))) j' p = _
      rw [e2]
      by_cases cj : j' = j
      · subst cj
        rw [mu_at, pk_un (fun e => hne ⟨rfl, e⟩)]
      · rw [mu_ne _ _ cj]
    · show mu (gG u 2) j (upd (gG u 2 j) (pl lo hi) (nI (M w j lo hi))) j (pl lo hi) = _
      rw [mu_at, pk_us, cN_f (by omega)]
    · show gG u 3 j (pl lo hi) = _
      rw [e] at hu2
      exact hu2 f3
  refine ⟨fun c => fin ?_, fun c => ?_⟩
  · have := (nI_ltI (by omega) (by omega)).mp c
    unfold BM
    rw [show n = hi - lo by omega]
  have hlt : lo + 1 + n ≤ hi := by
    have := mt (nI_ltI (a := hi) (b := lo + 1 + n) (by omega) (by omega)).mpr c
    omega
  obtain ⟨c1, c2⟩ := hf (lo + 1 + n) (by omega) hlt
  rw [show lo + 1 + n - 1 = lo + n by omega] at c1
  have bl := M_lez (w := w) (j - 1) hw (show lo ≤ lo + n by omega) (by omega)
  have sl := M_lez (w := w) j hw hlt h2
  have hfn : fM w j lo hi (n + 1) = ad (M w (j - 1) lo (lo + n)) (M w j (lo + 1 + n) hi) := by
    unfold fM
    rw [if_neg hj, show lo + (n + 1) - 1 = lo + n by omega, show lo + (n + 1) = lo + 1 + n by omega]
  have hmu : 100 - (nI (lo + 1 + (n + 1))).toNatClampNeg < 100 - (nI (lo + 1 + n)).toNatClampNeg := by
    try dsimp only
    rw [nI_clamp (by omega), nI_clamp (by omega)]
    omega
  have eb := cN_b (M w (j - 1) lo (lo + n))
  have es := cN_b (M w j (lo + 1 + n) hi)
  have lb := cN_lt (M w (j - 1) lo (lo + n))
  have ls := cN_lt (M w j (lo + 1 + n) hi)
  have lx := cN_lt (bst zF (fM w j lo hi) n).1
  have kb := cN_cmp (b := M w (j - 1) lo (lo + n)) hle
  rw [show nI (lo + 1 + n) - (1 : Int32) = nI (lo + n) from by rw [show lo + 1 + n = lo + n + 1 by omega]; exact nI_pred _]
  rintro _ rfl
  refine zplc (by omega) ⟨nI_in (pl_lt (by omega) (by omega)) (by decide), ?_⟩
  rw [nI_clamp (n := pl lo (lo + n)) (by have := pl_lt (show lo ≤ lo + n by omega) (show lo + n ≤ 60 by omega); omega), show gG u 2 (j - 1) (pl lo (lo + n)) = nI (cN (M w (j - 1) lo (lo + n))) by rw [e2]; exact c1]
  rintro _ rfl
  refine ⟨fun c3 => ?_, fun c3 => fin ?_⟩
  · have c3 := (nI_ltI eb hbb).mp c3
    have hbf : M w (j - 1) lo (lo + n) < zF := by
      have := cN_cmp (a := M w (j - 1) lo (lo + n)) (b := zF) bl
      by_cases q : M w (j - 1) lo (lo + n) < zF
      · exact q
      · rw [cN_i q] at c3
        unfold cN at c3
        split at c3 <;> omega
    rw [cN_f hbf] at c3 ⊢
    have hbs : M w (j - 1) lo (lo + n) ≤ 549 * 60 := by
      rcases M_le w (j - 1) hw (lo + n - lo) (Nat.le_refl _) (show lo ≤ lo + n by omega) (by omega) with e | e <;> omega
    refine zplc h2 ⟨nI_in (pl_lt hlt h2) (by decide), ?_⟩
    rw [nI_clamp (n := pl (lo + 1 + n) hi) (by have := pl_lt hlt h2; omega), show gG u 2 j (pl (lo + 1 + n) hi) = nI (cN (M w j (lo + 1 + n) hi)) by rw [e2]; exact c2]
    rintro _ rfl
    rw [nI_add]
    rintro _ rfl
    have hcmp : cN (bst zF (fM w j lo hi) n).1 ≤ M w (j - 1) lo (lo + n) + cN (M w j (lo + 1 + n) hi) ↔ ¬ fM w j lo hi (n + 1) < (bst zF (fM w j lo hi) n).1 := by
      rw [hfn]
      unfold ad
      by_cases q : M w j (lo + 1 + n) hi < zF
      · have hss : M w j (lo + 1 + n) hi ≤ 549 * 60 := by
          rcases M_le w j hw (hi - (lo + 1 + n)) (Nat.le_refl _) hlt h2 with e | e <;> omega
        rw [cN_f q, if_pos (by omega)]
        unfold cN
        split <;> omega
      · rw [cN_i q, if_neg (by omega)]
        unfold cN
        split <;> omega
    have hcb : M w (j - 1) lo (lo + n) + cN (M w j (lo + 1 + n) hi) < 2 ^ 31 := by
      unfold cN
      split <;> omega
    rw [nI_leI hbb hcb, hcmp]
    refine ⟨fun c4 => ?_, fun c4 => ⟨nI_in hpl (by decide), ?_⟩⟩
    · rw [nI_1, show lo + 1 + n + 1 = lo + 1 + (n + 1) by omega]
      rintro _ rfl
      exact ⟨⟨rfl, rfl, rfl, n + 1, by omega, rfl, by rw [bst_n c4], hA, hu1, by rw [bst_n c4]; exact hu2⟩, hmu⟩
    · have c4 := Decidable.not_not.mp c4
      rintro _ rfl
      rw [nI_1, show lo + 1 + n + 1 = lo + 1 + (n + 1) by omega]
      rintro _ rfl
      rw [nI_clamp (n := pl lo hi) (by omega)]
      refine ⟨⟨rfl, rfl, rfl, n + 1, by omega, rfl, ?_, Ag_sG hA (by decide) _, fun j' p hne => ?_, fun _ => ?_⟩, hmu⟩
      · rw [bst_y c4]
        show _ = nI (cN (fM w j lo hi (n + 1)))
        rw [hfn] at c4 ⊢
        unfold ad at c4 ⊢
        by_cases q : M w (j - 1) lo (lo + n) + M w j (lo + 1 + n) hi < zF
        · rw [if_pos q, cN_f (by omega), cN_f q]
        · rw [if_neg q] at c4
          omega
      · show mu (gG u 3) j (upd (gG u 3 j) (pl lo hi) _) j' p = _
        by_cases cj : j' = j
        · subst cj
          rw [mu_at, pk_un (fun e => hne ⟨rfl, e⟩)]
          exact hu1 j' p hne
        · rw [mu_ne _ _ cj]
          exact hu1 j' p hne
      · show mu (gG u 3) j (upd (gG u 3 j) (pl lo hi) _) j (pl lo hi) = _
        rw [mu_at, pk_us, bst_y c4]
        show nI (lo + 1 + n) = nI (lo + (n + 1))
        rw [show lo + 1 + n = lo + (n + 1) by omega]
  · have hge : (bst zF (fM w j lo hi) n).1 ≤ M w (j - 1) lo (lo + n) := by
      have := kb.mp (Nat.le_of_not_lt (mt (nI_ltI eb hbb).mpr c3))
      omega
    unfold BM
    refine (bst_stop (by omega) fun k k1 k2 => Nat.le_trans hge ?_).symm
    unfold fM
    rw [if_neg hj]
    refine Nat.le_trans ?_ (ad_l (M_lez (j - 1) hw (by omega) (by omega)))
    exact M_ups hw (j - 1) (by omega) (by omega) (by omega)

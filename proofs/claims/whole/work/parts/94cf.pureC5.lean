def kM : List Nat := [22, 23, 28, 29, 30, 31]
theorem M_0 (w : Nat → Nat) {a b : Nat} (h : a < b) (h2 : b ≤ 60) : M w 0 a b = zF := by
  rcases M_or (w := w) (j := 0) h h2 with e | ⟨e, -⟩
  · exact e
  · exact absurd rfl e
/-- all the while: nothing else is touched, the weights stand -/
def bkM (w : Nat → Nat) (lo hi : Nat) (V X : ST) : Prop := Ag kM X V ∧ ∀ k : Nat, lo ≤ k → k ≤ hi + 1 → gA X 30 k = nI (psm w k - psm w lo)
theorem bkM_28 {w : Nat → Nat} {lo hi : Nat} {V X : ST} (h : bkM w lo hi V X) (f : Nat → Int32) : bkM w lo hi V (sA X 28 f) := ⟨Ag_sA h.1 (by decide) _, h.2⟩
theorem bkM_29 {w : Nat → Nat} {lo hi : Nat} {V X : ST} (h : bkM w lo hi V X) (f : Nat → Int32) : bkM w lo hi V (sA X 29 f) := ⟨Ag_sA h.1 (by decide) _, h.2⟩
theorem zlevel {w : Nat → Nat} (hw : okw w) {V : ST} {lo hi j : Nat} (hlo : lo ≤ hi) (h2 : hi ≤ 60) (hj : j ≤ 6) {X : ST} (hX : bkM w lo hi V X) (hS : ∀ a b : Nat, lo ≤ a → a ≤ b → b ≤ hi → SM X w 0 a b) {Q : Int32 → ST → Prop}
    (hq : ∀ V' : ST, bkM w lo hi V V' → (j ≠ 0 → lo < hi → gI V' 31 = nI (lo + (BM w j lo hi).2)) → Q (nI (M w j lo hi)) V') : wp_X12_meanOf_p72 (nI lo) (nI hi) (nI j) 1 X Q := by
  have hz := zF_e
  unfold wp_X12_meanOf_p72
  refine ⟨fun x1 x2 x3 x4 u => x1 = nI lo ∧ x2 = nI hi ∧ x3 = nI j ∧ ∃ l : Nat, 1 ≤ l ∧ l ≤ j + 1 ∧ x4 = nI l ∧ bkM w lo hi V u ∧ (∀ a b : Nat, lo ≤ a → a ≤ b → b ≤ hi → SM u w (l - 1) a b) ∧ (2 ≤ l → lo < hi → gI u 31 = nI (lo + (BM w (l - 1) lo hi).2)), fun _ _ _ x4 _ => 8 - x4.toNatClampNeg, ⟨rfl, rfl, rfl, 1, Nat.le_refl _, by omega, rfl, hX, hS, fun c => absurd c (by decide)⟩, ?_⟩
  rintro _ _ _ _ u ⟨rfl, rfl, rfl, l, l1, l2, rfl, hu, hSu, h31⟩
  unfold wp_X12_meanOf_p72b
  refine ⟨fun c => ?_, fun c => ?_⟩
  · have hl : l = j + 1 := by
      have := (nI_ltI (by omega) (by omega)).mp c
      omega
    subst hl
    have := hSu lo hi (Nat.le_refl _) hlo (Nat.le_refl _)
    rw [Nat.add_sub_cancel] at this h31
    refine zat ⟨nI_in (by omega) (by decide), ?_⟩
    rw [nI_clamp (by omega), show gA u 28 (61 * lo + hi) = _ from this]
    rintro _ rfl
    exact hq u hu (fun c1 c2 => h31 (by omega) c2)
  have hlj : l ≤ j := by
    have := mt (nI_ltI (a := j) (b := l) (by omega) (by omega)).mpr c
    omega
  -- the level before is laid aside
  unfold wp_X12_meanOf_p81
  refine ⟨fun x1 x2 x3 x4 x5 v => x1 = nI lo ∧ x2 = nI hi ∧ x3 = nI j ∧ x4 = nI l ∧ ∃ a0 : Nat, lo ≤ a0 ∧ a0 ≤ hi + 1 ∧ x5 = nI a0 ∧ bkM w lo hi V v ∧ (∀ a b : Nat, lo ≤ a → a ≤ b → b ≤ hi → SM v w (l - 1) a b) ∧ (∀ a b : Nat, lo ≤ a → a < a0 → a ≤ b → b ≤ hi → LM v w (l - 1) a b), fun _ _ _ _ x5 _ => 62 - x5.toNatClampNeg, ⟨rfl, rfl, rfl, rfl, lo, Nat.le_refl _, by omega, rfl, hu, hSu, fun a b h1 h2 => by omega⟩, ?_⟩
  rintro _ _ _ _ _ v ⟨rfl, rfl, rfl, rfl, a0, a1, a2, rfl, hv, hSv, hLv⟩
  unfold wp_X12_meanOf_p81b
  refine ⟨fun c2 => ?_, fun c2 => ?_⟩
  rotate_left
  · have ha0 : a0 ≤ hi := by
      have := mt (nI_ltI (a := hi) (b := a0) (by omega) (by omega)).mpr c2
      omega
    unfold wp_X12_meanOf_p91
    refine ⟨fun x1 x2 x3 x4 x5 x6 z => x1 = nI lo ∧ x2 = nI hi ∧ x3 = nI j ∧ x4 = nI l ∧ x5 = nI a0 ∧ ∃ b0 : Nat, a0 ≤ b0 ∧ b0 ≤ hi + 1 ∧ x6 = nI b0 ∧ bkM w lo hi V z ∧ (∀ a b : Nat, lo ≤ a → a ≤ b → b ≤ hi → SM z w (l - 1) a b) ∧ (∀ a b : Nat, lo ≤ a → (a < a0 ∨ a = a0 ∧ b < b0) → a ≤ b → b ≤ hi → LM z w (l - 1) a b), fun _ _ _ _ _ x6 _ => 62 - x6.toNatClampNeg, ⟨rfl, rfl, rfl, rfl, rfl, a0, Nat.le_refl _, a2, rfl, hv, hSv, fun a b h1 h2 h3 h4 => hLv a b h1 (by omega) h3 h4⟩, ?_⟩
    rintro _ _ _ _ _ _ z ⟨rfl, rfl, rfl, rfl, rfl, b0, b1, b2, rfl, hz1, hSz, hLz⟩
    unfold wp_X12_meanOf_p91b
    refine ⟨fun c3 => ?_, fun c3 => ?_⟩
    · have hb0 : b0 = hi + 1 := by
        have := (nI_ltI (by omega) (by omega)).mp c3
        omega
      rw [nI_1]
      rintro _ rfl
      refine ⟨⟨rfl, rfl, rfl, rfl, a0 + 1, by omega, by omega, rfl, hz1, hSz, fun a b h1 h2 h3 h4 => hLz a b h1 (by omega) h3 h4⟩, ?_⟩
      try dsimp only
      rw [nI_clamp (by omega), nI_clamp (by omega)]
      omega
    have hb0 : b0 ≤ hi := by
      have := mt (nI_ltI (a := hi) (b := b0) (by omega) (by omega)).mpr c3
      omega
    refine zat (zat ⟨nI_in (by omega) (by decide), ?_⟩)
    rw [nI_clamp (by omega), show gA z 28 (61 * a0 + b0) = _ from hSz a0 b0 a1 b1 hb0]
    rintro _ rfl
    refine ⟨nI_in (by omega) (by decide), ?_⟩
    rintro _ rfl
    rw [nI_1]
    rintro _ rfl
    refine ⟨⟨rfl, rfl, rfl, rfl, rfl, b0 + 1, by omega, by omega, rfl, bkM_29 hz1 _, hSz, fun a b h1 h2 h3 h4 => ?_⟩, ?_⟩
    · by_cases ce : 61 * a + b = 61 * a0 + b0
      · have e1 : a = a0 := by omega
        have e2 : b = b0 := by omega
        subst e1 e2
        exact Eq.trans (b := upd (gA z 29) (61 * a + b) (nI (M w (l - 1) a b)) (61 * a + b)) rfl pk_us
      · refine (Eq.trans (b := upd (gA z 29) (61 * a0 + b0) (nI (M w (l - 1) a0 b0)) (61 * a + b)) rfl (pk_un ce)).trans (hLz a b h1 ?_ h3 h4)
        omega
    · try dsimp only
      rw [nI_clamp (by omega), nI_clamp (by omega)]
      omega
  have ha0 : a0 = hi + 1 := by
    have := (nI_ltI (by omega) (by omega)).mp c2
    omega
  subst ha0
  -- the spans by their sizes
  unfold wp_X12_meanOf_p136
  refine ⟨fun x1 x2 x3 x4 x5 z => x1 = nI lo ∧ x2 = nI hi ∧ x3 = nI j ∧ x4 = nI l ∧ ∃ s : Nat, 1 ≤ s ∧ s ≤ hi - lo + 1 ∧ x5 = nI s ∧ bkM w lo hi V z ∧ (∀ a b : Nat, lo ≤ a → a ≤ b → b ≤ hi → LM z w (l - 1) a b) ∧ (∀ a b : Nat, lo ≤ a → a ≤ b → b ≤ hi → b - a < s → SM z w l a b) ∧ (2 ≤ s → gI z 31 = nI (hi - (s - 1) + (BM w l (hi - (s - 1)) hi).2)), fun _ _ _ _ x5 _ => 62 - x5.toNatClampNeg, ⟨rfl, rfl, rfl, rfl, 1, Nat.le_refl _, by omega, rfl, hv, fun a b h1 h3 h4 => hLv a b h1 (by omega) h3 h4, fun a b h1 h3 h4 h5 => ?_, fun c3 => absurd c3 (by decide)⟩, ?_⟩
  · have eab : a = b := by omega
    subst eab
    have := hSv a a h1 (Nat.le_refl _) h4
    unfold SM at this ⊢
    rw [M_r] at this ⊢
    exact this
  rintro _ _ _ _ _ z ⟨rfl, rfl, rfl, rfl, s, s1, s2, rfl, hz1, hLz, hSz, h31z⟩
  unfold wp_X12_meanOf_p136b
  rw [nI_sub hlo]
  rintro _ rfl
  refine ⟨fun c3 => ?_, fun c3 => ?_⟩
  · have hs : s = hi - lo + 1 := by
      have := (nI_ltI (by omega) (by omega)).mp c3
      omega
    rw [nI_1]
    rintro _ rfl
    refine ⟨⟨rfl, rfl, rfl, l + 1, by omega, by omega, rfl, hz1, fun a b h1 h3 h4 => ?_, fun _ c5 => ?_⟩, ?_⟩
    · rw [Nat.add_sub_cancel]
      exact hSz a b h1 h3 h4 (by omega)
    · have := h31z (by omega)
      rw [show hi - (s - 1) = lo by omega] at this
      rw [Nat.add_sub_cancel]
      exact this
    · try dsimp only
      rw [nI_clamp (by omega), nI_clamp (by omega)]
      omega
  have hs : s ≤ hi - lo := by
    have := mt (nI_ltI (a := hi - lo) (b := s) (by omega) (by omega)).mpr c3
    omega
  unfold wp_X12_meanOf_p147
  refine ⟨fun x1 x2 x3 x4 x5 x6 y => x1 = nI lo ∧ x2 = nI hi ∧ x3 = nI j ∧ x4 = nI l ∧ x5 = nI s ∧ ∃ a0 : Nat, lo ≤ a0 ∧ a0 + s ≤ hi + 1 ∧ x6 = nI a0 ∧ bkM w lo hi V y ∧ (∀ a b : Nat, lo ≤ a → a ≤ b → b ≤ hi → LM y w (l - 1) a b) ∧ (∀ a b : Nat, lo ≤ a → a ≤ b → b ≤ hi → (b - a < s ∨ b - a = s ∧ a < a0) → SM y w l a b) ∧ (lo < a0 → gI y 31 = nI (a0 - 1 + (BM w l (a0 - 1) (a0 - 1 + s)).2)), fun _ _ _ _ _ x6 _ => 62 - x6.toNatClampNeg, ⟨rfl, rfl, rfl, rfl, rfl, lo, Nat.le_refl _, by omega, rfl, hz1, hLz, fun a b h1 h3 h4 h5 => hSz a b h1 h3 h4 (by omega), fun c4 => absurd c4 (Nat.lt_irrefl _)⟩, ?_⟩
  rintro _ _ _ _ _ _ y ⟨rfl, rfl, rfl, rfl, rfl, a0, a3, a4, rfl, hy, hLy, hSy, h31y⟩
  unfold wp_X12_meanOf_p147b
  rw [nI_add]
  rintro _ rfl
  refine ⟨fun c4 => ?_, fun c4 => ?_⟩
  · have ha : a0 + s = hi + 1 := by
      have := (nI_ltI (by omega) (by omega)).mp c4
      omega
    rw [nI_1]
    rintro _ rfl
    refine ⟨⟨rfl, rfl, rfl, rfl, s + 1, by omega, by omega, rfl, hy, hLy, fun a b h1 h3 h4 h5 => hSy a b h1 h3 h4 (by omega), fun _ => ?_⟩, ?_⟩
    · have := h31y (by omega)
      rw [show a0 - 1 + s = hi by omega, show a0 - 1 = hi - (s + 1 - 1) by omega] at this
      exact this
    · try dsimp only
      rw [nI_clamp (by omega), nI_clamp (by omega)]
      omega
  have ha : a0 + s ≤ hi := by
    have := mt (nI_ltI (a := hi) (b := a0 + s) (by omega) (by omega)).mpr c4
    omega
  rintro _ rfl
  refine zfindSum hw (L := l) (lo := lo) (by omega) a3 (show a0 < a0 + s by omega) (by omega) (fun k k1 k2 => hy.2 k k1 (by omega)) (fun k k1 k2 => ⟨hLy a0 (k - 1) a3 (by omega) (by omega), hSy k (a0 + s) (by omega) k2 ha (by omega)⟩) fun y' g1 g2 g3 g4 => ?_
  rw [nI_1]
  rintro _ rfl
  have e29 : gA y' 29 = gA y 29 := Ag_A g1 29 (by decide)
  have e30 : gA y' 30 = gA y 30 := Ag_A g1 30 (by decide)
  refine ⟨⟨rfl, rfl, rfl, rfl, rfl, a0 + 1, by omega, by omega, rfl, ⟨Ag_t (Ag_m g1 (by decide)) hy.1, fun k k1 k2 => by rw [e30]; exact hy.2 k k1 k2⟩, fun a b h1 h3 h4 => ?_, fun a b h1 h3 h4 h5 => ?_, fun _ => ?_⟩, ?_⟩
  · unfold LM
    rw [e29]
    exact hLy a b h1 h3 h4
  · by_cases ce : 61 * a + b = 61 * a0 + (a0 + s)
    · have e1 : a = a0 := by omega
      have e2 : b = a0 + s := by omega
      subst e1 e2
      exact g3
    · unfold SM
      rw [g2 _ ce]
      refine hSy a b h1 h3 h4 ?_
      omega
  · rw [Nat.add_sub_cancel]
    exact g4
  · try dsimp only
    rw [nI_clamp (by omega), nI_clamp (by omega)]
    omega
theorem zmeanOf {V L : ST} {o : Option (List zL)} {N J lo hi j : Nat} (hL : RLw L V o) (v1 : gI V 1 = nI N) (v2 : gI V 2 = nI J) (hlo : lo ≤ hi) (hhi : hi ≤ N) (hN : N ≤ 60) (hj : j ≤ 6) {Q : Int32 → ST → Prop}
    (hq : ∀ V' : ST, bkM (ew (fun h => wt o h N J) lo hi) lo hi V V' → (j ≠ 0 → lo < hi → gI V' 31 = nI (lo + (BM (ew (fun h => wt o h N J) lo hi) j lo hi).2)) → Q (nI (M (ew (fun h => wt o h N J) lo hi) j lo hi)) V') : wp_X12_meanOf (nI lo) (nI hi) (nI j) V Q := by
  have hz := zF_e
  unfold wp_X12_meanOf
  refine zfindWe hL v1 v2 hlo hhi hN fun V1 hA1 hs1 => ?_
  have hw : okw (ew (fun h => wt o h N J) lo hi) := ew_ok (fun h _ => wt_le o h N J) lo hi
  generalize ew (fun h => wt o h N J) lo hi = w at hw hq hs1
  rintro _ rfl
  have h0 : bkM w lo hi V (sI V1 31 (-2)) := ⟨Ag_sI (Ag_m hA1 (by decide)) (by decide) _, hs1⟩
  generalize sI V1 31 (-2) = X at h0
  unfold wp_X12_meanOf_p16
  refine ⟨fun x1 x2 x3 x4 v => x1 = nI lo ∧ x2 = nI hi ∧ x3 = nI j ∧ ∃ a0 : Nat, lo ≤ a0 ∧ a0 ≤ hi + 1 ∧ x4 = nI a0 ∧ bkM w lo hi V v ∧ (∀ a b : Nat, lo ≤ a → a < a0 → a ≤ b → b ≤ hi → SM v w 0 a b), fun _ _ _ x4 _ => 62 - x4.toNatClampNeg, ⟨rfl, rfl, rfl, lo, Nat.le_refl _, by omega, rfl, h0, fun a b h1 h2 => by omega⟩, ?_⟩
  rintro _ _ _ _ v ⟨rfl, rfl, rfl, a0, a1, a2, rfl, hv, hSv⟩
  unfold wp_X12_meanOf_p16b
  refine ⟨fun c2 => ?_, fun c2 => ?_⟩
  · have ha0 : a0 = hi + 1 := by
      have := (nI_ltI (by omega) (by omega)).mp c2
      omega
    exact zlevel hw hlo (by omega) hj hv (fun a b h1 h3 h4 => hSv a b h1 (by omega) h3 h4) hq
  have ha0 : a0 ≤ hi := by
    have := mt (nI_ltI (a := hi) (b := a0) (by omega) (by omega)).mpr c2
    omega
  unfold wp_X12_meanOf_p26
  refine ⟨fun x1 x2 x3 x4 x5 z => x1 = nI lo ∧ x2 = nI hi ∧ x3 = nI j ∧ x4 = nI a0 ∧ ∃ b0 : Nat, a0 ≤ b0 ∧ b0 ≤ hi + 1 ∧ x5 = nI b0 ∧ bkM w lo hi V z ∧ (∀ a b : Nat, lo ≤ a → (a < a0 ∨ a = a0 ∧ b < b0) → a ≤ b → b ≤ hi → SM z w 0 a b), fun _ _ _ _ x5 _ => 62 - x5.toNatClampNeg, ⟨rfl, rfl, rfl, rfl, a0, Nat.le_refl _, a2, rfl, hv, fun a b h1 h2 h3 h4 => hSv a b h1 (by omega) h3 h4⟩, ?_⟩
  rintro _ _ _ _ _ z ⟨rfl, rfl, rfl, rfl, b0, b1, b2, rfl, hz1, hSz⟩
  unfold wp_X12_meanOf_p26b
  refine ⟨fun c3 => ?_, fun c3 => ?_⟩
  · have hb0 : b0 = hi + 1 := by
      have := (nI_ltI (by omega) (by omega)).mp c3
      omega
    rw [nI_1]
    rintro _ rfl
    refine ⟨⟨rfl, rfl, rfl, a0 + 1, by omega, by omega, rfl, hz1, fun a b h1 h2 h3 h4 => hSz a b h1 (by omega) h3 h4⟩, ?_⟩
    try dsimp only
    rw [nI_clamp (by omega), nI_clamp (by omega)]
    omega
  have hb0 : b0 ≤ hi := by
    have := mt (nI_ltI (a := hi) (b := b0) (by omega) (by omega)).mpr c3
    omega
  have lay : ∀ x : Int32, x = nI (M w 0 a0 b0) → wp_X12_meanOf_p56 (nI lo) (nI hi) (nI j) (nI a0) (nI b0) (nI (61 * a0 + b0)) x z (fun yx1 yx2 yx3 yx4 yu => (yx1 = nI lo ∧ yx2 = nI hi ∧ yx3 = nI j ∧ ∃ a0 : Nat, lo ≤ a0 ∧ a0 ≤ hi + 1 ∧ yx4 = nI a0 ∧ bkM w lo hi V yu ∧ (∀ a b : Nat, lo ≤ a → a < a0 → a ≤ b → b ≤ hi → SM yu w 0 a b)) ∧ 62 - yx4.toNatClampNeg < 62 - (nI a0).toNatClampNeg) (fun yx1 yx2 yx3 yx4 yx5 yu => (yx1 = nI lo ∧ yx2 = nI hi ∧ yx3 = nI j ∧ yx4 = nI a0 ∧ ∃ b0 : Nat, a0 ≤ b0 ∧ b0 ≤ hi + 1 ∧ yx5 = nI b0 ∧ bkM w lo hi V yu ∧ (∀ a b : Nat, lo ≤ a → (a < a0 ∨ a = a0 ∧ b < b0) → a ≤ b → b ≤ hi → SM yu w 0 a b)) ∧ 62 - yx5.toNatClampNeg < 62 - (nI b0).toNatClampNeg) Q := by
    rintro _ rfl
    unfold wp_X12_meanOf_p56
    refine ⟨nI_in (by omega) (by decide), ?_⟩
    rintro _ rfl
    rw [nI_1, nI_clamp (n := 61 * a0 + b0) (by omega)]
    rintro _ rfl
    refine ⟨⟨rfl, rfl, rfl, rfl, b0 + 1, by omega, by omega, rfl, bkM_28 hz1 _, fun a b h1 h2 h3 h4 => ?_⟩, ?_⟩
    · by_cases ce : 61 * a + b = 61 * a0 + b0
      · have e1 : a = a0 := by omega
        have e2 : b = b0 := by omega
        subst e1 e2
        exact Eq.trans (b := upd (gA z 28) (61 * a + b) (nI (M w 0 a b)) (61 * a + b)) rfl pk_us
      · refine (Eq.trans (b := upd (gA z 28) (61 * a0 + b0) (nI (M w 0 a0 b0)) (61 * a + b)) rfl (pk_un ce)).trans (hSz a b h1 ?_ h3 h4)
        omega
    · try dsimp only
      rw [nI_clamp (by omega), nI_clamp (by omega)]
      omega
  refine zat ⟨fun c4 => lay _ ?_, fun c4 => lay _ ?_⟩
  · have hne : a0 ≠ b0 := fun e => c4 (by rw [e])
    rw [M_0 w (by omega) (by omega)]
    rfl
  · have e : a0 = b0 := (nI_eq (by omega) (by omega)).mp c4
    rw [e, M_r]
    rfl

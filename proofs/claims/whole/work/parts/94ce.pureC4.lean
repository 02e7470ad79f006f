/-! the reference's means -/
def ew (w : Nat → Nat) (lo hi : Nat) : Nat → Nat := if Wt w lo hi = 0 then fun _ => 1 else w
theorem ew_ok {w : Nat → Nat} (hw : okw w) (lo hi : Nat) : okw (ew w lo hi) := by
  unfold ew
  split
  · intro h _
    exact (by decide : (1 : Nat) ≤ 9)
  · exact hw
/-- what stays when weights are asked for -/
def sameW (V V' : ST) : Prop := Ag [22, 23, 30] V' V
theorem zfindWe {V : ST} {L : ST} {o : Option (List zL)} {N J lo hi : Nat} (hL : RLw L V o) (v1 : gI V 1 = nI N) (v2 : gI V 2 = nI J) (hlo : lo ≤ hi) (hhi : hi ≤ N) (hN : N ≤ 60) {Q : Int32 → ST → Prop}
    (hq : ∀ V' : ST, Ag [22, 23, 30] V' V → (∀ k : Nat, lo ≤ k → k ≤ hi + 1 → gA V' 30 k = nI (psm (ew (fun h => wt o h N J) lo hi) k - psm (ew (fun h => wt o h N J) lo hi) lo)) → Q (nI (Wt (ew (fun h => wt o h N J) lo hi) lo hi)) V') : wp_X12_findWeights (nI lo) (nI hi) V Q := by
  generalize hwd : (fun h => wt o h N J) = w at hq
  have hw : okw w := by
    subst hwd
    exact fun h _ => wt_le o h N J
  have hwh : ∀ h : Nat, wt o h N J = w h := fun h => by subst hwd; rfl
  clear hwd
  have hew := ew_ok hw lo hi
  have wtR : ∀ {W : ST} {a : Nat} {Q2 : Int32 → ST → Prop}, Ag [22, 23, 30] W V → (∀ W' : ST, Ag [22, 23] W' W → Q2 (nI (w a)) W') → wp_X12_weightOf (nI a) W Q2 := by
    intro W a Q2 hA h
    refine zwtR (o := o) (L := L) (RLw_ag hL (Ag_r [] L) (by decide) (by decide) hA (by decide) (by decide) (by decide) (by decide) (by decide) (by decide)) ((Ag_I hA 1 (by decide)).trans v1) ((Ag_I hA 2 (by decide)).trans v2) fun W' hW' => ?_
    rw [hwh a]
    exact h W' hW'
  unfold wp_X12_findWeights wp_X12_findWeights_p5
  refine ⟨fun x1 x2 x3 x4 u => x1 = nI lo ∧ x2 = nI hi ∧ ∃ h : Nat, lo ≤ h ∧ h ≤ hi + 1 ∧ x4 = nI h ∧ x3 = nI (psm w h - psm w lo) ∧ Ag [22, 23, 30] u V, fun _ _ _ x4 _ => 62 - x4.toNatClampNeg, ⟨rfl, rfl, lo, Nat.le_refl _, by omega, rfl, by rw [Nat.sub_self]; rfl, Ag_r _ _⟩, ?_⟩
  rintro _ _ _ _ u ⟨rfl, rfl, h, h1, h2, rfl, rfl, hA⟩
  unfold wp_X12_findWeights_p5b
  have hps := psm_le hw h (by omega)
  refine ⟨fun c => ⟨nI_in (by omega) (by decide), ?_⟩, fun c => ?_⟩
  rotate_left
  · have hle : h ≤ hi := by
      have := mt (nI_ltI (a := hi) (b := h) (by omega) (by omega)).mpr c
      omega
    refine wtR hA fun W hW => ?_
    rw [nI_add]
    rintro _ rfl
    rw [nI_1]
    rintro _ rfl
    have hm := psm_mono w h1
    refine ⟨⟨rfl, rfl, h + 1, by omega, by omega, rfl, ?_, Ag_t (Ag_m hW (by decide)) hA⟩, ?_⟩
    · congr 1
      show _ = psm w h + w h - psm w lo
      omega
    · try dsimp only
      rw [nI_clamp (by omega), nI_clamp (by omega)]
      omega
  have hh : h = hi + 1 := by
    have := (nI_ltI (by omega) (by omega)).mp c
    omega
  subst hh
  rintro _ rfl
  rw [nI_clamp (by omega)]
  have hall : psm w (hi + 1) - psm w lo = Wt w lo hi := rfl
  rw [hall]
  unfold wp_X12_findWeights_p36
  refine ⟨fun x2 x3 x4 z => x2 = nI hi ∧ x3 = nI (Wt w lo hi) ∧ ∃ h : Nat, lo ≤ h ∧ h ≤ hi + 1 ∧ x4 = nI h ∧ Ag [22, 23, 30] z V ∧ ∀ k : Nat, lo ≤ k → k ≤ h → gA z 30 k = nI (psm (ew w lo hi) k - psm (ew w lo hi) lo), fun _ _ x4 _ => 62 - x4.toNatClampNeg, ⟨rfl, rfl, lo, Nat.le_refl _, by omega, rfl, Ag_sA hA (by decide) _, fun k k1 k2 => ?_⟩, ?_⟩
  · have : k = lo := by omega
    subst this
    rw [Nat.sub_self]
    exact Eq.trans (b := upd (gA u 30) k 0 k) rfl pk_us
  rintro _ _ _ z ⟨rfl, rfl, h, g1, g2, rfl, hZ, hz⟩
  unfold wp_X12_findWeights_p36b
  have hep := psm_le hew (h + 1)
  have hem := psm_mono (ew w lo hi) g1
  refine ⟨fun c2 => ?_, fun c2 => ?_⟩
  · have hh : h = hi + 1 := by
      have := (nI_ltI (by omega) (by omega)).mp c2
      omega
    subst hh
    rw [show nI hi + (1 : Int32) = nI (hi + 1) from nI_1 hi]
    rintro _ rfl
    refine ⟨nI_in (by omega) (by decide), ?_⟩
    rw [nI_clamp (by omega), hz (hi + 1) (by omega) (Nat.le_refl _)]
    rintro _ rfl
    exact hq z hZ hz
  · have hle : h ≤ hi := by
      have := mt (nI_ltI (a := hi) (b := h) (by omega) (by omega)).mpr c2
      omega
    have hep := hep (by omega)
    have heph : psm (ew w lo hi) (h + 1) = psm (ew w lo hi) h + ew w lo hi h := rfl
    rw [show nI h + (1 : Int32) = nI (h + 1) from nI_1 h]
    rintro _ rfl
    refine ⟨nI_in (by omega) (by decide), ?_⟩
    rw [nI_clamp (by omega), hz h g1 (Nat.le_refl _)]
    rintro _ rfl
    -- the sum is laid
    have fin : ∀ (W : ST) (a : Nat), Ag [22, 23] W z → a = ew w lo hi h → wp_X12_findWeights_p71 (nI hi) (nI (Wt w lo hi)) (nI h) (nI (h + 1)) (nI (psm (ew w lo hi) h - psm (ew w lo hi) lo)) (nI a) W (fun yx2 yx3 yx4 yu => (yx2 = nI hi ∧ yx3 = nI (Wt w lo hi) ∧ ∃ h : Nat, lo ≤ h ∧ h ≤ hi + 1 ∧ yx4 = nI h ∧ Ag [22, 23, 30] yu V ∧ ∀ k : Nat, lo ≤ k → k ≤ h → gA yu 30 k = nI (psm (ew w lo hi) k - psm (ew w lo hi) lo)) ∧ 62 - yx4.toNatClampNeg < 62 - (nI h).toNatClampNeg) Q := by
      rintro W a hW rfl
      unfold wp_X12_findWeights_p71
      rw [nI_add]
      rintro _ rfl
      refine ⟨nI_in (by omega) (by decide), ?_⟩
      rintro _ rfl
      rw [nI_1, nI_clamp (n := h + 1) (by omega)]
      rintro _ rfl
      have e30 : gA W 30 = gA z 30 := Ag_A hW 30 (by decide)
      refine ⟨⟨rfl, rfl, h + 1, by omega, by omega, rfl, Ag_sA (Ag_t (Ag_m hW (by decide)) hZ) (by decide) _, fun k k1 k2 => ?_⟩, ?_⟩
      · by_cases ck : k = h + 1
        · subst ck
          refine (Eq.trans (b := upd (gA W 30) (h + 1) _ (h + 1)) rfl pk_us).trans ?_
          congr 1
          omega
        · refine (Eq.trans (b := upd (gA W 30) (h + 1) _ k) rfl (pk_un ck)).trans ?_
          rw [e30]
          exact hz k k1 (by omega)
      · try dsimp only
        rw [nI_clamp (by omega), nI_clamp (by omega)]
        omega
    refine ⟨fun c3 => ?_, fun c3 => ?_⟩
    · have h0 : Wt w lo hi ≠ 0 := fun e => c3 (by rw [e]; rfl)
      refine wtR hZ fun W hW => fin W (w h) hW ?_
      unfold ew
      rw [if_neg h0]
    · have hW := Wt_le hw (lo := lo) (hi := hi) (by omega)
      have h0 : Wt w lo hi = 0 := (nI_eq (b := 0) (by omega) (by decide)).mp c3
      refine fin z 1 (Ag_r _ _) ?_
      unfold ew
      rw [if_pos h0]
theorem zat {a b : Nat} {Q : Int32 → Prop} (hq : Q (nI (61 * a + b))) : wp_X12_at (nI a) (nI b) Q := by
  unfold wp_X12_at
  rw [show (61 : Int32) * nI a = nI (61 * a) from pk_mul 61 a]
  rintro _ rfl
  rw [nI_add]
  rintro _ rfl
  exact hq
def SM (V : ST) (w : Nat → Nat) (L a b : Nat) : Prop := gA V 28 (61 * a + b) = nI (M w L a b)
def LM (V : ST) (w : Nat → Nat) (L a b : Nat) : Prop := gA V 29 (61 * a + b) = nI (M w L a b)
theorem zfindSum {V : ST} {w : Nat → Nat} (hw : okw w) {L lo a b : Nat} (hL : L ≠ 0) (h0 : lo ≤ a) (h1 : a < b) (h2 : b ≤ 60) (hs : ∀ k : Nat, lo ≤ k → k ≤ b + 1 → gA V 30 k = nI (psm w k - psm w lo)) (hc : ∀ k : Nat, a < k → k ≤ b → LM V w (L - 1) a (k - 1) ∧ SM V w L k b) {Q : ST → Prop}
    (hq : ∀ V' : ST, Ag [28, 31] V' V → (∀ p : Nat, p ≠ 61 * a + b → gA V' 28 p = gA V 28 p) → SM V' w L a b → gI V' 31 = nI (a + (BM w L a b).2) → Q V') : wp_X12_findSum (nI a) (nI b) V Q := by
  have hz := zF_e
  obtain ⟨f1, f2, f3⟩ := BM_fin hw hL h1 h2
  have hMs := M_fin hw (b - a) L a b (Nat.le_refl _) (by omega) h2 hL
  unfold wp_X12_findSum
  rw [nI_1]
  rintro _ rfl
  unfold wp_X12_findSum_p8
  refine ⟨fun x1 x2 x3 x4 u => x1 = nI a ∧ x2 = nI b ∧ ∃ n : Nat, n ≤ b - a ∧ x4 = nI (a + 1 + n) ∧ x3 = nI (bst zF (fM w L a b) n).1 ∧ Ag [31] u V ∧ (0 < (bst zF (fM w L a b) n).2 → gI u 31 = nI (a + (bst zF (fM w L a b) n).2)), fun _ _ _ x4 _ => 100 - x4.toNatClampNeg, ⟨rfl, rfl, 0, Nat.zero_le _, rfl, rfl, Ag_r _ _, fun c => absurd c (Nat.lt_irrefl 0)⟩, ?_⟩
  rintro _ _ _ _ u ⟨rfl, rfl, n, hn, rfl, rfl, hA, hu⟩
  unfold wp_X12_findSum_p8b wp_X12_findSum_p59 wp_X12_findSum_p102
  have e28 : gA u 28 = gA V 28 := Ag_A hA 28 (by decide)
  have e29 : gA u 29 = gA V 29 := Ag_A hA 29 (by decide)
  have e30 : gA u 30 = gA V 30 := Ag_A hA 30 (by decide)
  have hle : (bst zF (fM w L a b) n).1 ≤ zF := bst_le _ _ _
  have hps := psm_le hw (b + 1) (by omega)
  have m1 := psm_mono w (show a ≤ b + 1 by omega)
  have m0 := psm_mono w h0
  refine ⟨fun c => ?_, fun c => ?_⟩
  · have hn2 : bst zF (fM w L a b) n = BM w L a b := by
      have := (nI_ltI (by omega) (by omega)).mp c
      unfold BM
      rw [show n = b - a by omega]
    rw [hn2] at hu ⊢
    refine zat ⟨fun _ => ?_, fun c2 => absurd (nI_lt (b := 1000000) (by omega) (by decide)) c2⟩
    rw [show nI b + (1 : Int32) = nI (b + 1) from nI_1 b]
    rintro _ rfl
    refine ⟨nI_in (by omega) (by decide), ?_⟩
    rw [nI_clamp (by omega), e30, hs (b + 1) (by omega) (Nat.le_refl _)]
    rintro _ rfl
    rw [nI_add]
    rintro _ rfl
    refine ⟨nI_in (by omega) (by decide), ?_⟩
    rw [nI_clamp (by omega), hs a h0 (by omega)]
    rintro _ rfl
    rw [nI_sub (by omega), show (BM w L a b).1 + (psm w (b + 1) - psm w lo) - (psm w a - psm w lo) = M w L a b by rw [← f2]; unfold Wt; omega]
    rintro _ rfl
    refine ⟨nI_in (by omega) (by decide), ?_⟩
    rintro _ rfl
    rw [nI_clamp (by omega), e28]
    refine hq _ (Ag_sA (Ag_m hA (by decide)) (by decide) _) (fun p hp => ?_) ?_ ?_
    · exact Eq.trans (b := upd (gA V 28) (61 * a + b) (nI (M w L a b)) p) rfl (pk_un hp)
    · exact Eq.trans (b := upd (gA V 28) (61 * a + b) (nI (M w L a b)) (61 * a + b)) rfl pk_us
    · exact hu f3
  have hlt : a + 1 + n ≤ b := by
    have := mt (nI_ltI (a := b) (b := a + 1 + n) (by omega) (by omega)).mpr c
    omega
  obtain ⟨c1, c2⟩ := hc (a + 1 + n) (by omega) hlt
  rw [show a + 1 + n - 1 = a + n by omega] at c1
  have bl := M_lez (w := w) (L - 1) hw (show a ≤ a + n by omega) (by omega)
  have sl := M_lez (w := w) L hw hlt h2
  have hfn : fM w L a b (n + 1) = ad (M w (L - 1) a (a + n)) (M w L (a + 1 + n) b) := by
    unfold fM
    rw [if_neg hL, show a + (n + 1) - 1 = a + n by omega, show a + (n + 1) = a + 1 + n by omega]
  have hmu : 100 - (nI (a + 1 + (n + 1))).toNatClampNeg < 100 - (nI (a + 1 + n)).toNatClampNeg := by
    try dsimp only
    rw [nI_clamp (by omega), nI_clamp (by omega)]
    omega
  rw [show nI (a + 1 + n) - (1 : Int32) = nI (a + n) from by rw [show a + 1 + n = a + n + 1 by omega]; exact nI_pred _]
  rintro _ rfl
  refine zat ⟨nI_in (by omega) (by decide), ?_⟩
  rw [nI_clamp (by omega), e29, show gA V 29 (61 * a + (a + n)) = _ from c1]
  rintro _ rfl
  refine zat ⟨nI_in (by omega) (by decide), ?_⟩
  rw [nI_clamp (by omega), e28, show gA V 28 (61 * (a + 1 + n) + b) = _ from c2]
  rintro _ rfl
  rw [nI_add]
  rintro _ rfl
  have hcmp : M w (L - 1) a (a + n) + M w L (a + 1 + n) b < (bst zF (fM w L a b) n).1 ↔ fM w L a b (n + 1) < (bst zF (fM w L a b) n).1 := by
    rw [hfn]
    unfold ad
    split <;> omega
  rw [nI_ltI (by omega) (by omega), hcmp]
  refine ⟨fun c3 => ?_, fun c3 => ?_⟩
  · rintro _ rfl
    rw [nI_1, show a + 1 + n + 1 = a + 1 + (n + 1) by omega]
    rintro _ rfl
    refine ⟨⟨rfl, rfl, n + 1, by omega, rfl, ?_, Ag_sI hA (by decide) _, fun _ => ?_⟩, hmu⟩
    · rw [bst_y c3]
      show _ = nI (fM w L a b (n + 1))
      rw [hfn] at c3 ⊢
      unfold ad at c3 ⊢
      by_cases q : M w (L - 1) a (a + n) + M w L (a + 1 + n) b < zF
      · rw [if_pos q]
      · rw [if_neg q] at c3
        omega
    · rw [bst_y c3]
      show nI (a + 1 + n) = nI (a + (n + 1))
      rw [show a + 1 + n = a + (n + 1) by omega]
  · rw [nI_1, show a + 1 + n + 1 = a + 1 + (n + 1) by omega]
    rintro _ rfl
    exact ⟨⟨rfl, rfl, n + 1, by omega, rfl, by rw [bst_n c3], hA, by rw [bst_n c3]; exact hu⟩, hmu⟩

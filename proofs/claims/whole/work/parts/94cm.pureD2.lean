theorem zfbm11 {U : CS} {o : Option (List zL)} {v N J lo hi j : Nat} {w : Nat → Nat} (hM : ME (U 6) o v N J w) (hE : RLd true (U 5)) (hs : sp3 (U 11) lo hi j) (hN : N ≤ 60) (hlo : lo < hi) (hhi : hi ≤ N) (hj : j ≤ 6) (hj0 : j ≠ 0) {Q : Int32 → CS → Prop}
    (hq : ∀ U' : CS, ME (U' 6) o v N J w → RLd true (U' 5) → AgU [5, 6] U' U → Q (nI (lo + (BM (ew w lo hi) j lo hi).2)) U') : wp_X11_firstByMean_11 U Q := by
  have hM0 := hM
  obtain ⟨rd, h, -⟩ := hM0
  have hw : okw w := h.1.1
  have w2 := Wt_le hw (lo := lo) (hi := hi) (by omega)
  have hlo' : lo ≤ hi := by omega
  obtain ⟨e0, e1, e2⟩ := hs
  unfold wp_X11_firstByMean_11
  refine zwOf (u := fun i => U ([6, 11].getD i 0)) hN hw h.2.1 e0 e1 hlo' hhi ?_
  rw [emb_self]
  intro u5 eu
  rw [eu]
  refine ⟨fun c => ?_, fun c => ?_⟩
  · have c := mt (nI_z0 (n := Wt w lo hi) (by omega)).mpr c
    rw [ew_n c] at hq
    refine zfirstM (u := fun i => U ([6, 11].getD i 0)) hM hN ⟨e0, e1, e2⟩ hlo hhi hj hj0 fun m' hm' => ?_
    rw [emb_mu0]
    rintro _ rfl
    exact hq (mu U 6 m') hm' hE (AgU_mu (AgU_r _ _) (by decide) _)
  · have c := (nI_z0 (n := Wt w lo hi) (by omega)).mp c
    rw [ew_0 c] at hq
    refine zprepL (t := true) (d := 1) (p := 0) (by decide) (by decide) hE fun L' hL' => ?_
    rintro _ rfl
    have hR := RLd_of (by decide) (by decide) hL'
    refine zheights (u := mu U 5 L' 11) e0 e1 hlo' ?_
    rintro _ rfl
    rw [mu_self, show gI (mu U 5 L' 11) 2 = nI j from e2, show gI (mu U 5 L' 11) 0 = nI lo from e0]
    refine zfirstL (L := mu U 5 L' 5) hL' hj (by omega) (by omega) ?_
    rintro _ rfl
    rw [mu_self, nI_add, ← (M_1 (hi - lo) j lo hi (Nat.le_refl _) hlo' (by omega)).2 hlo]
    rintro _ rfl
    exact hq (mu U 5 L') hM hR (AgU_mu (AgU_r _ _) (by decide) _)
def kW : List Nat := [2, 3, 5, 6, 10, 11]
/-- what a walk of the class leaves -/
def CWx (o : Option (List zL)) (v N J : Nat) (U U' : CS) : Prop := (∃ w : Nat → Nat, ME (U' 6) o v N J w) ∧ RLd false (U' 3) ∧ RLd true (U' 5) ∧ Ag [1, 8] (U' 2) (U 2) ∧ AgU kW U' U
def WLI (F : Nat → Nat → Nat → Nat) (o : Option (List zL)) (v h N J k : Nat) (w : Nat → Nat) (U u : CS) : Prop := WCk F h N J k (u 10) (u 11) ∧ LD false 1 0 (u 3) ∧ ME (u 6) o v N J w ∧ RLd true (u 5) ∧ Ag [1, 8] (u 2) (U 2) ∧ AgU kW u U
theorem WLI_x {F : Nat → Nat → Nat → Nat} {o : Option (List zL)} {v h N J k : Nat} {w : Nat → Nat} {U u : CS} (H : WLI F o v h N J k w U u) : CWx o v N J U u := ⟨⟨w, H.2.2.1⟩, RLd_of (by decide) (by decide) H.2.1, H.2.2.2.1, H.2.2.2.2.1, H.2.2.2.2.2⟩
theorem zwl111 {F : Nat → Nat → Nat → Nat} {o : Option (List zL)} {v h N J k : Nat} {w : Nat → Nat} {U u : CS} (H : WLI F o v h N J k w U u) (hh : h < 2 ^ 31) (hN : N ≤ 60) (hF : FP F N) (hJ : J ≠ 0) (g : goes F h N J k) (l : (wk F h N J k).1 < (wk F h N J k).2.1) (hk : k < 60) {x1 : Int32} {B : Int32 → Int32 → Int32 → CS → Prop} {Q : Int32 → CS → Prop}
    (hb : ∀ u' : CS, WLI F o v h N J (k + 1) w U u' → B x1 (nI h) (nI (k + 1)) u') : wp_X11_walks_p111 x1 (nI h) (nI k) (nI (sk F h N J k)) u B Q := by
  unfold wp_X11_walks_p111
  refine zaddW hh hN hF hJ g l hk (u := fun i => u ([10, 11].getD i 0)) H.1 fun v1 hv1 => ?_
  rw [emb_2 _ (by decide)]
  rintro _ rfl
  rw [nI_1]
  rintro _ rfl
  exact hb _ ⟨hv1, H.2.1, H.2.2.1, H.2.2.2.1, H.2.2.2.2.1, AgU_mu (AgU_mu H.2.2.2.2.2 (by decide) _) (by decide) _⟩
theorem zwalks {U : CS} {V : ST} {o : Option (List zL)} {v N J h : Nat} {F : Nat → Nat → Nat → Nat} {x1 : Int32} (t1 : gA (U 1) 0 0 = nI N) (t2 : gA (U 1) 0 1 = nI J) (n1 : 1 ≤ N) (hN : N ≤ 60) (hJ : J ≤ 6) (hh : h < 2 ^ 31) (hL : RLw (U 2) V o) (hv : gI (U 2) 9 = nI v) (hv2 : v < 100000) (hM : RMe (U 6) o v) (hW : RLd false (U 3)) (hE : RLd true (U 5)) (hF : F = if x1 = 0 then Fw else Fm (fun h => wt o h N J)) {Q : Int32 → CS → Prop}
    (h0 : J = 0 → ∀ U' : CS, CWx o v N J U U' → Q 0 U') (h1 : J ≠ 0 → ∀ (U' : CS) (D : Nat), goes F h N J D → ¬ (wk F h N J D).1 < (wk F h N J D).2.1 → WCk F h N J D (U' 10) (U' 11) → CWx o v N J U U' → Q 1 U') : wp_X11_walks x1 (nI h) U Q := by
  have hw0 : okw (fun h => wt o h N J) := fun h _ => wt_le o h N J
  have hFP : FP F N := by
    rw [hF]
    split
    · exact FP0 hN
    · exact FP1 hw0 hN
  unfold wp_X11_walks
  refine zprepL (t := false) (d := 1) (p := 0) (by decide) (by decide) hW fun L' hL' => ?_
  rintro _ rfl
  refine zweighU (U := mu U 3 L') hL hv hv2 hM t1 t2 hN hJ fun m' L2 w hm hA => ?_
  refine zstepsT ?_
  rintro _ rfl
  rw [mu_self]
  refine zjarsT ?_
  rintro _ rfl
  rw [mu_self, show gA (mu (mu (mu U 3 L') 6 m') 2 L2 1) 0 0 = nI N from t1, show gA (mu (mu (mu U 3 L') 6 m') 2 L2 1) 0 1 = nI J from t2]
  refine zbegW (F := F) (h := h) (u := fun i => mu (mu (mu U 3 L') 6 m') 2 L2 ([10, 11].getD i 0)) fun v1 hv1 => ?_
  rw [emb_2 _ (by decide)]
  rintro _ rfl
  have H0 : WLI F o v h N J 0 w U (mu (mu (mu (mu (mu U 3 L') 6 m') 2 L2) 10 (v1 0)) 11 (v1 1)) := ⟨hv1, hL', hm, hE, hA, AgU_mu (AgU_mu (AgU_mu (AgU_mu (AgU_mu (AgU_r _ _) (by decide) _) (by decide) _) (by decide) _) (by decide) _) (by decide) _⟩
  generalize mu (mu (mu (mu (mu U 3 L') 6 m') 2 L2) 10 (v1 0)) 11 (v1 1) = X at H0
  obtain ⟨rd, hWE, -⟩ := id hm
  have hwe := hWE.2.2
  unfold wp_X11_walks_p56
  refine ⟨fun y1 y2 y4 u => x1 = y1 ∧ y2 = nI h ∧ ∃ k : Nat, k ≤ 60 ∧ y4 = nI k ∧ goes F h N J k ∧ (J = 0 → k = 0) ∧ WLI F o v h N J k w U u, fun _ _ y4 _ => 61 - y4.toNatClampNeg, ⟨rfl, rfl, 0, by decide, rfl, fun i hi => absurd hi (Nat.not_lt_zero _), fun _ => rfl, H0⟩, ?_⟩
  rintro _ _ _ u ⟨rfl, rfl, k, hk, rfl, g, hk0, H⟩
  have hs := H.1.1
  unfold wp_X11_walks_p56b wp_X11_walks_p129
  refine ⟨fun c => ?_, fun c => ?_⟩
  · have ek : k = 60 := by
      have := (nI_leI (a := 60) (by decide) (by omega)).mp c
      omega
    have hJ0 : J ≠ 0 := fun e => by
      have := hk0 e
      omega
    obtain ⟨i1, i2, i3, i4, i5⟩ := wk_ok hFP hJ0 k g
    refine zsure hs (by omega) (by omega) ?_
    rw [if_pos (by omega)]
    rintro _ rfl
    rw [mu_self]
    exact ⟨by decide, h1 hJ0 _ k g (by omega) H.1 (WLI_x H)⟩
  have hk6 : k < 60 := by
    have := mt (nI_leI (a := 60) (b := k) (by decide) (by omega)).mpr c
    omega
  by_cases hJ0 : J = 0
  · have ek := hk0 hJ0
    subst ek
    have e0 : (wk F h N J 0).1 = 0 := rfl
    have e1 : (wk F h N J 0).2.1 = N := rfl
    refine zsure hs (by omega) (by omega) ?_
    rw [if_neg (by omega)]
    rintro _ rfl
    rw [mu_self]
    refine ⟨fun c => absurd rfl c, fun _ => ?_⟩
    rw [hs.2.2, hJ0, Nat.zero_sub]
    exact ⟨fun c => absurd rfl c, fun _ => ⟨by decide, h0 hJ0 _ (WLI_x H)⟩⟩
  obtain ⟨i1, i2, i3, i4, i5⟩ := wk_ok hFP hJ0 k g
  refine zsure hs (by omega) (by omega) ?_
  by_cases cs : (wk F h N J k).1 = (wk F h N J k).2.1
  · rw [if_pos cs]
    rintro _ rfl
    rw [mu_self]
    refine ⟨fun _ => ?_, fun c => absurd c (by decide)⟩
    refine zsure hs (by omega) (by omega) ?_
    rw [if_pos cs]
    rintro _ rfl
    rw [mu_self]
    exact ⟨by decide, h1 hJ0 _ k g (by omega) H.1 (WLI_x H)⟩
  rw [if_neg cs]
  have l : (wk F h N J k).1 < (wk F h N J k).2.1 := by omega
  have i5 := i5 l
  rintro _ rfl
  rw [mu_self]
  refine ⟨fun c => absurd rfl c, fun _ => ⟨fun _ => ?_, fun c => ?_⟩⟩
  rotate_left
  · rw [hs.2.2] at c
    have := (nI_z0 (by omega)).mp c
    omega
  have step : ∀ u2 : CS, WLI F o v h N J k w U u2 → wp_X11_walks_p111 x1 (nI h) (nI k) (nI (sk F h N J k)) u2 (fun yx1 yx2 yx4 yu => (x1 = yx1 ∧ yx2 = nI h ∧ ∃ k : Nat, k ≤ 60 ∧ yx4 = nI k ∧ goes F h N J k ∧ (J = 0 → k = 0) ∧ WLI F o v h N J k w U yu) ∧ 61 - yx4.toNatClampNeg < 61 - (nI k).toNatClampNeg) Q := fun u2 H2 => zwl111 H2 hh hN hFP hJ0 g l hk6 fun u' hu' => ⟨⟨rfl, rfl, k + 1, by omega, rfl, goes_s g l, fun e => absurd e hJ0, hu'⟩, by rw [nI_clamp (by omega), nI_clamp (by omega)]; omega⟩
  refine ⟨fun c => ?_, fun c => ?_⟩
  · refine zfbm11 H.2.2.1 H.2.2.2.1 hs hN l i2 (by omega) (by omega) fun U' g1 g2 g3 => ?_
    have e : (wk F h N J k).1 + (BM (ew w (wk F h N J k).1 (wk F h N J k).2.1) (J - (wk F h N J k).2.2) (wk F h N J k).1 (wk F h N J k).2.1).2 = sk F h N J k := by
      rw [(ew_cg (w := w) (w' := fun h => wt o h N J) (J - (wk F h N J k).2.2) i1 (by omega) (fun a _ a2 => hwe a (by omega))).2.1 l]
      unfold sk
      rw [hF, if_neg c]
      rfl
    rw [e]
    refine step U' ⟨?_, ?_, g1, g2, ?_, AgU_t (AgU_m g3 (by decide)) H.2.2.2.2.2⟩
    · rw [g3 10 (by decide), g3 11 (by decide)]
      exact H.1
    · rw [g3 3 (by decide)]
      exact H.2.1
    · rw [g3 2 (by decide)]
      exact H.2.2.2.2.1
  · refine zheights hs.1 hs.2.1 i1 ?_
    rintro _ rfl
    rw [mu_self, hs.2.2, hs.1]
    refine zfirstL H.2.1 (by omega) (by omega) (by omega) ?_
    rintro _ rfl
    rw [mu_self, nI_add]
    rintro _ rfl
    have e : (wk F h N J k).1 + (lB (gl false 1 0) (J - (wk F h N J k).2.2) ((wk F h N J k).2.1 - (wk F h N J k).1 + 1)).2 = sk F h N J k := by
      unfold sk
      rw [hF, if_pos c]
      rfl
    rw [e]
    exact step u H

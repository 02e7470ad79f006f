/-! mean and meanFirst -/
theorem zcNI {x : Nat} : nI (cN x) < (268435456 : Int32) ↔ x < zF := (nI_ltI (b := 268435456) (cN_b x) (by decide)).trans (cN_lt x)
theorem gcd1 {c all : Nat} (h : 1 ≤ all) : 1 ≤ Nat.gcd c all := Nat.gcd_pos_of_pos_right c (by omega)
theorem gcdle {c all : Nat} (h : 1 ≤ all) : Nat.gcd c all ≤ all := Nat.le_of_dvd (by omega) (Nat.gcd_dvd_right c all)
def mval (a3 : Int32) (c all : Nat) : Int32 := if a3 = 0 then nI (c / Nat.gcd c all) else nI (all / Nat.gcd c all)
theorem zm143 {a3 : Int32} {c all : Nat} (hc : c < 2 ^ 31) (h1 : 1 ≤ all) (h2 : all ≤ 1000) {u : CS} {Q : Int32 → CS → Prop} (hq : Q (mval a3 c all) u) : wp_X11_mean_p143 a3 (nI c) (nI all) u Q := by
  have g1 := gcd1 (c := c) h1
  have g2 := gcdle (c := c) h1
  unfold mval at hq
  unfold wp_X11_mean_p143 wp_X11_mean_p175
  refine zgcdC hc h2 ?_
  have e : (if (1 : Int32) < nI (Nat.gcd c all) then nI (Nat.gcd c all) else (1 : Int32)) = nI (Nat.gcd c all) := by
    split
    · rfl
    · rename_i h
      have := mt (nI_ltI (a := 1) (b := Nat.gcd c all) (by decide) (by omega)).mpr h
      have e1 : Nat.gcd c all = 1 := by omega
      rw [e1]
      rfl
  rw [e]
  rintro _ rfl
  have hne : ¬ nI (Nat.gcd c all) = 0 := fun e0 => by
    have := (nI_eq (b := 0) (by omega) (by decide)).mp e0
    omega
  refine ⟨fun ca => ⟨hne, ?_⟩, fun ca => ⟨hne, ?_⟩⟩
  · rw [if_neg ca] at hq
    rw [pk_div (by omega) (by omega) (by omega)]
    rintro _ rfl
    exact hq
  · rw [if_pos ca] at hq
    rw [pk_div hc (by omega) (by omega)]
    rintro _ rfl
    exact hq
theorem Wt_e1 (w : Nat → Nat) {lo hi : Nat} (h : lo ≤ hi) : 1 ≤ Wt (ew w lo hi) lo hi := by
  by_cases c : Wt w lo hi = 0
  · rw [ew_0 c, Wt_1 h]
    omega
  · rw [ew_n c]
    omega
theorem nI_z0 {n : Nat} (h : n < 2 ^ 31) : nI n = 0 ↔ n = 0 := nI_eq (b := 0) h (by decide)
theorem zmeanC {U : CS} {o : Option (List zL)} {v N J lo hi j : Nat} {w : Nat → Nat} (hM : ME (U 6) o v N J w) (hE : RLd true (U 5)) (hs : sp3 (U 9) lo hi j) (hN : N ≤ 60) (hlo : lo ≤ hi) (hhi : hi ≤ N) (hj : j ≤ 6) {a3 : Int32} {Q : Int32 → CS → Prop}
    (hq : ∀ U' : CS, ME (U' 6) o v N J w → RLd true (U' 5) → AgU [5, 6] U' U → Q (if M (ew w lo hi) j lo hi < zF then mval a3 (M (ew w lo hi) j lo hi) (Wt (ew w lo hi) lo hi) else -2) U') : wp_X11_mean_p54 a3 (if Wt w lo hi = 0 then 1 else 0) U Q := by
  have hz := zF_e
  have hw : okw w := by
    obtain ⟨rd, h, -⟩ := hM
    exact h.1.1
  have w1 := Wt_e1 w hlo
  have w2 := Wt_le (ew_ok hw lo hi) (lo := lo) (hi := hi) (by omega)
  have hm := M_lez (w := ew w lo hi) j (ew_ok hw lo hi) hlo (by omega)
  obtain ⟨e0, e1, e2⟩ := hs
  unfold wp_X11_mean_p54
  refine zprepL (t := true) (d := 1) (p := 0) (by decide) (by decide) hE fun L' hL' => ?_
  rintro _ rfl
  have hR := RLd_of (by decide) (by decide) hL'
  by_cases c : Wt w lo hi = 0
  · rw [if_pos c]
    rw [ew_0 c] at hq w1 w2 hm
    refine ⟨fun c => absurd c (by decide), fun _ => zheights (u := mu U 5 L' 9) e0 e1 hlo ?_⟩
    rintro _ rfl
    rw [mu_self, show gI (mu U 5 L' 9) 2 = nI j from e2]
    refine zcostL (L := mu U 5 L' 5) hL' hj (by omega) (by omega) ?_
    rintro _ rfl
    rw [mu_self, ← (M_1 (hi - lo) j lo hi (Nat.le_refl _) hlo (by omega)).1]
    unfold wp_X11_mean_p105
    have hq := hq (mu U 5 L') hM hR (AgU_mu (AgU_r _ _) (by decide) _)
    refine ⟨fun c2 => ⟨fun c3 => absurd c3 (by decide), fun _ => zheights (u := mu U 5 L' 9) e0 e1 hlo ?_⟩, fun c2 => ?_⟩
    · have c2 := zcNI.mp c2
      rw [if_pos c2, Wt_1 hlo] at hq
      rintro _ rfl
      rw [mu_self, cN_f c2]
      exact zm143 (by omega) (by omega) (by omega) hq
    · rw [if_neg (mt zcNI.mpr c2)] at hq
      exact hq
  · rw [if_neg c]
    rw [ew_n c] at hq w1 w2 hm
    refine ⟨fun _ => zcostM (u := fun i => mu U 5 L' ([6, 9].getD i 0)) hM hN ⟨e0, e1, e2⟩ hlo hhi hj fun m' hm' => ?_, fun c => absurd rfl c⟩
    rw [emb_mu0]
    rintro _ rfl
    unfold wp_X11_mean_p105
    have hq := hq (mu (mu U 5 L') 6 m') hm' hR (AgU_mu (AgU_mu (AgU_r _ _) (by decide) _) (by decide) _)
    refine ⟨fun c2 => ⟨fun _ => ?_, fun c3 => absurd rfl c3⟩, fun c2 => ?_⟩
    · have c2 := zcNI.mp c2
      rw [if_pos c2] at hq
      obtain ⟨rd, h, -⟩ := hm'
      refine zwOf (u := fun i => mu (mu U 5 L') 6 m' ([6, 9].getD i 0)) hN hw h.2.1 e0 e1 hlo hhi ?_
      rw [emb_self]
      rintro _ rfl
      rw [cN_f c2]
      exact zm143 (by omega) (by omega) (by omega) hq
    · rw [if_neg (mt zcNI.mpr c2)] at hq
      exact hq
theorem zfbm9 {U : CS} {o : Option (List zL)} {v N J lo hi j : Nat} {w : Nat → Nat} (hM : ME (U 6) o v N J w) (hE : RLd true (U 5)) (hs : sp3 (U 9) lo hi j) (hN : N ≤ 60) (hlo : lo < hi) (hhi : hi ≤ N) (hj : j ≤ 6) (hj0 : j ≠ 0) {Q : Int32 → CS → Prop}
    (hq : ∀ U' : CS, ME (U' 6) o v N J w → RLd true (U' 5) → AgU [5, 6] U' U → Q (nI (lo + (BM (ew w lo hi) j lo hi).2)) U') : wp_X11_firstByMean_9 U Q := by
  have hM0 := hM
  obtain ⟨rd, h, -⟩ := hM0
  have hw : okw w := h.1.1
  have w2 := Wt_le hw (lo := lo) (hi := hi) (by omega)
  have hlo' : lo ≤ hi := by omega
  obtain ⟨e0, e1, e2⟩ := hs
  unfold wp_X11_firstByMean_9
  refine zwOf (u := fun i => U ([6, 9].getD i 0)) hN hw h.2.1 e0 e1 hlo' hhi ?_
  rw [emb_self]
  intro u5 eu
  rw [eu]
  refine ⟨fun c => ?_, fun c => ?_⟩
  · have c := mt (nI_z0 (n := Wt w lo hi) (by omega)).mpr c
    rw [ew_n c] at hq
    refine zfirstM (u := fun i => U ([6, 9].getD i 0)) hM hN ⟨e0, e1, e2⟩ hlo hhi hj hj0 fun m' hm' => ?_
    rw [emb_mu0]
    rintro _ rfl
    exact hq (mu U 6 m') hm' hE (AgU_mu (AgU_r _ _) (by decide) _)
  · have c := (nI_z0 (n := Wt w lo hi) (by omega)).mp c
    rw [ew_0 c] at hq
    refine zprepL (t := true) (d := 1) (p := 0) (by decide) (by decide) hE fun L' hL' => ?_
    rintro _ rfl
    have hR := RLd_of (by decide) (by decide) hL'
    refine zheights (u := mu U 5 L' 9) e0 e1 hlo' ?_
    rintro _ rfl
    rw [mu_self, show gI (mu U 5 L' 9) 2 = nI j from e2, show gI (mu U 5 L' 9) 0 = nI lo from e0]
    refine zfirstL (L := mu U 5 L' 5) hL' hj (by omega) (by omega) ?_
    rintro _ rfl
    rw [mu_self, nI_add, ← (M_1 (hi - lo) j lo hi (Nat.le_refl _) hlo' (by omega)).2 hlo]
    rintro _ rfl
    exact hq (mu U 5 L') hM hR (AgU_mu (AgU_r _ _) (by decide) _)
/-- what a call that weighs leaves -/
def RNx (o : Option (List zL)) (v : Nat) (U : CS) (V : ST) (U' : CS) (V' : ST) : Prop := (RMe (U' 6) o v ∧ RLd true (U' 5) ∧ Ag [1, 8] (U' 2) (U 2)) ∧ AgU [2, 5, 6, 9] U' U ∧ Ag kM V' V
theorem zmeanR {V L : ST} {o : Option (List zL)} {N J lo hi j : Nat} (hL : RLw L V o) (v1 : gI V 1 = nI N) (v2 : gI V 2 = nI J) (hlo : lo ≤ hi) (hhi : hi ≤ N) (hN : N ≤ 60) (hj : j ≤ 6) {a3 : Int32} (ha : a3 = 0 ∨ a3 = 1) {Q : Int32 → ST → Prop}
    (hq : ∀ V' : ST, Ag kM V' V → Q (if M (ew (fun h => wt o h N J) lo hi) j lo hi < zF then mval a3 (M (ew (fun h => wt o h N J) lo hi) j lo hi) (Wt (ew (fun h => wt o h N J) lo hi) lo hi) else -2) V') : wp_X12_mean (nI (100 * lo + hi)) (nI j) a3 V Q := by
  have hz := zF_e
  obtain ⟨e1, e2⟩ := s100 (lo := lo) (hi := hi) (by omega) hlo
  have hw : okw (fun h => wt o h N J) := fun h _ => wt_le o h N J
  have w1 := Wt_e1 (fun h => wt o h N J) hlo
  have w2 := Wt_le (ew_ok hw lo hi) (lo := lo) (hi := hi) (by omega)
  have hm := M_lez (w := ew (fun h => wt o h N J) lo hi) j (ew_ok hw lo hi) hlo (by omega)
  unfold wp_X12_mean wp_X12_mean_p27 wp_X12_mean_p93
  refine zpartY v1 hN hlo hhi ⟨fun c => absurd c (by decide), fun _ => zIn (lo := 0) (hi := 6) (by omega) hj (by decide) ⟨fun c => absurd c (by decide), fun _ => zI01 ha ⟨fun _ => ⟨by decide, ?_⟩, fun c => absurd c (by decide)⟩⟩⟩
  rw [e2, e1]
  rintro _ rfl
  refine ⟨by decide, ?_⟩
  rintro _ rfl
  refine zmeanOf hL v1 v2 hlo hhi hN hj fun V' hA _ => ?_
  have hq := hq V' hA.1
  have hW := hA.2 (hi + 1) (by omega) (Nat.le_refl _)
  rw [show psm (ew (fun h => wt o h N J) lo hi) (hi + 1) - psm (ew (fun h => wt o h N J) lo hi) lo = Wt (ew (fun h => wt o h N J) lo hi) lo hi from rfl] at hW
  generalize M (ew (fun h => wt o h N J) lo hi) j lo hi = c at hq hm ⊢
  generalize Wt (ew (fun h => wt o h N J) lo hi) lo hi = all at hq hW w1 w2
  have g1 := gcd1 (c := c) w1
  have g2 := gcdle (c := c) w1
  refine ⟨fun c2 => ⟨by decide, ?_⟩, fun c2 => ?_⟩
  · have c2 := (nI_ltI (b := 1000000) (by omega) (by decide)).mp c2
    rw [if_pos (by omega)] at hq
    rintro _ rfl
    rw [nI_1]
    rintro _ rfl
    refine ⟨nI_in (by omega) (by decide), ?_⟩
    rw [nI_clamp (by omega), hW]
    rintro _ rfl
    refine zgcdR (by omega) (by omega) ?_
    have hne : ¬ nI (Nat.gcd c all) = 0 := fun e0 => by
      have := (nI_z0 (by omega)).mp e0
      omega
    unfold mval at hq
    refine ⟨fun ca => ⟨hne, ?_⟩, fun ca => ⟨hne, ?_⟩⟩
    · rw [if_neg ca] at hq
      rw [pk_div (by omega) (by omega) (by omega)]
      rintro _ rfl
      exact hq
    · rw [if_pos ca] at hq
      rw [pk_div (by omega) (by omega) (by omega)]
      rintro _ rfl
      exact hq
  · have c2 := mt (nI_ltI (a := c) (b := 1000000) (by omega) (by decide)).mpr c2
    rw [if_neg (by omega)] at hq
    exact hq
theorem zmeanN {V : ST} {N : Nat} {a1 a2 a3 : Int32} (v1 : gI V 1 = nI N) (hN : N ≤ 60) (h : badS N a1 ∨ ((∃ lo hi : Nat, a1 = nI (100 * lo + hi) ∧ lo ≤ hi ∧ hi ≤ N) ∧ ((a2 < 0 ∨ 6 < a2) ∨ ((¬ a2 < 0 ∧ ¬ 6 < a2) ∧ (a3 < 0 ∨ 1 < a3))))) {Q : Int32 → ST → Prop} (hq : Q (-1) V) : wp_X12_mean a1 a2 a3 V Q := by
  unfold wp_X12_mean wp_X12_mean_p27
  rcases h with h | ⟨⟨lo, hi, rfl, h1, h2⟩, h | ⟨⟨h3, h4⟩, h⟩⟩
  · exact zpartN v1 hN h ⟨fun _ => hq, fun c => absurd rfl c⟩
  · exact zpartY v1 hN h1 h2 ⟨fun c => absurd c (by decide), fun _ => zIb h ⟨fun _ => hq, fun c => absurd rfl c⟩⟩
  · exact zpartY v1 hN h1 h2 ⟨fun c => absurd c (by decide), fun _ => zin (fun _ _ => ⟨fun c => absurd c (by decide), fun _ => zIb h ⟨fun c => absurd rfl c, fun _ => hq⟩⟩) (fun p => (p.elim h3 h4).elim)⟩
theorem zmean {U : CS} {V : ST} {o : Option (List zL)} {v : Nat} (hT : RT (U 1) V) (hL : RLw (U 2) V o) (hv : gI (U 2) 9 = nI v) (hv2 : v < 100000) (hM : RMe (U 6) o v) (hE : RLd true (U 5)) (a1 a2 a3 : Int32) : Sim (wp_X11_mean a1 a2 a3 U) (wp_X12_mean a1 a2 a3 V) (RNx o v U V) := by
  intro Q h
  obtain ⟨N, J, d, p, n1, n2, hJ, hd, hp, v1, v2, v3, v4, t1, t2, t3, t4⟩ := RT_vals hT
  unfold wp_X11_mean wp_X11_mean_p18
  rcases span_or N a1 with ⟨lo, hi, rfl, hlo, hhi, hh⟩ | hb
  rotate_left
  · exact zasksN t1 n2 hb ⟨fun _ => h _ _ fun K hK => zmeanN v1 n2 (.inl hb) (hK V ⟨⟨hM, hE, Ag_r _ _⟩, AgU_r _ _, Ag_r _ _⟩), fun c => absurd rfl c⟩
  refine zasksY t1 n2 hlo hhi (fun j S ej hj hs => ⟨fun c => absurd c (by decide), fun _ => ?_⟩) (fun hb => ⟨fun _ => h _ _ fun K hK => zmeanN v1 n2 (.inr ⟨⟨lo, hi, rfl, hlo, hhi⟩, .inl hb⟩) (hK V ⟨⟨hM, hE, Ag_r _ _⟩, AgU_r _ _, Ag_r _ _⟩), fun c => absurd rfl c⟩)
  subst ej
  rcases what_or a3 with ha | ha
  rotate_left
  · refine zWb ha ⟨fun c => absurd rfl c, fun _ => h _ _ fun K hK => zmeanN v1 n2 (.inr ⟨⟨lo, hi, rfl, hlo, hhi⟩, .inr ⟨⟨nI_pos (by omega), fun c => ?_⟩, ha⟩⟩) (hK V ⟨⟨hM, hE, Ag_r _ _⟩, AgU_mu (AgU_r _ _) (by decide) _, Ag_r _ _⟩)⟩
    have := (nI_ltI (a := 6) (b := j) (by decide) (by omega)).mp c
    omega
  refine zW01 ha ⟨fun _ => ?_, fun c => absurd c (by decide)⟩
  refine zweighU (U := mu U 9 S) hL hv hv2 hM t1 t2 n2 hJ fun m' L' w hm hA => ?_
  obtain ⟨rd, hE', -⟩ := id hm
  have hw : okw w := hE'.1.1
  have w2 := Wt_le hw (lo := lo) (hi := hi) (by omega)
  refine zwOf (u := fun i => mu (mu (mu U 9 S) 6 m') 2 L' ([6, 9].getD i 0)) n2 hw hE'.2.1 hs.1 hs.2.1 hlo hhi ?_
  rw [emb_self]
  rintro _ rfl
  have key : wp_X11_mean_p54 a3 (if Wt w lo hi = 0 then 1 else 0) (mu (mu (mu U 9 S) 6 m') 2 L') Q := by
    refine zmeanC (U := mu (mu (mu U 9 S) 6 m') 2 L') hm hE hs n2 hlo hhi hj fun U' g1 g2 g3 => h _ _ fun K hK => ?_
    obtain ⟨c1, c2, c3⟩ := ew_cg (w := w) (w' := fun h => wt o h N J) j hlo (by omega) (fun k _ k2 => hE'.2.2 k (by omega))
    rw [c1, c3] at hK
    refine zmeanR hL v1 v2 hlo hhi n2 hj ha fun V' hV => hK V' ⟨⟨ME_e g1 hv2 n2 hJ, g2, ?_⟩, AgU_t (AgU_m g3 (by decide)) (AgU_mu (AgU_mu (AgU_mu (AgU_r _ _) (by decide) _) (by decide) _) (by decide) _), hV⟩
    rw [g3 2 (by decide)]
    exact hA
  refine ⟨fun c => ?_, fun c => ?_⟩
  · rw [if_neg (mt (nI_z0 (n := Wt w lo hi) (by omega)).mpr c)] at key
    exact key
  · rw [if_pos ((nI_z0 (n := Wt w lo hi) (by omega)).mp c)] at key
    exact key
theorem zmeanFR {V L : ST} {o : Option (List zL)} {N J lo hi j : Nat} (hL : RLw L V o) (v1 : gI V 1 = nI N) (v2 : gI V 2 = nI J) (hlo : lo ≤ hi) (hhi : hi ≤ N) (hN : N ≤ 60) (hj : j ≤ 6) {Q : Int32 → ST → Prop}
    (hq : ∀ V' : ST, Ag kM V' V → Q (if lo = hi ∨ j = 0 then -2 else nI (lo + (BM (ew (fun h => wt o h N J) lo hi) j lo hi).2)) V') : wp_X12_meanFirst (nI (100 * lo + hi)) (nI j) V Q := by
  have hz := zF_e
  obtain ⟨e1, e2⟩ := s100 (lo := lo) (hi := hi) (by omega) hlo
  have hw : okw (fun h => wt o h N J) := fun h _ => wt_le o h N J
  have hm := M_lez (w := ew (fun h => wt o h N J) lo hi) j (ew_ok hw lo hi) hlo (by omega)
  unfold wp_X12_meanFirst wp_X12_meanFirst_p18 wp_X12_meanFirst_p49
  refine zpartY v1 hN hlo hhi ⟨fun c => absurd c (by decide), fun _ => zIn (lo := 0) (hi := 6) (by omega) hj (by decide) ⟨fun _ => ⟨by decide, ?_⟩, fun c => absurd c (by decide)⟩⟩
  rw [e2, e1]
  rintro _ rfl
  refine ⟨by decide, ?_⟩
  rintro _ rfl
  refine ⟨fun c => ?_, fun c => ⟨by decide, ?_⟩⟩
  · have c := (nI_eq (by omega) (by omega)).mp c
    have hq := hq V (Ag_r _ _)
    rw [if_pos (.inl c)] at hq
    exact hq
  have c := mt (nI_eq (a := lo) (b := hi) (by omega) (by omega)).mpr c
  rintro _ rfl
  refine ⟨by decide, ?_⟩
  rintro _ rfl
  refine zmeanOf hL v1 v2 hlo hhi hN hj fun V' hA h31 => ?_
  have hq := hq V' hA.1
  by_cases c0 : j = 0
  · subst c0
    rw [if_pos (.inr rfl)] at hq
    rw [M_0 _ (by omega) (by omega)]
    exact ⟨fun c2 => absurd c2 (by decide), fun _ => hq⟩
  · rw [if_neg (fun c2 => c2.elim c c0), ← h31 c0 (by omega)] at hq
    have hf := M_fin (ew_ok hw lo hi) (hi - lo) j lo hi (Nat.le_refl _) hlo (by omega) c0
    refine ⟨fun _ => hq, fun c2 => absurd ((nI_ltI (b := 1000000) (by omega) (by decide)).mpr (by omega)) c2⟩
theorem zmeanFN {V : ST} {N : Nat} {a1 a2 : Int32} (v1 : gI V 1 = nI N) (hN : N ≤ 60) (h : badS N a1 ∨ ((∃ lo hi : Nat, a1 = nI (100 * lo + hi) ∧ lo ≤ hi ∧ hi ≤ N) ∧ (a2 < 0 ∨ 6 < a2))) {Q : Int32 → ST → Prop} (hq : Q (-1) V) : wp_X12_meanFirst a1 a2 V Q := by
  unfold wp_X12_meanFirst wp_X12_meanFirst_p18
  rcases h with h | ⟨⟨lo, hi, rfl, h1, h2⟩, h⟩
  · exact zpartN v1 hN h ⟨fun _ => hq, fun c => absurd rfl c⟩
  · exact zpartY v1 hN h1 h2 ⟨fun c => absurd c (by decide), fun _ => zIb h ⟨fun c => absurd rfl c, fun _ => hq⟩⟩
theorem zsure {S : ST} {lo hi j : Nat} (h : sp3 S lo hi j) (hlo : lo < 2 ^ 31) (hhi : hi < 2 ^ 31) {Q : Int32 → ST → Prop} (hq : Q (if lo = hi then 1 else 0) S) : wp_X7_isSure S Q := by
  obtain ⟨e0, e1, -⟩ := h
  unfold wp_X7_isSure wp_X7_isSure_p16
  rw [e0, e1]
  refine ⟨fun c => ⟨by decide, ?_⟩, fun c => ⟨by decide, ?_⟩⟩
  · rw [if_neg (mt (nI_eq hlo hhi).mpr c)] at hq
    exact hq
  · rw [if_pos ((nI_eq hlo hhi).mp c)] at hq
    exact hq
theorem zmeanFirst {U : CS} {V : ST} {o : Option (List zL)} {v : Nat} (hT : RT (U 1) V) (hL : RLw (U 2) V o) (hv : gI (U 2) 9 = nI v) (hv2 : v < 100000) (hM : RMe (U 6) o v) (hE : RLd true (U 5)) (a1 a2 : Int32) : Sim (wp_X11_meanFirst a1 a2 U) (wp_X12_meanFirst a1 a2 V) (RNx o v U V) := by
  intro Q h
  obtain ⟨N, J, d, p, n1, n2, hJ, hd, hp, v1, v2, v3, v4, t1, t2, t3, t4⟩ := RT_vals hT
  unfold wp_X11_meanFirst wp_X11_meanFirst_p31
  rcases span_or N a1 with ⟨lo, hi, rfl, hlo, hhi, hh⟩ | hb
  rotate_left
  · exact zasksN t1 n2 hb ⟨fun c => absurd rfl c, fun _ => h _ _ fun K hK => zmeanFN v1 n2 (.inl hb) (hK V ⟨⟨hM, hE, Ag_r _ _⟩, AgU_r _ _, Ag_r _ _⟩)⟩
  refine zasksY t1 n2 hlo hhi (fun j S ej hj hs => ⟨fun _ => ?_, fun c => absurd c (by decide)⟩) (fun hb => ⟨fun c => absurd rfl c, fun _ => h _ _ fun K hK => zmeanFN v1 n2 (.inr ⟨⟨lo, hi, rfl, hlo, hhi⟩, hb⟩) (hK V ⟨⟨hM, hE, Ag_r _ _⟩, AgU_r _ _, Ag_r _ _⟩)⟩)
  subst ej
  have hA9 : AgU [2, 5, 6, 9] (mu U 9 S) U := AgU_mu (AgU_r _ _) (by decide) _
  refine zsure (S := mu U 9 S 9) hs (by omega) (by omega) ?_
  rintro _ rfl
  rw [mu_self]
  by_cases c : lo = hi
  · rw [if_pos c]
    refine ⟨fun _ => h _ _ fun K hK => zmeanFR hL v1 v2 hlo hhi n2 hj fun V' hV => ?_, fun c => absurd c (by decide)⟩
    rw [if_pos (.inl c)]
    exact hK V' ⟨⟨hM, hE, Ag_r _ _⟩, hA9, hV⟩
  rw [if_neg c]
  refine ⟨fun c => absurd rfl c, fun _ => ?_⟩
  rw [show gI (mu U 9 S 9) 2 = nI j from hs.2.2]
  refine ⟨fun c0 => ?_, fun c0 => ?_⟩
  rotate_left
  · have c0 := (nI_z0 (by omega)).mp c0
    refine h _ _ fun K hK => zmeanFR hL v1 v2 hlo hhi n2 hj fun V' hV => ?_
    rw [if_pos (.inr c0)]
    exact hK V' ⟨⟨hM, hE, Ag_r _ _⟩, hA9, hV⟩
  have c0 := mt (nI_z0 (n := j) (by omega)).mpr c0
  refine zweighU (U := mu U 9 S) hL hv hv2 hM t1 t2 n2 hJ fun m' L' w hm hA => ?_
  obtain ⟨rd, hE', -⟩ := id hm
  refine zfbm9 (U := mu (mu (mu U 9 S) 6 m') 2 L') hm hE hs n2 (by omega) hhi hj c0 fun U' g1 g2 g3 => h _ _ fun K hK => ?_
  obtain ⟨c1, c2, c3⟩ := ew_cg (w := w) (w' := fun h => wt o h N J) j hlo (by omega) (fun k _ k2 => hE'.2.2 k (by omega))
  rw [c2 (by omega)] at hK
  refine zmeanFR hL v1 v2 hlo hhi n2 hj fun V' hV => ?_
  rw [if_neg (fun c2 => c2.elim c c0)]
  refine hK V' ⟨⟨ME_e g1 hv2 n2 hJ, g2, ?_⟩, AgU_t (AgU_m g3 (by decide)) (AgU_mu (AgU_mu hA9 (by decide) _) (by decide) _), hV⟩
  rw [g3 2 (by decide)]
  exact hA

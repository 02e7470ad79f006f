theorem zforgetM {w rd : Nat → Nat} {m : ST} {h : Nat} (hh : h ≤ 60) (b1 : okw w) (b2 : ∀ h : Nat, h ≤ 60 → gA m 0 h = nI (w h)) (b3 : gA m 1 0 = 0) (b4 : ∀ j : Nat, j ≤ 6 → rd j ≤ 61 ∧ gA m 4 j = nI (rd j)) (b5 : ∀ j lo hi : Nat, j ≤ 6 → lo ≤ hi → hi < rd j → hi < h → CM m w j lo hi ∧ (j ≠ 0 → lo < hi → FM m w j lo hi)) {Q : ST → Prop} (hq : ∀ (m' : ST) (rd' : Nat → Nat), RMb m' w rd' → (∀ j : Nat, j ≤ 6 → rd' j ≤ h) → Ag [4] m' m → Q m') : wp_X4_forgetFrom (nI h) m Q := by
  unfold wp_X4_forgetFrom wp_X4_forgetFrom_p2
  refine ⟨fun x1 x2 u => x1 = nI h ∧ ∃ (j : Nat) (rd' : Nat → Nat), j ≤ 7 ∧ x2 = nI j ∧ (∀ j : Nat, j ≤ 6 → rd' j ≤ 61 ∧ gA u 4 j = nI (rd' j)) ∧ (∀ j lo hi : Nat, j ≤ 6 → lo ≤ hi → hi < rd' j → hi < h → CM m w j lo hi ∧ (j ≠ 0 → lo < hi → FM m w j lo hi)) ∧ (∀ j' : Nat, j' < j → rd' j' ≤ h) ∧ Ag [4] u m, fun _ x2 _ => 8 - x2.toNatClampNeg, ⟨rfl, 0, rd, by omega, rfl, b4, b5, fun j' c => absurd c (Nat.not_lt_zero _), Ag_r _ _⟩, ?_⟩
  rintro _ _ u ⟨rfl, j, rd', hj, rfl, b4, b5, hr, hA⟩
  unfold wp_X4_forgetFrom_p2b
  refine ⟨fun c => ?_, fun c => ?_⟩
  · have := (nI_ltI (a := 6) (by decide) (by omega)).mp c
    have f2 : gG u 2 = gG m 2 := Ag_G hA 2 (by decide)
    have f3 : gG u 3 = gG m 3 := Ag_G hA 3 (by decide)
    refine hq u rd' ⟨b1, by rw [Ag_A hA 0 (by decide)]; exact b2, by rw [Ag_A hA 1 (by decide)]; exact b3, b4, fun k lo hi hk hl hlt => ?_⟩ (fun j' hj' => hr j' (by omega)) hA
    have q := b5 k lo hi hk hl hlt (by have := hr k (by omega); omega)
    unfold CM FM at q ⊢
    rw [f2, f3]
    exact q
  have hj6 : j ≤ 6 := by
    have := mt (nI_ltI (a := 6) (b := j) (by decide) (by omega)).mpr c
    omega
  have hrj := b4 j hj6
  refine ⟨nI_in (by omega) (by decide), ?_⟩
  rw [nI_clamp (by omega), hrj.2]
  rintro _ rfl
  rw [zminI (by omega) (by omega)]
  rintro _ rfl
  refine ⟨nI_in (by omega) (by decide), ?_⟩
  rintro _ rfl
  rw [nI_1]
  rintro _ rfl
  refine ⟨⟨rfl, j + 1, fun k => if k = j then (if h < rd' j then h else rd' j) else rd' k, by omega, rfl, fun k hk => ?_, fun k lo hi hk hl hlt hlh => ?_, fun k hk => ?_, Ag_sA hA (by decide) _⟩, ?_⟩
  · try dsimp only
    by_cases ck : k = j
    · subst ck
      rw [if_pos rfl]
      exact ⟨by split <;> omega, Eq.trans (b := upd (gA u 4) k _ k) rfl pk_us⟩
    · rw [if_neg ck]
      exact ⟨(b4 k hk).1, (Eq.trans (b := upd (gA u 4) j _ k) rfl (pk_un ck)).trans (b4 k hk).2⟩
  · dsimp only at hlt
    refine b5 k lo hi hk hl ?_ hlh
    by_cases ck : k = j
    · rw [if_pos ck] at hlt
      rw [ck]
      split at hlt <;> omega
    · rw [if_neg ck] at hlt
      exact hlt
  · try dsimp only
    by_cases ck : k = j
    · rw [if_pos ck]
      split <;> omega
    · rw [if_neg ck]
      exact hr k (by omega)
  · try dsimp only
    rw [nI_clamp (by omega), nI_clamp (by omega)]
    omega
/-- the means have been weighed by the law in force, with the tower's steps and jars -/
def WE (m : ST) (o : Option (List zL)) (N J : Nat) (w rd : Nat → Nat) : Prop := RMb m w rd ∧ RMs m w N ∧ ∀ h : Nat, h ≤ N → w h = wt o h N J
/-- what the means remember -/
def RMe (m : ST) (o : Option (List zL)) (v : Nat) : Prop := ∃ w rd : Nat → Nat, RMb m w rd ∧ (gI m 5 = -1 ∨ ∃ s N J : Nat, s ≤ v ∧ v < 100000 ∧ N ≤ 60 ∧ J ≤ 6 ∧ gI m 5 = nI s ∧ gI m 6 = nI N ∧ gI m 7 = nI J ∧ (s = v → RMs m w N ∧ ∀ h : Nat, h ≤ N → w h = wt o h N J))
theorem psm_cgl {w w' : Nat → Nat} : ∀ n : Nat, (∀ h : Nat, h < n → w h = w' h) → psm w n = psm w' n
  | 0, _ => rfl
  | n + 1, h => by
    show psm w n + w n = psm w' n + w' n
    rw [psm_cgl n (fun k hk => h k (by omega)), h n (by omega)]
theorem zweigh40 {u : CS} {V : ST} {o : Option (List zL)} {v N J : Nat} {w rd : Nat → Nat} (hL : RLw (u 1) V o) (hv : gI (u 1) 9 = nI v) (hb : RMb (u 0) w rd) (hN : N ≤ 60) {Q : CS → Prop}
    (hq : ∀ (m' L' : ST) (w' rd' : Nat → Nat), WE m' o N J w' rd' → gI m' 5 = nI v → gI m' 6 = nI N → gI m' 7 = nI J → Ag [1, 8] L' (u 1) → Q (mu (mu u 0 m') 1 L')) : wp_X4_weigh_p40 (nI N) (nI J) u Q := by
  unfold wp_X4_weigh_p40
  rw [hv]
  rintro _ rfl _ rfl _ rfl
  generalize hX : mu (mu (mu u 0 (sI (u 0) 5 (nI v))) 0 (sI (mu u 0 (sI (u 0) 5 (nI v)) 0) 6 (nI N))) 0 (sI (mu (mu u 0 (sI (u 0) 5 (nI v))) 0 (sI (mu u 0 (sI (u 0) 5 (nI v)) 0) 6 (nI N)) 0) 7 (nI J)) = X
  have hX2 : X = mu (mu u 0 (sI (sI (sI (u 0) 5 (nI v)) 6 (nI N)) 7 (nI J))) 1 (u 1) := by
    subst hX
    funext k
    by_cases c1 : k = 1
    · subst c1
      rfl
    · by_cases c0 : k = 0
      · subst c0
        rfl
      · rw [mu_ne _ _ c1, mu_ne _ _ c0, mu_ne _ _ c0, mu_ne _ _ c0, mu_ne _ _ c0]
  clear hX
  subst hX2
  unfold wp_X4_weigh_p62
  refine ⟨fun x3 x4 x5 z => x3 = nI N ∧ x4 = nI J ∧ ∃ (h : Nat) (m' L' : ST) (w' rd' : Nat → Nat), h ≤ N + 1 ∧ x5 = nI h ∧ z = mu (mu u 0 m') 1 L' ∧ RMb m' w' rd' ∧ (∀ k : Nat, k ≤ h → gA m' 1 k = nI (psm w' k)) ∧ (∀ k : Nat, k < h → w' k = wt o k N J) ∧ gI m' 5 = nI v ∧ gI m' 6 = nI N ∧ gI m' 7 = nI J ∧ Ag [1, 8] L' (u 1), fun _ _ x5 _ => 62 - x5.toNatClampNeg, ⟨rfl, rfl, 0, _, u 1, w, rd, by omega, rfl, rfl, hb, fun k hk => ?_, fun k hk => absurd hk (Nat.not_lt_zero _), rfl, rfl, rfl, Ag_r _ _⟩, ?_⟩
  · have : k = 0 := by omega
    subst this
    exact hb.2.2.1
  rintro _ _ _ _ ⟨rfl, rfl, h, m', L', w', rd', hh, rfl, rfl, hb', hs, hw, i5, i6, i7, hA⟩
  unfold wp_X4_weigh_p62b wp_X4_weigh_p138
  have fin : h = N + 1 → Q (mu (mu u 0 m') 1 L') := by
    rintro rfl
    exact hq m' L' w' rd' ⟨hb', hs, fun k hk => hw k (by omega)⟩ i5 i6 i7 hA
  refine ⟨fun c => fin ?_, fun c => ⟨fun c2 => fin ?_, fun c2 => ?_⟩⟩
  · have := (nI_ltI (by omega) (by omega)).mp c
    omega
  · have := (nI_leI (a := 61) (by decide) (by omega)).mp c2
    omega
  have hle : h ≤ N := by
    have := mt (nI_ltI (a := N) (b := h) (by omega) (by omega)).mpr c
    omega
  have e1 : mu (mu u 0 m') 1 L' 1 = L' := rfl
  rw [e1]
  refine zwtC (RLw_ag hL hA (by decide) (by decide) (Ag_r [] V) (by decide) (by decide) (by decide) (by decide) (by decide) (by decide)) fun L2 hL2 => ?_
  have hA2 : Ag [1, 8] L2 (u 1) := Ag_t hL2 hA
  have hw9 := wt_le o h N J
  rintro _ rfl
  have e81 : mu (mu (mu u 0 m') 1 L') 1 L2 = mu (mu u 0 m') 1 L2 := by
    funext k
    by_cases c1 : k = 1
    · subst c1
      rfl
    · rw [mu_ne _ _ c1, mu_ne _ _ c1, mu_ne _ _ c1]
  rw [e81]
  refine ⟨nI_in (by omega) (by decide), ?_⟩
  rw [nI_clamp (by omega)]
  rintro _ rfl
  have e0 : mu (mu u 0 m') 1 L2 0 = m' := rfl
  rw [e0, hb'.2.1 h (by omega)]
  have hw'h := hb'.1 h (by omega)
  -- the sum is laid, and on
  have fin2 : ∀ (m2 : ST) (w2 rd2 : Nat → Nat), RMb m2 w2 rd2 → (∀ k : Nat, k ≤ h → gA m2 1 k = nI (psm w2 k)) → (∀ k : Nat, k < h + 1 → w2 k = wt o k N J) → gI m2 5 = nI v → gI m2 6 = nI N → gI m2 7 = nI J → wp_X4_weigh_p113 (nI N) (nI J) (nI h) (nI (wt o h N J)) (mu (mu u 0 m2) 1 L2) (fun yx3 yx4 yx5 yu => (yx3 = nI N ∧ yx4 = nI J ∧ ∃ (h : Nat) (m' L' : ST) (w' rd' : Nat → Nat), h ≤ N + 1 ∧ yx5 = nI h ∧ yu = mu (mu u 0 m') 1 L' ∧ RMb m' w' rd' ∧ (∀ k : Nat, k ≤ h → gA m' 1 k = nI (psm w' k)) ∧ (∀ k : Nat, k < h → w' k = wt o k N J) ∧ gI m' 5 = nI v ∧ gI m' 6 = nI N ∧ gI m' 7 = nI J ∧ Ag [1, 8] L' (u 1)) ∧ 62 - yx5.toNatClampNeg < 62 - (nI h).toNatClampNeg) Q := by
    intro m2 w2 rd2 g1 g2 g3 g4 g5 g6
    unfold wp_X4_weigh_p113
    rw [show nI h + (1 : Int32) = nI (h + 1) from nI_1 h]
    rintro _ rfl
    refine ⟨nI_in (by omega) (by decide), ?_⟩
    rw [nI_clamp (by omega), show gA (mu (mu u 0 m2) 1 L2 0) 1 h = nI (psm w2 h) from g2 h (Nat.le_refl _)]
    rintro _ rfl
    rw [nI_add]
    rintro _ rfl
    refine ⟨nI_in (by omega) (by decide), ?_⟩
    rintro _ rfl _ rfl
    rw [nI_clamp (by omega)]
    have ep : psm w2 (h + 1) = psm w2 h + wt o h N J := by
      show psm w2 h + w2 h = _
      rw [g3 h (by omega)]
    refine ⟨⟨rfl, rfl, h + 1, sA m2 1 (upd (gA m2 1) (h + 1) (nI (psm w2 h + wt o h N J))), L2, w2, rd2, by omega, rfl, ?_, ⟨g1.1, g1.2.1, ?_, g1.2.2.2.1, g1.2.2.2.2⟩, fun k hk => ?_, g3, g4, g5, g6, hA2⟩, ?_⟩
    · funext k
      by_cases c1 : k = 1
      · subst c1
        rfl
      · by_cases c0 : k = 0
        · subst c0
          rfl
        · rw [mu_ne _ _ c0, mu_ne _ _ c1, mu_ne _ _ c0, mu_ne _ _ c1, mu_ne _ _ c0]
    · exact (Eq.trans (b := upd (gA m2 1) (h + 1) (nI (psm w2 h + wt o h N J)) 0) rfl (pk_un (by omega))).trans g1.2.2.1
    · by_cases ck : k = h + 1
      · subst ck
        rw [ep]
        exact Eq.trans (b := upd (gA m2 1) (h + 1) (nI (psm w2 h + wt o h N J)) (h + 1)) rfl pk_us
      · exact (Eq.trans (b := upd (gA m2 1) (h + 1) (nI (psm w2 h + wt o h N J)) k) rfl (pk_un ck)).trans (g2 k (by omega))
    · try dsimp only
      first | omega | (rw [nI_clamp (by omega), nI_clamp (by omega)]; omega)
  refine ⟨fun c3 => ?_, fun c3 => ⟨nI_in (by omega) (by decide), ?_⟩⟩
  · have e := (nI_eq (by omega) (by omega)).mp c3
    refine fin2 m' w' rd' hb' hs (fun k hk => ?_) i5 i6 i7
    by_cases ck : k = h
    · rw [ck]
      exact e.symm
    · exact hw k (by omega)
  · rintro _ rfl
    generalize hY : mu (mu (mu u 0 m') 1 L2) 0 (sA m' 0 (upd (gA m' 0) h (nI (wt o h N J)))) = Y
    have hY2 : Y = mu (mu u 0 (sA m' 0 (upd (gA m' 0) h (nI (wt o h N J))))) 1 L2 := by
      subst hY
      funext k
      by_cases c1 : k = 1
      · subst c1
        rfl
      · by_cases c0 : k = 0
        · subst c0
          rfl
        · rw [mu_ne _ _ c0, mu_ne _ _ c1, mu_ne _ _ c0, mu_ne _ _ c1, mu_ne _ _ c0]
    clear hY
    subst hY2
    -- the new weight, with nothing ready from there on
    obtain ⟨b1, b2, b3, b4, b5⟩ := hb'
    have hlow : ∀ k : Nat, k < h → (if k = h then wt o h N J else w' k) = w' k := fun k hk => if_neg (by omega)
    have hcg : ∀ j lo hi : Nat, lo ≤ hi → hi < h → M (fun k => if k = h then wt o h N J else w' k) j lo hi = M w' j lo hi ∧ (lo < hi → BM (fun k => if k = h then wt o h N J else w' k) j lo hi = BM w' j lo hi) := fun j lo hi hl hlt => M_cg (hi - lo) j lo hi (Nat.le_refl _) hl (by omega) (fun k _ k2 => hlow k (by omega))
    refine zforgetM (m := sA m' 0 (upd (gA m' 0) h (nI (wt o h N J)))) (h := h) (w := fun k => if k = h then wt o h N J else w' k) (rd := rd') (by omega) (fun k hk => ?_) (fun k hk => ?_) b3 b4 (fun j lo hi hj hl hlt hlh => ?_) fun m2 rd2 g1 g2 g3 => ?_
    · try dsimp only
      split
      · exact hw9
      · exact b1 k hk
    · by_cases ck : k = h
      · subst ck
        rw [if_pos rfl]
        exact Eq.trans (b := upd (gA m' 0) k (nI (wt o k N J)) k) rfl pk_us
      · rw [if_neg ck]
        exact (Eq.trans (b := upd (gA m' 0) h (nI (wt o h N J)) k) rfl (pk_un ck)).trans (b2 k hk)
    · have q := b5 j lo hi hj hl hlt
      have c := hcg j lo hi hl hlh
      unfold CM FM at q ⊢
      rw [c.1]
      exact ⟨q.1, fun c1 c2 => by rw [c.2 c2]; exact q.2 c1 c2⟩
    · rintro _ rfl
      have e110 : mu (mu (mu u 0 (sA m' 0 (upd (gA m' 0) h (nI (wt o h N J))))) 1 L2) 0 m2 = mu (mu u 0 m2) 1 L2 := by
        funext k
        by_cases c1 : k = 1
        · subst c1
          rfl
        · by_cases c0 : k = 0
          · subst c0
            rfl
          · rw [mu_ne _ _ c0, mu_ne _ _ c1, mu_ne _ _ c0, mu_ne _ _ c1, mu_ne _ _ c0]
      rw [e110]
      refine fin2 m2 _ rd2 g1 (fun k hk => ?_) (fun k hk => ?_) ((Ag_I g3 5 (by decide)).trans i5) ((Ag_I g3 6 (by decide)).trans i6) ((Ag_I g3 7 (by decide)).trans i7)
      · rw [Ag_A g3 1 (by decide)]
        rw [psm_cgl k (fun q hq => hlow q (by omega))]
        exact hs k hk
      · try dsimp only
        by_cases ck : k = h
        · rw [if_pos ck, ck]
        · rw [if_neg ck]
          exact hw k (by omega)
theorem zweigh {u : CS} {V : ST} {o : Option (List zL)} {v N J : Nat} (hL : RLw (u 1) V o) (hv : gI (u 1) 9 = nI v) (hv2 : v < 100000) (hM : RMe (u 0) o v) (t1 : gA (u 2) 0 0 = nI N) (t2 : gA (u 2) 0 1 = nI J) (hN : N ≤ 60) (hJ : J ≤ 6) {Q : CS → Prop}
    (hq : ∀ (m' L' : ST) (w' rd' : Nat → Nat), WE m' o N J w' rd' → gI m' 5 = nI v → gI m' 6 = nI N → gI m' 7 = nI J → Ag [1, 8] L' (u 1) → Q (mu (mu u 0 m') 1 L')) : wp_X4_weigh u Q := by
  obtain ⟨w, rd, hb, hm⟩ := hM
  unfold wp_X4_weigh
  refine zstepsT ?_
  rintro _ rfl
  rw [show mu u 2 (u 2) = u from mu_self u 2]
  refine zjarsT ?_
  rintro _ rfl
  rw [show mu u 2 (u 2) = u from mu_self u 2, t1, t2]
  have run : wp_X4_weigh_p40 (nI N) (nI J) u Q := zweigh40 hL hv hb hN hq
  refine ⟨fun _ => run, fun c => ⟨fun _ => run, fun c2 => ⟨fun _ => run, fun c3 => ?_⟩⟩⟩
  rcases hm with e | ⟨s, N0, J0, hs, _, hN0, hJ0, i5, i6, i7, hcur⟩
  · exact absurd (hv.symm.trans (c.trans e)) (nI_nm1 (by omega))
  · have es : v = s := (nI_eq (by omega) (by omega)).mp (hv.symm.trans (c.trans i5))
    have eN : N = N0 := (nI_eq (by omega) (by omega)).mp (c2.trans i6)
    have eJ : J = J0 := (nI_eq (by omega) (by omega)).mp (c3.trans i7)
    subst es eN eJ
    obtain ⟨g1, g2⟩ := hcur rfl
    have := hq (u 0) (u 1) w rd ⟨hb, g1, g2⟩ i5 i6 i7 (Ag_r _ _)
    rw [mu_self] at this
    rw [show mu u 1 (u 1) = u from mu_self u 1] at this
    exact this
theorem RMe_of {m : ST} {o : Option (List zL)} {v N J : Nat} {w rd : Nat → Nat} (h : WE m o N J w rd) (i5 : gI m 5 = nI v) (i6 : gI m 6 = nI N) (i7 : gI m 7 = nI J) (hv2 : v < 100000) (hN : N ≤ 60) (hJ : J ≤ 6) : RMe m o v := ⟨w, rd, h.1, .inr ⟨v, N, J, Nat.le_refl _, hv2, hN, hJ, i5, i6, i7, fun _ => ⟨h.2.1, h.2.2⟩⟩⟩
theorem zwTo {m : ST} {w : Nat → Nat} {N k : Nat} (hN : N ≤ 60) (hs : RMs m w N) (hk : k ≤ N) {Q : Int32 → ST → Prop} (hq : Q (nI (psm w (k + 1))) m) : wp_X4_weightTo (nI k) m Q := by
  unfold wp_X4_weightTo wp_X4_weightTo_p22
  refine zWin (lo := 0) (hi := 60) (by omega) (by omega) (by decide) ⟨fun c => absurd c (by decide), fun _ => ?_⟩
  rw [nI_1]
  rintro _ rfl
  refine ⟨nI_in (by omega) (by decide), ?_⟩
  rw [nI_clamp (by omega), hs (k + 1) (by omega)]
  rintro _ rfl
  exact hq
theorem zwOf {u : CS} {w : Nat → Nat} {N lo hi : Nat} (hN : N ≤ 60) (hw : okw w) (hs : RMs (u 0) w N) (e0 : gI (u 1) 0 = nI lo) (e1 : gI (u 1) 1 = nI hi) (hlo : lo ≤ hi) (hhi : hi ≤ N) {Q : Int32 → CS → Prop} (hq : Q (nI (Wt w lo hi)) u) : wp_X4_weightOf u Q := by
  unfold wp_X4_weightOf
  rw [e1]
  refine zwTo hN hs hhi ?_
  rintro _ rfl
  rw [show mu u 0 (u 0) = u from mu_self u 0, e0]
  have hm := psm_mono w (show lo ≤ hi + 1 by omega)
  have hl := psm_le hw (hi + 1) (by omega)
  rintro _ rfl
  cases lo with
  | zero =>
    unfold wp_X4_weightTo wp_X4_weightTo_p22
    refine zWb (.inl (by decide)) ⟨fun _ => ?_, fun c => absurd rfl c⟩
    rintro _ rfl
    rw [show mu u 0 (u 0) = u from mu_self u 0, show nI (psm w (hi + 1)) - (0 : Int32) = nI (psm w (hi + 1) - 0) from nI_sub (b := 0) (Nat.zero_le _)]
    rintro _ rfl
    exact hq
  | succ lo =>
    rw [nI_pred]
    refine zwTo hN hs (by omega) ?_
    rintro _ rfl
    rw [show mu u 0 (u 0) = u from mu_self u 0, nI_sub hm]
    rintro _ rfl
    exact hq

/-- the row of spans that end at hi, from L on -/
def rowM (m m' : ST) (w : Nat → Nat) (j hi L : Nat) : Prop := Ag [2, 3] m' m ∧ (∀ j' p : Nat, (j' ≠ j ∨ ∀ lo : Nat, lo ≤ hi → p ≠ pl lo hi) → gG m' 2 j' p = gG m 2 j' p ∧ gG m' 3 j' p = gG m 3 j' p) ∧ ∀ lo : Nat, L ≤ lo → lo ≤ hi → CM m' w j lo hi ∧ (j ≠ 0 → lo < hi → FM m' w j lo hi)
theorem rowM_s {m m' m2 : ST} {w : Nat → Nat} {j hi L : Nat} (h : rowM m m' w j hi (L + 1)) (hL : L ≤ hi) (h2 : putM m' m2 w j L hi) : rowM m m2 w j hi L := by
  refine ⟨Ag_t h2.1 h.1, fun j' p hne => ?_, fun lo l1 l2 => ?_⟩
  · have a := h2.2.1 j' p (fun q => by
      rcases hne with c | c
      · exact c q.1
      · exact c L hL q.2)
    have b := h.2.1 j' p hne
    exact ⟨a.1.trans b.1, a.2.trans b.2⟩
  · by_cases c : lo = L
    · subst c
      exact ⟨h2.2.2.1, h2.2.2.2⟩
    · have a := h2.2.1 j (pl lo hi) (fun q => c (pl_inj l2 hL q.2).1)
      have b := h.2.2 lo (by omega) l2
      exact ⟨a.1.trans b.1, fun q1 q2 => a.2.trans (b.2 q1 q2)⟩
theorem zfillTo {w : Nat → Nat} (hw : okw w) {m : ST} {j hi : Nat} (hj : j ≤ 6) (h2 : hi ≤ 60) (hs : ∀ k : Nat, k ≤ hi + 1 → gA m 1 k = nI (psm w k)) (hf : j ≠ 0 → ∀ a b : Nat, a ≤ b → b < hi → CM m w (j - 1) a b) {Q : ST → Prop} (hq : ∀ m' : ST, rowM m m' w j hi 0 → Q m') : wp_X4_fillTo (nI j) (nI hi) m Q := by
  have hz := zF_e
  unfold wp_X4_fillTo
  refine ⟨nI_in (by omega) (by decide), zplc h2 ⟨nI_in (pl_lt (Nat.le_refl _) h2) (by decide), ?_⟩⟩
  have hpl := pl_lt (Nat.le_refl hi) h2
  rintro _ rfl
  rw [nI_clamp (n := j) (by omega), nI_clamp (n := pl hi hi) (by omega)]
  rintro _ rfl
  generalize hX : sG m 2 (mu (gG m 2) j (upd (gG m 2 j) (pl hi hi) 0)) = X
  have hp : putM m X w j hi hi := by
    subst hX
    refine ⟨Ag_sG (Ag_r _ _) (by decide) _, fun j' p hne => ⟨?_, rfl⟩, ?_, fun _ c => absurd c (Nat.lt_irrefl _)⟩
    · show mu (gG m 2) j (upd (gG m 2 j) (pl hi hi) 0) j' p = _
      by_cases cj : j' = j
      · subst cj
        rw [mu_at, pk_un (fun e => hne ⟨rfl, e⟩)]
      · rw [mu_ne _ _ cj]
    · show mu (gG m 2) j (upd (gG m 2 j) (pl hi hi) 0) j (pl hi hi) = _
      rw [mu_at, pk_us, M_r]
      rfl
  clear hX
  have hX : rowM m X w j hi hi := rowM_s (m' := m) ⟨Ag_r _ _, fun _ _ _ => ⟨rfl, rfl⟩, fun lo a b => by omega⟩ (Nat.le_refl _) hp
  unfold wp_X4_fillTo_p17
  refine ⟨fun x1 x2 x3 u => x1 = nI j ∧ x2 = nI hi ∧ ∃ L : Nat, L ≤ hi ∧ x3 = nI L - 1 ∧ rowM m u w j hi L, fun _ _ x3 _ => (x3 + 1).toNatClampNeg, ⟨rfl, rfl, hi, Nat.le_refl _, rfl, hX⟩, ?_⟩
  rintro _ _ _ u ⟨rfl, rfl, L, hL, rfl, hu⟩
  unfold wp_X4_fillTo_p17b wp_X4_fillTo_p68
  refine ⟨fun c => ?_, fun c => ?_⟩
  · have : L = 0 := by
      cases L with
      | zero => rfl
      | succ L =>
        rw [nI_pred] at c
        exact absurd c (nI_pos (by omega))
    subst this
    exact hq u hu
  cases L with
  | zero => exact absurd (by decide) c
  | succ L =>
    rw [nI_pred]
    have nxt : ∀ u' : ST, putM u u' w j L hi → ∀ y68 : Int32, y68 = nI L + (-1) → (nI j = nI j ∧ nI hi = nI hi ∧ ∃ L : Nat, L ≤ hi ∧ y68 = nI L - 1 ∧ rowM m u' w j hi L) ∧ (y68 + 1).toNatClampNeg < (nI L + 1).toNatClampNeg := by
      rintro u' hu' _ rfl
      rw [← Int32.sub_eq_add_neg]
      refine ⟨⟨rfl, rfl, L, by omega, rfl, rowM_s hu (by omega) hu'⟩, ?_⟩
      rw [Int32.sub_add_cancel, nI_1, nI_clamp (by omega), nI_clamp (by omega)]
      omega
    have hpl2 := pl_lt (show L ≤ hi by omega) h2
    refine ⟨fun c2 => ?_, fun c2 => ?_⟩
    · have hj0 : j ≠ 0 := fun e => c2 (by rw [e]; rfl)
      rw [show nI j - (1 : Int32) = nI (j - 1) from nI_sub (b := 1) (by omega)]
      rintro _ rfl
      refine ⟨nI_in (by omega) (by decide), nI_in (by omega) (by decide), nI_in (by omega) (by decide), ?_⟩
      rw [nI_clamp (by omega), nI_clamp (by omega)]
      refine zfillM hw hj0 (show L < hi by omega) h2 (fun k hk => by rw [Ag_A hu.1 1 (by decide)]; exact hs k hk) (fun k k1 k2 => ⟨?_, ?_⟩) fun m' hm' => nxt m' hm'
      · have a := hu.2.1 (j - 1) (pl L (k - 1)) (.inl (by omega))
        exact a.1.trans (hf hj0 L (k - 1) (by omega) (by omega))
      · exact (hu.2.2 k (by omega) k2).1
    · have hj0 : j = 0 := (nI_eq (b := 0) (by omega) (by decide)).mp c2
      subst hj0
      refine ⟨nI_in (by decide) (by decide), zplc h2 ⟨nI_in hpl2 (by decide), ?_⟩⟩
      rintro _ rfl
      rw [nI_clamp (n := 0) (by decide), nI_clamp (n := pl L hi) (by omega)]
      refine nxt _ ⟨Ag_sG (Ag_r _ _) (by decide) _, fun j' p hne => ⟨?_, rfl⟩, ?_, fun c => absurd rfl c⟩
      · show mu (gG u 2) 0 (upd (gG u 2 0) (pl L hi) 268435456) j' p = _
        by_cases cj : j' = 0
        · subst cj
          rw [mu_at, pk_un (fun e => hne ⟨rfl, e⟩)]
        · rw [mu_ne _ _ cj]
      · show mu (gG u 2) 0 (upd (gG u 2 0) (pl L hi) 268435456) 0 (pl L hi) = _
        rw [mu_at, pk_us]
        have : M w 0 L hi = zF := by
          rcases M_or (w := w) (j := 0) (show L < hi by omega) h2 with e | ⟨e, -⟩
          · exact e
          · exact absurd rfl e
        rw [this]
        rfl
/-- the means as kept: weights, what is ready -/
def RMb (m : ST) (w rd : Nat → Nat) : Prop := okw w ∧ (∀ h : Nat, h ≤ 60 → gA m 0 h = nI (w h)) ∧ gA m 1 0 = 0 ∧ (∀ j : Nat, j ≤ 6 → rd j ≤ 61 ∧ gA m 4 j = nI (rd j)) ∧ ∀ j lo hi : Nat, j ≤ 6 → lo ≤ hi → hi < rd j → CM m w j lo hi ∧ (j ≠ 0 → lo < hi → FM m w j lo hi)
def RMs (m : ST) (w : Nat → Nat) (N : Nat) : Prop := ∀ k : Nat, k ≤ N + 1 → gA m 1 k = nI (psm w k)
theorem rowM_keep {m m' : ST} {w : Nat → Nat} {j hi j' lo' hi' : Nat} (h : rowM m m' w j hi 0) (hl : lo' ≤ hi') (hne : j' ≠ j ∨ hi' ≠ hi) : gG m' 2 j' (pl lo' hi') = gG m 2 j' (pl lo' hi') ∧ gG m' 3 j' (pl lo' hi') = gG m 3 j' (pl lo' hi') := by
  refine h.2.1 j' (pl lo' hi') ?_
  rcases hne with c | c
  · exact .inl c
  · exact .inr fun lo q e => c (pl_inj hl q e).2
theorem zready {w rd : Nat → Nat} {u : CS} {N lo hi J : Nat} (hM : RMb (u 0) w rd) (hS : RMs (u 0) w N) (hN : N ≤ 60) (e0 : gI (u 1) 0 = nI lo) (e1 : gI (u 1) 1 = nI hi) (e2 : gI (u 1) 2 = nI J) (hlo : lo ≤ hi) (hhi : hi ≤ N) (hJ : J ≤ 6) {Q : Int32 → CS → Prop}
    (hq : ∀ (m' : ST) (rd' : Nat → Nat), RMb m' w rd' → RMs m' w N → Ag [2, 3, 4] m' (u 0) → (∀ j : Nat, j ≤ J → hi < rd' j) → Q 1 (mu u 0 m')) : wp_X4_makesReady u Q := by
  unfold wp_X4_makesReady
  rw [e0, e1, e2]
  refine ⟨fun c => absurd c (nI_pos (by omega)), fun _ => ⟨fun c => absurd ((nI_ltI (by omega) (by omega)).mp c) (by omega), fun _ => ⟨fun c => absurd ((nI_ltI (a := 60) (by decide) (by omega)).mp c) (by omega), fun _ => ?_⟩⟩⟩
  refine zWin (lo := 0) (hi := 6) (by omega) hJ (by decide) ⟨fun _ => ?_, fun c => absurd c (by decide)⟩
  unfold wp_X4_makesReady_p44
  refine ⟨fun x2 v => ∃ (j : Nat) (m' : ST) (rd' : Nat → Nat), j ≤ J + 1 ∧ x2 = nI j ∧ v = mu u 0 m' ∧ RMb m' w rd' ∧ RMs m' w N ∧ Ag [2, 3, 4] m' (u 0) ∧ ∀ j' : Nat, j' < j → hi < rd' j', fun x2 _ => 8 - x2.toNatClampNeg, ⟨0, u 0, rd, by omega, rfl, (mu_self u 0).symm, hM, hS, Ag_r _ _, fun j' h => absurd h (Nat.not_lt_zero _)⟩, ?_⟩
  rintro _ _ ⟨j, m', rd', hj, rfl, rfl, hb, hs, hA, hrd⟩
  unfold wp_X4_makesReady_p44b
  have e1' : gI (mu u 0 m' 1) 1 = nI hi := e1
  have e2' : gI (mu u 0 m' 1) 2 = nI J := e2
  rw [e2']
  refine ⟨fun c => ⟨by decide, ?_⟩, fun c => ⟨?_, ?_⟩⟩
  · have := (nI_ltI (by omega) (by omega)).mp c
    exact hq m' rd' hb hs hA fun j' h => hrd j' (by omega)
  · have := mt (nI_ltI (a := J) (b := j) (by omega) (by omega)).mpr c
    exact nI_in (by omega) (by decide)
  have hjJ : j ≤ J := by
    have := mt (nI_ltI (a := J) (b := j) (by omega) (by omega)).mpr c
    omega
  obtain ⟨b1, b2, b3, b4, b5⟩ := hb
  have hr := b4 j (by omega)
  rw [nI_clamp (by omega)]
  rintro _ rfl
  rw [show gA (mu u 0 m' 0) 4 j = nI (rd' j) from hr.2]
  unfold wp_X4_makesReady_p59
  refine ⟨fun x2 x3 v => x2 = nI j ∧ ∃ (h : Nat) (m2 : ST), rd' j ≤ h ∧ h ≤ 61 ∧ x3 = nI h ∧ v = mu u 0 m2 ∧ (h ≤ hi + 1 ∨ h = rd' j) ∧ RMb m2 w rd' ∧ RMs m2 w N ∧ Ag [2, 3, 4] m2 (u 0) ∧ ∀ a b : Nat, a ≤ b → b < h → CM m2 w j a b ∧ (j ≠ 0 → a < b → FM m2 w j a b), fun _ x3 _ => 62 - x3.toNatClampNeg, ⟨rfl, rd' j, m', Nat.le_refl _, hr.1, rfl, rfl, .inr rfl, ⟨b1, b2, b3, b4, b5⟩, hs, hA, fun a b h1 h2 => b5 j a b (by omega) h1 h2⟩, ?_⟩
  rintro _ _ _ ⟨rfl, h, m2, h1, h2, rfl, rfl, hor, hb2, hs2, hA2, hc2⟩
  unfold wp_X4_makesReady_p59b
  have e1'' : gI (mu u 0 m2 1) 1 = nI hi := e1
  rw [e1'']
  obtain ⟨a1, a2, a3, a4, a5⟩ := hb2
  have hr2 := a4 j (by omega)
  refine ⟨fun c2 => ⟨nI_in (by omega) (by decide), ?_⟩, fun c2 => ?_⟩
  · have hlt := (nI_ltI (by omega) (by omega)).mp c2
    rw [nI_clamp (by omega)]
    rintro _ rfl
    rw [show gA (mu u 0 m2 0) 4 j = nI (rd' j) from hr2.2, nI_1]
    rintro _ rfl
    rw [zmaxI (by omega) (by omega)]
    rintro _ rfl
    refine ⟨nI_in (by omega) (by decide), ?_⟩
    rintro _ rfl
    rw [nI_1]
    rintro _ rfl
    refine ⟨⟨j + 1, sA m2 4 (upd (gA m2 4) j (nI (if rd' j < hi + 1 then hi + 1 else rd' j))), fun k => if k = j then (if rd' j < hi + 1 then hi + 1 else rd' j) else rd' k, by omega, rfl, ?_, ⟨a1, a2, a3, fun k hk => ?_, fun k lo' hi' hk hl hh => ?_⟩, hs2, Ag_sA hA2 (by decide) _, fun j' hj' => ?_⟩, ?_⟩
    · show mu (mu u 0 m2) 0 _ = mu u 0 _
      funext k
      by_cases ck : k = 0
      · subst ck
        rw [mu_at, mu_at]
        rfl
      · rw [mu_ne _ _ ck, mu_ne _ _ ck, mu_ne _ _ ck]
    · try dsimp only
      by_cases ck : k = j
      · subst ck
        rw [if_pos rfl]
        refine ⟨by split <;> omega, Eq.trans (b := upd (gA m2 4) k _ k) rfl pk_us⟩
      · rw [if_neg ck]
        exact ⟨(a4 k hk).1, (Eq.trans (b := upd (gA m2 4) j _ k) rfl (pk_un ck)).trans (a4 k hk).2⟩
    · dsimp only at hh
      by_cases ck : k = j
      · subst ck
        rw [if_pos rfl] at hh
        refine hc2 lo' hi' hl ?_
        split at hh <;> omega
      · rw [if_neg ck] at hh
        exact a5 k lo' hi' hk hl hh
    · try dsimp only
      by_cases ck : j' = j
      · rw [if_pos ck]
        split <;> omega
      · rw [if_neg ck]
        exact hrd j' (by omega)
    · show 8 - (nI (j + 1)).toNatClampNeg < 8 - (nI j).toNatClampNeg
      try dsimp only
      rw [nI_clamp (by omega), nI_clamp (by omega)]
      omega
  · have hle : h ≤ hi := by
      have := mt (nI_ltI (a := hi) (b := h) (by omega) (by omega)).mpr c2
      omega
    refine zfillTo (m := mu u 0 m2 0) a1 (by omega) (by omega) (fun k hk => hs2 k (by omega)) (fun hj0 a b hab hb => (a5 (j - 1) a b (by omega) hab (by have := hrd (j - 1) (by omega); omega)).1) fun m3 hm3 => ?_
    rintro _ rfl
    rw [nI_1]
    rintro _ rfl
    have hm3 : rowM m2 m3 w j h 0 := hm3
    have f0 : gA m3 0 = gA m2 0 := Ag_A hm3.1 0 (by decide)
    have f1 : gA m3 1 = gA m2 1 := Ag_A hm3.1 1 (by decide)
    have f4 : gA m3 4 = gA m2 4 := Ag_A hm3.1 4 (by decide)
    refine ⟨⟨rfl, h + 1, m3, by omega, by omega, rfl, ?_, .inl (by omega), ⟨a1, by rw [f0]; exact a2, by rw [f1]; exact a3, by rw [f4]; exact a4, fun k lo' hi' hk hl hh => ?_⟩, fun k hk => by rw [f1]; exact hs2 k hk, Ag_t (Ag_m hm3.1 (by decide)) hA2, fun a b hab hb => ?_⟩, ?_⟩
    · funext k
      by_cases ck : k = 0
      · subst ck
        rw [mu_at, mu_at]
      · rw [mu_ne _ _ ck, mu_ne _ _ ck, mu_ne _ _ ck]
    · have q := rowM_keep hm3 hl (j' := k) (by
        by_cases ck : k = j
        · right
          rw [ck] at hh
          omega
        · exact .inl ck)
      have p := a5 k lo' hi' hk hl hh
      exact ⟨q.1.trans p.1, fun c1 c2 => q.2.trans (p.2 c1 c2)⟩
    · by_cases cb : b = h
      · subst cb
        exact hm3.2.2 a (Nat.zero_le _) hab
      · have q := rowM_keep hm3 hab (j' := j) (.inr cb)
        have p := hc2 a b hab (by omega)
        exact ⟨q.1.trans p.1, fun c1 c2 => q.2.trans (p.2 c1 c2)⟩
    · try dsimp only
      rw [nI_clamp (by omega), nI_clamp (by omega)]
      omega

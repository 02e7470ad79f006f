theorem S32_set {u : ST} {lo hi j lo' hi' j' : Nat} {s s' : Bool} {x : Int32} (h2 : hi ≤ 24) (hj : j ≤ 6) (h2' : hi' ≤ 24) (hj' : j' ≤ 6) (hn : ¬ (lo' = lo ∧ hi' = hi ∧ s' = s ∧ j' = j)) (h : S32 u lo' hi' s' j') : S32 (sA u 32 (upd (gA u 32) (spt lo hi s j) x)) lo' hi' s' j' :=
  Eq.trans (b := upd (gA u 32) (spt lo hi s j) x (spt lo' hi' s' j')) rfl ((pk_un fun e => hn (spt_inj h2' hj' h2 hj e)).trans h)
theorem S32_new {u : ST} {lo hi j : Nat} {s : Bool} {x : Int32} (hx : x = nI (tA j (hi - lo + 1) s)) : S32 (sA u 32 (upd (gA u 32) (spt lo hi s j) x)) lo hi s j :=
  Eq.trans (b := upd (gA u 32) (spt lo hi s j) x (spt lo hi s j)) rfl (pk_us.trans hx)
def T32i (N w lo j : Nat) (V v : ST) : Prop := Ag [32, 33] v V ∧ ∀ (lo' w' j' : Nat) (s : Bool), lo' + w' ≤ N → j' ≤ 6 → (w' < w ∨ w' = w ∧ (lo' < lo ∨ lo' = lo ∧ j' < j)) → S32 v lo' (lo' + w') s j'
def trod2 (a3 : Int32) (a lo hi j : Nat) : Int32 := if (tB j (hi - lo + 1) (da a lo)).1 < zF then (if a3 = 0 then nI (tB j (hi - lo + 1) (da a lo)).1 else t33 lo (tB j (hi - lo + 1) (da a lo)).2) else -2
theorem n10 {n : Nat} (hn : n < 2 ^ 31) : nI n / (10 : Int32) = nI (n / 10) := pk_div hn (by decide) (by decide)
theorem n10r {n : Nat} (hn : n < 2 ^ 31) : nI n - nI n / (10 : Int32) * (10 : Int32) = nI (n % 10) := nI_remd (b := 10) hn (by decide) (by decide)
theorem aj10 {a j : Nat} (h : a ≤ 60) (h2 : j ≤ 6) : nI (10 * a + j) / (10 : Int32) = nI a ∧ nI (10 * a + j) - nI (10 * a + j) / (10 : Int32) * (10 : Int32) = nI j := by
  rw [n10r (by omega), n10 (by omega), show (10 * a + j) / 10 = a by omega, show (10 * a + j) % 10 = j by omega]
  exact ⟨rfl, rfl⟩
def badT (N : Nat) (a : Int32) : Prop := a < 0 ∨ ∃ n : Nat, n < 2 ^ 31 ∧ a = nI n ∧ (N < n / 10 ∨ 6 < n % 10)
theorem aj_or (N : Nat) (a : Int32) : (∃ b j : Nat, a = nI (10 * b + j) ∧ b ≤ N ∧ j ≤ 6) ∨ badT N a := by
  by_cases h : a < 0
  · exact .inr (.inl h)
  · obtain ⟨n, hn, rfl⟩ := nI_of h
    by_cases c : N < n / 10 ∨ 6 < n % 10
    · exact .inr (.inr ⟨n, hn, rfl, c⟩)
    · exact .inl ⟨n / 10, n % 10, by rw [Nat.div_add_mod], by omega, by omega⟩
theorem ztN {V : ST} {N : Nat} {a1 a2 a3 : Int32} (v1 : gI V 1 = nI N) (hN : N ≤ 60) (h : badS N a1 ∨ ((∃ lo hi : Nat, a1 = nI (100 * lo + hi) ∧ lo ≤ hi ∧ hi ≤ N) ∧ (badT N a2 ∨ ((∃ b j : Nat, a2 = nI (10 * b + j) ∧ b ≤ N ∧ j ≤ 6) ∧ (a3 < 0 ∨ 1 < a3))))) {K : Int32 → ST → Prop} (hK : K (-1) V) : wp_X12_trodden a1 a2 a3 V K := by
  unfold wp_X12_trodden wp_X12_trodden_p41
  rcases h with h | ⟨⟨lo, hi, rfl, h1, h2⟩, h⟩
  · exact zpartN v1 hN h ⟨fun _ => hK, fun c => absurd rfl c⟩
  refine zpartY v1 hN h1 h2 ⟨fun c => absurd c (by decide), fun _ => ⟨fun _ => hK, fun c => ⟨by decide, ?_⟩⟩⟩
  rw [v1]
  rcases h with h | ⟨⟨b, j, rfl, g1, g2⟩, h⟩
  · rcases h with h | ⟨n, hn, rfl, h⟩
    · exact absurd h c
    rw [n10r hn, n10 hn]
    rintro _ rfl
    refine ⟨fun _ => hK, fun c2 => ⟨by decide, ?_⟩⟩
    rintro _ rfl
    refine ⟨fun _ => hK, fun c3 => ?_⟩
    have w1 := mt (nI_ltI (a := N) (b := n / 10) (by omega) (by omega)).mpr c2
    have w2 := mt (nI_ltI (a := 6) (b := n % 10) (by decide) (by omega)).mpr c3
    omega
  · obtain ⟨e1, e2⟩ := aj10 (show b ≤ 60 by omega) g2
    rw [e2, e1]
    rintro _ rfl
    refine ⟨fun _ => hK, fun c2 => ⟨by decide, ?_⟩⟩
    rintro _ rfl
    exact ⟨fun _ => hK, fun _ => zIb h ⟨fun c => absurd rfl c, fun _ => hK⟩⟩
theorem ztR {V : ST} {N lo hi a j : Nat} {a3 : Int32} (v1 : gI V 1 = nI N) (hN : N ≤ 60) (h1 : lo ≤ hi) (h2 : hi ≤ N) (g1 : a ≤ N) (g2 : j ≤ 6) (ha : a3 = 0 ∨ a3 = 1) {K : Int32 → ST → Prop} (hK5 : ¬ N ≤ 24 → K (-5) V) (hK : N ≤ 24 → ∀ V' : ST, Ag [32, 33] V' V → K (trod2 a3 a lo hi j) V') : wp_X12_trodden (nI (100 * lo + hi)) (nI (10 * a + j)) a3 V K := by
  have hz := zF_e
  obtain ⟨e1, e2⟩ := aj10 (show a ≤ 60 by omega) g2
  obtain ⟨s1, s2⟩ := s100 (lo := lo) (hi := hi) (by omega) h1
  unfold wp_X12_trodden wp_X12_trodden_p41
  refine zpartY v1 hN h1 h2 ⟨fun c => absurd c (by decide), fun _ => ⟨fun c => absurd c (nI_pos (by omega)), fun c => ⟨by decide, ?_⟩⟩⟩
  rw [v1, e2, e1]
  rintro _ rfl
  refine ⟨fun c => absurd ((nI_ltI (by omega) (by omega)).mp c) (by omega), fun c2 => ⟨by decide, ?_⟩⟩
  rintro _ rfl
  refine ⟨fun c => absurd ((nI_ltI (a := 6) (by decide) (by omega)).mp c) (by omega), fun _ => zI01 ha ⟨fun _ => ⟨fun c3 => ?_, fun c3 => hK5 fun q => c3 ((nI_leI (b := 24) (by omega) (by decide)).mpr q)⟩, fun c => absurd c (by decide)⟩⟩
  have hN24 : N ≤ 24 := (nI_leI (b := 24) (by omega) (by decide)).mp c3
  have hK := hK hN24
  unfold wp_X12_trodden_p58
  refine ⟨fun x1 x2 x3 x4 v => x1 = nI (100 * lo + hi) ∧ x2 = nI (10 * a + j) ∧ a3 = x3 ∧ ∃ w : Nat, w ≤ N + 1 ∧ x4 = nI w ∧ T32i N w 0 0 V v, fun _ _ _ x4 _ => 62 - x4.toNatClampNeg, ⟨rfl, rfl, rfl, 0, by omega, rfl, Ag_r _ _, fun _ _ _ _ _ _ q => by omega⟩, ?_⟩
  rintro _ _ _ _ v ⟨rfl, rfl, rfl, w, hw, rfl, hA, hT⟩
  unfold wp_X12_trodden_p58b wp_X12_trodden_p228
  rw [Ag_I hA 1 (by decide), v1, e2, e1, s2, s1]
  refine ⟨fun c => ⟨by decide, ?_⟩, fun c => ?_⟩
  · have ew : w = N + 1 := by
      have := (nI_ltI (by omega) (by omega)).mp c
      omega
    rintro _ rfl
    refine ⟨by decide, ?_⟩
    rintro _ rfl
    refine ⟨by decide, ?_⟩
    rintro _ rfl
    refine ⟨by decide, ?_⟩
    rintro _ rfl
    refine zlt g2 h1 (by omega) (by omega) (fun k k1 k2 k3 => ⟨?_, ?_⟩) ?_
    · have := hT lo (k - 1) (j - 1) true (by omega) (by omega) (by omega)
      rw [show lo + (k - 1) = lo + k - 1 by omega] at this
      exact this
    · have := hT (lo + k) (hi - (lo + k)) j false (by omega) g2 (by omega)
      rw [show lo + k + (hi - (lo + k)) = hi by omega] at this
      exact this
    have hK := hK (sI v 33 (t33 lo (tB j (hi - lo + 1) (da a lo)).2)) (Ag_sI hA (by decide) _)
    have lb : (tB j (hi - lo + 1) (da a lo)).1 ≤ zF := Nat.le_trans (bst_le _ _ _) tB_z
    unfold trod2 at hK
    refine ⟨fun c4 => ?_, fun c4 => ?_⟩
    · have c4 := (nI_ltI (b := 1000000) (by omega) (by decide)).mp c4
      rw [if_pos (by omega)] at hK
      refine ⟨fun c5 => ?_, fun c5 => ?_⟩
      · rw [if_neg c5] at hK
        exact hK
      · rw [if_pos c5] at hK
        exact hK
    · have c4 := mt (nI_ltI (a := (tB j (hi - lo + 1) (da a lo)).1) (b := 1000000) (by omega) (by decide)).mpr c4
      rw [if_neg (by omega)] at hK
      exact hK
  have hwN : w ≤ N := by
    have := mt (nI_ltI (a := N) (b := w) (by omega) (by omega)).mpr c
    omega
  unfold wp_X12_trodden_p70
  refine ⟨fun x1 x2 x3 x4 x5 v => x1 = nI (100 * lo + hi) ∧ x2 = nI (10 * a + j) ∧ a3 = x3 ∧ x4 = nI w ∧ ∃ l : Nat, l + w ≤ N + 1 ∧ x5 = nI l ∧ T32i N w l 0 V v, fun _ _ _ _ x5 _ => 62 - x5.toNatClampNeg, ⟨rfl, rfl, rfl, rfl, 0, by omega, rfl, hA, hT⟩, ?_⟩
  rintro _ _ _ _ _ u ⟨rfl, rfl, rfl, rfl, l, hl, rfl, hA2, hT2⟩
  unfold wp_X12_trodden_p70b
  rw [nI_add]
  rintro _ rfl
  rw [Ag_I hA2 1 (by decide), v1]
  refine ⟨fun c4 => ?_, fun c4 => ?_⟩
  · have el : l + w = N + 1 := by
      have := (nI_ltI (by omega) (by omega)).mp c4
      omega
    rw [nI_1]
    rintro _ rfl
    refine ⟨⟨rfl, rfl, rfl, w + 1, by omega, rfl, hA2, fun lo' w' j' s q1 q2 q3 => hT2 lo' w' j' s q1 q2 (by omega)⟩, ?_⟩
    try dsimp only
    rw [nI_clamp (by omega), nI_clamp (by omega)]
    omega
  have hlN : l + w ≤ N := by
    have := mt (nI_ltI (a := N) (b := l + w) (by omega) (by omega)).mpr c4
    omega
  unfold wp_X12_trodden_p85
  refine ⟨fun x1 x2 x3 x4 x5 x6 v => x1 = nI (100 * lo + hi) ∧ x2 = nI (10 * a + j) ∧ a3 = x3 ∧ x4 = nI w ∧ x5 = nI l ∧ ∃ i : Nat, i ≤ 7 ∧ x6 = nI i ∧ T32i N w l i V v, fun _ _ _ _ _ x6 _ => 8 - x6.toNatClampNeg, ⟨rfl, rfl, rfl, rfl, rfl, 0, by omega, rfl, hA2, hT2⟩, ?_⟩
  rintro _ _ _ _ _ _ z ⟨rfl, rfl, rfl, rfl, rfl, i, hi7, rfl, hA3, hT3⟩
  unfold wp_X12_trodden_p85b
  refine ⟨fun c5 => ?_, fun c5 => ?_⟩
  · have ei : i = 7 := by
      have := (nI_ltI (a := 6) (by decide) (by omega)).mp c5
      omega
    rw [nI_1]
    rintro _ rfl
    refine ⟨⟨rfl, rfl, rfl, rfl, l + 1, by omega, rfl, hA3, fun lo' w' j' s q1 q2 q3 => hT3 lo' w' j' s q1 q2 (by omega)⟩, ?_⟩
    try dsimp only
    rw [nI_clamp (by omega), nI_clamp (by omega)]
    omega
  have hi6 : i ≤ 6 := by
    have := mt (nI_ltI (a := 6) (b := i) (by decide) (by omega)).mpr c5
    omega
  have ef : (tB i (l + w - l + 1) (da l l)).1 = tA i (l + w - l + 1) false := by
    rw [tA_eq i false (by omega) (by omega)]
    refine congrArg Prod.fst (tB_cg fun k k1 k2 => ?_)
    unfold da ds
    rw [if_neg (by omega), if_neg (by decide)]
    omega
  have et : (tB i (l + w - l + 1) (da (l + w + 1) l)).1 = tA i (l + w - l + 1) true := by
    rw [tA_eq i true (by omega) (by omega)]
    refine congrArg Prod.fst (tB_cg fun k k1 k2 => ?_)
    unfold da ds
    rw [if_pos (by omega), if_pos rfl]
    omega
  have p1 := spt_lt (lo := l) (hi := l + w) (j := i) false (by omega) (by omega) hi6
  have p2 := spt_lt (lo := l) (hi := l + w) (j := i) true (by omega) (by omega) hi6
  rw [nI_add]
  rintro _ rfl
  refine zspot (lo := l) (hi := l + w) (j := i) false ?_
  rintro _ rfl
  refine zlt (lo := l) (hi := l + w) (a := l) hi6 (by omega) (by omega) (by omega) (fun k k1 k2 k3 => ⟨?_, ?_⟩) ?_
  · have := hT3 l (k - 1) (i - 1) true (by omega) (by omega) (by omega)
    rw [show l + (k - 1) = l + k - 1 by omega] at this
    exact this
  · have := hT3 (l + k) (w - k) i false (by omega) hi6 (by omega)
    rw [show l + k + (w - k) = l + w by omega] at this
    exact this
  refine ⟨nI_in p1 (by decide), ?_⟩
  rw [nI_clamp (n := spt l (l + w) false i) (by omega), ef]
  rintro _ rfl _ rfl
  refine zspot (lo := l) (hi := l + w) (j := i) true ?_
  have hB : ∀ (lo' w' j' : Nat) (s : Bool), lo' + w' ≤ N → j' ≤ 6 → ((w' < w ∨ w' = w ∧ (lo' < l ∨ lo' = l ∧ j' < i)) ∨ (lo' = l ∧ w' = w ∧ j' = i ∧ s = false)) → S32 (sA (sI z 33 (t33 l (tB i (l + w - l + 1) (da l l)).2)) 32 (upd (gA (sI z 33 (t33 l (tB i (l + w - l + 1) (da l l)).2)) 32) (spt l (l + w) false i) (nI (tA i (l + w - l + 1) false)))) lo' (lo' + w') s j' := by
    intro lo' w' j' s q1 q2 q3
    rcases q3 with q3 | ⟨rfl, rfl, rfl, rfl⟩
    · exact S32_set (by omega) hi6 (by omega) q2 (fun q => by omega) (hT3 lo' w' j' s q1 q2 q3)
    · exact S32_new rfl
  have hA4 : Ag [32, 33] (sA (sI z 33 (t33 l (tB i (l + w - l + 1) (da l l)).2)) 32 (upd (gA (sI z 33 (t33 l (tB i (l + w - l + 1) (da l l)).2)) 32) (spt l (l + w) false i) (nI (tA i (l + w - l + 1) false)))) V := Ag_sA (Ag_sI hA3 (by decide) _) (by decide) _
  generalize sA (sI z 33 (t33 l (tB i (l + w - l + 1) (da l l)).2)) 32 (upd (gA (sI z 33 (t33 l (tB i (l + w - l + 1) (da l l)).2)) 32) (spt l (l + w) false i) (nI (tA i (l + w - l + 1) false))) = X at hB hA4 ⊢
  rintro _ rfl _ rfl
  rw [nI_1]
  rintro _ rfl
  refine zlt (lo := l) (hi := l + w) (a := l + w + 1) hi6 (by omega) (by omega) (by omega) (fun k k1 k2 k3 => ⟨?_, ?_⟩) ?_
  · have := hB l (k - 1) (i - 1) true (by omega) (by omega) (.inl (by omega))
    rw [show l + (k - 1) = l + k - 1 by omega] at this
    exact this
  · have := hB (l + k) (w - k) i false (by omega) hi6 (.inl (by omega))
    rw [show l + k + (w - k) = l + w by omega] at this
    exact this
  refine ⟨nI_in p2 (by decide), ?_⟩
  rw [nI_clamp (n := spt l (l + w) true i) (by omega), et]
  rintro _ rfl
  rw [nI_1]
  rintro _ rfl
  refine ⟨⟨rfl, rfl, rfl, rfl, rfl, i + 1, by omega, rfl, Ag_sA (Ag_sI hA4 (by decide) _) (by decide) _, fun lo' w' j' s q1 q2 q3 => ?_⟩, ?_⟩
  · by_cases ce : lo' = l ∧ w' = w ∧ j' = i ∧ s = true
    · obtain ⟨rfl, rfl, rfl, rfl⟩ := ce
      exact S32_new rfl
    · refine S32_set (by omega) hi6 (by omega) q2 (fun q => ce ⟨q.1, by omega, q.2.2.2, q.2.2.1⟩) (hB lo' w' j' s q1 q2 ?_)
      by_cases c6 : lo' = l ∧ w' = w ∧ j' = i
      · refine .inr ⟨c6.1, c6.2.1, c6.2.2, ?_⟩
        cases s with
        | false => rfl
        | true => exact absurd ⟨c6.1, c6.2.1, c6.2.2, rfl⟩ ce
      · refine .inl ?_
        omega
  · try dsimp only
    rw [nI_clamp (by omega), nI_clamp (by omega)]
    omega
theorem ztrodden {U : CS} {V : ST} (hT : RT (U 1) V) (hR : R7 (U 7)) (a1 a2 a3 : Int32) : Sim (wp_X11_trodden a1 a2 a3 U) (wp_X12_trodden a1 a2 a3 V) (fun U' V' => R7 (U' 7) ∧ AgU [7, 9] U' U ∧ Ag [32, 33] V' V) := by
  intro Q h
  obtain ⟨N, J, d, p, n1, n2, hJ, hd, hp, v1, v2, v3, v4, t1, t2, t3, t4⟩ := RT_vals hT
  have hz := zF_e
  have bad : ∀ U' : CS, R7 (U' 7) ∧ AgU [7, 9] U' U → (badS N a1 ∨ ((∃ lo hi : Nat, a1 = nI (100 * lo + hi) ∧ lo ≤ hi ∧ hi ≤ N) ∧ (badT N a2 ∨ ((∃ b j : Nat, a2 = nI (10 * b + j) ∧ b ≤ N ∧ j ≤ 6) ∧ (a3 < 0 ∨ 1 < a3))))) → Q (-1) U' := fun U' hU hb => h _ _ fun K hK => ztN v1 n2 hb (hK V ⟨hU.1, hU.2, Ag_r _ _⟩)
  have bad0 := bad U ⟨hR, AgU_r _ _⟩
  have sp : (∃ lo hi : Nat, a1 = nI (100 * lo + hi) ∧ lo ≤ hi ∧ hi ≤ N) ∨ badS N a1 := by
    rcases span_or N a1 with ⟨lo, hi, e, q1, q2, -⟩ | q
    · exact .inl ⟨lo, hi, e, q1, q2⟩
    · exact .inr q
  unfold wp_X11_trodden wp_X11_trodden_p43 wp_X11_trodden_p135 wp_X11_trodden_p80
  refine ⟨by decide, ?_⟩
  rintro _ rfl
  rcases aj_or N a2 with ⟨a, j, rfl, g1, g2⟩ | hb
  rotate_left
  · have badT' : Q (-1) U := bad0 (sp.elim (fun q => .inr ⟨q, .inl hb⟩) .inl)
    refine ⟨fun _ => badT', fun c => ?_⟩
    rcases id hb with hb' | ⟨n, hn, rfl, hb'⟩
    · exact absurd hb' c
    refine zstepsT ?_
    rintro _ rfl
    rw [mu_self, t1, n10r hn, n10 hn]
    refine ⟨fun _ => badT', fun c2 => ⟨by decide, ?_⟩⟩
    have w1 := mt (nI_ltI (a := N) (b := n / 10) (by omega) (by omega)).mpr c2
    rintro _ rfl
    rcases sp with ⟨lo, hi, rfl, q1, q2⟩ | q
    · refine zasksY t1 n2 q1 q2 (fun j S ej hj hs => ?_) (fun _ => ⟨fun _ => badT', fun c => absurd rfl c⟩)
      have := (nI_eq (by omega) (by omega)).mp ej
      omega
    · exact zasksN t1 n2 q ⟨fun _ => badT', fun c => absurd rfl c⟩
  obtain ⟨e1, e2⟩ := aj10 (show a ≤ 60 by omega) g2
  refine ⟨fun c => absurd c (nI_pos (by omega)), fun _ => zstepsT ?_⟩
  rintro _ rfl
  rw [mu_self, t1, e2, e1]
  refine ⟨fun c => absurd ((nI_ltI (by omega) (by omega)).mp c) (by omega), fun _ => ⟨by decide, ?_⟩⟩
  rintro _ rfl
  rcases sp with ⟨lo, hi, rfl, q1, q2⟩ | q
  rotate_left
  · exact zasksN t1 n2 q ⟨fun _ => bad0 (.inl q), fun c => absurd rfl c⟩
  refine zasksY t1 n2 q1 q2 (fun j' S ej hj hs => ⟨fun c => absurd c (by decide), fun _ => ?_⟩) (fun c => ?_)
  rotate_left
  · exfalso
    rcases c with c | c
    · exact nI_pos (by omega) c
    · have := (nI_ltI (a := 6) (by decide) (by omega)).mp c
      omega
  have ejj : j = j' := (nI_eq (by omega) (by omega)).mp ej
  subst ejj
  have hA9 : AgU [7, 9] (mu U 9 S) U := AgU_mu (AgU_r _ _) (by decide) _
  rcases what_or a3 with ha | ha
  rotate_left
  · exact zWb ha ⟨fun c => absurd rfl c, fun _ => bad (mu U 9 S) ⟨hR, hA9⟩ (.inr ⟨⟨lo, hi, rfl, q1, q2⟩, .inr ⟨⟨a, j, rfl, g1, g2⟩, ha⟩⟩)⟩
  have href : ∀ (y : Int32) (U' : CS), R7 (U' 7) → AgU [7, 9] U' U → N ≤ 24 → y = trod2 a3 a lo hi j → Q y U' := fun y U' b1 b2 b3 b4 => h _ _ fun K hK => by
    rw [b4] at hK
    exact ztR v1 n2 q1 q2 g1 g2 ha (fun c => absurd b3 c) (fun _ V' hV => hK V' ⟨b1, b2, hV⟩)
  refine zW01 ha ⟨fun _ => zstepsT ?_, fun c => absurd c (by decide)⟩
  rintro _ rfl
  rw [mu_self, show gA (mu U 9 S 1) 0 0 = nI N from t1]
  refine ⟨fun c3 => ?_, fun c3 => h _ _ fun K hK => ztR v1 n2 q1 q2 g1 g2 ha (fun _ => hK V ⟨hR, hA9, Ag_r _ _⟩) (fun q => absurd ((nI_leI (b := 24) (by omega) (by decide)).mpr q) c3)⟩
  have hN24 : N ≤ 24 := (nI_leI (b := 24) (by omega) (by decide)).mp c3
  refine zsure (S := mu U 9 S 9) hs (by omega) (by omega) ?_
  rintro _ rfl
  rw [mu_self]
  by_cases cs : lo = hi
  · rw [if_pos cs]
    subst cs
    have e1 : tB j (lo - lo + 1) (da a lo) = (0, 0) := by
      rw [Nat.sub_self]
      rfl
    unfold trod2 at href
    rw [e1, if_pos (show (0 : Nat) < zF by omega)] at href
    refine ⟨fun c => absurd c (by decide), fun _ => ⟨fun c => href _ _ hR hA9 hN24 ?_, fun c => href _ _ hR hA9 hN24 ?_⟩⟩
    · rw [if_neg c]
      rfl
    · rw [if_pos c]
      rfl
  rw [if_neg cs]
  refine ⟨fun _ => zprep7 (P := mu U 9 S 7) hR fun P' b1 b2 => ?_, fun c => absurd rfl c⟩
  rintro _ rfl
  have hR' : R7 (mu (mu U 9 S) 7 P' 7) := .inr ⟨b1, b2⟩
  have hA' : AgU [7, 9] (mu (mu U 9 S) 7 P') U := AgU_mu hA9 (by decide) _
  have href := fun y => href y (mu (mu U 9 S) 7 P') hR' hA' hN24
  unfold trod2 at href
  refine zfirstFrom (U := fun i => mu (mu U 9 S) 7 P' ([7, 9].getD i 0)) hs (by omega) (by omega) (by omega) g2 b2 ?_
  rw [emb_self]
  rintro _ rfl
  have hat := bst_at (if hi - lo + 1 = 1 then 0 else zF) (fun k => da a lo k + trr j (hi - lo + 1) k) (hi - lo + 1 - 1)
  have hix := bst_i (if hi - lo + 1 = 1 then 0 else zF) (fun k => da a lo k + trr j (hi - lo + 1) k) (hi - lo + 1 - 1)
  rw [show bst (if hi - lo + 1 = 1 then 0 else zF) (fun k => da a lo k + trr j (hi - lo + 1) k) (hi - lo + 1 - 1) = tB j (hi - lo + 1) (da a lo) from rfl] at hat hix
  rw [if_neg (show ¬ hi - lo + 1 = 1 by omega)] at hat
  generalize tB j (hi - lo + 1) (da a lo) = B at hat hix href ⊢
  rcases hat with ⟨i0, v0⟩ | ⟨i0, v0, v00⟩
  · rw [if_neg (by omega)] at href
    have e0 : sI1 lo B.2 = 0 := if_pos i0
    rw [e0]
    exact ⟨fun c => absurd rfl c, fun _ => href _ rfl⟩
  · have e0 : sI1 lo B.2 = lo + B.2 := if_neg (by omega)
    rw [e0]
    rw [if_pos v00] at href
    refine ⟨fun _ => ⟨fun c => href _ ?_, fun c => ?_⟩, fun c => ?_⟩
    · rw [if_neg c]
      exact (if_neg (show ¬ B.2 = 0 by omega)).symm
    · rw [if_pos c] at href
      refine zcostFrom (u := fun i => mu (mu U 9 S) 7 P' ([7, 9].getD i 0)) hs (by omega) (by omega) g2 i0 (by omega) b2 ?_
      rw [emb_self]
      rintro _ rfl
      refine href _ ?_
      rw [v0, cN_f (by omega)]
    · have := (nI_z0 (by omega)).mp c
      omega

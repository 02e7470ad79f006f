/-! drawn and hide -/
def zsq (z : Int32) : Nat → Int32
  | 0 => z
  | i + 1 => zsq z i * (1103515245 : Int32) + (12345 : Int32)
def smD (F : Nat → Nat → Nat → Nat) (o : Option (List zL)) (N J : Nat) (a3 z : Int32) : Nat → Int32
  | 0 => 0
  | i + 1 => smD F o N J a3 z i + nI (if a3 = 0 then dN F N J (hgt o N J (zsq z (i + 1))) else bN F N J (hgt o N J (zsq z (i + 1))))
theorem smD_s (F : Nat → Nat → Nat → Nat) (o : Option (List zL)) (N J : Nat) (a3 z : Int32) (i : Nat) : smD F o N J a3 z (i + 1) = smD F o N J a3 z i + nI (if a3 = 0 then dN F N J (hgt o N J (zsq z (i + 1))) else bN F N J (hgt o N J (zsq z (i + 1)))) := rfl
def kDR : List Nat := [22, 23, 25, 26, 27, 28, 29, 30, 31, 38, 39, 40, 45]
def RWd (o : Option (List zL)) (v : Nat) (U : CS) (V : ST) (U' : CS) (V' : ST) : Prop := ((RMe (U' 6) o v ∧ RLd false (U' 3) ∧ RLd true (U' 5) ∧ Ag [1, 8] (U' 2) (U 2)) ∧ RW V') ∧ AgU kW U' U ∧ Ag kDR V' V
theorem RWd_r {o : Option (List zL)} {v : Nat} {U : CS} {V : ST} (h : RWk o v U V) : RWd o v U V U V := ⟨⟨⟨h.2.2.2.1, h.2.2.2.2.1, h.2.2.2.2.2.1, Ag_r _ _⟩, h.2.2.2.2.2.2⟩, AgU_r _ _, Ag_r _ _⟩
theorem RWc_d {o : Option (List zL)} {v : Nat} {U U' : CS} {V V' : ST} (h : RWc o v U V U') (hW : RW V') (hA : Ag kDR V' V) : RWd o v U V U' V' := by
  obtain ⟨g1, g2, g3, g4, g5, g6, g7⟩ := h
  exact ⟨⟨⟨g3, g4, g5, g6⟩, hW⟩, g7, hA⟩
def badD (a : Int32) : Prop := a < 0 ∨ ∃ n : Nat, n < 2 ^ 31 ∧ a = nI n ∧ (1 < n / 100 ∨ n % 100 < 1 ∨ 60 < n % 100)
theorem drawn_or (a : Int32) : (∃ r n : Nat, a = nI (100 * r + n) ∧ r ≤ 1 ∧ 1 ≤ n ∧ n ≤ 60) ∨ badD a := by
  by_cases h : a < 0
  · exact .inr (.inl h)
  · obtain ⟨n, hn, rfl⟩ := nI_of h
    by_cases c : 1 < n / 100 ∨ n % 100 < 1 ∨ 60 < n % 100
    · exact .inr (.inr ⟨n, hn, rfl, c⟩)
    · exact .inl ⟨n / 100, n % 100, by rw [Nat.div_add_mod], by omega, by omega, by omega⟩
theorem d100 {r n : Nat} (h : r ≤ 1) (h2 : n ≤ 60) : nI (100 * r + n) / (100 : Int32) = nI r ∧ nI (100 * r + n) - nI (100 * r + n) / (100 : Int32) * (100 : Int32) = nI n := by
  rw [n100r (by omega), n100 (by omega), show (100 * r + n) / 100 = r by omega, show (100 * r + n) % 100 = n by omega]
  exact ⟨rfl, rfl⟩
theorem zdrawnN {V : ST} {a1 a2 a3 : Int32} (h : badD a2 ∨ ((∃ r n : Nat, a2 = nI (100 * r + n) ∧ r ≤ 1 ∧ 1 ≤ n ∧ n ≤ 60) ∧ (a3 < 0 ∨ 1 < a3))) {K : Int32 → ST → Prop} (hq : K (-1) V) : wp_X12_drawn a1 a2 a3 V K := by
  unfold wp_X12_drawn wp_X12_drawn_p34
  refine ⟨fun _ => hq, fun c => ⟨by decide, ?_⟩⟩
  rcases h with h | ⟨⟨r, n, rfl, h1, h2, h3⟩, h⟩
  · rcases h with h | ⟨n, hn, rfl, h⟩
    · exact absurd h c
    rw [n100r hn, n100 hn]
    rintro _ rfl
    refine ⟨fun _ => hq, fun c2 => ⟨by decide, ?_⟩⟩
    rintro _ rfl
    refine zin (fun p q => ?_) (fun _ => ⟨fun _ => hq, fun c => absurd rfl c⟩)
    have w1 := mt (nI_ltI (a := 1) (b := n / 100) (by decide) (by omega)).mpr c2
    have w2 := mt (nI_ltI (a := n % 100) (b := 1) (by omega) (by decide)).mpr p
    have w3 := mt (nI_ltI (a := 60) (b := n % 100) (by decide) (by omega)).mpr q
    omega
  · obtain ⟨e1, e2⟩ := d100 h1 h3
    rw [e2, e1]
    rintro _ rfl
    refine ⟨fun _ => hq, fun c2 => ⟨by decide, ?_⟩⟩
    rintro _ rfl
    exact zin (fun _ _ => ⟨fun c => absurd c (by decide), fun _ => zIb h ⟨fun c => absurd rfl c, fun _ => hq⟩⟩) (fun _ => ⟨fun _ => hq, fun c => absurd rfl c⟩)
theorem zdrawnR0 {V : ST} {J r n : Nat} {a1 a3 : Int32} (v2 : gI V 2 = nI J) (hJ0 : J = 0) (h1 : r ≤ 1) (h2 : 1 ≤ n) (h3 : n ≤ 60) (ha : a3 = 0 ∨ a3 = 1) {K : Int32 → ST → Prop} (hq : K (-2) V) : wp_X12_drawn a1 (nI (100 * r + n)) a3 V K := by
  obtain ⟨e1, e2⟩ := d100 h1 h3
  unfold wp_X12_drawn
  refine ⟨fun c => absurd c (nI_pos (by omega)), fun c => ⟨by decide, ?_⟩⟩
  rw [e2, e1]
  rintro _ rfl
  refine ⟨fun c => absurd ((nI_ltI (a := 1) (by decide) (by omega)).mp c) (by omega), fun c2 => ⟨by decide, ?_⟩⟩
  rintro _ rfl
  exact zIn (lo := 1) (hi := 60) h2 h3 (by decide) ⟨fun c => absurd c (by decide), fun _ => zI01 ha ⟨fun _ => ⟨fun c => absurd (zrefJ0 v2 hJ0) c, fun _ => hq⟩, fun c => absurd c (by decide)⟩⟩
theorem zdrawnR {V L : ST} {o : Option (List zL)} {N J r n : Nat} {a1 a3 : Int32} (hL : RLw L V o) (hW : RW V) (v1 : gI V 1 = nI N) (v2 : gI V 2 = nI J) (hN : N ≤ 60) (hJ : J ≤ 6) (hJ0 : J ≠ 0) (h1 : r ≤ 1) (h2 : 1 ≤ n) (h3 : n ≤ 60) (ha : a3 = 0 ∨ a3 = 1) {K : Int32 → ST → Prop} (hK : ∀ V' : ST, RW V' → Ag kDR V' V → K (smD (if nI r = 0 then Fw else Fm (fun h => wt o h N J)) o N J a3 a1 n) V') : wp_X12_drawn a1 (nI (100 * r + n)) a3 V K := by
  obtain ⟨e1, e2⟩ := d100 h1 h3
  have hFP : FP (if nI r = 0 then Fw else Fm (fun h => wt o h N J)) N := by
    split
    · exact FP0 hN
    · exact FP1 (fun h _ => wt_le o h N J) hN
  unfold wp_X12_drawn
  refine ⟨fun c => absurd c (nI_pos (by omega)), fun c => ⟨by decide, ?_⟩⟩
  rw [e2, e1]
  rintro _ rfl
  refine ⟨fun c => absurd ((nI_ltI (a := 1) (by decide) (by omega)).mp c) (by omega), fun c2 => ⟨by decide, ?_⟩⟩
  rintro _ rfl
  refine zIn (lo := 1) (hi := 60) h2 h3 (by decide) ⟨fun c => absurd c (by decide), fun _ => zI01 ha ⟨fun _ => ⟨fun _ => ?_, fun c => absurd c (zrefJ v2 hJ hJ0)⟩, fun c => absurd c (by decide)⟩⟩
  rintro _ rfl
  unfold wp_X12_drawn_p57
  refine ⟨fun x2 x3 x4 x5 u => x2 = nI (100 * r + n) ∧ a3 = x3 ∧ ∃ i : Nat, i ≤ n ∧ x5 = nI i ∧ x4 = smD (if nI r = 0 then Fw else Fm (fun h => wt o h N J)) o N J a3 a1 i ∧ gI u 45 = zsq a1 i ∧ RW u ∧ Ag kDR u V, fun _ _ _ x5 _ => 61 - x5.toNatClampNeg, ⟨rfl, rfl, 0, by omega, rfl, rfl, rfl, hW, Ag_sI (Ag_r _ _) (by decide) _⟩, ?_⟩
  rintro _ _ _ _ u ⟨rfl, rfl, i, hi, rfl, rfl, e45, hWu, hA⟩
  unfold wp_X12_drawn_p57b wp_X12_drawn_p96
  rw [e2, e1]
  refine ⟨by decide, ?_⟩
  rintro _ rfl
  refine ⟨fun c => ?_, fun c => ⟨by decide, ?_⟩⟩
  · have ei : i = n := by
      have := (nI_leI (by omega) (by omega)).mp c
      omega
    subst ei
    exact hK u hWu hA
  have hin : i < n := by
    have := mt (nI_leI (a := n) (b := i) (by omega) (by omega)).mpr c
    omega
  have hL' : RLw L u o := RLw_ag hL (Ag_r [] _) (by decide) (by decide) hA (by decide) (by decide) (by decide) (by decide) (by decide) (by decide)
  rintro _ rfl
  refine zheightR hL' ((Ag_I hA 1 (by decide)).trans v1) ((Ag_I hA 2 (by decide)).trans v2) hN e45 fun V2 hA2 f45 => ?_
  have hA3 : Ag kDR V2 V := Ag_t (Ag_m hA2 (by decide)) hA
  have hL2 : RLw L V2 o := RLw_ag hL (Ag_r [] _) (by decide) (by decide) hA3 (by decide) (by decide) (by decide) (by decide) (by decide) (by decide)
  have hW2 : RW V2 := by
    rcases hWu with q | ⟨q1, q2⟩
    · exact .inl ((Ag_I hA2 27 (by decide)).trans q)
    · refine .inr ⟨by rw [Ag_I hA2 27 (by decide)]; exact q1, fun j m b1 b2 b3 => ?_⟩
      rw [Ag_A hA2 25 (by decide), Ag_A hA2 26 (by decide)]
      exact q2 j m b1 b2 b3
  have ez : zsq a1 i * (1103515245 : Int32) + (12345 : Int32) = zsq a1 (i + 1) := rfl
  rw [ez] at f45 ⊢
  have hh := hgt_ok o (J := J) hN (zsq a1 (i + 1))
  obtain ⟨g, l⟩ := ends (h := hgt o N J (zsq a1 (i + 1))) hFP hJ0 hN
  refine zgoR hL2 ((Ag_I hA3 1 (by decide)).trans v1) ((Ag_I hA3 2 (by decide)).trans v2) hN hJ hJ0 (by omega) hW2 rfl g l fun V' hA' hW' e38 e39 _ => ?_
  rw [e38, e39]
  have next : ∀ x y99 : Int32, x = smD (if nI r = 0 then Fw else Fm (fun h => wt o h N J)) o N J a3 a1 (i + 1) → y99 = nI i + 1 → (nI (100 * r + n) = nI (100 * r + n) ∧ a3 = a3 ∧ ∃ i : Nat, i ≤ n ∧ y99 = nI i ∧ x = smD (if nI r = 0 then Fw else Fm (fun h => wt o h N J)) o N J a3 a1 i ∧ gI V' 45 = zsq a1 i ∧ RW V' ∧ Ag kDR V' V) ∧ 61 - y99.toNatClampNeg < 61 - (nI i).toNatClampNeg := by
    intro x y ex ey
    rw [nI_1] at ey
    subst ey
    refine ⟨⟨rfl, rfl, i + 1, by omega, rfl, ex, (Ag_I hA' 45 (by decide)).trans f45, hW', Ag_t (Ag_m hA' (by decide)) hA3⟩, ?_⟩
    rw [nI_clamp (by omega), nI_clamp (by omega)]
    omega
  rw [smD_s] at next
  refine ⟨fun c => ?_, fun c => ?_⟩
  · rw [if_neg c] at next
    rintro _ rfl
    exact fun y ey => next _ _ rfl ey
  · rw [if_pos c] at next
    rintro _ rfl
    exact fun y ey => next _ _ rfl ey
theorem zdrawn {U : CS} {V : ST} {o : Option (List zL)} {v : Nat} (hT : RT (U 1) V) (hR : RWk o v U V) (a1 a2 a3 : Int32) : Sim (wp_X11_drawn a1 a2 a3 U) (wp_X12_drawn a1 a2 a3 V) (RWd o v U V) := by
  intro Q h
  obtain ⟨N, J, d, p, n1, n2, hJ, hd, hp, v1, v2, v3, v4, t1, t2, t3, t4⟩ := RT_vals hT
  obtain ⟨hL, hv, hv2, hM, hW3, hE, hW⟩ := id hR
  have hid := RWd_r hR
  unfold wp_X11_drawn wp_X11_drawn_p42
  have bad : (badD a2 ∨ ((∃ r n : Nat, a2 = nI (100 * r + n) ∧ r ≤ 1 ∧ 1 ≤ n ∧ n ≤ 60) ∧ (a3 < 0 ∨ 1 < a3))) → Q (-1) U := fun hb => h _ _ fun K hK => zdrawnN hb (hK V hid)
  refine ⟨by decide, ?_⟩
  rintro _ rfl
  refine ⟨by decide, ?_⟩
  rintro _ rfl
  rcases drawn_or a2 with ⟨r, n, rfl, h1, h2, h3⟩ | hb
  rotate_left
  · refine ⟨fun _ => bad (.inl hb), fun c => ?_⟩
    rcases id hb with hb' | ⟨n, hn, rfl, hb'⟩
    · exact absurd hb' c
    rw [n100r hn, n100 hn]
    refine ⟨fun _ => bad (.inl hb), fun c2 => ?_⟩
    refine zwithin (fun p q => ?_) (fun _ => ⟨fun _ => bad (.inl hb), fun c => absurd rfl c⟩)
    have w1 := mt (nI_ltI (a := 1) (b := n / 100) (by decide) (by omega)).mpr c2
    have w2 := mt (nI_ltI (a := n % 100) (b := 1) (by omega) (by decide)).mpr p
    have w3 := mt (nI_ltI (a := 60) (b := n % 100) (by decide) (by omega)).mpr q
    omega
  obtain ⟨e1, e2⟩ := d100 h1 h3
  have hFP : FP (if nI r = 0 then Fw else Fm (fun h => wt o h N J)) N := by
    split
    · exact FP0 n2
    · exact FP1 (fun h _ => wt_le o h N J) n2
  rw [e2, e1]
  refine ⟨fun c => absurd c (nI_pos (by omega)), fun _ => ⟨fun c => absurd ((nI_ltI (a := 1) (by decide) (by omega)).mp c) (by omega), fun _ => zWin (lo := 1) (hi := 60) h2 h3 (by decide) ⟨fun c => absurd c (by decide), fun _ => ?_⟩⟩⟩
  rcases what_or a3 with ha | ha
  rotate_left
  · exact zWb ha ⟨fun c => absurd rfl c, fun _ => bad (.inr ⟨⟨r, n, rfl, h1, h2, h3⟩, ha⟩)⟩
  refine zW01 ha ⟨fun _ => ?_, fun c => absurd c (by decide)⟩
  refine zweighU hL hv hv2 hM t1 t2 n2 hJ fun m' L' w hm hA => ?_
  have hC0 : RWc o v U V (mu (mu U 6 m') 2 L') := ⟨RLw_ag hL hA (by decide) (by decide) (Ag_r [] V) (by decide) (by decide) (by decide) (by decide) (by decide) (by decide), (Ag_I hA 9 (by decide)).trans hv, ME_e hm hv2 n2 hJ, hW3, hE, hA, AgU_mu (AgU_mu (AgU_r _ _) (by decide) _) (by decide) _⟩
  have hM0 : ∃ w : Nat → Nat, ME (mu (mu U 6 m') 2 L' 6) o v N J w := ⟨w, hm⟩
  generalize mu (mu U 6 m') 2 L' = X at hC0 hM0
  unfold wp_X11_drawn_p68
  refine ⟨fun x3 x4 x5 x6 x7 x8 u => a3 = x3 ∧ x4 = nI r ∧ x5 = nI n ∧ ∃ i : Nat, i ≤ n ∧ x8 = nI i ∧ x7 = smD (if nI r = 0 then Fw else Fm (fun h => wt o h N J)) o N J a3 a1 i ∧ x6 = zsq a1 i ∧ (J = 0 → i = 0) ∧ RWc o v U V u ∧ ∃ w : Nat → Nat, ME (u 6) o v N J w, fun _ _ _ _ _ x8 _ => 61 - x8.toNatClampNeg, ⟨rfl, rfl, rfl, 0, by omega, rfl, rfl, rfl, fun _ => rfl, hC0, hM0⟩, ?_⟩
  rintro _ _ _ _ _ _ u ⟨rfl, rfl, rfl, i, hi, rfl, rfl, rfl, hi0, hC, w, hm⟩
  unfold wp_X11_drawn_p68b wp_X11_drawn_p123
  refine ⟨fun c => ?_, fun c => ?_⟩
  · have ei : i = n := by
      have := (nI_leI (by omega) (by omega)).mp c
      omega
    have hJ0 : J ≠ 0 := fun e => by
      have := hi0 e
      omega
    subst ei
    exact h _ _ fun K hK => zdrawnR hL hW v1 v2 n2 hJ hJ0 h1 h2 h3 ha fun V' hW' hA => hK V' (RWc_d hC hW' hA)
  have hin : i < n := by
    have := mt (nI_leI (a := n) (b := i) (by omega) (by omega)).mpr c
    omega
  have hu1 : u 1 = U 1 := hC.2.2.2.2.2.2 1 (by decide)
  have hh := hgt_ok o (J := J) n2 (zsq a1 (i + 1))
  unfold wp_X11_nextSeed
  rintro _ rfl _ rfl
  rw [show zsq a1 i * (1103515245 : Int32) + (12345 : Int32) = zsq a1 (i + 1) from rfl]
  refine zheightC (U := u) (by rw [hu1]; exact t1) hm n2 ?_
  refine zwalks (U := u) (V := V) (F := if nI r = 0 then Fw else Fm (fun h => wt o h N J)) (by rw [hu1]; exact t1) (by rw [hu1]; exact t2) n1 n2 hJ (by omega) hC.1 hC.2.1 hv2 hC.2.2.1 hC.2.2.2.1 hC.2.2.2.2.1 rfl (fun hJ0 U' hX => ?_) (fun hJ0 U' D g l hK' hX => ?_)
  · refine ⟨fun c => absurd rfl c, fun _ => h _ _ fun K hK => ?_⟩
    exact zdrawnR0 v2 hJ0 h1 h2 h3 ha (hK V (RWc_d (RWc_s hC hX hv2 n2 hJ) hW (Ag_r _ _)))
  · have hC' := RWc_s hC hX hv2 n2 hJ
    obtain ⟨eD, eb⟩ := dN_eq hFP hJ0 n2 g l
    rw [hK'.2.1, hK'.2.2.1, eb, eD]
    have next : ∀ x y99 : Int32, x = smD (if nI r = 0 then Fw else Fm (fun h => wt o h N J)) o N J a3 a1 (i + 1) → y99 = nI i + 1 → (a3 = a3 ∧ nI r = nI r ∧ nI n = nI n ∧ ∃ k : Nat, k ≤ n ∧ y99 = nI k ∧ x = smD (if nI r = 0 then Fw else Fm (fun h => wt o h N J)) o N J a3 a1 k ∧ zsq a1 (i + 1) = zsq a1 k ∧ (J = 0 → k = 0) ∧ RWc o v U V U' ∧ ∃ w : Nat → Nat, ME (U' 6) o v N J w) ∧ 61 - y99.toNatClampNeg < 61 - (nI i).toNatClampNeg := by
      intro x y ex ey
      rw [nI_1] at ey
      subst ey
      refine ⟨⟨rfl, rfl, rfl, i + 1, by omega, rfl, ex, rfl, fun e => absurd e hJ0, hC', hX.1⟩, ?_⟩
      rw [nI_clamp (by omega), nI_clamp (by omega)]
      omega
    rw [smD_s] at next
    refine ⟨fun _ => ⟨fun c => ?_, fun c => ?_⟩, fun c => absurd c (by decide)⟩
    · rw [if_neg c] at next
      rintro _ rfl
      exact fun y ey => next _ _ rfl ey
    · rw [if_pos c] at next
      rintro _ rfl
      exact fun y ey => next _ _ rfl ey
/-- what hide leaves -/
def RHx (o : Option (List zL)) (v : Nat) (U : CS) (V : ST) (U' : CS) (V' : ST) : Prop := (RMe (U' 6) o v ∧ Ag [1, 8] (U' 2) (U 2) ∧ RD (U' 13) (U' 14) (gA V' 46)) ∧ AgU [2, 6, 13, 14] U' U ∧ Ag [22, 23, 30, 45, 46] V' V
theorem zbegH {u : CS} {k n j : Int32} {Q : CS → Prop} (hq : ∀ v : CS, gI (v 0) 1 = 1 → gI (v 0) 2 = k → gI (v 0) 3 = n → gI (v 0) 4 = 0 → gI (v 0) 5 = 0 → gI (v 0) 6 = gI (u 0) 6 → gI (v 0) 7 = gI (u 0) 7 → gI (v 1) 0 = 0 → gI (v 1) 1 = n → gI (v 1) 2 = j → Q v) : wp_X1_begin k n j u Q := by
  unfold wp_X1_begin wp_X7_become
  rintro _ rfl _ rfl _ rfl _ rfl _ rfl _ rfl _ rfl _ rfl _ rfl
  exact hq _ rfl rfl rfl rfl rfl rfl rfl rfl rfl rfl
theorem zhideR {V L : ST} {o : Option (List zL)} {N J : Nat} (hL : RLw L V o) (v1 : gI V 1 = nI N) (v2 : gI V 2 = nI J) (hN : N ≤ 60) {a1 : Int32} {K : Int32 → ST → Prop} (hq : ∀ (V' : ST) (f : Nat → Int32), Ag [22, 23, 30, 45] V' V → f 0 = nI (hgt o N J (a1 * (1103515245 : Int32) + (12345 : Int32))) → f 1 = nI N → f 2 = nI J → f 3 = 0 → f 4 = 0 → f 5 = 0 → f 6 = nI N → f 7 = gA V 46 7 → f 8 = gA V 46 8 → K (nI N) (sA V' 46 f)) : wp_X12_hide a1 V K := by
  unfold wp_X12_hide
  rintro _ rfl
  have hL0 : RLw L (sI V 45 a1) o := RLw_ag hL (Ag_r [] _) (by decide) (by decide) (Ag_sI (Ag_r [45] V) (by decide) a1) (by decide) (by decide) (by decide) (by decide) (by decide) (by decide)
  refine zheightR (V := sI V 45 a1) (z := a1) hL0 v1 v2 hN rfl fun V' hV' f45 => ?_
  generalize nI (hgt o N J (a1 * (1103515245 : Int32) + (12345 : Int32))) = y at hq ⊢
  have hV : Ag [22, 23, 30, 45] V' V := Ag_t hV' (Ag_sI (Ag_r _ _) (by decide) _)
  have f1 : gI V' 1 = nI N := (Ag_I hV 1 (by decide)).trans v1
  have f2 : gI V' 2 = nI J := (Ag_I hV 2 (by decide)).trans v2
  have f46 : gA V 46 = gA V' 46 := (Ag_A hV 46 (by decide)).symm
  have hq := fun f => hq V' f hV
  rw [f46, ← f1, ← f2] at hq
  clear hV hV' f45 hL0 f46 f1 f2
  refine ⟨v9 (k := 0) (by decide), ?_⟩
  rintro _ rfl
  refine ⟨v9 (k := 1) (by decide), ?_⟩
  rintro _ rfl
  refine ⟨v9 (k := 2) (by decide), ?_⟩
  rintro _ rfl
  refine ⟨v9 (k := 3) (by decide), ?_⟩
  rintro _ rfl
  refine ⟨v9 (k := 4) (by decide), ?_⟩
  rintro _ rfl
  refine ⟨v9 (k := 5) (by decide), ?_⟩
  rintro _ rfl
  refine ⟨v9 (k := 6) (by decide), ?_⟩
  rintro _ rfl
  rw [c9_0, c9_1, c9_2, c9_3, c9_4, c9_5, c9_6]
  simp only [gI_sI, gI_sI', gI_sA, gI_sJ, gI_sG, gA_sA, gA_sA', gA_sI, gA_sJ, gA_sG, gJ_sJ, gJ_sJ', gJ_sI, gJ_sA, gJ_sG, gG_sG, gG_sG', gG_sI, gG_sA, gG_sJ, ne_eq, Nat.reduceEqDiff, Nat.succ_ne_zero, Nat.zero_ne_one, not_false_eq_true, reduceCtorEq]
  rw [sA_sA, sA_sA, sA_sA, sA_sA, sA_sA, sA_sA]
  exact hq _ rfl rfl rfl rfl rfl rfl rfl rfl rfl
theorem zhide {U : CS} {V : ST} {o : Option (List zL)} {v : Nat} (hT : RT (U 1) V) (hL : RLw (U 2) V o) (hv : gI (U 2) 9 = nI v) (hv2 : v < 100000) (hM : RMe (U 6) o v) (hD : RD (U 13) (U 14) (gA V 46)) (a1 : Int32) : Sim (wp_X11_hide a1 U) (wp_X12_hide a1 V) (RHx o v U V) := by
  intro Q h
  obtain ⟨N, J, d, p, n1, n2, hJ, hd, hp, v1, v2, v3, v4, t1, t2, t3, t4⟩ := RT_vals hT
  have hh := hgt_ok o (J := J) n2 (a1 * (1103515245 : Int32) + (12345 : Int32))
  unfold wp_X11_hide
  refine zweighU hL hv hv2 hM t1 t2 n2 hJ fun m' L' w hm hA => ?_
  unfold wp_X11_nextSeed
  rintro _ rfl _ rfl
  have href : ∀ K : Int32 → ST → Prop, _ → wp_X12_hide a1 V K := fun K => zhideR hL v1 v2 n2
  refine zheightC (U := mu (mu U 6 m') 2 L') t1 hm n2 ?_
  generalize hgt o N J (a1 * (1103515245 : Int32) + (12345 : Int32)) = k at hh href ⊢
  refine zstepsT ?_
  rintro _ rfl
  rw [mu_self]
  refine zjarsT ?_
  rintro _ rfl
  rw [mu_self, show gA (mu (mu U 6 m') 2 L' 1) 0 0 = nI N from t1, show gA (mu (mu U 6 m') 2 L' 1) 0 1 = nI J from t2]
  refine zbegH (u := fun i => mu (mu U 6 m') 2 L' ([13, 14].getD i 0)) fun v' b1 b2 b3 b4 b5 b6 b7 b8 b9 b10 => ?_
  rw [emb_2 _ (by decide)]
  rintro _ rfl
  refine zstepsT ?_
  rintro _ rfl
  rw [mu_self, show gA (mu (mu (mu (mu U 6 m') 2 L') 13 (v' 0)) 14 (v' 1) 1) 0 0 = nI N from t1]
  obtain ⟨-, -, -, -, -, -, -, q7, q8⟩ := hD
  refine h _ _ fun K hK => href K fun V' f hV f0 f1 f2 f3 f4 f5 f6 f7 f8 => ?_
  refine hK _ ⟨⟨ME_e hm hv2 n2 hJ, hA, .inl ⟨b1, f0.trans b2.symm, ?_⟩, f1.trans b3.symm, f2.trans b10.symm, f3.trans b4.symm, f4.trans b5.symm, f5.trans b8.symm, f6.trans b9.symm, ?_, ?_⟩, AgU_mu (AgU_mu (AgU_mu (AgU_mu (AgU_r _ _) (by decide) _) (by decide) _) (by decide) _) (by decide) _, ?_⟩
  · rw [show gA (sA V' 46 f) 46 0 = f 0 from rfl, f0]
    exact nI_pos (by omega)
  · exact f7.trans (q7.trans b6.symm)
  · exact f8.trans (q8.trans b7.symm)
  · exact Ag_sA (Ag_m hV (by decide)) (by decide) _

/-! shards -/
/-- how many drops: the first k that is sure -/
def dn (F : Nat → Nat → Nat → Nat) (h N J : Nat) : Nat → Nat → Nat
  | 0, k => k
  | f + 1, k => if (wk F h N J k).1 < (wk F h N J k).2.1 then dn F h N J f (k + 1) else k
def dN (F : Nat → Nat → Nat → Nat) (N J h : Nat) : Nat := dn F h N J 61 0
def bN (F : Nat → Nat → Nat → Nat) (N J h : Nat) : Nat := (wk F h N J (dN F N J h)).2.2
theorem dn_eq {F : Nat → Nat → Nat → Nat} {h N J D : Nat} (g : goes F h N J D) (l : ¬ (wk F h N J D).1 < (wk F h N J D).2.1) : ∀ f k : Nat, k ≤ D → D < k + f → dn F h N J f k = D
  | 0, k, h1, h2 => by omega
  | f + 1, k, h1, h2 => by
    unfold dn
    by_cases c : k = D
    · subst c
      rw [if_neg l]
    · rw [if_pos (g k (by omega))]
      exact dn_eq g l f (k + 1) (by omega) (by omega)
theorem dN_eq {F : Nat → Nat → Nat → Nat} {h N J D : Nat} (hF : FP F N) (hJ : J ≠ 0) (hN : N ≤ 60) (g : goes F h N J D) (l : ¬ (wk F h N J D).1 < (wk F h N J D).2.1) : D = dN F N J h ∧ (wk F h N J D).2.2 = bN F N J h := by
  obtain ⟨-, -, q, -, -⟩ := wk_ok hF hJ D g
  have e : dN F N J h = D := dn_eq g l 61 0 (by omega) (by omega)
  unfold bN
  rw [e]
  exact ⟨rfl, rfl⟩
theorem ends {F : Nat → Nat → Nat → Nat} {N J h : Nat} (hF : FP F N) (hJ : J ≠ 0) (hN : N ≤ 60) : goes F h N J (dN F N J h) ∧ ¬ (wk F h N J (dN F N J h)).1 < (wk F h N J (dN F N J h)).2.1 := by
  have key : ∀ f k : Nat, goes F h N J k → N < k + f → ∃ D : Nat, goes F h N J D ∧ ¬ (wk F h N J D).1 < (wk F h N J D).2.1 := by
    intro f
    induction f with
    | zero =>
      intro k g hk
      obtain ⟨-, -, q, -, -⟩ := wk_ok hF hJ k g
      omega
    | succ f ih =>
      intro k g hk
      by_cases c : (wk F h N J k).1 < (wk F h N J k).2.1
      · exact ih (k + 1) (goes_s g c) (by omega)
      · exact ⟨k, g, c⟩
  obtain ⟨D, g, l⟩ := key 61 0 (fun i hi => absurd hi (Nat.not_lt_zero _)) (by omega)
  rw [← (dN_eq hF hJ hN g l).1]
  exact ⟨g, l⟩
/-- what the heights below k add -/
def shf (F : Nat → Nat → Nat → Nat) (N J : Nat) (a2 : Int32) : Nat → Int64
  | 0 => 0
  | k + 1 => if nI (dN F N J k) = a2 / (10 : Int32) ∧ nI (bN F N J k) = a2 - a2 / (10 : Int32) * (10 : Int32) then shf F N J a2 k ||| (1 : Int64) <<< ((nI k).toInt64 &&& 63) else shf F N J a2 k
theorem shf_s (F : Nat → Nat → Nat → Nat) (N J : Nat) (a2 : Int32) (k : Nat) : shf F N J a2 (k + 1) = if nI (dN F N J k) = a2 / (10 : Int32) ∧ nI (bN F N J k) = a2 - a2 / (10 : Int32) * (10 : Int32) then shf F N J a2 k ||| (1 : Int64) <<< ((nI k).toInt64 &&& 63) else shf F N J a2 k := rfl
theorem RT_wk {U U' : CS} {V V' : ST} (h : RT (U 1) V) (hU : AgU kW U' U) (hV : Ag kGR V' V) : RT (U' 1) V' := by
  rw [hU 1 (by decide)]
  refine RT_ag h hV fun k k1 k2 => ?_
  rcases (show k = 1 ∨ k = 2 ∨ k = 3 ∨ k = 4 ∨ k = 5 ∨ k = 6 ∨ k = 7 ∨ k = 8 ∨ k = 9 ∨ k = 10 by omega) with rfl | rfl | rfl | rfl | rfl | rfl | rfl | rfl | rfl | rfl <;> decide
/-- the class's part of what goes with a walk, by the reference's first state -/
def RWc (o : Option (List zL)) (v : Nat) (U : CS) (V : ST) (U' : CS) : Prop := RLw (U' 2) V o ∧ gI (U' 2) 9 = nI v ∧ RMe (U' 6) o v ∧ RLd false (U' 3) ∧ RLd true (U' 5) ∧ Ag [1, 8] (U' 2) (U 2) ∧ AgU kW U' U
theorem RWc_r {o : Option (List zL)} {v : Nat} {U : CS} {V : ST} (h : RWk o v U V) : RWc o v U V U := ⟨h.1, h.2.1, h.2.2.2.1, h.2.2.2.2.1, h.2.2.2.2.2.1, Ag_r _ _, AgU_r _ _⟩
theorem RWc_s {o : Option (List zL)} {v N J : Nat} {U U1 U2 : CS} {V : ST} (h : RWc o v U V U1) (hC : CWx o v N J U1 U2) (hv2 : v < 100000) (hN : N ≤ 60) (hJ : J ≤ 6) : RWc o v U V U2 := by
  obtain ⟨⟨w, hm⟩, h1, h2, h3, h4⟩ := hC
  obtain ⟨g1, g2, g3, g4, g5, g6, g7⟩ := h
  exact ⟨RLw_ag g1 h3 (by decide) (by decide) (Ag_r [] V) (by decide) (by decide) (by decide) (by decide) (by decide) (by decide), (Ag_I h3 9 (by decide)).trans g2, ME_e hm hv2 hN hJ, h1, h2, Ag_t h3 g6, AgU_t h4 g7⟩
theorem RWc_x {o : Option (List zL)} {v : Nat} {U U' : CS} {V V' : ST} (h : RWc o v U V U') (hW : RW V') (hA : Ag kGR V' V) : RWx o v U V U' V' := by
  obtain ⟨g1, g2, g3, g4, g5, g6, g7⟩ := h
  exact ⟨⟨⟨g3, g4, g5, g6⟩, hW⟩, g7, hA⟩
theorem zshardsR {U U' : CS} {V : ST} {o : Option (List zL)} {v N J : Nat} {a1 a2 : Int32} (hL : RLw (U 2) V o) (hW : RW V) (v1 : gI V 1 = nI N) (v2 : gI V 2 = nI J) (hN : N ≤ 60) (hJ : J ≤ 6) (hJ0 : J ≠ 0) (ha1 : a1 = 0 ∨ a1 = 1) (ha2 : 0 ≤ a2) {K : Int64 → ST → Prop} (hK : ∀ V' : ST, RW V' → Ag kGR V' V → K (shf (if a1 = 0 then Fw else Fm (fun h => wt o h N J)) N J a2 (N + 1)) V') : wp_X12_shards a1 a2 V K := by
  have hFP : FP (if a1 = 0 then Fw else Fm (fun h => wt o h N J)) N := by
    split
    · exact FP0 hN
    · exact FP1 (fun h _ => wt_le o h N J) hN
  unfold wp_X12_shards wp_X12_shards_p13
  refine zI01 ha1 ⟨fun c => absurd c (by decide), fun _ => ⟨fun _ => ⟨fun _ => ?_, fun c => absurd c (zrefJ v2 hJ hJ0)⟩, fun c => absurd ha2 c⟩⟩
  unfold wp_X12_shards_p33
  refine ⟨fun x1 x2 x3 x5 u => a1 = x1 ∧ a2 = x2 ∧ ∃ k : Nat, k ≤ N + 1 ∧ x5 = nI k ∧ x3 = shf (if a1 = 0 then Fw else Fm (fun h => wt o h N J)) N J a2 k ∧ RW u ∧ Ag kGR u V, fun _ _ _ x5 _ => 62 - x5.toNatClampNeg, ⟨rfl, rfl, 0, by omega, rfl, rfl, hW, Ag_r _ _⟩, ?_⟩
  rintro _ _ _ _ u ⟨rfl, rfl, k, hk, rfl, rfl, hWu, hA⟩
  unfold wp_X12_shards_p33b wp_X12_shards_p79
  rw [Ag_I hA 1 (by decide), v1]
  refine ⟨fun c => ?_, fun c => ?_⟩
  · have ek : k = N + 1 := by
      have := (nI_ltI (by omega) (by omega)).mp c
      omega
    subst ek
    exact hK u hWu hA
  have hkN : k ≤ N := by
    have := mt (nI_ltI (a := N) (b := k) (by omega) (by omega)).mpr c
    omega
  have hL' : RLw (U 2) u o := RLw_ag hL (Ag_r [] _) (by decide) (by decide) hA (by decide) (by decide) (by decide) (by decide) (by decide) (by decide)
  obtain ⟨g, l⟩ := ends (h := k) hFP hJ0 hN
  refine zgoR hL' ((Ag_I hA 1 (by decide)).trans v1) ((Ag_I hA 2 (by decide)).trans v2) hN hJ hJ0 (by omega) hWu rfl g l fun V' hA' hW' e38 e39 _ => ?_
  rw [e38, e39]
  have next : ∀ x : Int64, x = shf (if a1 = 0 then Fw else Fm (fun h => wt o h N J)) N J a2 (k + 1) → ∀ y79 : Int32, y79 = nI k + 1 → (a1 = a1 ∧ a2 = a2 ∧ ∃ k : Nat, k ≤ N + 1 ∧ y79 = nI k ∧ x = shf (if a1 = 0 then Fw else Fm (fun h => wt o h N J)) N J a2 k ∧ RW V' ∧ Ag kGR V' V) ∧ 62 - y79.toNatClampNeg < 62 - (nI k).toNatClampNeg := by
    intro x ex y ey
    rw [nI_1] at ey
    subst ey
    refine ⟨⟨rfl, rfl, k + 1, by omega, rfl, ex, hW', Ag_t hA' hA⟩, ?_⟩
    rw [nI_clamp (by omega), nI_clamp (by omega)]
    omega
  rw [shf_s _ N J a2 k] at next
  refine ⟨by decide, ?_⟩
  rintro _ rfl
  refine ⟨fun c2 => next _ (if_neg fun q => c2 q.1).symm, fun c2 => ⟨by decide, ?_⟩⟩
  rintro _ rfl
  refine ⟨fun c3 => next _ (if_neg fun q => c3 q.2).symm, fun c3 => ?_⟩
  rintro _ rfl _ rfl
  exact next _ (if_pos ⟨c2, c3⟩).symm
theorem zshards {U : CS} {V : ST} {o : Option (List zL)} {v : Nat} (hT : RT (U 1) V) (hR : RWk o v U V) (a1 a2 : Int32) : SimJ (wp_X11_shards a1 a2 U) (wp_X12_shards a1 a2 V) (RWx o v U V) := by
  intro Q h
  obtain ⟨N, J, d, p, n1, n2, hJ, hd, hp, v1, v2, v3, v4, t1, t2, t3, t4⟩ := RT_vals hT
  obtain ⟨hL, hv, hv2, hM, hW3, hE, hW⟩ := id hR
  have hid := RWx_r hR
  unfold wp_X11_shards wp_X11_shards_p13
  rcases what_or a1 with ha1 | hb1
  rotate_left
  · refine zWb hb1 ⟨fun _ => h _ _ fun K hK => ?_, fun c => absurd rfl c⟩
    unfold wp_X12_shards wp_X12_shards_p13
    exact zIb hb1 ⟨fun _ => hK V hid, fun c => absurd rfl c⟩
  refine zW01 ha1 ⟨fun c => absurd c (by decide), fun _ => ⟨fun ck => ?_, fun ck => h _ _ fun K hK => ?_⟩⟩
  rotate_left
  · unfold wp_X12_shards wp_X12_shards_p13
    exact zI01 ha1 ⟨fun c => absurd c (by decide), fun _ => ⟨fun c => absurd c ck, fun _ => hK V hid⟩⟩
  have hFP : FP (if a1 = 0 then Fw else Fm (fun h => wt o h N J)) N := by
    split
    · exact FP0 n2
    · exact FP1 (fun h _ => wt_le o h N J) n2
  unfold wp_X11_shards_p22
  refine ⟨fun x1 x2 x3 x5 u => a1 = x1 ∧ a2 = x2 ∧ ∃ k : Nat, k ≤ N + 1 ∧ x5 = nI k ∧ x3 = shf (if a1 = 0 then Fw else Fm (fun h => wt o h N J)) N J a2 k ∧ (J = 0 → k = 0) ∧ RWc o v U V u, fun _ _ _ x5 _ => 62 - x5.toNatClampNeg, ⟨rfl, rfl, 0, by omega, rfl, rfl, fun _ => rfl, RWc_r hR⟩, ?_⟩
  rintro _ _ _ _ u ⟨rfl, rfl, k, hk, rfl, rfl, hk0, hC⟩
  unfold wp_X11_shards_p22b wp_X11_shards_p83
  refine zstepsT ?_
  rintro _ rfl
  have hu1 : u 1 = U 1 := hC.2.2.2.2.2.2 1 (by decide)
  rw [mu_self, hu1, t1]
  refine ⟨fun c => ?_, fun c => ?_⟩
  · have ek : k = N + 1 := by
      have := (nI_ltI (by omega) (by omega)).mp c
      omega
    have hJ0 : J ≠ 0 := fun e => by
      have := hk0 e
      omega
    subst ek
    exact h _ _ fun K hK => zshardsR (U' := u) (v := v) hL hW v1 v2 n2 hJ hJ0 ha1 ck fun V' hW' hA => hK V' (RWc_x hC hW' hA)
  have hkN : k ≤ N := by
    have := mt (nI_ltI (a := N) (b := k) (by omega) (by omega)).mpr c
    omega
  refine zwalks (U := u) (V := V) (F := if a1 = 0 then Fw else Fm (fun h => wt o h N J)) (by rw [hu1]; exact t1) (by rw [hu1]; exact t2) n1 n2 hJ (by omega) hC.1 hC.2.1 hv2 hC.2.2.1 hC.2.2.2.1 hC.2.2.2.2.1 rfl (fun hJ0 U' hX => ?_) (fun hJ0 U' D g l hK' hX => ?_)
  · refine ⟨fun c => absurd rfl c, fun _ => h _ _ fun K hK => ?_⟩
    unfold wp_X12_shards wp_X12_shards_p13
    exact zI01 ha1 ⟨fun c => absurd c (by decide), fun _ => ⟨fun _ => ⟨fun c => absurd (zrefJ0 v2 hJ0) c, fun _ => hK V (RWc_x (RWc_s hC hX hv2 n2 hJ) hW (Ag_r _ _))⟩, fun c => absurd ck c⟩⟩
  · have hC' := RWc_s hC hX hv2 n2 hJ
    obtain ⟨eD, eb⟩ := dN_eq hFP hJ0 n2 g l
    rw [hK'.2.1, hK'.2.2.1, eb, eD]
    have next : ∀ x : Int64, x = shf (if a1 = 0 then Fw else Fm (fun h => wt o h N J)) N J a2 (k + 1) → ∀ y79 : Int32, y79 = nI k + 1 → (a1 = a1 ∧ a2 = a2 ∧ ∃ k : Nat, k ≤ N + 1 ∧ y79 = nI k ∧ x = shf (if a1 = 0 then Fw else Fm (fun h => wt o h N J)) N J a2 k ∧ (J = 0 → k = 0) ∧ RWc o v U V U') ∧ 62 - y79.toNatClampNeg < 62 - (nI k).toNatClampNeg := by
      intro x ex y ey
      rw [nI_1] at ey
      subst ey
      refine ⟨⟨rfl, rfl, k + 1, by omega, rfl, ex, fun e => absurd e hJ0, hC'⟩, ?_⟩
      rw [nI_clamp (by omega), nI_clamp (by omega)]
      omega
    rw [shf_s _ N J a2 k] at next
    refine ⟨fun _ => ⟨by decide, ?_⟩, fun c => absurd c (by decide)⟩
    rintro _ rfl
    refine ⟨fun c2 => next _ (if_neg fun q => c2 q.1).symm, fun c2 => ⟨by decide, ?_⟩⟩
    rintro _ rfl
    refine ⟨fun c3 => next _ (if_neg fun q => c3 q.2).symm, fun c3 => ?_⟩
    rintro _ rfl _ rfl
    exact next _ (if_pos ⟨c2, c3⟩).symm

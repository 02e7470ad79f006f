/-! lines and the whole text, read by the reference -/
theorem s16 {k : Nat} (h : k < 1000) : (nI k).toInt16.toInt32 = nI k := by
  apply Int32.toInt_inj.mp
  rw [Int16.toInt_toInt32, Int32.toInt_toInt16, nI_toInt (by omega), Int.bmod_def]
  omega
def kT : List Nat := [13, 14, 15, 16, 17, 18, 19, 20, 21]
theorem Ag_kRT {V V' : ST} (h : Ag kR V' V) : Ag kT V' V := Ag_m h (by decide)
/-- the half that holds the law in force stays -/
def half (V V' : ST) : Prop := (∀ i : Nat, i < 130 → gA V' 17 i = gA V 17 i ∧ gA V' 18 i = gA V 18 i) ∧ (∀ i : Nat, i < 61 → gA V' 20 i = gA V 20 i ∧ gA V' 21 i = gA V 21 i) ∧ gA V' 19 0 = gA V 19 0
theorem half_r (V : ST) : half V V := ⟨fun _ _ => ⟨rfl, rfl⟩, fun _ _ => ⟨rfl, rfl⟩, rfl⟩
theorem half_t {V V' V2 : ST} (h : half V V') (h2 : half V' V2) : half V V2 := ⟨fun i hi => ⟨(h2.1 i hi).1.trans (h.1 i hi).1, (h2.1 i hi).2.trans (h.1 i hi).2⟩, fun i hi => ⟨(h2.2.1 i hi).1.trans (h.2.1 i hi).1, (h2.2.1 i hi).2.trans (h.2.1 i hi).2⟩, h2.2.2.trans h.2.2⟩
theorem half_rows {k : Nat} {V V' : ST} (h : rows k V V') (ha : Ag kR V' V) : half V V' := ⟨fun i hi => h i (by omega), fun i _ => ⟨by rw [Ag_A ha 20 (by decide)], by rw [Ag_A ha 21 (by decide)]⟩, by rw [Ag_A ha 19 (by decide)]⟩
def LC (k l : Nat) (V V' : ST) (c : zL) (p : Nat) : Prop := Ag kT V' V ∧ gI V' 14 = -1 ∧ gI V' 15 = gI V 15 ∧ gI V' 13 = nI p ∧ gI V' 16 = nI (k + c.1.length + c.2.length) ∧ rows k V V' ∧ AtF aO (gA V' 17) (130 + k) (c.1 ++ c.2) ∧ AtF wO (gA V' 18) (130 + k) (c.1 ++ c.2) ∧
  gA V' 19 1 = nI (l + 1) ∧ gA V' 19 0 = gA V 19 0 ∧ (∀ i : Nat, i ≠ 61 + l → gA V' 20 i = gA V 20 i ∧ gA V' 21 i = gA V 21 i) ∧ gA V' 20 (61 + l) = nI (k + c.1.length) ∧ gA V' 21 (61 + l) = nI (k + c.1.length + c.2.length)
def LF (V V' : ST) (p : Nat) : Prop := Ag kT V' V ∧ gI V' 14 = nI p ∧ half V V'
/-- the end of a line -/
theorem zline66 {V : ST} {l : Nat} (hl : l ≤ 60) (e19 : gA V 19 1 = nI l) {Q : ST → Prop} (hq : Q (sA (sA V 21 (upd (gA V 21) (61 + l) ((gI V 16).toInt16.toInt32.toInt16.toInt32))) 19 (upd (gA V 19) 1 (nI (l + 1))))) : wp_X12_line_p66 (nI (61 + l)) V Q := by
  unfold wp_X12_line_p66
  rintro _ rfl
  refine ⟨nI_in (by omega) (by decide), ?_⟩
  rintro _ rfl
  refine ⟨by first | decide | exact nI_in (c := 0) (by decide) (by decide) | exact nI_in (c := 1) (by decide) (by decide) | exact nI_in (c := 2) (by decide) (by decide), ?_⟩
  simp only [gI_sI, gI_sI', gI_sA, gI_sJ, gI_sG, gA_sA, gA_sA', gA_sI, gA_sJ, gA_sG, gJ_sJ, gJ_sJ', gJ_sI, gJ_sA, gJ_sG, gG_sG, gG_sG', gG_sI, gG_sA, gG_sJ, ne_eq, Nat.reduceEqDiff, Nat.succ_ne_zero, Nat.zero_ne_one, not_false_eq_true, reduceCtorEq]
  rintro _ rfl
  rw [show gA V 19 (1 : Int32).toNatClampNeg = nI l from e19, nI_1]
  rintro _ rfl
  refine ⟨by first | decide | exact nI_in (c := 0) (by decide) (by decide) | exact nI_in (c := 1) (by decide) (by decide) | exact nI_in (c := 2) (by decide) (by decide), ?_⟩
  rintro _ rfl
  rw [nI_clamp (by omega)]
  exact hq
theorem lin_rl {t : Nat → Nat} {n : Nat} (hn : n ≤ 120) (ht : ∀ i : Nat, i < n → t i < 256) {p : Nat} (hp : p ≤ n) {V : ST} {k l : Nat} {Q : ST → Prop} (hT : TR t n V) (e13 : gI V 13 = nI p) (e14 : gI V 14 = -1) (e15 : gI V 15 = 0) (e16 : gI V 16 = nI k) (hk : k ≤ p) (e19 : gA V 19 1 = nI l) (hl : l ≤ 60)
    (h1 : (lin (nxt t n) p).1 = true → ∀ V' : ST, LC k l V V' (lin (nxt t n) p).2.1 (lin (nxt t n) p).2.2 → Q V') (h0 : ((lin (nxt t n) p).1 = false ∨ isdg (nxt t n (lin (nxt t n) p).2.2) = true) → ∀ V' : ST, LF V V' (lin (nxt t n) p).2.2 → Q V') : wp_X12_line V Q := by
  unfold wp_X12_line
  refine ⟨by first | decide | exact nI_in (c := 0) (by decide) (by decide) | exact nI_in (c := 1) (by decide) (by decide) | exact nI_in (c := 2) (by decide) (by decide), ?_⟩
  rw [show gA V 19 (1 : Int32).toNatClampNeg = nI l from e19]
  rintro _ rfl
  rw [show (61 : Int32) + nI l = nI (61 + l) from nI_add 61 l]
  rintro _ rfl
  rw [e16, s16 (by omega)]
  rintro _ rfl
  refine ⟨nI_in (by omega) (by decide), ?_⟩
  rintro _ rfl
  have hns : ∀ y : Int32, vp_nar .short y = y.toInt16.toInt32 := fun _ => rfl
  rw [nI_clamp (n := 61 + l) (by omega), hns, s16 (by omega)]
  have hA0 : Ag kT (sA V 20 (upd (gA V 20) (61 + l) (nI k))) V := Ag_sA (Ag_r _ _) (by decide) _
  have hT0 : TR t n (sA V 20 (upd (gA V 20) (61 + l) (nI k))) := TR_ag hT hA0 (by decide) (by decide)
  have hH0 : half V (sA V 20 (upd (gA V 20) (61 + l) (nI k))) := ⟨fun _ _ => ⟨rfl, rfl⟩, fun i hi => ⟨Eq.trans (b := upd (gA V 20) (61 + l) (nI k) i) rfl (pk_un (by omega)), rfl⟩, rfl⟩
  obtain ⟨q1, q2, q3⟩ := okR_exq (x := nxt t n) nxt_lt p hp
  have hb := nxt_le ht (exq (nxt t n) p).2.2
  unfold lin at h1 h0
  -- behind a fault
  have bad : ∀ (W : ST) (q : Nat), Ag kT W V → half V W → gI W 14 = nI q → gA W 19 1 = nI l → (∀ V' : ST, LF V V' q → Q V') → wp_X12_line_p66 (nI (61 + l)) W Q := by
    intro W q g1 g2 g3 g4 hq
    refine zline66 hl g4 (hq _ ⟨Ag_sA (Ag_sA g1 (by decide) _) (by decide) _, g3, half_t g2 ⟨fun _ _ => ⟨rfl, rfl⟩, fun i hi => ⟨rfl, Eq.trans (b := upd (gA W 21) (61 + l) _ i) rfl (pk_un (by omega))⟩, ?_⟩⟩)
    exact Eq.trans (b := upd (gA W 19) 1 (nI (l + 1)) 0) rfl (pk_un (by decide))
  refine cr_exq hn ht hp _ k _ hT0 e13 e14 e15 e16 hk (fun g W hW => ?_) (fun g W hW => ?_)
  rotate_left
  · have hAW := Ag_kRT hW.1
    have hle : (exq (nxt t n) p).2.2 < 2 ^ 31 := by omega
    rw [hW.2.1]
    refine ⟨fun _ => ?_, fun c => absurd (nI_pos' hle) c⟩
    refine bad W _ (Ag_t hAW hA0) (half_t hH0 (half_rows hW.2.2.2.2 hW.1)) hW.2.1 (by rw [Ag_A hW.1 19 (by decide)]; exact e19) ?_
    by_cases g1 : (exq (nxt t n) p).1 = true
    · have gd := g.resolve_left (by rw [g1]; decide)
      have hn63 : ¬ nxt t n (exq (nxt t n) p).2.2 = 63 := fun e => by
        rw [e] at gd
        exact absurd gd (by decide)
      rw [if_pos g1, if_neg hn63] at h0
      exact h0 (.inr gd)
    · rw [if_neg g1] at h0
      exact h0 (.inl rfl)
  rw [if_pos g] at h1 h0
  obtain ⟨q4, q5, q6, q7⟩ := q3 g
  have e19W : gA W 19 1 = nI l := by rw [Ag_A hW.1 19 (by decide)]; exact e19
  have hAW := Ag_t (Ag_kRT hW.1) hA0
  rw [hW.2.1]
  refine ⟨fun c => absurd c fl_no, fun _ => ?_⟩
  refine zlook hn (TR_kR hT0 hW.1) hW.2.2.2.1 q2 ?_
  rw [show (lkc (nxt t n (exq (nxt t n) p).2.2) = (63 : Int32)) ↔ nxt t n (exq (nxt t n) p).2.2 = 63 from lkc_eq (c := 63) hb (by decide), hW.2.2.2.1, nI_1]
  have e20 : gA W 20 = upd (gA V 20) (61 + l) (nI k) := Ag_A hW.1 20 (by decide)
  have e21 : gA W 21 = gA V 21 := Ag_A hW.1 21 (by decide)
  refine ⟨fun c2 => ?_, fun c2 => ?_⟩
  · rw [if_neg c2] at h1
    refine zline66 hl e19W (h1 rfl _ ?_)
    rw [hW.2.2.2.2.1, s16 (by omega), s16 (by omega)]
    refine ⟨Ag_sA (Ag_sA hAW (by decide) _) (by decide) _, hW.2.1, hW.2.2.1, hW.2.2.2.1, hW.2.2.2.2.1, hW.2.2.2.2.2.1, hW.2.2.2.2.2.2.1, hW.2.2.2.2.2.2.2, ?_, ?_, fun i hi => ⟨?_, ?_⟩, ?_, ?_⟩
    · exact Eq.trans (b := upd (gA W 19) 1 (nI (l + 1)) 1) rfl pk_us
    · exact (Eq.trans (b := upd (gA W 19) 1 (nI (l + 1)) 0) rfl (pk_un (by decide))).trans (by rw [Ag_A hW.1 19 (by decide)]; rfl)
    · show gA W 20 i = _
      rw [e20, pk_un hi]
    · refine (Eq.trans (b := upd (gA W 21) (61 + l) _ i) rfl (pk_un hi)).trans ?_
      rw [e21]
    · show gA W 20 (61 + l) = _
      rw [e20, pk_us]
      rfl
    · exact Eq.trans (b := upd (gA W 21) (61 + l) _ (61 + l)) rfl pk_us
  rw [if_pos c2] at h1 h0
  have hpn := nxt_lt (t := t) (n := n) (exq (nxt t n) p).2.2 (by omega)
  rintro _ rfl _ rfl
  simp only [gI_sI, gI_sI', gI_sA, gI_sJ, gI_sG, gA_sA, gA_sA', gA_sI, gA_sJ, gA_sG, gJ_sJ, gJ_sJ', gJ_sI, gJ_sA, gJ_sG, gG_sG, gG_sG', gG_sI, gG_sA, gG_sJ, ne_eq, Nat.reduceEqDiff, Nat.succ_ne_zero, Nat.zero_ne_one, not_false_eq_true, reduceCtorEq]
  rw [hW.2.2.2.2.1, s16 (by omega)]
  rintro _ rfl
  refine ⟨nI_in (by omega) (by decide), ?_⟩
  rintro _ rfl
  rw [hns, s16 (by omega)]
  obtain ⟨r1, r2, r3⟩ := okR_exq (x := nxt t n) nxt_lt ((exq (nxt t n) p).2.2 + 1) (by omega)
  generalize hX : sA (sI W 13 (nI ((exq (nxt t n) p).2.2 + 1))) 20 (upd (gA W 20) (61 + l) (nI (k + (exq (nxt t n) p).2.1.length))) = X
  have hAX : Ag kT X W := by
    subst hX
    exact Ag_sA (Ag_sI (Ag_r _ _) (by decide) _) (by decide) _
  have x13 : gI X 13 = nI ((exq (nxt t n) p).2.2 + 1) := by subst hX; rfl
  have x14 : gI X 14 = -1 := by subst hX; exact hW.2.1
  have x15 : gI X 15 = gI V 15 := by subst hX; exact hW.2.2.1
  have x16 : gI X 16 = nI (k + (exq (nxt t n) p).2.1.length) := by subst hX; exact hW.2.2.2.2.1
  have x17 : gA X 17 = gA W 17 := by subst hX; rfl
  have x18 : gA X 18 = gA W 18 := by subst hX; rfl
  have x19 : gA X 19 = gA V 19 := by subst hX; exact Ag_A hW.1 19 (by decide)
  have x20 : gA X 20 = upd (gA W 20) (61 + l) (nI (k + (exq (nxt t n) p).2.1.length)) := by subst hX; rfl
  have x21 : gA X 21 = gA V 21 := by subst hX; exact e21
  clear hX
  have hTX : TR t n X := TR_ag (TR_kR hT0 hW.1) hAX (by decide) (by decide)
  have hHX : half V X := by
    refine half_t (half_t hH0 (half_rows hW.2.2.2.2.2.1 hW.1)) ⟨fun i _ => ⟨by rw [x17], by rw [x18]⟩, fun i hi => ⟨?_, by rw [x21, e21]⟩, by rw [x19, Ag_A hW.1 19 (by decide)]; rfl⟩
    rw [x20, pk_un (by omega)]
  refine cr_exq hn ht (p := (exq (nxt t n) p).2.2 + 1) (by omega) X (k + (exq (nxt t n) p).2.1.length) _ hTX x13 x14 (x15.trans e15) x16 (by omega) (fun g2 Y hY => ?_) (fun g2 Y hY => ?_)
  · rw [if_pos g2] at h1
    obtain ⟨r4, r5, r6, r7⟩ := r3 g2
    obtain ⟨y1, y2, y3, y4, y5, y6, y7, y8⟩ := hY
    have y19 : gA Y 19 = gA V 19 := (Ag_A y1 19 (by decide)).trans x19
    have y20 := (Ag_A y1 20 (by decide)).trans x20
    have y21 := (Ag_A y1 21 (by decide)).trans x21
    refine zline66 hl (by rw [y19]; exact e19) (h1 rfl _ ?_)
    rw [y5, s16 (by omega), s16 (by omega)]
    refine ⟨Ag_sA (Ag_sA (Ag_t (Ag_kRT y1) (Ag_t hAX hAW)) (by decide) _) (by decide) _, y2, y3.trans x15, y4, y5, fun i hi => ⟨?_, ?_⟩, ?_, ?_, ?_, ?_, fun i hi => ⟨?_, ?_⟩, ?_, ?_⟩
    · show gA Y 17 i = _
      rw [(y6 i (by omega)).1, x17]
      exact (hW.2.2.2.2.2.1 i hi).1
    · show gA Y 18 i = _
      rw [(y6 i (by omega)).2, x18]
      exact (hW.2.2.2.2.2.1 i hi).2
    · try dsimp only
      rw [← Nat.add_assoc] at y7
      refine AtF_app (AtF_cg (fun i _ q => ?_) hW.2.2.2.2.2.2.1) y7
      show gA Y 17 i = _
      rw [(y6 i (by omega)).1, x17]
    · try dsimp only
      rw [← Nat.add_assoc] at y8
      refine AtF_app (AtF_cg (fun i _ q => ?_) hW.2.2.2.2.2.2.2) y8
      show gA Y 18 i = _
      rw [(y6 i (by omega)).2, x18]
    · exact Eq.trans (b := upd (gA Y 19) 1 (nI (l + 1)) 1) rfl pk_us
    · exact (Eq.trans (b := upd (gA Y 19) 1 (nI (l + 1)) 0) rfl (pk_un (by decide))).trans (by rw [y19])
    · show gA Y 20 i = _
      rw [y20, pk_un hi, e20, pk_un hi]
    · refine (Eq.trans (b := upd (gA Y 21) (61 + l) _ i) rfl (pk_un hi)).trans ?_
      rw [y21]
    · show gA Y 20 (61 + l) = _
      rw [y20, pk_us]
    · exact Eq.trans (b := upd (gA Y 21) (61 + l) _ (61 + l)) rfl pk_us
  · refine bad Y _ (Ag_t (Ag_kRT hY.1) (Ag_t hAX hAW)) (half_t hHX (half_rows hY.2.2.2.2 hY.1)) hY.2.1 (by rw [Ag_A hY.1 19 (by decide), x19]; exact e19) ?_
    by_cases g1 : (exq (nxt t n) ((exq (nxt t n) p).2.2 + 1)).1 = true
    · have gd := g2.resolve_left (by rw [g1]; decide)
      rw [if_pos g1] at h0
      exact h0 (.inr gd)
    · rw [if_neg g1] at h0
      exact h0 (.inl rfl)

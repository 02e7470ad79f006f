theorem zrowRef {s : Nat} (hs : s < 6) {V : ST} {Q : Int32 → ST → Prop} (h : Q 1 (sJ V 55 (clr (gJ V 55) (60 * s) 60))) : wp_X12_row_p54 (nI s) (nI (60 * s)) V Q := by
  unfold wp_X12_row_p54
  refine ⟨fun x1 x4 u => x1 = nI s ∧ ∃ i : Nat, i ≤ 60 ∧ x4 = nI (60 * s + i) ∧ u = sJ V 55 (clr (gJ V 55) (60 * s) i), fun _ x4 _ => 60 * s + 60 - x4.toNatClampNeg, ⟨rfl, 0, by decide, rfl, by rw [clr_0, sJ_self]⟩, ?_⟩
  rintro _ _ _ ⟨rfl, i, hi, rfl, rfl⟩
  unfold wp_X12_row_p54b
  rw [show (60 : Int32) * nI s = nI (60 * s) from pk_mul 60 s]
  rintro _ rfl
  rw [show nI (60 * s) + 60 = nI (60 * s + 60) from nI_add _ 60]
  rintro _ rfl
  refine ⟨fun c => ?_, fun c => ?_⟩
  · have := (nI_leI (by omega) (by omega)).mp c
    have : i = 60 := by omega
    subst this
    exact h
  · have hlt : i < 60 := by
      have := mt (nI_leI (a := 60 * s + 60) (b := 60 * s + i) (by omega) (by omega)).mpr c
      omega
    refine ⟨nI_in (by omega) (by decide), ?_⟩
    rintro _ rfl _ rfl
    rw [nI_clamp (by omega), nI_1]
    refine ⟨⟨rfl, i + 1, by omega, rfl, ?_⟩, ?_⟩
    · simp only [gI_sI, gI_sI', gI_sA, gI_sJ, gI_sG, gA_sA, gA_sA', gA_sI, gA_sJ, gA_sG, gJ_sJ, gJ_sJ', gJ_sI, gJ_sA, gJ_sG, gG_sG, gG_sG', gG_sI, gG_sA, gG_sJ, ne_eq, Nat.reduceEqDiff, Nat.succ_ne_zero, Nat.zero_ne_one, not_false_eq_true, reduceCtorEq]
      rw [sJ_sJ, clr_s]
    · show 60 * s + 60 - (nI (60 * s + i + 1)).toNatClampNeg < 60 * s + 60 - (nI (60 * s + i)).toNatClampNeg
      rw [nI_clamp (by omega), nI_clamp (by omega)]
      omega
theorem zrow {U : CS} {V : ST} (hS : RS U V) (a1 a2 a3 : Int32) : Sim (wp_X11_row a1 a2 a3 U) (wp_X12_row a1 a2 a3 V) (RSx U V) := by
  intro Q h
  have hS0 := hS
  obtain ⟨n, hn, e9, hS⟩ := hS
  unfold wp_X11_row wp_X11_row_p22
  rcases shelf_or a1 with ⟨s, hs, rfl⟩ | hbad
  · refine zShelfY hs ⟨fun c => absurd c (by decide), fun _ => ?_⟩
    refine zwithin (fun p q => ⟨fun c => absurd c (by decide), fun _ => ?_⟩) (fun p => ⟨fun _ => h _ _ fun K hK => ?_, fun c => absurd rfl c⟩)
    · have hrow : ∀ {K : Int32 → ST → Prop}, ((a3 ≤ (60 : Int32) → ((0 ≤ a3 → (∀ y39 : Int32, y39 = ((-2) : Int32) - a2 → (vp_in (nI s) 6 ∧ ∀ u40 : ST, u40 = sA V 53 (upd (gA V 53) (nI s).toNatClampNeg y39) → (vp_in (nI s) 6 ∧ ∀ u47 : ST, u47 = sA u40 54 (upd (gA u40 54) (nI s).toNatClampNeg a3) → (∀ y51 : Int32, y51 = (60 : Int32) * (nI s) → wp_X12_row_p54 (nI s) y51 u47 K))))) ∧ (¬ 0 ≤ a3 → K ((-14) : Int32) V))) ∧ (¬ a3 ≤ (60 : Int32) → K (-1) V)) → wp_X12_row (nI s) a2 a3 V K := by
        intro K hk
        unfold wp_X12_row wp_X12_row_p22
        exact zShelfYM hs ⟨fun c => absurd c (by decide), fun _ => zin (fun _ _ => ⟨fun c => absurd c (by decide), fun _ => hk⟩) (fun pp => (pp.elim p q).elim)⟩
      refine ⟨fun c => ⟨fun c2 => ?_, fun c2 => h _ _ fun K hK => hrow ⟨fun _ => ⟨fun c' => absurd c' c2, fun _ => hK _ ⟨hS0, AgU_r _ _, Ag_r _ _⟩⟩, fun c' => absurd c c'⟩⟩, fun c => h _ _ fun K hK => hrow ⟨fun c' => absurd c' c, fun _ => hK _ ⟨hS0, AgU_r _ _, Ag_r _ _⟩⟩⟩
      obtain ⟨m, hm, rfl⟩ := nI_of (Int32.not_lt.mpr c2)
      have hm60 : m ≤ 60 := (nI_leI (b := 60) hm (by decide)).mp c
      obtain ⟨so, hso, rfl⟩ := nI_of p
      have hso5 : so < 5 := by
        have := mt (nI_ltI (a := 4) (b := so) (by decide) hso).mpr q
        omega
      refine ⟨nI_in hs (by decide), ?_⟩
      rw [nI_clamp (by omega)]
      unfold wp_X6_holdRow
      rintro _ rfl _ rfl _ rfl
      refine zfill ?_
      rintro _ rfl _ rfl
      refine h _ _ fun K hK => hrow ⟨fun _ => ⟨fun _ => ?_, fun c' => absurd c2 c'⟩, fun c' => absurd c c'⟩
      rintro _ rfl
      refine ⟨nI_in hs (by decide), ?_⟩
      rintro _ rfl
      refine ⟨nI_in hs (by decide), ?_⟩
      rintro _ rfl
      rw [show (60 : Int32) * nI s = nI (60 * s) from pk_mul 60 s, nI_clamp (by omega)]
      rintro _ rfl
      refine zrowRef hs ?_
      refine hK _ ⟨RS_upd hn e9 hS hs rfl (fun t ht hts => ⟨pk_un hts, pk_un hts, fun i hi => ?_⟩) (.inr (.inr ⟨so, m, hso5, hm60, rfl, rfl, rfl, pk_us, pk_us, fun i hi => ?_⟩)), AgU_mu (AgU_r _ _) (sh_mem hs) _, Ag_sJ (Ag_sA (Ag_sA (Ag_r _ _) (by decide) _) (by decide) _) (by decide) _⟩
      · refine Eq.trans (b := clr (gJ V 55) (60 * s) 60 (60 * t + i)) rfl (clr_out ?_)
        omega
      · refine Eq.trans (b := clr (gJ (U (18 + s)) 0) 0 60 i) rfl (Eq.trans (b := 0) ?_ (Eq.trans (b := clr (gJ V 55) (60 * s) 60 (60 * s + i)) ?_ rfl))
        · have := clr_in (f := gJ (U (18 + s)) 0) (a := 0) hi
          rw [Nat.zero_add] at this
          exact this
        · exact (clr_in hi).symm
    · unfold wp_X12_row wp_X12_row_p22
      exact zShelfYM hs ⟨fun c => absurd c (by decide), fun _ => zin (fun p' q' => (p.elim p' q').elim) (fun _ => ⟨fun _ => hK _ ⟨hS0, AgU_r _ _, Ag_r _ _⟩, fun c => absurd rfl c⟩)⟩
  · refine zShelfN hbad ⟨fun _ => h _ _ fun K hK => ?_, fun c => absurd rfl c⟩
    unfold wp_X12_row wp_X12_row_p22
    exact zShelfNM hbad ⟨fun _ => hK _ ⟨hS0, AgU_r _ _, Ag_r _ _⟩, fun c => absurd rfl c⟩
/-! who stands under whom -/
def aboveN : Nat → Nat := fun k => if k = 0 then 8 else if k = 1 then 0 else if k = 2 then 0 else if k = 3 then 2 else if k = 4 then 1 else if k = 5 then 3 else if k = 6 then 0 else if k = 7 then 6 else 8
def underN : Nat → Nat → Bool := fun k a => a == 0 || k == a || (a == 1 && k == 4) || (a == 2 && (k == 3 || k == 5)) || (a == 3 && k == 5) || (a == 6 && k == 7)
theorem zUnderM {k a : Nat} (hk : k < 8) (ha : a < 8) {Q : Int32 → Prop} (h : Q (if underN k a then 1 else 0)) : wp_X12_isUnder (nI k) (nI a) Q := by
  unfold wp_X12_isUnder wp_X12_isUnder_p19 wp_X12_isUnder_p34 wp_X12_isUnder_p44 wp_X12_isUnder_p56 wp_X12_isUnder_p60 wp_X12_isUnder_p61
  have hl : ∀ b : Nat, b < 8 → ∀ c : Nat, c < 8 → (nI b = nI c ↔ b = c) := fun b hb c hc => nI_eq (by omega) (by omega)
  have h0 : ∀ b : Nat, b < 8 → (nI b = 0 ↔ b = 0) := fun b hb => hl b hb 0 (by decide)
  have h1 : ∀ b : Nat, b < 8 → (nI b = 1 ↔ b = 1) := fun b hb => hl b hb 1 (by decide)
  have h2 : ∀ b : Nat, b < 8 → (nI b = 2 ↔ b = 2) := fun b hb => hl b hb 2 (by decide)
  have h3 : ∀ b : Nat, b < 8 → (nI b = 3 ↔ b = 3) := fun b hb => hl b hb 3 (by decide)
  have h4 : ∀ b : Nat, b < 8 → (nI b = 4 ↔ b = 4) := fun b hb => hl b hb 4 (by decide)
  have h5 : ∀ b : Nat, b < 8 → (nI b = 5 ↔ b = 5) := fun b hb => hl b hb 5 (by decide)
  have h6 : ∀ b : Nat, b < 8 → (nI b = 6 ↔ b = 6) := fun b hb => hl b hb 6 (by decide)
  have h7 : ∀ b : Nat, b < 8 → (nI b = 7 ↔ b = 7) := fun b hb => hl b hb 7 (by decide)
  rw [hl k hk a ha, h0 a ha, h1 a ha, h4 k hk, h2 a ha, h3 k hk, h5 k hk, h3 a ha, h6 a ha, h7 k hk]
  have hb : underN k a = true ↔ (a = 0 ∨ k = a ∨ (a = 1 ∧ k = 4) ∨ (a = 2 ∧ (k = 3 ∨ k = 5)) ∨ (a = 3 ∧ k = 5) ∨ (a = 6 ∧ k = 7)) := by
    unfold underN
    simp only [Bool.or_eq_true, Bool.and_eq_true, beq_iff_eq, or_assoc]
  by_cases c : underN k a = true
  · rw [if_pos c] at h
    have c' := hb.mp c
    simp only [h, show (1 : Int32) &&& 1 = 1 from by decide, and_self, imp_true_iff, and_true, true_and]
    omega
  · rw [if_neg c] at h
    have c' := mt hb.mpr c
    simp only [h, show (0 : Int32) &&& 1 = 0 from by decide, and_self, imp_true_iff, and_true, true_and]
    omega

theorem zguess {U : CS} {V : ST} (hT : RT (U 1) V) (hD : RD (U 13) (U 14) (gA V 46)) (a : Int32) : Sim (wp_X11_guess a U) (wp_X12_guess a V) (RDx U V) := by
  intro Q h
  obtain ⟨y, hc, hr⟩ := zsteps hT hD
  have hid : RDx U V U V := ⟨hD, AgU_r _ _, Ag_r _ _⟩
  unfold wp_X11_guess wp_X11_guess_p43
  refine hc _ (zwithin (fun p q => ⟨fun _ => ?_, fun c => absurd c (by decide)⟩) (fun p => ⟨fun c => absurd rfl c, fun _ => h _ _ fun K hK => ?_⟩))
  rotate_left
  · unfold wp_X12_guess
    exact hr _ (zin (fun p' q' => (p.elim p' q').elim) (fun _ => ⟨fun c => absurd rfl c, fun _ => hK _ hid⟩))
  have hrf : ∀ {K : Int32 → ST → Prop}, ((0 ≤ gA V 46 0 → ((¬ a = gA V 46 0 → wp_X12_guess_p41 0 V K) ∧ (a = gA V 46 0 → wp_X12_guess_p41 1 V K))) ∧ (¬ 0 ≤ gA V 46 0 → K (-5) V)) → wp_X12_guess a V K := by
    intro K hk
    unfold wp_X12_guess
    refine hr _ (zin (fun _ _ => ⟨fun _ => ⟨v9 (k := 0) (by decide), ?_⟩, fun c => absurd c (by decide)⟩) (fun pp => (pp.elim p q).elim))
    rintro _ rfl
    rw [c9_0]
    refine ⟨fun c => ⟨v9 (k := 0) (by decide), ?_⟩, hk.2⟩
    rintro _ rfl
    exact hk.1 c
  have hp : ∀ {t : Int32} {K : Int32 → ST → Prop}, (∀ f' : Nat → Int32, f' 0 = -1 → f' 1 = gA V 46 1 → f' 2 = gA V 46 2 → f' 3 = gA V 46 3 → f' 4 = gA V 46 4 → f' 5 = gA V 46 5 → f' 6 = gA V 46 6 → f' 7 = gA V 46 7 + t → f' 8 = gA V 46 8 + 1 → K t (sA V 46 f')) → wp_X12_guess_p41 t V K := by
    intro t K hk
    unfold wp_X12_guess_p41
    rw [c9_7, c9_8, c9_0]
    refine ⟨v9 (k := 7) (by decide), ?_⟩
    rintro _ rfl _ rfl
    refine ⟨v9 (k := 7) (by decide), ?_⟩
    rintro _ rfl
    refine ⟨v9 (k := 8) (by decide), ?_⟩
    rintro _ rfl _ rfl
    refine ⟨v9 (k := 8) (by decide), ?_⟩
    rintro _ rfl
    refine ⟨v9 (k := 0) (by decide), ?_⟩
    rintro _ rfl
    rw [sA_sA, sA_sA]
    exact hk _ rfl rfl rfl rfl rfl rfl rfl rfl rfl
  obtain ⟨hh, e1, e2, e3, e4, e5, e6, e7, e8⟩ := hD
  refine ⟨fun c => ?_, fun c => h _ _ fun K hK => hrf ?_⟩
  · obtain ⟨t1, t2, t3⟩ := hh.resolve_right fun q => c q.1
    unfold wp_X1_isGuessed wp_X1_isGuessed_p33 wp_X1_isGuessed_p46
    rintro _ rfl _ rfl _ rfl
    refine ⟨fun c2 => ⟨fun c3 => ⟨by decide, ?_⟩, fun c3 => absurd c3 c2⟩, fun c2 => ?_⟩
    · rintro _ rfl
      have c2 : ¬ a = gI (U 13) 2 := c2
      refine ⟨fun _ => h _ _ fun K hK => hrf ⟨fun _ => ⟨fun _ => hp fun f' g0 g1 g2 g3 g4 g5 g6 g7 g8 => hK _ ⟨?_, AgU_emb (AgU_r _ _) ix2, Ag_sA (Ag_r _ _) (by decide) _⟩, fun c' => absurd (c'.trans t2) c2⟩, fun c' => absurd (Int32.not_lt.mp t3) c'⟩, fun c => absurd rfl c⟩
      refine ⟨.inr ⟨rfl, g0⟩, g1.trans e1, g2.trans e2, g3.trans e3, g4.trans e4, g5.trans e5, g6.trans e6, ?_, ?_⟩
      · refine Eq.trans (g7.trans ?_) e7
        rw [Int32.add_zero]
      · refine g8.trans ?_
        rw [e8]
        rfl
    · have c2 : a = gI (U 13) 2 := c2
      rintro _ rfl _ rfl
      refine ⟨fun c3 => absurd c2 c3, fun _ => ⟨by decide, ?_⟩⟩
      rintro _ rfl
      refine ⟨fun c => absurd c (by decide), fun _ => h _ _ fun K hK => hrf ⟨fun _ => ⟨fun c' => absurd (c2.trans t2.symm) c', fun _ => hp fun f' g0 g1 g2 g3 g4 g5 g6 g7 g8 => hK _ ⟨?_, AgU_emb (AgU_r _ _) ix2, Ag_sA (Ag_r _ _) (by decide) _⟩⟩, fun c' => absurd (Int32.not_lt.mp t3) c'⟩⟩
      refine ⟨.inr ⟨rfl, g0⟩, g1.trans e1, g2.trans e2, g3.trans e3, g4.trans e4, g5.trans e5, g6.trans e6, ?_, ?_⟩
      · refine g7.trans ?_
        rw [e7]
        rfl
      · refine g8.trans ?_
        rw [e8]
        rfl
  · rcases hh with ⟨t1, t2, t3⟩ | ⟨t1, t2⟩
    · exact absurd (t1.symm.trans c) (by decide)
    · exact ⟨fun c2 => absurd c2 (by rw [t2]; decide), fun _ => hK _ hid⟩
def mix (f g : Nat → Int32) (i : Nat) : Nat → Int32 := fun j => if j < i then f j else g j
theorem mix_0 (f g : Nat → Int32) : mix f g 0 = g := funext fun j => if_neg (by omega)
theorem mix_s (f g : Nat → Int32) (i : Nat) : upd (mix f g i) i (f i) = mix f g (i + 1) := funext fun j => by
  by_cases c : j = i
  · subst c
    rw [pk_us]
    exact (if_pos (by omega)).symm
  · rw [pk_un c]
    unfold mix
    by_cases c2 : j < i
    · rw [if_pos c2, if_pos (by omega)]
    · rw [if_neg c2, if_neg (by omega)]
theorem mix_at {f g : Nat → Int32} {i j : Nat} (h : j < i) : mix f g i j = f j := if_pos h
theorem RD_c {H S : ST} {f g : Nat → Int32} (h : RD H S f) (e : ∀ k, k < 9 → g k = f k) : RD H S g := by
  unfold RD
  rw [e 0 (by decide), e 1 (by decide), e 2 (by decide), e 3 (by decide), e 4 (by decide), e 5 (by decide), e 6 (by decide), e 7 (by decide), e 8 (by decide)]
  exact h
def RK (U : CS) (V : ST) : Prop := ((gI (U 0) 16 = 0 ∧ gI V 48 = 0) ∨ (gI (U 0) 16 = 1 ∧ gI V 48 = 1 ∧ RD (U 15) (U 16) (gA V 47)))
/-- the copy of one who is hidden -/
theorem zcopy {u : CS} {Q : CS → Prop} {f : Nat → Int32} (hD : RD (u 2) (u 3) f) (h : ∀ u' : CS, RD (u' 0) (u' 1) f → u' 2 = u 2 → u' 3 = u 3 → gI (u' 0) 1 = gI (u 2) 1 → gI (u' 0) 4 = gI (u 2) 4 → Q u') : wp_X1_copy u Q := by
  unfold wp_X1_copy wp_X7_become
  rintro _ rfl _ rfl _ rfl _ rfl
  refine ⟨?_, ?_⟩
  · rcases hD.1 with q | q
    · exact .inr q.1
    · exact .inl q.1
  rintro _ rfl _ rfl _ rfl _ rfl _ rfl _ rfl _ rfl
  exact h _ hD rfl rfl rfl rfl
theorem zdropsIn {U : CS} {V : ST} (hD : RD (U 13) (U 14) (gA V 46)) : ∃ y : Int32, (∀ Q : Int32 → CS → Prop, Q y U → wp_X11_dropsInDeed U Q) ∧ ((0 ≤ gA V 46 0 → y = gA V 46 3) ∧ (¬ 0 ≤ gA V 46 0 → y = 0)) := by
  obtain ⟨hh, e1, e2, e3, e4⟩ := hD
  rcases hh with ⟨t1, t2, t3⟩ | ⟨t1, t2⟩
  · refine ⟨gI (U 13) 4, fun Q hq => ?_, fun _ => e3.symm, fun c => absurd (Int32.not_lt.mp t3) c⟩
    unfold wp_X11_dropsInDeed wp_X11_dropsInDeed_p21
    exact ⟨fun c => absurd (t1.symm.trans c) (by decide), fun _ => hq⟩
  · refine ⟨0, fun Q hq => ?_, fun c => absurd c (by rw [t2]; decide), fun _ => rfl⟩
    unfold wp_X11_dropsInDeed wp_X11_dropsInDeed_p21
    exact ⟨fun _ => hq, fun c => absurd t1 c⟩

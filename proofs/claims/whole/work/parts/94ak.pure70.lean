def kI (c : Nat) : Int32 := if c < 8 then nI c else -1
def undN (c a : Nat) : Bool := decide (c < 8) && underN c a
def rankN : Nat → Nat := fun c => if c = 8 then 0 else if c = 0 then 1 else if c = 1 then 2 else if c = 2 then 2 else if c = 3 then 3 else if c = 4 then 3 else if c = 5 then 4 else if c = 6 then 2 else 3
theorem und_step : ∀ c : Nat, c < 8 → ∀ a : Nat, a < 8 → c ≠ a → undN c a = undN (aboveN c) a := by decide
theorem und_same : ∀ a : Nat, a < 8 → undN a a = true := by decide
theorem rank_step : ∀ c : Nat, c < 8 → rankN (aboveN c) < rankN c ∧ aboveN c ≤ 8 := by decide
theorem rank_le : ∀ c : Nat, c < 9 → rankN c ≤ 4 := by decide
theorem above_at : ∀ c : Nat, c < 8 → xABOVE c = kI (aboveN c) := by decide
theorem zUnderC {c a : Nat} (hc : c ≤ 8) (ha : a < 8) {u : ST} {Q : Int32 → ST → Prop} (h : Q (if undN c a then 1 else 0) u) : wp_X0_isUnder (kI c) (nI a) u Q := by
  unfold wp_X0_isUnder wp_X0_isUnder_p4
  refine ⟨fun x1 x2 x3 v => x1 = nI a ∧ v = u ∧ ∃ l d : Nat, x3 = nI l ∧ d ≤ 8 ∧ rankN d + l < 8 ∧ x2 = kI d ∧ undN d a = undN c a, fun _ _ x3 _ => 8 - x3.toNatClampNeg, ⟨rfl, rfl, 0, c, rfl, hc, by have := rank_le c (by omega); omega, rfl, rfl⟩, ?_⟩
  rintro _ _ _ _ ⟨rfl, rfl, l, d, rfl, hd, hr, rfl, hu⟩
  unfold wp_X0_isUnder_p4b wp_X0_isUnder_p36
  refine ⟨fun c' => absurd ((nI_leI (a := 8) (by decide) (by omega)).mp c') (by omega), fun _ => ?_⟩
  by_cases hd8 : d < 8
  · have ek : kI d = nI d := if_pos hd8
    rw [ek]
    refine zisKind (fun _ _ => ⟨fun c' => absurd c' (by decide), fun _ => ⟨fun c' => ?_, fun c' => ?_⟩⟩) (fun p => ?_)
    · have hne : d ≠ a := fun e => c' (by rw [e])
      refine ⟨nI_in hd8 (by decide), ?_⟩
      rintro _ rfl _ rfl
      rw [nI_clamp (by omega), nI_1]
      have hk := rank_step d hd8
      refine ⟨⟨rfl, rfl, l + 1, aboveN d, rfl, hk.2, by omega, above_at d hd8, (und_step d hd8 a ha hne).symm.trans hu⟩, ?_⟩
      show 8 - (nI (l + 1)).toNatClampNeg < 8 - (nI l).toNatClampNeg
      rw [nI_clamp (by omega), nI_clamp (by omega)]
      omega
    · have e : d = a := (nI_eq (by omega) (by omega)).mp c'
      refine ⟨by decide, ?_⟩
      rw [← hu, e, und_same a ha] at h
      exact h
    · exfalso
      rcases p with p | p
      · exact nI_pos (by omega) p
      · have := (nI_ltI (a := 7) (by decide) (by omega)).mp p
        omega
  · have e8 : d = 8 := by omega
    subst e8
    refine zisKind (fun p _ => absurd (by decide : kI 8 < 0) p) (fun _ => ⟨fun _ => ⟨by decide, ?_⟩, fun c' => absurd rfl c'⟩)
    have : undN 8 a = false := by
      unfold undN
      simp
    rw [← hu, this] at h
    exact h
theorem ztaken {U : CS} {V : ST} (hS : RS U V) (hB : RB (U 17) V) (a1 a2 : Int32) : Sim (wp_X11_taken a1 a2 U) (wp_X12_taken a1 a2 V) (fun U' V' => U' = U ∧ V' = V) := by
  intro Q h
  obtain ⟨n, hn, e9, hS⟩ := hS
  obtain ⟨n', k, hn', b1, b2, hk, b3, b4, hk2, ht⟩ := hB
  have : n' = n := (nI_eq (by omega) (by omega)).mp (b2.symm.trans e9)
  subst this
  unfold wp_X11_taken wp_X11_taken_p14
  rcases shelf_or a1 with ⟨s, hs, rfl⟩ | hbad
  · refine zShelfY hs ⟨fun c => absurd c (by decide), fun _ => ?_⟩
    refine zisKind (fun p q => ⟨fun _ => ⟨nI_in hs (by decide), ?_⟩, fun c => absurd c (by decide)⟩) (fun p => ⟨fun c => absurd rfl c, fun _ => h _ _ fun K hK => ?_⟩)
    · obtain ⟨a, ha, rfl⟩ := nI_of p
      have ha8 : a < 8 := by
        have := mt (nI_ltI (a := 7) (b := a) (by decide) ha).mpr q
        omega
      rw [nI_clamp (by omega)]
      have hrf : ∀ {K : Int32 → ST → Prop}, (∀ y24 : Int32, y24 = gA V 53 s → ((¬ y24 = ((-1) : Int32) → (vp_in (nI s) 6 ∧ ∀ y37 : Int32, y37 = gA V 53 (nI s).toNatClampNeg → ((y37 < 0 → K (-12) V) ∧ (¬ y37 < 0 → (vp_in (nI s) 6 ∧ ∀ y50 : Int32, y50 = gA V 53 (nI s).toNatClampNeg → (vp_in y50 50 ∧ ∀ y51 : Int32, y51 = gA V 50 y50.toNatClampNeg → (wp_X12_isUnder y51 (nI a) (fun y53 => ((y53 = 0 → K (-12) V) ∧ (¬ y53 = 0 → (vp_in (nI s) 6 ∧ ∀ y68 : Int32, y68 = gA V 53 (nI s).toNatClampNeg → (vp_in y68 50 ∧ ∀ y69 : Int32, y69 = gA V 50 y68.toNatClampNeg → K y69 V))))))))))))  ∧ (y24 = ((-1) : Int32) → K ((-11) : Int32) V))) → wp_X12_taken (nI s) (nI a) V K := by
        intro K hk
        unfold wp_X12_taken wp_X12_taken_p17 wp_X12_taken_p73 wp_X12_taken_p75
        refine zShelfYM hs ⟨fun c => absurd c (by decide), fun _ => zIn (lo := 0) (hi := 7) (by omega) (by omega) (by decide) ⟨fun _ => ⟨nI_in hs (by decide), ?_⟩, fun c => absurd c (by decide)⟩⟩
        rintro _ rfl
        rw [nI_clamp (by omega)] at hk ⊢
        exact hk _ rfl
      rcases hS s hs with ⟨q1, q2, q3⟩ | ⟨b, hb, q1, q2, q3⟩ | ⟨so, m, r1, r2, q1, q2, q5, q3, q7, q8⟩
      · refine zisEmpty (fun _ _ => ?_) (fun c => absurd ⟨q1, q2⟩ c)
        rintro _ rfl
        rw [mu_self]
        refine ⟨fun c => absurd c (by decide), fun _ => h _ _ fun K hK => hrf ?_⟩
        rintro _ rfl
        exact ⟨fun c => absurd q3 c, fun _ => hK _ ⟨rfl, rfl⟩⟩
      · refine zisEmpty (fun c _ => absurd (q1.symm.trans c) (nI_nm1 (by omega))) (fun _ => ?_)
        rintro _ rfl
        rw [mu_self]
        refine ⟨fun _ => ?_, fun c => absurd rfl c⟩
        refine zisRow (fun c => absurd q2 c) (fun _ => ?_)
        rintro _ rfl
        rw [mu_self]
        refine ⟨fun _ => ?_, fun c => absurd rfl c⟩
        obtain ⟨kk, hkk, ek⟩ := nI_of (hk b hb).2.1
        have hk8 : kk < 8 := by
          have := (hk b hb).2.2
          rw [ek] at this
          have := mt (nI_ltI (a := 7) (b := kk) (by decide) hkk).mpr this
          omega
        rw [q1]
        unfold wp_X0_kindOf wp_X0_kindOf_p18 wp_X0_has wp_X0_has_p16 wp_X0_has_p17
        refine ⟨fun c => absurd c (nI_pos (by omega)), fun _ => ?_⟩
        rw [b1]
        refine ⟨fun c => absurd ((nI_leI (by omega) (by omega)).mp c) (by omega), fun _ => ⟨by decide, fun c => absurd c (by decide), fun _ => ⟨nI_in (by omega) (by decide), ?_⟩⟩⟩
        rw [nI_clamp (by omega), ek]
        rintro _ rfl _ rfl
        rw [mu_self]
        unfold wp_X11_taken_p55 wp_X11_taken_p73
        have ekI : nI kk = kI kk := (if_pos hk8).symm
        have hV : gA V 50 b = nI kk := (hk b hb).1.symm.trans ek
        have hund : undN kk a = underN kk a := by
          unfold undN
          rw [decide_eq_true hk8, Bool.true_and]
        have hrf2 : ∀ {K : Int32 → ST → Prop}, ((if underN kk a then (1 : Int32) else 0) = 0 → K (-12) V) → (¬ (if underN kk a then (1 : Int32) else 0) = 0 → K (nI kk) V) → wp_X12_taken (nI s) (nI a) V K := by
          intro K h0 h1
          refine hrf ?_
          rintro _ rfl
          rw [q3]
          refine ⟨fun _ => ⟨nI_in hs (by decide), ?_⟩, fun c => absurd c (nI_nm1 (by omega))⟩
          rw [nI_clamp (by omega), q3]
          rintro _ rfl
          refine ⟨fun c => absurd c (nI_pos (by omega)), fun _ => ⟨nI_in hs (by decide), ?_⟩⟩
          rintro _ rfl
          refine ⟨nI_in (by omega) (by decide), ?_⟩
          rw [nI_clamp (n := b) (by omega), hV]
          rintro _ rfl
          refine zUnderM hk8 ha8 ⟨h0, fun c => ⟨nI_in hs (by decide), ?_⟩⟩
          rintro _ rfl
          refine ⟨nI_in (by omega) (by decide), ?_⟩
          rw [nI_clamp (n := b) (by omega), hV]
          rintro _ rfl
          exact h1 c
        rw [ekI]
        refine zUnderC (by omega) ha8 ?_
        rw [hund, ← ekI]
        exact ⟨fun c => h _ _ fun K hK => hrf2 (fun _ => hK _ ⟨rfl, rfl⟩) (fun c' => absurd c c'), fun c => h _ _ fun K hK => hrf2 (fun c' => absurd c' c) (fun _ => hK _ ⟨rfl, rfl⟩)⟩
      · refine zisEmpty (fun _ c => absurd (q2.symm.trans c) (nI_nm1 (by omega))) (fun _ => ?_)
        rintro _ rfl
        rw [mu_self]
        refine ⟨fun _ => ?_, fun c => absurd rfl c⟩
        refine zisRow (fun _ => ?_) (fun c => absurd (q2.symm.trans c) (nI_nm1 (by omega)))
        rintro _ rfl
        rw [mu_self]
        refine ⟨fun c => absurd c (by decide), fun _ => ?_⟩
        unfold wp_X11_taken_p55 wp_X11_taken_p73
        refine zUnderC (c := 8) (by decide) ha8 ?_
        have : undN 8 a = false := by
          unfold undN
          simp
        rw [this]
        refine ⟨fun _ => h _ _ fun K hK => hrf ?_, fun c => absurd rfl c⟩
        rintro _ rfl
        rw [q3]
        have hso : ¬ (-2 - nI so : Int32) = -1 ∧ (-2 - nI so : Int32) < 0 := by
          rcases (show so = 0 ∨ so = 1 ∨ so = 2 ∨ so = 3 ∨ so = 4 by omega) with e | e | e | e | e <;> rw [e] <;> decide
        refine ⟨fun _ => ⟨nI_in hs (by decide), ?_⟩, fun c => absurd c hso.1⟩
        rw [nI_clamp (by omega), q3]
        rintro _ rfl
        exact ⟨fun _ => hK _ ⟨rfl, rfl⟩, fun c => absurd hso.2 c⟩
    · unfold wp_X12_taken wp_X12_taken_p17
      exact zShelfYM hs ⟨fun c => absurd c (by decide), fun _ => zin (fun p' q' => (p.elim p' q').elim) (fun _ => ⟨fun c => absurd rfl c, fun _ => hK _ ⟨rfl, rfl⟩⟩)⟩
  · refine zShelfN hbad ⟨fun _ => h _ _ fun K hK => ?_, fun c => absurd rfl c⟩
    unfold wp_X12_taken wp_X12_taken_p17
    exact zShelfNM hbad ⟨fun _ => hK _ ⟨rfl, rfl⟩, fun c => absurd rfl c⟩

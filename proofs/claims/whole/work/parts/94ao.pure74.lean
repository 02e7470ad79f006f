def RDx (U : CS) (V : ST) (U' : CS) (V' : ST) : Prop := RD (U' 13) (U' 14) (gA V' 46) ∧ AgU [13, 14] U' U ∧ Ag [46] V' V
theorem ix2 (k : Nat) (h : ix [13, 14] k < [13, 14].length) : k ∈ [13, 14] := by
  have := ix_get [13, 14] k h
  have h2 : ix [13, 14] k < 2 := h
  rcases (show ix [13, 14] k = 0 ∨ ix [13, 14] k = 1 by omega) with e | e <;> rw [e] at this <;> subst this <;> decide
/-- the steps that count now: the same on both sides -/
theorem zsteps {U : CS} {V : ST} (hT : RT (U 1) V) (hD : RD (U 13) (U 14) (gA V 46)) : ∃ y : Int32, (∀ Q : Int32 → CS → Prop, Q y U → wp_X11_stepsInDeed U Q) ∧ (∀ Q : Int32 → ST → Prop, Q y V → wp_X12_stepsNow V Q) := by
  obtain ⟨d, n, val, wh, b, a, hdn, e4, e5, e6, e7, hV, hH⟩ := hT
  obtain ⟨hh, e1, e2, e3⟩ := hD
  rcases hh with ⟨t1, t2, t3⟩ | ⟨t1, t2⟩
  · refine ⟨gI (U 13) 3, fun Q hq => ?_, fun Q hq => ?_⟩
    · unfold wp_X11_stepsInDeed wp_X11_stepsInDeed_p27
      exact ⟨fun c => absurd (t1.symm.trans c) (by decide), fun _ => hq⟩
    · unfold wp_X12_stepsNow wp_X12_stepsNow_p22
      refine ⟨v9 (k := 0) (by decide), ?_⟩
      rintro _ rfl
      rw [c9_0, c9_1]
      refine ⟨fun _ => ⟨v9 (k := 1) (by decide), ?_⟩, fun c => absurd (Int32.not_lt.mp t3) c⟩
      rintro _ rfl
      rw [e1]
      exact hq
  · refine ⟨nI (val 0), fun Q hq => ?_, fun Q hq => ?_⟩
    · unfold wp_X11_stepsInDeed wp_X11_stepsInDeed_p27 wp_X8_steps
      refine ⟨fun _ => ⟨nI_in (c := 0) (by decide) (by decide), ?_⟩, fun c => absurd t1 c⟩
      rintro _ rfl _ rfl
      rw [mu_self, c9_0, (hV 0 (by decide)).1]
      exact hq
    · unfold wp_X12_stepsNow wp_X12_stepsNow_p22
      refine ⟨v9 (k := 0) (by decide), ?_⟩
      rintro _ rfl
      rw [c9_0, t2]
      refine ⟨fun c => absurd c (by decide), fun _ => ?_⟩
      rw [(hV 0 (by decide)).2.1]
      exact hq
theorem zdrop {U : CS} {V : ST} (hT : RT (U 1) V) (hD : RD (U 13) (U 14) (gA V 46)) (a : Int32) : Sim (wp_X11_drop a U) (wp_X12_drop a V) (RDx U V) := by
  intro Q h
  obtain ⟨y, hc, hr⟩ := zsteps hT hD
  have hid : RDx U V U V := ⟨hD, AgU_r _ _, Ag_r _ _⟩
  unfold wp_X11_drop wp_X11_drop_p37 wp_X11_drop_p56
  refine hc _ (zwithin (fun p q => ⟨fun _ => ?_, fun c => absurd c (by decide)⟩) (fun p => ⟨fun c => absurd rfl c, fun _ => h _ _ fun K hK => ?_⟩))
  rotate_left
  · unfold wp_X12_drop
    exact hr _ (zin (fun p' q' => (p.elim p' q').elim) (fun _ => ⟨fun c => absurd rfl c, fun _ => hK _ hid⟩))
  have hrf : ∀ {K : Int32 → ST → Prop}, ((gA V 46 0 < 0 → K (-5) V) ∧ (¬ gA V 46 0 < 0 → ((¬ gA V 46 2 = 0 → wp_X12_drops1 a V K) ∧ (gA V 46 2 = 0 → K (-5) V)))) → wp_X12_drop a V K := by
    intro K hk
    unfold wp_X12_drop wp_X12_drop_p32 wp_X12_drop_p42
    refine hr _ (zin (fun _ _ => ⟨fun _ => ⟨v9 (k := 0) (by decide), ?_⟩, fun c => absurd c (by decide)⟩) (fun pp => (pp.elim p q).elim))
    rintro _ rfl
    rw [c9_0, c9_2]
    refine ⟨hk.1, fun c => ⟨v9 (k := 2) (by decide), ?_⟩⟩
    rintro _ rfl
    exact hk.2 c
  have hD0 := hD
  obtain ⟨hh, e1, e2, e3⟩ := hD
  refine ⟨fun c => h _ _ fun K hK => hrf ?_, fun c => ⟨fun c2 => ?_, fun c2 => h _ _ fun K hK => hrf ?_⟩⟩
  · rcases hh with ⟨t1, t2, t3⟩ | ⟨t1, t2⟩
    · exact absurd (t1.symm.trans c) (by decide)
    · refine ⟨fun _ => hK _ hid, fun c2 => absurd (by rw [t2]; decide) c2⟩
  · obtain ⟨t1, t2, t3⟩ := hh.resolve_right fun q => c q.1
    obtain ⟨y, hy, hz⟩ := zdrop1 hD0 c a
    refine hz _ fun v hv => ?_
    rintro _ rfl
    have fin : Q y (emb U [13, 14] v) := h _ _ fun K hK => hrf ⟨fun c' => absurd c' t3, fun _ => ⟨fun _ => hv _ fun f' hf _ _ => hK _ ⟨hf, AgU_emb (AgU_r _ _) ix2, Ag_sA (Ag_r _ _) (by decide) _⟩, fun c' => absurd (e2.symm.trans c') c2⟩⟩
    rcases hy with rfl | rfl
    · exact ⟨fun _ => fin, fun c => absurd rfl c⟩
    · exact ⟨fun c => absurd c (by decide), fun _ => fin⟩
  · obtain ⟨t1, t2, t3⟩ := hh.resolve_right fun q => c q.1
    exact ⟨fun c' => absurd c' t3, fun _ => ⟨fun c' => absurd (e2.trans c2) c', fun _ => hK _ hid⟩⟩
theorem zled {U : CS} {V : ST} (hD : RD (U 13) (U 14) (gA V 46)) (a : Int32) : Sim (wp_X11_led a U) (wp_X12_led a V) (fun U' V' => U' = U ∧ V' = V) := by
  intro Q h
  obtain ⟨hh, e1, e2, e3, e4, e5, e6, e7, e8⟩ := hD
  unfold wp_X11_led
  refine zwithin (fun p q => ⟨fun _ => ?_, fun c => absurd c (by decide)⟩) (fun p => ⟨fun c => absurd rfl c, fun _ => h _ _ fun K hK => ?_⟩)
  rotate_left
  · unfold wp_X12_led
    exact zin (fun p' q' => (p.elim p' q').elim) (fun _ => ⟨fun c => absurd rfl c, fun _ => hK _ ⟨rfl, rfl⟩⟩)
  obtain ⟨w, hw, rfl⟩ := nI_of p
  have hw6 : w < 6 := by
    have := mt (nI_ltI (a := 5) (b := w) (by decide) hw).mpr q
    omega
  have hval : gA V 46 (3 + w) = (if w = 0 then gI (U 13) 4 else if w = 1 then gI (U 13) 5 else if w = 2 then gI (U 14) 0 else if w = 3 then gI (U 14) 1 else if w = 4 then gI (U 13) 6 else gI (U 13) 7) := by
    rcases (show w = 0 ∨ w = 1 ∨ w = 2 ∨ w = 3 ∨ w = 4 ∨ w = 5 by omega) with rfl | rfl | rfl | rfl | rfl | rfl
    · exact e3
    · exact e4
    · exact e5
    · exact e6
    · exact e7
    · exact e8
  have hcl : Q (if w = 0 then gI (U 13) 4 else if w = 1 then gI (U 13) 5 else if w = 2 then gI (U 14) 0 else if w = 3 then gI (U 14) 1 else if w = 4 then gI (U 13) 6 else gI (U 13) 7) U → wp_X11_led_p29 (nI w) U Q := by
    intro hq
    unfold wp_X11_led_p29
    have hl : ∀ c : Nat, c < 9 → (nI w = nI c ↔ w = c) := fun c hc => nI_eq (by omega) (by omega)
    have l0 : nI w = 0 ↔ w = 0 := hl 0 (by decide)
    have l1 : nI w = 1 ↔ w = 1 := hl 1 (by decide)
    have l2 : nI w = 2 ↔ w = 2 := hl 2 (by decide)
    have l3 : nI w = 3 ↔ w = 3 := hl 3 (by decide)
    have l4 : nI w = 4 ↔ w = 4 := hl 4 (by decide)
    rw [l0, l1, l2, l3, l4]
    refine ⟨fun c => by rw [if_pos c] at hq; exact hq, fun c => ⟨fun c1 => by rw [if_neg c, if_pos c1] at hq; exact hq, fun c1 => ⟨fun c2 => by rw [if_neg c, if_neg c1, if_pos c2] at hq; exact hq, fun c2 => ⟨fun c3 => by rw [if_neg c, if_neg c1, if_neg c2, if_pos c3] at hq; exact hq, fun c3 => ⟨fun c4 => by rw [if_neg c, if_neg c1, if_neg c2, if_neg c3, if_pos c4] at hq; exact hq, fun c4 => by rw [if_neg c, if_neg c1, if_neg c2, if_neg c3, if_neg c4] at hq; exact hq⟩⟩⟩⟩⟩
  rw [← hval] at hcl
  have hrf : ∀ {K : Int32 → ST → Prop}, (w < 4 → gA V 46 0 < 0 → K (-5) V) → ((w < 4 → ¬ gA V 46 0 < 0) → K (gA V 46 (3 + w)) V) → wp_X12_led (nI w) V K := by
    intro K k1 k2
    unfold wp_X12_led wp_X12_led_p47
    refine zIn (lo := 0) (hi := 5) (by omega) (by omega) (by decide) ⟨fun _ => ⟨fun c => ⟨v9 (k := 0) (by decide), ?_⟩, fun c => ?_⟩, fun c => absurd c (by decide)⟩
    · have hw4 : w < 4 := by
        have := (nI_leI (a := w) (b := 3) hw (by decide)).mp c
        omega
      rintro _ rfl
      rw [c9_0, show (3 : Int32) + nI w = nI (3 + w) from nI_add 3 w]
      refine ⟨fun c2 => ?_, fun c2 => k1 hw4 (Int32.not_le.mp c2)⟩
      rintro _ rfl
      refine ⟨nI_in (by omega) (by decide), ?_⟩
      rintro _ rfl
      rw [nI_clamp (by omega)]
      exact k2 fun _ => Int32.not_lt.mpr c2
    · have hw4 : ¬ w < 4 := by
        have := mt (nI_leI (a := w) (b := 3) hw (by decide)).mpr c
        omega
      rw [show (3 : Int32) + nI w = nI (3 + w) from nI_add 3 w]
      rintro _ rfl
      refine ⟨nI_in (by omega) (by decide), ?_⟩
      rintro _ rfl
      rw [nI_clamp (by omega)]
      exact k2 fun c => absurd c hw4
  refine ⟨fun c => hcl (h _ _ fun K hK => hrf (fun c4 => ?_) (fun _ => hK _ ⟨rfl, rfl⟩)), fun c => ⟨fun c2 => hcl (h _ _ fun K hK => hrf (fun _ c3 => ?_) (fun _ => hK _ ⟨rfl, rfl⟩)), fun c2 => h _ _ fun K hK => hrf (fun _ _ => hK _ ⟨rfl, rfl⟩) (fun k => ?_)⟩⟩
  · have := (nI_leI (a := 4) (b := w) (by decide) hw).mp c
    omega
  · exact absurd c3 (hh.resolve_right fun q => c2 q.1).2.2
  · have hw4 : w < 4 := by
      have := mt (nI_leI (a := 4) (b := w) (by decide) hw).mpr c
      omega
    rcases hh with ⟨t1, t2, t3⟩ | ⟨t1, t2⟩
    · exact absurd (t1.symm.trans c2) (by decide)
    · exact absurd (by rw [t2]; decide) (k hw4)

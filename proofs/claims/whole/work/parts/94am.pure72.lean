theorem zshift {U : CS} {V : ST} (hS : RS U V) (a1 a2 a3 a4 a5 : Int32) : Sim (wp_X11_shift a1 a2 a3 a4 a5 U) (wp_X12_shift a1 a2 a3 a4 a5 V) (fun U' V' => RS U' V' ∧ AgU [18, 19, 20, 21, 22, 23] U' U ∧ Ag [53, 54, 55, 56] V' V) := by
  intro Q h
  have hS0 := hS
  obtain ⟨n, hn, e9, hS⟩ := hS
  have hid : RS U V ∧ AgU [18, 19, 20, 21, 22, 23] U U ∧ Ag [53, 54, 55, 56] V V := ⟨hS0, AgU_r _ _, Ag_r _ _⟩
  unfold wp_X11_shift wp_X11_shift_p14 wp_X11_shift_p48 wp_X11_shift_p80 wp_X11_shift_p106
  rcases shelf_or a1 with ⟨s, hs, rfl⟩ | hbad
  rotate_left
  · refine zShelfN hbad ⟨fun _ => h _ _ fun K hK => ?_, fun c => absurd rfl c⟩
    unfold wp_X12_shift wp_X12_shift_p14
    exact zShelfNM hbad ⟨fun _ => hK _ hid, fun c => absurd rfl c⟩
  refine zShelfY hs ⟨fun c => absurd c (by decide), fun _ => ?_⟩
  rcases shelf_or a3 with ⟨o, ho, rfl⟩ | hbad
  rotate_left
  · refine zShelfN hbad ⟨fun c => absurd rfl c, fun _ => h _ _ fun K hK => ?_⟩
    unfold wp_X12_shift wp_X12_shift_p14
    exact zShelfYM hs ⟨fun c => absurd c (by decide), fun _ => zShelfNM hbad ⟨fun c => absurd rfl c, fun _ => hK _ hid⟩⟩
  refine zShelfY ho ⟨fun _ => ⟨nI_in hs (by decide), nI_in ho (by decide), ?_⟩, fun c => absurd c (by decide)⟩
  rw [nI_clamp (n := s) (by omega), nI_clamp (n := o) (by omega)]
  have hrf : ∀ {K : Int32 → ST → Prop}, ((gA V 53 s = -1 → K (-11) V) ∧ (¬ gA V 53 s = -1 → ((gA V 53 o = -1 → K (-11) V) ∧ (¬ gA V 53 o = -1 → ((0 ≤ gA V 53 s → K (-12) V) ∧ (¬ 0 ≤ gA V 53 s → ((¬ gA V 53 s = gA V 53 o → K (-12) V) ∧ (gA V 53 s = gA V 53 o → ((a5 < 0 → K (-13) V) ∧ (¬ a5 < 0 → ((a2 < 0 → K (-13) V) ∧ (¬ a2 < 0 → ((a4 < 0 → K (-13) V) ∧ (¬ a4 < 0 → ((gA V 54 s - a5 < a2 → K (-13) V) ∧ (¬ gA V 54 s - a5 < a2 → ((¬ a4 ≤ gA V 54 o - a5 → K (-13) V) ∧ (a4 ≤ gA V 54 o - a5 → wp_X12_shift_p113 (nI s) a2 (nI o) a4 a5 0 V K)))))))))))))))))) → wp_X12_shift (nI s) a2 (nI o) a4 a5 V K := by
    intro K hk
    unfold wp_X12_shift wp_X12_shift_p14 wp_X12_shift_p36 wp_X12_shift_p63 wp_X12_shift_p107
    refine zShelfYM hs ⟨fun c => absurd c (by decide), fun _ => zShelfYM ho ⟨fun _ => ⟨nI_in hs (by decide), ?_⟩, fun c => absurd c (by decide)⟩⟩
    rw [nI_clamp (n := s) (by omega), nI_clamp (n := o) (by omega)]
    rintro _ rfl
    refine ⟨hk.1, fun c => ⟨nI_in ho (by decide), ?_⟩⟩
    rintro _ rfl
    refine ⟨fun c2 => ⟨nI_in hs (by decide), ?_⟩, (hk.2 c).1⟩
    rintro _ rfl
    have k3 := (hk.2 c).2 c2
    refine ⟨k3.1, fun c3 => ⟨nI_in hs (by decide), ?_⟩⟩
    rintro _ rfl
    refine ⟨nI_in ho (by decide), ?_⟩
    rintro _ rfl
    have k4 := k3.2 c3
    refine ⟨fun c4 => ?_, k4.1⟩
    have k5 := k4.2 c4
    refine ⟨k5.1, fun c5 => ⟨(k5.2 c5).1, fun c6 => ⟨((k5.2 c5).2 c6).1, fun c7 => ⟨nI_in hs (by decide), ?_⟩⟩⟩⟩
    have k6 := ((k5.2 c5).2 c6).2 c7
    rintro _ rfl _ rfl
    refine ⟨k6.1, fun c8 => ⟨nI_in ho (by decide), ?_⟩⟩
    rintro _ rfl _ rfl
    exact ⟨(k6.2 c8).2, (k6.2 c8).1⟩
  -- a shelf that isn't empty
  have full : ∀ t : Nat, t < 6 → ¬ gA V 53 t = -1 → ¬ (gI (U (18 + t)) 1 = -1 ∧ gI (U (18 + t)) 2 = -1) := by
    intro t ht hne
    rcases hS t ht with ⟨q1, q2, q3⟩ | ⟨b, hb, q1, q2, q3⟩ | ⟨so, m, r1, r2, q1, q2, q5, q3, q7, q8⟩
    · exact absurd q3 hne
    · exact fun c => absurd (q1.symm.trans c.1) (nI_nm1 (by omega))
    · exact fun c => absurd (q2.symm.trans c.2) (nI_nm1 (by omega))
  have none_ : ∀ t : Nat, t < 6 → gA V 53 t = -1 → (gI (U (18 + t)) 1 = -1 ∧ gI (U (18 + t)) 2 = -1) := by
    intro t ht he
    rcases hS t ht with ⟨q1, q2, q3⟩ | ⟨b, hb, q1, q2, q3⟩ | ⟨so, m, r1, r2, q1, q2, q5, q3, q7, q8⟩
    · exact ⟨q1, q2⟩
    · exact absurd (q3.symm.trans he) (nI_nm1 (by omega))
    · exact absurd (q3.symm.trans he) (so_neg r1).1
  by_cases es : gA V 53 s = -1
  · refine zisEmpty (fun _ _ => ?_) (fun c => absurd (none_ s hs es) c)
    rintro _ rfl
    rw [mu_self]
    exact ⟨fun _ => h _ _ fun K hK => hrf ⟨fun _ => hK _ hid, fun c => absurd es c⟩, fun c => absurd c (by decide)⟩
  refine zisEmpty (fun c c2 => absurd ⟨c, c2⟩ (full s hs es)) (fun _ => ?_)
  rintro _ rfl
  rw [mu_self]
  refine ⟨fun c => absurd rfl c, fun _ => ?_⟩
  by_cases eo : gA V 53 o = -1
  · refine zisEmpty (fun _ _ => ?_) (fun c => absurd (none_ o ho eo) c)
    rintro _ rfl
    rw [mu_self]
    exact ⟨fun c => absurd c (by decide), fun _ => h _ _ fun K hK => hrf ⟨fun c => absurd c es, fun _ => ⟨fun _ => hK _ hid, fun c => absurd eo c⟩⟩⟩
  refine zisEmpty (fun c c2 => absurd ⟨c, c2⟩ (full o ho eo)) (fun _ => ?_)
  rintro _ rfl
  rw [mu_self]
  refine ⟨fun _ => ?_, fun c => absurd rfl c⟩
  have hrf2 : ∀ {K : Int32 → ST → Prop}, ((0 ≤ gA V 53 s → K (-12) V) ∧ (¬ 0 ≤ gA V 53 s → ((¬ gA V 53 s = gA V 53 o → K (-12) V) ∧ (gA V 53 s = gA V 53 o → ((a5 < 0 → K (-13) V) ∧ (¬ a5 < 0 → ((a2 < 0 → K (-13) V) ∧ (¬ a2 < 0 → ((a4 < 0 → K (-13) V) ∧ (¬ a4 < 0 → ((gA V 54 s - a5 < a2 → K (-13) V) ∧ (¬ gA V 54 s - a5 < a2 → ((¬ a4 ≤ gA V 54 o - a5 → K (-13) V) ∧ (a4 ≤ gA V 54 o - a5 → wp_X12_shift_p113 (nI s) a2 (nI o) a4 a5 0 V K)))))))))))))) → wp_X12_shift (nI s) a2 (nI o) a4 a5 V K := fun hk => hrf ⟨fun c => absurd c es, fun _ => ⟨fun c => absurd c eo, fun _ => hk⟩⟩
  rcases hS s hs with ⟨q1, q2, q3⟩ | ⟨b, hb, q1, q2, q3⟩ | ⟨so, m, r1, r2, q1, q2, q5, q3, q7, q8⟩
  · exact absurd q3 es
  · refine zisRow (fun c => absurd q2 c) (fun _ => ?_)
    rintro _ rfl
    rw [mu_self]
    exact ⟨fun _ => h _ _ fun K hK => hrf2 ⟨fun _ => hK _ hid, fun c => absurd (by rw [q3]; exact nI_pos' (by omega)) c⟩, fun c => absurd rfl c⟩
  refine zisRow (fun _ => ?_) (fun c => absurd (q2.symm.trans c) (nI_nm1 (by omega)))
  rintro _ rfl
  rw [mu_self]
  refine ⟨fun c => absurd c (by decide), fun _ => ?_⟩
  have hn0 : ¬ 0 ≤ gA V 53 s := by
    rw [q3]
    exact (so_neg r1).2.2
  rcases hS o ho with ⟨p1, p2, p3⟩ | ⟨b, hb, p1, p2, p3⟩ | ⟨so', m', t1, t2, p1, p2, p5, p3, p7, p8⟩
  · exact absurd p3 eo
  · refine zisRow (fun c => absurd p2 c) (fun _ => ?_)
    rintro _ rfl
    rw [mu_self]
    refine ⟨fun _ => h _ _ fun K hK => hrf2 ⟨fun c => absurd c hn0, fun _ => ⟨fun _ => hK _ hid, fun c => ?_⟩⟩, fun c => absurd rfl c⟩
    exact absurd (by rw [c, p3]; exact nI_pos' (by omega)) hn0
  refine zisRow (fun _ => ?_) (fun c => absurd (p2.symm.trans c) (nI_nm1 (by omega)))
  rintro _ rfl
  rw [mu_self]
  refine ⟨fun c => absurd c (by decide), fun _ => ?_⟩
  rw [q2, p2]
  refine ⟨fun c => ?_, fun c => h _ _ fun K hK => hrf2 ⟨fun c => absurd c hn0, fun _ => ⟨fun _ => hK _ hid, fun c2 => ?_⟩⟩⟩
  rotate_left
  · rw [q3, p3] at c2
    exact absurd (by rw [so_inj r1 t1 c2]) c
  have ess : so = so' := (nI_eq (by omega) (by omega)).mp c
  subst ess
  have heq : gA V 53 s = gA V 53 o := by rw [q3, p3]
  have hrf3 : ∀ {K : Int32 → ST → Prop}, ((a5 < 0 → K (-13) V) ∧ (¬ a5 < 0 → ((a2 < 0 → K (-13) V) ∧ (¬ a2 < 0 → ((a4 < 0 → K (-13) V) ∧ (¬ a4 < 0 → ((nI m - a5 < a2 → K (-13) V) ∧ (¬ nI m - a5 < a2 → ((¬ a4 ≤ nI m' - a5 → K (-13) V) ∧ (a4 ≤ nI m' - a5 → wp_X12_shift_p113 (nI s) a2 (nI o) a4 a5 0 V K)))))))))) → wp_X12_shift (nI s) a2 (nI o) a4 a5 V K := fun hk => hrf2 ⟨fun c => absurd c hn0, fun _ => ⟨fun c => absurd heq c, fun _ => by rw [q7, p7]; exact hk⟩⟩
  have hbadp : ¬ (InP a2 a5 m ∧ InP a4 a5 m') → ∀ {K : Int32 → ST → Prop}, K (-13) V → wp_X12_shift (nI s) a2 (nI o) a4 a5 V K := by
    intro hno K hK
    refine hrf3 ⟨fun _ => hK, fun d5 => ⟨fun _ => hK, fun d2 => ⟨fun _ => hK, fun d4 => ⟨fun _ => hK, fun d6 => ⟨fun _ => hK, fun d7 => ?_⟩⟩⟩⟩⟩
    exfalso
    obtain ⟨n5, h5, rfl⟩ := nI_of d5
    obtain ⟨n2, h2, rfl⟩ := nI_of d2
    obtain ⟨n4, h4, rfl⟩ := nI_of d4
    have f6 := mt (lt_of_sub (m := m) (by omega) h5 h2).mpr d6
    have f7 := mt (lt_of_sub (m := m') (by omega) h5 h4).mpr (Int32.not_lt.mpr d7)
    exact hno ⟨⟨n2, n5, rfl, rfl, by omega⟩, ⟨n4, n5, rfl, rfl, by omega⟩⟩
  refine zhasPlaces q5 r2 (fun c1 => ?_) (fun c1 => ?_)
  rotate_left
  · rintro _ rfl
    rw [mu_self]
    exact ⟨fun _ => h _ _ fun K hK => hbadp (fun c => c1 c.1) (hK _ hid), fun c => absurd rfl c⟩
  rintro _ rfl
  rw [mu_self]
  refine ⟨fun c => absurd c (by decide), fun _ => ?_⟩
  refine zhasPlaces p5 t2 (fun c2 => ?_) (fun c2 => ?_)
  rotate_left
  · rintro _ rfl
    rw [mu_self]
    exact ⟨fun c => absurd rfl c, fun _ => h _ _ fun K hK => hbadp (fun c => c2 c.2) (hK _ hid)⟩
  rintro _ rfl
  rw [mu_self]
  refine ⟨fun _ => ?_, fun c => absurd c (by decide)⟩
  obtain ⟨i, l, rfl, rfl, hil⟩ := c1
  obtain ⟨j, l', rfl, el, hjl⟩ := c2
  have : l = l' := (nI_eq (by omega) (by omega)).mp el
  subst this
  refine ⟨⟨nI_pos (by omega), nI_pos (by omega), nI_pos (by omega), ?_, ?_⟩, ?_⟩
  · rw [nI_clamp (by omega), nI_clamp (by omega)]
    omega
  · rw [nI_clamp (by omega), nI_clamp (by omega)]
    omega
  rintro _ rfl
  rw [nI_clamp (n := i) (by omega), nI_clamp (n := j) (by omega), nI_clamp (n := l) (by omega)]
  refine h _ _ fun K hK => hrf3 ⟨fun c => absurd c (nI_pos (by omega)), fun _ => ⟨fun c => absurd c (nI_pos (by omega)), fun _ => ⟨fun c => absurd c (nI_pos (by omega)), fun _ => ⟨fun c => ?_, fun _ => ⟨fun c => ?_, fun _ => ?_⟩⟩⟩⟩⟩
  · have := (lt_of_sub (m := m) (by omega) (by omega) (by omega)).mp c
    omega
  · have := (lt_of_sub (m := m') (by omega) (by omega) (by omega)).mp (Int32.not_le.mp c)
    omega
  refine zcpy1 hs ho (by omega) (by omega) fun g => ?_
  refine hK _ ⟨RS_upd hn e9 hS ho rfl (fun t ht hts => ⟨rfl, rfl, fun z hz => ?_⟩) (.inr (.inr ⟨so, m', t1, t2, p1, p2, p5, p3, p7, fun z hz => ?_⟩)), AgU_mu (AgU_r _ _) (sh_mem ho) _, Ag_sJ (Ag_sJ (Ag_r _ _) (by decide) _) (by decide) _⟩
  · refine Eq.trans (b := va_cpy (gJ V 55) (gJ V 55) (60 * s + i) (60 * o + j) l (60 * t + z)) rfl (pk_cpy_out ?_)
    omega
  · refine Eq.trans (b := va_cpy (gJ (U (18 + s)) 0) (gJ (U (18 + o)) 0) i j l z) rfl (Eq.trans (b := va_cpy (gJ V 55) (gJ V 55) (60 * s + i) (60 * o + j) l (60 * o + z)) ?_ rfl)
    by_cases c : j ≤ z ∧ z < j + l
    · rw [pk_cpy_in c.1 c.2, pk_cpy_in (by omega) (by omega), q8 _ (by omega)]
      congr 1
      omega
    · rw [pk_cpy_out (by omega), pk_cpy_out (by omega)]
      exact p8 z hz

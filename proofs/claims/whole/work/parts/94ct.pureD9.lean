theorem zdropAllC0 {s : Nat} {U : CS} {i : Int32} {n : Nat} (hi : i < 0) (h1 : 1 ≤ n) (hn : n ≤ 20) {Q : Int32 → CS → Prop} (hq : Q 0 U) : wp_X11_dropAll_S s i (nI n) U Q := by
  unfold wp_X11_dropAll_S wp_X11_dropAll_S_p6
  refine ⟨fun x2 x3 x4 x5 u => i = x2 ∧ x3 = nI n ∧ x4 = 0 ∧ x5 = 0 ∧ u = U, fun _ _ _ _ _ => 0, ⟨rfl, rfl, rfl, rfl, rfl⟩, ?_⟩
  rintro _ _ _ _ u ⟨rfl, rfl, rfl, rfl, eu⟩
  rw [eu]
  unfold wp_X11_dropAll_S_p6b wp_X11_dropAll_S_p53
  refine ⟨fun c => ?_, fun _ => ⟨fun _ => hq, fun c => absurd hi c⟩⟩
  have := (nI_leI (b := 0) (by omega) (by decide)).mp c
  omega
theorem zdropAllR0 {s : Nat} {V : ST} {i : Int32} {n : Nat} (hi : i < 0) (h1 : 1 ≤ n) (hn : n ≤ 20) {K : Int32 → ST → Prop} (hq : K 0 V) : wp_X12_drops_p70 (nI s) i (nI n) 0 V K := by
  unfold wp_X12_drops_p70
  refine ⟨fun x1 x2 x3 x4 u => x1 = nI s ∧ i = x2 ∧ x3 = nI n ∧ x4 = 0 ∧ u = V, fun _ _ _ _ _ => 0, ⟨rfl, rfl, rfl, rfl, rfl⟩, ?_⟩
  rintro _ _ _ _ u ⟨rfl, rfl, rfl, rfl, eu⟩
  rw [eu]
  unfold wp_X12_drops_p70b wp_X12_drops_p129
  refine ⟨fun c => ?_, fun _ => ?_⟩
  · have := (nI_leI (b := 0) (by omega) (by decide)).mp c
    omega
  rintro _ rfl _ rfl _ rfl _ rfl
  refine ⟨fun _ => hq, fun c => absurd ?_ c⟩
  rw [lg_cmp_lt, Int64.lt_iff_toInt_lt, Int64.toInt_add, Int32.toInt_toInt64, Int32.toInt_toInt64, Int.bmod_def]
  rw [Int32.lt_iff_toInt_lt] at hi
  have e0 : (0 : Int64).toInt = 0 := by decide
  have e1 : (0 : Int32).toInt = 0 := by decide
  have lo := Int32.le_toInt i
  rw [e1] at hi ⊢
  rw [e0]
  split <;> omega
theorem zdrops {U : CS} {V : ST} (hS : RS U V) (hD : RD (U 13) (U 14) (gA V 46)) (a1 a2 a3 : Int32) : Sim (wp_X11_drops a1 a2 a3 U) (wp_X12_drops a1 a2 a3 V) (RDx U V) := by
  intro Q h
  have hid : RDx U V U V := ⟨hD, AgU_r _ _, Ag_r _ _⟩
  obtain ⟨y, hc, hr⟩ := zbytes hS a1
  unfold wp_X11_drops wp_X11_drops_p17 wp_X11_drops_p72
  rcases hr with ⟨rfl, hb⟩ | ⟨s, hs, rfl, -, hr⟩
  · refine zShelfN hb ⟨fun _ => h _ _ fun K hK => ?_, fun c => absurd rfl c⟩
    unfold wp_X12_drops wp_X12_drops_p17
    exact zShelfNM hb ⟨fun _ => hK V hid, fun c => absurd rfl c⟩
  refine zShelfY hs ⟨fun c => absurd c (by decide), fun _ => ?_⟩
  refine zwithin (fun p q => ⟨fun _ => hc _ ?_, fun c => absurd c (by decide)⟩) (fun p => ⟨fun c => absurd rfl c, fun _ => h _ _ fun K hK => ?_⟩)
  rotate_left
  · unfold wp_X12_drops wp_X12_drops_p17
    exact zShelfYM hs ⟨fun c => absurd c (by decide), fun _ => zIb p ⟨fun c => absurd rfl c, fun _ => hK V hid⟩⟩
  have p0 : ¬ a3 < 0 := fun c => p (by
    rw [Int32.lt_iff_toInt_lt] at c ⊢
    have e0 : (0 : Int32).toInt = 0 := by decide
    have e1 : (1 : Int32).toInt = 1 := by decide
    omega)
  obtain ⟨n, hn', rfl⟩ := nI_of p0
  have hn1 : 1 ≤ n := by
    have := mt (nI_ltI (a := n) (b := 1) hn' (by decide)).mpr p
    omega
  have hn : n ≤ 20 := by
    have := mt (nI_ltI (a := 20) (b := n) (by decide) hn').mpr q
    omega
  -- the reference up to its loop
  have href : ∀ K : Int32 → ST → Prop, ((gA V 53 s = -1 ∨ gA V 53 s = -2) → (0 ≤ gA V 46 0 → (¬ gA V 53 s = -1 → wp_X12_drops_p70 (nI s) a2 (nI n) 0 V K) ∧ (gA V 53 s = -1 → K 0 V)) ∧ (¬ 0 ≤ gA V 46 0 → K (-5) V)) → (¬ gA V 53 s = -1 → ¬ gA V 53 s = -2 → K (-12) V) → wp_X12_drops (nI s) a2 (nI n) V K := by
    intro K k1 k2
    have k43 : (gA V 53 s = -1 ∨ gA V 53 s = -2) → wp_X12_drops_p43 (nI s) a2 (nI n) V K := fun hh => by
      unfold wp_X12_drops_p43
      refine ⟨v9 (k := 0) (by decide), ?_⟩
      rintro _ rfl
      rw [c9_0]
      refine ⟨fun c => ⟨nI_in hs (by decide), ?_⟩, (k1 hh).2⟩
      rw [nI_clamp (by omega)]
      rintro _ rfl
      exact (k1 hh).1 c
    unfold wp_X12_drops
    refine zShelfYM hs ⟨fun c => absurd c (by decide), fun _ => zIn (lo := 1) (hi := 20) hn1 hn (by decide) ⟨fun _ => ⟨nI_in hs (by decide), ?_⟩, fun c => absurd c (by decide)⟩⟩
    rw [nI_clamp (by omega)]
    rintro _ rfl
    refine ⟨fun c => k43 (.inl c), fun c => ⟨nI_in hs (by decide), ?_⟩⟩
    rintro _ rfl
    exact ⟨fun c2 => k43 (.inr c2), fun c2 => k2 c c2⟩
  have hD0 := hD
  obtain ⟨hH, -⟩ := hD
  rcases hr with ⟨rfl, m, hm, e3, e54, e53, hel⟩ | ⟨rfl, e53⟩ | ⟨rfl, hne⟩
  · refine ⟨fun _ => ⟨fun ct => ⟨fun _ => ⟨nI_in hs (by decide), ?_⟩, fun c => absurd c (by decide)⟩, fun ct => h _ _ fun K hK => href K (fun _ => ⟨fun c => ?_, fun _ => hK V hid⟩) (fun _ c => absurd e53 c)⟩, fun c => absurd c (by decide)⟩
    rotate_left
    · exfalso
      rcases hH with ⟨t1, -⟩ | ⟨-, t2⟩
      · exact absurd (t1.symm.trans ct) (by decide)
      · rw [t2] at c
        exact absurd c (by decide)
    obtain ⟨t1, t2, t3⟩ := hH.resolve_right fun q => ct q.1
    rw [nI_clamp (by omega)]
    have hne1 : ¬ gA V 53 s = -1 := by
      rw [e53]
      decide
    have href2 : ∀ K : Int32 → ST → Prop, wp_X12_drops_p70 (nI s) a2 (nI n) 0 V K → wp_X12_drops (nI s) a2 (nI n) V K := fun K hk => href K (fun _ => ⟨fun _ => ⟨fun _ => hk, fun c => absurd c hne1⟩, fun c => absurd (Int32.not_lt.mp t3) c⟩) (fun _ c => absurd e53 c)
    by_cases hi : a2 < 0
    · exact zdropAllC0 hi hn1 hn (h _ _ fun K hK => href2 K (zdropAllR0 hi hn1 hn (hK V hid)))
    obtain ⟨a, ha, rfl⟩ := nI_of hi
    refine zdropAllC hm ha hn hs e3 fun k u hsp hmin hkn hst hA => h _ _ fun K hK => href2 K ?_
    refine zdropAllR hm ha hn hs e54 hel hD0 ct hkn hsp hmin fun V' hR hA' => hK V' ⟨?_, hA, hA'⟩
    rw [show u 13 = _ from congrArg Prod.fst hst, show u 14 = _ from congrArg Prod.snd hst]
    exact hR
  · refine ⟨fun _ => ⟨fun ct => ⟨fun c => absurd rfl c, fun _ => h _ _ fun K hK => href K (fun _ => ⟨fun c => ⟨fun c2 => absurd e53 c2, fun _ => hK V hid⟩, fun c => ?_⟩) (fun c => absurd e53 c)⟩, fun ct => h _ _ fun K hK => href K (fun _ => ⟨fun c => ?_, fun _ => hK V hid⟩) (fun c => absurd e53 c)⟩, fun c => absurd c (by decide)⟩
    · obtain ⟨t1, t2, t3⟩ := hH.resolve_right fun q => ct q.1
      exact absurd (Int32.not_lt.mp t3) c
    · exfalso
      rcases hH with ⟨t1, -⟩ | ⟨-, t2⟩
      · exact absurd (t1.symm.trans ct) (by decide)
      · rw [t2] at c
        exact absurd c (by decide)
  · refine ⟨fun c => absurd rfl c, fun _ => h _ _ fun K hK => href K (fun hh => ?_) (fun _ _ => hK V hid)⟩
    exact absurd hh (fun c => c.elim hne.1 hne.2)

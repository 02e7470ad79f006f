/-! drops -/
def cstep (P : ST × ST) (a : Int32) : ST × ST := if gI P.1 2 < a then (sI (sI P.1 4 (gI P.1 4 + 1)) 5 (gI P.1 5 + 1), sI (sI P.2 1 (if a - 1 < gI P.2 1 then a - 1 else gI P.2 1)) 2 (gI P.2 2 - 1)) else (sI P.1 4 (gI P.1 4 + 1), sI P.2 0 (if gI P.2 0 < a then a else gI P.2 0))
theorem cstep_1 (P : ST × ST) (a : Int32) : gI (cstep P a).1 1 = gI P.1 1 := by
  unfold cstep
  split <;> rfl
theorem zdropC {u : CS} {a : Int32} {Q : Int32 → CS → Prop} (hq : ∀ (y : Int32) (u' : CS), (u' 0, u' 1) = cstep (u 0, u 1) a → Q y u') : wp_X1_dropFrom a u Q := by
  unfold cstep at hq
  refine zdropFrom (fun c u' e0 e1 => hq _ _ ?_) (fun c u' e0 e1 => hq _ _ ?_)
  · rw [if_pos c, e0, e1]
  · rw [if_neg c, e0, e1]
theorem zdropR {P : ST × ST} {V : ST} (hD : RD P.1 P.2 (gA V 46)) (ht : ¬ gI P.1 1 = 0) {a : Int32} {K : Int32 → ST → Prop} (hK : ∀ (y : Int32) (f' : Nat → Int32), RD (cstep P a).1 (cstep P a).2 f' → K y (sA V 46 f')) : wp_X12_drops1 a V K := by
  obtain ⟨hH, e1, e2, e3, e4, e5, e6, e7, e8⟩ := hD
  obtain ⟨t1, t2, t3⟩ := hH.resolve_right fun c => ht c.1
  unfold cstep at hK
  refine zdrops1 _ rfl (fun c2 f' g0 g1 g2 g3 g4 g5 g6 g7 g8 => hK _ f' ?_) (fun c2 f' g0 g1 g2 g3 g4 g5 g6 g7 g8 => hK _ f' ?_)
  · rw [if_pos (by rw [← t2]; exact c2)]
    refine ⟨.inl ⟨t1, g0.trans t2, by rw [g0]; exact t3⟩, g1.trans e1, ?_, ?_, ?_, g5.trans e5, ?_, g7.trans e7, g8.trans e8⟩
    · rw [g2, e2]; rfl
    · rw [g3, e3]; rfl
    · rw [g4, e4]; rfl
    · rw [g6, e6]; rfl
  · rw [if_neg (by rw [← t2]; exact c2)]
    refine ⟨.inl ⟨t1, g0.trans t2, by rw [g0]; exact t3⟩, g1.trans e1, g2.trans e2, ?_, g4.trans e4, ?_, g6.trans e6, g7.trans e7, g8.trans e8⟩
    · rw [g3, e3]; rfl
    · rw [g5, e5]; rfl
def cq (P : ST × ST) (el : Nat → Int64) (a : Nat) : Nat → ST × ST
  | 0 => P
  | k + 1 => cstep (cq P el a k) (el (a + k)).toInt32
theorem cq_1 (P : ST × ST) (el : Nat → Int64) (a : Nat) : ∀ k : Nat, gI (cq P el a k).1 1 = gI P.1 1
  | 0 => rfl
  | k + 1 => (cstep_1 _ _).trans (cq_1 P el a k)
/-- here the row of drops ends -/
def spD (P : ST × ST) (el : Nat → Int64) (a n m k : Nat) : Prop := n ≤ k ∨ m ≤ a + k ∨ gI (cq P el a k).2 2 = 0 ∨ gI (cq P el a k).2 0 = gI (cq P el a k).2 1 ∨ (el (a + k)).toInt32 < 1 ∨ gI (cq P el a k).1 3 < (el (a + k)).toInt32
theorem lsum {a k : Nat} (ha : a < 2 ^ 31) (hk : k < 2 ^ 31) : ((nI a).toInt64 + (nI k).toInt64).toInt = ((a + k : Nat) : Int) := by
  rw [Int64.toInt_add, Int32.toInt_toInt64, Int32.toInt_toInt64, nI_toInt ha, nI_toInt hk, Int.bmod_def]
  split <;> omega
theorem lsum32 {a k : Nat} (h : a + k < 2 ^ 31) : ((nI a).toInt64 + (nI k).toInt64).toInt32 = nI (a + k) := by
  apply Int32.toInt_inj.mp
  rw [Int64.toInt_toInt32, lsum (by omega) (by omega), nI_toInt h, Int.bmod_def]
  split <;> omega
theorem zdropAllC {s : Nat} {U : CS} {a n m : Nat} (hm : m ≤ 60) (ha : a < 2 ^ 31) (hn : n ≤ 20) (hs : s < 6) (e3 : gI (U (18 + s)) 3 = nI m) {Q : Int32 → CS → Prop} (hq : ∀ (k : Nat) (u : CS), spD (U 13, U 14) (gJ (U (18 + s)) 0) a n m k → (∀ i : Nat, i < k → ¬ spD (U 13, U 14) (gJ (U (18 + s)) 0) a n m i) → k ≤ n → (u 13, u 14) = cq (U 13, U 14) (gJ (U (18 + s)) 0) a k → AgU [13, 14] u U → Q (nI k) u) : wp_X11_dropAll_S s (nI a) (nI n) U Q := by
  unfold wp_X11_dropAll_S wp_X11_dropAll_S_p6
  refine ⟨fun x2 x3 x4 x5 u => x2 = nI a ∧ x3 = nI n ∧ ∃ k : Nat, k ≤ n ∧ k ≤ m ∧ x4 = nI k ∧ x5 = nI k ∧ (∀ i : Nat, i < k → ¬ spD (U 13, U 14) (gJ (U (18 + s)) 0) a n m i) ∧ (u 13, u 14) = cq (U 13, U 14) (gJ (U (18 + s)) 0) a k ∧ AgU [13, 14] u U, fun _ _ _ x5 _ => 21 - x5.toNatClampNeg, ⟨rfl, rfl, 0, Nat.zero_le _, Nat.zero_le _, rfl, rfl, fun i hi => absurd hi (Nat.not_lt_zero _), rfl, AgU_r _ _⟩, ?_⟩
  rintro _ _ _ _ u ⟨rfl, rfl, k, hkn, hkm, rfl, rfl, hmin, hst, hA⟩
  have stop : spD (U 13, U 14) (gJ (U (18 + s)) 0) a n m k → Q (nI k) u := fun h => hq k u h hmin hkn hst hA
  have hus : u (18 + s) = U (18 + s) := hA (18 + s) fun c => by
    simp only [List.mem_cons, List.not_mem_nil, or_false] at c
    omega
  have h13 : u 13 = (cq (U 13, U 14) (gJ (U (18 + s)) 0) a k).1 := congrArg Prod.fst hst
  have h14 : u 14 = (cq (U 13, U 14) (gJ (U (18 + s)) 0) a k).2 := congrArg Prod.snd hst
  unfold wp_X11_dropAll_S_p6b wp_X11_dropAll_S_p53
  refine ⟨fun c => stop (.inl ((nI_leI (by omega) (by omega)).mp c)), fun c => ⟨fun c2 => absurd c2 (nI_pos ha), fun _ => ?_⟩⟩
  have hkn' : k < n := by
    have := mt (nI_leI (a := n) (b := k) (by omega) (by omega)).mpr c
    omega
  rw [hus, e3, nI_sub hkm]
  rintro _ rfl
  refine ⟨fun c2 => stop (.inr (.inl ?_)), fun c2 => ?_⟩
  · have := (nI_leI (by omega) ha).mp c2
    omega
  have ham : a + k < m := by
    have := mt (nI_leI (a := m - k) (b := a) (by omega) ha).mpr c2
    omega
  refine ⟨fun c3 => stop (.inr (.inr (.inl (by rw [← h14]; exact c3)))), fun c3 => ?_⟩
  unfold wp_X7_isSure wp_X7_isSure_p16
  refine ⟨fun c4 => ⟨by decide, ?_⟩, fun c4 => ⟨by decide, ?_⟩⟩
  rotate_left
  · rintro _ rfl
    rw [mu_self]
    exact ⟨fun c => absurd c (by decide), fun _ => stop (.inr (.inr (.inr (.inl (by rw [← h14]; exact c4)))))⟩
  rintro _ rfl
  rw [mu_self]
  refine ⟨fun _ => ?_, fun c => absurd rfl c⟩
  rw [nI_add]
  rintro _ rfl
  refine zget (m := m) (by rw [hus]; exact e3) ham hm ?_
  rintro _ rfl
  rw [mu_self, hus]
  rintro _ rfl
  refine zwithin (fun p q => ⟨fun _ => ?_, fun c => absurd c (by decide)⟩) (fun p => ⟨fun c => absurd rfl c, fun _ => stop (.inr (.inr (.inr (.inr ?_))))⟩)
  rotate_left
  · rw [← h13]
    exact p
  refine zdropC fun y v hv => ?_
  rw [emb_2 _ (by decide), nI_1]
  rintro _ rfl _ rfl _ rfl
  refine ⟨⟨rfl, rfl, k + 1, by omega, by omega, rfl, rfl, fun i hi => ?_, ?_, AgU_mu (AgU_mu hA (by decide) _) (by decide) _⟩, ?_⟩
  · by_cases ci : i = k
    · subst ci
      intro h
      rcases h with h | h | h | h | h | h
      · omega
      · omega
      · exact c3 (by rw [h14]; exact h)
      · exact c4 (by rw [h14]; exact h)
      · exact p h
      · exact q (by rw [h13]; exact h)
    · exact hmin i (by omega)
  · exact hv.trans (congrArg (fun z => cstep z _) hst)
  · try dsimp only
    rw [nI_clamp (by omega), nI_clamp (by omega)]
    omega
theorem zdropAllR {s : Nat} {V : ST} {P : ST × ST} {el : Nat → Int64} {a n m D : Nat} (hm : m ≤ 60) (ha : a < 2 ^ 31) (hn : n ≤ 20) (hs : s < 6) (e54 : gA V 54 s = nI m) (hel : ∀ i : Nat, i < 60 → el i = gJ V 55 (60 * s + i)) (hD : RD P.1 P.2 (gA V 46)) (ht : ¬ gI P.1 1 = 0) (hDn : D ≤ n) (hsp : spD P el a n m D) (hmin : ∀ i : Nat, i < D → ¬ spD P el a n m i) {K : Int32 → ST → Prop} (hK : ∀ V' : ST, RD (cq P el a D).1 (cq P el a D).2 (gA V' 46) → Ag [46] V' V → K (nI D) V') : wp_X12_drops_p70 (nI s) (nI a) (nI n) 0 V K := by
  unfold wp_X12_drops_p70
  refine ⟨fun x1 x2 x3 x4 u => x1 = nI s ∧ x2 = nI a ∧ x3 = nI n ∧ ∃ k : Nat, k ≤ D ∧ x4 = nI k ∧ RD (cq P el a k).1 (cq P el a k).2 (gA u 46) ∧ Ag [46] u V, fun _ _ _ x4 _ => 21 - x4.toNatClampNeg, ⟨rfl, rfl, rfl, 0, Nat.zero_le _, rfl, hD, Ag_r _ _⟩, ?_⟩
  rintro _ _ _ _ u ⟨rfl, rfl, rfl, k, hk, rfl, hR, hA⟩
  have stop : spD P el a n m k → k = D := fun h => by
    by_cases c : k = D
    · exact c
    · exact absurd h (hmin k (by omega))
  have stopK : spD P el a n m k → K (nI k) u := fun h => by
    have e := stop h
    subst e
    exact hK u hR hA
  have hb : k < 2 ^ 31 := by omega
  obtain ⟨-, g1, g2, g3, g4, g5, g6, -⟩ := id hR
  unfold wp_X12_drops_p70b wp_X12_drops_p129
  refine ⟨fun c => ?_, fun c => ?_⟩
  · have c := (nI_leI (by omega) (by omega)).mp c
    have e : k = n := by omega
    have := stopK (.inl c)
    rw [e] at this
    exact this
  have hkn : k < n := by
    have := mt (nI_leI (a := n) (b := k) (by omega) (by omega)).mpr c
    omega
  rintro _ rfl _ rfl _ rfl _ rfl
  have hl := lsum ha hb
  refine ⟨fun c2 => ?_, fun _ => ⟨nI_in hs (by decide), ?_⟩⟩
  · rw [lg_cmp_lt, Int64.lt_iff_toInt_lt, hl] at c2
    have e0 : (0 : Int64).toInt = 0 := by decide
    omega
  rw [nI_clamp (by omega), Ag_A hA 54 (by decide), e54]
  rintro _ rfl _ rfl _ rfl
  rw [lg_cmp_ge, Int64.le_iff_toInt_le, hl, Int32.toInt_toInt64, nI_toInt (by omega)]
  refine ⟨fun c2 => stopK (.inr (.inl (by omega))), fun c2 => ⟨v9 (k := 2) (by decide), ?_⟩⟩
  have ham : a + k < m := by omega
  rw [c9_2, c9_5, c9_6, c9_1, g2, g5, g6, g1]
  rintro _ rfl
  refine ⟨fun c3 => stopK (.inr (.inr (.inl c3))), fun c3 => ⟨v9 (k := 5) (by decide), ?_⟩⟩
  rintro _ rfl
  refine ⟨v9 (k := 6) (by decide), ?_⟩
  rintro _ rfl
  refine ⟨fun c4 => ?_, fun c4 => stopK (.inr (.inr (.inr (.inl c4))))⟩
  rw [show (60 : Int32) * nI s = nI (60 * s) from pk_mul 60 s, lsum32 (by omega)]
  rintro _ rfl _ rfl
  rw [nI_add]
  rintro _ rfl
  refine ⟨nI_in (by omega) (by decide), ?_⟩
  rw [nI_clamp (by omega), Ag_J hA 55 (by decide), ← hel (a + k) (by omega)]
  rintro _ rfl _ rfl
  refine ⟨v9 (k := 1) (by decide), ?_⟩
  rintro _ rfl
  refine zin (fun p q => ⟨fun _ => ?_, fun c => absurd c (by decide)⟩) (fun p => ⟨fun c => absurd rfl c, fun _ => stopK (.inr (.inr (.inr (.inr p))))⟩)
  have hkD : k < D := by
    by_cases c : k = D
    · subst c
      exfalso
      rcases hsp with h | h | h | h | h | h
      · omega
      · omega
      · exact c3 h
      · exact c4 h
      · exact p h
      · exact q h
    · omega
  refine zdropR hR (by rw [cq_1]; exact ht) fun y f' hf => ?_
  rw [nI_1]
  rintro _ rfl
  refine ⟨⟨rfl, rfl, rfl, k + 1, hkD, rfl, hf, Ag_sA hA (by decide) _⟩, ?_⟩
  try dsimp only
  rw [nI_clamp (by omega), nI_clamp (by omega)]
  omega

def RS1 (S V : ST) (s n : Nat) : Prop :=
  (gI S 1 = -1 ∧ gI S 2 = -1 ∧ gA V 53 s = -1) ∨
  (∃ b : Nat, b < n ∧ gI S 1 = nI b ∧ gI S 2 = -1 ∧ gA V 53 s = nI b) ∨
  (∃ so m : Nat, so < 5 ∧ m ≤ 60 ∧ gI S 1 = -1 ∧ gI S 2 = nI so ∧ gI S 3 = nI m ∧ gA V 53 s = -2 - nI so ∧ gA V 54 s = nI m ∧ ∀ i : Nat, i < 60 → gJ S 0 i = gJ V 55 (60 * s + i))
def RS (U : CS) (V : ST) : Prop := ∃ n : Nat, n ≤ 50 ∧ gI V 49 = nI n ∧ ∀ s : Nat, s < 6 → RS1 (U (18 + s)) V s n
def RSx (U : CS) (V : ST) (U' : CS) (V' : ST) : Prop := RS U' V' ∧ AgU [18, 19, 20, 21, 22, 23] U' U ∧ Ag [53, 54, 55] V' V
theorem RS1_m {S V : ST} {s n n' : Nat} (h : RS1 S V s n) (hn : n ≤ n') : RS1 S V s n' := by
  rcases h with h | ⟨b, hb, h⟩ | h
  · exact .inl h
  · exact .inr (.inl ⟨b, by omega, h⟩)
  · exact .inr (.inr h)
theorem RS1_c {S V V' : ST} {s n : Nat} (h : RS1 S V s n) (h1 : gA V' 53 s = gA V 53 s) (h2 : gA V' 54 s = gA V 54 s) (h3 : ∀ i : Nat, i < 60 → gJ V' 55 (60 * s + i) = gJ V 55 (60 * s + i)) : RS1 S V' s n := by
  unfold RS1
  rw [h1, h2]
  rcases h with h | h | ⟨so, m, q1, q2, q3, q4, q5, q6, q7, q8⟩
  · exact .inl h
  · exact .inr (.inl h)
  · exact .inr (.inr ⟨so, m, q1, q2, q3, q4, q5, q6, q7, fun i hi => (q8 i hi).trans (h3 i hi).symm⟩)
theorem RS_upd {U : CS} {V V' : ST} {s : Nat} {S' : ST} {n : Nat} (hn : n ≤ 50) (e : gI V 49 = nI n) (h : ∀ s : Nat, s < 6 → RS1 (U (18 + s)) V s n) (hs : s < 6) (h9 : gI V' 49 = gI V 49) (h1 : ∀ t : Nat, t < 6 → t ≠ s → gA V' 53 t = gA V 53 t ∧ gA V' 54 t = gA V 54 t ∧ ∀ i : Nat, i < 60 → gJ V' 55 (60 * t + i) = gJ V 55 (60 * t + i)) (h2 : RS1 S' V' s n) : RS (mu U (18 + s) S') V' := by
  refine ⟨n, hn, h9.trans e, fun t ht => ?_⟩
  by_cases c : t = s
  · subst c
    rw [mu_at]
    exact h2
  · rw [mu_ne _ _ (by omega)]
    exact RS1_c (h t ht) (h1 t ht c).1 (h1 t ht c).2.1 (h1 t ht c).2.2
theorem zisEmpty {S : ST} {Q : Int32 → ST → Prop} (h1 : gI S 1 = -1 → gI S 2 = -1 → Q 1 S) (h0 : ¬ (gI S 1 = -1 ∧ gI S 2 = -1) → Q 0 S) : wp_X6_isEmpty S Q := by
  unfold wp_X6_isEmpty wp_X6_isEmpty_p20 wp_X6_isEmpty_p21
  exact ⟨fun c => ⟨by decide, h0 fun q => c q.1⟩, fun c => ⟨fun c2 => ⟨by decide, h0 fun q => c2 q.2⟩, fun c2 => ⟨by decide, h1 c c2⟩⟩⟩
theorem zisRow {S : ST} {Q : Int32 → ST → Prop} (h1 : ¬ gI S 2 = -1 → Q 1 S) (h0 : gI S 2 = -1 → Q 0 S) : wp_X6_isRow S Q := by
  unfold wp_X6_isRow wp_X6_isRow_p13
  exact ⟨fun c => ⟨by decide, h0 c⟩, fun c => ⟨by decide, h1 c⟩⟩
theorem nI_nm1 {n : Nat} (h : n < 2 ^ 31) : ¬ nI n = -1 := fun e => by
  have := nI_toInt h
  rw [e] at this
  have e1 : (-1 : Int32).toInt = -1 := by decide
  omega
theorem nI_sub {a b : Nat} (h : b ≤ a) : nI a - nI b = nI (a - b) := pk_sub h
/-- places i .. i+n-1 lie in a row of m -/
def InP (i n : Int32) (m : Nat) : Prop := ∃ a b : Nat, i = nI a ∧ n = nI b ∧ a + b ≤ m
theorem lt_of_sub {m b a : Nat} (hm : m ≤ 1000) (hb : b < 2 ^ 31) (ha : a < 2 ^ 31) : (nI m - nI b < nI a) ↔ m < a + b := by
  rw [Int32.lt_iff_toInt_lt, nI_toInt ha, Int32.toInt_sub, nI_toInt (by omega), nI_toInt hb]
  rw [Int.bmod_def]
  omega
theorem zhasPlaces {S : ST} {i n : Int32} {m : Nat} (e : gI S 3 = nI m) (hm : m ≤ 60) {Q : Int32 → ST → Prop} (h1 : InP i n m → Q 1 S) (h0 : ¬ InP i n m → Q 0 S) : wp_X6_hasPlaces i n S Q := by
  unfold wp_X6_hasPlaces wp_X6_hasPlaces_p22 wp_X6_hasPlaces_p23
  refine ⟨fun c => ⟨by decide, h0 ?_⟩, fun c => ⟨fun c2 => ⟨by decide, h0 ?_⟩, fun c2 => ?_⟩⟩
  · rintro ⟨a, b, rfl, rfl, h⟩
    exact nI_pos (by omega) c
  · rintro ⟨a, b, rfl, rfl, h⟩
    exact nI_pos (by omega) c2
  · obtain ⟨a, ha, rfl⟩ := nI_of c
    obtain ⟨b, hb, rfl⟩ := nI_of c2
    rw [e]
    rintro _ rfl
    refine ⟨fun c3 => ⟨by decide, h0 ?_⟩, fun c3 => ⟨by decide, h1 ⟨a, b, rfl, rfl, ?_⟩⟩⟩
    · rintro ⟨a', b', e1, e2, h⟩
      have := (nI_eq ha (by omega)).mp e1
      have := (nI_eq hb (by omega)).mp e2
      have := (lt_of_sub (by omega) hb ha).mp c3
      omega
    · have := mt (lt_of_sub (m := m) (by omega) hb ha).mpr c3
      omega
/-- a shelf's number -/
theorem shelf_of {a : Int32} (p : ¬ a < 0) (q : ¬ 5 < a) : ∃ s : Nat, s < 6 ∧ a = nI s := by
  obtain ⟨s, hs, rfl⟩ := nI_of p
  have := mt (nI_ltI (a := 5) (b := s) (by decide) hs).mpr q
  exact ⟨s, by omega, rfl⟩
theorem zShelfY {s : Nat} (h : s < 6) {Q : Int32 → Prop} (hq : Q 1) : wp_X11_isShelf (nI s) Q := zisShelf (fun _ _ => hq) (fun p => by
  rcases p with p | p
  · exact absurd p (nI_pos (by omega))
  · have := (nI_ltI (a := 5) (by decide) (by omega)).mp p
    omega)
theorem zShelfYM {s : Nat} (h : s < 6) {Q : Int32 → Prop} (hq : Q 1) : wp_X12_isShelf (nI s) Q := zisShelfM (fun _ _ => hq) (fun p => by
  rcases p with p | p
  · exact absurd p (nI_pos (by omega))
  · have := (nI_ltI (a := 5) (by decide) (by omega)).mp p
    omega)
theorem zShelfN {a : Int32} (h : a < 0 ∨ 5 < a) {Q : Int32 → Prop} (hq : Q 0) : wp_X11_isShelf a Q := zisShelf (fun p q => (h.elim p q).elim) (fun _ => hq)
theorem zShelfNM {a : Int32} (h : a < 0 ∨ 5 < a) {Q : Int32 → Prop} (hq : Q 0) : wp_X12_isShelf a Q := zisShelfM (fun p q => (h.elim p q).elim) (fun _ => hq)
theorem shelf_or (a : Int32) : (∃ s : Nat, s < 6 ∧ a = nI s) ∨ (a < 0 ∨ 5 < a) := by
  by_cases p : a < 0
  · exact .inr (.inl p)
  · by_cases q : 5 < a
    · exact .inr (.inr q)
    · exact .inl (shelf_of p q)
/-- a number within bounds, or not -/
theorem zIn {a lo hi : Nat} (h1 : lo ≤ a) (h2 : a ≤ hi) (h3 : hi < 2 ^ 31) {Q : Int32 → Prop} (hq : Q 1) : wp_X12_in (nI a) (nI lo) (nI hi) Q := zin (fun _ _ => hq) (fun p => by
  rcases p with p | p
  · have := (nI_ltI (by omega) (by omega)).mp p
    omega
  · have := (nI_ltI (by omega) (by omega)).mp p
    omega)
theorem zIn0 {x : Int32} {lo hi : Nat} (h3 : hi < 2 ^ 31) (h4 : lo < 2 ^ 31) (h : ∀ a : Nat, x = nI a → lo ≤ a → ¬ a ≤ hi) {Q : Int32 → Prop} (hq : Q 0) : wp_X12_in x (nI lo) (nI hi) Q := zin (fun p q => by
  exfalso
  have h0 : ¬ x < 0 := by
    intro c
    refine p (Int32.lt_iff_toInt_lt.mpr ?_)
    rw [nI_toInt h4]
    have := Int32.lt_iff_toInt_lt.mp c
    have e0 : (0 : Int32).toInt = 0 := by decide
    omega
  obtain ⟨v, hv, rfl⟩ := nI_of h0
  exact h v rfl (Nat.le_of_not_lt (mt (nI_ltI hv h4).mpr p)) (Nat.le_of_not_lt (mt (nI_ltI h3 hv).mpr q))) (fun _ => hq)
theorem zWin {a lo hi : Nat} (h1 : lo ≤ a) (h2 : a ≤ hi) (h3 : hi < 2 ^ 31) {Q : Int32 → Prop} (hq : Q 1) : wp_X11_within (nI a) (nI lo) (nI hi) Q := zwithin (fun _ _ => hq) (fun p => by
  rcases p with p | p
  · have := (nI_ltI (by omega) (by omega)).mp p
    omega
  · have := (nI_ltI (by omega) (by omega)).mp p
    omega)
/-- the class's place, the reference's place -/
theorem zplace {U : CS} {V : ST} (hS : RS U V) (a1 a2 : Int32) : ∃ y : Int32, (∀ Q : Int32 → CS → Prop, Q y U → wp_X11_refusesPlace a1 a2 U Q) ∧ (∀ Q : Int32 → ST → Prop, Q y V → wp_X12_whyNoPlace a1 a2 V Q) ∧ ((y = 0 ∧ ∃ s so m i : Nat, s < 6 ∧ a1 = nI s ∧ a2 = nI i ∧ i < m ∧ so < 5 ∧ m ≤ 60 ∧ gI (U (18 + s)) 1 = -1 ∧ gI (U (18 + s)) 2 = nI so ∧ gI (U (18 + s)) 3 = nI m ∧ gA V 53 s = -2 - nI so ∧ gA V 54 s = nI m ∧ ∀ i : Nat, i < 60 → gJ (U (18 + s)) 0 i = gJ V 55 (60 * s + i)) ∨ (y < 0 ∧ ¬ y = 0 ∧ ¬ 0 ≤ y)) := by
  rcases shelf_or a1 with ⟨s, hs, rfl⟩ | hbad
  · obtain ⟨n, hn, e9, hS⟩ := hS
    rcases hS s hs with ⟨q1, q2, q3⟩ | ⟨b, hb, q1, q2, q3⟩ | ⟨so, m, q1, q2, q3, q4, q5, q6, q7, q8⟩
    · refine ⟨-11, fun Q hq => ?_, fun Q hq => ?_, .inr ⟨by decide, by decide, by decide⟩⟩
      · unfold wp_X11_refusesPlace wp_X11_refusesPlace_p59
        refine zShelfY hs ⟨fun _ => ⟨nI_in hs (by decide), ?_⟩, fun c => absurd c (by decide)⟩
        rw [nI_clamp (by omega)]
        refine zisEmpty (fun _ _ => ?_) (fun c => absurd ⟨q1, q2⟩ c)
        rintro _ rfl
        rw [mu_self]
        exact ⟨fun c => absurd c (by decide), fun _ => hq⟩
      · unfold wp_X12_whyNoPlace wp_X12_whyNoPlace_p56
        refine zShelfYM hs ⟨fun _ => ⟨nI_in hs (by decide), ?_⟩, fun c => absurd c (by decide)⟩
        rintro _ rfl
        rw [nI_clamp (by omega), q3]
        exact ⟨fun c => absurd rfl c, fun _ => hq⟩
    · refine ⟨-12, fun Q hq => ?_, fun Q hq => ?_, .inr ⟨by decide, by decide, by decide⟩⟩
      · unfold wp_X11_refusesPlace wp_X11_refusesPlace_p59
        refine zShelfY hs ⟨fun _ => ⟨nI_in hs (by decide), ?_⟩, fun c => absurd c (by decide)⟩
        rw [nI_clamp (by omega)]
        refine zisEmpty (fun c _ => absurd (q1.symm.trans c) (nI_nm1 (by omega))) (fun _ => ?_)
        rintro _ rfl
        rw [mu_self]
        refine ⟨fun _ => ⟨nI_in hs (by decide), ?_⟩, fun c => absurd rfl c⟩
        refine zisRow (fun c => absurd q2 c) (fun _ => ?_)
        rintro _ rfl
        rw [mu_self]
        exact ⟨fun c => absurd rfl c, fun _ => hq⟩
      · unfold wp_X12_whyNoPlace wp_X12_whyNoPlace_p56
        refine zShelfYM hs ⟨fun _ => ⟨nI_in hs (by decide), ?_⟩, fun c => absurd c (by decide)⟩
        rintro _ rfl
        rw [nI_clamp (by omega), q3]
        refine ⟨fun _ => ⟨nI_in hs (by decide), ?_⟩, fun c => absurd c (nI_nm1 (by omega))⟩
        rintro _ rfl
        exact ⟨fun c => absurd c (nI_pos (by omega)), fun _ => hq⟩
    · have hso : ∀ so : Nat, so < 5 → ¬ (-2 - nI so : Int32) = -1 ∧ (-2 - nI so : Int32) < 0 := fun so h => by
        match so, h with
        | 0, _ => decide
        | 1, _ => decide
        | 2, _ => decide
        | 3, _ => decide
        | 4, _ => decide
      have hcl : ∀ {y : Int32} {Q : Int32 → CS → Prop}, (InP a2 1 m → y = 0) → (¬ InP a2 1 m → y = -13) → Q y U → wp_X11_refusesPlace (nI s) a2 U Q := by
        intro y Q hy1 hy0 hq
        unfold wp_X11_refusesPlace wp_X11_refusesPlace_p59
        refine zShelfY hs ⟨fun _ => ⟨nI_in hs (by decide), ?_⟩, fun c => absurd c (by decide)⟩
        rw [nI_clamp (by omega)]
        refine zisEmpty (fun _ c => absurd (q4.symm.trans c) (nI_nm1 (by omega))) (fun _ => ?_)
        rintro _ rfl
        rw [mu_self]
        refine ⟨fun _ => ⟨nI_in hs (by decide), ?_⟩, fun c => absurd rfl c⟩
        refine zisRow (fun c => ?_) (fun c => absurd (q4.symm.trans c) (nI_nm1 (by omega)))
        rintro _ rfl
        rw [mu_self]
        refine ⟨fun _ => ⟨nI_in hs (by decide), ?_⟩, fun c => absurd c (by decide)⟩
        refine zhasPlaces q5 q2 (fun c => ?_) (fun c => ?_)
        · rintro _ rfl
          rw [mu_self]
          have := hy1 c
          subst this
          exact ⟨fun c => absurd c (by decide), fun _ => hq⟩
        · rintro _ rfl
          rw [mu_self]
          have := hy0 c
          subst this
          exact ⟨fun _ => hq, fun c => absurd rfl c⟩
      have hrf : ∀ {y : Int32} {Q : Int32 → ST → Prop}, (wp_X12_in a2 (0 : Int32) (nI m - 1) fun y44 => ((y44 = 0 → y = -13) ∧ (¬ y44 = 0 → y = 0))) → Q y V → wp_X12_whyNoPlace (nI s) a2 V Q := by
        intro y Q hy hq
        unfold wp_X12_whyNoPlace wp_X12_whyNoPlace_p56
        refine zShelfYM hs ⟨fun _ => ⟨nI_in hs (by decide), ?_⟩, fun c => absurd c (by decide)⟩
        rintro _ rfl
        rw [nI_clamp (by omega), q6]
        refine ⟨fun _ => ⟨nI_in hs (by decide), ?_⟩, fun c => absurd c (hso so q1).1⟩
        rintro _ rfl
        refine ⟨fun _ => ⟨nI_in hs (by decide), ?_⟩, fun c => absurd (hso so q1).2 c⟩
        rintro _ rfl
        rw [q7]
        rintro _ rfl
        refine zin (fun p q => ⟨fun c => absurd c (by decide), fun _ => ?_⟩) (fun p => ⟨fun _ => ?_, fun c => absurd rfl c⟩)
        · unfold wp_X12_in wp_X12_in_p14 wp_X12_in_p15 at hy
          have := ((hy.2 p).2 q).2.2 (by decide)
          subst this
          exact hq
        · unfold wp_X12_in wp_X12_in_p14 wp_X12_in_p15 at hy
          have : y = -13 := by
            by_cases c : a2 < 0
            · exact (hy.1 c).2.1 rfl
            · exact ((hy.2 c).1 (p.resolve_left c)).2.1 rfl
          subst this
          exact hq
      by_cases c : InP a2 1 m
      · refine ⟨0, fun Q hq => hcl (fun _ => rfl) (fun c' => absurd c c') hq, fun Q hq => hrf ?_ hq, .inl ⟨rfl, ?_⟩⟩
        · obtain ⟨a, b, rfl, eb, h⟩ := c
          have := (nI_eq (a := 1) (b := b) (by decide) (by omega)).mp eb
          obtain ⟨m', rfl⟩ : ∃ m', m = m' + 1 := ⟨m - 1, by omega⟩
          rw [nI_pred]
          exact zIn (lo := 0) (by omega) (by omega) (by omega) ⟨fun c => absurd c (by decide), fun _ => rfl⟩
        · obtain ⟨a, b, rfl, eb, h⟩ := c
          have := (nI_eq (a := 1) (b := b) (by decide) (by omega)).mp eb
          exact ⟨s, so, m, a, hs, rfl, rfl, by omega, q1, q2, q3, q4, q5, q6, q7, q8⟩
      · refine ⟨-13, fun Q hq => hcl (fun c' => absurd c' c) (fun _ => rfl) hq, fun Q hq => hrf ?_ hq, .inr ⟨by decide, by decide, by decide⟩⟩
        cases m with
        | zero => exact zin (fun p q => by
            exfalso
            obtain ⟨v, hv, rfl⟩ := nI_of p
            refine q (Int32.lt_iff_toInt_lt.mpr ?_)
            rw [nI_toInt hv]
            have : (nI 0 - 1 : Int32).toInt = -1 := by decide
            omega) (fun _ => ⟨fun _ => rfl, fun c => absurd rfl c⟩)
        | succ m' =>
          rw [nI_pred]
          exact zIn0 (lo := 0) (by omega) (by decide) (fun a e _ h => c ⟨a, 1, e, rfl, by omega⟩) ⟨fun _ => rfl, fun c => absurd rfl c⟩
  · refine ⟨-1, fun Q hq => ?_, fun Q hq => ?_, .inr ⟨by decide, by decide, by decide⟩⟩
    · unfold wp_X11_refusesPlace
      exact zShelfN hbad ⟨fun c => absurd rfl c, fun _ => hq⟩
    · unfold wp_X12_whyNoPlace
      exact zShelfNM hbad ⟨fun c => absurd rfl c, fun _ => hq⟩

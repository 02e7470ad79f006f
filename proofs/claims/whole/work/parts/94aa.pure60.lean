/-! THE PURE SIDE: what the words wp ask, of the class and of the reference side by side. -/
theorem zN_lt {a b : Nat} (ha : a < 2 ^ 31) (hb : b < 2 ^ 31) : nI a < nI b ↔ a < b := by
  rw [Int32.lt_iff_toInt_lt, nI_toInt ha, nI_toInt hb]
  omega
theorem zN_le {a b : Nat} (ha : a < 2 ^ 31) (hb : b < 2 ^ 31) : nI a ≤ nI b ↔ a ≤ b := by
  rw [Int32.le_iff_toInt_le, nI_toInt ha, nI_toInt hb]
  omega
theorem zN_eq {a b : Nat} (ha : a < 2 ^ 31) (hb : b < 2 ^ 31) : nI a = nI b ↔ a = b := by
  rw [← Int32.toInt_inj, nI_toInt ha, nI_toInt hb]
  omega
/-- an int that is not below 0 is the number of a natural -/
theorem zN_of {x : Int32} (h : ¬ x < 0) : ∃ n : Nat, n < 2 ^ 31 ∧ x = nI n := by
  have h0 : (0 : Int) ≤ x.toInt := by
    have := Int32.not_lt.mp h
    simpa using Int32.le_iff_toInt_le.mp this
  have h1 : x.toInt < 2 ^ 31 := Int32.toInt_lt x
  refine ⟨x.toInt.toNat, by omega, ?_⟩
  apply Int32.toInt_inj.mp
  rw [nI_toInt (by omega)]
  omega
theorem zin {a b c : Int32} {Q : Int32 → Prop} (h1 : ¬ a < b → ¬ c < a → Q 1) (h0 : (a < b ∨ c < a) → Q 0) : wp_X12_in a b c Q := by
  unfold wp_X12_in wp_X12_in_p14 wp_X12_in_p15
  exact ⟨fun h => ⟨by decide, h0 (Or.inl h)⟩, fun h => ⟨fun h2 => ⟨by decide, h0 (Or.inr h2)⟩, fun h2 => ⟨by decide, h1 h h2⟩⟩⟩
theorem zwithin {a b c : Int32} {Q : Int32 → Prop} (h1 : ¬ a < b → ¬ c < a → Q 1) (h0 : (a < b ∨ c < a) → Q 0) : wp_X11_within a b c Q := by
  unfold wp_X11_within wp_X11_within_p14 wp_X11_within_p15
  exact ⟨fun h => ⟨by decide, h0 (Or.inl h)⟩, fun h => ⟨fun h2 => ⟨by decide, h0 (Or.inr h2)⟩, fun h2 => ⟨by decide, h1 h h2⟩⟩⟩
theorem zisKind {a : Int32} {Q : Int32 → Prop} (h1 : ¬ a < 0 → ¬ 7 < a → Q 1) (h0 : (a < 0 ∨ 7 < a) → Q 0) : wp_X0_isKind a Q := by
  unfold wp_X0_isKind
  exact zwithin (fun p q => ⟨by decide, h1 p q⟩) (fun p => ⟨by decide, h0 p⟩)
theorem zisShelf {a : Int32} {Q : Int32 → Prop} (h1 : ¬ a < 0 → ¬ 5 < a → Q 1) (h0 : (a < 0 ∨ 5 < a) → Q 0) : wp_X11_isShelf a Q := by
  unfold wp_X11_isShelf
  exact zwithin (fun p q => ⟨by decide, h1 p q⟩) (fun p => ⟨by decide, h0 p⟩)
theorem zisShelfM {a : Int32} {Q : Int32 → Prop} (h1 : ¬ a < 0 → ¬ 5 < a → Q 1) (h0 : (a < 0 ∨ 5 < a) → Q 0) : wp_X12_isShelf a Q := by
  unfold wp_X12_isShelf
  exact zin (fun p q => ⟨by decide, h1 p q⟩) (fun p => ⟨by decide, h0 p⟩)
/-- one call on both sides: whatever the class answers and leaves, the reference answers the same and leaves what goes with it -/
def Sim (w1 : (Int32 → CS → Prop) → Prop) (w2 : (Int32 → ST → Prop) → Prop) (R : CS → ST → Prop) : Prop :=
  ∀ Q : Int32 → CS → Prop, (∀ (y : Int32) (U' : CS), (∀ K : Int32 → ST → Prop, (∀ V' : ST, R U' V' → K y V') → w2 K) → Q y U') → w1 Q
def SimJ (w1 : (Int64 → CS → Prop) → Prop) (w2 : (Int64 → ST → Prop) → Prop) (R : CS → ST → Prop) : Prop :=
  ∀ Q : Int64 → CS → Prop, (∀ (y : Int64) (U' : CS), (∀ K : Int64 → ST → Prop, (∀ V' : ST, R U' V' → K y V') → w2 K) → Q y U') → w1 Q
theorem zK {K : Int32 → ST → Prop} {y y' : Int32} {V : ST} (h : K y V) (e : y = y') : K y' V := e ▸ h
/-! bodies -/
def RB (B V : ST) : Prop := ∃ n k : Nat, n ≤ 50 ∧ gI B 2 = nI n ∧ gI V 49 = nI n ∧ (∀ i : Nat, i < n → gA B 0 i = gA V 50 i ∧ ¬ gA B 0 i < 0 ∧ ¬ 7 < gA B 0 i) ∧ gI B 3 = nI k ∧ gI V 51 = nI k ∧ k < 1000000 ∧ ∀ i : Nat, i < k → i < 24 → gA B 1 i = gA V 52 i
theorem zbody {P : CS → ST → Prop} {U : CS} {V : ST} (hB : RB (U 17) V) (hP : P U V) (hs : ∀ (B : ST) (f : Nat → Int32) (x : Int32), P (mu U 17 B) (sI (sA V 50 f) 49 x)) (a : Int32) : Sim (wp_X11_body a U) (wp_X12_body a V) (fun U' V' => RB (U' 17) V' ∧ P U' V') := by
  have hB0 := hB
  obtain ⟨n, k, hn, e1, e2, hk, e3, e4, hk2, ht⟩ := hB
  intro Q h
  unfold wp_X11_body wp_X11_body_p19
  refine zisKind (fun p q => ⟨fun e => absurd e (by decide), fun _ => ?_⟩) (fun p => ⟨fun _ => h _ _ fun K hK => ?_, fun e => absurd rfl e⟩)
  · unfold wp_X0_add
    rw [e1]
    refine ⟨fun c => ?_, fun c => ?_⟩
    · have hlt : n < 50 := (zN_lt (b := 50) (by omega) (by decide)).mp c
      refine ⟨nI_in hlt (by decide), ?_⟩
      intro u1 eu1 y1 ey1 u2 eu2 y2 ey2 u3 eu3
      subst eu3 ey2 eu2 ey1 eu1
      refine h _ _ fun K hK => ?_
      unfold wp_X12_body
      refine zin (fun _ _ => ⟨fun _ => ⟨fun _ => ?_, fun c2 => ?_⟩, fun e => absurd e (by decide)⟩) (fun pp => (pp.elim p q).elim)
      · rw [e2]
        refine ⟨nI_in hlt (by decide), ?_⟩
        intro u1 eu1 y1 ey1 u2 eu2 y2 ey2
        subst ey2 eu2 ey1 eu1
        refine zK (hK _ ⟨⟨n + 1, k, by omega, ?_, ?_, ?_, e3, e4, hk2, ht⟩, hs _ _ _⟩) ?_
        · show gI (U 17) 2 + 1 = _
          rw [e1, nI_succ]
        · show gI V 49 + 1 = _
          rw [e2, nI_succ]
        · intro i hi
          show upd (gA (U 17) 0) (nI n).toNatClampNeg a i = upd (gA V 50) (nI n).toNatClampNeg a i ∧ ¬ upd (gA (U 17) 0) (nI n).toNatClampNeg a i < 0 ∧ ¬ 7 < upd (gA (U 17) 0) (nI n).toNatClampNeg a i
          rw [nI_clamp (by omega)]
          by_cases hi2 : i = n
          · subst hi2
            rw [pk_us, pk_us]
            exact ⟨rfl, p, q⟩
          · rw [pk_un hi2, pk_un hi2]
            exact hk i (by omega)
        · show gI (U 17) 2 + 1 - 1 = gI V 49 + 1 - 1
          rw [e1, e2]
      · rw [e2] at c2
        have := (zN_eq (b := 50) (by omega) (by decide)).mp c2
        omega
    · have hge : n = 50 := by
        have := mt (zN_lt (a := n) (b := 50) (by omega) (by decide)).mpr c
        omega
      intro u3 eu3
      subst eu3
      rw [mu_self]
      refine h _ _ fun K hK => ?_
      unfold wp_X12_body
      refine zin (fun _ _ => ⟨fun _ => ⟨fun c2 => ?_, fun _ => hK _ ⟨hB0, hP⟩⟩, fun e => absurd e (by decide)⟩) (fun pp => (pp.elim p q).elim)
      exact absurd (by rw [e2, hge]; rfl) c2
  · unfold wp_X12_body
    exact zin (fun p1 q1 => (p.elim p1 q1).elim) (fun _ => ⟨fun e => absurd rfl e, fun _ => hK _ ⟨hB0, hP⟩⟩)
theorem ztrace {P : CS → ST → Prop} {U : CS} {V : ST} (hB : RB (U 17) V) (hP : P U V) (a : Int32) : Sim (wp_X11_trace a U) (wp_X12_trace a V) (fun U' V' => RB (U' 17) V' ∧ P U' V') := by
  have hB0 := hB
  obtain ⟨n, k, hn, e1, e2, hk, e3, e4, hk2, ht⟩ := hB
  intro Q h
  unfold wp_X11_trace wp_X0_traced wp_X0_traced_p27 wp_X0_traced_p28
  unfold wp_X12_trace wp_X12_trace_p27 wp_X12_trace_p28 at h
  rw [e3]
  rw [e4] at h
  refine ⟨fun c => ?_, fun c => ⟨fun c2 => ?_, fun c2 => ⟨fun c3 => ?_, fun c3 => ?_⟩⟩⟩
  · intro u eu
    subst eu
    rw [mu_self]
    exact h _ _ fun K hK => ⟨fun _ => hK _ ⟨hB0, hP⟩, fun c' => absurd c c'⟩
  · intro u eu
    subst eu
    rw [mu_self]
    exact h _ _ fun K hK => ⟨fun c' => absurd c' c, fun _ => ⟨fun _ => hK _ ⟨hB0, hP⟩, fun c' => absurd c2 c'⟩⟩
  · intro u eu
    subst eu
    rw [mu_self]
    exact h _ _ fun K hK => ⟨fun c' => absurd c' c, fun _ => ⟨fun c' => absurd c' c2, fun _ => ⟨fun _ => hK _ ⟨hB0, hP⟩, fun c' => absurd c3 c'⟩⟩⟩
  · obtain ⟨i, hi, rfl⟩ := zN_of c
    have h2 : i < k := by
      have := mt (zN_le (a := k) (b := i) (by omega) hi).mpr c2
      omega
    have h3 : i < 24 := by
      have := mt (zN_le (a := 24) (b := i) (by decide) hi).mpr c3
      omega
    refine ⟨nI_in h3 (by decide), ?_⟩
    intro y ey u eu
    subst eu ey
    rw [mu_self]
    refine h _ _ fun K hK => ⟨fun c' => absurd c' c, fun _ => ⟨fun c' => absurd c' c2, fun _ => ⟨fun c' => absurd c' c3, fun _ => ⟨nI_in h3 (by decide), ?_⟩⟩⟩⟩
    intro y ey
    subst ey
    refine zK (hK _ ⟨hB0, hP⟩) ?_
    rw [nI_clamp hi]
    exact ht i h2 h3

/-! worst and price -/
theorem one_add (x : Nat) : (1 : Int32) + nI x = nI (1 + x) := nI_add 1 x
def nF (i : Nat) : Int32 := if i = 0 then -2 else nI i
theorem nF_0 : nF 0 = -2 := rfl
theorem nF_p {i : Nat} (h : 0 < i) : nF i = nI i := if_neg (by omega)
theorem lB_0 (g : Nat → Nat → Nat → Nat) (m : Nat) : lB g 0 m = (if m = 1 then 0 else zF, 0) := by
  have hz := zF_e
  unfold lB
  rw [bst_stop (n := 0) (m := m - 1) (by omega) (fun k _ _ => ?_)]
  · rfl
  · show (if m = 1 then 0 else zF) ≤ zF
    split <;> omega
theorem gl_ref {d p m b w s : Nat} (h : s ≤ zF) : ((d + if p + b ≤ w then w else p + b) < s ↔ gl false d p m b w < s) ∧ ((d + if p + b ≤ w then w else p + b) < s → (d + if p + b ≤ w then w else p + b) = gl false d p m b w) := by
  have hz := zF_e
  unfold gl
  rw [if_neg (show ¬ (false = true) by decide)]
  by_cases c : b < zF ∧ w < zF
  · rw [if_pos c]
    have e : (if p + b ≤ w then w else p + b) = if p + b < w then w else p + b := by split <;> split <;> omega
    rw [e]
    exact ⟨Iff.rfl, fun _ => rfl⟩
  · rw [if_neg c]
    refine ⟨⟨fun q => ?_, fun q => ?_⟩, fun q => ?_⟩
    · split at q <;> omega
    · omega
    · split at q <;> omega
theorem zgreater {a b : Nat} (ha : a < 2 ^ 31) (hb : b < 2 ^ 31) {Q : Int32 → Prop} (hq : Q (nI (if a ≤ b then b else a))) : wp_X12_greater (nI a) (nI b) Q := by
  unfold wp_X12_greater wp_X12_greater_p10
  refine ⟨fun c => ?_, fun c => ?_⟩
  · rw [if_pos ((nI_leI ha hb).mp c)] at hq
    exact hq
  · rw [if_neg (mt (nI_leI ha hb).mpr c)] at hq
    exact hq
/-- heights and jars in one number, or not -/
theorem mj_or (a : Int32) : (∃ m j : Nat, a = nI (10 * m + j) ∧ j ≤ 6 ∧ 1 ≤ m ∧ m ≤ 61) ∨ (a < 0 ∨ ∃ n : Nat, n < 2 ^ 31 ∧ a = nI n ∧ (n / 10 < 1 ∨ 61 < n / 10 ∨ 6 < n % 10)) := by
  by_cases h : a < 0
  · exact .inr (.inl h)
  · obtain ⟨n, hn, rfl⟩ := nI_of h
    by_cases c : n / 10 < 1 ∨ 61 < n / 10 ∨ 6 < n % 10
    · exact .inr (.inr ⟨n, hn, rfl, c⟩)
    · exact .inl ⟨n / 10, n % 10, by rw [Nat.div_add_mod], by omega, by omega, by omega⟩
theorem what_or (a : Int32) : (a = 0 ∨ a = 1) ∨ (a < 0 ∨ 1 < a) := by
  by_cases h : a < 0
  · exact .inr (.inl h)
  by_cases h1 : 1 < a
  · exact .inr (.inr h1)
  obtain ⟨n, hn, rfl⟩ := nI_of h
  have := mt (nI_ltI (a := 1) (b := n) (by decide) hn).mpr h1
  rcases (show n = 0 ∨ n = 1 by omega) with e | e
  · exact .inl (.inl (by rw [e]; rfl))
  · exact .inl (.inr (by rw [e]; rfl))
theorem zW01 {a : Int32} (h : a = 0 ∨ a = 1) {Q : Int32 → Prop} (hq : Q 1) : wp_X11_within a 0 1 Q := by
  rcases h with rfl | rfl
  · exact zWin (a := 0) (lo := 0) (hi := 1) (by decide) (by decide) (by decide) hq
  · exact zWin (a := 1) (lo := 0) (hi := 1) (by decide) (by decide) (by decide) hq
theorem zI01 {a : Int32} (h : a = 0 ∨ a = 1) {Q : Int32 → Prop} (hq : Q 1) : wp_X12_in a 0 1 Q := by
  rcases h with rfl | rfl
  · exact zIn (a := 0) (lo := 0) (hi := 1) (by decide) (by decide) (by decide) hq
  · exact zIn (a := 1) (lo := 0) (hi := 1) (by decide) (by decide) (by decide) hq
theorem zWb {a b c : Int32} (h : a < b ∨ c < a) {Q : Int32 → Prop} (hq : Q 0) : wp_X11_within a b c Q := zwithin (fun p q => (h.elim p q).elim) (fun _ => hq)
theorem zIb {a b c : Int32} (h : a < b ∨ c < a) {Q : Int32 → Prop} (hq : Q 0) : wp_X12_in a b c Q := zin (fun p q => (h.elim p q).elim) (fun _ => hq)
theorem zspY {m j : Nat} (hj : j ≤ 6) (h1 : 1 ≤ m) (h2 : m ≤ 61) {Q : Int32 → Prop} (hq : Q 1) : wp_X12_isSpan (nI (10 * m + j)) Q := by
  unfold wp_X12_isSpan wp_X12_isSpan_p30 wp_X12_isSpan_p31
  refine ⟨fun c => absurd c (nI_pos (by omega)), fun _ => ⟨by decide, ?_⟩⟩
  rw [show nI (10 * m + j) / (10 : Int32) = nI ((10 * m + j) / 10) from pk_div (by omega) (by decide) (by decide), show (10 * m + j) / 10 = m by omega]
  rintro _ rfl
  refine zIn (lo := 1) (hi := 61) h1 h2 (by decide) ⟨fun c => absurd c (by decide), fun _ => ⟨by decide, ?_⟩⟩
  rw [show nI m * (10 : Int32) = nI (m * 10) from pk_mul m 10, nI_sub (by omega), show 10 * m + j - m * 10 = j by omega]
  rintro _ rfl
  refine ⟨fun c => ?_, fun _ => ⟨by decide, hq⟩⟩
  have := (nI_ltI (a := 6) (b := j) (by decide) (by omega)).mp c
  omega
theorem zspN {a : Int32} (h : a < 0 ∨ ∃ n : Nat, n < 2 ^ 31 ∧ a = nI n ∧ (n / 10 < 1 ∨ 61 < n / 10 ∨ 6 < n % 10)) {Q : Int32 → Prop} (hq : Q 0) : wp_X12_isSpan a Q := by
  unfold wp_X12_isSpan wp_X12_isSpan_p30 wp_X12_isSpan_p31
  refine ⟨fun _ => ⟨by decide, hq⟩, fun c => ⟨by decide, ?_⟩⟩
  rcases h with h | ⟨n, hn, rfl, h⟩
  · exact absurd h c
  rw [show nI n / (10 : Int32) = nI (n / 10) from pk_div hn (by decide) (by decide)]
  rintro _ rfl
  by_cases b : n / 10 < 1 ∨ 61 < n / 10
  · refine zIn0 (lo := 1) (hi := 61) (by decide) (by decide) (fun x e h1 h2 => ?_) ⟨fun _ => ⟨by decide, hq⟩, fun c => absurd rfl c⟩
    have hx : n / 10 < 2 ^ 31 := by omega
    have := (nI_eq hx (by omega)).mp e
    omega
  · refine zIn (lo := 1) (hi := 61) (by omega) (by omega) (by decide) ⟨fun c => absurd c (by decide), fun _ => ⟨by decide, ?_⟩⟩
    rw [show nI (n / 10) * (10 : Int32) = nI (n / 10 * 10) from pk_mul _ 10, nI_sub (by omega), show n - n / 10 * 10 = n % 10 by omega]
    rintro _ rfl
    refine ⟨fun _ => ⟨by decide, hq⟩, fun c => absurd ((nI_ltI (a := 6) (b := n % 10) (by decide) (by omega)).mpr (by omega)) c⟩
/-- the tower's four values -/
theorem RT_vals {T V : ST} (h : RT T V) : ∃ n j d p : Nat, 1 ≤ n ∧ n ≤ 60 ∧ j ≤ 6 ∧ d ≤ 99 ∧ p ≤ 99 ∧ gI V 1 = nI n ∧ gI V 2 = nI j ∧ gI V 3 = nI d ∧ gI V 4 = nI p ∧ gA T 0 0 = nI n ∧ gA T 0 1 = nI j ∧ gA T 0 2 = nI d ∧ gA T 0 3 = nI p := by
  obtain ⟨d, n, val, w, b, a, h1, h2, h3, h4, h5, h6, h7⟩ := h
  have q0 := h6 0 (by decide)
  have q1 := h6 1 (by decide)
  have q2 := h6 2 (by decide)
  have q3 := h6 3 (by decide)
  exact ⟨val 0, val 1, val 2, val 3, q0.2.2.1, q0.2.2.2, q1.2.2.2, q2.2.2.2, q3.2.2.2, q0.2.1, q1.2.1, q2.2.1, q3.2.1, q0.1, q1.1, q2.1, q3.1⟩
theorem zvalT {T : ST} {w : Nat} (hw : w < 4) {Q : Int32 → ST → Prop} (hq : Q (gA T 0 w) T) : wp_X8_value (nI w) T Q := by
  unfold wp_X8_value wp_X8_value_p19
  refine zWin (lo := 0) (hi := 3) (by omega) (by omega) (by decide) ⟨fun c => absurd c (by decide), fun _ => ⟨nI_in hw (by decide), ?_⟩⟩
  rintro _ rfl
  rw [nI_clamp (by omega)]
  exact hq
theorem zstepsT {T : ST} {Q : Int32 → ST → Prop} (hq : Q (gA T 0 0) T) : wp_X8_steps T Q := by
  unfold wp_X8_steps
  refine ⟨by first | decide | exact nI_in (c := 0) (by decide) (by decide) | exact nI_in (c := 1) (by decide) (by decide) | exact nI_in (c := 2) (by decide) (by decide), ?_⟩
  rintro _ rfl
  exact hq
theorem zjarsT {T : ST} {Q : Int32 → ST → Prop} (hq : Q (gA T 0 1) T) : wp_X8_jars T Q := by
  unfold wp_X8_jars
  refine ⟨by first | decide | exact nI_in (c := 0) (by decide) (by decide) | exact nI_in (c := 1) (by decide) (by decide) | exact nI_in (c := 2) (by decide) (by decide), ?_⟩
  rintro _ rfl
  exact hq

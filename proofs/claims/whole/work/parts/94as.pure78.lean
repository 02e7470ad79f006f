/-! act -/
/-- one act's body noted, in the class, in the reference -/
def nt1 (u : ST) (b : Int32) : ST := if (24 : Int32) ≤ gI u 3 then sI u 3 (gI u 3 + 1) else sI (sA u 1 (upd (gA u 1) (gI u 3).toNatClampNeg b)) 3 (gI u 3 + 1)
def rn1 (u : ST) (b : Int32) : ST := if (24 : Int32) ≤ gI u 51 then sI u 51 (gI u 51 + 1) else sI (sA u 52 (upd (gA u 52) (gI u 51).toNatClampNeg b)) 51 (gI u 51 + 1)
/-- the traces go together -/
def RTr (B V : ST) (k : Nat) : Prop := gI B 3 = nI k ∧ gI V 51 = nI k ∧ ∀ i : Nat, i < k → i < 24 → gA B 1 i = gA V 52 i
theorem znote1 {u : ST} {k : Nat} (e : gI u 3 = nI k) (hk : k < 1000) (b : Int32) {Q : ST → Prop} (h : Q (nt1 u b)) : wp_X0_note b u Q := by
  unfold wp_X0_note wp_X0_note_p19
  unfold nt1 at h
  refine ⟨fun c => ?_, fun c => ?_⟩
  · rw [if_pos c] at h
    rintro _ rfl _ rfl
    exact h
  · rw [if_neg c] at h
    have : k < 24 := by
      rw [e] at c
      have := mt (nI_leI (a := 24) (b := k) (by decide) (by omega)).mpr c
      omega
    refine ⟨by rw [e]; exact nI_in this (by decide), ?_⟩
    rintro _ rfl _ rfl _ rfl
    exact h
theorem zran1 {u : ST} {k : Nat} (e : gI u 51 = nI k) (hk : k < 1000) (b : Int32) {Q : ST → Prop} (h : Q (rn1 u b)) : wp_X12_ran b u Q := by
  unfold wp_X12_ran wp_X12_ran_p19
  unfold rn1 at h
  refine ⟨fun c => ?_, fun c => ?_⟩
  · rw [if_pos c] at h
    rintro _ rfl _ rfl
    exact h
  · rw [if_neg c] at h
    have : k < 24 := by
      rw [e] at c
      have := mt (nI_leI (a := 24) (b := k) (by decide) (by omega)).mpr c
      omega
    refine ⟨by rw [e]; exact nI_in this (by decide), ?_⟩
    rintro _ rfl _ rfl _ rfl
    exact h
theorem nt1_I {u : ST} {b : Int32} {j : Nat} (hj : j ≠ 3) : gI (nt1 u b) j = gI u j := by
  unfold nt1
  split
  · exact gI_sI' _ _ hj
  · rw [gI_sI' _ _ hj, gI_sA]
theorem nt1_A {u : ST} {b : Int32} {j : Nat} (hj : j ≠ 1) : gA (nt1 u b) j = gA u j := by
  unfold nt1
  split
  · rfl
  · rw [gA_sI, gA_sA' _ _ hj]
theorem rn1_I {u : ST} {b : Int32} {j : Nat} (hj : j ≠ 51) : gI (rn1 u b) j = gI u j := by
  unfold rn1
  split
  · exact gI_sI' _ _ hj
  · rw [gI_sI' _ _ hj, gI_sA]
theorem rn1_A {u : ST} {b : Int32} {j : Nat} (hj : j ≠ 52) : gA (rn1 u b) j = gA u j := by
  unfold rn1
  split
  · rfl
  · rw [gA_sI, gA_sA' _ _ hj]
theorem RTr_1 {B V : ST} {k : Nat} (h : RTr B V k) (hk : k < 1000) (b : Int32) : RTr (nt1 B b) (rn1 V b) (k + 1) := by
  obtain ⟨h1, h2, h3⟩ := h
  have h24 : (24 : Int32) ≤ nI k ↔ 24 ≤ k := nI_leI (by decide) (by omega)
  unfold nt1 rn1
  rw [h1, h2]
  by_cases c : 24 ≤ k
  · rw [if_pos (h24.mpr c), if_pos (h24.mpr c)]
    refine ⟨?_, ?_, fun i hi hi2 => h3 i (by omega) hi2⟩
    · rw [gI_sI, nI_1]
    · rw [gI_sI, nI_1]
  · rw [if_neg (mt h24.mp c), if_neg (mt h24.mp c), nI_clamp (by omega)]
    refine ⟨?_, ?_, fun i hi hi2 => ?_⟩
    · rw [gI_sI, nI_1]
    · rw [gI_sI, nI_1]
    · rw [gA_sI, gA_sI, gA_sA, gA_sA]
      by_cases e : i = k
      · subst e
        rw [pk_us, pk_us]
      · rw [pk_un e, pk_un e]
        exact h3 i (by omega) hi2
/-- a row of bodies noted -/
def ntL (u : ST) : List Int32 → ST
  | [] => u
  | b :: l => ntL (nt1 u b) l
def rnL (u : ST) : List Int32 → ST
  | [] => u
  | b :: l => rnL (rn1 u b) l
theorem RTr_L : ∀ (l : List Int32) {k : Nat} {B V : ST}, RTr B V k → k + l.length < 1000 → RTr (ntL B l) (rnL V l) (k + l.length)
  | [], _, _, _, h, _ => h
  | b :: l, k, B, V, h, hk => by
    have hk' : k + (l.length + 1) < 1000 := hk
    have := RTr_L l (RTr_1 h (by omega) b) (by omega)
    rw [show k + (b :: l).length = k + 1 + l.length from by simp only [List.length_cons]; omega]
    exact this
theorem ntL_I {j : Nat} (hj : j ≠ 3) : ∀ (l : List Int32) (u : ST), gI (ntL u l) j = gI u j
  | [], _ => rfl
  | b :: l, u => (ntL_I hj l _).trans (nt1_I hj)
theorem ntL_A {j : Nat} (hj : j ≠ 1) : ∀ (l : List Int32) (u : ST), gA (ntL u l) j = gA u j
  | [], _ => rfl
  | b :: l, u => (ntL_A hj l _).trans (nt1_A hj)
theorem rnL_I {j : Nat} (hj : j ≠ 51) : ∀ (l : List Int32) (u : ST), gI (rnL u l) j = gI u j
  | [], _ => rfl
  | b :: l, u => (rnL_I hj l _).trans (rn1_I hj)
theorem rnL_A {j : Nat} (hj : j ≠ 52) : ∀ (l : List Int32) (u : ST), gA (rnL u l) j = gA u j
  | [], _ => rfl
  | b :: l, u => (rnL_A hj l _).trans (rn1_A hj)
theorem ntL_ap (u : ST) : ∀ (l m : List Int32) (u : ST), ntL (ntL u l) m = ntL u (l ++ m)
  | [], _, _ => rfl
  | b :: l, m, u => ntL_ap u l m (nt1 u b)
theorem rnL_ap (u : ST) : ∀ (l m : List Int32) (u : ST), rnL (rnL u l) m = rnL u (l ++ m)
  | [], _, _ => rfl
  | b :: l, m, u => rnL_ap u l m (rn1 u b)

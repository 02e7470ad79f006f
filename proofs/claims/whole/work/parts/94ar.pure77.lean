/-! reach -/
def wN (d : Nat) : Nat → Nat
  | 0 => 1
  | b + 1 => wN d b * (d - b) / (b + 1)
def sN (d : Nat) : Nat → Nat
  | 0 => 0
  | b + 1 => sN d b + wN d b
theorem wN_past (d : Nat) : ∀ k : Nat, wN d (d + 1 + k) = 0
  | 0 => by
    show wN d d * (d - d) / (d + 1) = 0
    rw [Nat.sub_self, Nat.mul_zero, Nat.zero_div]
  | k + 1 => by
    show wN d (d + 1 + k) * (d - (d + 1 + k)) / _ = 0
    rw [wN_past d k, Nat.zero_mul, Nat.zero_div]
theorem sN_past (d : Nat) : ∀ k : Nat, sN d (d + 1 + k) = sN d (d + 1)
  | 0 => rfl
  | k + 1 => by
    show sN d (d + 1 + k) + wN d (d + 1 + k) = _
    rw [wN_past, sN_past d k, Nat.add_zero]
theorem wN_lt : ∀ d : Nat, d < 21 → ∀ b : Nat, b < 8 → wN d b * (d - b) < 2 ^ 31 := by decide +kernel
theorem wfac {d b : Nat} (hd : d < 21) (hb : b < 7) : nI (wN d b) * (nI d - nI (b + 1) + 1) = nI (wN d b * (d - b)) := by
  by_cases c : b + 1 ≤ d
  · rw [nI_sub c, nI_1, pk_mul]
    congr 2
    omega
  · by_cases c2 : b = d
    · subst c2
      rw [Nat.sub_self, Nat.mul_zero]
      have : (nI b - nI (b + 1) + 1 : Int32) = 0 := by
        rcases (show b = 0 ∨ b = 1 ∨ b = 2 ∨ b = 3 ∨ b = 4 ∨ b = 5 ∨ b = 6 by omega) with e | e | e | e | e | e | e <;> rw [e] <;> decide
      rw [this, Int32.mul_zero]
      rfl
    · obtain ⟨k, rfl⟩ : ∃ k, b = d + 1 + k := ⟨b - d - 1, by omega⟩
      rw [wN_past, Nat.zero_mul]
      show (0 : Int32) * _ = 0
      rw [Int32.zero_mul]
theorem zreachC {d j : Nat} (hd : d < 21) (hj : j < 7) {U : CS} {Q : Int32 → CS → Prop} (h : Q (nI (sN d (j + 1))) U) : wp_X11_reach_p37 (nI d) (nI j) 1 1 1 U Q := by
  unfold wp_X11_reach_p37
  refine ⟨fun x2 x3 x4 x5 x6 u => u = U ∧ x2 = nI d ∧ x3 = nI j ∧ ∃ b : Nat, b ≤ j ∧ x6 = nI (b + 1) ∧ x4 = nI (wN d b) ∧ x5 = nI (sN d (b + 1)), fun _ _ _ _ x6 _ => 8 - x6.toNatClampNeg, ⟨rfl, rfl, rfl, 0, by omega, rfl, rfl, rfl⟩, ?_⟩
  rintro _ _ _ _ _ _ ⟨rfl, rfl, rfl, b, hb, rfl, rfl, rfl⟩
  unfold wp_X11_reach_p37b
  refine ⟨fun c => ?_, fun c => ?_⟩
  · have := (nI_ltI (by omega) (by omega)).mp c
    have : b = j := by omega
    subst this
    exact h
  · have hlt : b + 1 ≤ j := by
      have := mt (nI_ltI (a := j) (b := b + 1) (by omega) (by omega)).mpr c
      omega
    rintro _ rfl _ rfl _ rfl
    refine ⟨nI_ne0 (by omega) (by omega), ?_⟩
    rw [wfac hd (by omega), pk_div (wN_lt d hd b (by omega)) (by omega) (by omega)]
    rintro _ rfl
    rw [nI_add, nI_1]
    rintro _ rfl _ rfl
    refine ⟨⟨rfl, rfl, rfl, b + 1, hlt, rfl, rfl, rfl⟩, ?_⟩
    show 8 - (nI (b + 1 + 1)).toNatClampNeg < 8 - (nI (b + 1)).toNatClampNeg
    rw [nI_clamp (by omega), nI_clamp (by omega)]
    omega
theorem zreachM {a d j : Nat} (ha : a < 2 ^ 31) (ed : a / 10 = d) (ej : a % 10 = j) (hd : d < 21) (hj : j < 7) {V : ST} {Q : Int32 → ST → Prop} (h : Q (nI (sN d (j + 1))) V) : wp_X12_reach_p31 (nI a) 0 1 0 V Q := by
  have e1 : nI a / (10 : Int32) = nI d := by rw [show (10 : Int32) = nI 10 from rfl, pk_div ha (by decide) (by decide), ed]
  have e2 : nI a - nI a / (10 : Int32) * (10 : Int32) = nI j := by rw [show (10 : Int32) = nI 10 from rfl, pk_rem ha (by decide) (by decide), ej]
  unfold wp_X12_reach_p31
  refine ⟨fun x1 x2 x3 x4 u => u = V ∧ x1 = nI a ∧ ∃ b : Nat, b ≤ j + 1 ∧ b ≤ d + 1 ∧ x4 = nI b ∧ x3 = nI (wN d b) ∧ x2 = nI (sN d b), fun _ _ _ x4 _ => 8 - x4.toNatClampNeg, ⟨rfl, rfl, 0, by omega, by omega, rfl, rfl, rfl⟩, ?_⟩
  rintro _ _ _ _ _ ⟨rfl, rfl, b, hb, hb2, rfl, rfl, rfl⟩
  unfold wp_X12_reach_p31b wp_X12_reach_p74
  refine ⟨by decide, ?_⟩
  rw [e2]
  rintro _ rfl
  refine ⟨fun c => ?_, fun c => ⟨by decide, ?_⟩⟩
  · have := (nI_ltI (by omega) (by omega)).mp c
    have : b = j + 1 := by omega
    subst this
    exact h
  have hbj : b ≤ j := by
    have := mt (nI_ltI (a := j) (b := b) (by omega) (by omega)).mpr c
    omega
  rw [e1]
  rintro _ rfl
  refine ⟨fun c => ?_, fun c => ?_⟩
  · have := (nI_ltI (by omega) (by omega)).mp c
    have e : b = d + 1 := by omega
    subst e
    have := sN_past d (j - d)
    rw [show d + 1 + (j - d) = j + 1 from by omega] at this
    rw [this] at h
    exact h
  have hbd : b ≤ d := by
    have := mt (nI_ltI (a := d) (b := b) (by omega) (by omega)).mpr c
    omega
  rw [nI_add]
  rintro _ rfl
  refine ⟨by decide, ?_⟩
  rintro _ rfl
  rw [nI_sub hbd]
  rintro _ rfl
  rw [pk_mul, show nI b + (1 : Int32) = nI (b + 1) from nI_1 b]
  rintro _ rfl _ rfl
  refine ⟨nI_ne0 (by omega) (by omega), ?_⟩
  rw [pk_div (wN_lt d hd b (by omega)) (by omega) (by omega)]
  rintro _ rfl _ rfl
  refine ⟨⟨rfl, rfl, b + 1, by omega, by omega, rfl, rfl, rfl⟩, ?_⟩
  show 8 - (nI (b + 1)).toNatClampNeg < 8 - (nI b).toNatClampNeg
  rw [nI_clamp (by omega), nI_clamp (by omega)]
  omega
theorem zreach {U : CS} {V : ST} (a1 : Int32) : Sim (wp_X11_reach a1 U) (wp_X12_reach a1 V) (fun U' V' => U' = U ∧ V' = V) := by
  intro Q h
  unfold wp_X11_reach wp_X11_reach_p26
  refine ⟨by decide, ?_⟩
  rintro _ rfl
  refine ⟨by decide, ?_⟩
  rintro _ rfl
  refine ⟨fun c => h _ _ fun K hK => ?_, fun c => ?_⟩
  · unfold wp_X12_reach wp_X12_reach_p22
    exact ⟨fun _ => hK _ ⟨rfl, rfl⟩, fun c' => absurd c c'⟩
  obtain ⟨a, ha, rfl⟩ := nI_of c
  have e1 : nI a / (10 : Int32) = nI (a / 10) := by rw [show (10 : Int32) = nI 10 from rfl, pk_div ha (by decide) (by decide)]
  have e2 : nI a - nI a / (10 : Int32) * (10 : Int32) = nI (a % 10) := by rw [show (10 : Int32) = nI 10 from rfl, pk_rem ha (by decide) (by decide)]
  have hrf : ∀ {K : Int32 → ST → Prop}, ((20 : Int32) < nI (a / 10) → K (-1) V) → (¬ (20 : Int32) < nI (a / 10) → (nI (a % 10) ≤ (6 : Int32) → wp_X12_reach_p31 (nI a) 0 1 0 V K) ∧ (¬ nI (a % 10) ≤ (6 : Int32) → K (-1) V)) → wp_X12_reach (nI a) V K := by
    intro K k1 k2
    unfold wp_X12_reach wp_X12_reach_p22
    refine ⟨fun c' => absurd c' c, fun _ => ⟨by decide, ?_⟩⟩
    rw [e1]
    rintro _ rfl
    refine ⟨k1, fun c2 => ⟨by decide, ?_⟩⟩
    rw [← e1, e2]
    rintro _ rfl
    exact k2 c2
  rw [e2, e1]
  refine ⟨fun c2 => h _ _ fun K hK => hrf (fun _ => hK _ ⟨rfl, rfl⟩) (fun c' => absurd c2 c'), fun c2 => ⟨fun c3 => ?_, fun c3 => h _ _ fun K hK => hrf (fun c' => absurd c' c2) (fun _ => ⟨fun c' => absurd c' c3, fun _ => hK _ ⟨rfl, rfl⟩⟩)⟩⟩
  have hd : a / 10 < 21 := by
    have := mt (nI_ltI (a := 20) (b := a / 10) (by decide) (by omega)).mpr c2
    omega
  have hj : a % 10 < 7 := by
    have := (nI_leI (a := a % 10) (b := 6) (by omega) (by decide)).mp c3
    omega
  exact zreachC hd hj (h _ _ fun K hK => hrf (fun c' => absurd c' c2) (fun _ => ⟨fun _ => zreachM ha rfl rfl hd hj (hK _ ⟨rfl, rfl⟩), fun c' => absurd c3 c'⟩))

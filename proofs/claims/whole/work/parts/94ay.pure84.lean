theorem rn1_3 {u : ST} {k : Nat} (e : gI u 51 = nI k) (b : Int32) : gI (rn1 u b) 51 = nI (k + 1) := by
  unfold rn1
  split
  · rw [gI_sI, e, nI_1]
  · rw [gI_sI, e, nI_1]
theorem rnL_3 : ∀ (l : List Int32) {u : ST} {k : Nat}, gI u 51 = nI k → gI (rnL u l) 51 = nI (k + l.length)
  | [], _, _, e => e
  | b :: l, u, k, e => by
    have := rnL_3 l (rn1_3 e b)
    rw [show k + (b :: l).length = k + 1 + l.length from by simp only [List.length_cons]; omega]
    exact this
/-- what a call comes to in the reference -/
def RE (n K m : Nat) (f : ST → (Int32 → ST → Prop) → Prop) (val : Int32) (l : List Int32) : Prop := l.length ≤ m ∧ ∀ (V : ST) (k : Nat) (Q : Int32 → ST → Prop), gI V 51 = nI k → k + m ≤ 900 → gA V 50 n = nI K → Q val (rnL V l) → f V Q
theorem re_w {n K m m' : Nat} {f : ST → (Int32 → ST → Prop) → Prop} {v : Int32} {l : List Int32} (h : RE n K m f v l) (hm : m ≤ m') : RE n K m' f v l :=
  ⟨Nat.le_trans h.1 hm, fun V k Q e hk => h.2 V k Q e (by omega)⟩
/-- a note, then a call, then a sum -/
theorem re_up {n K m : Nat} {f : ST → (Int32 → ST → Prop) → Prop} {v : Int32} {l : List Int32} (o : Int32) (g : Int32 → Int32) (h : RE n K m f v l) {f' : ST → (Int32 → ST → Prop) → Prop} (hf : ∀ V Q, wp_X12_ran o V (fun u => f u (fun y w => Q (g y) w)) → f' V Q) : RE n K (m + 1) f' (g v) (o :: l) :=
  ⟨Nat.succ_le_succ h.1, fun V k Q e hk eK hq => hf V Q (zran1 e (by omega) o (h.2 (rn1 V o) (k + 1) _ (rn1_3 e o) (by omega) ((congrFun (rn1_A (by decide)) n).trans eK) hq))⟩
theorem re_pD {n K : Nat} (x : Int32) : RE n K 1 (fun V Q => wp_X12_plainDrops (nI n) x V Q) (x + nI n) [1] :=
  ⟨Nat.le_refl _, fun V k Q e hk eK hq => by
    show wp_X12_plainDrops (nI n) x V Q
    unfold wp_X12_plainDrops
    refine zran1 e (by omega) 1 ?_
    rintro _ rfl
    exact hq⟩
theorem re_pC {n K : Nat} (x : Int32) : RE n K 1 (fun V Q => wp_X12_plainClimbs (nI n) x V Q) (x ^^^ nI n) [11] :=
  ⟨Nat.le_refl _, fun V k Q e hk eK hq => by
    show wp_X12_plainClimbs (nI n) x V Q
    unfold wp_X12_plainClimbs
    refine zran1 e (by omega) 11 ?_
    rintro _ rfl
    exact hq⟩
theorem re_tD {n K : Nat} (x : Int32) : RE n K 2 (fun V Q => wp_X12_toldDrops (nI n) x V Q) ((x + nI n) * 2) [70, 1] :=
  re_up 70 (fun y => y * 2) (re_pD x) fun V Q h => by
    unfold wp_X12_toldDrops
    rw [show (fun u3 => wp_X12_plainDrops (nI n) x u3 fun y9 u9 => ∀ y13 : Int32, y13 = y9 * 2 → Q y13 u9) = fun u3 => wp_X12_plainDrops (nI n) x u3 fun y9 u9 => Q (y9 * 2) u9 from funext fun u => congrArg _ (raw_eq (fun y => y * 2) Q)]
    exact h
theorem re_sC {n K : Nat} (x : Int32) : RE n K 2 (fun V Q => wp_X12_steepClimbs (nI n) x V Q) ((x ^^^ nI n) * 3) [40, 11] :=
  re_up 40 (fun y => y * 3) (re_pC x) fun V Q h => by
    unfold wp_X12_steepClimbs
    rw [show (fun u3 => wp_X12_plainClimbs (nI n) x u3 fun y9 u9 => ∀ y13 : Int32, y13 = y9 * 3 → Q y13 u9) = fun u3 => wp_X12_plainClimbs (nI n) x u3 fun y9 u9 => Q (y9 * 3) u9 from funext fun u => congrArg _ (raw_eq (fun y => y * 3) Q)]
    exact h
theorem re_dr {n K : Nat} (hn : n < 50) (hK : K < 8) (x : Int32) : RE n K 3 (fun V Q => wp_X12_dropping (nI n) x V Q) (drV (nI n) K x) (drL K) := by
  refine ⟨?_, fun V k Q e hk eK hq => ?_⟩
  · rcases (show K = 0 ∨ K = 1 ∨ K = 2 ∨ K = 3 ∨ K = 4 ∨ K = 5 ∨ K = 6 ∨ K = 7 by omega) with rfl | rfl | rfl | rfl | rfl | rfl | rfl | rfl <;> decide
  show wp_X12_dropping (nI n) x V Q
  unfold wp_X12_dropping wp_X12_dropping_p80
  refine ⟨nI_in hn (by decide), ?_⟩
  rw [nI_clamp (by omega), eK]
  rintro _ rfl
  refine zUnderM (a := 1) hK (by decide) ⟨fun c => ⟨nI_in hn (by decide), ?_⟩, fun c => ?_⟩
  · rintro _ rfl
    refine ⟨fun c7 => ⟨nI_in hn (by decide), ?_⟩, fun c7 => ?_⟩
    · rintro _ rfl
      refine ⟨fun c6 => ?_, fun c6 => ?_⟩
      · rcases (show K = 0 ∨ K = 1 ∨ K = 2 ∨ K = 3 ∨ K = 4 ∨ K = 5 ∨ K = 6 ∨ K = 7 by omega) with rfl | rfl | rfl | rfl | rfl | rfl | rfl | rfl
        · exact (re_pD x).2 V k _ e (by omega) eK hq
        · exact absurd c (by decide)
        · exact (re_pD x).2 V k _ e (by omega) eK hq
        · exact (re_pD x).2 V k _ e (by omega) eK hq
        · exact absurd c (by decide)
        · exact (re_pD x).2 V k _ e (by omega) eK hq
        · exact absurd rfl c6
        · exact absurd rfl c7
      · have e6 : K = 6 := (nI_eq (b := 6) (by omega) (by decide)).mp c6
        subst e6
        exact (re_tD x).2 V k _ e (by omega) eK hq
    · have e7 : K = 7 := (nI_eq (b := 7) (by omega) (by decide)).mp c7
      subst e7
      refine zran1 e (by omega) 81 ((re_tD x).2 (rn1 V 81) (k + 1) _ (rn1_3 e 81) (by omega) ((congrFun (rn1_A (by decide)) n).trans eK) ?_)
      rintro _ rfl
      exact hq
  · have hk14 : K = 1 ∨ K = 4 := by
      rcases (show K = 0 ∨ K = 1 ∨ K = 2 ∨ K = 3 ∨ K = 4 ∨ K = 5 ∨ K = 6 ∨ K = 7 by omega) with rfl | rfl | rfl | rfl | rfl | rfl | rfl | rfl
      · exact absurd (by decide) c
      · exact .inl rfl
      · exact absurd (by decide) c
      · exact absurd (by decide) c
      · exact .inr rfl
      · exact absurd (by decide) c
      · exact absurd (by decide) c
      · exact absurd (by decide) c
    unfold drV drL at hq
    rw [if_pos hk14, if_pos hk14] at hq
    refine zran1 e (by omega) 20 ((re_pD x).2 (rn1 V 20) (k + 1) _ (rn1_3 e 20) (by omega) ((congrFun (rn1_A (by decide)) n).trans eK) ?_)
    rintro _ rfl
    exact hq
theorem re_pB {n K : Nat} (hn : n < 50) (hK : K < 8) (x : Int32) : RE n K 4 (fun V Q => wp_X12_plainBreaks (nI n) x V Q) (pBV (nI n) K x) (pBL K) :=
  re_up 10 (fun y => y * 2) (re_dr hn hK x) fun V Q h => by
    unfold wp_X12_plainBreaks
    rw [show (fun u3 => wp_X12_dropping (nI n) x u3 fun y9 u9 => ∀ y13 : Int32, y13 = y9 * 2 → Q y13 u9) = fun u3 => wp_X12_dropping (nI n) x u3 fun y9 u9 => Q (y9 * 2) u9 from funext fun u => congrArg _ (raw_eq (fun y => y * 2) Q)]
    exact h
theorem re_mB {n K : Nat} (hn : n < 50) (hK : K < 8) (x : Int32) : RE n K 5 (fun V Q => wp_X12_meanBreaks (nI n) x V Q) (mBV (nI n) K x) (mBL K) :=
  re_up 30 (fun y => -y) (re_pB hn hK x) fun V Q h => by
    unfold wp_X12_meanBreaks
    rw [show (fun u3 => wp_X12_plainBreaks (nI n) x u3 fun y9 u9 => ∀ y12 : Int32, y12 = -y9 → Q y12 u9) = fun u3 => wp_X12_plainBreaks (nI n) x u3 fun y9 u9 => Q (-y9) u9 from funext fun u => congrArg _ (raw_eq (fun y => -y) Q)]
    exact h

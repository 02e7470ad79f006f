def ownI (c a : Nat) : Int32 := xOWN (c * 4 + a)
def fndA : Nat → Nat → Nat → Nat
  | 0, c, _ => c
  | f + 1, c, a => if c = 8 then 8 else if ownI c a = 0 then fndA f (aboveN c) a else c
def fndN (c a : Nat) : Nat := fndA 8 c a
theorem fnd_up : ∀ c : Nat, c < 8 → ∀ a : Nat, a < 4 → ownI c a = 0 → fndN (aboveN c) a = fndN c a := by decide
theorem fnd_at : ∀ c : Nat, c < 8 → ∀ a : Nat, a < 4 → ¬ ownI c a = 0 → fndN c a = c := by decide
theorem zkindI {c : Nat} (hc : c < 8) {Q : Int32 → Prop} (h : Q 1) : wp_X0_isKind (kI c) Q := by
  rw [show kI c = nI c from if_pos hc]
  refine zisKind (fun _ _ => h) (fun p => ?_)
  exfalso
  rcases p with p | p
  · exact nI_pos (by omega) p
  · have := (nI_ltI (a := 7) (by decide) (by omega)).mp p
    omega
theorem zkind8 {Q : Int32 → Prop} (h : Q 0) : wp_X0_isKind (kI 8) Q := zisKind (fun p _ => absurd (by decide : kI 8 < 0) p) (fun _ => h)
theorem zrun {c a d : Nat} (hc : c ≤ 8) (ha : a < 4) (hd : d < 24) {x : Int32} {u : ST} {k : Nat} (ek : gI u 3 = nI k) (hk : k < 1000) {P : Nat → Int32 → Int32 → Int32 → Int32 → ST → (Int32 → ST → Prop) → Prop} {Q : Int32 → ST → Prop}
    (h8 : fndN c a = 8 → Q 0 u)
    (h : fndN c a < 8 → P 1 (ownI (fndN c a) a) (kI (aboveN (fndN c a))) x (nI (d + 1)) (nt1 u (ownI (fndN c a) a)) Q) : wp_X0_run (kI c) (nI a) x (nI d) u P Q := by
  unfold wp_X0_run wp_X0_run_p6
  refine ⟨fun x2 x3 x4 x5 x6 v => x2 = nI a ∧ x3 = x ∧ x4 = nI d ∧ v = u ∧ ∃ l e : Nat, x6 = nI l ∧ e ≤ 8 ∧ rankN e + l < 8 ∧ x5 = kI e ∧ fndN e a = fndN c a, fun _ _ _ _ x6 _ => 8 - x6.toNatClampNeg, ⟨rfl, rfl, rfl, rfl, 0, c, rfl, hc, by have := rank_le c (by omega); omega, rfl, rfl⟩, ?_⟩
  rintro _ _ _ _ _ _ ⟨rfl, rfl, rfl, rfl, l, e, rfl, he, hr, rfl, hf⟩
  unfold wp_X0_run_p6b
  have h8' : ∀ e : Nat, e = 8 → fndN e a = fndN c a → fndN c a = 8 := fun e he hf => by
    subst he
    rw [← hf]
    rcases (show a = 0 ∨ a = 1 ∨ a = 2 ∨ a = 3 by omega) with q | q | q | q <;> rw [q] <;> decide
  refine ⟨fun c' => absurd ((nI_leI (a := 8) (by decide) (by omega)).mp c') (by omega), fun _ => ?_⟩
  by_cases he8 : e < 8
  · refine zkindI he8 ⟨fun c' => absurd c' (by decide), fun _ => ?_⟩
    have ee : kI e = nI e := if_pos he8
    rw [ee, show nI e * (4 : Int32) = nI (e * 4) from pk_mul e 4]
    rintro _ rfl
    rw [nI_add]
    rintro _ rfl
    refine ⟨nI_in (by omega) (by decide), ?_⟩
    rw [nI_clamp (by omega)]
    rintro _ rfl
    refine ⟨fun c0 => ?_, fun c0 => ⟨nI_in he8 (by decide), ?_⟩⟩
    · have hfe : fndN e a = e := fnd_at e he8 a ha c0
      unfold wp_X0_run_p48
      rw [← ee]
      refine zkindI he8 ⟨fun c' => absurd c' (by decide), fun _ => ⟨fun _ => ?_, fun c' => absurd ((nI_ltI (b := 24) (by omega) (by decide)).mpr hd) c'⟩⟩
      rw [ee, show nI e * (4 : Int32) = nI (e * 4) from pk_mul e 4]
      rintro _ rfl
      rw [nI_add]
      rintro _ rfl
      refine ⟨nI_in (by omega) (by decide), ?_⟩
      rw [nI_clamp (by omega)]
      rintro _ rfl
      refine znote1 ek hk _ ⟨nI_in he8 (by decide), ?_⟩
      rw [nI_clamp (by omega), above_at e he8, show nI d + (1 : Int32) = nI (d + 1) from nI_1 d]
      rintro _ rfl _ rfl
      have := h (by rw [← hf, hfe]; exact he8)
      rw [← hf, hfe] at this
      exact this
    · have hfe : fndN (aboveN e) a = fndN e a := fnd_up e he8 a ha c0
      rw [nI_clamp (by omega), above_at e he8, nI_1]
      rintro _ rfl _ rfl
      have hk := rank_step e he8
      refine ⟨⟨rfl, rfl, rfl, rfl, l + 1, aboveN e, rfl, hk.2, by omega, rfl, hfe.trans hf⟩, ?_⟩
      show 8 - (nI (l + 1)).toNatClampNeg < 8 - (nI l).toNatClampNeg
      rw [nI_clamp (by omega), nI_clamp (by omega)]
      omega
  · have e8 : e = 8 := by omega
    subst e8
    refine zkind8 ⟨fun _ => ?_, fun c' => absurd rfl c'⟩
    unfold wp_X0_run_p48 wp_X0_run_p63
    exact zkind8 ⟨fun _ => h8 (h8' 8 rfl hf), fun c' => absurd rfl c'⟩

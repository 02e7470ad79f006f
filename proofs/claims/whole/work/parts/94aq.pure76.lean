theorem ix4 {l : List Nat} (hl : l.length = 4) (k : Nat) (h : ix l k < l.length) : k ∈ [l.getD 0 0, l.getD 1 0, l.getD 2 0, l.getD 3 0] := by
  have := ix_get l k h
  have h2 : ix l k < 4 := by omega
  rcases (show ix l k = 0 ∨ ix l k = 1 ∨ ix l k = 2 ∨ ix l k = 3 by omega) with e | e | e | e <;> rw [e] at this <;> subst this <;> simp
theorem zimageRef {V : ST} {y : Int32} {Q : Int32 → ST → Prop} (hy : (0 ≤ gA V 46 0 → y = gA V 46 3) ∧ (¬ 0 ≤ gA V 46 0 → y = 0)) (h : Q y (sA (sI V 48 1) 47 (mix (gA V 46) (gA V 47) 9))) : wp_X12_image V Q := by
  unfold wp_X12_image wp_X12_image_p7
  rintro _ rfl
  refine ⟨fun x u => ∃ i : Nat, i ≤ 9 ∧ x = nI i ∧ u = sA (sI V 48 1) 47 (mix (gA V 46) (gA V 47) i), fun x _ => 9 - x.toNatClampNeg, ⟨0, by decide, rfl, ?_⟩, ?_⟩
  · rw [mix_0]
    exact (sA_self (sI V 48 1) 47).symm
  rintro _ _ ⟨i, hi, rfl, rfl⟩
  unfold wp_X12_image_p7b wp_X12_image_p50
  refine ⟨fun c => ?_, fun c => ?_⟩
  · have := (nI_leI (a := 9) (b := i) (by decide) (by omega)).mp c
    have : i = 9 := by omega
    subst this
    refine ⟨v9 (k := 0) (by decide), ?_⟩
    rintro _ rfl
    rw [c9_0, c9_3]
    refine ⟨fun c2 => ⟨v9 (k := 3) (by decide), ?_⟩, fun c2 => ?_⟩
    · rintro _ rfl
      have := hy.1 c2
      subst this
      exact h
    · have := hy.2 c2
      subst this
      exact h
  · have hlt : i < 9 := by
      have := mt (nI_leI (a := 9) (b := i) (by decide) (by omega)).mpr c
      omega
    refine ⟨v9 hlt, ?_⟩
    rintro _ rfl
    refine ⟨v9 hlt, ?_⟩
    rintro _ rfl _ rfl
    rw [nI_clamp (by omega), nI_1]
    refine ⟨⟨i + 1, by omega, rfl, ?_⟩, ?_⟩
    · rw [sA_sA]
      exact congrArg (sA (sI V 48 1) 47) (mix_s (gA V 46) (gA V 47) i)
    · show 9 - (nI (i + 1)).toNatClampNeg < 9 - (nI i).toNatClampNeg
      rw [nI_clamp (by omega), nI_clamp (by omega)]
      omega
theorem zbackRef {V : ST} {y : Int32} {Q : Int32 → ST → Prop} (h8 : ¬ gI V 48 = 0) (hy : (0 ≤ gA V 47 0 → y = gA V 47 3) ∧ (¬ 0 ≤ gA V 47 0 → y = 0)) (h : Q y (sA V 46 (mix (gA V 47) (gA V 46) 9))) : wp_X12_back V Q := by
  unfold wp_X12_back wp_X12_back_p12
  refine ⟨fun _ => ?_, fun c => absurd c h8⟩
  refine ⟨fun x u => ∃ i : Nat, i ≤ 9 ∧ x = nI i ∧ u = sA V 46 (mix (gA V 47) (gA V 46) i), fun x _ => 9 - x.toNatClampNeg, ⟨0, by decide, rfl, ?_⟩, ?_⟩
  · rw [mix_0, sA_self]
  rintro _ _ ⟨i, hi, rfl, rfl⟩
  unfold wp_X12_back_p12b wp_X12_back_p55
  refine ⟨fun c => ?_, fun c => ?_⟩
  · have := (nI_leI (a := 9) (b := i) (by decide) (by omega)).mp c
    have : i = 9 := by omega
    subst this
    refine ⟨v9 (k := 0) (by decide), ?_⟩
    rintro _ rfl
    rw [c9_0, c9_3]
    refine ⟨fun c2 => ⟨v9 (k := 3) (by decide), ?_⟩, fun c2 => ?_⟩
    · rintro _ rfl
      have := hy.1 c2
      subst this
      exact h
    · have := hy.2 c2
      subst this
      exact h
  · have hlt : i < 9 := by
      have := mt (nI_leI (a := 9) (b := i) (by decide) (by omega)).mpr c
      omega
    refine ⟨v9 hlt, ?_⟩
    rintro _ rfl
    refine ⟨v9 hlt, ?_⟩
    rintro _ rfl _ rfl
    rw [nI_clamp (by omega), nI_1]
    refine ⟨⟨i + 1, by omega, rfl, ?_⟩, ?_⟩
    · rw [sA_sA]
      exact congrArg (sA V 46) (mix_s (gA V 47) (gA V 46) i)
    · show 9 - (nI (i + 1)).toNatClampNeg < 9 - (nI i).toNatClampNeg
      rw [nI_clamp (by omega), nI_clamp (by omega)]
      omega
def RIx (U : CS) (V : ST) (U' : CS) (V' : ST) : Prop := RD (U' 13) (U' 14) (gA V' 46) ∧ RK U' V' ∧ (∀ k : Nat, k ≠ 16 → gI (U' 0) k = gI (U 0) k) ∧ (∀ k : Nat, gA (U' 0) k = gA (U 0) k) ∧ AgU [0, 13, 14, 15, 16] U' U ∧ Ag [46, 47, 48] V' V
theorem zimage {U : CS} {V : ST} (hD : RD (U 13) (U 14) (gA V 46)) (hK : RK U V) : Sim (wp_X11_image U) (wp_X12_image V) (RIx U V) := by
  intro Q h
  obtain ⟨y, hc, hy⟩ := zdropsIn hD
  unfold wp_X11_image
  refine zcopy (f := gA V 46) hD fun u' q0 q2 q3 q4 q5 => ?_
  rintro _ rfl _ rfl
  have hh : ∃ y : Int32, (∀ Q : Int32 → CS → Prop, Q y (mu (emb U [15, 16, 13, 14] u') 0 (sI (emb U [15, 16, 13, 14] u' 0) 16 1)) → wp_X11_dropsInDeed (mu (emb U [15, 16, 13, 14] u') 0 (sI (emb U [15, 16, 13, 14] u' 0) 16 1)) Q) ∧ ((0 ≤ gA V 46 0 → y = gA V 46 3) ∧ (¬ 0 ≤ gA V 46 0 → y = 0)) := by
    refine zdropsIn ?_
    show RD (u' 2) (u' 3) (gA V 46)
    rw [q2, q3]
    exact hD
  obtain ⟨y', hc', hy'⟩ := hh
  refine hc' _ (h _ _ fun K hk => zimageRef hy' (hk _ ⟨?_, .inr ⟨rfl, rfl, ?_⟩, fun k hk => ?_, fun k => rfl, AgU_mu (AgU_emb (AgU_r _ _) fun k hk => ?_) (by decide) _, Ag_sA (Ag_sI (Ag_r _ _) (by decide) _) (by decide) _⟩))
  · show RD (u' 2) (u' 3) (gA V 46)
    rw [q2, q3]
    exact hD
  · show RD (u' 0) (u' 1) (mix (gA V 46) (gA V 47) 9)
    exact RD_c q0 fun k hk => mix_at hk
  · rw [mu_at, gI_sI' _ _ hk]
    rfl
  · have := ix4 (l := [15, 16, 13, 14]) rfl k hk
    simp only [List.mem_cons, List.not_mem_nil, or_false] at this ⊢
    rcases this with e | e | e | e <;> subst e <;> decide
theorem zback {U : CS} {V : ST} (hD : RD (U 13) (U 14) (gA V 46)) (hK : RK U V) : Sim (wp_X11_back U) (wp_X12_back V) (RIx U V) := by
  intro Q h
  have hK0 := hK
  unfold wp_X11_back
  rcases hK with ⟨k1, k2⟩ | ⟨k1, k2, k3⟩
  · refine ⟨fun c => absurd k1 c, fun _ => h _ _ fun K hk => ?_⟩
    unfold wp_X12_back
    exact ⟨fun c => absurd k2 c, fun _ => hk _ ⟨hD, hK0, fun _ _ => rfl, fun _ => rfl, AgU_r _ _, Ag_r _ _⟩⟩
  · refine ⟨fun _ => ?_, fun c => absurd (k1.symm.trans c) (by decide)⟩
    refine zcopy (f := gA V 47) k3 fun u' q0 q2 q3 q4 q5 => ?_
    rintro _ rfl
    have hh : ∃ y : Int32, (∀ Q : Int32 → CS → Prop, Q y (emb U [13, 14, 15, 16] u') → wp_X11_dropsInDeed (emb U [13, 14, 15, 16] u') Q) ∧ ((0 ≤ gA V 47 0 → y = gA V 47 3) ∧ (¬ 0 ≤ gA V 47 0 → y = 0)) := by
      refine zdropsIn (V := sA V 46 (gA V 47)) ?_
      exact q0
    obtain ⟨y', hc', hy'⟩ := hh
    refine hc' _ (h _ _ fun K hk => zbackRef (by rw [k2]; decide) hy' (hk _ ⟨?_, .inr ⟨k1, k2, ?_⟩, fun k hk => rfl, fun k => rfl, AgU_emb (AgU_r _ _) fun k hk => ?_, Ag_sA (Ag_r _ _) (by decide) _⟩))
    · exact RD_c q0 fun k hk => mix_at hk
    · show RD (u' 2) (u' 3) (gA V 47)
      rw [q2, q3]
      exact k3
    · have := ix4 (l := [13, 14, 15, 16]) rfl k hk
      simp only [List.mem_cons, List.not_mem_nil, or_false] at this ⊢
      rcases this with e | e | e | e <;> subst e <;> decide

/-! what one state leaves as it was in another -/
def Ag (ks : List Nat) (u v : ST) : Prop := ∀ k : Nat, k ∉ ks → gI u k = gI v k ∧ gA u k = gA v k ∧ gJ u k = gJ v k ∧ gG u k = gG v k
def AgU (ks : List Nat) (u v : CS) : Prop := ∀ k : Nat, k ∉ ks → u k = v k
theorem Ag_r (ks : List Nat) (u : ST) : Ag ks u u := fun _ _ => ⟨rfl, rfl, rfl, rfl⟩
theorem AgU_r (ks : List Nat) (u : CS) : AgU ks u u := fun _ _ => rfl
theorem Ag_t {ks : List Nat} {u v w : ST} (h : Ag ks u v) (h2 : Ag ks v w) : Ag ks u w := fun k hk => ⟨(h k hk).1.trans (h2 k hk).1, (h k hk).2.1.trans (h2 k hk).2.1, (h k hk).2.2.1.trans (h2 k hk).2.2.1, (h k hk).2.2.2.trans (h2 k hk).2.2.2⟩
theorem AgU_t {ks : List Nat} {u v w : CS} (h : AgU ks u v) (h2 : AgU ks v w) : AgU ks u w := fun k hk => (h k hk).trans (h2 k hk)
theorem Ag_m {ks ls : List Nat} {u v : ST} (h : Ag ks u v) (hm : ∀ k ∈ ks, k ∈ ls) : Ag ls u v := fun k hk => h k fun c => hk (hm k c)
theorem AgU_m {ks ls : List Nat} {u v : CS} (h : AgU ks u v) (hm : ∀ k ∈ ks, k ∈ ls) : AgU ls u v := fun k hk => h k fun c => hk (hm k c)
theorem Ag_sI {ks : List Nat} {u v : ST} {k : Nat} (h : Ag ks u v) (hk : k ∈ ks) (x : Int32) : Ag ks (sI u k x) v := fun j hj => by
  have hn : j ≠ k := fun e => hj (e ▸ hk)
  rw [gI_sI' _ _ hn, gA_sI, gJ_sI, gG_sI]
  exact h j hj
theorem Ag_sA {ks : List Nat} {u v : ST} {k : Nat} (h : Ag ks u v) (hk : k ∈ ks) (x : Nat → Int32) : Ag ks (sA u k x) v := fun j hj => by
  have hn : j ≠ k := fun e => hj (e ▸ hk)
  rw [gA_sA' _ _ hn, gI_sA, gJ_sA, gG_sA]
  exact h j hj
theorem Ag_sJ {ks : List Nat} {u v : ST} {k : Nat} (h : Ag ks u v) (hk : k ∈ ks) (x : Nat → Int64) : Ag ks (sJ u k x) v := fun j hj => by
  have hn : j ≠ k := fun e => hj (e ▸ hk)
  rw [gJ_sJ' _ _ hn, gI_sJ, gA_sJ, gG_sJ]
  exact h j hj
theorem Ag_sG {ks : List Nat} {u v : ST} {k : Nat} (h : Ag ks u v) (hk : k ∈ ks) (x : Nat → Nat → Int32) : Ag ks (sG u k x) v := fun j hj => by
  have hn : j ≠ k := fun e => hj (e ▸ hk)
  rw [gG_sG' _ _ hn, gI_sG, gA_sG, gJ_sG]
  exact h j hj
theorem AgU_mu {ks : List Nat} {u v : CS} {k : Nat} (h : AgU ks u v) (hk : k ∈ ks) (x : ST) : AgU ks (mu u k x) v := fun j hj => by
  have hn : j ≠ k := fun e => hj (e ▸ hk)
  rw [mu_ne _ _ hn]
  exact h j hj
theorem Ag_I {ks : List Nat} {u v : ST} (h : Ag ks u v) (k : Nat) (hk : k ∉ ks) : gI u k = gI v k := (h k hk).1
theorem Ag_A {ks : List Nat} {u v : ST} (h : Ag ks u v) (k : Nat) (hk : k ∉ ks) : gA u k = gA v k := (h k hk).2.1
theorem Ag_J {ks : List Nat} {u v : ST} (h : Ag ks u v) (k : Nat) (hk : k ∉ ks) : gJ u k = gJ v k := (h k hk).2.2.1
theorem Ag_G {ks : List Nat} {u v : ST} (h : Ag ks u v) (k : Nat) (hk : k ∉ ks) : gG u k = gG v k := (h k hk).2.2.2
theorem RT_ag {ks : List Nat} {T V V' : ST} (h : RT T V) (ha : Ag ks V' V) (hk : ∀ k : Nat, 1 ≤ k → k ≤ 10 → k ∉ ks) : RT T V' := by
  obtain ⟨d, n, val, w, b, a, h1, h2, h3, h4, h5, h6, h7⟩ := h
  refine ⟨d, n, val, w, b, a, h1, h2, ?_, h4, ?_, ?_, ?_⟩
  · rw [Ag_I ha 5 (hk 5 (by decide) (by decide))]
    exact h3
  · rw [Ag_I ha 6 (hk 6 (by decide) (by decide))]
    exact h5
  · intro k h
    rw [Ag_I ha (k + 1) (hk _ (by omega) (by omega))]
    exact h6 k h
  · rw [Ag_A ha 7 (hk 7 (by decide) (by decide)), Ag_A ha 9 (hk 9 (by decide) (by decide)), Ag_A ha 10 (hk 10 (by decide) (by decide))]
    exact h7
/-- what a call of the tower may touch -/
def RTx (U : CS) (V : ST) (U' : CS) (V' : ST) : Prop := RT (U' 1) V' ∧ AgU [1] U' U ∧ Ag [1, 2, 3, 4, 5, 6, 7, 8, 9, 10] V' V
/-- the reference's step behind the making of room -/
theorem zlast {w b v d : Nat} {y : Int32} (hw : w < 4) (hd : d < 40) {V : ST} {Q : Int32 → ST → Prop} (e : gI V 5 = nI d) (h : ∀ f : Nat → Int32, Q (nI b) (sI (sI (sA (sA (sA (sA V 7 (upd (gA V 7) d (nI w))) 8 f) 9 (upd (gA V 9) d (nI b))) 10 (upd (gA V 10) d (nI v))) 5 (nI (d + 1))) (w + 1) (nI v))) : wp_X12_changes_p121 (nI w) y (nI v) (nI b) V Q := by
  unfold wp_X12_changes_p121
  rw [e]
  refine ⟨nI_in hd (by decide), ?_⟩
  rintro _ rfl
  simp only [gI_sI, gI_sI', gI_sA, gI_sJ, gI_sG, gA_sA, gA_sA', gA_sI, gA_sJ, gA_sG, gJ_sJ, gJ_sJ', gJ_sI, gJ_sA, gJ_sG, gG_sG, gG_sG', gG_sI, gG_sA, gG_sJ, ne_eq, Nat.reduceEqDiff, Nat.succ_ne_zero, Nat.zero_ne_one, not_false_eq_true, reduceCtorEq]
  rw [e]
  refine ⟨nI_in hd (by decide), ?_⟩
  rintro _ rfl
  simp only [gI_sI, gI_sI', gI_sA, gI_sJ, gI_sG, gA_sA, gA_sA', gA_sI, gA_sJ, gA_sG, gJ_sJ, gJ_sJ', gJ_sI, gJ_sA, gJ_sG, gG_sG, gG_sG', gG_sI, gG_sA, gG_sJ, ne_eq, Nat.reduceEqDiff, Nat.succ_ne_zero, Nat.zero_ne_one, not_false_eq_true, reduceCtorEq]
  rw [e]
  refine ⟨nI_in hd (by decide), ?_⟩
  rintro _ rfl
  simp only [gI_sI, gI_sI', gI_sA, gI_sJ, gI_sG, gA_sA, gA_sA', gA_sI, gA_sJ, gA_sG, gJ_sJ, gJ_sJ', gJ_sI, gJ_sA, gJ_sG, gG_sG, gG_sG', gG_sI, gG_sA, gG_sJ, ne_eq, Nat.reduceEqDiff, Nat.succ_ne_zero, Nat.zero_ne_one, not_false_eq_true, reduceCtorEq]
  rw [e]
  refine ⟨nI_in hd (by decide), ?_⟩
  rintro _ rfl _ rfl _ rfl
  refine zlays hw ?_
  simp only [gI_sI, gI_sI', gI_sA, gI_sJ, gI_sG, gA_sA, gA_sA', gA_sI, gA_sJ, gA_sG, gJ_sJ, gJ_sJ', gJ_sI, gJ_sA, gJ_sG, gG_sG, gG_sG', gG_sI, gG_sA, gG_sJ, ne_eq, Nat.reduceEqDiff, Nat.succ_ne_zero, Nat.zero_ne_one, not_false_eq_true, reduceCtorEq]
  rw [e, nI_1, nI_clamp (by omega)]
  exact h _
theorem znote {w b v d : Nat} (hw : w < 4) (hd : d < 40) {T : ST} {Q : ST → Prop} (e : gI T 4 = nI d) (h : Q (sI (sI (sA (sA (sA T 1 (upd (gA T 1) d (nI w))) 2 (upd (gA T 2) d (nI b))) 3 (upd (gA T 3) d (nI v))) 4 (nI (d + 1))) 5 (nI (d + 1)))) : wp_X8_note_p13 (nI w) (nI b) (nI v) T Q := by
  unfold wp_X8_note_p13
  rw [e]
  refine ⟨nI_in hd (by decide), ?_⟩
  rintro _ rfl
  simp only [gI_sI, gI_sI', gI_sA, gI_sJ, gI_sG, gA_sA, gA_sA', gA_sI, gA_sJ, gA_sG, gJ_sJ, gJ_sJ', gJ_sI, gJ_sA, gJ_sG, gG_sG, gG_sG', gG_sI, gG_sA, gG_sJ, ne_eq, Nat.reduceEqDiff, Nat.succ_ne_zero, Nat.zero_ne_one, not_false_eq_true, reduceCtorEq]
  rw [e]
  refine ⟨nI_in hd (by decide), ?_⟩
  rintro _ rfl
  simp only [gI_sI, gI_sI', gI_sA, gI_sJ, gI_sG, gA_sA, gA_sA', gA_sI, gA_sJ, gA_sG, gJ_sJ, gJ_sJ', gJ_sI, gJ_sA, gJ_sG, gG_sG, gG_sG', gG_sI, gG_sA, gG_sJ, ne_eq, Nat.reduceEqDiff, Nat.succ_ne_zero, Nat.zero_ne_one, not_false_eq_true, reduceCtorEq]
  rw [e]
  refine ⟨nI_in hd (by decide), ?_⟩
  rintro _ rfl _ rfl _ rfl _ rfl
  simp only [gI_sI, gI_sI', gI_sA, gI_sJ, gI_sG, gA_sA, gA_sA', gA_sI, gA_sJ, gA_sG, gJ_sJ, gJ_sJ', gJ_sI, gJ_sA, gJ_sG, gG_sG, gG_sG', gG_sI, gG_sA, gG_sJ, ne_eq, Nat.reduceEqDiff, Nat.succ_ne_zero, Nat.zero_ne_one, not_false_eq_true, reduceCtorEq]
  rw [e, nI_1, nI_clamp (by omega)]
  exact h
/-- the reference makes room -/
theorem zroom {x1 x2 x3 x4 : Int32} {V : ST} {Q : Int32 → ST → Prop} (e : gI V 5 = nI 40) (h : wp_X12_changes_p121 x1 x2 x3 x4 (sI (sA (sA (sA (sA V 7 (shl (gA V 7) 40)) 8 (shl (gA V 8) 40)) 9 (shl (gA V 9) 40)) 10 (shl (gA V 10) 40)) 5 (nI 39)) Q) : wp_X12_changes_p34 x1 x2 x3 x4 (1 : Int32) V Q := by
  unfold wp_X12_changes_p34
  refine ⟨fun y1 y2 y3 y4 x u => y1 = x1 ∧ y2 = x2 ∧ y3 = x3 ∧ y4 = x4 ∧ ∃ i : Nat, i + 1 ≤ 40 ∧ x = nI (i + 1) ∧ u = sA (sA (sA (sA V 7 (shl (gA V 7) (i + 1))) 8 (shl (gA V 8) (i + 1))) 9 (shl (gA V 9) (i + 1))) 10 (shl (gA V 10) (i + 1)), fun _ _ _ _ x _ => 40 - x.toNatClampNeg, ⟨rfl, rfl, rfl, rfl, 0, by omega, rfl, ?_⟩, ?_⟩
  · rw [shl_1, shl_1, shl_1, shl_1, sA_self, sA_self, sA_self, sA_self]
  · rintro y1 y2 y3 y4 _ _ ⟨rfl, rfl, rfl, rfl, i, hi, rfl, rfl⟩
    unfold wp_X12_changes_p34b
    refine ⟨fun c => ?_, fun c => ?_⟩
    · have := (nI_leI (a := 40) (by decide) (by omega)).mp c
      have : i + 1 = 40 := by omega
      rintro _ rfl
      rintro _ rfl
      rw [this]
      simp only [gI_sI, gI_sI', gI_sA, gI_sJ, gI_sG, gA_sA, gA_sA', gA_sI, gA_sJ, gA_sG, gJ_sJ, gJ_sJ', gJ_sI, gJ_sA, gJ_sG, gG_sG, gG_sG', gG_sI, gG_sA, gG_sJ, ne_eq, Nat.reduceEqDiff, Nat.succ_ne_zero, Nat.zero_ne_one, not_false_eq_true, reduceCtorEq]
      rw [e]
      exact h
    · have hlt : i + 1 < 40 := by
        have := mt (nI_leI (a := 40) (b := i + 1) (by decide) (by omega)).mpr c
        omega
      have ey : nI (i + 1) - 1 = nI i := nI_pred i
      have h1 : vp_in (nI (i + 1)) 40 := nI_in hlt (by decide)
      have h0 : vp_in (nI i) 40 := nI_in (by omega) (by decide)
      rintro _ rfl
      rw [ey]
      refine ⟨h1, ?_⟩
      rintro _ rfl
      refine ⟨h0, ?_⟩
      rintro _ rfl _ rfl
      refine ⟨h1, ?_⟩
      rintro _ rfl
      refine ⟨h0, ?_⟩
      rintro _ rfl _ rfl
      refine ⟨h1, ?_⟩
      rintro _ rfl
      refine ⟨h0, ?_⟩
      rintro _ rfl _ rfl
      refine ⟨h1, ?_⟩
      rintro _ rfl
      refine ⟨h0, ?_⟩
      rintro _ rfl _ rfl
      refine ⟨⟨rfl, rfl, rfl, rfl, i + 1, by omega, nI_1 _, ?_⟩, ?_⟩
      · rw [nI_clamp (by omega), nI_clamp (by omega)]
        simp only [gI_sI, gI_sI', gI_sA, gI_sJ, gI_sG, gA_sA, gA_sA', gA_sI, gA_sJ, gA_sG, gJ_sJ, gJ_sJ', gJ_sI, gJ_sA, gJ_sG, gG_sG, gG_sG', gG_sI, gG_sA, gG_sJ, ne_eq, Nat.reduceEqDiff, Nat.succ_ne_zero, Nat.zero_ne_one, not_false_eq_true, reduceCtorEq]
        rw [shl_s, shl_s, shl_s, shl_s]
        rw [sA_cm (sA _ _ _) (k := 10) (l := 7) _ _ (by decide), sA_cm (sA _ _ _) (k := 9) (l := 7) _ _ (by decide), sA_cm (sA _ _ _) (k := 8) (l := 7) _ _ (by decide), sA_sA, sA_cm (sA _ _ _) (k := 10) (l := 8) _ _ (by decide), sA_cm (sA _ _ _) (k := 9) (l := 8) _ _ (by decide), sA_sA, sA_cm (sA _ _ _) (k := 10) (l := 9) _ _ (by decide), sA_sA, sA_sA]
      · show 40 - (nI (i + 1) + 1).toNatClampNeg < 40 - (nI (i + 1)).toNatClampNeg
        rw [nI_1, nI_clamp (by omega), nI_clamp (by omega)]
        omega

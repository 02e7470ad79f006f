/-! trodden: the math, and the class's tables -/
def mx (a b : Nat) : Nat := if a < b then b else a
theorem mx_lt {a b : Nat} (h : mx a b < zF) : a < zF ∧ b < zF ∧ a ≤ mx a b ∧ b ≤ mx a b := by
  unfold mx at *
  split at h <;> rename_i c
  · rw [if_pos c]
    exact ⟨by omega, h, by omega, by omega⟩
  · rw [if_neg c]
    exact ⟨h, by omega, by omega, by omega⟩
theorem mx_or (a b : Nat) : mx a b = a ∨ mx a b = b := by
  unfold mx
  split
  · exact .inr rfl
  · exact .inl rfl
def tre : Nat → Nat → Nat → Bool → Nat
  | 0, _, _, _ => 0
  | n + 1, j, m, s => (bst (if m = 1 then 0 else zF) (fun k => (if s = true then m - k else k) + (if j = 0 then zF else mx (tre n (j - 1) k true) (tre n j (m - k) false))) (m - 1)).1
theorem tre_fuel : ∀ n n' j m : Nat, ∀ s : Bool, 1 ≤ m → m ≤ n → m ≤ n' → tre n j m s = tre n' j m s
  | 0, _, _, _, _, h, h2, _ => by omega
  | _ + 1, 0, _, _, _, h, _, h3 => by omega
  | n + 1, n' + 1, j, m, s, h, h2, h3 => by
    show (bst _ _ _).1 = (bst _ _ _).1
    exact congrArg Prod.fst (bst_cg fun k k1 k2 => .inl (by rw [tre_fuel n n' (j - 1) k true (by omega) (by omega) (by omega), tre_fuel n n' j (m - k) false (by omega) (by omega) (by omega)]))
def tA (j m : Nat) (s : Bool) : Nat := tre 26 j m s
def trr (j m k : Nat) : Nat := if j = 0 then zF else mx (tA (j - 1) k true) (tA j (m - k) false)
def tB (j m : Nat) (dd : Nat → Nat) : Nat × Nat := bst (if m = 1 then 0 else zF) (fun k => dd k + trr j m k) (m - 1)
def ds (m : Nat) (s : Bool) : Nat → Nat := fun k => if s = true then m - k else k
theorem tB_z {m : Nat} : (if m = 1 then 0 else zF) ≤ zF := by split <;> omega
theorem tA_eq (j : Nat) {m : Nat} (s : Bool) (h : 1 ≤ m) (h2 : m ≤ 26) : tA j m s = (tB j m (ds m s)).1 := by
  show (bst _ _ _).1 = (bst _ _ _).1
  refine congrArg Prod.fst (bst_cg fun k k1 k2 => .inl ?_)
  unfold trr ds tA
  rw [tre_fuel 25 26 (j - 1) k true (by omega) (by omega) (by omega), tre_fuel 25 26 j (m - k) false (by omega) (by omega) (by omega)]
theorem tA_le (j : Nat) {m : Nat} (s : Bool) (h : 1 ≤ m) (h2 : m ≤ 26) : tA j m s ≤ zF := by
  rw [tA_eq j s h h2]
  exact Nat.le_trans (bst_le _ _ _) tB_z
theorem tA_small : ∀ M m : Nat, m ≤ M → ∀ (j : Nat) (s : Bool), 1 ≤ m → m ≤ 26 → tA j m s < zF → tA j m s ≤ 26 * m
  | 0, m, h, _, _, h1, _, _ => by omega
  | M + 1, m, h, j, s, h1, h2, hf => by
    rw [tA_eq j s h1 h2] at hf ⊢
    have hz := zF_e
    have ha := bst_at (if m = 1 then 0 else zF) (fun k => ds m s k + trr j m k) (m - 1)
    have hi := bst_i (if m = 1 then 0 else zF) (fun k => ds m s k + trr j m k) (m - 1)
    rw [show bst (if m = 1 then 0 else zF) (fun k => ds m s k + trr j m k) (m - 1) = tB j m (ds m s) from rfl] at ha hi
    rcases ha with ⟨-, e⟩ | ⟨p, e, -⟩
    · by_cases c : m = 1
      · rw [if_pos c] at e
        omega
      · rw [if_neg c] at e
        omega
    · generalize (tB j m (ds m s)).2 = i at p e hi
      have hd : ds m s i ≤ m := by
        unfold ds
        split <;> omega
      have ht : trr j m i < zF := by omega
      have ht2 : trr j m i ≤ 26 * (m - 1) := by
        unfold trr at ht ⊢
        by_cases cj : j = 0
        · rw [if_pos cj] at ht
          omega
        rw [if_neg cj] at ht ⊢
        obtain ⟨q1, q2, -, -⟩ := mx_lt ht
        have b1 := tA_small M i (by omega) (j - 1) true (by omega) (by omega) q1
        have b2 := tA_small M (m - i) (by omega) j false (by omega) (by omega) q2
        rcases mx_or (tA (j - 1) i true) (tA j (m - i) false) with e2 | e2 <;> rw [e2] <;> omega
      omega
theorem trr_small {j m k : Nat} (h : 1 ≤ k) (h1 : k < m) (h2 : m ≤ 26) (hf : trr j m k < zF) : trr j m k ≤ 700 := by
  have hz := zF_e
  unfold trr at *
  by_cases cj : j = 0
  · rw [if_pos cj] at hf
    omega
  rw [if_neg cj] at hf ⊢
  obtain ⟨q1, q2, -, -⟩ := mx_lt hf
  have b1 := tA_small k k (Nat.le_refl _) (j - 1) true h (by omega) q1
  have b2 := tA_small (m - k) (m - k) (Nat.le_refl _) j false (by omega) (by omega) q2
  rcases mx_or (tA (j - 1) k true) (tA j (m - k) false) with e2 | e2 <;> rw [e2] <;> omega
theorem trr_le {j m k : Nat} (h : 1 ≤ k) (h1 : k < m) (h2 : m ≤ 26) : trr j m k ≤ zF := by
  unfold trr
  split
  · exact Nat.le_refl _
  have b1 := tA_le (j - 1) true h (by omega)
  have b2 := tA_le j (m := m - k) false (by omega) (by omega)
  rcases mx_or (tA (j - 1) k true) (tA j (m - k) false) with e2 | e2 <;> rw [e2] <;> omega
theorem tB_cg {j m : Nat} {dd dd' : Nat → Nat} (h : ∀ k : Nat, 1 ≤ k → k ≤ m - 1 → dd k = dd' k) : tB j m dd = tB j m dd' := bst_cg fun k k1 k2 => .inl (by rw [h k k1 k2])
/-- one turn of the class -/
theorem tstep {r s d : Nat} (hs : s ≤ zF) (hr : r ≤ zF) (hr2 : r < zF → r ≤ 700) (hd : d ≤ 700) : (if d + cN r < cN s then d + cN r else cN s) = cN (if d + r < s then d + r else s) := by
  have hz := zF_e
  rcases cN_or r with ⟨a, e⟩ | ⟨a, e⟩ <;> rcases cN_or s with ⟨b, e2⟩ | ⟨b, e2⟩
  · rw [e, e2]
    by_cases c : d + r < s
    · rw [if_pos c, cN_f (by omega)]
    · rw [if_neg c, e2]
  · have := hr2 a
    rw [e, e2, if_pos (by omega), if_pos (by omega), cN_f (by omega)]
  · rw [e, e2, if_neg (by omega), if_neg (by omega), e2]
  · rw [e, e2, if_neg (by omega), if_neg (by omega), e2]
theorem cN_mx {a b : Nat} (ha : a ≤ zF) (hb : b ≤ zF) : (if cN a < cN b then cN b else cN a) = cN (mx a b) := by
  have c := cN_cmp (a := b) (b := a) hb
  unfold mx
  by_cases h : a < b
  · rw [if_pos h, if_pos (by
      have := mt c.mp (fun q => q h)
      omega)]
  · rw [if_neg h, if_neg (by
      have := c.mpr h
      omega)]
def P7c (P : ST) (j m : Nat) : Prop := gG P 0 j m = nI (cN (tA j m false)) ∧ gG P 1 j m = nI (cN (tA j m true))
theorem zrest {P : ST} {j m k : Nat} (hj : j ≤ 6) (hm : m ≤ 25) (h1 : 1 ≤ k) (h2 : k < m) (hA : j ≠ 0 → P7c P (j - 1) k ∧ P7c P j (m - k)) {Q : Int32 → ST → Prop} (hq : Q (nI (cN (trr j m k))) P) : wp_X9_rest (nI j) (nI m) (nI k) P Q := by
  have hz := zF_e
  unfold wp_X9_rest wp_X9_rest_p26
  by_cases cj : j = 0
  · subst cj
    exact zWb (.inl (by decide)) ⟨fun _ => hq, fun c => absurd rfl c⟩
  obtain ⟨q1, q2⟩ := hA cj
  refine zWin (lo := 1) (hi := 6) (by omega) hj (by decide) ⟨fun c => absurd c (by decide), fun _ => ⟨fun c => absurd ((nI_ltI (a := 25) (by decide) (by omega)).mp c) (by omega), fun _ => ⟨fun c => absurd ((nI_ltI (b := 1) (by omega) (by decide)).mp c) (by omega), fun _ => ⟨fun _ => ?_, fun c => absurd ((nI_ltI (by omega) (by omega)).mpr h2) c⟩⟩⟩⟩
  rw [show nI j - (1 : Int32) = nI (j - 1) from nI_sub (b := 1) (by omega)]
  rintro _ rfl
  refine ⟨nI_in (by omega) (by decide), nI_in (by omega) (by decide), ?_⟩
  rw [nI_clamp (n := j - 1) (by omega), nI_clamp (n := k) (by omega), q1.2]
  rintro _ rfl
  refine ⟨nI_in (by omega) (by decide), ?_⟩
  rw [nI_sub (by omega)]
  rintro _ rfl
  refine ⟨nI_in (by omega) (by decide), ?_⟩
  rw [nI_clamp (n := j) (by omega), nI_clamp (n := m - k) (by omega), q2.1]
  rintro _ rfl
  have l1 := tA_le (j - 1) true h1 (show k ≤ 26 by omega)
  have l2 := tA_le j (m := m - k) false (by omega) (by omega)
  have e1 : (if nI (cN (tA (j - 1) k true)) < nI (cN (tA j (m - k) false)) then nI (cN (tA j (m - k) false)) else nI (cN (tA (j - 1) k true))) = nI (cN (mx (tA (j - 1) k true) (tA j (m - k) false))) := by
    rw [← cN_mx l1 l2]
    by_cases c : cN (tA (j - 1) k true) < cN (tA j (m - k) false)
    · rw [if_pos c, if_pos ((nI_ltI (cN_b _) (cN_b _)).mpr c)]
    · rw [if_neg c, if_neg (mt (nI_ltI (cN_b _) (cN_b _)).mp c)]
  rw [e1]
  rintro _ rfl
  have e2 : trr j m k = mx (tA (j - 1) k true) (tA j (m - k) false) := if_neg cj
  rw [← e2]
  have e3 : (if nI (cN (trr j m k)) < (268435456 : Int32) then nI (cN (trr j m k)) else (268435456 : Int32)) = nI (cN (trr j m k)) := by
    by_cases c : nI (cN (trr j m k)) < (268435456 : Int32)
    · rw [if_pos c]
    · rw [if_neg c, cN_i (mt zcNI.mpr c)]
      rfl
  rw [e3]
  rintro _ rfl
  exact hq
def P7i (j m : Nat) (P : ST) : Prop := ∀ j' m' : Nat, (j' < j ∨ j' = j ∧ m' < m) → j' ≤ 6 → 1 ≤ m' → m' ≤ 25 → P7c P j' m'
theorem zfill7 {P : ST} {j m : Nat} (hj : j ≤ 6) (h1 : 1 ≤ m) (hm : m ≤ 25) (hi : P7i j m P) {Q : ST → Prop} (hq : ∀ P' : ST, P7i j (m + 1) P' → gI P' 2 = gI P 2 → Q P') : wp_X9_fill (nI j) (nI m) P Q := by
  have hz := zF_e
  have lz := tB_z (m := m)
  have key : wp_X9_fill_p18 (nI j) (nI m) (nI (cN (if m = 1 then 0 else zF))) (nI (cN (if m = 1 then 0 else zF))) 1 P Q := by
    unfold wp_X9_fill_p18
    refine ⟨fun x1 x2 x3 x4 x5 u => x1 = nI j ∧ x2 = nI m ∧ u = P ∧ ∃ n : Nat, n + 1 ≤ m ∧ x5 = nI (n + 1) ∧ x3 = nI (cN (bst (if m = 1 then 0 else zF) (fun k => ds m false k + trr j m k) n).1) ∧ x4 = nI (cN (bst (if m = 1 then 0 else zF) (fun k => ds m true k + trr j m k) n).1), fun _ _ _ _ x5 _ => 27 - x5.toNatClampNeg, ⟨rfl, rfl, rfl, 0, h1, rfl, rfl, rfl⟩, ?_⟩
    rintro _ _ _ _ _ u ⟨rfl, rfl, eu, n, hn, rfl, rfl, rfl⟩
    rw [eu]
    unfold wp_X9_fill_p18b
    refine ⟨fun c => ?_, fun c => ?_⟩
    · have en : n = m - 1 := by
        have := (nI_leI (by omega) (by omega)).mp c
        omega
      rw [en, show (bst (if m = 1 then 0 else zF) (fun k => ds m false k + trr j m k) (m - 1)).1 = tA j m false from (tA_eq j false h1 (by omega)).symm, show (bst (if m = 1 then 0 else zF) (fun k => ds m true k + trr j m k) (m - 1)).1 = tA j m true from (tA_eq j true h1 (by omega)).symm]
      refine ⟨nI_in (by omega) (by decide), nI_in (by omega) (by decide), ?_⟩
      rintro _ rfl
      refine ⟨nI_in (by omega) (by decide), nI_in (by omega) (by decide), ?_⟩
      rintro _ rfl
      simp only [gI_sI, gI_sI', gI_sA, gI_sJ, gI_sG, gA_sA, gA_sA', gA_sI, gA_sJ, gA_sG, gJ_sJ, gJ_sJ', gJ_sI, gJ_sA, gJ_sG, gG_sG, gG_sG', gG_sI, gG_sA, gG_sJ, ne_eq, Nat.reduceEqDiff, Nat.succ_ne_zero, Nat.zero_ne_one, not_false_eq_true, reduceCtorEq]
      rw [nI_clamp (n := j) (by omega), nI_clamp (n := m) (by omega)]
      refine hq _ (fun j' m' q q1 q2 q3 => ?_) rfl
      unfold P7c
      simp only [gI_sI, gI_sI', gI_sA, gI_sJ, gI_sG, gA_sA, gA_sA', gA_sI, gA_sJ, gA_sG, gJ_sJ, gJ_sJ', gJ_sI, gJ_sA, gJ_sG, gG_sG, gG_sG', gG_sI, gG_sA, gG_sJ, ne_eq, Nat.reduceEqDiff, Nat.succ_ne_zero, Nat.zero_ne_one, not_false_eq_true, reduceCtorEq]
      by_cases cj : j' = j
      · subst cj
        rw [mu_at, mu_at]
        by_cases cm : m' = m
        · subst cm
          rw [pk_us, pk_us]
          exact ⟨rfl, rfl⟩
        · rw [pk_un cm, pk_un cm]
          exact hi _ _ (.inr ⟨rfl, by omega⟩) q1 q2 q3
      · rw [mu_ne _ _ cj, mu_ne _ _ cj]
        exact hi _ _ (.inl (by omega)) q1 q2 q3
    have hnm : n + 1 < m := by
      have := mt (nI_leI (a := m) (b := n + 1) (by omega) (by omega)).mpr c
      omega
    refine zrest hj hm (by omega) hnm (fun hj0 => ⟨hi _ _ (.inl (by omega)) (by omega) (by omega) (by omega), hi _ _ (.inr ⟨rfl, by omega⟩) hj (by omega) (by omega)⟩) ?_
    have t1 := trr_le (j := j) (k := n + 1) (by omega) hnm (show m ≤ 26 by omega)
    have t2 := trr_small (j := j) (k := n + 1) (by omega) hnm (show m ≤ 26 by omega)
    have lc := cN_le (trr j m (n + 1))
    have s1 : (bst (if m = 1 then 0 else zF) (fun k => ds m false k + trr j m k) n).1 ≤ zF := Nat.le_trans (bst_le _ _ _) lz
    have s2 : (bst (if m = 1 then 0 else zF) (fun k => ds m true k + trr j m k) n).1 ≤ zF := Nat.le_trans (bst_le _ _ _) lz
    rw [nI_add]
    rintro _ rfl
    rw [zminI (by omega) (cN_b _), tstep (d := n + 1) s1 t1 t2 (by omega)]
    rintro _ rfl
    rw [nI_sub (by omega)]
    rintro _ rfl
    rw [nI_add]
    rintro _ rfl
    rw [zminI (by omega) (cN_b _), tstep (d := m - (n + 1)) s2 t1 t2 (by omega)]
    rintro _ rfl
    rw [nI_1]
    rintro _ rfl
    refine ⟨⟨rfl, rfl, rfl, n + 1, by omega, rfl, ?_, ?_⟩, ?_⟩
    · rw [bst_v]
      rfl
    · rw [bst_v]
      rfl
    · try dsimp only
      rw [nI_clamp (by omega), nI_clamp (by omega)]
      omega
  unfold wp_X9_fill wp_X9_fill_p11
  refine ⟨fun c => ?_, fun c => ?_⟩
  · have : m ≠ 1 := fun e => c (by rw [e]; rfl)
    rw [if_neg this] at key
    exact key
  · have : m = 1 := (nI_eq (b := 1) (by omega) (by decide)).mp c
    rw [if_pos this] at key
    exact key
def R7 (P : ST) : Prop := gI P 2 = 0 ∨ (¬ gI P 2 = 0 ∧ P7i 7 1 P)
theorem zprep7 {P : ST} (h : R7 P) {Q : ST → Prop} (hq : ∀ P' : ST, ¬ gI P' 2 = 0 → P7i 7 1 P' → Q P') : wp_X9_prepare P Q := by
  unfold wp_X9_prepare
  refine ⟨fun _ => ?_, fun c => hq P c (h.resolve_left c).2⟩
  rintro _ rfl
  unfold wp_X9_prepare_p15
  refine ⟨fun x1 u => ∃ j : Nat, j ≤ 7 ∧ x1 = nI j ∧ gI u 2 = 1 ∧ P7i j 1 u, fun x1 _ => 7 - x1.toNatClampNeg, ⟨0, by omega, rfl, rfl, fun _ _ q _ _ _ => by omega⟩, ?_⟩
  rintro _ u ⟨j, hj, rfl, h1, hi⟩
  unfold wp_X9_prepare_p15b
  refine ⟨fun c => ?_, fun c => ?_⟩
  · have := (nI_ltI (a := 6) (by decide) (by omega)).mp c
    have ej : j = 7 := by omega
    subst ej
    exact hq u (by rw [h1]; decide) hi
  have hj6 : j ≤ 6 := by
    have := mt (nI_ltI (a := 6) (b := j) (by decide) (by omega)).mpr c
    omega
  unfold wp_X9_prepare_p23
  refine ⟨fun x1 x2 v => x1 = nI j ∧ ∃ m : Nat, 1 ≤ m ∧ m ≤ 26 ∧ x2 = nI m ∧ gI v 2 = 1 ∧ P7i j m v, fun _ x2 _ => 27 - x2.toNatClampNeg, ⟨rfl, 1, by omega, by omega, rfl, h1, hi⟩, ?_⟩
  rintro _ _ v ⟨rfl, m, a1, a2, rfl, hv1, hv⟩
  unfold wp_X9_prepare_p23b
  refine ⟨fun c2 => ?_, fun c2 => ?_⟩
  · have := (nI_ltI (a := 25) (by decide) (by omega)).mp c2
    rw [nI_1]
    rintro _ rfl
    refine ⟨⟨j + 1, by omega, rfl, hv1, fun j' m' q q1 q2 q3 => hv j' m' (by omega) q1 q2 q3⟩, ?_⟩
    show 7 - (nI (j + 1)).toNatClampNeg < 7 - (nI j).toNatClampNeg
    rw [nI_clamp (by omega), nI_clamp (by omega)]
    omega
  have hm : m ≤ 25 := by
    have := mt (nI_ltI (a := 25) (b := m) (by decide) (by omega)).mpr c2
    omega
  refine zfill7 hj6 a1 hm hv fun P' g1 g2 => ?_
  rw [nI_1]
  rintro _ rfl
  refine ⟨⟨rfl, m + 1, by omega, by omega, rfl, g2.trans hv1, g1⟩, ?_⟩
  try dsimp only
  rw [nI_clamp (by omega), nI_clamp (by omega)]
  omega

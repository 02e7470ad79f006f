/-! the class's ladders -/
def cN (v : Nat) : Nat := if v < zF then v else 268435456
theorem cN_f {v : Nat} (h : v < zF) : cN v = v := if_pos h
theorem cN_i {v : Nat} (h : ¬ v < zF) : cN v = 268435456 := if_neg h
theorem zF_e : zF = 1000000 := rfl
theorem cN_b (v : Nat) : cN v < 2 ^ 31 := by
  have := zF_e
  unfold cN
  split <;> omega
theorem cN_lt (v : Nat) : cN v < 268435456 ↔ v < zF := by
  have := zF_e
  unfold cN
  split <;> omega
theorem cN_cmp {a b : Nat} (ha : a ≤ zF) : cN a ≤ cN b ↔ ¬ b < a := by
  have := zF_e
  unfold cN
  split <;> split <;> omega
theorem cN_z : (268435456 : Int32) = nI (cN zF) := rfl
/-- the greater of two -/
theorem zmaxI {a b : Nat} (ha : a < 2 ^ 31) (hb : b < 2 ^ 31) : (if nI a < nI b then nI b else nI a) = nI (if a < b then b else a) := by
  by_cases c : a < b
  · rw [if_pos c, if_pos ((nI_ltI ha hb).mpr c)]
  · rw [if_neg c, if_neg (mt (nI_ltI ha hb).mp c)]
theorem zTh {j m : Nat} (hj : j ≤ 6) (h1 : 1 ≤ m) (h2 : m ≤ 61) {Q : Int32 → Prop} (hq : Q 1) : wp_X2_isThere (nI j) (nI m) Q := by
  unfold wp_X2_isThere wp_X2_isThere_p26
  refine ⟨fun c => absurd c (nI_pos (by omega)), fun _ => ⟨fun c => ?_, fun _ => ⟨fun c => ?_, fun _ => ⟨fun c => ?_, fun _ => ⟨by decide, hq⟩⟩⟩⟩⟩
  · have := (nI_ltI (a := 6) (b := j) (by decide) (by omega)).mp c
    omega
  · have := (nI_ltI (a := m) (b := 1) (by omega) (by decide)).mp c
    omega
  · have := (nI_ltI (a := 61) (b := m) (by decide) (by omega)).mp c
    omega
theorem zaft {t : Bool} {d p : Nat} {L : ST} {j m k : Nat} (h0 : gI L 0 = if t then 1 else 0) (h3 : gI L 3 = nI d) (h4 : gI L 4 = nI p) (hd : d ≤ 99) (hp : p ≤ 99)
    (hj : j ≤ 6) (h1 : 1 ≤ k) (h2 : k < m) (hm : m ≤ 61) (b w : Nat) (eb : 0 < j → gG L 1 (j - 1) k = nI (cN b)) (ew : 0 < j → gG L 1 j (m - k) = nI (cN w)) (sb : b < zF → b ≤ 20000) (sw : w < zF → w ≤ 20000)
    {Q : Int32 → ST → Prop} (hq : Q (nI (cN (if j = 0 then zF else gl t d p m b w))) L) : wp_X2_after (nI j) (nI m) (nI k) L Q := by
  have hz := zF_e
  unfold wp_X2_after wp_X2_after_p22 wp_X2_after_p63 wp_X2_after_p100
  refine zTh hj (by omega) hm ⟨fun c => absurd c (by decide), fun _ => ⟨fun c => ?_, fun c => ⟨fun c => ?_, fun _ => ⟨fun _ => ?_, fun c => absurd ((nI_ltI (by omega) (by omega)).mpr h2) c⟩⟩⟩⟩
  · have : j = 0 := (nI_eq (b := 0) (by omega) (by decide)).mp c
    rw [if_pos this] at hq
    exact hq
  · have := (nI_ltI (a := k) (b := 1) (by omega) (by decide)).mp c
    omega
  have hj0 : j ≠ 0 := fun e => c (by rw [e]; rfl)
  rw [if_neg hj0] at hq
  have eb := eb (by omega)
  have ew := ew (by omega)
  obtain ⟨j', rfl⟩ : ∃ j', j = j' + 1 := ⟨j - 1, by omega⟩
  rw [Nat.add_sub_cancel] at eb
  rw [nI_pred]
  rintro _ rfl
  refine ⟨nI_in (by omega) (by decide), nI_in (by omega) (by decide), ?_⟩
  rintro _ rfl
  refine ⟨nI_in (by omega) (by decide), ?_⟩
  rw [nI_sub (by omega)]
  rintro _ rfl
  refine ⟨nI_in (by omega) (by decide), ?_⟩
  rintro _ rfl
  rw [nI_clamp (n := j') (by omega), nI_clamp (n := k) (by omega), nI_clamp (n := j' + 1) (by omega), nI_clamp (n := m - k) (by omega), eb, ew]
  have bb := cN_b b
  have bw := cN_b w
  have lb := cN_lt b
  have lw := cN_lt w
  unfold gl at hq
  refine ⟨fun c1 => ?_, fun c1 => ⟨fun c2 => ?_, fun c2 => ?_⟩⟩
  · have := (nI_leI (a := 268435456) (by decide) bb).mp c1
    rw [if_neg (by omega)] at hq
    exact hq
  · have hb : b < zF := by
      have := mt (nI_leI (a := 268435456) (by decide) bb).mpr c1
      omega
    have hw : w < zF := by
      have := (nI_ltI (b := 268435456) bw (by decide)).mp c2
      omega
    have sb := sb hb
    have sw := sw hw
    rw [if_pos ⟨hb, hw⟩] at hq
    rw [cN_f hb, cN_f hw, h0, h3, h4]
    cases t with
    | true =>
      refine ⟨fun c3 => absurd c3 (by decide), fun _ => ?_⟩
      rw [nI_add]
      rintro _ rfl
      rw [nI_add]
      rintro _ rfl
      rw [if_pos rfl, cN_f (by omega)] at hq
      exact hq
    | false =>
      refine ⟨fun _ => ?_, fun c3 => absurd rfl c3⟩
      rw [nI_add]
      rintro _ rfl
      rw [zmaxI (by omega) (by omega)]
      rintro _ rfl
      rw [nI_add]
      rintro _ rfl
      rw [if_neg (by decide), cN_f (by split <;> omega)] at hq
      exact hq
  · have := mt (nI_ltI (b := 268435456) bw (by decide)).mpr c2
    rw [if_neg (by omega)] at hq
    exact hq
theorem lT_20k {t : Bool} {d p : Nat} (hd : d ≤ 99) (hp : p ≤ 99) {j m : Nat} (h1 : 1 ≤ m) (h2 : m ≤ 61) (h : lT (gl t d p) j m < zF) : lT (gl t d p) j m ≤ 20000 := by
  have := lT_small hd hp m m (Nat.le_refl _) j h1 h2 h
  cases t with
  | true =>
    rw [if_pos rfl] at this
    have := Nat.mul_le_mul h2 h2
    omega
  | false =>
    rw [if_neg (by decide)] at this
    omega
theorem zfillL {t : Bool} {d p : Nat} {L : ST} {j m : Nat} (h0 : gI L 0 = if t then 1 else 0) (h3 : gI L 3 = nI d) (h4 : gI L 4 = nI p) (hd : d ≤ 99) (hp : p ≤ 99)
    (hj : j ≤ 6) (h1 : 1 ≤ m) (hm : m ≤ 61) (hT : ∀ j' m' : Nat, (j' < j ∨ j' = j ∧ m' < m) → j' ≤ 6 → 1 ≤ m' → m' ≤ 61 → gG L 1 j' m' = nI (cN (lT (gl t d p) j' m')))
    {Q : ST → Prop} (hq : Q (sG (sG L 1 (mu (gG L 1) j (upd (gG L 1 j) m (nI (cN (lT (gl t d p) j m)))))) 2 (mu (gG L 2) j (upd (gG L 2 j) m (nI (lB (gl t d p) j m).2))))) :
    wp_X2_fill_p18 (nI j) (nI m) (nI (cN (if m = 1 then 0 else zF))) 0 1 L Q := by
  have hz := zF_e
  unfold wp_X2_fill_p18
  refine ⟨fun x1 x2 x3 x4 x5 u => x1 = nI j ∧ x2 = nI m ∧ u = L ∧ ∃ n : Nat, n + 1 ≤ m ∧ x5 = nI (n + 1) ∧ x3 = nI (cN (bst (if m = 1 then 0 else zF) (lf (gl t d p) j m) n).1) ∧ x4 = nI (bst (if m = 1 then 0 else zF) (lf (gl t d p) j m) n).2, fun _ _ _ _ x5 _ => 62 - x5.toNatClampNeg, ⟨rfl, rfl, rfl, 0, h1, rfl, rfl, rfl⟩, ?_⟩
  rintro _ _ _ _ _ _ ⟨rfl, rfl, rfl, n, hn, rfl, rfl, rfl⟩
  unfold wp_X2_fill_p18b wp_X2_fill_p47
  refine ⟨fun c => ?_, fun c => ?_⟩
  · have : n + 1 = m := by
      have := (nI_leI (by omega) (by omega)).mp c
      omega
    refine ⟨nI_in (by omega) (by decide), nI_in (by omega) (by decide), ?_⟩
    rintro _ rfl
    refine ⟨nI_in (by omega) (by decide), nI_in (by omega) (by decide), ?_⟩
    rintro _ rfl
    simp only [gI_sI, gI_sI', gI_sA, gI_sJ, gI_sG, gA_sA, gA_sA', gA_sI, gA_sJ, gA_sG, gJ_sJ, gJ_sJ', gJ_sI, gJ_sA, gJ_sG, gG_sG, gG_sG', gG_sI, gG_sA, gG_sJ, ne_eq, Nat.reduceEqDiff, Nat.succ_ne_zero, Nat.zero_ne_one, not_false_eq_true, reduceCtorEq]
    rw [nI_clamp (n := j) (by omega), nI_clamp (n := m) (by omega)]
    have e1 : bst (if m = 1 then 0 else zF) (lf (gl t d p) j m) n = lB (gl t d p) j m := by
      unfold lB
      rw [show m - 1 = n by omega]
    rw [e1, ← lT_eq _ j h1 hm]
    exact hq
  · have hlt : n + 1 < m := by
      have := mt (nI_leI (a := m) (b := n + 1) (by omega) (by omega)).mpr c
      omega
    have hle : (bst (if m = 1 then 0 else zF) (lf (gl t d p) j m) n).1 ≤ zF := by
      have := bst_le (if m = 1 then 0 else zF) (lf (gl t d p) j m) n
      rw [if_neg (by omega)] at this ⊢
      exact this
    have hi := bst_i (if m = 1 then 0 else zF) (lf (gl t d p) j m) n
    have hmu : 62 - (nI (n + 1 + 1)).toNatClampNeg < 62 - (nI (n + 1)).toNatClampNeg := by
      rw [nI_clamp (by omega), nI_clamp (by omega)]
      omega
    refine zaft h0 h3 h4 hd hp hj (by omega) hlt hm (lT (gl t d p) (j - 1) (n + 1)) (lT (gl t d p) j (m - (n + 1))) (fun q => hT _ _ (.inl (by omega)) (by omega) (by omega) (by omega)) (fun _ => hT _ _ (.inr ⟨rfl, by omega⟩) (by omega) (by omega) (by omega)) (lT_20k hd hp (by omega) (by omega)) (lT_20k hd hp (by omega) (by omega)) ?_
    have hf : (if j = 0 then zF else gl t d p m (lT (gl t d p) (j - 1) (n + 1)) (lT (gl t d p) j (m - (n + 1)))) = lf (gl t d p) j m (n + 1) := rfl
    rw [hf]
    have hc := cN_cmp (b := lf (gl t d p) j m (n + 1)) hle
    have hl := nI_leI (cN_b (bst (if m = 1 then 0 else zF) (lf (gl t d p) j m) n).1) (cN_b (lf (gl t d p) j m (n + 1)))
    rw [hl, hc]
    refine ⟨fun c => ?_, fun c => ?_⟩
    · rintro _ rfl
      rw [nI_1]
      exact ⟨⟨rfl, rfl, rfl, n + 1, by omega, rfl, by rw [bst_n c], by rw [bst_n c]⟩, hmu⟩
    · have c := Decidable.not_not.mp c
      rintro _ rfl
      rw [nI_1]
      exact ⟨⟨rfl, rfl, rfl, n + 1, by omega, rfl, by rw [bst_y c], by rw [bst_y c]⟩, hmu⟩
def LDc (t : Bool) (d p : Nat) (L : ST) (j m : Nat) : Prop := gG L 1 j m = nI (cN (lT (gl t d p) j m)) ∧ gG L 2 j m = nI (lB (gl t d p) j m).2
def LD0 (t : Bool) (d p : Nat) (L : ST) : Prop := gI L 0 = (if t then 1 else 0) ∧ gI L 3 = nI d ∧ gI L 4 = nI p
/-- filled -/
def LD (t : Bool) (d p : Nat) (L : ST) : Prop := LD0 t d p L ∧ ∀ j m : Nat, j ≤ 6 → 1 ≤ m → m ≤ 61 → LDc t d p L j m
/-- fresh, or filled -/
def RLd (t : Bool) (L : ST) : Prop := gI L 0 = (if t then 1 else 0) ∧ (gI L 3 = -1 ∨ ∃ d p : Nat, d ≤ 99 ∧ p ≤ 99 ∧ LD t d p L)
def LDi (t : Bool) (d p : Nat) (j m : Nat) (L : ST) : Prop := LD0 t d p L ∧ ∀ j' m' : Nat, (j' < j ∨ j' = j ∧ m' < m) → j' ≤ 6 → 1 ≤ m' → m' ≤ 61 → LDc t d p L j' m'
theorem LDi_s {t : Bool} {d p j m : Nat} {L : ST} (h : LDi t d p j m L) : LDi t d p j (m + 1) (sG (sG L 1 (mu (gG L 1) j (upd (gG L 1 j) m (nI (cN (lT (gl t d p) j m)))))) 2 (mu (gG L 2) j (upd (gG L 2 j) m (nI (lB (gl t d p) j m).2)))) := by
  refine ⟨h.1, fun j' m' h1 h2 h3 h4 => ?_⟩
  unfold LDc
  simp only [gI_sI, gI_sI', gI_sA, gI_sJ, gI_sG, gA_sA, gA_sA', gA_sI, gA_sJ, gA_sG, gJ_sJ, gJ_sJ', gJ_sI, gJ_sA, gJ_sG, gG_sG, gG_sG', gG_sI, gG_sA, gG_sJ, ne_eq, Nat.reduceEqDiff, Nat.succ_ne_zero, Nat.zero_ne_one, not_false_eq_true, reduceCtorEq]
  by_cases cj : j' = j
  · subst cj
    rw [mu_at, mu_at]
    by_cases cm : m' = m
    · subst cm
      rw [pk_us, pk_us]
      exact ⟨rfl, rfl⟩
    · rw [pk_un cm, pk_un cm]
      exact h.2 _ _ (.inr ⟨rfl, by omega⟩) h2 h3 h4
  · rw [mu_ne _ _ cj, mu_ne _ _ cj]
    exact h.2 _ _ (.inl (by omega)) h2 h3 h4
theorem zprepR {t : Bool} {d p : Nat} (hd : d ≤ 99) (hp : p ≤ 99) {L : ST} (h0 : gI L 0 = (if t then 1 else 0)) {Q : ST → Prop} (hq : ∀ L' : ST, LD t d p L' → Q L') : wp_X2_prepare_p17 (nI d) (nI p) L Q := by
  unfold wp_X2_prepare_p17 wp_X2_prepare_p29
  rintro _ rfl _ rfl
  refine ⟨fun x3 u => ∃ j : Nat, j ≤ 7 ∧ x3 = nI j ∧ LDi t d p j 1 u, fun x3 _ => 7 - x3.toNatClampNeg, ⟨0, by omega, rfl, ⟨h0, rfl, rfl⟩, fun _ _ h _ h1 _ => by omega⟩, ?_⟩
  rintro _ u ⟨j, hj, rfl, hi⟩
  unfold wp_X2_prepare_p29b
  refine ⟨fun c => ?_, fun c => ?_⟩
  · have := (nI_ltI (a := 6) (by decide) (by omega)).mp c
    exact hq u ⟨hi.1, fun j' m' h1 h2 h3 => hi.2 _ _ (.inl (by omega)) h1 h2 h3⟩
  have hj6 : j ≤ 6 := by
    have := mt (nI_ltI (a := 6) (b := j) (by decide) (by omega)).mpr c
    omega
  unfold wp_X2_prepare_p38
  refine ⟨fun x3 x4 u => x3 = nI j ∧ ∃ m : Nat, 1 ≤ m ∧ m ≤ 62 ∧ x4 = nI m ∧ LDi t d p j m u, fun _ x4 _ => 62 - x4.toNatClampNeg, ⟨rfl, 1, by omega, by omega, rfl, hi⟩, ?_⟩
  rintro _ _ v ⟨rfl, m, h1, h2, rfl, hv⟩
  unfold wp_X2_prepare_p38b
  refine ⟨fun c => ?_, fun c => ?_⟩
  · have := (nI_ltI (a := 61) (by decide) (by omega)).mp c
    rintro _ rfl
    rw [nI_1]
    refine ⟨⟨j + 1, by omega, rfl, hv.1, fun j' m' q q1 q2 q3 => ?_⟩, ?_⟩
    · exact hv.2 _ _ (by omega) q1 q2 q3
    · show 7 - (nI (j + 1)).toNatClampNeg < 7 - (nI j).toNatClampNeg
      rw [nI_clamp (by omega), nI_clamp (by omega)]
      omega
  · have hm : m ≤ 61 := by
      have := mt (nI_ltI (a := 61) (b := m) (by decide) (by omega)).mpr c
      omega
    have key : wp_X2_fill_p18 (nI j) (nI m) (nI (cN (if m = 1 then 0 else zF))) 0 1 v (fun u49 => (∀ y52 : Int32, y52 = nI m + 1 → (nI j = nI j ∧ ∃ m : Nat, 1 ≤ m ∧ m ≤ 62 ∧ y52 = nI m ∧ LDi t d p j m u49) ∧ 62 - y52.toNatClampNeg < 62 - (nI m).toNatClampNeg)) := by
      refine zfillL hv.1.1 hv.1.2.1 hv.1.2.2 hd hp hj6 h1 hm (fun j' m' q q1 q2 q3 => (hv.2 _ _ q q1 q2 q3).1) ?_
      rintro _ rfl
      rw [nI_1]
      refine ⟨⟨rfl, m + 1, by omega, by omega, rfl, LDi_s hv⟩, ?_⟩
      rw [nI_clamp (by omega), nI_clamp (by omega)]
      omega
    unfold wp_X2_fill wp_X2_fill_p11
    refine ⟨fun c1 => ?_, fun c1 => ?_⟩
    · have : m ≠ 1 := fun e => c1 (by rw [e]; rfl)
      rw [if_neg this] at key
      exact key
    · have : m = 1 := (nI_eq (b := 1) (by omega) (by decide)).mp c1
      rw [if_pos this] at key
      exact key
theorem zprepL {t : Bool} {d p : Nat} (hd : d ≤ 99) (hp : p ≤ 99) {L : ST} (hL : RLd t L) {Q : ST → Prop} (hq : ∀ L' : ST, LD t d p L' → Q L') : wp_X2_prepare (nI d) (nI p) L Q := by
  unfold wp_X2_prepare
  refine ⟨fun _ => zprepR hd hp hL.1 hq, fun c => ⟨fun _ => zprepR hd hp hL.1 hq, fun c2 => ?_⟩⟩
  rcases hL.2 with e | ⟨d', p', hd', hp', h⟩
  · exact absurd (c.trans e) (nI_nm1 (by omega))
  · have e1 : d = d' := (nI_eq (by omega) (by omega)).mp (c.trans h.1.2.1)
    have e2 : p = p' := (nI_eq (by omega) (by omega)).mp (c2.trans h.1.2.2)
    subst e1 e2
    exact hq L h
theorem RLd_of {t : Bool} {d p : Nat} (hd : d ≤ 99) (hp : p ≤ 99) {L : ST} (h : LD t d p L) : RLd t L := ⟨h.1.1, .inr ⟨d, p, hd, hp, h⟩⟩
theorem zcostL {t : Bool} {d p j m : Nat} {L : ST} (h : LD t d p L) (hj : j ≤ 6) (h1 : 1 ≤ m) (h2 : m ≤ 61) {Q : Int32 → ST → Prop} (hq : Q (nI (cN (lT (gl t d p) j m))) L) : wp_X2_cost (nI j) (nI m) L Q := by
  unfold wp_X2_cost wp_X2_cost_p21
  refine zTh hj h1 h2 ⟨fun c => absurd c (by decide), fun _ => ⟨nI_in (by omega) (by decide), nI_in (by omega) (by decide), ?_⟩⟩
  rintro _ rfl
  rw [nI_clamp (by omega), nI_clamp (by omega), (h.2 j m hj h1 h2).1]
  exact hq
theorem zfirstL {t : Bool} {d p j m : Nat} {L : ST} (h : LD t d p L) (hj : j ≤ 6) (h1 : 1 ≤ m) (h2 : m ≤ 61) {Q : Int32 → ST → Prop} (hq : Q (nI (lB (gl t d p) j m).2) L) : wp_X2_first (nI j) (nI m) L Q := by
  unfold wp_X2_first wp_X2_first_p20
  refine zTh hj h1 h2 ⟨fun c => absurd c (by decide), fun _ => ⟨nI_in (by omega) (by decide), nI_in (by omega) (by decide), ?_⟩⟩
  rintro _ rfl
  rw [nI_clamp (by omega), nI_clamp (by omega), (h.2 j m hj h1 h2).2]
  exact hq

/-! price: laid by mk91.py -/
def WTP (d p : Nat) (V : ST) : Prop := ∀ j m : Nat, j ≤ 6 → 1 ≤ m → m ≤ 61 → gA V 34 (7 * m + j) = nI (lT (gl false d p) j m) ∧ gA V 35 (7 * m + j) = nF (lB (gl false d p) j m).2
def WIP (d p : Nat) (m j : Nat) (V u : ST) : Prop := Ag [34, 35] u V ∧ ∀ j' m' : Nat, (m' < m ∨ m' = m ∧ j' < j) → j' ≤ 6 → 1 ≤ m' → m' ≤ 61 → gA u 34 (7 * m' + j') = nI (lT (gl false d p) j' m') ∧ gA u 35 (7 * m' + j') = nF (lB (gl false d p) j' m').2
theorem zputP {d p m j : Nat} (hd : d ≤ 99) (hp : p ≤ 99) {V u : ST} (h : WIP d p m j V u) (hj : j ≤ 6) (h1 : 1 ≤ m) (h2 : m ≤ 61) {B1 : Int32 → ST → Prop} {B2 : Int32 → Int32 → ST → Prop} {Q : ST → Prop}
    (hb : ∀ u' : ST, WIP d p m (j + 1) V u' → B2 (nI m) (nI (j + 1)) u') : wp_X12_findPrices_p110 (nI m) (nI j) (nI (lB (gl false d p) j m).1) (nF (lB (gl false d p) j m).2) u B1 B2 Q := by
  unfold wp_X12_findPrices_p110
  rw [show (7 : Int32) * nI m = nI (7 * m) from pk_mul 7 m]
  rintro _ rfl
  rw [nI_add]
  rintro _ rfl
  refine ⟨nI_in (by omega) (by decide), ?_⟩
  rintro _ rfl _ rfl
  rw [nI_add]
  rintro _ rfl
  refine ⟨nI_in (by omega) (by decide), ?_⟩
  rintro _ rfl
  simp only [gI_sI, gI_sI', gI_sA, gI_sJ, gI_sG, gA_sA, gA_sA', gA_sI, gA_sJ, gA_sG, gJ_sJ, gJ_sJ', gJ_sI, gJ_sA, gJ_sG, gG_sG, gG_sG', gG_sI, gG_sA, gG_sJ, ne_eq, Nat.reduceEqDiff, Nat.succ_ne_zero, Nat.zero_ne_one, not_false_eq_true, reduceCtorEq]
  rw [nI_1, nI_clamp (by omega)]
  rintro _ rfl
  refine hb _ ⟨Ag_sA (Ag_sA h.1 (by decide) _) (by decide) _, fun j' m' q q1 q2 q3 => ?_⟩
  simp only [gI_sI, gI_sI', gI_sA, gI_sJ, gI_sG, gA_sA, gA_sA', gA_sI, gA_sJ, gA_sG, gJ_sJ, gJ_sJ', gJ_sI, gJ_sA, gJ_sG, gG_sG, gG_sG', gG_sI, gG_sA, gG_sJ, ne_eq, Nat.reduceEqDiff, Nat.succ_ne_zero, Nat.zero_ne_one, not_false_eq_true, reduceCtorEq]
  by_cases c : 7 * m' + j' = 7 * m + j
  · have e1 : m' = m := by omega
    have e2 : j' = j := by omega
    subst e1 e2
    rw [pk_us, pk_us, ← lT_eq _ _ q2 q3]
    exact ⟨rfl, rfl⟩
  · rw [pk_un c, pk_un c]
    exact h.2 _ _ (by omega) q1 q2 q3
theorem zrowP {d p m j : Nat} (hd : d ≤ 99) (hp : p ≤ 99) {V u : ST} (h : WIP d p m j V u) (h3 : gI u 3 = nI d) (h4 : gI u 4 = nI p) (hj : j ≤ 6) (h1 : 1 ≤ m) (h2 : m ≤ 61) {B1 : Int32 → ST → Prop} {B2 : Int32 → Int32 → ST → Prop} {Q : ST → Prop}
    (hb : ∀ u' : ST, WIP d p m (j + 1) V u' → B2 (nI m) (nI (j + 1)) u') : wp_X12_findPrices_p35 (nI m) (nI j) (nI (if m = 1 then 0 else zF)) (-2) 1 u B1 B2 Q := by
  have hz := zF_e
  unfold wp_X12_findPrices_p35
  refine ⟨fun x1 x2 x3 x4 x5 v => x1 = nI m ∧ x2 = nI j ∧ v = u ∧ ∃ n : Nat, n + 1 ≤ m ∧ x5 = nI (n + 1) ∧ x3 = nI (bst (if m = 1 then 0 else zF) (lf (gl false d p) j m) n).1 ∧ x4 = nF (bst (if m = 1 then 0 else zF) (lf (gl false d p) j m) n).2, fun _ _ _ _ x5 _ => 62 - x5.toNatClampNeg, ⟨rfl, rfl, rfl, 0, h1, rfl, rfl, rfl⟩, ?_⟩
  rintro _ _ _ _ _ _ ⟨rfl, rfl, rfl, n, hn, rfl, rfl, rfl⟩
  unfold wp_X12_findPrices_p35b
  refine ⟨fun c => ?_, fun c => ?_⟩
  · have : n + 1 = m := by
      have := (nI_leI (by omega) (by omega)).mp c
      omega
    have e1 : bst (if m = 1 then 0 else zF) (lf (gl false d p) j m) n = lB (gl false d p) j m := by
      unfold lB
      rw [show m - 1 = n by omega]
    rw [e1]
    exact zputP hd hp h hj h1 h2 hb
  have hlt : n + 1 < m := by
    have := mt (nI_leI (a := m) (b := n + 1) (by omega) (by omega)).mpr c
    omega
  refine ⟨fun c2 => ?_, fun c2 => ?_⟩
  · have hj0 : j = 0 := by
      have := (nI_leI (a := j) (b := 0) (by omega) (by decide)).mp c2
      omega
    subst hj0
    have e1 : bst (if m = 1 then 0 else zF) (lf (gl false d p) 0 m) n = lB (gl false d p) 0 m := by
      rw [lB_0, bst_stop (n := 0) (m := n) (by omega) (fun k _ _ => ?_)]
      · rfl
      · show (if m = 1 then 0 else zF) ≤ zF
        split <;> omega
    rw [e1]
    exact zputP hd hp h hj h1 h2 hb
  have hj0 : 0 < j := by
    have := mt (nI_leI (a := j) (b := 0) (by omega) (by decide)).mpr c2
    omega
  have hle : (bst (if m = 1 then 0 else zF) (lf (gl false d p) j m) n).1 ≤ zF := by
    have := bst_le (if m = 1 then 0 else zF) (lf (gl false d p) j m) n
    rw [if_neg (by omega)] at this ⊢
    exact this
  have hmu : 62 - (nI (n + 1 + 1)).toNatClampNeg < 62 - (nI (n + 1)).toNatClampNeg := by
    rw [nI_clamp (by omega), nI_clamp (by omega)]
    omega
  have q1 := (h.2 (j - 1) (n + 1) (.inl hlt) (by omega) (by omega) (by omega)).1
  have q2 := (h.2 j (m - (n + 1)) (.inl (by omega)) (by omega) (by omega) (by omega)).1
  have l1 := lT_le (gl false d p) (j - 1) (m := n + 1) (by omega) (by omega)
  have l2 := lT_le (gl false d p) j (m := m - (n + 1)) (by omega) (by omega)
  rw [show (7 : Int32) * nI (n + 1) = nI (7 * (n + 1)) from pk_mul 7 _]
  rintro _ rfl
  rw [nI_add]
  rintro _ rfl
  rw [show nI (7 * (n + 1) + j) - (1 : Int32) = nI (7 * (n + 1) + j - 1) from nI_sub (b := 1) (by omega)]
  rintro _ rfl
  refine ⟨nI_in (by omega) (by decide), ?_⟩
  rw [nI_clamp (by omega), show 7 * (n + 1) + j - 1 = 7 * (n + 1) + (j - 1) by omega, q1]
  rintro _ rfl
  rw [h4, nI_add]
  rintro _ rfl
  rw [nI_sub (by omega)]
  rintro _ rfl
  rw [show (7 : Int32) * nI (m - (n + 1)) = nI (7 * (m - (n + 1))) from pk_mul 7 _]
  rintro _ rfl
  rw [nI_add]
  rintro _ rfl
  refine ⟨nI_in (by omega) (by decide), ?_⟩
  rw [nI_clamp (by omega), q2]
  rintro _ rfl
  refine zgreater (by omega) (by omega) ?_
  rw [h3, nI_add]
  rintro _ rfl
  have hr := gl_ref (d := d) (p := p) (m := m) (b := lT (gl false d p) (j - 1) (n + 1)) (w := lT (gl false d p) j (m - (n + 1))) hle
  have hf : lf (gl false d p) j m (n + 1) = gl false d p m (lT (gl false d p) (j - 1) (n + 1)) (lT (gl false d p) j (m - (n + 1))) := if_neg (by omega)
  rw [← hf] at hr
  have hb2 : (d + if p + lT (gl false d p) (j - 1) (n + 1) ≤ lT (gl false d p) j (m - (n + 1)) then lT (gl false d p) j (m - (n + 1)) else p + lT (gl false d p) (j - 1) (n + 1)) < 2 ^ 31 := by split <;> omega
  rw [nI_ltI hb2 (by omega), hr.1]
  unfold wp_X12_findPrices_p104
  refine ⟨fun c3 => ?_, fun c3 => ?_⟩
  · rintro _ rfl
    rw [nI_1]
    refine ⟨⟨rfl, rfl, rfl, n + 1, by omega, rfl, ?_, ?_⟩, hmu⟩
    · rw [bst_y c3, hr.2 (hr.1.mpr c3)]
    · rw [bst_y c3]
      exact (nF_p (by omega)).symm
  · rintro _ rfl
    rw [nI_1]
    exact ⟨⟨rfl, rfl, rfl, n + 1, by omega, rfl, by rw [bst_n c3], by rw [bst_n c3]⟩, hmu⟩
theorem zfindRP {d p : Nat} (hd : d ≤ 99) (hp : p ≤ 99) {V u0 : ST} (e3 : gI V 3 = nI d) (e4 : gI V 4 = nI p) (h0 : WIP d p 1 0 V u0) {Q : ST → Prop} (hq : ∀ V' : ST, WIP d p 62 0 V V' → Q V') : wp_X12_findPrices_p2 1 u0 Q := by
  have hz := zF_e
  unfold wp_X12_findPrices_p2
  refine ⟨fun x1 u => ∃ m : Nat, 1 ≤ m ∧ m ≤ 62 ∧ x1 = nI m ∧ WIP d p m 0 V u, fun x1 _ => 62 - x1.toNatClampNeg, ⟨1, by omega, by omega, rfl, h0⟩, ?_⟩
  rintro _ u ⟨m, h1, h2, rfl, hi⟩
  unfold wp_X12_findPrices_p2b
  refine ⟨fun c => ?_, fun c => ?_⟩
  · have := (nI_ltI (a := 61) (by decide) (by omega)).mp c
    have : m = 62 := by omega
    subst this
    exact hq u hi
  have hm : m ≤ 61 := by
    have := mt (nI_ltI (a := 61) (b := m) (by decide) (by omega)).mpr c
    omega
  unfold wp_X12_findPrices_p10
  refine ⟨fun x1 x2 v => x1 = nI m ∧ ∃ j : Nat, j ≤ 7 ∧ x2 = nI j ∧ WIP d p m j V v, fun _ x2 _ => 7 - x2.toNatClampNeg, ⟨rfl, 0, by omega, rfl, hi⟩, ?_⟩
  rintro _ _ v ⟨rfl, j, hj, rfl, hv⟩
  unfold wp_X12_findPrices_p10b wp_X12_findPrices_p27
  refine ⟨fun c => ?_, fun c => ?_⟩
  · have := (nI_ltI (a := 6) (by decide) (by omega)).mp c
    rintro _ rfl
    rw [nI_1]
    refine ⟨⟨m + 1, by omega, by omega, rfl, hv.1, fun j' m' q q1 q2 q3 => hv.2 _ _ (by omega) q1 q2 q3⟩, ?_⟩
    show 62 - (nI (m + 1)).toNatClampNeg < 62 - (nI m).toNatClampNeg
    rw [nI_clamp (by omega), nI_clamp (by omega)]
    omega
  · have hj6 : j ≤ 6 := by
      have := mt (nI_ltI (a := 6) (b := j) (by decide) (by omega)).mpr c
      omega
    have key := zrowP hd hp hv ((Ag_I hv.1 3 (by decide)).trans e3) ((Ag_I hv.1 4 (by decide)).trans e4) hj6 h1 hm (B1 := fun yx1 yu => (∃ m : Nat, 1 ≤ m ∧ m ≤ 62 ∧ yx1 = nI m ∧ WIP d p m 0 V yu) ∧ 62 - yx1.toNatClampNeg < 62 - (nI m).toNatClampNeg) (B2 := fun yx1 yx2 yu => (yx1 = nI m ∧ ∃ j : Nat, j ≤ 7 ∧ yx2 = nI j ∧ WIP d p m j V yu) ∧ 7 - yx2.toNatClampNeg < 7 - (nI j).toNatClampNeg) (Q := Q) (fun u' hu' => ?_)
    · refine ⟨fun c1 => ?_, fun c1 => ?_⟩
      · have : m ≠ 1 := fun e => c1 (by rw [e]; rfl)
        rw [if_neg this] at key
        exact key
      · have : m = 1 := (nI_eq (b := 1) (by omega) (by decide)).mp c1
        rw [if_pos this] at key
        exact key
    · refine ⟨⟨rfl, j + 1, by omega, rfl, hu'⟩, ?_⟩
      rw [nI_clamp (by omega), nI_clamp (by omega)]
      omega

theorem zladP {d p : Nat} {U : CS} (hL : LD false d p (U 4)) {m j : Nat} (hj : j ≤ 6) (h1 : 1 ≤ m) (h2 : m ≤ 61) {a2 : Int32} (ha : a2 = 0 ∨ a2 = 1) {Q : Int32 → CS → Prop}
    (hq : Q (if lT (gl false d p) j m < zF then (if a2 = 0 then nI (lT (gl false d p) j m) else nF (lB (gl false d p) j m).2) else -2) U) : wp_X11_laddered_4 (nI (10 * m + j)) a2 U Q := by
  have hz := zF_e
  unfold wp_X11_laddered_4 wp_X11_laddered_4_p43 wp_X11_laddered_4_p73 wp_X11_laddered_4_p76 wp_X11_laddered_4_p93
  refine ⟨by decide, ?_⟩
  rw [show nI (10 * m + j) / (10 : Int32) = nI ((10 * m + j) / 10) from pk_div (by omega) (by decide) (by decide), show (10 * m + j) / 10 = m by omega]
  rintro _ rfl
  refine ⟨by decide, ?_⟩
  rw [show nI m * (10 : Int32) = nI (m * 10) from pk_mul m 10, nI_sub (by omega), show 10 * m + j - m * 10 = j by omega]
  rintro _ rfl
  refine ⟨fun c => absurd c (nI_pos (by omega)), fun _ => ?_⟩
  refine zWin (lo := 1) (hi := 61) h1 h2 (by decide) ⟨fun c => absurd c (by decide), fun _ => ⟨fun c => ?_, fun _ => ?_⟩⟩
  · have := (nI_ltI (a := 6) (b := j) (by decide) (by omega)).mp c
    omega
  refine zW01 ha ⟨fun _ => ?_, fun c => absurd c (by decide)⟩
  refine zcostL hL hj h1 h2 ?_
  rintro _ rfl
  rw [mu_self]
  have hb := cN_b (lT (gl false d p) j m)
  have hl := cN_lt (lT (gl false d p) j m)
  refine ⟨fun c => ?_, fun c => ?_⟩
  · have := (nI_leI (a := 268435456) (by decide) hb).mp c
    rw [if_neg (by omega)] at hq
    exact hq
  have hf : lT (gl false d p) j m < zF := by
    have := mt (nI_leI (a := 268435456) (by decide) hb).mpr c
    omega
  rw [if_pos hf] at hq
  rw [cN_f hf]
  rcases ha with rfl | rfl
  · rw [if_pos rfl] at hq
    exact ⟨fun _ => ⟨fun c => absurd rfl c, fun _ => hq⟩, fun c => absurd c (by decide)⟩
  · rw [if_neg (by decide)] at hq
    refine ⟨fun c => absurd rfl c, fun _ => ⟨fun c3 => ⟨fun _ => ?_, fun c => absurd c (by decide)⟩, fun c3 => ?_⟩⟩
    · have hm1 : m ≠ 1 := fun e => c3 (by rw [e]; rfl)
      refine zfirstL hL hj h1 h2 ?_
      rintro _ rfl
      rw [mu_self]
      rw [lT_eq _ _ h1 h2] at hf
      unfold lB at hf hq ⊢
      rw [if_neg hm1] at hf hq ⊢
      obtain ⟨-, e⟩ | ⟨i0, -, -⟩ := bst_at zF (lf (gl false d p) j m) (m - 1)
      · omega
      · rw [nF_p i0] at hq
        exact hq
    · have : m = 1 := (nI_eq (b := 1) (by omega) (by decide)).mp c3
      subst this
      exact hq
theorem zladNP {U : CS} {a1 a2 : Int32} (h : (a1 < 0 ∨ ∃ n : Nat, n < 2 ^ 31 ∧ a1 = nI n ∧ (n / 10 < 1 ∨ 61 < n / 10 ∨ 6 < n % 10)) ∨ (a2 < 0 ∨ 1 < a2)) {Q : Int32 → CS → Prop} (hq : Q (-1) U) : wp_X11_laddered_4 a1 a2 U Q := by
  unfold wp_X11_laddered_4 wp_X11_laddered_4_p43
  refine ⟨by decide, ?_⟩
  rintro _ rfl
  refine ⟨by decide, ?_⟩
  rintro _ rfl
  refine ⟨fun _ => hq, fun c => ?_⟩
  obtain ⟨n, hn, rfl⟩ := nI_of c
  rw [show nI n / (10 : Int32) = nI (n / 10) from pk_div hn (by decide) (by decide), show nI (n / 10) * (10 : Int32) = nI (n / 10 * 10) from pk_mul _ 10, nI_sub (by omega), show n - n / 10 * 10 = n % 10 by omega]
  refine zwithin (fun p q => ⟨fun c => absurd c (by decide), fun _ => ⟨fun _ => hq, fun q2 => ?_⟩⟩) (fun _ => ⟨fun _ => hq, fun c => absurd rfl c⟩)
  rcases h with h | h
  · exfalso
    rcases h with h | ⟨n', hn', e, h⟩
    · exact c h
    have := (nI_eq hn hn').mp e
    subst this
    have p := mt (nI_ltI (a := n / 10) (b := 1) (by omega) (by decide)).mpr p
    have q := mt (nI_ltI (a := 61) (b := n / 10) (by decide) (by omega)).mpr q
    have q2 := mt (nI_ltI (a := 6) (b := n % 10) (by decide) (by omega)).mpr q2
    omega
  · exact zWb h ⟨fun c => absurd rfl c, fun _ => hq⟩
theorem zrefP {d p : Nat} {V : ST} {m j : Nat} (hj : j ≤ 6) (h1 : 1 ≤ m) (h2 : m ≤ 61) {a2 : Int32} (ha : a2 = 0 ∨ a2 = 1) {K : Int32 → ST → Prop}
    (hf : ∀ Q : ST → Prop, (∀ V' : ST, Ag [34, 35] V' V → WTP d p V' → Q V') → wp_X12_findPrices V Q)
    (hq : ∀ V' : ST, Ag [34, 35] V' V → WTP d p V' → K (if lT (gl false d p) j m < zF then (if a2 = 0 then nI (lT (gl false d p) j m) else nF (lB (gl false d p) j m).2) else -2) V') : wp_X12_price (nI (10 * m + j)) a2 V K := by
  have hz := zF_e
  have hle := lT_le (gl false d p) j h1 h2
  unfold wp_X12_price wp_X12_price_p16 wp_X12_price_p70
  refine zspY hj h1 h2 ⟨fun c => absurd c (by decide), fun _ => zI01 ha ⟨fun _ => hf _ fun V' hA hW => ⟨by decide, ?_⟩, fun c => absurd c (by decide)⟩⟩
  have hq := hq V' hA hW 
  have w := hW j m hj h1 h2
  rw [show nI (10 * m + j) / (10 : Int32) = nI ((10 * m + j) / 10) from pk_div (by omega) (by decide) (by decide), show (10 * m + j) / 10 = m by omega]
  rintro _ rfl
  rw [show (7 : Int32) * nI m = nI (7 * m) from pk_mul 7 m]
  rintro _ rfl
  refine ⟨by decide, ?_⟩
  rw [show nI m * (10 : Int32) = nI (m * 10) from pk_mul m 10, nI_sub (by omega), show 10 * m + j - m * 10 = j by omega]
  rintro _ rfl
  rw [nI_add]
  rintro _ rfl
  have hin : vp_in (nI (7 * m + j)) 434 := nI_in (by omega) (by decide)
  refine ⟨hin, ?_⟩
  rw [nI_clamp (by omega), w.1, w.2]
  rintro _ rfl
  refine ⟨fun c => ?_, fun c => ?_⟩
  · have := (nI_ltI (b := 1000000) (by omega) (by decide)).mp c
    rw [if_pos (by omega)] at hq
    refine ⟨fun c2 => ⟨hin, ?_⟩, fun c2 => ⟨hin, ?_⟩⟩
    · rintro _ rfl
      rw [if_neg c2] at hq
      exact hq
    · rintro _ rfl
      rw [if_pos c2] at hq
      exact hq
  · have := mt (nI_ltI (a := lT (gl false d p) j m) (b := 1000000) (by omega) (by decide)).mpr c
    rw [if_neg (by omega)] at hq
    exact hq
theorem zrefNP {V : ST} {a1 a2 : Int32} (h : (a1 < 0 ∨ ∃ n : Nat, n < 2 ^ 31 ∧ a1 = nI n ∧ (n / 10 < 1 ∨ 61 < n / 10 ∨ 6 < n % 10)) ∨ (a2 < 0 ∨ 1 < a2)) {K : Int32 → ST → Prop} (hq : K (-1) V) : wp_X12_price a1 a2 V K := by
  unfold wp_X12_price wp_X12_price_p16
  rcases mj_or a1 with ⟨m, j, rfl, hj, h1, h2⟩ | hb
  · refine zspY hj h1 h2 ⟨fun c => absurd c (by decide), fun _ => ?_⟩
    rcases h with h | h
    · exfalso
      rcases h with h | ⟨n, hn, e, h⟩
      · exact nI_pos (by omega) h
      · have := (nI_eq (by omega) hn).mp e
        omega
    · exact zIb h ⟨fun c => absurd rfl c, fun _ => hq⟩
  · exact zspN hb ⟨fun _ => hq, fun c => absurd rfl c⟩

theorem zfindP {d p : Nat} (hd : d ≤ 99) (hp : p ≤ 99) {V : ST} (e3 : gI V 3 = nI d) (e4 : gI V 4 = nI p) {Q : ST → Prop} (hq : ∀ V' : ST, Ag [34, 35] V' V → WTP d p V' → Q V') : wp_X12_findPrices V Q := by
  unfold wp_X12_findPrices
  exact zfindRP (V := V) hd hp e3 e4 ⟨Ag_r _ _, fun _ _ q _ q1 _ => by omega⟩ fun V' hV' => hq V' hV'.1 (fun j m q1 q2 q3 => hV'.2 _ _ (.inl (by omega)) q1 q2 q3)
theorem zprice {U : CS} {V : ST} (hT : RT (U 1) V) (hL : RLd false (U 4)) (a1 a2 : Int32) : Sim (wp_X11_price a1 a2 U) (wp_X12_price a1 a2 V) (fun U' V' => RLd false (U' 4) ∧ AgU [4] U' U ∧ Ag [34, 35] V' V) := by
  intro Q h
  obtain ⟨n, j0, d, p, n1, n2, hj0, hd, hp, v1, v2, v3, v4, t1, t2, t3, t4⟩ := RT_vals hT
  unfold wp_X11_price
  refine zvalT (w := 2) (by decide) ?_
  rintro _ rfl
  rw [mu_self]
  refine zvalT (w := 3) (by decide) ?_
  rintro _ rfl
  rw [mu_self, t3, t4]
  refine zprepL hd hp hL fun L' hL' => ?_
  rintro _ rfl
  have hU : LD false d p (mu U 4 L' 4) := hL'
  have hR : RLd false (mu U 4 L' 4) := RLd_of hd hp hL'
  have hA : AgU [4] (mu U 4 L') U := AgU_mu (AgU_r _ _) (by decide) _
  rcases mj_or a1 with ⟨m, j, rfl, hj, h1, h2⟩ | hb
  · rcases what_or a2 with ha | hb
    · exact zladP hU hj h1 h2 ha (h _ _ fun K hK => zrefP hj h1 h2 ha (fun _ hq => zfindP hd hp v3 v4 hq) fun V' q1 q2 => hK V' ⟨hR, hA, q1⟩)
    · exact zladNP (.inr hb) (h _ _ fun K hK => zrefNP (.inr hb) (hK V ⟨hR, hA, Ag_r _ _⟩))
  · exact zladNP (.inl hb) (h _ _ fun K hK => zrefNP (.inl hb) (hK V ⟨hR, hA, Ag_r _ _⟩))

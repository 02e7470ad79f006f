/-! common divisors; spans asked for; a mean of the class -/
theorem nI_remd {a b : Nat} (ha : a < 2 ^ 31) (hb : b < 2 ^ 31) (h0 : 0 < b) : nI a - nI a / nI b * nI b = nI (a % b) := by
  have e := Nat.div_add_mod a b
  rw [pk_div ha h0 hb, pk_mul, Nat.mul_comm (a / b) b, nI_sub (by omega)]
  congr 1
  omega
theorem gcd_s (a b : Nat) : Nat.gcd a b = Nat.gcd b (a % b) := by
  rw [Nat.gcd_comm a b, Nat.gcd_rec b a, Nat.gcd_comm]
theorem zgcdR {a b : Nat} (ha : a < 2 ^ 31) (hb : b < 2 ^ 31) {Q : Int32 → Prop} (hq : Q (nI (Nat.gcd a b))) : wp_X12_common (nI a) (nI b) Q := by
  unfold wp_X12_common wp_X12_common_p4
  refine ⟨fun x2 x3 => ∃ x y : Nat, x < 2 ^ 31 ∧ y < 2 ^ 31 ∧ x2 = nI x ∧ x3 = nI y ∧ Nat.gcd x y = Nat.gcd a b, fun _ x3 => x3.toNatClampNeg, ⟨a, b, ha, hb, rfl, rfl, rfl⟩, ?_⟩
  rintro _ _ ⟨x, y, hx, hy, rfl, rfl, e⟩
  unfold wp_X12_common_p4b
  refine ⟨fun c => ?_, fun c => ⟨c, ?_⟩⟩
  · have : y = 0 := (nI_eq (b := 0) hy (by decide)).mp c
    subst this
    rw [Nat.gcd_zero_right] at e
    rw [e]
    exact hq
  have hy0 : 0 < y := Nat.pos_of_ne_zero fun e0 => c (by rw [e0]; rfl)
  have hl := Nat.mod_lt x hy0
  rw [nI_remd hx hy hy0]
  rintro _ rfl
  refine ⟨⟨y, x % y, hy, by omega, rfl, rfl, (gcd_s x y).symm.trans e⟩, ?_⟩
  try dsimp only
  rw [nI_clamp (by omega), nI_clamp (by omega)]
  exact hl
theorem gcd_half {x y : Nat} (h : y < x) (h0 : 0 < y) : y * (x % y) * 2 ≤ x * y := by
  have e := Nat.div_add_mod x y
  have l := Nat.mod_lt x h0
  have d1 : 1 ≤ x / y := Nat.div_pos (by omega) h0
  have m1 : y * 1 ≤ y * (x / y) := Nat.mul_le_mul_left y d1
  have k : x % y * 2 ≤ x := by omega
  have := Nat.mul_le_mul_left y k
  rw [Nat.mul_assoc, Nat.mul_comm x y]
  exact this
theorem zgcdC {a b : Nat} (ha : a < 2 ^ 31) (hb : b ≤ 1000) {Q : Int32 → Prop} (hq : Q (nI (Nat.gcd a b))) : wp_X11_commonDivisor (nI a) (nI b) Q := by
  unfold wp_X11_commonDivisor wp_X11_commonDivisor_p7
  refine ⟨fun x2 x3 x4 => ∃ x y t : Nat, x < 2 ^ 31 ∧ y ≤ 1000 ∧ t ≤ 64 ∧ x2 = nI x ∧ x3 = nI y ∧ x4 = nI t ∧ Nat.gcd x y = Nat.gcd a b ∧ (t ≠ 0 → y < x ∧ x * y * 2 ^ t ≤ 2 ^ 30), fun _ _ x4 => 65 - x4.toNatClampNeg, ⟨a, b, 0, ha, hb, by decide, rfl, rfl, rfl, rfl, fun c => absurd rfl c⟩, ?_⟩
  rintro _ _ _ ⟨x, y, t, hx, hy, ht, rfl, rfl, rfl, e, hb2⟩
  unfold wp_X11_commonDivisor_p7b wp_X11_commonDivisor_p34
  have stop : y = 0 → Q (nI x) := fun e0 => by
    subst e0
    rw [Nat.gcd_zero_right] at e
    rw [e]
    exact hq
  refine ⟨fun c => stop ?_, fun c => ⟨fun c2 => stop ((nI_eq (b := 0) (by omega) (by decide)).mp c2), fun c2 => ⟨c2, ?_⟩⟩⟩
  · have h64 : t = 64 := by
      have := (nI_leI (a := 64) (by decide) (by omega)).mp c
      omega
    subst h64
    obtain ⟨h1, h2⟩ := hb2 (by decide)
    have h3 : x * y * 1 ≤ x * y * 2 ^ 64 := Nat.mul_le_mul_left _ (by decide)
    by_cases c0 : y = 0
    · exact c0
    · have h4 : 1 * 1 ≤ x * y := Nat.mul_le_mul (by omega) (by omega)
      have h5 : 1 * 2 ^ 64 ≤ x * y * 2 ^ 64 := Nat.mul_le_mul_right _ (by omega)
      omega
  have ht64 : t < 64 := by
    have := mt (nI_leI (a := 64) (b := t) (by decide) (by omega)).mpr c
    omega
  have hy0 : 0 < y := Nat.pos_of_ne_zero fun e0 => c2 (by rw [e0]; rfl)
  have hl := Nat.mod_lt x hy0
  rw [nI_remd hx (by omega) hy0]
  rintro _ rfl
  rw [nI_1]
  rintro _ rfl
  refine ⟨⟨y, x % y, t + 1, by omega, by omega, by omega, rfl, rfl, rfl, (gcd_s x y).symm.trans e, fun _ => ⟨hl, ?_⟩⟩, ?_⟩
  · by_cases c0 : t = 0
    · subst c0
      have h1 : y * (x % y) ≤ 1000 * 1000 := Nat.mul_le_mul hy (by omega)
      omega
    · obtain ⟨h1, h2⟩ := hb2 c0
      have h3 : y * (x % y) * 2 * 2 ^ t ≤ x * y * 2 ^ t := Nat.mul_le_mul_right _ (gcd_half h1 hy0)
      rw [Nat.pow_succ, Nat.mul_comm (2 ^ t) 2, ← Nat.mul_assoc]
      omega
  · try dsimp only
    rw [nI_clamp (by omega), nI_clamp (by omega)]
    omega
/-- a span in one number, or not -/
def badS (N : Nat) (a : Int32) : Prop := a < 0 ∨ ∃ n : Nat, n < 2 ^ 31 ∧ a = nI n ∧ (n % 100 < n / 100 ∨ N < n % 100)
theorem span_or (N : Nat) (a : Int32) : (∃ lo hi : Nat, a = nI (100 * lo + hi) ∧ lo ≤ hi ∧ hi ≤ N ∧ hi < 100) ∨ badS N a := by
  by_cases h : a < 0
  · exact .inr (.inl h)
  · obtain ⟨n, hn, rfl⟩ := nI_of h
    by_cases c : n % 100 < n / 100 ∨ N < n % 100
    · exact .inr (.inr ⟨n, hn, rfl, c⟩)
    · exact .inl ⟨n / 100, n % 100, by rw [Nat.div_add_mod], by omega, by omega, by omega⟩
theorem n100 {n : Nat} (hn : n < 2 ^ 31) : nI n / (100 : Int32) = nI (n / 100) := pk_div hn (by decide) (by decide)
theorem n100r {n : Nat} (hn : n < 2 ^ 31) : nI n - nI n / (100 : Int32) * (100 : Int32) = nI (n % 100) := nI_remd (b := 100) hn (by decide) (by decide)
theorem s100 {lo hi : Nat} (h : hi < 100) (h2 : lo ≤ hi) : nI (100 * lo + hi) / (100 : Int32) = nI lo ∧ nI (100 * lo + hi) - nI (100 * lo + hi) / (100 : Int32) * (100 : Int32) = nI hi := by
  rw [n100r (by omega), n100 (by omega), show (100 * lo + hi) / 100 = lo by omega, show (100 * lo + hi) % 100 = hi by omega]
  exact ⟨rfl, rfl⟩
theorem zpartY {V : ST} {N lo hi : Nat} (v1 : gI V 1 = nI N) (hN : N ≤ 60) (h : lo ≤ hi) (h2 : hi ≤ N) {Q : Int32 → ST → Prop} (hq : Q 1 V) : wp_X12_isPart (nI (100 * lo + hi)) V Q := by
  obtain ⟨e1, e2⟩ := s100 (lo := lo) (hi := hi) (by omega) h
  unfold wp_X12_isPart wp_X12_isPart_p30 wp_X12_isPart_p31
  rw [e2, e1, v1]
  refine ⟨fun c => absurd c (nI_pos (by omega)), fun _ => ⟨by decide, ?_⟩⟩
  rintro _ rfl
  refine ⟨by decide, ?_⟩
  rintro _ rfl
  refine ⟨fun c => absurd ((nI_ltI (by omega) (by omega)).mp c) (by omega), fun _ => ⟨by decide, ?_⟩⟩
  rintro _ rfl
  exact ⟨fun c => absurd ((nI_ltI (by omega) (by omega)).mp c) (by omega), fun _ => ⟨by decide, hq⟩⟩
theorem zpartN {V : ST} {N : Nat} {a : Int32} (v1 : gI V 1 = nI N) (hN : N ≤ 60) (h : badS N a) {Q : Int32 → ST → Prop} (hq : Q 0 V) : wp_X12_isPart a V Q := by
  unfold wp_X12_isPart wp_X12_isPart_p30 wp_X12_isPart_p31
  rw [v1]
  refine ⟨fun _ => ⟨by decide, hq⟩, fun c => ?_⟩
  rcases h with h | ⟨n, hn, rfl, h⟩
  · exact absurd h c
  rw [n100r hn, n100 hn]
  refine ⟨by decide, ?_⟩
  rintro _ rfl
  refine ⟨by decide, ?_⟩
  rintro _ rfl
  refine ⟨fun _ => ⟨by decide, hq⟩, fun c2 => ⟨by decide, ?_⟩⟩
  rintro _ rfl
  refine ⟨fun _ => ⟨by decide, hq⟩, fun c3 => ?_⟩
  have q2 := mt (nI_ltI (a := n % 100) (b := n / 100) (by omega) (by omega)).mpr c2
  have q3 := mt (nI_ltI (a := N) (b := n % 100) (by omega) (by omega)).mpr c3
  omega
def sp3 (S : ST) (lo hi j : Nat) : Prop := gI S 0 = nI lo ∧ gI S 1 = nI hi ∧ gI S 2 = nI j
theorem zbec (S : ST) (a b c : Nat) : sp3 (sI (sI (sI S 0 (nI a)) 1 (nI b)) 2 (nI c)) a b c := ⟨rfl, rfl, rfl⟩
theorem zasksY {U : CS} {N lo hi : Nat} (t1 : gA (U 1) 0 0 = nI N) (hN : N ≤ 60) (h : lo ≤ hi) (h2 : hi ≤ N) {a2 : Int32} {Q : Int32 → CS → Prop}
    (hq : ∀ (j : Nat) (S : ST), a2 = nI j → j ≤ 6 → sp3 S lo hi j → Q 1 (mu U 9 S)) (hn : a2 < 0 ∨ 6 < a2 → Q 0 U) : wp_X11_asksSpan (nI (100 * lo + hi)) a2 U Q := by
  obtain ⟨e1, e2⟩ := s100 (lo := lo) (hi := hi) (by omega) h
  unfold wp_X11_asksSpan wp_X11_asksSpan_p43
  rw [e2, e1]
  refine ⟨by decide, ?_⟩
  rintro _ rfl
  refine ⟨by decide, ?_⟩
  rintro _ rfl
  refine ⟨fun c => absurd c (nI_pos (by omega)), fun _ => ⟨fun c => absurd ((nI_ltI (by omega) (by omega)).mp c) (by omega), fun _ => ?_⟩⟩
  refine zstepsT ?_
  rintro _ rfl
  rw [mu_self, t1]
  refine ⟨fun c => absurd ((nI_ltI (by omega) (by omega)).mp c) (by omega), fun _ => ?_⟩
  refine zwithin (fun p q => ⟨fun _ => ?_, fun c => absurd c (by decide)⟩) (fun p => ⟨fun c => absurd rfl c, fun _ => ⟨by decide, hn p⟩⟩)
  obtain ⟨j, hj, rfl⟩ := nI_of p
  have hj6 := mt (nI_ltI (a := 6) (b := j) (by decide) hj).mpr q
  unfold wp_X7_become
  rintro _ rfl _ rfl _ rfl _ rfl
  exact ⟨by decide, hq j _ rfl (by omega) (zbec _ _ _ _)⟩
theorem zasksN {U : CS} {N : Nat} {a : Int32} (t1 : gA (U 1) 0 0 = nI N) (hN : N ≤ 60) (h : badS N a) {a2 : Int32} {Q : Int32 → CS → Prop} (hn : Q 0 U) : wp_X11_asksSpan a a2 U Q := by
  unfold wp_X11_asksSpan wp_X11_asksSpan_p43
  refine ⟨by decide, ?_⟩
  rintro _ rfl
  refine ⟨by decide, ?_⟩
  rintro _ rfl
  refine ⟨fun _ => ⟨by decide, hn⟩, fun c => ?_⟩
  rcases h with h | ⟨n, hn', rfl, h⟩
  · exact absurd h c
  rw [n100r hn', n100 hn']
  refine ⟨fun _ => ⟨by decide, hn⟩, fun c2 => ?_⟩
  refine zstepsT ?_
  rintro _ rfl
  rw [mu_self, t1]
  refine ⟨fun _ => ⟨by decide, hn⟩, fun c3 => ?_⟩
  have q2 := mt (nI_ltI (a := n % 100) (b := n / 100) (by omega) (by omega)).mpr c2
  have q3 := mt (nI_ltI (a := N) (b := n % 100) (by omega) (by omega)).mpr c3
  omega
/-! stretches of the objects -/
theorem emb_mu0 (U : CS) (a : Nat) (l : List Nat) (x : ST) : emb U (a :: l) (mu (fun i => U ((a :: l).getD i 0)) 0 x) = mu U a x := by
  funext k
  unfold emb
  by_cases e : k = a
  · subst e
    rw [mu_at, show ix (k :: l) k = 0 from if_pos rfl, if_pos (show 0 < (k :: l).length from Nat.zero_lt_succ _), mu_at]
  · have e2 : ix (a :: l) k = ix l k + 1 := if_neg (fun c => e c.symm)
    rw [mu_ne _ _ e]
    by_cases c : ix (a :: l) k < (a :: l).length
    · rw [if_pos c, mu_ne _ _ (by omega)]
      show U ((a :: l).getD (ix (a :: l) k) 0) = U k
      rw [ix_get _ _ c]
    · rw [if_neg c]
theorem emb_mu1 (U : CS) (a b : Nat) (l : List Nat) (h : a ≠ b) (x y : ST) : emb U (a :: b :: l) (mu (mu (fun i => U ((a :: b :: l).getD i 0)) 0 x) 1 y) = mu (mu U a x) b y := by
  funext k
  unfold emb
  by_cases e : k = b
  · subst e
    have e2 : ix (a :: k :: l) k = 1 := by
      show (if a = k then 0 else (if k = k then 0 else _) + 1) = 1
      rw [if_neg h, if_pos rfl]
    rw [mu_at, e2, if_pos (show 1 < (a :: k :: l).length from Nat.succ_lt_succ (Nat.zero_lt_succ _)), mu_at]
  · rw [mu_ne _ _ e]
    by_cases e3 : k = a
    · subst e3
      rw [mu_at, show ix (k :: b :: l) k = 0 from if_pos rfl, if_pos (show 0 < (k :: b :: l).length from Nat.zero_lt_succ _), mu_ne _ _ (by decide), mu_at]
    · have e2 : ix (a :: b :: l) k = ix l k + 1 + 1 := by
        show (if a = k then 0 else (if b = k then 0 else _) + 1) = _
        rw [if_neg (fun c => e3 c.symm), if_neg (fun c => e c.symm)]
      rw [mu_ne _ _ e3]
      by_cases c : ix (a :: b :: l) k < (a :: b :: l).length
      · rw [if_pos c, mu_ne _ _ (by omega), mu_ne _ _ (by omega)]
        show U ((a :: b :: l).getD (ix (a :: b :: l) k) 0) = U k
        rw [ix_get _ _ c]
      · rw [if_neg c]
/-! the class's means, weighed -/
def ME (m : ST) (o : Option (List zL)) (v N J : Nat) (w : Nat → Nat) : Prop := ∃ rd : Nat → Nat, WE m o N J w rd ∧ gI m 5 = nI v ∧ gI m 6 = nI N ∧ gI m 7 = nI J
theorem ME_e {m : ST} {o : Option (List zL)} {v N J : Nat} {w : Nat → Nat} (h : ME m o v N J w) (hv2 : v < 100000) (hN : N ≤ 60) (hJ : J ≤ 6) : RMe m o v := by
  obtain ⟨rd, h, i5, i6, i7⟩ := h
  exact RMe_of h i5 i6 i7 hv2 hN hJ
theorem zcostM {u : CS} {o : Option (List zL)} {v N J lo hi j : Nat} {w : Nat → Nat} (hM : ME (u 0) o v N J w) (hN : N ≤ 60) (hs : sp3 (u 1) lo hi j) (hlo : lo ≤ hi) (hhi : hi ≤ N) (hj : j ≤ 6) {Q : Int32 → CS → Prop}
    (hq : ∀ m' : ST, ME m' o v N J w → Q (nI (cN (M w j lo hi))) (mu u 0 m')) : wp_X4_cost u Q := by
  obtain ⟨rd, ⟨h1, h2, h3⟩, i5, i6, i7⟩ := hM
  obtain ⟨e0, e1, e2⟩ := hs
  unfold wp_X4_cost wp_X4_cost_p34
  refine zready (u := fun i => u ([0, 1].getD i 0)) h1 h2 hN e0 e1 e2 hlo hhi hj fun m' rd' g1 g2 g3 g4 => ?_
  rw [emb_mu0]
  rintro _ rfl
  refine ⟨fun c => absurd c (by decide), fun _ => ?_⟩
  rw [mu_at, mu_ne _ _ (by decide), e0, e1, e2]
  refine ⟨nI_in (by omega) (by decide), ?_⟩
  refine zplc (by omega) ⟨nI_in (pl_lt hlo (by omega)) (by decide), ?_⟩
  have hp := pl_lt hlo (show hi ≤ 60 by omega)
  rw [nI_clamp (by omega), nI_clamp (by omega), show gG m' 2 j (pl lo hi) = _ from (g1.2.2.2.2 j lo hi hj hlo (g4 j (Nat.le_refl _))).1]
  rintro _ rfl
  exact hq m' ⟨rd', ⟨g1, g2, h3⟩, (Ag_I g3 5 (by decide)).trans i5, (Ag_I g3 6 (by decide)).trans i6, (Ag_I g3 7 (by decide)).trans i7⟩
theorem zfirstM {u : CS} {o : Option (List zL)} {v N J lo hi j : Nat} {w : Nat → Nat} (hM : ME (u 0) o v N J w) (hN : N ≤ 60) (hs : sp3 (u 1) lo hi j) (hlo : lo < hi) (hhi : hi ≤ N) (hj : j ≤ 6) (hj0 : j ≠ 0) {Q : Int32 → CS → Prop}
    (hq : ∀ m' : ST, ME m' o v N J w → Q (nI (lo + (BM w j lo hi).2)) (mu u 0 m')) : wp_X4_first u Q := by
  obtain ⟨rd, ⟨h1, h2, h3⟩, i5, i6, i7⟩ := hM
  obtain ⟨e0, e1, e2⟩ := hs
  have hlo' : lo ≤ hi := by omega
  unfold wp_X4_first wp_X4_first_p33
  refine zready (u := fun i => u ([0, 1].getD i 0)) h1 h2 hN e0 e1 e2 hlo' hhi hj fun m' rd' g1 g2 g3 g4 => ?_
  rw [emb_mu0]
  rintro _ rfl
  refine ⟨fun c => absurd c (by decide), fun _ => ?_⟩
  rw [mu_at, mu_ne _ _ (by decide), e0, e1, e2]
  refine ⟨nI_in (by omega) (by decide), ?_⟩
  refine zplc (by omega) ⟨nI_in (pl_lt hlo' (by omega)) (by decide), ?_⟩
  have hp := pl_lt hlo' (show hi ≤ 60 by omega)
  rw [nI_clamp (by omega), nI_clamp (by omega), show gG m' 3 j (pl lo hi) = _ from (g1.2.2.2.2 j lo hi hj hlo' (g4 j (Nat.le_refl _))).2 hj0 hlo]
  rintro _ rfl
  exact hq m' ⟨rd', ⟨g1, g2, h3⟩, (Ag_I g3 5 (by decide)).trans i5, (Ag_I g3 6 (by decide)).trans i6, (Ag_I g3 7 (by decide)).trans i7⟩
theorem zweighU {U : CS} {V : ST} {o : Option (List zL)} {v N J : Nat} (hL : RLw (U 2) V o) (hv : gI (U 2) 9 = nI v) (hv2 : v < 100000) (hM : RMe (U 6) o v) (t1 : gA (U 1) 0 0 = nI N) (t2 : gA (U 1) 0 1 = nI J) (hN : N ≤ 60) (hJ : J ≤ 6) {K : CS → Prop}
    (hq : ∀ (m' L' : ST) (w : Nat → Nat), ME m' o v N J w → Ag [1, 8] L' (U 2) → K (mu (mu U 6 m') 2 L')) : wp_X4_weigh (fun i => U ([6, 2, 1].getD i 0)) (fun v32 => ∀ u32 : CS, u32 = emb U [6, 2, 1] v32 → K u32) := by
  refine zweigh (u := fun i => U ([6, 2, 1].getD i 0)) hL hv hv2 hM t1 t2 hN hJ fun m' L' w' rd' g1 g2 g3 g4 g5 => ?_
  rw [emb_mu1 _ _ _ _ (by decide)]
  rintro _ rfl
  exact hq m' L' w' ⟨rd', g1, g2, g3, g4⟩ g5
theorem ew_cg {w w' : Nat → Nat} {lo hi : Nat} (j : Nat) (h : lo ≤ hi) (h2 : hi ≤ 60) (hc : ∀ k : Nat, lo ≤ k → k ≤ hi → w k = w' k) : M (ew w lo hi) j lo hi = M (ew w' lo hi) j lo hi ∧ (lo < hi → BM (ew w lo hi) j lo hi = BM (ew w' lo hi) j lo hi) ∧ Wt (ew w lo hi) lo hi = Wt (ew w' lo hi) lo hi := by
  have e := Wt_cg h hc
  unfold ew
  rw [e]
  by_cases c : Wt w' lo hi = 0
  · rw [if_pos c, if_pos c]
    exact ⟨rfl, fun _ => rfl, rfl⟩
  · rw [if_neg c, if_neg c]
    have m := M_cg (hi - lo) j lo hi (Nat.le_refl _) h h2 hc
    exact ⟨m.1, m.2, e⟩
theorem ew_0 {w : Nat → Nat} {lo hi : Nat} (h : Wt w lo hi = 0) : ew w lo hi = fun _ => 1 := if_pos h
theorem ew_n {w : Nat → Nat} {lo hi : Nat} (h : ¬ Wt w lo hi = 0) : ew w lo hi = w := if_neg h

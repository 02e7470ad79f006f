/-! trodden: the class's first step, the reference's tables -/
def da (a lo : Nat) : Nat → Nat := fun k => if lo + k ≤ a then a - (lo + k) else lo + k - a
theorem da_le {a lo k : Nat} (h : a ≤ 60) (h2 : lo + k ≤ 60) : da a lo k ≤ 60 := by
  unfold da
  split <;> omega
theorem zabs {a b : Nat} (ha : a < 2 ^ 31) (hb : b < 2 ^ 31) : (if 0 ≤ nI a - nI b then nI a - nI b else 0 - (nI a - nI b)) = nI (if b ≤ a then a - b else b - a) := by
  by_cases c : b ≤ a
  · rw [if_pos c, nI_sub c, if_pos (nI_pos' (by omega))]
  · rw [if_neg c, if_neg (nI_neg (by omega) hb), Int32.zero_sub, Int32.neg_sub, nI_sub (by omega)]
theorem tcmp {r s d : Nat} (hs : s ≤ zF) (hr : r ≤ zF) (hr2 : r < zF → r ≤ 700) (hd : d ≤ 700) : (cN s ≤ d + cN r ↔ ¬ d + r < s) ∧ (d + r < s → d + cN r = cN (d + r)) := by
  have hz := zF_e
  rcases cN_or r with ⟨a, e⟩ | ⟨a, e⟩ <;> rcases cN_or s with ⟨b, e2⟩ | ⟨b, e2⟩
  · rw [e, e2]
    exact ⟨by omega, fun c => (cN_f (by omega)).symm⟩
  · have := hr2 a
    rw [e, e2]
    exact ⟨by omega, fun c => (cN_f (by omega)).symm⟩
  · rw [e, e2]
    exact ⟨by omega, fun c => by omega⟩
  · rw [e, e2]
    exact ⟨by omega, fun c => by omega⟩
def sI1 (lo i : Nat) : Nat := if i = 0 then 0 else lo + i
theorem zcostFrom {u : CS} {a lo hi j k : Nat} (hs : sp3 (u 1) lo hi j) (ha : a ≤ 60) (hh : hi ≤ 24) (hj : j ≤ 6) (h1 : 1 ≤ k) (h2 : lo + k ≤ hi) (hP : P7i 7 1 (u 0)) {Q : Int32 → CS → Prop} (hq : Q (nI (da a lo k + cN (trr j (hi - lo + 1) k))) u) : wp_X9_costFrom (nI a) (nI (lo + k)) u Q := by
  unfold wp_X9_costFrom
  rintro _ rfl
  rw [zabs (by omega) (by omega)]
  rintro _ rfl
  refine zheights hs.1 hs.2.1 (by omega) ?_
  intro u12 e12
  rw [mu_self] at e12
  subst e12
  rw [hs.1, hs.2.2, nI_sub (by omega), show lo + k - lo = k by omega]
  rintro _ rfl
  refine zrest hj (by omega) h1 (by omega) (fun hj0 => ⟨hP _ _ (.inl (by omega)) (by omega) (by omega) (by omega), hP _ _ (.inl (by omega)) hj (by omega) (by omega)⟩) ?_
  intro u21 e21
  rw [mu_self] at e21
  subst e21
  rw [nI_add]
  rintro _ rfl
  exact hq
theorem zfirstFrom {U : CS} {a lo hi j : Nat} (hs : sp3 (U 1) lo hi j) (ha : a ≤ 60) (hlo : lo < hi) (hh : hi ≤ 24) (hj : j ≤ 6) (hP : P7i 7 1 (U 0)) {Q : Int32 → CS → Prop} (hq : Q (nI (sI1 lo (tB j (hi - lo + 1) (da a lo)).2)) U) : wp_X9_firstFrom (nI a) U Q := by
  have hz := zF_e
  unfold wp_X9_firstFrom
  rw [hs.1, nI_1]
  rintro _ rfl
  unfold wp_X9_firstFrom_p14
  refine ⟨fun x2 x3 x4 x5 u => x2 = nI a ∧ u = U ∧ ∃ n : Nat, lo + n ≤ hi ∧ x5 = nI (lo + n + 1) ∧ x3 = nI (cN (bst zF (fun k => da a lo k + trr j (hi - lo + 1) k) n).1) ∧ x4 = nI (sI1 lo (bst zF (fun k => da a lo k + trr j (hi - lo + 1) k) n).2), fun _ _ _ x5 _ => 62 - x5.toNatClampNeg, ⟨rfl, rfl, 0, by omega, rfl, rfl, rfl⟩, ?_⟩
  rintro _ _ _ _ u ⟨rfl, eu, n, hn, rfl, rfl, rfl⟩
  rw [eu]
  unfold wp_X9_firstFrom_p14b wp_X9_firstFrom_p46
  rw [hs.2.1]
  refine ⟨fun c => ?_, fun c => ?_⟩
  · have en : n = hi - lo + 1 - 1 := by
      have := (nI_ltI (by omega) (by omega)).mp c
      omega
    unfold tB at hq
    rw [if_neg (show ¬ hi - lo + 1 = 1 by omega)] at hq
    rw [en]
    exact hq
  have hn1 : lo + n + 1 ≤ hi := by
    have := mt (nI_ltI (a := hi) (b := lo + n + 1) (by omega) (by omega)).mpr c
    omega
  refine zcostFrom (u := fun i => U ([0, 1].getD i 0)) (k := n + 1) hs ha hh hj (by omega) hn1 hP ?_
  rw [emb_self]
  intro u28 e28
  subst e28
  have t1 := trr_le (j := j) (m := hi - lo + 1) (k := n + 1) (by omega) (by omega) (by omega)
  have t2 := trr_small (j := j) (m := hi - lo + 1) (k := n + 1) (by omega) (by omega) (by omega)
  have lc := cN_le (trr j (hi - lo + 1) (n + 1))
  have s1 : (bst zF (fun k => da a lo k + trr j (hi - lo + 1) k) n).1 ≤ zF := bst_le _ _ _
  have d1 := da_le (a := a) (lo := lo) (k := n + 1) ha (by omega)
  have tc := tcmp (d := da a lo (n + 1)) s1 t1 t2 (by omega)
  rw [nI_leI (cN_b _) (by omega), tc.1, nI_1]
  refine ⟨fun c2 => ?_, fun c2 => ?_⟩
  · rintro _ rfl
    refine ⟨⟨rfl, rfl, n + 1, hn1, rfl, ?_, ?_⟩, ?_⟩
    · rw [bst_n (f := fun k => da a lo k + trr j (hi - lo + 1) k) c2]
    · rw [bst_n (f := fun k => da a lo k + trr j (hi - lo + 1) k) c2]
    · try dsimp only
      rw [nI_clamp (by omega), nI_clamp (by omega)]
      omega
  · have c2 : da a lo (n + 1) + trr j (hi - lo + 1) (n + 1) < (bst zF (fun k => da a lo k + trr j (hi - lo + 1) k) n).1 := by omega
    rintro _ rfl
    refine ⟨⟨rfl, rfl, n + 1, hn1, rfl, ?_, ?_⟩, ?_⟩
    · rw [bst_y (f := fun k => da a lo k + trr j (hi - lo + 1) k) c2, tc.2 c2]
    · rw [bst_y (f := fun k => da a lo k + trr j (hi - lo + 1) k) c2]
      rfl
    · try dsimp only
      rw [nI_clamp (by omega), nI_clamp (by omega)]
      omega
/-! the reference -/
def bn (s : Bool) : Nat := if s = true then 1 else 0
def spt (lo hi : Nat) (s : Bool) (j : Nat) : Nat := ((25 * lo + hi) * 2 + bn s) * 7 + j
theorem bn_le (s : Bool) : bn s ≤ 1 := by
  unfold bn
  split <;> omega
theorem bn_inj {s s' : Bool} (h : bn s = bn s') : s = s' := by
  cases s <;> cases s' <;> first | rfl | exact absurd h (by decide)
theorem spt_lt {lo hi j : Nat} (s : Bool) (h : lo ≤ 24) (h2 : hi ≤ 24) (hj : j ≤ 6) : spt lo hi s j < 8750 := by
  have := bn_le s
  unfold spt
  omega
theorem spt_inj {lo hi j lo' hi' j' : Nat} {s s' : Bool} (h2 : hi ≤ 24) (hj : j ≤ 6) (h2' : hi' ≤ 24) (hj' : j' ≤ 6) (e : spt lo hi s j = spt lo' hi' s' j') : lo = lo' ∧ hi = hi' ∧ s = s' ∧ j = j' := by
  have := bn_le s
  have := bn_le s'
  unfold spt at e
  exact ⟨by omega, by omega, bn_inj (by omega), by omega⟩
theorem zspot {lo hi j : Nat} (s : Bool) {Q : Int32 → Prop} (hq : Q (nI (spt lo hi s j))) : wp_X12_spot (nI lo) (nI hi) (nI (bn s)) (nI j) Q := by
  unfold wp_X12_spot
  rw [show (25 : Int32) * nI lo = nI (25 * lo) from pk_mul 25 lo]
  rintro _ rfl
  rw [nI_add]
  rintro _ rfl
  rw [show nI (25 * lo + hi) * (2 : Int32) = nI ((25 * lo + hi) * 2) from pk_mul _ 2]
  rintro _ rfl
  rw [nI_add]
  rintro _ rfl
  rw [show nI ((25 * lo + hi) * 2 + bn s) * (7 : Int32) = nI (((25 * lo + hi) * 2 + bn s) * 7) from pk_mul _ 7]
  rintro _ rfl
  rw [nI_add]
  rintro _ rfl
  exact hq
def S32 (v : ST) (lo hi : Nat) (s : Bool) (j : Nat) : Prop := gA v 32 (spt lo hi s j) = nI (tA j (hi - lo + 1) s)
def t33 (lo i : Nat) : Int32 := if i = 0 then -2 else nI (lo + i)
theorem zlt {v : ST} {lo hi a j : Nat} (hj : j ≤ 6) (hlo : lo ≤ hi) (hh : hi ≤ 24) (ha : a ≤ 60) (hs : ∀ k : Nat, 1 ≤ k → lo + k ≤ hi → j ≠ 0 → S32 v lo (lo + k - 1) true (j - 1) ∧ S32 v (lo + k) hi false j) {Q : Int32 → ST → Prop}
    (hq : Q (nI (tB j (hi - lo + 1) (da a lo)).1) (sI v 33 (t33 lo (tB j (hi - lo + 1) (da a lo)).2))) : wp_X12_leastTrodden (nI lo) (nI hi) (nI a) (nI j) v Q := by
  have hz := zF_e
  have key : wp_X12_leastTrodden_p11 (nI lo) (nI hi) (nI a) (nI j) (nI (if hi - lo + 1 = 1 then 0 else zF)) v Q := by
    have lz := tB_z (m := hi - lo + 1)
    unfold tB at hq
    generalize (if hi - lo + 1 = 1 then 0 else zF) = z at hq lz ⊢
    unfold wp_X12_leastTrodden_p11
    rintro _ rfl
    rw [nI_1]
    rintro _ rfl
    unfold wp_X12_leastTrodden_p24
    refine ⟨fun x1 x2 x3 x4 x5 x6 u => x1 = nI lo ∧ x2 = nI hi ∧ x3 = nI a ∧ x4 = nI j ∧ ∃ n : Nat, lo + n ≤ hi ∧ x6 = nI (lo + n + 1) ∧ x5 = nI (bst z (fun k => da a lo k + trr j (hi - lo + 1) k) n).1 ∧ u = sI v 33 (t33 lo (bst z (fun k => da a lo k + trr j (hi - lo + 1) k) n).2), fun _ _ _ _ _ x6 _ => 62 - x6.toNatClampNeg, ⟨rfl, rfl, rfl, rfl, 0, hlo, rfl, rfl, rfl⟩, ?_⟩
    rintro _ _ _ _ _ _ _ ⟨rfl, rfl, rfl, rfl, n, hn, rfl, rfl, rfl⟩
    have s1 : (bst z (fun k => da a lo k + trr j (hi - lo + 1) k) n).1 ≤ zF := Nat.le_trans (bst_le _ _ _) lz
    unfold wp_X12_leastTrodden_p24b wp_X12_leastTrodden_p120 wp_X12_leastTrodden_p134
    have fin : bst z (fun k => da a lo k + trr j (hi - lo + 1) k) n = bst z (fun k => da a lo k + trr j (hi - lo + 1) k) (hi - lo + 1 - 1) → (nI (bst z (fun k => da a lo k + trr j (hi - lo + 1) k) n).1 ≤ (1000000 : Int32) → Q (nI (bst z (fun k => da a lo k + trr j (hi - lo + 1) k) n).1) (sI v 33 (t33 lo (bst z (fun k => da a lo k + trr j (hi - lo + 1) k) n).2))) ∧ (¬ nI (bst z (fun k => da a lo k + trr j (hi - lo + 1) k) n).1 ≤ (1000000 : Int32) → Q (1000000 : Int32) (sI v 33 (t33 lo (bst z (fun k => da a lo k + trr j (hi - lo + 1) k) n).2))) := by
      intro e
      rw [e] at s1 ⊢
      exact ⟨fun _ => hq, fun c => absurd ((nI_leI (b := 1000000) (by omega) (by decide)).mpr (by omega)) c⟩
    refine ⟨fun c => ?_, fun c => ⟨fun c2 => ?_, fun c2 => ?_⟩⟩
    · have en : n = hi - lo + 1 - 1 := by
        have := (nI_ltI (by omega) (by omega)).mp c
        omega
      exact fin (by rw [en])
    · have ej : j = 0 := by
        have := (nI_leI (b := 0) (by omega) (by decide)).mp c2
        omega
      refine fin (bst_stop (by omega) fun k k1 k2 => ?_).symm
      have e0 : trr j (hi - lo + 1) k = zF := if_pos ej
      show _ ≤ da a lo k + trr j (hi - lo + 1) k
      omega
    have hj0 : j ≠ 0 := fun e => c2 (by rw [e]; decide)
    have hn1 : lo + n + 1 ≤ hi := by
      have := mt (nI_ltI (a := hi) (b := lo + n + 1) (by omega) (by omega)).mpr c
      omega
    obtain ⟨q1, q2⟩ := hs (n + 1) (by omega) hn1 hj0
    unfold S32 at q1 q2
    rw [show lo + (n + 1) - 1 = lo + n by omega, show lo + n - lo + 1 = n + 1 by omega] at q1
    rw [show hi - (lo + (n + 1)) + 1 = hi - lo + 1 - (n + 1) by omega] at q2
    have l1 := tA_le (j - 1) (m := n + 1) true (by omega) (by omega)
    have l2 := tA_le j (m := hi - lo + 1 - (n + 1)) false (by omega) (by omega)
    have d1 := da_le (a := a) (lo := lo) (k := n + 1) ha (by omega)
    have er : trr j (hi - lo + 1) (n + 1) = mx (tA (j - 1) (n + 1) true) (tA j (hi - lo + 1 - (n + 1)) false) := if_neg hj0
    have em : (if tA (j - 1) (n + 1) true ≤ tA j (hi - lo + 1 - (n + 1)) false then tA j (hi - lo + 1 - (n + 1)) false else tA (j - 1) (n + 1) true) = trr j (hi - lo + 1) (n + 1) := by
      rw [er]
      unfold mx
      split <;> split <;> omega
    have t1 := trr_le (j := j) (m := hi - lo + 1) (k := n + 1) (by omega) (by omega) (by omega)
    have p1 := spt_lt (lo := lo) (hi := lo + n) (j := j - 1) true (by omega) (by omega) (by omega)
    have p2 := spt_lt (lo := lo + (n + 1)) (hi := hi) (j := j) false (by omega) hh hj
    have body : ∀ t0 : Int32, t0 = nI (da a lo (n + 1)) → wp_X12_leastTrodden_p52 (nI lo) (nI hi) (nI a) (nI j) (nI (bst z (fun k => da a lo k + trr j (hi - lo + 1) k) n).1) (nI (lo + n + 1)) t0 (sI v 33 (t33 lo (bst z (fun k => da a lo k + trr j (hi - lo + 1) k) n).2)) (fun yx1 yx2 yx3 yx4 yx5 yx6 yu => (yx1 = nI lo ∧ yx2 = nI hi ∧ yx3 = nI a ∧ yx4 = nI j ∧ ∃ n : Nat, lo + n ≤ hi ∧ yx6 = nI (lo + n + 1) ∧ yx5 = nI (bst z (fun k => da a lo k + trr j (hi - lo + 1) k) n).1 ∧ yu = sI v 33 (t33 lo (bst z (fun k => da a lo k + trr j (hi - lo + 1) k) n).2)) ∧ 62 - yx6.toNatClampNeg < 62 - (nI (lo + n + 1)).toNatClampNeg) Q := by
      intro t0 et
      subst et
      unfold wp_X12_leastTrodden_p52 wp_X12_leastTrodden_p114
      rw [show nI (lo + n + 1) - (1 : Int32) = nI (lo + n) from nI_sub (b := 1) (by omega)]
      rintro _ rfl
      rw [show nI j - (1 : Int32) = nI (j - 1) from nI_sub (b := 1) (by omega)]
      rintro _ rfl
      refine zspot (lo := lo) (hi := lo + n) (j := j - 1) true ⟨nI_in p1 (by decide), ?_⟩
      rw [nI_clamp (by omega), show gA (sI v 33 (t33 lo (bst z (fun k => da a lo k + trr j (hi - lo + 1) k) n).2)) 32 (spt lo (lo + n) true (j - 1)) = nI (tA (j - 1) (n + 1) true) from q1]
      rintro _ rfl
      refine zspot (lo := lo + (n + 1)) (hi := hi) (j := j) false ⟨nI_in p2 (by decide), ?_⟩
      rw [nI_clamp (by omega), show gA (sI v 33 (t33 lo (bst z (fun k => da a lo k + trr j (hi - lo + 1) k) n).2)) 32 (spt (lo + (n + 1)) hi false j) = nI (tA j (hi - lo + 1 - (n + 1)) false) from q2]
      rintro _ rfl
      refine zgreater (by omega) (by omega) ?_
      rw [em, nI_add]
      rintro _ rfl
      have hm : 62 - (nI (lo + (n + 1) + 1)).toNatClampNeg < 62 - (nI (lo + n + 1)).toNatClampNeg := by
        rw [nI_clamp (by omega), nI_clamp (by omega)]
        omega
      rw [nI_ltI (by omega) (by omega), nI_1]
      refine ⟨fun c3 => ?_, fun c3 => ?_⟩
      · rintro _ rfl _ rfl
        refine ⟨⟨rfl, rfl, rfl, rfl, n + 1, hn1, rfl, ?_, ?_⟩, hm⟩
        · rw [bst_y (f := fun k => da a lo k + trr j (hi - lo + 1) k) c3]
        · rw [bst_y (f := fun k => da a lo k + trr j (hi - lo + 1) k) c3, sI_sI]
          rfl
      · rintro _ rfl
        refine ⟨⟨rfl, rfl, rfl, rfl, n + 1, hn1, rfl, ?_, ?_⟩, hm⟩
        · rw [bst_n (f := fun k => da a lo k + trr j (hi - lo + 1) k) c3]
        · rw [bst_n (f := fun k => da a lo k + trr j (hi - lo + 1) k) c3]
    refine ⟨fun c3 => ?_, fun c3 => ?_⟩
    · have c3 := (nI_leI (by omega) (by omega)).mp c3
      rw [nI_sub c3]
      rintro _ rfl
      refine body _ ?_
      unfold da
      rw [if_pos (by omega)]
      rfl
    · have c3 := mt (nI_leI (a := lo + n + 1) (b := a) (by omega) (by omega)).mpr c3
      rw [nI_sub (by omega)]
      rintro _ rfl
      refine body _ ?_
      unfold da
      rw [if_neg (by omega)]
      rfl
  unfold wp_X12_leastTrodden
  refine ⟨fun c => ?_, fun c => ?_⟩
  · have : ¬ hi - lo + 1 = 1 := fun e => c (by rw [show lo = hi by omega])
    rw [if_neg this] at key
    exact key
  · have : hi - lo + 1 = 1 := by
      have := (nI_eq (by omega) (by omega)).mp c
      omega
    rw [if_pos this] at key
    exact key

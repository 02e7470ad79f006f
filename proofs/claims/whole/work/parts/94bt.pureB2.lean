/-! told drops -/
abbrev gW : Nat → Nat → Nat → Nat := gl false 1 0
def wz (lo hi j s : Nat) : Bool := decide (lo < s) && (decide (s ≤ hi) && (decide (lT gW j (hi - lo + 1) < zF) && decide (gW (hi - lo + 1) (lT gW (j - 1) (s - lo)) (lT gW j (hi - s + 1)) = lT gW j (hi - lo + 1))))
def tvd (N lo hi j : Nat) (st : Int32) (o : Int64) : Bool := decide (¬ st < 1) && (decide (¬ nI N < st) && (decide (j ≠ 0) && ((decide (o = 1) && decide (lo < st.toNatClampNeg)) || (decide (o = 0) && decide (st.toNatClampNeg ≤ hi)))))
abbrev tS : Type := Nat × Nat × Nat × Nat
def tnx (S : tS) (s : Nat) (o : Int64) : tS := (if o = 1 then S.1 else (if S.1 < s then s else S.1), if o = 1 then (if s - 1 < S.2.1 then s - 1 else S.2.1) else S.2.1, if o = 1 then S.2.2.1 - 1 else S.2.2.1, S.2.2.2 + if wz S.1 S.2.1 S.2.2.1 s = true then 1 else 0)
def tld (N m : Nat) (el : Nat → Int64) : Nat → Nat → tS → Bool × Nat × tS
  | 0, k, S => (true, k, S)
  | f + 1, k, S => if m ≤ 2 * k then (true, k, S) else if m ≤ 2 * k + 1 then (false, k, S) else if tvd N S.1 S.2.1 S.2.2.1 (el (2 * k)).toInt32 (el (2 * k + 1)) = true then tld N m el f (k + 1) (tnx S (el (2 * k)).toInt32.toNatClampNeg (el (2 * k + 1))) else (false, k, S)
theorem tld_s (N m : Nat) (el : Nat → Int64) (f k : Nat) (S : tS) : tld N m el (f + 1) k S = if m ≤ 2 * k then (true, k, S) else if m ≤ 2 * k + 1 then (false, k, S) else if tvd N S.1 S.2.1 S.2.2.1 (el (2 * k)).toInt32 (el (2 * k + 1)) = true then tld N m el f (k + 1) (tnx S (el (2 * k)).toInt32.toNatClampNeg (el (2 * k + 1))) else (false, k, S) := rfl
def tok (N k : Nat) (S : tS) : Prop := S.1 ≤ S.2.1 ∧ S.2.1 ≤ N ∧ S.2.2.1 ≤ 6 ∧ S.2.2.2 ≤ k
theorem tvd_s {N lo hi j : Nat} {st : Int32} {o : Int64} (hN : N ≤ 60) (h : tvd N lo hi j st o = true) : ∃ s : Nat, st = nI s ∧ st.toNatClampNeg = s ∧ 1 ≤ s ∧ s ≤ N ∧ j ≠ 0 ∧ (o = 1 ∧ lo < s ∨ ¬ o = 1 ∧ o = 0 ∧ s ≤ hi) := by
  unfold tvd at h
  simp only [Bool.and_eq_true, Bool.or_eq_true, decide_eq_true_eq] at h
  obtain ⟨h1, h2, h3, h4⟩ := h
  have h0 : ¬ st < 0 := by
    intro c
    refine h1 ?_
    rw [Int32.lt_iff_toInt_lt] at c ⊢
    have e0 : (0 : Int32).toInt = 0 := by decide
    have e1 : (1 : Int32).toInt = 1 := by decide
    omega
  obtain ⟨s, hs, rfl⟩ := nI_of h0
  have q1 := mt (nI_ltI (a := s) (b := 1) hs (by decide)).mpr h1
  have q2 := mt (nI_ltI (a := N) (b := s) (by omega) hs).mpr h2
  rw [nI_clamp hs] at h4
  refine ⟨s, rfl, nI_clamp hs, by omega, by omega, h3, ?_⟩
  rcases h4 with ⟨a, b⟩ | ⟨a, b⟩
  · exact .inl ⟨a, b⟩
  · exact .inr ⟨by rw [a]; decide, a, b⟩
theorem tnx_ok {N k : Nat} {S : tS} {s : Nat} {o : Int64} (h : tok N k S) (hs : s ≤ N) (ho : o = 1 ∧ S.1 < s ∨ ¬ o = 1 ∧ o = 0 ∧ s ≤ S.2.1) : tok N (k + 1) (tnx S s o) := by
  obtain ⟨h1, h2, h3, h4⟩ := h
  unfold tok tnx
  try dsimp only
  have hw : (if wz S.1 S.2.1 S.2.2.1 s = true then 1 else 0) ≤ 1 := by split <;> omega
  rcases ho with ⟨e, g⟩ | ⟨e, _, g⟩
  · rw [if_pos e, if_pos e, if_pos e]
    refine ⟨?_, ?_, by omega, by omega⟩
    · split <;> omega
    · split <;> omega
  · rw [if_neg e, if_neg e, if_neg e]
    refine ⟨?_, h2, h3, by omega⟩
    split <;> omega
theorem zaftN {L : ST} {j m : Nat} {x : Int32} (hj : j ≤ 6) (h1 : 1 ≤ m) (hm : m ≤ 61) (h : x < 1 ∨ ¬ x < nI m) {Q : Int32 → ST → Prop} (hq : Q 268435456 L) : wp_X2_after (nI j) (nI m) x L Q := by
  unfold wp_X2_after wp_X2_after_p22
  exact zTh hj h1 hm ⟨fun c => absurd c (by decide), fun _ => ⟨fun _ => hq, fun _ => ⟨fun _ => hq, fun c => ⟨fun c2 => absurd c2 (h.resolve_left c), fun _ => hq⟩⟩⟩⟩
theorem zheights {u : ST} {lo hi : Nat} (e0 : gI u 0 = nI lo) (e1 : gI u 1 = nI hi) (h : lo ≤ hi) {Q : Int32 → ST → Prop} (hq : Q (nI (hi - lo + 1)) u) : wp_X7_heights u Q := by
  unfold wp_X7_heights
  rw [e0, e1, nI_sub h]
  rintro _ rfl
  rw [show nI (hi - lo) + (1 : Int32) = nI (hi - lo + 1) from nI_1 _]
  rintro _ rfl
  exact hq
theorem zwiseC {U : CS} {lo hi j s : Nat} (hL : RLd false (U 3)) (e0 : gI (U 12) 0 = nI lo) (e1 : gI (U 12) 1 = nI hi) (e2 : gI (U 12) 2 = nI j) (hlo : lo ≤ hi) (hhi : hi ≤ 60) (hj : j ≤ 6) (hj0 : j ≠ 0) (hs : s ≤ 60) {Q : Int32 → CS → Prop}
    (hq : ∀ L' : ST, RLd false L' → Q (if wz lo hi j s = true then 1 else 0) (mu U 3 L')) : wp_X11_isWise_12 (nI s) U Q := by
  have hz := zF_e
  unfold wp_X11_isWise_12 wp_X11_isWise_12_p60 wp_X11_isWise_12_p61
  refine zprepL (d := 1) (p := 0) (by decide) (by decide) hL fun L' hL' => ?_
  have hq := hq L' (RLd_of (by decide) (by decide) hL')
  rintro _ rfl
  have e12 : mu U 3 L' 12 = U 12 := rfl
  have hhc : hi - lo + 1 ≤ 61 := by omega
  rw [e12]
  refine zheights e0 e1 hlo ?_
  rintro _ rfl
  rw [show mu (mu U 3 L') 12 (U 12) = mu U 3 L' from mu_self (mu U 3 L') 12, e12, e0, e2]
  rintro _ rfl
  have no : wz lo hi j s = false → ((0 : Int32) &&& 1 = (0 : Int32) ∧ Q (0 : Int32) (mu U 3 L')) := fun h => by
    rw [h] at hq
    exact ⟨by decide, hq⟩
  by_cases c1 : lo < s
  rotate_left
  · refine zaftN hj (by omega) hhc (.inl ?_) ?_
    · rw [Int32.lt_iff_toInt_lt, pk_sub_toInt (by omega) (by omega)]
      have e1 : (1 : Int32).toInt = 1 := by decide
      omega
    · rintro _ rfl
      rw [show mu (mu U 3 L') 3 (mu U 3 L' 3) = mu U 3 L' from mu_self (mu U 3 L') 3]
      refine ⟨fun _ => no ?_, fun c => absurd (by decide) c⟩
      unfold wz
      rw [decide_eq_false c1, Bool.false_and]
  rw [nI_sub (by omega)]
  by_cases c2 : s ≤ hi
  rotate_left
  · refine zaftN hj (by omega) hhc (.inr ?_) ?_
    · exact nI_nlt (by omega) (by omega)
    · rintro _ rfl
      rw [show mu (mu U 3 L') 3 (mu U 3 L' 3) = mu U 3 L' from mu_self (mu U 3 L') 3]
      refine ⟨fun _ => no ?_, fun c => absurd (by decide) c⟩
      unfold wz
      rw [decide_eq_false c2, Bool.false_and, Bool.and_false]
  refine zaft (t := false) (d := 1) (p := 0) (L := mu U 3 L' 3) hL'.1.1 hL'.1.2.1 hL'.1.2.2 (by decide) (by decide) hj (k := s - lo) (by omega) (by omega) hhc (lT gW (j - 1) (s - lo)) (lT gW j (hi - lo + 1 - (s - lo))) (fun _ => (hL'.2 _ _ (by omega) (by omega) (by omega)).1) (fun _ => (hL'.2 _ _ hj (by omega) (by omega)).1) (lT_20k (by decide) (by decide) (by omega) (by omega)) (lT_20k (by decide) (by decide) (by omega) (by omega)) ?_
  rw [if_neg hj0, show hi - lo + 1 - (s - lo) = hi - s + 1 by omega]
  rintro _ rfl
  rw [show mu (mu U 3 L') 3 (mu U 3 L' 3) = mu U 3 L' from mu_self (mu U 3 L') 3, e12]
  generalize hX : gl false 1 0 (hi - lo + 1) (lT gW (j - 1) (s - lo)) (lT gW j (hi - s + 1)) = X at hq ⊢
  have hXb := cN_b X
  have hXl := cN_lt X
  have hT := cN_lt (lT gW j (hi - lo + 1))
  have hTb := cN_b (lT gW j (hi - lo + 1))
  refine ⟨fun c => no ?_, fun c => ?_⟩
  · have := (nI_leI (a := 268435456) (by decide) hXb).mp c
    unfold wz
    rw [show gW (hi - lo + 1) (lT gW (j - 1) (s - lo)) (lT gW j (hi - s + 1)) = X from hX]
    by_cases c3 : lT gW j (hi - lo + 1) < zF
    · rw [decide_eq_false (show ¬ X = lT gW j (hi - lo + 1) by omega), Bool.and_false, Bool.and_false, Bool.and_false]
    · rw [decide_eq_false c3, Bool.false_and, Bool.and_false, Bool.and_false]
  have hXf : X < zF := by
    have := mt (nI_leI (a := 268435456) (by decide) hXb).mpr c
    omega
  refine zheights e0 e1 hlo ?_
  rintro _ rfl
  rw [show mu (mu U 3 L') 12 (U 12) = mu U 3 L' from mu_self (mu U 3 L') 12, e2]
  refine zcostL (L := mu U 3 L' 3) hL' hj (by omega) hhc ?_
  rintro _ rfl
  rw [show mu (mu U 3 L') 3 (mu U 3 L' 3) = mu U 3 L' from mu_self (mu U 3 L') 3]
  have hc : nI (cN X) = nI (cN (lT gW j (hi - lo + 1))) ↔ X = lT gW j (hi - lo + 1) := by
    rw [nI_eq hXb hTb, cN_f hXf]
    constructor
    · intro e
      have : lT gW j (hi - lo + 1) < zF := by omega
      rw [cN_f this] at e
      exact e
    · intro e
      rw [← e, cN_f hXf]
  rw [show gl false 1 0 = gW from rfl, hc]
  refine ⟨fun c3 => no ?_, fun c3 => ⟨by decide, ?_⟩⟩
  · unfold wz
    rw [show gW (hi - lo + 1) (lT gW (j - 1) (s - lo)) (lT gW j (hi - s + 1)) = X from hX, decide_eq_false c3, Bool.and_false, Bool.and_false, Bool.and_false]
  · have : wz lo hi j s = true := by
      unfold wz
      rw [show gW (hi - lo + 1) (lT gW (j - 1) (s - lo)) (lT gW j (hi - s + 1)) = X from hX, decide_eq_true c1, decide_eq_true c2, decide_eq_true (show lT gW j (hi - lo + 1) < zF by omega), decide_eq_true c3]
      rfl
    rw [this] at hq
    exact hq
theorem zwiseR {V : ST} {lo hi j s : Nat} (hW : WTW 1 0 V) (e0 : gI V 41 = nI lo) (e1 : gI V 42 = nI hi) (e2 : gI V 43 = nI j) (hlo : lo ≤ hi) (hhi : hi ≤ 60) (hj : j ≤ 6) (hj0 : j ≠ 0) (hs : s ≤ 60) {Q : Int32 → ST → Prop}
    (hq : Q (if wz lo hi j s = true then 1 else 0) V) : wp_X12_isWise (nI s) V Q := by
  have hz := zF_e
  unfold wp_X12_isWise wp_X12_isWise_p16 wp_X12_isWise_p104 wp_X12_isWise_p105
  rw [e0, e1, e2]
  have no : wz lo hi j s = false → ((0 : Int32) &&& 1 = (0 : Int32) ∧ Q (0 : Int32) V) := fun h => by
    rw [h] at hq
    exact ⟨by decide, hq⟩
  refine ⟨fun c => no ?_, fun c => ⟨fun c2 => ?_, fun c2 => no ?_⟩⟩
  · have := (nI_leI (by omega) (by omega)).mp c
    unfold wz
    rw [decide_eq_false (by omega), Bool.false_and]
  rotate_left
  · have := mt (nI_leI (a := s) (b := hi) (by omega) (by omega)).mpr c2
    unfold wz
    rw [decide_eq_false (show ¬ s ≤ hi from this), Bool.false_and, Bool.and_false]
  have c1 : lo < s := by
    have := mt (nI_leI (a := s) (b := lo) (by omega) (by omega)).mpr c
    omega
  have c2 : s ≤ hi := (nI_leI (by omega) (by omega)).mp c2
  have w0 : gA V 25 (7 * (hi - lo + 1) + j) = nI (lT gW j (hi - lo + 1)) := (hW j (hi - lo + 1) hj (by omega) (by omega)).1
  have w1 : gA V 25 (7 * (s - lo) + (j - 1)) = nI (lT gW (j - 1) (s - lo)) := (hW (j - 1) (s - lo) (by omega) (by omega) (by omega)).1
  have w2 : gA V 25 (7 * (hi - s + 1) + j) = nI (lT gW j (hi - s + 1)) := (hW j (hi - s + 1) hj (by omega) (by omega)).1
  have l0 := lT_le gW j (m := hi - lo + 1) (by omega) (by omega)
  have l1 := lT_le gW (j - 1) (m := s - lo) (by omega) (by omega)
  have l2 := lT_le gW j (m := hi - s + 1) (by omega) (by omega)
  rw [nI_sub hlo]
  rintro _ rfl
  rw [show nI (hi - lo) + (1 : Int32) = nI (hi - lo + 1) from nI_1 _]
  rintro _ rfl
  rw [show (7 : Int32) * nI (hi - lo + 1) = nI (7 * (hi - lo + 1)) from pk_mul 7 _]
  rintro _ rfl
  rw [nI_add]
  rintro _ rfl
  refine ⟨nI_in (by omega) (by decide), ?_⟩
  rw [nI_clamp (by omega), w0]
  rintro _ rfl
  refine ⟨fun c3 => no ?_, fun c3 => ?_⟩
  · have := (nI_leI (a := 1000000) (by decide) (by omega)).mp c3
    unfold wz
    rw [decide_eq_false (show ¬ lT gW j (hi - lo + 1) < zF by omega), Bool.false_and, Bool.and_false, Bool.and_false]
  have hT : lT gW j (hi - lo + 1) < zF := by
    have := mt (nI_leI (a := 1000000) (b := lT gW j (hi - lo + 1)) (by decide) (by omega)).mpr c3
    omega
  rw [nI_sub (by omega)]
  rintro _ rfl
  rw [show (7 : Int32) * nI (s - lo) = nI (7 * (s - lo)) from pk_mul 7 _]
  rintro _ rfl
  rw [nI_add]
  rintro _ rfl
  rw [show nI (7 * (s - lo) + j) - (1 : Int32) = nI (7 * (s - lo) + j - 1) from nI_sub (b := 1) (by omega)]
  rintro _ rfl
  refine ⟨nI_in (by omega) (by decide), ?_⟩
  rw [nI_clamp (by omega), show 7 * (s - lo) + j - 1 = 7 * (s - lo) + (j - 1) by omega, w1]
  rintro _ rfl
  rw [nI_sub c2]
  rintro _ rfl
  rw [show nI (hi - s) + (1 : Int32) = nI (hi - s + 1) from nI_1 _]
  rintro _ rfl
  rw [show (7 : Int32) * nI (hi - s + 1) = nI (7 * (hi - s + 1)) from pk_mul 7 _]
  rintro _ rfl
  rw [nI_add]
  rintro _ rfl
  refine ⟨nI_in (by omega) (by decide), ?_⟩
  rw [nI_clamp (by omega), w2]
  rintro _ rfl
  refine zgreater (by omega) (by omega) ?_
  rw [one_add]
  rintro _ rfl
  have hr : ((1 + if lT gW (j - 1) (s - lo) ≤ lT gW j (hi - s + 1) then lT gW j (hi - s + 1) else lT gW (j - 1) (s - lo)) < lT gW j (hi - lo + 1) + 1 ↔ gW (hi - lo + 1) (lT gW (j - 1) (s - lo)) (lT gW j (hi - s + 1)) < lT gW j (hi - lo + 1) + 1) ∧ ((1 + if lT gW (j - 1) (s - lo) ≤ lT gW j (hi - s + 1) then lT gW j (hi - s + 1) else lT gW (j - 1) (s - lo)) < lT gW j (hi - lo + 1) + 1 → (1 + if lT gW (j - 1) (s - lo) ≤ lT gW j (hi - s + 1) then lT gW j (hi - s + 1) else lT gW (j - 1) (s - lo)) = gW (hi - lo + 1) (lT gW (j - 1) (s - lo)) (lT gW j (hi - s + 1))) := by
    have := gl_ref (d := 1) (p := 0) (m := hi - lo + 1) (b := lT gW (j - 1) (s - lo)) (w := lT gW j (hi - s + 1)) (s := lT gW j (hi - lo + 1) + 1) (by omega)
    rw [Nat.zero_add] at this
    exact this
  have hb2 : 1 + (if lT gW (j - 1) (s - lo) ≤ lT gW j (hi - s + 1) then lT gW j (hi - s + 1) else lT gW (j - 1) (s - lo)) < 2 ^ 31 := by split <;> omega
  generalize hX : gW (hi - lo + 1) (lT gW (j - 1) (s - lo)) (lT gW j (hi - s + 1)) = X at hr
  have hc : (1 + (if lT gW (j - 1) (s - lo) ≤ lT gW j (hi - s + 1) then lT gW j (hi - s + 1) else lT gW (j - 1) (s - lo)) = lT gW j (hi - lo + 1)) ↔ X = lT gW j (hi - lo + 1) := by
    constructor
    · intro e
      have := hr.2 (by omega)
      omega
    · intro e
      have := hr.2 (hr.1.mpr (by omega))
      omega
  rw [nI_eq hb2 (by omega), hc]
  refine ⟨fun c4 => no ?_, fun c4 => ⟨by decide, ?_⟩⟩
  · unfold wz
    rw [hX, decide_eq_false c4, Bool.and_false, Bool.and_false, Bool.and_false]
  · have : wz lo hi j s = true := by
      unfold wz
      rw [hX, decide_eq_true c1, decide_eq_true c2, decide_eq_true hT, decide_eq_true c4]
      rfl
    rw [this] at hq
    exact hq

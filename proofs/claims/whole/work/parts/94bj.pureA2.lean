/-! the law's text, read by the reference -/
/-- a byte as the reference looks at it -/
def lkc (b : Nat) : Int32 := if b = 256 then -1 else (nI b).toInt8.toInt32
theorem lkc_lo {b : Nat} (h : b < 128) : lkc b = nI b := by
  unfold lkc
  rw [if_neg (by omega)]
  apply Int32.toInt_inj.mp
  rw [Int8.toInt_toInt32, Int32.toInt_toInt8, nI_toInt (by omega), Int.bmod_def]
  omega
theorem lkc_hi {b : Nat} (h : ¬ b < 128) (hb : b ≤ 256) : lkc b < 0 := by
  unfold lkc
  by_cases c : b = 256
  · rw [if_pos c]
    decide
  · rw [if_neg c, Int32.lt_iff_toInt_lt, Int8.toInt_toInt32, Int32.toInt_toInt8, nI_toInt (by omega), Int.bmod_def]
    have e0 : (0 : Int32).toInt = 0 := by decide
    omega
theorem lkc_eq {b c : Nat} (hb : b ≤ 256) (hc : c < 128) : lkc b = nI c ↔ b = c := by
  by_cases h : b < 128
  · rw [lkc_lo h]
    exact nI_eq (by omega) (by omega)
  · refine ⟨fun e => ?_, fun e => by omega⟩
    have := lkc_hi h hb
    rw [e] at this
    exact absurd this (nI_pos (by omega))
theorem zisdgR {b : Nat} (hb : b ≤ 256) {Q : Int32 → Prop} (h1 : isdg b = true → Q 1) (h0 : isdg b = false → Q 0) : wp_X12_in (lkc b) 48 57 Q := by
  by_cases h : b < 128
  · rw [lkc_lo h]
    by_cases c : isdg b = true
    · have h1 := h1 c
      unfold isdg at c
      simp only [Bool.and_eq_true, decide_eq_true_eq] at c
      exact zIn (lo := 48) (hi := 57) c.1 c.2 (by decide) h1
    · have c' : isdg b = false := by
        cases hh : isdg b with
        | true => exact absurd hh c
        | false => rfl
      refine zIn0 (lo := 48) (hi := 57) (by decide) (by decide) (fun a e g1 g2 => c ?_) (h0 c')
      have := (nI_eq (by omega) (by omega)).mp e
      subst this
      unfold isdg
      rw [decide_eq_true g1, decide_eq_true g2]
      rfl
  · have hn := lkc_hi h hb
    have c' : isdg b = false := by
      unfold isdg
      rw [decide_eq_false (show ¬ b ≤ 57 by omega), Bool.and_false]
    refine zIb (.inl ?_) (h0 c')
    rw [Int32.lt_iff_toInt_lt] at hn ⊢
    have e0 : (0 : Int32).toInt = 0 := by decide
    have e1 : (48 : Int32).toInt = 48 := by decide
    omega
def TR (t : Nat → Nat) (n : Nat) (V : ST) : Prop := gI V 12 = nI n ∧ ∀ i : Nat, i < n → gA V 11 i = lkc (t i)
def kR : List Nat := [13, 14, 15, 16, 17, 18]
theorem TR_ag {t : Nat → Nat} {n : Nat} {V V' : ST} {ks : List Nat} (h : TR t n V) (ha : Ag ks V' V) (h1 : 11 ∉ ks) (h2 : 12 ∉ ks) : TR t n V' := ⟨(Ag_I ha 12 h2).trans h.1, fun i hi => by rw [Ag_A ha 11 h1]; exact h.2 i hi⟩
theorem zlook {t : Nat → Nat} {n p : Nat} {V : ST} (hn : n ≤ 120) (hT : TR t n V) (ep : gI V 13 = nI p) (hp : p ≤ n) {Q : Int32 → ST → Prop} (hq : Q (lkc (nxt t n p)) V) : wp_X12_look V Q := by
  unfold wp_X12_look wp_X12_look_p24
  rw [ep, hT.1]
  unfold nxt at hq
  refine ⟨fun c => ?_, fun c => ?_⟩
  · have := (nI_leI (by omega) (by omega)).mp c
    rw [if_neg (by omega)] at hq
    exact hq
  · have h := mt (nI_leI (a := n) (b := p) (by omega) (by omega)).mpr c
    refine ⟨nI_in (by omega) (by decide), ?_⟩
    rintro _ rfl
    rw [nI_clamp (by omega), hT.2 p (by omega)]
    rw [if_pos (by omega)] at hq
    exact hq
/-- what a code is among the reference's steps -/
def aO (c : Int32) : Int32 := if c < 0 then (if c = -1 then 2 else if c = -2 then 2 else if c = -3 then 2 else if c = -4 then 4 else if c = -33 then 3 else -c) else 1
def wO (c : Int32) : Int32 := if c < 0 then (if c = -2 then 1 else if c = -3 then 2 else 0) else c
/-- a state behind one step more -/
def st1 (V : ST) (k : Nat) (a w : Int32) : ST := sI (sA (sA V 17 (upd (gA V 17) (130 + k) a)) 18 (upd (gA V 18) (130 + k) w)) 16 (nI (k + 1))
theorem zaddStep {V : ST} {k : Nat} {a w : Int32} (e : gI V 16 = nI k) (hk : k < 130) (ha : a.toInt8.toInt32 = a) {Q : ST → Prop} (hq : Q (st1 V k a w)) : wp_X12_addStep a w V Q := by
  unfold wp_X12_addStep
  rw [e, show (130 : Int32) + nI k = nI (130 + k) from nI_add 130 k]
  rintro _ rfl
  rw [ha]
  intro y13 ey
  subst y13
  refine ⟨nI_in (by omega) (by decide), ?_⟩
  rintro _ rfl
  simp only [gI_sI, gI_sI', gI_sA, gI_sJ, gI_sG, gA_sA, gA_sA', gA_sI, gA_sJ, gA_sG, gJ_sJ, gJ_sJ', gJ_sI, gJ_sA, gJ_sG, gG_sG, gG_sG', gG_sI, gG_sA, gG_sJ, ne_eq, Nat.reduceEqDiff, Nat.succ_ne_zero, Nat.zero_ne_one, not_false_eq_true, reduceCtorEq]
  rw [e, show (130 : Int32) + nI k = nI (130 + k) from nI_add 130 k]
  rintro _ rfl
  refine ⟨nI_in (by omega) (by decide), ?_⟩
  rintro _ rfl
  simp only [gI_sI, gI_sI', gI_sA, gI_sJ, gI_sG, gA_sA, gA_sA', gA_sI, gA_sJ, gA_sG, gJ_sJ, gJ_sJ', gJ_sI, gJ_sA, gJ_sG, gG_sG, gG_sG', gG_sI, gG_sA, gG_sJ, ne_eq, Nat.reduceEqDiff, Nat.succ_ne_zero, Nat.zero_ne_one, not_false_eq_true, reduceCtorEq]
  rw [e, nI_1, nI_clamp (by omega)]
  rintro _ rfl _ rfl
  have hv : vp_nar .byte a = a := ha
  rw [hv]
  exact hq
theorem zfaulty {V : ST} {p : Nat} (e14 : gI V 14 = -1) (e13 : gI V 13 = nI p) {Q : ST → Prop} (hq : Q (sI V 14 (nI p))) : wp_X12_faulty V Q := by
  unfold wp_X12_faulty wp_X12_faulty_p15
  rw [e14, e13]
  refine ⟨fun c => absurd c (by decide), fun _ => ?_⟩
  rintro _ rfl
  exact hq
theorem fl_no : ¬ (0 : Int32) ≤ -1 := by decide
/-- what the reference's readers leave -/
def rows (k : Nat) (V V' : ST) : Prop := ∀ i : Nat, i < 130 + k → gA V' 17 i = gA V 17 i ∧ gA V' 18 i = gA V 18 i
def VC (k : Nat) (V V' : ST) (cs : List Int32) (p : Nat) : Prop := Ag kR V' V ∧ gI V' 14 = -1 ∧ gI V' 15 = gI V 15 ∧ gI V' 13 = nI p ∧ gI V' 16 = nI (k + cs.length) ∧ rows k V V' ∧ AtF aO (gA V' 17) (130 + k) cs ∧ AtF wO (gA V' 18) (130 + k) cs
def VF (k p0 : Nat) (V V' : ST) (p : Nat) : Prop := Ag kR V' V ∧ gI V' 14 = nI p ∧ gI V' 13 = nI p ∧ (∃ k' : Nat, gI V' 16 = nI k' ∧ k' + p0 ≤ k + p + 1 ∧ k ≤ k') ∧ rows k V V'
theorem rows_t {k k2 : Nat} {V V' V2 : ST} (h : rows k V V') (h2 : rows k2 V' V2) (hk : k ≤ k2) : rows k V V2 := fun i hi => ⟨(h2 i (by omega)).1.trans (h i hi).1, (h2 i (by omega)).2.trans (h i hi).2⟩
theorem VC_app {k : Nat} {V V' V2 : ST} {cs ds : List Int32} {p p2 : Nat} (h : VC k V V' cs p) (h2 : VC (k + cs.length) V' V2 ds p2) : VC k V V2 (cs ++ ds) p2 := by
  obtain ⟨a1, a2, a3, a4, a5, a6, a7, a8⟩ := h
  obtain ⟨b1, b2, b3, b4, b5, b6, b7, b8⟩ := h2
  refine ⟨Ag_t b1 a1, b2, b3.trans a3, b4, ?_, rows_t a6 b6 (by omega), AtF_app (AtF_cg (fun i _ q => (b6 i (by omega)).1) a7) ?_, AtF_app (AtF_cg (fun i _ q => (b6 i (by omega)).2) a8) ?_⟩
  · rw [b5, List.length_append, Nat.add_assoc]
  · rw [Nat.add_assoc]
    exact b7
  · rw [Nat.add_assoc]
    exact b8
theorem VC_st {k p : Nat} {V : ST} (c : Int32) (e14 : gI V 14 = -1) (e13 : gI V 13 = nI p) {a w : Int32} (ha : a = aO c) (hw : w = wO c) : VC k V (st1 V k a w) [c] p := by
  subst ha hw
  refine ⟨Ag_sI (Ag_sA (Ag_sA (Ag_r _ _) (by decide) _) (by decide) _) (by decide) _, e14, rfl, e13, rfl, fun i hi => ⟨?_, ?_⟩, ⟨?_, trivial⟩, ⟨?_, trivial⟩⟩
  · exact Eq.trans (b := upd (gA V 17) (130 + k) (aO c) i) rfl (pk_un (by omega))
  · exact Eq.trans (b := upd (gA V 18) (130 + k) (wO c) i) rfl (pk_un (by omega))
  · exact Eq.trans (b := upd (gA V 17) (130 + k) (aO c) (130 + k)) rfl pk_us
  · exact Eq.trans (b := upd (gA V 18) (130 + k) (wO c) (130 + k)) rfl pk_us
theorem VC_pl {k p : Nat} {V : ST} (e14 : gI V 14 = -1) (e16 : gI V 16 = nI k) : VC k V (sI V 13 (nI p)) [] p := ⟨Ag_sI (Ag_r _ _) (by decide) _, e14, rfl, rfl, e16, fun _ _ => ⟨rfl, rfl⟩, trivial, trivial⟩
theorem VC_0 {k p : Nat} {V : ST} (e14 : gI V 14 = -1) (e13 : gI V 13 = nI p) (e16 : gI V 16 = nI k) : VC k V V [] p := ⟨Ag_r _ _, e14, rfl, e13, e16, fun _ _ => ⟨rfl, rfl⟩, trivial, trivial⟩
/-- it went wrong behind what was laid -/
theorem VF_app {k p0 p1 p2 : Nat} {V V' V2 : ST} {cs : List Int32} {p : Nat} (h : VC k V V' cs p) (h2 : VF (k + cs.length) p1 V' V2 p2) (hl : cs.length + p0 ≤ p1) : VF k p0 V V2 p2 := by
  obtain ⟨a1, a2, a3, a4, a5, a6, a7, a8⟩ := h
  obtain ⟨b1, b2, b7, ⟨k', b3, b4, b6⟩, b5⟩ := h2
  exact ⟨Ag_t b1 a1, b2, b7, ⟨k', b3, by omega, by omega⟩, rows_t a6 b5 (by omega)⟩
theorem VF_st {k p0 p : Nat} {V V' : ST} {k' : Nat} (h1 : Ag kR V' V) (h2 : gI V' 14 = nI p) (h6 : gI V' 13 = nI p) (h3 : k' + 1 + p0 ≤ k + p + 1) (h4 : k ≤ k') (h5 : rows k V V') (a w : Int32) : VF k p0 V (st1 V' k' a w) p := by
  refine ⟨Ag_t (Ag_sI (Ag_sA (Ag_sA (Ag_r _ _) (by decide) _) (by decide) _) (by decide) _) h1, h2, h6, ⟨k' + 1, rfl, h3, by omega⟩, fun i hi => ⟨?_, ?_⟩⟩
  · exact (Eq.trans (b := upd (gA V' 17) (130 + k') a i) rfl (pk_un (by omega))).trans (h5 i hi).1
  · exact (Eq.trans (b := upd (gA V' 18) (130 + k') w i) rfl (pk_un (by omega))).trans (h5 i hi).2
def CR (t : Nat → Nat) (n o : Nat) (f : ST → (ST → Prop) → Prop) (r : zR) (p : Nat) : Prop := ∀ (V : ST) (k : Nat) (Q : ST → Prop), TR t n V → gI V 13 = nI p → gI V 14 = -1 → gI V 15 = nI (6 - o) → gI V 16 = nI k → k ≤ p →
  (r.1 = true → ∀ V' : ST, VC k V V' r.2.1 r.2.2 → Q V') → ((r.1 = false ∨ isdg (nxt t n r.2.2) = true) → ∀ V' : ST, VF k p V V' r.2.2 → Q V') → f V Q
theorem TR_kR {t : Nat → Nat} {n : Nat} {V V' : ST} (h : TR t n V) (ha : Ag kR V' V) : TR t n V' := TR_ag h ha (by decide) (by decide)
/-- the sign of a joining of two -/
theorem sg_O {b r : Nat} (h : rnk b = r) (hr : r ≤ 4) : (nI b).toInt8.toInt32 = nI b ∧ nI b = aO (-nI b) ∧ (0 : Int32) = wO (-nI b) := by
  rcases (rnk_sgn h hr).2.2 with rfl | rfl | rfl | rfl | rfl | rfl | rfl | rfl | rfl | rfl <;> decide
/-- a sign with what follows it, told in the reference's words: rank r -/
def isr (r b : Nat) : Prop := rnk b = r
/-- one turn of a loop behind its sign -/
theorem cr_turn {t : Nat → Nat} {n : Nat} (hn : n ≤ 120) {o r : Nat} (hr : r ≤ 4) {f : ST → (ST → Prop) → Prop} {s : Nat → zR} (hs : okR n s) (hP : ∀ p : Nat, p ≤ n → CR t n o f (s p) p)
    {V : ST} (hT : TR t n V) {k p0 : Nat} (e15 : gI V 15 = nI (6 - o)) (hk : k ≤ p0) {W : ST} {cs : List Int32} {q : Nat} (hw : VC k V W cs q) (hl : cs.length + p0 ≤ q) (hq : q < n) {b : Nat} (eb : b = nxt t n q) (hb : rnk b = r) {Q : ST → Prop}
    (h1 : (s (q + 1)).1 = true → ∀ W' : ST, VC k V W' (cs ++ (s (q + 1)).2.1 ++ [-nI b]) (s (q + 1)).2.2 → Q W')
    (h0 : ((s (q + 1)).1 = false ∨ isdg (nxt t n (s (q + 1)).2.2) = true) → ∀ W' : ST, VF k p0 V W' (s (q + 1)).2.2 → Q W') : f (sI W 13 (nI (q + 1))) (fun v => wp_X12_addStep (nI b) 0 v Q) := by
  obtain ⟨g1, g2, g3⟩ := sg_O hb hr
  obtain ⟨o1, o2, o3⟩ := hs (q + 1) (by omega)
  have w1 := VC_pl (p := q + 1) hw.2.1 hw.2.2.2.2.1
  have w2 := VC_app hw w1
  rw [List.append_nil] at w2
  refine hP (q + 1) (by omega) _ (k + cs.length) _ (TR_kR hT w2.1) rfl w1.2.1 (w2.2.2.1.trans e15) w2.2.2.2.2.1 (by omega) (fun g W' hu => ?_) (fun g W' hu => ?_)
  · obtain ⟨o4, o5, o6, o7⟩ := o3 g
    have w3 := VC_app w2 hu
    have hlen : (cs ++ (s (q + 1)).2.1).length = cs.length + (s (q + 1)).2.1.length := List.length_append
    refine zaddStep (k := k + (cs ++ (s (q + 1)).2.1).length) w3.2.2.2.2.1 (by omega) g1 (h1 g _ ?_)
    exact VC_app w3 (VC_st (-nI b) w3.2.1 w3.2.2.2.1 g2 g3)
  · have w3 := VF_app w2 hu (show cs.length + p0 ≤ q + 1 by omega)
    obtain ⟨b1, b2, b7, ⟨k', b3, b4, b6⟩, b5⟩ := hu
    refine zaddStep (k := k') b3 (by omega) g1 (h0 g _ ?_)
    exact VF_st w3.1 b2 b7 (by omega) (by omega) w3.2.2.2.2 _ _

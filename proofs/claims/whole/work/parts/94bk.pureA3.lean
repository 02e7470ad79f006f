theorem chn_dg {x : Nat → Nat} {s : Nat → zR} {r : Nat} (hr : r ≤ 4) {k : Nat} {cs : List Int32} {p : Nat} (h : isdg (x p) = true) : chn x s r k cs p = (true, cs, p) := by
  cases k with
  | zero => rfl
  | succ k =>
    rw [chn_s, if_neg]
    intro c
    have := (rnk_sgn c hr).2.2
    unfold isdg at h
    simp only [Bool.and_eq_true, decide_eq_true_eq] at h
    omega
theorem cr_chain {t : Nat → Nat} {n : Nat} (hn : n ≤ 120) {o r : Nat} (hr : r ≤ 4) (hr2 : r ≠ 2) {f : ST → (ST → Prop) → Prop} {s : Nat → zR} (hs : okR n s) (hP : ∀ p : Nat, p ≤ n → CR t n o f (s p) p)
    {body : ST → (ST → Prop) → (ST → Prop) → Prop} (hb0 : ∀ (u : ST) (B Q : ST → Prop), 0 ≤ gI u 14 → Q u → body u B Q)
    (hb1 : ∀ (u : ST) (B Q : ST → Prop) (q : Nat), TR t n u → gI u 14 = -1 → gI u 13 = nI q → q ≤ n → ¬ rnk (nxt t n q) = r → Q u → body u B Q)
    (hb2 : ∀ (u : ST) (B Q : ST → Prop) (q : Nat), TR t n u → gI u 14 = -1 → gI u 13 = nI q → q ≤ n → rnk (nxt t n q) = r → f (sI u 13 (nI (q + 1))) (fun v => wp_X12_addStep (nI (nxt t n q)) 0 v B) → body u B Q)
    {p : Nat} (hp : p ≤ n) : CR t n o (fun V Q => f V (fun u1 => ∃ (I : ST → Prop) (μ : ST → Nat), I u1 ∧ ∀ u : ST, I u → body u (fun yu => I yu ∧ μ yu < μ u) Q)) (jnd (nxt t n) s r p) p := by
  intro V k Q hT e13 e14 e15 e16 hk h1 h0
  try dsimp only
  obtain ⟨o1, o2, o3⟩ := hs p hp
  have loop : ∀ (F : zR) (u1 : ST), ((∃ (kf : Nat) (cs : List Int32) (q : Nat), n < q + kf ∧ VC k V u1 cs q ∧ cs.length + p ≤ q ∧ q ≤ n ∧ chn (nxt t n) s r kf cs q = F) ∨ (VF k p V u1 F.2.2 ∧ (F.1 = false ∨ isdg (nxt t n F.2.2) = true) ∧ F.2.2 ≤ n)) →
      (F.1 = true → ∀ V' : ST, VC k V V' F.2.1 F.2.2 → Q V') → ((F.1 = false ∨ isdg (nxt t n F.2.2) = true) → ∀ V' : ST, VF k p V V' F.2.2 → Q V') →
      ∃ (I : ST → Prop) (μ : ST → Nat), I u1 ∧ ∀ u : ST, I u → body u (fun yu => I yu ∧ μ yu < μ u) Q := by
    intro F u1 hu h1 h0
    refine ⟨fun u => (∃ (kf : Nat) (cs : List Int32) (q : Nat), n < q + kf ∧ VC k V u cs q ∧ cs.length + p ≤ q ∧ q ≤ n ∧ chn (nxt t n) s r kf cs q = F) ∨ (VF k p V u F.2.2 ∧ (F.1 = false ∨ isdg (nxt t n F.2.2) = true) ∧ F.2.2 ≤ n), fun u => if gI u 14 = -1 then 121 - (gI u 13).toNatClampNeg else 0, hu, ?_⟩
    rintro u (⟨kf, cs, q, hf, hw, hl, hq, hF⟩ | ⟨hw, hd, hle⟩)
    · have hTu := TR_kR hT hw.1
      by_cases c : rnk (nxt t n q) = r
      · have hx := rnk_sgn c hr
        have hqn := nxt_lt (t := t) (n := n) q (by omega)
        obtain ⟨kf, rfl⟩ : ∃ kf', kf = kf' + 1 := ⟨kf - 1, by omega⟩
        rw [chn_s, if_pos c] at hF
        obtain ⟨a1, a2, a3⟩ := hs (q + 1) (by omega)
        refine hb2 u _ Q q hTu hw.2.1 hw.2.2.2.1 hq c (cr_turn hn hr hs hP hT e15 hk hw hl hqn rfl c (fun g W' hW => ?_) (fun g W' hW => ?_))
        · rw [if_pos g] at hF
          obtain ⟨a4, a5, a6, a7⟩ := a3 g
          refine ⟨.inl ⟨kf, _, _, by omega, hW, ?_, a2, hF⟩, ?_⟩
          · simp only [List.length_append, List.length_singleton]
            omega
          · try dsimp only
            rw [if_pos hW.2.1, if_pos hw.2.1, hW.2.2.2.1, hw.2.2.2.1, nI_clamp (by omega), nI_clamp (by omega)]
            omega
        · have hFp : F.2.2 = (s (q + 1)).2.2 ∧ (F.1 = false ∨ isdg (nxt t n F.2.2) = true) := by
            by_cases g1 : (s (q + 1)).1 = true
            · have gd := g.resolve_left (by rw [g1]; decide)
              rw [if_pos g1, chn_dg hr gd] at hF
              subst hF
              exact ⟨rfl, .inr gd⟩
            · rw [if_neg g1] at hF
              subst hF
              exact ⟨rfl, .inl rfl⟩
          refine ⟨.inr ⟨by rw [hFp.1]; exact hW, hFp.2, by rw [hFp.1]; exact a2⟩, ?_⟩
          try dsimp only
          rw [if_neg (by rw [hW.2.1]; exact nI_nm1 (by omega)), if_pos hw.2.1, hw.2.2.2.1, nI_clamp (by omega)]
          omega
      · have hF2 : F = (true, cs, q) := by
          obtain ⟨kf, rfl⟩ : ∃ kf', kf = kf' + 1 := ⟨kf - 1, by omega⟩
          rw [chn_s, if_neg c] at hF
          exact hF.symm
        subst hF2
        exact hb1 u _ Q q hTu hw.2.1 hw.2.2.2.1 hq c (h1 rfl u hw)
    · refine hb0 u _ Q ?_ (h0 hd u hw)
      rw [hw.2.1]
      exact nI_pos' (by omega)
  unfold jnd at h1 h0
  refine hP p hp V k _ hT e13 e14 e15 e16 hk (fun g V' hV => ?_) (fun g V' hV => ?_)
  · rw [if_pos g] at h1 h0
    obtain ⟨o4, o5, o6, o7⟩ := o3 g
    refine loop _ V' (.inl ⟨mst r, _, _, ?_, hV, o6, o2, rfl⟩) h1 h0
    unfold mst
    rw [if_neg hr2]
    omega
  · by_cases g1 : (s p).1 = true
    · have gd := g.resolve_left (by rw [g1]; decide)
      rw [if_pos g1, chn_dg hr gd] at h1 h0
      exact loop (true, (s p).2.1, (s p).2.2) V' (.inr ⟨hV, .inr gd, o2⟩) h1 h0
    · rw [if_neg g1] at h1 h0
      exact loop (false, [], (s p).2.2) V' (.inr ⟨hV, .inl rfl, o2⟩) h1 h0
theorem cr_cmp {t : Nat → Nat} {n : Nat} (hn : n ≤ 120) (ht : ∀ i : Nat, i < n → t i < 256) {o : Nat} {P : Nat → ST → (ST → Prop) → Prop} {s : Nat → zR} (hs : okR n s) (hP : ∀ p : Nat, p ≤ n → CR t n o (fun V Q => P 2 V Q) (s p) p) {p : Nat} (hp : p ≤ n) :
    CR t n o (fun V Q => wp_X12_compared V P Q) (jnd (nxt t n) s 2 p) p := by
  intro V k Q hT e13 e14 e15 e16 hk h1 h0
  try dsimp only
  obtain ⟨o1, o2, o3⟩ := hs p hp
  have hb := nxt_le ht (s p).2.2
  unfold wp_X12_compared wp_X12_compared_p34 wp_X12_compared_p35
  unfold jnd at h1 h0
  refine hP p hp V k _ hT e13 e14 e15 e16 hk (fun g V' hV => ?_) (fun g V' hV => ?_)
  · rw [if_pos g] at h1 h0
    obtain ⟨o4, o5, o6, o7⟩ := o3 g
    have hTV := TR_kR hT hV.1
    refine zlook hn hTV hV.2.2.2.1 o2 ?_
    have e60 : (lkc (nxt t n (s p).2.2) = (60 : Int32)) ↔ nxt t n (s p).2.2 = 60 := lkc_eq (c := 60) hb (by decide)
    have e61 : (lkc (nxt t n (s p).2.2) = (61 : Int32)) ↔ nxt t n (s p).2.2 = 61 := lkc_eq (c := 61) hb (by decide)
    have e62 : (lkc (nxt t n (s p).2.2) = (62 : Int32)) ↔ nxt t n (s p).2.2 = 62 := lkc_eq (c := 62) hb (by decide)
    rw [e60, e61, e62, hV.2.1, hV.2.2.2.1, nI_1]
    refine ⟨fun c => absurd c fl_no, fun _ => ?_⟩
    show _ ∧ _
    have go : rnk (nxt t n (s p).2.2) = 2 → (∀ y41 : Int32, y41 = nI ((s p).2.2 + 1) → (∀ u42 : ST, u42 = sI V' 13 y41 → (P 2 u42 (fun u46 => (wp_X12_addStep (lkc (nxt t n (s p).2.2)) (0 : Int32) u46 (fun u52 => Q u52)))))) := by
      rintro c _ rfl _ rfl
      have hx := rnk_sgn c (by decide)
      have hqn := nxt_lt (t := t) (n := n) (s p).2.2 (by omega)
      rw [lkc_lo hx.2.1]
      rw [show mst 2 = 0 + 1 from rfl, chn_s, if_pos c] at h1 h0
      obtain ⟨a1, a2, a3⟩ := hs ((s p).2.2 + 1) (by omega)
      refine cr_turn hn (r := 2) (by decide) hs hP hT e15 hk hV o6 hqn rfl c (fun g W' hW => ?_) (fun g W' hW => ?_)
      · rw [if_pos g] at h1
        exact h1 rfl W' hW
      · by_cases g1 : (s ((s p).2.2 + 1)).1 = true
        · have gd := g.resolve_left (by rw [g1]; decide)
          rw [if_pos g1] at h0
          exact h0 (.inr gd) W' hW
        · rw [if_neg g1] at h0
          exact h0 (.inl rfl) W' hW
    have no : ¬ rnk (nxt t n (s p).2.2) = 2 → Q V' := by
      intro c
      rw [show mst 2 = 0 + 1 from rfl, chn_s, if_neg c] at h1
      exact h1 rfl V' hV
    refine ⟨fun c => go (by rw [c]; rfl), fun c => ⟨fun c2 => go (by rw [c2]; rfl), fun c2 => ⟨fun c3 => go (by rw [c3]; rfl), fun c3 => no (fun q => ?_)⟩⟩⟩
    unfold rnk at q
    repeat' split at q
    all_goals omega
  · have hle : (s p).2.2 < 2 ^ 31 := by omega
    have fin : Q V' := by
      by_cases g1 : (s p).1 = true
      · have gd := g.resolve_left (by rw [g1]; decide)
        rw [if_pos g1, chn_dg (by decide) gd] at h0
        exact h0 (.inr gd) V' hV
      · rw [if_neg g1] at h0
        exact h0 (.inl rfl) V' hV
    refine zlook hn (TR_kR hT hV.1) hV.2.2.1 o2 ⟨fun _ => fin, fun c => absurd ?_ c⟩
    rw [hV.2.1]
    exact nI_pos' hle
theorem cr_num {t : Nat → Nat} {n : Nat} (hn : n ≤ 120) (ht : ∀ i : Nat, i < n → t i < 256) {V : ST} {k p : Nat} (hT : TR t n V) (e13 : gI V 13 = nI p) (e14 : gI V 14 = -1) (e16 : gI V 16 = nI k) (hk : k ≤ p) (hp : p ≤ n) {Q : ST → Prop}
    (h1 : isdg (nxt t n p) = true → (∀ V' : ST, VC k V V' [nI (dgs (nxt t n) 4 0 p).1] (dgs (nxt t n) 4 0 p).2 → Q V') ∧ (isdg (nxt t n (dgs (nxt t n) 4 0 p).2) = true → ∀ V' : ST, VF k p V V' (dgs (nxt t n) 4 0 p).2 → Q V'))
    (h0 : isdg (nxt t n p) = false → ∀ V' : ST, VF k p V V' p → Q V') : wp_X12_figure V Q := by
  unfold wp_X12_figure wp_X12_figure_p4
  have hsm := dgs_le (x := nxt t n) nxt_lt 4 0 p hp
  generalize hF : dgs (nxt t n) 4 0 p = F at h1 hsm
  refine ⟨fun x1 x2 v => ∃ (kf w q : Nat), kf ≤ 4 ∧ x1 = nI w ∧ x2 = nI (4 - kf) ∧ p ≤ q ∧ q ≤ n ∧ VC k V v [] q ∧ dgs (nxt t n) kf w q = F ∧ (kf = 4 ∧ q = p ∨ kf < 4 ∧ isdg (nxt t n p) = true), fun _ x2 _ => 4 - x2.toNatClampNeg, ⟨4, 0, p, by omega, rfl, rfl, Nat.le_refl _, hp, VC_0 e14 e13 e16, hF, .inl ⟨rfl, rfl⟩⟩, ?_⟩
  rintro _ _ v ⟨kf, w, q, hkf, rfl, rfl, hpq, hqn, hv, hF, hd⟩
  unfold wp_X12_figure_p4b wp_X12_figure_p52 wp_X12_figure_p70 wp_X12_figure_p74
  have hTv := TR_kR hT hv.1
  have hb := nxt_le ht q
  have e16v : gI v 16 = nI k := hv.2.2.2.2.1
  have one : ((1 : Int32)).toInt8.toInt32 = 1 := by decide
  -- it ends at q with a number that is laid
  have good : (w, q) = F → w < 2 ^ 31 → isdg (nxt t n p) = true → wp_X12_addStep 1 (nI w) v (fun u77 => Q u77) := by
    rintro rfl hw hd
    refine zaddStep e16v (by omega) one ((h1 hd).1 _ ?_)
    have := VC_app hv (VC_st (k := k + ([] : List Int32).length) (nI w) hv.2.1 hv.2.2.2.1 (a := 1) (w := nI w) (by unfold aO; rw [if_neg (nI_pos hw)]) (by unfold wO; rw [if_neg (nI_pos hw)]))
    exact this
  have bad : ∀ a : Int32, (∀ V' : ST, VF k p V V' q → Q V') → wp_X12_faulty v (fun u71 => wp_X12_addStep 1 a u71 (fun u77 => Q u77)) := by
    intro a hq
    refine zfaulty hv.2.1 hv.2.2.2.1 (zaddStep (V := sI v 14 (nI q)) (k := k) e16v (by omega) one (hq _ ?_))
    exact VF_st (V' := sI v 14 (nI q)) (p := q) (Ag_t (Ag_sI (Ag_r _ _) (by decide) _) hv.1) rfl hv.2.2.2.1 (by omega) (Nat.le_refl _) hv.2.2.2.2.2.1 _ _
  have hend : (w, q) = F → (isdg (nxt t n q) = false ∨ kf = 0) → ((nI (4 - kf) = 0 → wp_X12_faulty v (fun u71 => wp_X12_addStep 1 (nI w) u71 (fun u77 => Q u77))) ∧ (¬ nI (4 - kf) = 0 → (wp_X12_look v (fun y57 u57 => (wp_X12_in y57 (48 : Int32) (57 : Int32) (fun y64 => ((y64 = 0 → wp_X12_addStep 1 (nI w) u57 (fun u77 => Q u77)) ∧ (¬ y64 = 0 → wp_X12_faulty u57 (fun u71 => wp_X12_addStep 1 (nI w) u71 (fun u77 => Q u77)))))))))) := by
    intro hFe hdd
    have hw : w < 2 ^ 31 := by
      have := hsm.2.2
      rw [← hFe] at this
      have : w + 1 ≤ 10 ^ 4 * (0 + 1) := this
      omega
    refine ⟨fun c => ?_, fun c => ?_⟩
    · have h4 : 4 - kf = 0 := (nI_eq (b := 0) (by omega) (by decide)).mp c
      obtain ⟨q1, q2⟩ := hd.resolve_right (by omega)
      subst q2
      exact bad _ (h0 (hdd.resolve_right (by omega)))
    · have h4 : kf ≠ 4 := fun e => c (by rw [e]; rfl)
      obtain ⟨q1, q2⟩ := hd.resolve_left (by omega)
      refine zlook hn hTv hv.2.2.2.1 hqn (zisdgR hb (fun g => ⟨fun c3 => absurd c3 (by decide), fun _ => ?_⟩) (fun g => ⟨fun _ => good hFe hw q2, fun c3 => absurd rfl c3⟩))
      refine bad _ ?_
      have hh := (h1 q2).2
      rw [← hFe] at hh
      exact hh g
  refine ⟨fun c1 => ?_, fun c1 => ?_⟩
  · have := (nI_leI (a := 4) (by decide) (by omega)).mp c1
    have : kf = 0 := by omega
    subst this
    exact hend hF (.inr rfl)
  have hk0 : kf ≠ 0 := by
    have := mt (nI_leI (a := 4) (b := 4 - kf) (by decide) (by omega)).mpr c1
    omega
  obtain ⟨kf, rfl⟩ : ∃ k', kf = k' + 1 := ⟨kf - 1, by omega⟩
  rw [dgs_s] at hF
  refine zlook hn hTv hv.2.2.2.1 hqn (zisdgR hb (fun g => ⟨fun c3 => absurd c3 (by decide), fun _ => ?_⟩) (fun g => ⟨fun _ => ?_, fun c3 => absurd rfl c3⟩))
  · rw [if_pos g] at hF
    have g' := g
    unfold isdg at g
    simp only [Bool.and_eq_true, decide_eq_true_eq] at g
    have hqn2 := nxt_lt (t := t) (n := n) q (by omega)
    rw [show (10 : Int32) * nI w = nI (10 * w) from pk_mul 10 w]
    rintro _ rfl
    refine zlook hn hTv hv.2.2.2.1 hqn ?_
    rw [lkc_lo (by omega), nI_add]
    rintro _ rfl
    rw [show nI (10 * w + nxt t n q) - (48 : Int32) = nI (10 * w + nxt t n q - 48) from nI_sub (b := 48) (by omega)]
    rintro _ rfl
    rw [nI_1]
    rintro _ rfl
    rw [hv.2.2.2.1, nI_1]
    rintro _ rfl _ rfl
    have w1 := VC_app hv (VC_pl (p := q + 1) hv.2.1 hv.2.2.2.2.1)
    refine ⟨⟨kf, 10 * w + nxt t n q - 48, q + 1, by omega, rfl, by rw [show 4 - (kf + 1) + 1 = 4 - kf by omega], by omega, hqn2, w1, hF, .inr ⟨by omega, ?_⟩⟩, ?_⟩
    · rcases hd with ⟨-, rfl⟩ | ⟨-, h⟩
      · exact g'
      · exact h
    · try dsimp only
      rw [nI_clamp (by omega), nI_clamp (by omega)]
      omega
  · rw [if_neg (by rw [g]; decide)] at hF
    exact hend hF (.inl g)
theorem zopens {V : ST} {k p o : Nat} (ho : o ≤ 6) (e13 : gI V 13 = nI p) (e14 : gI V 14 = -1) (e15 : gI V 15 = nI (6 - o)) (e16 : gI V 16 = nI k) {Q : Int32 → ST → Prop}
    (h1 : ∀ o' : Nat, o = o' + 1 → Q 1 (sI (sI V 15 (nI (6 - o'))) 13 (nI (p + 1)))) (h0 : o = 0 → ∀ V' : ST, VF k p V V' p → Q 0 V') : wp_X12_opens V Q := by
  unfold wp_X12_opens
  rw [e15]
  refine ⟨fun c => ?_, fun c => ?_⟩
  · have : 6 - o ≠ 6 := fun e => c (by rw [e]; rfl)
    obtain ⟨o', rfl⟩ : ∃ o', o = o' + 1 := ⟨o - 1, by omega⟩
    rw [nI_1, show 6 - (o' + 1) + 1 = 6 - o' by omega]
    rintro _ rfl _ rfl
    simp only [gI_sI, gI_sI', gI_sA, gI_sJ, gI_sG, gA_sA, gA_sA', gA_sI, gA_sJ, gA_sG, gJ_sJ, gJ_sJ', gJ_sI, gJ_sA, gJ_sG, gG_sG, gG_sG', gG_sI, gG_sA, gG_sJ, ne_eq, Nat.reduceEqDiff, Nat.succ_ne_zero, Nat.zero_ne_one, not_false_eq_true, reduceCtorEq]
    rw [e13, nI_1]
    rintro _ rfl _ rfl
    exact ⟨by decide, h1 o' rfl⟩
  · have : 6 - o = 6 := (nI_eq (b := 6) (by omega) (by decide)).mp c
    refine zfaulty e14 e13 ⟨by decide, h0 (by omega) _ ⟨Ag_sI (Ag_r _ _) (by decide) _, rfl, e13, ⟨k, e16, by omega, Nat.le_refl _⟩, fun _ _ => ⟨rfl, rfl⟩⟩⟩
def nmI (b : Nat) : Int32 := if b = 104 then 0 else if b = 106 then 2 else if b = 110 then 1 else -1
theorem znameOf {b : Nat} (hb : b ≤ 256) {Q : Int32 → Prop} (hq : Q (nmI b)) : wp_X12_nameOf (lkc b) Q := by
  unfold wp_X12_nameOf
  unfold nmI at hq
  rw [show (lkc b = (104 : Int32)) ↔ b = 104 from lkc_eq (c := 104) hb (by decide), show (lkc b = (106 : Int32)) ↔ b = 106 from lkc_eq (c := 106) hb (by decide), show (lkc b = (110 : Int32)) ↔ b = 110 from lkc_eq (c := 110) hb (by decide)]
  refine ⟨fun c => by rw [if_pos c] at hq; exact hq, fun c1 => ⟨fun c => by rw [if_neg c1, if_pos c] at hq; exact hq, fun c2 => ⟨fun c => by rw [if_neg c1, if_neg c2, if_pos c] at hq; exact hq, fun c3 => by rw [if_neg c1, if_neg c2, if_neg c3] at hq; exact hq⟩⟩⟩

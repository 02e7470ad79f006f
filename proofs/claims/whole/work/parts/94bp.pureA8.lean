theorem LnAt_get {f g : Nat → Int32} : ∀ {ls : List zL} {a k : Nat}, LnAt f g a k ls → ∀ i : Nat, i < ls.length → ∃ x y : Nat, x ≤ k + (cat ls).length ∧ y ≤ k + (cat ls).length ∧ f (a + i) = nI x ∧ g (a + i) = nI y
  | [], _, _, _, i, hi => absurd hi (Nat.not_lt_zero _)
  | l :: ls, a, k, h, i, hi => by
    have e2 : (cat (l :: ls)).length = l.1.length + l.2.length + (cat ls).length := by
      show (l.1 ++ l.2 ++ cat ls).length = _
      rw [List.length_append, List.length_append]
    cases i with
    | zero => exact ⟨_, _, by omega, by omega, h.1, h.2.1⟩
    | succ i =>
      obtain ⟨x, y, h1, h2, h3, h4⟩ := LnAt_get h.2.2 i (by rw [List.length_cons] at hi; omega)
      refine ⟨x, y, by omega, by omega, ?_, ?_⟩
      · rw [← h3]
        congr 1
        omega
      · rw [← h4]
        congr 1
        omega
/-- lines read so far -/
def SL (V v : ST) (ls : List zL) (q : Nat) : Prop := Ag kT v V ∧ gI v 14 = -1 ∧ gI v 15 = 0 ∧ gI v 13 = nI q ∧ gI v 16 = nI (cat ls).length ∧ (cat ls).length ≤ q ∧ gA v 19 1 = nI ls.length ∧ 2 * ls.length ≤ q + 1 ∧ half V v ∧ AtF aO (gA v 17) 130 (cat ls) ∧ AtF wO (gA v 18) 130 (cat ls) ∧ LnAt (gA v 20) (gA v 21) 61 0 ls
theorem SL_s {V v W v' : ST} {ls : List zL} {q p pos : Nat} {c : zL} (h : SL V v ls q) (hW : Ag [13] W v) (hp : q ≤ p) (hpos : p < pos) (hp2 : 0 < ls.length → q < p) (hc : c.1.length + c.2.length + p ≤ pos) (hL : LC (cat ls).length ls.length W v' c pos) : SL V v' (ls ++ [c]) pos := by
  obtain ⟨a1, a2, a3, a4, a5, a6, a7, a8, a9, a10, a11, a12⟩ := h
  obtain ⟨b1, b2, b3, b4, b5, b6, b7, b8, b9, b10, b11, b12, b13⟩ := hL
  have ec : cat (ls ++ [c]) = cat ls ++ (c.1 ++ c.2) := by
    rw [cat_app]
    show cat ls ++ (c.1 ++ c.2 ++ []) = _
    rw [List.append_nil]
  have el : (cat (ls ++ [c])).length = (cat ls).length + c.1.length + c.2.length := by
    rw [ec, List.length_append, List.length_append, Nat.add_assoc]
  have w17 : gA W 17 = gA v 17 := Ag_A hW 17 (by decide)
  have w18 : gA W 18 = gA v 18 := Ag_A hW 18 (by decide)
  have w19 : gA W 19 = gA v 19 := Ag_A hW 19 (by decide)
  have w20 : gA W 20 = gA v 20 := Ag_A hW 20 (by decide)
  have w21 : gA W 21 = gA v 21 := Ag_A hW 21 (by decide)
  refine ⟨Ag_t b1 (Ag_t (Ag_m hW (by decide)) a1), b2, b3.trans ((Ag_I hW 15 (by decide)).trans a3), b4, by rw [el]; exact b5, by rw [el]; omega, by rw [List.length_append, List.length_singleton]; exact b9, ?_, half_t a9 ⟨fun i hi => ?_, fun i hi => ?_, by rw [b10, w19]⟩, ?_, ?_, ?_⟩
  · rw [List.length_append, List.length_singleton]
    by_cases h0 : 0 < ls.length
    · have := hp2 h0
      omega
    · omega
  · rw [(b6 i (by omega)).1, (b6 i (by omega)).2, w17, w18]
    exact ⟨rfl, rfl⟩
  · rw [(b11 i (by omega)).1, (b11 i (by omega)).2, w20, w21]
    exact ⟨rfl, rfl⟩
  · rw [ec]
    refine AtF_app (AtF_cg (fun i _ q => ?_) a10) b7
    rw [(b6 i q).1, w17]
  · rw [ec]
    refine AtF_app (AtF_cg (fun i _ q => ?_) a11) b8
    rw [(b6 i q).2, w18]
  · refine LnAt_app (LnAt_cg (fun i q1 q2 => ?_) a12) (by rw [b12, Nat.zero_add]) (by rw [b13, Nat.zero_add])
    rw [(b11 i (by omega)).1, (b11 i (by omega)).2, w20, w21]
    exact ⟨rfl, rfl⟩
theorem lns_stop {x : Nat → Nat} {k : Nat} {ls : List zL} {q : Nat} (h : ¬ x q = 59) : lns x k ls q = (true, ls, q) := by
  cases k with
  | zero => rfl
  | succ k =>
    rw [lns_s, if_neg h]
theorem zreadR {t : Nat → Nat} {n : Nat} (hn : n ≤ 120) (ht : ∀ i : Nat, i < n → t i < 256) {V : ST} {Q : Int32 → ST → Prop} (hT : TR t n V)
    (h1 : (txt (nxt t n) n).1 = true → ∀ V' : ST, Ag kU V' V → gI V' 12 = 0 → LT V' (txt (nxt t n) n).2.1 → (cat (txt (nxt t n) n).2.1).length ≤ 121 → (txt (nxt t n) n).2.1.length ≤ 61 → 0 < (txt (nxt t n) n).2.1.length → (∀ l ∈ (txt (nxt t n) n).2.1, okl l) → Q (-1) V')
    (h0 : (txt (nxt t n) n).1 = false → (txt (nxt t n) n).2.2 ≤ n → ∀ V' : ST, Ag kU V' V → gI V' 12 = 0 → half V V' → Q (nI (txt (nxt t n) n).2.2) V') : wp_X12_readText 0 V Q := by
  unfold wp_X12_readText
  rintro _ rfl _ rfl _ rfl _ rfl
  refine ⟨by first | decide | exact nI_in (c := 0) (by decide) (by decide) | exact nI_in (c := 1) (by decide) (by decide) | exact nI_in (c := 2) (by decide) (by decide), ?_⟩
  rintro _ rfl
  generalize hU : sA (sI (sI (sI (sI V 13 0) 14 (-1)) 15 0) 16 0) 19 (upd (gA (sI (sI (sI (sI V 13 0) 14 (-1)) 15 0) 16 0) 19) (1 : Int32).toNatClampNeg 0) = U
  have hAU : Ag kT U V := by
    subst hU
    exact Ag_sA (Ag_sI (Ag_sI (Ag_sI (Ag_sI (Ag_r _ _) (by decide) _) (by decide) _) (by decide) _) (by decide) _) (by decide) _
  have s0 : SL V U [] 0 := by
    refine ⟨hAU, ?_, ?_, ?_, ?_, Nat.le_refl _, ?_, by decide, ⟨fun _ _ => ?_, fun _ _ => ?_, ?_⟩, trivial, trivial, trivial⟩
    all_goals subst hU
    · rfl
    · rfl
    · rfl
    · rfl
    · exact Eq.trans (b := upd (gA V 19) 1 0 1) rfl pk_us
    · exact ⟨rfl, rfl⟩
    · exact ⟨rfl, rfl⟩
    · exact Eq.trans (b := upd (gA V 19) 1 0 0) rfl (pk_un (by decide))
  clear hU
  have hok := okL_lin (x := nxt t n) nxt_lt
  obtain ⟨q1, q2, q3⟩ := hok 0 (by omega)
  have half_LC : ∀ {W v : ST} {k l : Nat} {c : zL} {p : Nat}, LC k l W v c p → Ag kT v W := fun h => h.1
  have loop : ∀ (G : Bool × List zL × Nat) (u1 : ST), ((∃ (kf : Nat) (ls : List zL) (q : Nat), n ≤ q + kf ∧ SL V u1 ls q ∧ q ≤ n ∧ 0 < ls.length ∧ (∀ l ∈ ls, okl l) ∧ lns (nxt t n) kf ls q = G) ∨ (LF V u1 G.2.2 ∧ G.2.2 ≤ n ∧ (G.1 = false ∨ isdg (nxt t n G.2.2) = true))) →
      txt (nxt t n) n = (if G.1 = true then (if G.2.2 = n then G else (false, [], G.2.2)) else (false, [], G.2.2)) → wp_X12_readText_p31 0 u1 Q := by
    intro G u1 hu hG
    rw [hG] at h1 h0
    unfold wp_X12_readText_p31
    refine ⟨fun x1 v => x1 = 0 ∧ ((∃ (kf : Nat) (ls : List zL) (q : Nat), n ≤ q + kf ∧ SL V v ls q ∧ q ≤ n ∧ 0 < ls.length ∧ (∀ l ∈ ls, okl l) ∧ lns (nxt t n) kf ls q = G) ∨ (LF V v G.2.2 ∧ G.2.2 ≤ n ∧ (G.1 = false ∨ isdg (nxt t n G.2.2) = true))), fun _ v => if gI v 14 = -1 then 121 - (gI v 13).toNatClampNeg else 0, ⟨rfl, hu⟩, ?_⟩
    rintro _ v ⟨rfl, ⟨kf, ls, q, hf, hw, hq, hne, hall, hF⟩ | ⟨hw, hle, hd⟩⟩
    · have hw0 := hw
      obtain ⟨a1, a2, a3, a4, a5, a6, a7, a8, a9, a10, a11, a12⟩ := hw
      have hTv : TR t n v := TR_ag hT a1 (by decide) (by decide)
      have hb := nxt_le ht q
      -- it ends here
      have fin : (true, ls, q) = G → wp_X12_readText_p64 0 v Q := by
        rintro rfl
        rw [if_pos rfl] at h1 h0
        unfold wp_X12_readText_p64 wp_X12_readText_p86
        rw [a2, hTv.1, a4]
        refine ⟨fun c => absurd c fl_no, fun _ => ⟨fun c => ?_, fun c => ?_⟩⟩
        · have := (nI_leI (by omega) (by omega)).mp c
          have eq : q = n := by omega
          rw [if_pos (show q = n from eq)] at h1
          rintro _ rfl
          rw [show gI (sI v 12 0) 14 = -1 from a2]
          refine ⟨fun _ => ?_, fun c => absurd (by decide) c⟩
          have hsm : (cat ls).length ≤ 121 := by omega
          refine zcopyA (V0 := V) (V := sI v 12 0) (by omega) hsm hall (Ag_sI (Ag_m a1 (by decide)) (by decide) _) rfl a5 a7 a10 a11 a12 (fun i hi => ?_) (fun V' g1 g2 g3 => h1 rfl V' g1 g2 g3 hsm (by show ls.length ≤ 61; omega) hne hall)
          obtain ⟨x, y, z1, z2, z3, z4⟩ := LnAt_get a12 i hi
          show (gA v 20 (61 + i)).toInt16.toInt32 = gA v 20 (61 + i) ∧ (gA v 21 (61 + i)).toInt16.toInt32 = gA v 21 (61 + i)
          rw [z3, z4, s16 (by omega), s16 (by omega)]
          exact ⟨rfl, rfl⟩
        · have hne2 : ¬ q = n := fun e => c (by rw [e]; exact nI_le (Nat.le_refl _) (by omega))
          rw [if_neg (show ¬ q = n from hne2)] at h0
          refine zfaulty a2 a4 ?_
          rintro _ rfl
          rw [show gI (sI (sI v 14 (nI q)) 12 0) 14 = nI q from rfl]
          refine ⟨fun c => absurd c (nI_pos (by omega)), fun _ => ?_⟩
          exact h0 rfl hq _ (Ag_sI (Ag_sI (Ag_m a1 (by decide)) (by decide) _) (by decide) _) rfl a9
      unfold wp_X12_readText_p31b
      rw [a2]
      refine ⟨fun c => absurd c fl_no, fun _ => zlook hn hTv a4 hq ?_⟩
      rw [show (lkc (nxt t n q) = (59 : Int32)) ↔ nxt t n q = 59 from lkc_eq (c := 59) hb (by decide)]
      refine ⟨fun c => ?_, fun c => ?_⟩
      · rw [lns_stop c] at hF
        exact fin hF
      have hqn := nxt_lt (t := t) (n := n) q (by omega)
      obtain ⟨kf, rfl⟩ : ∃ kf', kf = kf' + 1 := ⟨kf - 1, by omega⟩
      rw [lns_s, if_pos c] at hF
      obtain ⟨b1, b2, b3⟩ := hok (q + 1) (by omega)
      rw [a4, nI_1]
      rintro _ rfl _ rfl
      have hW : Ag [13] (sI v 13 (nI (q + 1))) v := Ag_sI (Ag_r _ _) (by decide) _
      refine lin_rl hn ht (p := q + 1) (by omega) (TR_ag hTv hW (by decide) (by decide)) rfl a2 a3 a5 (by omega) a7 (by omega) (fun g v' hv' => ⟨⟨rfl, .inl ?_⟩, ?_⟩) (fun g v' hv' => ⟨⟨rfl, .inr ?_⟩, ?_⟩)
      · rw [if_pos g] at hF
        obtain ⟨b4, b5, b6, b7⟩ := b3 g
        refine ⟨kf, _, _, by omega, SL_s hw0 hW (Nat.le_succ q) b4 (fun _ => Nat.lt_succ_self q) b6 hv', b2, by rw [List.length_append, List.length_singleton]; omega, fun l hl => ?_, hF⟩
        rcases List.mem_append.mp hl with hl | hl
        · exact hall l hl
        · rw [List.mem_singleton] at hl
          subst hl
          exact b7
      · obtain ⟨b4, b5, b6, b7⟩ := b3 g
        try dsimp only
        rw [if_pos hv'.2.1, if_pos a2, hv'.2.2.2.1, a4, nI_clamp (by omega), nI_clamp (by omega)]
        omega
      · have hFp : G.2.2 = (lin (nxt t n) (q + 1)).2.2 ∧ (G.1 = false ∨ isdg (nxt t n G.2.2) = true) := by
          by_cases g1 : (lin (nxt t n) (q + 1)).1 = true
          · have gd := g.resolve_left (by rw [g1]; decide)
            rw [if_pos g1, lns_stop (fun e => by rw [e] at gd; exact absurd gd (by decide))] at hF
            subst hF
            exact ⟨rfl, .inr gd⟩
          · rw [if_neg g1] at hF
            subst hF
            exact ⟨rfl, .inl rfl⟩
        rw [hFp.1]
        refine ⟨⟨Ag_t hv'.1 (Ag_t (Ag_m hW (by decide)) a1), hv'.2.1, half_t a9 hv'.2.2⟩, b2, ?_⟩
        rw [← hFp.1]
        exact hFp.2
      · try dsimp only
        rw [if_neg (by rw [hv'.2.1]; exact nI_nm1 (by omega)), if_pos a2, a4, nI_clamp (by omega)]
        omega
    · have hG2 : (if G.1 = true then (if G.2.2 = n then G else (false, [], G.2.2)) else (false, [], G.2.2)) = (false, [], G.2.2) := by
        by_cases g1 : G.1 = true
        · have gd := hd.resolve_left (by rw [g1]; decide)
          have : ¬ G.2.2 = n := by
            intro e
            have hx := nxt_lt (t := t) (n := n) G.2.2 (by unfold isdg at gd; simp only [Bool.and_eq_true, decide_eq_true_eq] at gd; omega)
            omega
          rw [if_pos g1, if_neg this]
        · rw [if_neg g1]
      rw [hG2] at h0
      unfold wp_X12_readText_p31b wp_X12_readText_p64 wp_X12_readText_p86
      have e14 := hw.2.1
      have h0' : (0 : Int32) ≤ gI v 14 := by
        rw [e14]
        exact nI_pos' (by omega)
      refine ⟨fun _ => ⟨fun _ => ?_, fun c => absurd h0' c⟩, fun c => absurd h0' c⟩
      rintro _ rfl
      rw [show gI (sI v 12 0) 14 = nI G.2.2 from e14]
      refine ⟨fun c => absurd c (nI_pos (by omega)), fun _ => ?_⟩
      exact h0 rfl hle _ (Ag_sI (Ag_m hw.1 (by decide)) (by decide) _) rfl hw.2.2
  refine lin_rl hn ht (p := 0) (by omega) (TR_ag hT hAU (by decide) (by decide)) s0.2.2.2.1 s0.2.1 s0.2.2.1 s0.2.2.2.2.1 (Nat.le_refl _) s0.2.2.2.2.2.2.1 (by decide) (fun g v hv => ?_) (fun g v hv => ?_)
  · obtain ⟨q4, q5, q6, q7⟩ := q3 g
    refine loop (lns (nxt t n) 119 [(lin (nxt t n) 0).2.1] (lin (nxt t n) 0).2.2) v (.inl ⟨119, _, _, by omega, SL_s s0 (Ag_r _ _) (Nat.le_refl _) q4 (fun c => absurd c (by decide)) q6 hv, q2, Nat.zero_lt_one, fun l hl => ?_, rfl⟩) ?_
    · have hl : l ∈ [(lin (nxt t n) 0).2.1] := hl
      rw [List.mem_singleton] at hl
      subst hl
      exact q7
    · unfold txt
      rw [if_pos g]
  · by_cases g1 : (lin (nxt t n) 0).1 = true
    · have gd := g.resolve_left (by rw [g1]; decide)
      have e := lns_stop (x := nxt t n) (k := 119) (ls := [(lin (nxt t n) 0).2.1]) (q := (lin (nxt t n) 0).2.2) (fun e => by rw [e] at gd; exact absurd gd (by decide))
      refine loop (true, [(lin (nxt t n) 0).2.1], (lin (nxt t n) 0).2.2) v (.inr ⟨⟨Ag_t hv.1 hAU, hv.2.1, half_t s0.2.2.2.2.2.2.2.2.1 hv.2.2⟩, q2, .inr gd⟩) ?_
      unfold txt
      rw [if_pos g1, e]
    · refine loop (false, [], (lin (nxt t n) 0).2.2) v (.inr ⟨⟨Ag_t hv.1 hAU, hv.2.1, half_t s0.2.2.2.2.2.2.2.2.1 hv.2.2⟩, q2, .inl rfl⟩) ?_
      unfold txt
      rw [if_neg g1, if_neg (fun c => ff c)]

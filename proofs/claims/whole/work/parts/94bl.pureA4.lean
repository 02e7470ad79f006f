theorem sI_cm (u : ST) {k l : Nat} (x y : Int32) (h : l ≠ k) : sI (sI u k x) l y = sI (sI u l y) k x := by
  unfold sI mu
  refine Prod.ext (funext fun j => ?_) rfl
  show (if j = l then _ else if j = k then _ else _) = if j = k then _ else if j = l then _ else _
  by_cases h1 : j = l
  · rw [if_pos h1, if_neg (by omega), if_pos h1]
  · rw [if_neg h1, if_neg h1]
theorem cr_opd {t : Nat → Nat} {n : Nat} (hn : n ≤ 120) (ht : ∀ i : Nat, i < n → t i < 256) {P : Nat → ST → (ST → Prop) → Prop} {o : Nat} (ho : o ≤ 6)
    (hE : ∀ o' : Nat, o = o' + 1 → ∀ p : Nat, p ≤ n → CR t n o' (fun V Q => P 5 V Q) (lvl (nxt t n) (opd (nxt t n) o') 5 p) p)
    (hU : ∀ o' : Nat, o = o' + 1 → ∀ p : Nat, p ≤ n → CR t n o' (fun V Q => P 0 V Q) (opd (nxt t n) o' p) p) {p : Nat} (hp : p ≤ n) :
    CR t n o (fun V Q => wp_X12_operand V P Q) (opd (nxt t n) o p) p := by
  intro V k Q hT e13 e14 e15 e16 hk h1 h0
  have hb := nxt_le ht p
  have hl : opd (nxt t n) o p = lef (nxt t n) p (match o with | 0 => (false, [], p) | o' + 1 => if nxt t n p = 40 then enc (nxt t n) (lvl (nxt t n) (opd (nxt t n) o') 5 (p + 1)) else if nxt t n p = 33 ∨ nxt t n p = 45 then trn (nxt t n p) (opd (nxt t n) o' (p + 1)) else (false, [], p)) := by
    cases o <;> rfl
  rw [hl] at h1 h0
  clear hl
  unfold lef at h1 h0
  try dsimp only
  unfold wp_X12_operand wp_X12_operand_p46 wp_X12_operand_p80 wp_X12_operand_p154
  refine zlook hn hT e13 hp (znameOf hb ?_)
  have e33 : (lkc (nxt t n p) = (33 : Int32)) ↔ nxt t n p = 33 := lkc_eq (c := 33) hb (by decide)
  have e45 : (lkc (nxt t n p) = (45 : Int32)) ↔ nxt t n p = 45 := lkc_eq (c := 45) hb (by decide)
  have e40 : (lkc (nxt t n p) = (40 : Int32)) ↔ nxt t n p = 40 := lkc_eq (c := 40) hb (by decide)
  rw [e33, e45, e40]
  have two8 : ((2 : Int32)).toInt8.toInt32 = 2 := by decide
  -- a name
  have nm : ∀ c : Int32, nxt t n p < 256 → nmI (nxt t n p) = wO c → (2 : Int32) = aO c → (∀ V' : ST, VC k V V' [c] (p + 1) → Q V') → wp_X12_nameOf (lkc (nxt t n p)) (fun y15 => (wp_X12_addStep (2 : Int32) y15 V (fun u18 => (∀ y27 : Int32, y27 = (gI u18 13) + (1 : Int32) → (∀ u28 : ST, u28 = sI u18 13 y27 → Q u28))))) := by
    intro c hlt ew ea hq
    have := nxt_lt (t := t) (n := n) p hlt
    refine znameOf hb (zaddStep e16 (by omega) two8 ?_)
    rw [show gI (st1 V k 2 (nmI (nxt t n p))) 13 = nI p from e13, nI_1]
    rintro _ rfl _ rfl
    have w1 := VC_st (k := k) c e14 e13 ea ew
    exact hq _ (VC_app w1 (VC_pl w1.2.1 w1.2.2.2.2.1))
  by_cases k1 : nxt t n p = 104
  · rw [if_neg (by rw [k1]; decide), if_pos k1] at h1
    have en : nmI (nxt t n p) = 0 := by rw [k1]; rfl
    refine ⟨fun c => absurd c (by rw [en]; decide), fun _ => nm (-1) (by omega) (by rw [en]; decide) (by decide) (h1 rfl)⟩
  by_cases k2 : nxt t n p = 110
  · rw [if_neg (by rw [k2]; decide), if_neg k1, if_pos k2] at h1
    have en : nmI (nxt t n p) = 1 := by rw [k2]; rfl
    refine ⟨fun c => absurd c (by rw [en]; decide), fun _ => nm (-2) (by omega) (by rw [en]; decide) (by decide) (h1 rfl)⟩
  by_cases k3 : nxt t n p = 106
  · rw [if_neg (by rw [k3]; decide), if_neg k1, if_neg k2, if_pos k3] at h1
    have en : nmI (nxt t n p) = 2 := by rw [k3]; rfl
    refine ⟨fun c => absurd c (by rw [en]; decide), fun _ => nm (-3) (by omega) (by rw [en]; decide) (by decide) (h1 rfl)⟩
  have en : nmI (nxt t n p) = -1 := by
    unfold nmI
    rw [if_neg k1, if_neg k3, if_neg k2]
  refine ⟨fun _ => ?_, fun c => absurd (by rw [en]; decide) c⟩
  rw [if_neg k1, if_neg k2, if_neg k3] at h1 h0
  have hAg : ∀ o' : Nat, Ag kR (sI (sI V 15 (nI (6 - o'))) 13 (nI (p + 1))) V := fun o' => Ag_sI (Ag_sI (Ag_r _ _) (by decide) _) (by decide) _
  -- the state with the opening closed again
  have back : ∀ (o' : Nat) (W : ST) (cs : List Int32) (q : Nat), o = o' + 1 → VC k (sI (sI V 15 (nI (6 - o'))) 13 (nI (p + 1))) W cs q → gI W 15 - 1 = nI (6 - o) ∧ VC k V (sI W 15 (nI (6 - o))) cs q := by
    intro o' W cs q eo hW
    subst eo
    obtain ⟨a1, a2, a3, a4, a5, a6, a7, a8⟩ := hW
    refine ⟨?_, Ag_t (Ag_sI (Ag_r _ _) (by decide) _) (Ag_t a1 (hAg o')), a2, e15.symm, a4, a5, a6, a7, a8⟩
    rw [a3]
    show nI (6 - o') - nI 1 = _
    rw [nI_sub (by omega), show 6 - o' - 1 = 6 - (o' + 1) by omega]
  have go : nxt t n p = 33 ∨ nxt t n p = 45 → wp_X12_opens V (fun y47 u47 => ((¬ y47 = 0 → (P 0 u47 (fun u55 => (∀ y64 : Int32, y64 = (gI u55 15) - (1 : Int32) → (∀ u65 : ST, u65 = sI u55 15 y64 → ((¬ nxt t n p = 33 → wp_X12_addStep 4 0 u65 (fun u81 => Q u81)) ∧ (nxt t n p = 33 → wp_X12_addStep 3 0 u65 (fun u81 => Q u81)))))))) ∧ (y47 = 0 → Q u47))) := by
    intro hs
    have hpn := nxt_lt (t := t) (n := n) p (by omega)
    rw [if_neg (by rcases hs with e | e <;> rw [e] <;> decide)] at h1 h0
    refine zopens ho e13 e14 e15 e16 (fun o' eo => ⟨fun _ => ?_, fun c => absurd c (by decide)⟩) (fun eo V' hV => ⟨fun c => absurd rfl c, fun _ => ?_⟩)
    · subst eo
      dsimp only at h1 h0
      rw [if_neg (by omega), if_pos hs] at h1 h0
      obtain ⟨o1, o2, o3⟩ := okR_opd (x := nxt t n) nxt_lt o' (p + 1) (by omega)
      unfold trn at h1 h0
      refine hU o' rfl (p + 1) (by omega) _ k _ (TR_kR hT (hAg o')) rfl e14 rfl e16 (by omega) (fun g W hW => ?_) (fun g W hW => ?_)
      · rw [if_pos g] at h1
        obtain ⟨o4, o5, o6, o7⟩ := o3 g
        obtain ⟨b1, b2⟩ := back o' W _ _ rfl hW
        rw [b1]
        rintro _ rfl _ rfl
        have fin : ∀ (c a : Int32), c = (if nxt t n p = 33 then -33 else -4) → a.toInt8.toInt32 = a → a = aO c → (0 : Int32) = wO c → wp_X12_addStep a 0 (sI W 15 (nI (6 - (o' + 1)))) (fun u81 => Q u81) := by
          rintro c a ec ha ea ew
          refine zaddStep b2.2.2.2.2.1 (by omega) ha (h1 rfl _ ?_)
          rw [← ec]
          exact VC_app b2 (VC_st c b2.2.1 b2.2.2.2.1 ea ew)
        exact ⟨fun c => fin (-4) 4 (by rw [if_neg c]) (by decide) (by decide) (by decide), fun c => fin (-33) 3 (by rw [if_pos c]) (by decide) (by decide) (by decide)⟩
      · have hF : (trn (nxt t n p) (opd (nxt t n) o' (p + 1))).2.2 = (opd (nxt t n) o' (p + 1)).2.2 ∧ ((trn (nxt t n p) (opd (nxt t n) o' (p + 1))).1 = false ∨ isdg (nxt t n (trn (nxt t n p) (opd (nxt t n) o' (p + 1))).2.2) = true) := by
          unfold trn
          by_cases g1 : (opd (nxt t n) o' (p + 1)).1 = true
          · rw [if_pos g1]
            exact ⟨rfl, .inr (g.resolve_left (by rw [g1]; decide))⟩
          · rw [if_neg g1]
            exact ⟨rfl, .inl rfl⟩
        have h0 := h0 hF.2
        rw [show (if (opd (nxt t n) o' (p + 1)).1 = true then (true, (opd (nxt t n) o' (p + 1)).2.1 ++ [if nxt t n p = 33 then -33 else -4], (opd (nxt t n) o' (p + 1)).2.2) else (false, [], (opd (nxt t n) o' (p + 1)).2.2)).2.2 = (opd (nxt t n) o' (p + 1)).2.2 from hF.1] at h0
        rintro _ rfl _ rfl
        obtain ⟨b1, b2, b7, ⟨k', b3, b4, b6⟩, b5⟩ := hW
        have fin : ∀ a : Int32, a.toInt8.toInt32 = a → wp_X12_addStep a 0 (sI W 15 (gI W 15 - 1)) (fun u81 => Q u81) := fun a ha => by
          refine zaddStep (V := sI W 15 (gI W 15 - 1)) (k := k') b3 (by omega) ha (h0 _ ?_)
          exact VF_st (V' := sI W 15 (gI W 15 - 1)) (Ag_t (Ag_sI (Ag_r _ _) (by decide) _) (Ag_t b1 (hAg o'))) b2 b7 (by omega) (by omega) b5 _ _
        exact ⟨fun _ => fin 4 (by decide), fun _ => fin 3 (by decide)⟩
    · subst eo
      exact h0 (.inl rfl) V' hV
  have go2 : nxt t n p = 40 → wp_X12_opens V (fun y94 u94 => ((¬ y94 = 0 → (P 5 u94 (fun u102 => (((gI u102 14) < 0 → (wp_X12_look u102 (fun y114 u114 => ((y114 = (41 : Int32) → (∀ y133 : Int32, y133 = (gI u114 13) + (1 : Int32) → (∀ u134 : ST, u134 = sI u114 13 y133 → (∀ y143 : Int32, y143 = (gI u134 15) - (1 : Int32) → (∀ u144 : ST, u144 = sI u134 15 y143 → Q u144))))) ∧ (¬ y114 = (41 : Int32) → (wp_X12_faulty u114 (fun u123 => Q u123))))))) ∧ (¬ (gI u102 14) < 0 → Q u102))))) ∧ (y94 = 0 → Q u94))) := by
    intro hs
    have hpn := nxt_lt (t := t) (n := n) p (by omega)
    rw [if_neg (by rw [hs]; decide)] at h1 h0
    refine zopens ho e13 e14 e15 e16 (fun o' eo => ⟨fun _ => ?_, fun c => absurd c (by decide)⟩) (fun eo V' hV => ⟨fun c => absurd rfl c, fun _ => ?_⟩)
    · subst eo
      dsimp only at h1 h0
      rw [if_pos hs] at h1 h0
      obtain ⟨o1, o2, o3⟩ := okR_lvl (x := nxt t n) nxt_lt (okR_opd nxt_lt o') 5 (p + 1) (by omega)
      have hb2 := nxt_le ht (lvl (nxt t n) (opd (nxt t n) o') 5 (p + 1)).2.2
      unfold enc at h1 h0
      refine hE o' rfl (p + 1) (by omega) _ k _ (TR_kR hT (hAg o')) rfl e14 rfl e16 (by omega) (fun g W hW => ?_) (fun g W hW => ?_)
      · obtain ⟨o4, o5, o6, o7⟩ := o3 g
        obtain ⟨b1, b2⟩ := back o' W _ _ rfl hW
        rw [hW.2.1]
        refine ⟨fun _ => ?_, fun c => absurd (by decide) c⟩
        refine zlook hn (TR_kR hT (Ag_t hW.1 (hAg o'))) hW.2.2.2.1 o2 ?_
        rw [show (lkc (nxt t n (lvl (nxt t n) (opd (nxt t n) o') 5 (p + 1)).2.2) = (41 : Int32)) ↔ nxt t n (lvl (nxt t n) (opd (nxt t n) o') 5 (p + 1)).2.2 = 41 from lkc_eq (c := 41) hb2 (by decide)]
        refine ⟨fun c => ?_, fun c => ?_⟩
        · rw [if_pos ⟨g, c⟩] at h1
          rw [hW.2.2.2.1, nI_1]
          rintro _ rfl _ rfl
          simp only [gI_sI, gI_sI', gI_sA, gI_sJ, gI_sG, gA_sA, gA_sA', gA_sI, gA_sJ, gA_sG, gJ_sJ, gJ_sJ', gJ_sI, gJ_sA, gJ_sG, gG_sG, gG_sG', gG_sI, gG_sA, gG_sJ, ne_eq, Nat.reduceEqDiff, Nat.succ_ne_zero, Nat.zero_ne_one, not_false_eq_true, reduceCtorEq]
          rw [b1]
          rintro _ rfl _ rfl
          have w2 := VC_app b2 (VC_pl (p := (lvl (nxt t n) (opd (nxt t n) o') 5 (p + 1)).2.2 + 1) b2.2.1 b2.2.2.2.2.1)
          rw [List.append_nil] at w2
          rw [sI_cm _ _ _ (show (15 : Nat) ≠ 13 by decide)]
          exact h1 rfl _ w2
        · rw [if_neg (fun q => c q.2)] at h0
          refine zfaulty hW.2.1 hW.2.2.2.1 (h0 (.inl rfl) _ ?_)
          exact ⟨Ag_t (Ag_sI (Ag_r _ _) (by decide) _) (Ag_t hW.1 (hAg o')), rfl, hW.2.2.2.1, ⟨_, hW.2.2.2.2.1, by (try dsimp only); omega, by omega⟩, hW.2.2.2.2.2.1⟩
      · have hnd : ¬ ((lvl (nxt t n) (opd (nxt t n) o') 5 (p + 1)).1 = true ∧ nxt t n (lvl (nxt t n) (opd (nxt t n) o') 5 (p + 1)).2.2 = 41) := by
          rintro ⟨g1, g2⟩
          have gd := g.resolve_left (by rw [g1]; decide)
          rw [g2] at gd
          exact absurd gd (by decide)
        rw [if_neg hnd] at h0
        obtain ⟨b1, b2, b7, ⟨k', b3, b4, b6⟩, b5⟩ := hW
        rw [b2]
        refine ⟨fun c => absurd c (nI_pos (by omega)), fun _ => h0 (.inl rfl) W ⟨Ag_t b1 (hAg o'), b2, b7, ⟨k', b3, by (try dsimp only); omega, b6⟩, b5⟩⟩
    · subst eo
      exact h0 (.inl rfl) V' hV
  refine ⟨fun c => go (.inl c), fun c => ⟨fun c2 => ⟨fun c3 => ?_, fun c3 => go2 c3⟩, fun c2 => go (.inr c2)⟩⟩
  refine cr_num hn ht hT e13 e14 e16 hk hp (fun g => ?_) (fun g => ?_)
  · rw [if_pos g] at h1 h0
    exact ⟨fun V' hV => h1 rfl V' hV, fun gd V' hV => h0 (.inr gd) V' hV⟩
  · rw [if_neg (by rw [g]; decide)] at h0
    cases o with
    | zero => exact h0 (.inl rfl)
    | succ o' =>
      dsimp only at h0
      rw [if_neg c3, if_neg (by omega)] at h0
      exact h0 (.inl rfl)
theorem cr_product {t : Nat → Nat} {n : Nat} (hn : n ≤ 120) (ht : ∀ i : Nat, i < n → t i < 256) {o : Nat} {P : Nat → ST → (ST → Prop) → Prop} {s : Nat → zR} (hs : okR n s) (hP : ∀ p : Nat, p ≤ n → CR t n o (fun V Q => P 0 V Q) (s p) p) {p : Nat} (hp : p ≤ n) :
    CR t n o (fun V Q => wp_X12_product V P Q) (jnd (nxt t n) s 4 p) p := by
  refine cr_chain hn (r := 4) (by decide) (by decide) hs hP (body := fun u B Q => wp_X12_product_p4b u B P Q) (fun u B Q c hq => ?_) (fun u B Q q hT e14 e13 hq c hQ => ?_) (fun u B Q q hT e14 e13 hq c hQ => ?_) hp
  · exact ⟨fun _ => hq, fun c' => absurd c c'⟩
  · have hb := nxt_le ht q
    unfold wp_X12_product_p4b wp_X12_product_p66
    rw [e14]
    refine ⟨fun c' => absurd c' fl_no, fun _ => zlook hn hT e13 hq ⟨fun c' => ?_, fun _ => zlook hn hT e13 hq ⟨fun c' => ?_, fun _ => zlook hn hT e13 hq ⟨fun _ => hQ, fun c' => ?_⟩⟩⟩⟩
    · exact absurd (by rw [(lkc_eq (c := 42) hb (by decide)).mp c']; rfl) c
    · exact absurd (by rw [(lkc_eq (c := 47) hb (by decide)).mp c']; rfl) c
    · exact absurd (by rw [(lkc_eq (c := 37) hb (by decide)).mp c']; rfl) c
  · have hx := (rnk_sgn c (by decide)).2.1
    unfold wp_X12_product_p4b wp_X12_product_p38
    rw [e14]
    have go : wp_X12_look u (fun y39 u39 => (∀ y49 : Int32, y49 = (gI u39 13) + (1 : Int32) → (∀ u50 : ST, u50 = sI u39 13 y49 → (P 0 u50 (fun u54 => (wp_X12_addStep y39 (0 : Int32) u54 (fun u60 => B u60))))))) := by
      refine zlook hn hT e13 hq ?_
      rw [e13, nI_1, lkc_lo hx]
      rintro _ rfl _ rfl
      exact hQ
    have hb : nxt t n q = 42 ∨ nxt t n q = 47 ∨ nxt t n q = 37 := by
      unfold rnk at c
      repeat' split at c
      all_goals omega
    refine ⟨fun c' => absurd c' fl_no, fun _ => zlook hn hT e13 hq ⟨fun _ => go, fun c1 => zlook hn hT e13 hq ⟨fun _ => go, fun c2 => zlook hn hT e13 hq ⟨fun c3 => ?_, fun _ => go⟩⟩⟩⟩
    rcases hb with e | e | e
    · exact absurd (by rw [e]; decide) c1
    · exact absurd (by rw [e]; decide) c2
    · exact absurd (by rw [e]; decide) c3
theorem cr_sum {t : Nat → Nat} {n : Nat} (hn : n ≤ 120) (ht : ∀ i : Nat, i < n → t i < 256) {o : Nat} {P : Nat → ST → (ST → Prop) → Prop} {s : Nat → zR} (hs : okR n s) (hP : ∀ p : Nat, p ≤ n → CR t n o (fun V Q => P 1 V Q) (s p) p) {p : Nat} (hp : p ≤ n) :
    CR t n o (fun V Q => wp_X12_sum V P Q) (jnd (nxt t n) s 3 p) p := by
  refine cr_chain hn (r := 3) (by decide) (by decide) hs hP (body := fun u B Q => wp_X12_sum_p4b u B P Q) (fun u B Q c hq => ?_) (fun u B Q q hT e14 e13 hq c hQ => ?_) (fun u B Q q hT e14 e13 hq c hQ => ?_) hp
  · exact ⟨fun _ => hq, fun c' => absurd c c'⟩
  · have hb := nxt_le ht q
    unfold wp_X12_sum_p4b wp_X12_sum_p57
    rw [e14]
    refine ⟨fun c' => absurd c' fl_no, fun _ => zlook hn hT e13 hq ⟨fun c' => ?_, fun _ => zlook hn hT e13 hq ⟨fun _ => hQ, fun c' => ?_⟩⟩⟩
    · exact absurd (by rw [(lkc_eq (c := 43) hb (by decide)).mp c']; rfl) c
    · exact absurd (by rw [(lkc_eq (c := 45) hb (by decide)).mp c']; rfl) c
  · have hx := (rnk_sgn c (by decide)).2.1
    unfold wp_X12_sum_p4b wp_X12_sum_p29
    rw [e14]
    have go : wp_X12_look u (fun y39 u39 => (∀ y49 : Int32, y49 = (gI u39 13) + (1 : Int32) → (∀ u50 : ST, u50 = sI u39 13 y49 → (P 1 u50 (fun u54 => (wp_X12_addStep y39 (0 : Int32) u54 (fun u60 => B u60))))))) := by
      refine zlook hn hT e13 hq ?_
      rw [e13, nI_1, lkc_lo hx]
      rintro _ rfl _ rfl
      exact hQ
    have hb : nxt t n q = 43 ∨ nxt t n q = 45 := by
      unfold rnk at c
      repeat' split at c
      all_goals omega
    refine ⟨fun c' => absurd c' fl_no, fun _ => zlook hn hT e13 hq ⟨fun _ => go, fun c1 => zlook hn hT e13 hq ⟨fun c2 => ?_, fun _ => go⟩⟩⟩
    rcases hb with e | e
    · exact absurd (by rw [e]; decide) c1
    · exact absurd (by rw [e]; decide) c2
theorem cr_both {t : Nat → Nat} {n : Nat} (hn : n ≤ 120) (ht : ∀ i : Nat, i < n → t i < 256) {o : Nat} {P : Nat → ST → (ST → Prop) → Prop} {s : Nat → zR} (hs : okR n s) (hP : ∀ p : Nat, p ≤ n → CR t n o (fun V Q => P 3 V Q) (s p) p) {p : Nat} (hp : p ≤ n) :
    CR t n o (fun V Q => wp_X12_both V P Q) (jnd (nxt t n) s 1 p) p := by
  refine cr_chain hn (r := 1) (by decide) (by decide) hs hP (body := fun u B Q => wp_X12_both_p4b u B P Q) (fun u B Q c hq => ?_) (fun u B Q q hT e14 e13 hq c hQ => ?_) (fun u B Q q hT e14 e13 hq c hQ => ?_) hp
  · exact ⟨fun _ => hq, fun c' => absurd c c'⟩
  · have hb := nxt_le ht q
    unfold wp_X12_both_p4b wp_X12_both_p44
    rw [e14]
    refine ⟨fun c' => absurd c' fl_no, fun _ => zlook hn hT e13 hq ⟨fun _ => hQ, fun c' => ?_⟩⟩
    exact absurd (by rw [(lkc_eq (c := 38) hb (by decide)).mp c']; rfl) c
  · have hb : nxt t n q = 38 := by
      unfold rnk at c
      repeat' split at c
      all_goals omega
    unfold wp_X12_both_p4b
    rw [e14]
    refine ⟨fun c' => absurd c' fl_no, fun _ => zlook hn hT e13 hq ⟨fun c1 => absurd (by rw [hb]; decide) c1, fun _ => ?_⟩⟩
    rw [e13, nI_1]
    rintro _ rfl _ rfl
    rw [hb] at hQ
    exact hQ
theorem cr_either {t : Nat → Nat} {n : Nat} (hn : n ≤ 120) (ht : ∀ i : Nat, i < n → t i < 256) {o : Nat} {P : Nat → ST → (ST → Prop) → Prop} {s : Nat → zR} (hs : okR n s) (hP : ∀ p : Nat, p ≤ n → CR t n o (fun V Q => P 4 V Q) (s p) p) {p : Nat} (hp : p ≤ n) :
    CR t n o (fun V Q => wp_X12_either V P Q) (jnd (nxt t n) s 0 p) p := by
  refine cr_chain hn (r := 0) (by decide) (by decide) hs hP (body := fun u B Q => wp_X12_either_p4b u B P Q) (fun u B Q c hq => ?_) (fun u B Q q hT e14 e13 hq c hQ => ?_) (fun u B Q q hT e14 e13 hq c hQ => ?_) hp
  · exact ⟨fun _ => hq, fun c' => absurd c c'⟩
  · have hb := nxt_le ht q
    unfold wp_X12_either_p4b wp_X12_either_p44
    rw [e14]
    refine ⟨fun c' => absurd c' fl_no, fun _ => zlook hn hT e13 hq ⟨fun _ => hQ, fun c' => ?_⟩⟩
    exact absurd (by rw [(lkc_eq (c := 124) hb (by decide)).mp c']; rfl) c
  · have hb : nxt t n q = 124 := by
      unfold rnk at c
      repeat' split at c
      all_goals omega
    unfold wp_X12_either_p4b
    rw [e14]
    refine ⟨fun c' => absurd c' fl_no, fun _ => zlook hn hT e13 hq ⟨fun c1 => absurd (by rw [hb]; decide) c1, fun _ => ?_⟩⟩
    rw [e13, nI_1]
    rintro _ rfl _ rfl
    rw [hb] at hQ
    exact hQ
theorem cr_lvl {t : Nat → Nat} {n : Nat} (hn : n ≤ 120) (ht : ∀ i : Nat, i < n → t i < 256) {o : Nat} {O : Nat → zR} (hO : okR n O) {D0 : Nat} (hP : ∀ D : Nat, D0 ≤ D → ∀ p : Nat, p ≤ n → CR t n o (fun V Q => wpS D 0 V Q) (O p) p) {D : Nat} (hD : D0 + 5 ≤ D) {p : Nat} (hp : p ≤ n) : CR t n o (fun V Q => wpS D 5 V Q) (lvl (nxt t n) O 5 p) p := by
  obtain ⟨D, rfl⟩ : ∃ D', D = D' + 5 := ⟨D - 5, by omega⟩
  have l1 : ∀ p : Nat, p ≤ n → CR t n o (fun V Q => wpS (D + 1) 1 V Q) (lvl (nxt t n) O 1 p) p := fun p hp => cr_product hn ht (P := wpS D) hO (hP D (by omega)) hp
  have l2 : ∀ p : Nat, p ≤ n → CR t n o (fun V Q => wpS (D + 2) 2 V Q) (lvl (nxt t n) O 2 p) p := fun p hp => cr_sum hn ht (P := wpS (D + 1)) (okR_lvl nxt_lt hO 1) l1 hp
  have l3 : ∀ p : Nat, p ≤ n → CR t n o (fun V Q => wpS (D + 3) 3 V Q) (lvl (nxt t n) O 3 p) p := fun p hp => cr_cmp hn ht (P := wpS (D + 2)) (okR_lvl nxt_lt hO 2) l2 hp
  have l4 : ∀ p : Nat, p ≤ n → CR t n o (fun V Q => wpS (D + 4) 4 V Q) (lvl (nxt t n) O 4 p) p := fun p hp => cr_both hn ht (P := wpS (D + 3)) (okR_lvl nxt_lt hO 3) l3 hp
  exact cr_either hn ht (P := wpS (D + 4)) (okR_lvl nxt_lt hO 4) l4 hp
theorem cr_all {t : Nat → Nat} {n : Nat} (hn : n ≤ 120) (ht : ∀ i : Nat, i < n → t i < 256) : ∀ o : Nat, o ≤ 6 → ∀ D : Nat, 6 * o + 1 ≤ D → ∀ p : Nat, p ≤ n → CR t n o (fun V Q => wpS D 0 V Q) (opd (nxt t n) o p) p
  | 0, ho, D, hD, p, hp => by
    obtain ⟨D, rfl⟩ : ∃ D', D = D' + 1 := ⟨D - 1, by omega⟩
    exact cr_opd hn ht (P := wpS D) ho (fun o' e => by omega) (fun o' e => by omega) hp
  | o + 1, ho, D, hD, p, hp => by
    obtain ⟨D, rfl⟩ : ∃ D', D = D' + 1 := ⟨D - 1, by omega⟩
    refine cr_opd hn ht (P := wpS D) ho (fun o' e p hp => ?_) (fun o' e p hp => ?_) hp
    · have : o' = o := by omega
      subst this
      exact cr_lvl hn ht (okR_opd nxt_lt _) (cr_all hn ht o' (by omega)) (by omega) hp
    · have : o' = o := by omega
      subst this
      exact cr_all hn ht o' (by omega) D (by omega) p hp
theorem cr_exq {t : Nat → Nat} {n : Nat} (hn : n ≤ 120) (ht : ∀ i : Nat, i < n → t i < 256) {p : Nat} (hp : p ≤ n) : CR t n 6 (fun V Q => wpS 60 5 V Q) (exq (nxt t n) p) p := cr_lvl hn ht (okR_opd nxt_lt 6) (cr_all hn ht 6 (by decide)) (by decide) hp

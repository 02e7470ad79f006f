theorem sh_mem {s : Nat} (hs : s < 6) : 18 + s ∈ [18, 19, 20, 21, 22, 23] := by
  simp only [List.mem_cons, List.not_mem_nil, or_false]
  omega
/-- is it a body: asked on both sides -/
theorem zbodyq {B V : ST} (hB : RB B V) (a : Int32) : (∃ b n : Nat, n ≤ 50 ∧ gI V 49 = nI n ∧ b < n ∧ a = nI b ∧ (∀ Q : Int32 → ST → Prop, Q 1 B → wp_X0_has a B Q) ∧ (∀ Q : Int32 → ST → Prop, Q 1 V → wp_X12_isBody a V Q)) ∨ ((∀ Q : Int32 → ST → Prop, Q 0 B → wp_X0_has a B Q) ∧ (∀ Q : Int32 → ST → Prop, Q 0 V → wp_X12_isBody a V Q)) := by
  obtain ⟨n, k, hn, e1, e2, hk, e3, e4, hk2, ht⟩ := hB
  have hneg : a < 0 → (∀ Q : Int32 → ST → Prop, Q 0 B → wp_X0_has a B Q) ∧ (∀ Q : Int32 → ST → Prop, Q 0 V → wp_X12_isBody a V Q) := fun c => by
    refine ⟨fun Q hq => ?_, fun Q hq => ?_⟩
    · unfold wp_X0_has wp_X0_has_p16 wp_X0_has_p17
      exact ⟨fun _ => ⟨by decide, hq⟩, fun c' => absurd c c'⟩
    · unfold wp_X12_isBody
      rintro _ rfl
      exact zin (fun p _ => absurd c p) (fun _ => ⟨by decide, hq⟩)
  by_cases c : a < 0
  · exact .inr (hneg c)
  · obtain ⟨b, hb, rfl⟩ := nI_of c
    by_cases c2 : b < n
    · refine .inl ⟨b, n, hn, e2, c2, rfl, fun Q hq => ?_, fun Q hq => ?_⟩
      · unfold wp_X0_has wp_X0_has_p16 wp_X0_has_p17
        refine ⟨fun c' => absurd c' c, fun _ => ?_⟩
        rw [e1]
        exact ⟨fun c' => absurd ((nI_leI (by omega) hb).mp c') (by omega), fun _ => ⟨by decide, hq⟩⟩
      · unfold wp_X12_isBody
        rw [e2]
        obtain ⟨n', rfl⟩ : ∃ n', n = n' + 1 := ⟨n - 1, by omega⟩
        rw [nI_pred]
        rintro _ rfl
        exact zIn (lo := 0) (by omega) (by omega) (by omega) ⟨by decide, hq⟩
    · refine .inr ⟨fun Q hq => ?_, fun Q hq => ?_⟩
      · unfold wp_X0_has wp_X0_has_p16 wp_X0_has_p17
        refine ⟨fun c' => absurd c' c, fun _ => ?_⟩
        rw [e1]
        exact ⟨fun _ => ⟨by decide, hq⟩, fun c' => absurd ((nI_leI (by omega) hb).mpr (by omega)) c'⟩
      · unfold wp_X12_isBody
        rw [e2]
        rintro _ rfl
        refine zin (fun p q => ?_) (fun _ => ⟨by decide, hq⟩)
        exfalso
        refine q (Int32.lt_iff_toInt_lt.mpr ?_)
        rw [nI_toInt hb]
        cases n with
        | zero =>
          have : (nI 0 - 1 : Int32).toInt = -1 := by decide
          omega
        | succ n' =>
          rw [nI_pred, nI_toInt (by omega)]
          omega
theorem zkeep {U : CS} {V : ST} (hS : RS U V) (hB : RB (U 17) V) (a1 a2 : Int32) : Sim (wp_X11_keep a1 a2 U) (wp_X12_keep a1 a2 V) (RSx U V) := by
  intro Q h
  have hS0 := hS
  obtain ⟨n, hn, e9, hS⟩ := hS
  unfold wp_X11_keep wp_X11_keep_p23
  rcases shelf_or a1 with ⟨s, hs, rfl⟩ | hbad
  · refine zShelfY hs ⟨fun c => absurd c (by decide), fun _ => ?_⟩
    have main : ∀ S' : ST, S' = sI (sI (sI (U (18 + s)) 1 a2) 2 (-1)) 3 0 → (∀ K : Int32 → ST → Prop, wp_X12_keep_p22 (nI s) a2 V K → wp_X12_keep (nI s) a2 V K) → (RS1 S' (sA V 53 (upd (gA V 53) s a2)) s n) → wp_X11_keep_p25 (nI s) a2 U Q := by
      intro S' e hrf h1
      unfold wp_X11_keep_p25
      refine ⟨nI_in hs (by decide), ?_⟩
      rw [nI_clamp (by omega)]
      unfold wp_X6_holdBody
      rintro _ rfl _ rfl _ rfl _ rfl
      subst e
      refine h _ _ fun K hK => hrf _ ?_
      unfold wp_X12_keep_p22
      refine ⟨nI_in hs (by decide), ?_⟩
      rintro _ rfl
      rw [nI_clamp (by omega)]
      refine hK _ ⟨RS_upd hn e9 hS hs rfl (fun t ht hts => ⟨?_, rfl, fun _ _ => rfl⟩) h1, AgU_mu (AgU_r _ _) (sh_mem hs) _, Ag_sA (Ag_r _ _) (by decide) _⟩
      exact pk_un hts
    by_cases c : a2 = -1
    · subst c
      refine ⟨fun _ => main _ rfl (fun K hk => ?_) (.inl ⟨rfl, rfl, pk_us⟩), fun c => absurd rfl c⟩
      unfold wp_X12_keep
      exact zShelfYM hs ⟨fun c => absurd c (by decide), fun _ => ⟨fun _ => hk, fun c => absurd rfl c⟩⟩
    · refine ⟨fun c' => absurd c' c, fun _ => ?_⟩
      rcases zbodyq hB a2 with ⟨b, n', hn', e9', hb, rfl, q1, q2⟩ | ⟨q1, q2⟩
      · have : n' = n := (nI_eq (by omega) (by omega)).mp (e9'.symm.trans e9)
        subst this
        refine q1 _ ?_
        rintro _ rfl
        rw [mu_self]
        refine ⟨fun _ => main _ rfl (fun K hk => ?_) (.inr (.inl ⟨b, hb, rfl, rfl, pk_us⟩)), fun c => absurd c (by decide)⟩
        unfold wp_X12_keep
        refine zShelfYM hs ⟨fun c => absurd c (by decide), fun _ => ⟨fun c' => absurd c' c, fun _ => q2 _ ⟨fun _ => hk, fun c => absurd c (by decide)⟩⟩⟩
      · refine q1 _ ?_
        rintro _ rfl
        rw [mu_self]
        refine ⟨fun c => absurd rfl c, fun _ => h _ _ fun K hK => ?_⟩
        unfold wp_X12_keep wp_X12_keep_p20
        exact zShelfYM hs ⟨fun c => absurd c (by decide), fun _ => ⟨fun c' => absurd c' c, fun _ => q2 _ ⟨fun c => absurd rfl c, fun _ => hK _ ⟨hS0, AgU_r _ _, Ag_r _ _⟩⟩⟩⟩
  · refine zShelfN hbad ⟨fun _ => h _ _ fun K hK => ?_, fun c => absurd rfl c⟩
    unfold wp_X12_keep wp_X12_keep_p20
    exact zShelfNM hbad ⟨fun _ => hK _ ⟨hS0, AgU_r _ _, Ag_r _ _⟩, fun c => absurd rfl c⟩
/-- a row emptied -/
def clr (f : Nat → Int64) (a n : Nat) : Nat → Int64 := fun j => if a ≤ j ∧ j < a + n then 0 else f j
theorem clr_0 (f : Nat → Int64) (a : Nat) : clr f a 0 = f := funext fun j => if_neg (by omega)
theorem clr_s (f : Nat → Int64) (a n : Nat) : vp_updL (clr f a n) (a + n) 0 = clr f a (n + 1) := funext fun j => by
  by_cases c : j = a + n
  · subst c
    rw [pk_uLs]
    exact (if_pos (by omega)).symm
  · rw [pk_uLn c]
    unfold clr
    by_cases c2 : a ≤ j ∧ j < a + n
    · rw [if_pos c2, if_pos (by omega)]
    · rw [if_neg c2, if_neg (by omega)]
theorem clr_in {f : Nat → Int64} {a n j : Nat} (h : j < n) : clr f a n (a + j) = 0 := if_pos (by omega)
theorem clr_out {f : Nat → Int64} {a n j : Nat} (h : j < a ∨ a + n ≤ j) : clr f a n j = f j := if_neg (by omega)
theorem sJ_sJ (u : ST) (k : Nat) (x y : Nat → Int64) : sJ (sJ u k x) k y = sJ u k y := by
  unfold sJ mu
  refine Prod.ext rfl (Prod.ext rfl (Prod.ext (funext fun j => ?_) rfl))
  show (if j = k then _ else if j = k then _ else _) = if j = k then _ else _
  split <;> rfl
theorem sJ_self (u : ST) (k : Nat) : sJ u k (gJ u k) = u := by
  unfold sJ mu gJ
  refine Prod.ext rfl (Prod.ext rfl (Prod.ext (funext fun j => ?_) rfl))
  show (if j = k then u.2.2.1 k else u.2.2.1 j) = _
  split
  · rename_i e
    rw [e]
  · rfl
theorem zfill {S : ST} {Q : ST → Prop} (h : Q (sJ S 0 (clr (gJ S 0) 0 60))) : wp_J7_fill_d0a16 0 S Q := by
  unfold wp_J7_fill_d0a16 wp_J7_fill_d0a16_p6
  refine ⟨fun x1 x3 x4 u => x1 = 0 ∧ x4 = nI 60 ∧ ∃ i : Nat, i ≤ 60 ∧ x3 = nI i ∧ u = sJ S 0 (clr (gJ S 0) 0 i), fun _ x3 _ _ => 60 - x3.toNatClampNeg, ⟨rfl, rfl, 0, by decide, rfl, by rw [clr_0, sJ_self]⟩, ?_⟩
  rintro _ _ _ _ ⟨rfl, rfl, i, hi, rfl, rfl⟩
  unfold wp_J7_fill_d0a16_p6b
  refine ⟨fun c => ?_, fun c => ?_⟩
  · have := (nI_leI (a := 60) (b := i) (by decide) (by omega)).mp c
    have : i = 60 := by omega
    subst this
    exact h
  · have hlt : i < 60 := by
      have := mt (nI_leI (a := 60) (b := i) (by decide) (by omega)).mpr c
      omega
    refine ⟨nI_in hlt (by decide), ?_⟩
    rintro _ rfl _ rfl
    rw [nI_clamp (by omega), nI_1]
    refine ⟨⟨rfl, rfl, i + 1, by omega, rfl, ?_⟩, ?_⟩
    · simp only [gI_sI, gI_sI', gI_sA, gI_sJ, gI_sG, gA_sA, gA_sA', gA_sI, gA_sJ, gA_sG, gJ_sJ, gJ_sJ', gJ_sI, gJ_sA, gJ_sG, gG_sG, gG_sG', gG_sI, gG_sA, gG_sJ, ne_eq, Nat.reduceEqDiff, Nat.succ_ne_zero, Nat.zero_ne_one, not_false_eq_true, reduceCtorEq]
      rw [sJ_sJ]
      have := clr_s (gJ S 0) 0 i
      rw [Nat.zero_add] at this
      rw [this]
    · show 60 - (nI (i + 1)).toNatClampNeg < 60 - (nI i).toNatClampNeg
      rw [nI_clamp (by omega), nI_clamp (by omega)]
      omega

theorem zmendRef {w v : Nat} (hw : w < 4) (hv : OKv w v) {V : ST} {Q : Int32 → ST → Prop} (h : wp_X12_changes (nI w) 0 (nI v) V Q) : wp_X12_mend (nI w) (nI v) V Q := by
  have hv2 := OKv_lt hv
  unfold wp_X12_mend wp_X12_mend_p53 wp_X12_mend_p75 wp_X12_mend_p97 wp_X12_mend_p119
  have hh : ∀ {lo hi : Nat} {Q2 : Int32 → Prop}, lo ≤ v → v ≤ hi → hi < 100 → Q2 1 → wp_X12_in (nI v) (nI lo) (nI hi) Q2 := by
    intro lo hi Q2 h1 h2 h3 hq
    refine zin (fun _ _ => hq) (fun p => ?_)
    rcases p with p | p
    · have := (nI_ltI (by omega) (by omega)).mp p
      omega
    · have := (nI_ltI (by omega) (by omega)).mp p
      omega
  match w, hw with
  | 0, _ => exact ⟨fun _ => hh (lo := 1) (hi := 60) hv.1 hv.2 (by decide) ⟨fun c => absurd c (by decide), fun _ => h⟩, fun c => absurd rfl c⟩
  | 1, _ => exact ⟨fun c => absurd c (by decide), fun _ => ⟨fun _ => hh (lo := 0) (hi := 6) hv.1 hv.2 (by decide) ⟨fun c => absurd c (by decide), fun _ => h⟩, fun c => absurd rfl c⟩⟩
  | 2, _ => exact ⟨fun c => absurd c (by decide), fun _ => ⟨fun c => absurd c (by decide), fun _ => ⟨fun _ => hh (lo := 0) (hi := 99) hv.1 hv.2 (by decide) ⟨fun c => absurd c (by decide), fun _ => h⟩, fun c => absurd rfl c⟩⟩⟩
  | 3, _ => exact ⟨fun c => absurd c (by decide), fun _ => ⟨fun c => absurd c (by decide), fun _ => ⟨fun c => absurd c (by decide), fun _ => ⟨fun _ => hh (lo := 0) (hi := 99) hv.1 hv.2 (by decide) ⟨fun c => absurd c (by decide), fun _ => h⟩, fun c => absurd rfl c⟩⟩⟩⟩
/-- the reference refuses what doesn't fit -/
theorem zmendBad {a1 a2 : Int32} (hb : ∀ w v : Nat, a1 = nI w → a2 = nI v → w < 4 → ¬ OKv w v) {V : ST} {Q : Int32 → ST → Prop} (h : Q (-1) V) : wp_X12_mend a1 a2 V Q := by
  unfold wp_X12_mend wp_X12_mend_p53 wp_X12_mend_p75 wp_X12_mend_p97 wp_X12_mend_p119
  have hh : ∀ {w lo hi : Nat} {Q2 : Int32 → Prop}, w < 4 → a1 = nI w → lo < 100 → hi < 100 → (∀ v : Nat, lo ≤ v → v ≤ hi → OKv w v) → Q2 0 → wp_X12_in a2 (nI lo) (nI hi) Q2 := by
    intro w lo hi Q2 hw e hlo h3 hk hq
    refine zin (fun p q => ?_) (fun _ => hq)
    exfalso
    have h0 : ¬ a2 < 0 := by
      intro c
      refine p (Int32.lt_iff_toInt_lt.mpr ?_)
      rw [nI_toInt (by omega)]
      have := Int32.lt_iff_toInt_lt.mp c
      have e0 : (0 : Int32).toInt = 0 := by decide
      omega
    obtain ⟨v, hv, rfl⟩ := nI_of h0
    refine hb w v e rfl hw (hk v ?_ ?_)
    · exact Nat.le_of_not_lt (mt (nI_ltI hv (by omega)).mpr p)
    · exact Nat.le_of_not_lt (mt (nI_ltI (by omega) hv).mpr q)
  refine ⟨fun c => hh (w := 0) (lo := 1) (hi := 60) (by decide) c (by decide) (by decide) (fun v h1 h2 => ⟨h1, h2⟩) ⟨fun _ => h, fun c => absurd rfl c⟩, fun _ => ⟨fun c => hh (w := 1) (lo := 0) (hi := 6) (by decide) c (by decide) (by decide) (fun v h1 h2 => ⟨h1, h2⟩) ⟨fun _ => h, fun c => absurd rfl c⟩, fun _ => ⟨fun c => hh (w := 2) (lo := 0) (hi := 99) (by decide) c (by decide) (by decide) (fun v h1 h2 => ⟨h1, h2⟩) ⟨fun _ => h, fun c => absurd rfl c⟩, fun _ => ⟨fun c => hh (w := 3) (lo := 0) (hi := 99) (by decide) c (by decide) (by decide) (fun v h1 h2 => ⟨h1, h2⟩) ⟨fun _ => h, fun c => absurd rfl c⟩, fun _ => h⟩⟩⟩⟩
/-- a change noted on both sides, room there -/
theorem RT_note {T V : ST} {d' : Nat} {val w b a : Nat → Nat} {x y : Nat} (f : Nat → Int32)
    (hd : d' < 40) (e4 : ∀ i, i < d' → w i < 4 ∧ gA T 1 i = nI (w i) ∧ gA V 7 i = nI (w i) ∧ gA T 2 i = nI (b i) ∧ gA V 9 i = nI (b i) ∧ OKv (w i) (b i) ∧ gA T 3 i = nI (a i) ∧ gA V 10 i = nI (a i) ∧ OKv (w i) (a i))
    (hv : ∀ k : Nat, k < 4 → gA T 0 k = nI (val k) ∧ gI V (k + 1) = nI (val k) ∧ OKv k (val k)) (hx : x < 4) (hy : OKv x y) (h6 : gI V 6 = 0) :
    RT (sA (sI (sI (sA (sA (sA T 1 (upd (gA T 1) d' (nI x))) 2 (upd (gA T 2) d' (nI (val x)))) 3 (upd (gA T 3) d' (nI y))) 4 (nI (d' + 1))) 5 (nI (d' + 1))) 0 (upd (gA T 0) x (nI y)))
       (sI (sI (sA (sA (sA (sA V 7 (upd (gA V 7) d' (nI x))) 8 f) 9 (upd (gA V 9) d' (nI (val x)))) 10 (upd (gA V 10) d' (nI y))) 5 (nI (d' + 1))) (x + 1) (nI y)) := by
  refine ⟨d' + 1, 0, fun k => if k = x then y else val k, fun i => if i = d' then x else w i, fun i => if i = d' then val x else b i, fun i => if i = d' then y else a i, by omega, rfl, ?_, rfl, ?_, ?_, ?_⟩
  · rw [gI_sI' _ _ (by omega)]
    rfl
  · rw [gI_sI' _ _ (by omega)]
    exact h6
  · intro k hk
    by_cases e : k = x
    · subst e
      refine ⟨?_, ?_, ?_⟩
      · show upd (gA T 0) k (nI y) k = nI (if k = k then y else val k)
        rw [pk_us, if_pos rfl]
      · show gI (sI _ _ _) _ = nI (if k = k then y else val k)
        rw [gI_sI, if_pos rfl]
      · show OKv k (if k = k then y else val k)
        rw [if_pos rfl]
        exact hy
    · refine ⟨?_, ?_, ?_⟩
      · show upd (gA T 0) x (nI y) k = nI (if k = x then y else val k)
        rw [pk_un e, if_neg e]
        exact (hv k hk).1
      · show gI (sI (sI _ _ _) _ _) _ = nI (if k = x then y else val k)
        rw [gI_sI' _ _ (by omega), gI_sI' _ _ (by omega), if_neg e]
        exact (hv k hk).2.1
      · show OKv k (if k = x then y else val k)
        rw [if_neg e]
        exact (hv k hk).2.2
  · intro i hi
    by_cases e : i = d'
    · subst e
      dsimp only
      rw [if_pos rfl, if_pos rfl, if_pos rfl]
      refine ⟨hx, pk_us, pk_us, pk_us, pk_us, (hv x hx).2.2, pk_us, pk_us, hy⟩
    · dsimp only
      rw [if_neg e, if_neg e, if_neg e]
      obtain ⟨q1, q2, q3, q4, q5, q6, q7, q8, q9⟩ := e4 i (by omega)
      exact ⟨q1, (pk_un e).trans q2, (pk_un e).trans q3, (pk_un e).trans q4, (pk_un e).trans q5, q6, (pk_un e).trans q7, (pk_un e).trans q8, q9⟩
theorem shl_at {f : Nat → Int32} {i : Nat} (h : i < 39) : shl f 40 i = f (i + 1) := if_pos (by omega)
theorem zmend {U : CS} {V : ST} (hT : RT (U 1) V) (a1 a2 : Int32) : Sim (wp_X11_mend a1 a2 U) (wp_X12_mend a1 a2 V) (RTx U V) := by
  intro Q h
  unfold wp_X11_mend wp_X11_mend_p21
  refine zfits (fun w v e1 e2 hw hv => ⟨fun c => absurd c (by decide), fun _ => ?_⟩) (fun hb => ⟨fun _ => h _ _ fun K hK => zmendBad hb (hK _ ⟨hT, AgU_r _ _, Ag_r _ _⟩), fun c => absurd rfl c⟩)
  subst e1 e2
  have hv2 := OKv_lt hv
  unfold wp_X8_change wp_X8_change_p36
  refine zfits (fun _ _ _ _ _ _ => ⟨fun _ => ?_, fun c => absurd c (by decide)⟩) (fun hb => absurd hv (hb w v rfl rfl hw))
  refine ⟨nI_in hw (by decide), ?_⟩
  rintro _ rfl
  rw [nI_clamp (by omega)]
  have hT0 := hT
  obtain ⟨d, n, val, wh, b, a, hdn, e4, e5, e6, e7, hV, hH⟩ := hT
  have hval := OKv_lt (hV w hw).2.2
  rw [(hV w hw).1]
  have hV6 : ∀ k : Nat, k < 4 → gA (U 1) 0 k = nI (val k) ∧ gI (sI V 6 0) (k + 1) = nI (val k) ∧ OKv k (val k) := fun k hk => ⟨(hV k hk).1, by rw [gI_sI' _ _ (by omega)]; exact (hV k hk).2.1, (hV k hk).2.2⟩
  refine ⟨fun c => ?_, fun c => ?_⟩
  · rintro _ rfl
    rw [mu_self]
    refine h _ _ fun K hK => zmendRef hw hv ?_
    unfold wp_X12_changes
    refine zvalueAt hw ?_
    rw [(hV w hw).2.1]
    exact ⟨fun c' => absurd c.symm c', fun _ => hK _ ⟨hT0, AgU_r _ _, Ag_r _ _⟩⟩
  · unfold wp_X8_note
    rw [e4]
    refine ⟨fun c2 => ?_, fun c2 => ?_⟩
    · have hd : d < 40 := by
        have := mt (nI_eq (a := d) (b := 40) (by omega) (by decide)).mpr c2
        omega
      refine znote hw hd e4 ?_
      refine ⟨nI_in hw (by decide), ?_⟩
      rintro _ rfl _ rfl
      simp only [gI_sI, gI_sI', gI_sA, gI_sJ, gI_sG, gA_sA, gA_sA', gA_sI, gA_sJ, gA_sG, gJ_sJ, gJ_sJ', gJ_sI, gJ_sA, gJ_sG, gG_sG, gG_sG', gG_sI, gG_sA, gG_sJ, ne_eq, Nat.reduceEqDiff, Nat.succ_ne_zero, Nat.zero_ne_one, not_false_eq_true, reduceCtorEq]
      refine h _ _ fun K hK => zmendRef hw hv ?_
      unfold wp_X12_changes
      refine zvalueAt hw ?_
      rw [(hV w hw).2.1]
      refine ⟨fun _ => ?_, fun c' => absurd c'.symm c⟩
      rintro _ rfl
      simp only [gI_sI, gI_sI', gI_sA, gI_sJ, gI_sG, gA_sA, gA_sA', gA_sI, gA_sJ, gA_sG, gJ_sJ, gJ_sJ', gJ_sI, gJ_sA, gJ_sG, gG_sG, gG_sG', gG_sI, gG_sA, gG_sJ, ne_eq, Nat.reduceEqDiff, Nat.succ_ne_zero, Nat.zero_ne_one, not_false_eq_true, reduceCtorEq]
      rw [e5]
      refine ⟨fun _ => ?_, fun c' => absurd c' c2⟩
      refine zlast hw hd (V := sI V 6 0) e5 fun f => ?_
      refine hK _ ⟨?_, AgU_mu (AgU_r _ _) (by decide) _, ?_⟩
      · exact RT_note (w := wh) (b := b) (a := a) f hd (fun i hi => hH i (by omega)) hV6 hw hv (gI_sI _ _ _)
      · refine Ag_sI (Ag_sI (Ag_sA (Ag_sA (Ag_sA (Ag_sA (Ag_sI (Ag_r _ _) (by decide) _) (by decide) _) (by decide) _) (by decide) _) (by decide) _) (by decide) _) ?_ _
        match w, hw with
        | 0, _ => decide
        | 1, _ => decide
        | 2, _ => decide
        | 3, _ => decide
    · have hd : d = 40 := (nI_eq (by omega) (by decide)).mp c2
      subst hd
      refine zforget ?_
      refine znote hw (d := 39) (by decide) rfl ?_
      refine ⟨nI_in hw (by decide), ?_⟩
      rintro _ rfl _ rfl
      refine h _ _ fun K hK => zmendRef hw hv ?_
      unfold wp_X12_changes
      refine zvalueAt hw ?_
      rw [(hV w hw).2.1]
      refine ⟨fun _ => ?_, fun c' => absurd c'.symm c⟩
      rintro _ rfl
      refine ⟨fun c' => absurd e5 c', fun _ => ?_⟩
      refine zroom (V := sI V 6 0) e5 ?_
      refine zlast hw (d := 39) (by decide) rfl fun f => ?_
      refine hK _ ⟨?_, AgU_mu (AgU_r _ _) (by decide) _, ?_⟩
      · refine RT_note (w := fun i => wh (i + 1)) (b := fun i => b (i + 1)) (a := fun i => a (i + 1)) (val := val) f (d' := 39) (by decide) (fun i hi => ?_) ?_ hw hv rfl
        · have q := hH (i + 1) (by omega)
          refine ⟨q.1, (shl_at hi).trans q.2.1, (shl_at hi).trans q.2.2.1, (shl_at hi).trans q.2.2.2.1, (shl_at hi).trans q.2.2.2.2.1, q.2.2.2.2.2.1, (shl_at hi).trans q.2.2.2.2.2.2.1, (shl_at hi).trans q.2.2.2.2.2.2.2.1, q.2.2.2.2.2.2.2.2⟩
        · intro k hk
          refine ⟨(hV k hk).1, ?_, (hV k hk).2.2⟩
          rw [gI_sI' _ _ (by omega)]
          exact (hV6 k hk).2.1
      · refine Ag_sI (Ag_sI (Ag_sA (Ag_sA (Ag_sA (Ag_sA (Ag_sI (Ag_sA (Ag_sA (Ag_sA (Ag_sA (Ag_sI (Ag_r _ _) (by decide) _) (by decide) _) (by decide) _) (by decide) _) (by decide) _) (by decide) _) (by decide) _) (by decide) _) (by decide) _) (by decide) _) (by decide) _) ?_ _
        match w, hw with
        | 0, _ => decide
        | 1, _ => decide
        | 2, _ => decide
        | 3, _ => decide

def cat : List zL → List Int32
  | [] => []
  | l :: ls => l.1 ++ l.2 ++ cat ls
theorem cat_app : ∀ ls ms : List zL, cat (ls ++ ms) = cat ls ++ cat ms
  | [], _ => rfl
  | l :: ls, ms => by
    show l.1 ++ l.2 ++ cat (ls ++ ms) = (l.1 ++ l.2 ++ cat ls) ++ cat ms
    rw [cat_app ls ms]
    simp only [List.append_assoc]
def LnAt (f g : Nat → Int32) : Nat → Nat → List zL → Prop
  | _, _, [] => True
  | a, k, l :: ls => f a = nI (k + l.1.length) ∧ g a = nI (k + l.1.length + l.2.length) ∧ LnAt f g (a + 1) (k + l.1.length + l.2.length) ls
theorem LnAt_app {f g : Nat → Int32} : ∀ {ls : List zL} {a k : Nat} {c : zL}, LnAt f g a k ls → f (a + ls.length) = nI (k + (cat ls).length + c.1.length) → g (a + ls.length) = nI (k + (cat ls).length + c.1.length + c.2.length) → LnAt f g a k (ls ++ [c])
  | [], a, k, c, _, h1, h2 => ⟨h1, h2, trivial⟩
  | l :: ls, a, k, c, h, h1, h2 => by
    have e : a + (l :: ls).length = a + 1 + ls.length := by
      rw [List.length_cons]
      omega
    have e2 : (cat (l :: ls)).length = l.1.length + l.2.length + (cat ls).length := by
      show (l.1 ++ l.2 ++ cat ls).length = _
      rw [List.length_append, List.length_append]
    refine ⟨h.1, h.2.1, LnAt_app h.2.2 ?_ ?_⟩
    · rw [← e, h1, e2]
      congr 1
      omega
    · rw [← e, h2, e2]
      congr 1
      omega
theorem LnAt_cg {f g f' g' : Nat → Int32} : ∀ {ls : List zL} {a k : Nat}, (∀ i : Nat, a ≤ i → i < a + ls.length → f' i = f i ∧ g' i = g i) → LnAt f g a k ls → LnAt f' g' a k ls
  | [], _, _, _, _ => trivial
  | l :: ls, a, k, hc, h => by
    have h0 := hc a (Nat.le_refl _) (by rw [List.length_cons]; omega)
    exact ⟨h0.1.trans h.1, h0.2.trans h.2.1, LnAt_cg (fun i q1 q2 => hc i (by omega) (by rw [List.length_cons]; omega)) h.2.2⟩
theorem LnAt_sh {f g f' g' : Nat → Int32} {a b : Nat} : ∀ {ls : List zL} {d k : Nat}, (∀ i : Nat, i < d + ls.length → f' (b + i) = f (a + i) ∧ g' (b + i) = g (a + i)) → LnAt f g (a + d) k ls → LnAt f' g' (b + d) k ls
  | [], _, _, _, _ => trivial
  | l :: ls, d, k, hc, h => by
    have h0 := hc d (by rw [List.length_cons]; omega)
    exact ⟨h0.1.trans h.1, h0.2.trans h.2.1, LnAt_sh (d := d + 1) (fun i q => hc i (by rw [List.length_cons]; omega)) h.2.2⟩
theorem AtF_sh {g : Int32 → Int32} {f f' : Nat → Int32} {a b : Nat} : ∀ {cs : List Int32} {d : Nat}, (∀ i : Nat, i < d + cs.length → f' (b + i) = f (a + i)) → AtF g f (a + d) cs → AtF g f' (b + d) cs
  | [], _, _, _ => trivial
  | c :: cs, d, hc, h => ⟨(hc d (by rw [List.length_cons]; omega)).trans h.1, AtF_sh (d := d + 1) (fun i q => hc i (by rw [List.length_cons]; omega)) h.2⟩
theorem AtF_get {g : Int32 → Int32} {f : Nat → Int32} : ∀ {cs : List Int32} {a : Nat}, AtF g f a cs → ∀ i : Nat, i < cs.length → ∃ c ∈ cs, f (a + i) = g c
  | [], _, _, i, hi => absurd hi (Nat.not_lt_zero _)
  | c :: cs, a, h, 0, _ => ⟨c, List.mem_cons_self, h.1⟩
  | c :: cs, a, h, i + 1, hi => by
    obtain ⟨c', h1, h2⟩ := AtF_get h.2 i (by rw [List.length_cons] at hi; omega)
    exact ⟨c', List.mem_cons_of_mem _ h1, by rw [← h2]; congr 1; omega⟩
/-- codes that are worked out are of the known kinds -/
def cde (c : Int32) : Prop := ¬ c < 0 ∨ c = -1 ∨ c = -2 ∨ c = -3 ∨ c = -4 ∨ c = -33 ∨ sgn c = true
theorem stp_cde {e : Nat → Int32} {c : Int32} {st s : List Int32} (h : stp e c st = some s) : cde c := by
  unfold stp at h
  unfold cde
  by_cases c0 : c < 0
  · rw [if_pos c0] at h
    by_cases c1 : c = -1
    · exact .inr (.inl c1)
    by_cases c2 : c = -2
    · exact .inr (.inr (.inl c2))
    by_cases c3 : c = -3
    · exact .inr (.inr (.inr (.inl c3)))
    by_cases c4 : c = -4
    · exact .inr (.inr (.inr (.inr (.inl c4))))
    by_cases c5 : c = -33
    · exact .inr (.inr (.inr (.inr (.inr (.inl c5)))))
    rw [if_neg c1, if_neg c2, if_neg c3, if_neg c4, if_neg c5] at h
    by_cases c6 : sgn c = true
    · exact .inr (.inr (.inr (.inr (.inr (.inr c6)))))
    · rw [if_neg c6] at h
      cases h
  · exact .inl c0
theorem evO_cde {e : Nat → Int32} : ∀ {cs st s : List Int32}, evO e cs st = some s → ∀ c ∈ cs, cde c
  | [], _, _, _, _, hc => absurd hc (List.not_mem_nil)
  | c :: cs, st, s, h, c', hc => by
    have h : (match stp e c st with | some s => evO e cs s | none => none) = some s := h
    cases hs : stp e c st with
    | none =>
      rw [hs] at h
      cases h
    | some s1 =>
      rw [hs] at h
      rcases List.mem_cons.mp hc with rfl | hc
      · exact stp_cde hs
      · exact evO_cde (cs := cs) h c' hc
theorem PE_cde {cs : List Int32} (h : PE cs) : ∀ c ∈ cs, cde c := by
  obtain ⟨v, hv⟩ := h (fun _ => 0) []
  exact evO_cde hv
theorem cat_cde : ∀ {ls : List zL}, (∀ l ∈ ls, okl l) → ∀ c ∈ cat ls, cde c
  | [], _, _, hc => absurd hc (List.not_mem_nil)
  | l :: ls, h, c, hc => by
    have hc : c ∈ l.1 ++ l.2 ++ cat ls := hc
    rcases List.mem_append.mp hc with hc | hc
    · obtain ⟨h1, h2⟩ := h l List.mem_cons_self
      rcases List.mem_append.mp hc with hc | hc
      · cases he : l.1.isEmpty with
        | true =>
          rw [List.isEmpty_iff.mp he] at hc
          exact absurd hc (List.not_mem_nil)
        | false => exact PE_cde (h2 he) c hc
      · exact PE_cde h1 c hc
    · exact cat_cde (fun l hl => h l (List.mem_cons_of_mem _ hl)) c hc
theorem aO_b {c : Int32} (h : cde c) : (aO c).toInt8.toInt32 = aO c := by
  rcases h with h | rfl | rfl | rfl | rfl | rfl | h
  · unfold aO
    rw [if_neg h]
    decide
  · decide
  · decide
  · decide
  · decide
  · decide
  · rcases sgn_or h with rfl | rfl | rfl | rfl | rfl | rfl | rfl | rfl | rfl | rfl <;> decide
/-- the text in force, in the reference's rows -/
def LT (V : ST) (ls : List zL) : Prop := gA V 19 0 = nI ls.length ∧ AtF aO (gA V 17) 0 (cat ls) ∧ AtF wO (gA V 18) 0 (cat ls) ∧ LnAt (gA V 20) (gA V 21) 0 0 ls
def kU : List Nat := [12, 13, 14, 15, 16, 17, 18, 19, 20, 21]
theorem zcopyL {V0 V : ST} {ls : List zL} (hl : ls.length ≤ 61) (hk : (cat ls).length ≤ 121) (hA : Ag kU V V0) (e12 : gI V 12 = 0) (e19 : gA V 19 0 = nI ls.length) (h17 : AtF aO (gA V 17) 0 (cat ls)) (h18 : AtF wO (gA V 18) 0 (cat ls)) (hN : LnAt (gA V 20) (gA V 21) 61 0 ls)
    (hs : ∀ i : Nat, i < ls.length → (gA V 20 (61 + i)).toInt16.toInt32 = gA V 20 (61 + i) ∧ (gA V 21 (61 + i)).toInt16.toInt32 = gA V 21 (61 + i)) {Q : Int32 → ST → Prop} (hq : ∀ V' : ST, Ag kU V' V0 → gI V' 12 = 0 → LT V' ls → Q (-1) V') : wp_X12_readText_p177 0 0 V Q := by
  unfold wp_X12_readText_p177
  refine ⟨fun x1 x2 v => x1 = 0 ∧ ∃ i : Nat, i ≤ ls.length ∧ x2 = nI i ∧ Ag [20, 21] v V ∧ (∀ j : Nat, 61 ≤ j → gA v 20 j = gA V 20 j ∧ gA v 21 j = gA V 21 j) ∧ (∀ j : Nat, j < i → gA v 20 j = gA V 20 (61 + j) ∧ gA v 21 j = gA V 21 (61 + j)), fun _ x2 _ => 62 - x2.toNatClampNeg, ⟨rfl, 0, by omega, rfl, Ag_r _ _, fun _ _ => ⟨rfl, rfl⟩, fun j hj => absurd hj (Nat.not_lt_zero _)⟩, ?_⟩
  rintro _ _ v ⟨rfl, i, hi, rfl, hv, h1, h2⟩
  unfold wp_X12_readText_p177b
  refine ⟨by first | decide | exact nI_in (c := 0) (by decide) (by decide) | exact nI_in (c := 1) (by decide) (by decide) | exact nI_in (c := 2) (by decide) (by decide), ?_⟩
  have e : gA v 19 = gA V 19 := Ag_A hv 19 (by decide)
  rw [show gA v 19 (0 : Int32).toNatClampNeg = nI ls.length from (congrFun e 0).trans e19]
  rintro _ rfl
  refine ⟨fun c => ?_, fun c => ?_⟩
  · have := (nI_leI (by omega) (by omega)).mp c
    have ei : i = ls.length := by omega
    subst ei
    refine hq v (Ag_t (Ag_m hv (by decide)) hA) ((Ag_I hv 12 (by decide)).trans e12) ⟨(congrFun e 0).trans e19, ?_, ?_, ?_⟩
    · rw [Ag_A hv 17 (by decide)]
      exact h17
    · rw [Ag_A hv 18 (by decide)]
      exact h18
    · exact LnAt_sh (a := 61) (b := 0) (d := 0) (fun j hj => by rw [Nat.zero_add]; exact h2 j (by omega)) hN
  have hlt : i < ls.length := by
    have := mt (nI_leI (a := ls.length) (b := i) (by omega) (by omega)).mpr c
    omega
  have hns : ∀ y : Int32, vp_nar .short y = y.toInt16.toInt32 := fun _ => rfl
  rw [show (61 : Int32) * 0 = nI 0 by decide]
  rintro _ rfl
  rw [nI_add, Nat.zero_add]
  rintro _ rfl
  rw [show (61 : Int32) + nI i = nI (61 + i) from nI_add 61 i]
  rintro _ rfl
  refine ⟨nI_in (by omega) (by decide), ?_⟩
  rintro _ rfl
  refine ⟨nI_in (by omega) (by decide), ?_⟩
  rintro _ rfl _ rfl
  rw [nI_add, Nat.zero_add]
  rintro _ rfl _ rfl
  refine ⟨nI_in (by omega) (by decide), ?_⟩
  rintro _ rfl
  refine ⟨nI_in (by omega) (by decide), ?_⟩
  rintro _ rfl _ rfl
  simp only [gI_sI, gI_sI', gI_sA, gI_sJ, gI_sG, gA_sA, gA_sA', gA_sI, gA_sJ, gA_sG, gJ_sJ, gJ_sJ', gJ_sI, gJ_sA, gJ_sG, gG_sG, gG_sG', gG_sI, gG_sA, gG_sJ, ne_eq, Nat.reduceEqDiff, Nat.succ_ne_zero, Nat.zero_ne_one, not_false_eq_true, reduceCtorEq]
  rw [nI_1, nI_clamp (n := 61 + i) (by omega), nI_clamp (n := i) (by omega), hns, hns, (h1 (61 + i) (by omega)).1, (h1 (61 + i) (by omega)).2, (hs i hlt).1, (hs i hlt).2]
  refine ⟨⟨by trivial, i + 1, hlt, rfl, Ag_sA (Ag_sA hv (by decide) _) (by decide) _, fun j hj => ⟨?_, ?_⟩, fun j hj => ?_⟩, ?_⟩
  · exact (Eq.trans (b := upd (gA v 20) i _ j) rfl (pk_un (by omega))).trans (h1 j hj).1
  · exact (Eq.trans (b := upd (gA v 21) i _ j) rfl (pk_un (by omega))).trans (h1 j hj).2
  · by_cases ej : j = i
    · subst ej
      exact ⟨Eq.trans (b := upd (gA v 20) j _ j) rfl pk_us, Eq.trans (b := upd (gA v 21) j _ j) rfl pk_us⟩
    · exact ⟨(Eq.trans (b := upd (gA v 20) i _ j) rfl (pk_un ej)).trans (h2 j (by omega)).1, (Eq.trans (b := upd (gA v 21) i _ j) rfl (pk_un ej)).trans (h2 j (by omega)).2⟩
  · rw [nI_clamp (n := i + 1) (by omega)]
    omega
theorem zcopyA {V0 V : ST} {ls : List zL} (hl : ls.length ≤ 61) (hk : (cat ls).length ≤ 121) (hok : ∀ l ∈ ls, okl l) (hA : Ag kU V V0) (e12 : gI V 12 = 0) (e16 : gI V 16 = nI (cat ls).length) (e19 : gA V 19 1 = nI ls.length) (h17 : AtF aO (gA V 17) 130 (cat ls)) (h18 : AtF wO (gA V 18) 130 (cat ls)) (hN : LnAt (gA V 20) (gA V 21) 61 0 ls)
    (hs : ∀ i : Nat, i < ls.length → (gA V 20 (61 + i)).toInt16.toInt32 = gA V 20 (61 + i) ∧ (gA V 21 (61 + i)).toInt16.toInt32 = gA V 21 (61 + i)) {Q : Int32 → ST → Prop} (hq : ∀ V' : ST, Ag kU V' V0 → gI V' 12 = 0 → LT V' ls → Q (-1) V') : wp_X12_readText_p105 0 0 V Q := by
  unfold wp_X12_readText_p105
  have hcd := cat_cde hok
  refine ⟨fun x1 x2 v => x1 = 0 ∧ ∃ i : Nat, i ≤ (cat ls).length ∧ x2 = nI i ∧ Ag [17, 18] v V ∧ (∀ j : Nat, 130 ≤ j → gA v 17 j = gA V 17 j ∧ gA v 18 j = gA V 18 j) ∧ (∀ j : Nat, j < i → gA v 17 j = gA V 17 (130 + j) ∧ gA v 18 j = gA V 18 (130 + j)), fun _ x2 _ => 130 - x2.toNatClampNeg, ⟨rfl, 0, by omega, rfl, Ag_r _ _, fun _ _ => ⟨rfl, rfl⟩, fun j hj => absurd hj (Nat.not_lt_zero _)⟩, ?_⟩
  rintro _ _ v ⟨rfl, i, hi, rfl, hv, h1, h2⟩
  unfold wp_X12_readText_p105b
  rw [show gI v 16 = nI (cat ls).length from (Ag_I hv 16 (by decide)).trans e16]
  refine ⟨fun c => ?_, fun c => ?_⟩
  · have := (nI_leI (by omega) (by omega)).mp c
    have ei : i = (cat ls).length := by omega
    subst ei
    refine ⟨by first | decide | exact nI_in (c := 0) (by decide) (by decide) | exact nI_in (c := 1) (by decide) (by decide) | exact nI_in (c := 2) (by decide) (by decide), ?_⟩
    have e : gA v 19 = gA V 19 := Ag_A hv 19 (by decide)
    rw [show gA v 19 (1 : Int32).toNatClampNeg = nI ls.length from (congrFun e 1).trans e19]
    rintro _ rfl
    refine ⟨by first | decide | exact nI_in (c := 0) (by decide) (by decide) | exact nI_in (c := 1) (by decide) (by decide) | exact nI_in (c := 2) (by decide) (by decide), ?_⟩
    rintro _ rfl
    refine zcopyL (V0 := V0) hl hk (Ag_sA (Ag_t (Ag_m hv (by decide)) hA) (by decide) _) ((Ag_I hv 12 (by decide)).trans e12) ?_ ?_ ?_ ?_ ?_ hq
    · exact Eq.trans (b := upd (gA v 19) 0 (nI ls.length) 0) rfl pk_us
    · exact AtF_sh (a := 130) (b := 0) (d := 0) (fun j hj => by rw [Nat.zero_add]; exact (h2 j (by omega)).1) h17
    · exact AtF_sh (a := 130) (b := 0) (d := 0) (fun j hj => by rw [Nat.zero_add]; exact (h2 j (by omega)).2) h18
    · show LnAt (gA v 20) (gA v 21) 61 0 ls
      rw [Ag_A hv 20 (by decide), Ag_A hv 21 (by decide)]
      exact hN
    · show ∀ i : Nat, i < ls.length → (gA v 20 (61 + i)).toInt16.toInt32 = gA v 20 (61 + i) ∧ (gA v 21 (61 + i)).toInt16.toInt32 = gA v 21 (61 + i)
      rw [Ag_A hv 20 (by decide), Ag_A hv 21 (by decide)]
      exact hs
  have hlt : i < (cat ls).length := by
    have := mt (nI_leI (a := (cat ls).length) (b := i) (by omega) (by omega)).mpr c
    omega
  have hnb : ∀ y : Int32, vp_nar .byte y = y.toInt8.toInt32 := fun _ => rfl
  obtain ⟨cd, hc1, hc2⟩ := AtF_get h17 i hlt
  have hb : (gA V 17 (130 + i)).toInt8.toInt32 = gA V 17 (130 + i) := by
    rw [hc2]
    exact aO_b (hcd cd hc1)
  rw [show (130 : Int32) * 0 = nI 0 by decide]
  rintro _ rfl
  rw [nI_add, Nat.zero_add]
  rintro _ rfl
  rw [show (130 : Int32) + nI i = nI (130 + i) from nI_add 130 i]
  rintro _ rfl
  refine ⟨nI_in (by omega) (by decide), ?_⟩
  rintro _ rfl
  refine ⟨nI_in (by omega) (by decide), ?_⟩
  rintro _ rfl _ rfl
  rw [nI_add, Nat.zero_add]
  rintro _ rfl _ rfl
  refine ⟨nI_in (by omega) (by decide), ?_⟩
  rintro _ rfl
  refine ⟨nI_in (by omega) (by decide), ?_⟩
  rintro _ rfl _ rfl
  simp only [gI_sI, gI_sI', gI_sA, gI_sJ, gI_sG, gA_sA, gA_sA', gA_sI, gA_sJ, gA_sG, gJ_sJ, gJ_sJ', gJ_sI, gJ_sA, gJ_sG, gG_sG, gG_sG', gG_sI, gG_sA, gG_sJ, ne_eq, Nat.reduceEqDiff, Nat.succ_ne_zero, Nat.zero_ne_one, not_false_eq_true, reduceCtorEq]
  rw [nI_1, nI_clamp (n := 130 + i) (by omega), nI_clamp (n := i) (by omega), hnb, (h1 (130 + i) (by omega)).1, (h1 (130 + i) (by omega)).2, hb]
  refine ⟨⟨by trivial, i + 1, hlt, rfl, Ag_sA (Ag_sA hv (by decide) _) (by decide) _, fun j hj => ⟨?_, ?_⟩, fun j hj => ?_⟩, ?_⟩
  · exact (Eq.trans (b := upd (gA v 17) i _ j) rfl (pk_un (by omega))).trans (h1 j hj).1
  · exact (Eq.trans (b := upd (gA v 18) i _ j) rfl (pk_un (by omega))).trans (h1 j hj).2
  · by_cases ej : j = i
    · subst ej
      exact ⟨Eq.trans (b := upd (gA v 17) j _ j) rfl pk_us, Eq.trans (b := upd (gA v 18) j _ j) rfl pk_us⟩
    · exact ⟨(Eq.trans (b := upd (gA v 17) i _ j) rfl (pk_un ej)).trans (h2 j (by omega)).1, (Eq.trans (b := upd (gA v 18) i _ j) rfl (pk_un ej)).trans (h2 j (by omega)).2⟩
  · rw [nI_clamp (n := i + 1) (by omega)]
    omega

/-! the law worked out: what it is, and the reference's steps -/
def vl (e : Nat → Int32) : List zL → Int32
  | [] => 0
  | l :: ls => if l.1.isEmpty = true then vE e l.2 else if vE e l.1 = 0 then vl e ls else vE e l.2
theorem stp_no {e : Nat → Int32} {c : Int32} {st s : List Int32} (h : stp e c st = some s) (hn : stp e c st = none) : False := by
  rw [hn] at h
  cases h
theorem stp_stC {e : Nat → Int32} {c : Int32} {st s : List Int32} (h : stp e c st = some s) : c ≠ -59 ∧ c ≠ -63 ∧ stC e c st = s := by
  rcases stp_cde h with g | rfl | rfl | rfl | rfl | rfl | g
  · have e1 : stp e c st = some (c :: st) := by
      unfold stp
      rw [if_neg g]
    rw [e1] at h
    cases h
    refine ⟨fun q => g (by rw [q]; decide), fun q => g (by rw [q]; decide), ?_⟩
    unfold stC
    rw [if_neg g]
  · have h : some (e 0 :: st) = some s := h
    cases h
    exact ⟨by decide, by decide, rfl⟩
  · have h : some (e 1 :: st) = some s := h
    cases h
    exact ⟨by decide, by decide, rfl⟩
  · have h : some (e 2 :: st) = some s := h
    cases h
    exact ⟨by decide, by decide, rfl⟩
  · cases st with
    | nil => exact (stp_no h rfl).elim
    | cons a t =>
      have h : some (-a :: t) = some s := h
      cases h
      exact ⟨by decide, by decide, rfl⟩
  · cases st with
    | nil => exact (stp_no h rfl).elim
    | cons a t =>
      have h : some ((if a = 0 then 1 else 0) :: t) = some s := h
      cases h
      exact ⟨by decide, by decide, rfl⟩
  · cases st with
    | nil => rcases sgn_or g with rfl | rfl | rfl | rfl | rfl | rfl | rfl | rfl | rfl | rfl <;> exact (stp_no h rfl).elim
    | cons b t =>
      cases t with
      | nil => rcases sgn_or g with rfl | rfl | rfl | rfl | rfl | rfl | rfl | rfl | rfl | rfl <;> exact (stp_no h rfl).elim
      | cons a t =>
        rw [stp_two g] at h
        cases h
        rcases sgn_or g with rfl | rfl | rfl | rfl | rfl | rfl | rfl | rfl | rfl | rfl <;> exact ⟨by decide, by decide, rfl⟩
theorem vm_evO {e : Nat → Int32} : ∀ {cs st s rest : List Int32}, evO e cs st = some s → vm e (cs ++ rest) false st = vm e rest false s
  | [], st, s, rest, h => by
    cases h
    rfl
  | c :: cs, st, s, rest, h => by
    have h : (match stp e c st with | some s => evO e cs s | none => none) = some s := h
    cases hs : stp e c st with
    | none =>
      rw [hs] at h
      cases h
    | some s1 =>
      rw [hs] at h
      obtain ⟨g1, g2, g3⟩ := stp_stC hs
      show vm e (c :: (cs ++ rest)) false st = _
      rw [vm_f, if_neg g1, if_neg g2, g3]
      exact vm_evO (cs := cs) h
theorem cde_59 {c : Int32} (h : cde c) : ¬ c = -59 := by
  rintro rfl
  rcases h with h | h | h | h | h | h | h
  · exact h (by decide)
  · exact absurd h (by decide)
  · exact absurd h (by decide)
  · exact absurd h (by decide)
  · exact absurd h (by decide)
  · exact absurd h (by decide)
  · exact absurd h (by decide)
theorem vm_skip {e : Nat → Int32} : ∀ {cs rest st : List Int32}, (∀ c ∈ cs, cde c) → vm e (cs ++ rest) true st = vm e rest true st
  | [], _, _, _ => rfl
  | c :: cs, rest, st, h => by
    show vm e (c :: (cs ++ rest)) true st = _
    rw [vm_t, decide_eq_true (cde_59 (h c List.mem_cons_self))]
    exact vm_skip fun c hc => h c (List.mem_cons_of_mem _ hc)
theorem vm_val {e : Nat → Int32} : ∀ {ls : List zL}, (∀ l ∈ ls, okl l) → vm e (flt ls) false [] = vl e ls
  | [], _ => rfl
  | l :: ls, h => by
    obtain ⟨h1, h2⟩ := h l List.mem_cons_self
    have ih := vm_val (e := e) (ls := ls) fun l hl => h l (List.mem_cons_of_mem _ hl)
    show vm e (fl1 l ++ flt ls) false [] = (if l.1.isEmpty = true then vE e l.2 else if vE e l.1 = 0 then vl e ls else vE e l.2)
    unfold fl1
    by_cases c : l.1.isEmpty = true
    · rw [if_pos c, if_pos c, List.append_assoc, vm_evO (PE_v h1 e)]
      show vm e (-59 :: flt ls) false [vE e l.2] = _
      rw [vm_f, if_pos rfl]
      rfl
    · rw [if_neg c, if_neg c]
      have c' : l.1.isEmpty = false := by
        cases hh : l.1.isEmpty with
        | true => exact absurd hh c
        | false => rfl
      rw [List.append_assoc, List.append_assoc, List.append_assoc, vm_evO (PE_v (h2 c') e)]
      show vm e (-63 :: (l.2 ++ (-59 :: flt ls))) false [vE e l.1] = _
      rw [vm_f, if_neg (by decide), if_pos rfl]
      show vm e (l.2 ++ (-59 :: flt ls)) (decide (vE e l.1 = 0)) [] = _
      by_cases c2 : vE e l.1 = 0
      · rw [if_pos c2, decide_eq_true c2, vm_skip (PE_cde h1), vm_t, decide_eq_false (fun q => q rfl), ih]
      · rw [if_neg c2, decide_eq_false c2, vm_evO (PE_v h1 e), vm_f, if_pos rfl]
        rfl
theorem zworked {V : ST} {cs : List Int32} {a : Nat} (hP : PE cs) (h17 : AtF aO (gA V 17) a cs) (h18 : AtF wO (gA V 18) a cs) (hl : a + cs.length ≤ 125) {e : Nat → Int32} (hf : ∀ k : Nat, k < 3 → gA V 22 k = e k) {Q : Int32 → ST → Prop} (hq : ∀ V' : ST, Ag [23] V' V → Q (vE e cs) V') : wp_X12_worked 0 (nI a) (nI (a + cs.length)) V Q := by
  unfold wp_X12_worked
  rw [show (130 : Int32) * 0 = nI 0 by decide]
  rintro _ rfl
  rw [nI_add, Nat.zero_add]
  rintro _ rfl
  unfold wp_X12_worked_p12
  refine ⟨fun x1 x3 x4 x5 u => x1 = 0 ∧ x3 = nI (a + cs.length) ∧ ∃ (i : Nat) (rest st : List Int32), x4 = nI st.length ∧ x5 = nI (a + i) ∧ Ag [23] u V ∧ RV (gA u 23) st ∧ i + rest.length = cs.length ∧ AtF aO (gA V 17) (a + i) rest ∧ AtF wO (gA V 18) (a + i) rest ∧ evO e rest st = some [vE e cs] ∧ st.length + rest.length ≤ 125, fun _ _ _ x5 _ => 130 - x5.toNatClampNeg, ⟨rfl, rfl, 0, cs, [], rfl, rfl, Ag_r _ _, trivial, by omega, h17, h18, PE_v hP e, by simp only [List.length_nil]; omega⟩, ?_⟩
  rintro _ _ _ _ u ⟨rfl, rfl, i, rest, st, rfl, rfl, hA, hR, hi, g17, g18, hv, hsl⟩
  unfold wp_X12_worked_p12b
  rw [show (130 : Int32) * 0 = nI 0 by decide]
  rintro _ rfl
  rw [nI_add, Nat.zero_add]
  rintro _ rfl
  refine ⟨fun c => ?_, fun c => ?_⟩
  · have := (nI_leI (by omega) (by omega)).mp c
    have : rest = [] := List.length_eq_zero_iff.mp (by omega)
    subst this
    have hv : some st = some [vE e cs] := hv
    cases hv
    refine ⟨by first | decide | exact nI_in (c := 0) (by decide) (by decide) | exact nI_in (c := 1) (by decide) (by decide) | exact nI_in (c := 2) (by decide) (by decide), ?_⟩
    rintro _ rfl
    have := RV_top (st := []) hR
    rw [show gA u 23 (0 : Int32).toNatClampNeg = vE e cs from this]
    exact hq u hA
  have hlt : i < cs.length := by
    have := mt (nI_leI (a := a + cs.length) (b := a + i) (by omega) (by omega)).mpr c
    omega
  cases rest with
  | nil => simp only [List.length_nil] at hi; omega
  | cons cd rest =>
    have hi : i + (rest.length + 1) = cs.length := hi
    have hsl : st.length + (rest.length + 1) ≤ 125 := hsl
    have hv : (match stp e cd st with | some s => evO e rest s | none => none) = some [vE e cs] := hv
    cases hs : stp e cd st with
    | none =>
      rw [hs] at hv
      cases hv
    | some s1 =>
      rw [hs] at hv
      have hv : evO e rest s1 = some [vE e cs] := hv
      have eact : gA u 17 (a + i) = aO cd := by
        rw [Ag_A hA 17 (by decide)]
        exact g17.1
      have ewith : gA u 18 (a + i) = wO cd := by
        rw [Ag_A hA 18 (by decide)]
        exact g18.1
      have efac : ∀ k : Nat, k < 3 → gA u 22 k = e k := fun k hk => by rw [Ag_A hA 22 (by decide)]; exact hf k hk
      have hin : vp_in (nI (a + i)) 260 := nI_in (by omega) (by decide)
      have hmu : 130 - (nI (a + i + 1)).toNatClampNeg < 130 - (nI (a + i)).toNatClampNeg := by
        try dsimp only
        rw [nI_clamp (by omega), nI_clamp (by omega)]
        omega
      -- what one step leaves
      have go : ∀ (y : Int32) (u' : ST), y = nI s1.length → Ag [23] u' u → RV (gA u' 23) s1 → s1.length ≤ st.length + 1 → wp_X12_worked_p182 0 (nI (a + cs.length)) y (nI (a + i)) u' (fun yx1 yx3 yx4 yx5 yu => (yx1 = 0 ∧ yx3 = nI (a + cs.length) ∧ ∃ (i : Nat) (rest st : List Int32), yx4 = nI st.length ∧ yx5 = nI (a + i) ∧ Ag [23] yu V ∧ RV (gA yu 23) st ∧ i + rest.length = cs.length ∧ AtF aO (gA V 17) (a + i) rest ∧ AtF wO (gA V 18) (a + i) rest ∧ evO e rest st = some [vE e cs] ∧ st.length + rest.length ≤ 125) ∧ 130 - yx5.toNatClampNeg < 130 - (nI (a + i)).toNatClampNeg) Q := by
        rintro _ u' rfl a' r' hl'
        unfold wp_X12_worked_p182
        rw [nI_1]
        rintro _ rfl
        exact ⟨⟨rfl, rfl, i + 1, rest, s1, rfl, rfl, Ag_t a' hA, r', by omega, g17.2, g18.2, hv, by omega⟩, hmu⟩
      unfold wp_X12_worked_p45 wp_X12_worked_p79 wp_X12_worked_p117
      refine ⟨hin, ?_⟩
      rw [nI_clamp (n := a + i) (by omega), eact, ewith]
      rintro _ rfl
      have psh : ∀ v : Int32, s1 = v :: st → (vp_in (nI st.length) 130 ∧ ∀ u79 : ST, u79 = sA u 23 (upd (gA u 23) (nI st.length).toNatClampNeg v) → (∀ y80 : Int32, y80 = nI st.length + 1 → wp_X12_worked_p182 0 (nI (a + cs.length)) y80 (nI (a + i)) u79 (fun yx1 yx3 yx4 yx5 yu => (yx1 = 0 ∧ yx3 = nI (a + cs.length) ∧ ∃ (i : Nat) (rest st : List Int32), yx4 = nI st.length ∧ yx5 = nI (a + i) ∧ Ag [23] yu V ∧ RV (gA yu 23) st ∧ i + rest.length = cs.length ∧ AtF aO (gA V 17) (a + i) rest ∧ AtF wO (gA V 18) (a + i) rest ∧ evO e rest st = some [vE e cs] ∧ st.length + rest.length ≤ 125) ∧ 130 - yx5.toNatClampNeg < 130 - (nI (a + i)).toNatClampNeg) Q)) := by
        intro v ev
        refine ⟨nI_in (by omega) (by decide), ?_⟩
        rintro _ rfl
        rw [nI_1, nI_clamp (by omega)]
        rintro _ rfl
        subst ev
        exact go _ _ rfl (Ag_sA (Ag_r _ _) (by decide) _) (RV_push hR v) (Nat.le_refl _)
      rcases stp_cde hs with g | rfl | rfl | rfl | rfl | rfl | g
      · have e1 : stp e cd st = some (cd :: st) := by
          unfold stp
          rw [if_neg g]
        rw [e1] at hs
        cases hs
        have ea : aO cd = 1 := if_neg g
        have ew : wO cd = cd := if_neg g
        rw [ea, ew]
        refine ⟨fun _ => ⟨fun q => absurd rfl q, fun _ => ⟨hin, ?_⟩⟩, fun q => absurd rfl q⟩
        intro y ey
        subst y
        exact psh cd rfl
      · have hs : some (e 0 :: st) = some s1 := hs
        cases hs
        rw [show aO (-1) = 2 by decide, show wO (-1) = 0 by decide]
        refine ⟨fun q => absurd q (by decide), fun _ => ⟨fun q => absurd rfl q, fun _ => ⟨fun _ => ⟨hin, ?_⟩, fun q => absurd q (by decide)⟩⟩⟩
        rintro _ rfl
        refine ⟨by first | decide | exact nI_in (c := 0) (by decide) (by decide) | exact nI_in (c := 1) (by decide) (by decide) | exact nI_in (c := 2) (by decide) (by decide), ?_⟩
        rw [show gA u 22 (0 : Int32).toNatClampNeg = e 0 from efac 0 (by decide)]
        rintro _ rfl
        exact psh (e 0) rfl
      · have hs : some (e 1 :: st) = some s1 := hs
        cases hs
        rw [show aO (-2) = 2 by decide, show wO (-2) = 1 by decide]
        refine ⟨fun q => absurd q (by decide), fun _ => ⟨fun q => absurd rfl q, fun _ => ⟨fun _ => ⟨hin, ?_⟩, fun q => absurd q (by decide)⟩⟩⟩
        rintro _ rfl
        refine ⟨by first | decide | exact nI_in (c := 0) (by decide) (by decide) | exact nI_in (c := 1) (by decide) (by decide) | exact nI_in (c := 2) (by decide) (by decide), ?_⟩
        rw [show gA u 22 (1 : Int32).toNatClampNeg = e 1 from efac 1 (by decide)]
        rintro _ rfl
        exact psh (e 1) rfl
      · have hs : some (e 2 :: st) = some s1 := hs
        cases hs
        rw [show aO (-3) = 2 by decide, show wO (-3) = 2 by decide]
        refine ⟨fun q => absurd q (by decide), fun _ => ⟨fun q => absurd rfl q, fun _ => ⟨fun _ => ⟨hin, ?_⟩, fun q => absurd q (by decide)⟩⟩⟩
        rintro _ rfl
        refine ⟨by first | decide | exact nI_in (c := 0) (by decide) (by decide) | exact nI_in (c := 1) (by decide) (by decide) | exact nI_in (c := 2) (by decide) (by decide), ?_⟩
        rw [show gA u 22 (2 : Int32).toNatClampNeg = e 2 from efac 2 (by decide)]
        rintro _ rfl
        exact psh (e 2) rfl
      · cases st with
        | nil => exact (stp_no hs rfl).elim
        | cons v t =>
          have hs : some (-v :: t) = some s1 := hs
          cases hs
          have hsl : t.length + 1 + (rest.length + 1) ≤ 125 := hsl
          rw [show aO (-4) = 4 by decide]
          refine ⟨fun q => absurd q (by decide), fun _ => ⟨fun _ => ⟨fun _ => ⟨fun q => absurd rfl q, fun _ => ?_⟩, fun q => absurd q (by decide)⟩, fun q => absurd q (by decide)⟩⟩
          rw [show nI (List.length (v :: t)) = nI (t.length + 1) from rfl, nI_pred]
          rintro _ rfl _ rfl
          refine ⟨nI_in (by omega) (by decide), ?_⟩
          rw [nI_clamp (by omega), RV_top hR]
          rintro _ rfl _ rfl
          refine ⟨nI_in (by omega) (by decide), ?_⟩
          rintro _ rfl
          exact go _ _ rfl (Ag_sA (Ag_r _ _) (by decide) _) (RV_push (RV_tail hR) _) (by simp only [List.length_cons]; omega)
      · cases st with
        | nil => exact (stp_no hs rfl).elim
        | cons v t =>
          have hs : some ((if v = 0 then 1 else 0) :: t) = some s1 := hs
          cases hs
          have hsl : t.length + 1 + (rest.length + 1) ≤ 125 := hsl
          rw [show aO (-33) = 3 by decide]
          refine ⟨fun q => absurd q (by decide), fun _ => ⟨fun _ => ⟨fun q => absurd rfl q, fun _ => ?_⟩, fun q => absurd q (by decide)⟩⟩
          rw [show nI (List.length (v :: t)) = nI (t.length + 1) from rfl, nI_pred]
          rintro _ rfl _ rfl
          refine ⟨nI_in (by omega) (by decide), ?_⟩
          rw [nI_clamp (by omega), RV_top hR]
          rintro _ rfl
          refine ⟨fun d => ?_, fun d => ?_⟩
          · rw [if_neg d] at go
            refine ⟨nI_in (by omega) (by decide), ?_⟩
            rintro _ rfl
            exact go _ _ rfl (Ag_sA (Ag_r _ _) (by decide) _) (RV_push (RV_tail hR) _) (by simp only [List.length_cons]; omega)
          · rw [if_pos d] at go
            refine ⟨nI_in (by omega) (by decide), ?_⟩
            rintro _ rfl
            exact go _ _ rfl (Ag_sA (Ag_r _ _) (by decide) _) (RV_push (RV_tail hR) _) (by simp only [List.length_cons]; omega)
      · cases st with
        | nil => rcases sgn_or g with rfl | rfl | rfl | rfl | rfl | rfl | rfl | rfl | rfl | rfl <;> exact (stp_no hs rfl).elim
        | cons b t =>
          cases t with
          | nil => rcases sgn_or g with rfl | rfl | rfl | rfl | rfl | rfl | rfl | rfl | rfl | rfl <;> exact (stp_no hs rfl).elim
          | cons v t =>
            rw [stp_two g] at hs
            cases hs
            have hsl : t.length + 1 + 1 + (rest.length + 1) ≤ 125 := hsl
            have ea : aO cd = -cd ∧ ¬ -cd = 1 ∧ ¬ -cd = 2 ∧ ¬ -cd = 3 ∧ ¬ -cd = 4 := by
              rcases sgn_or g with rfl | rfl | rfl | rfl | rfl | rfl | rfl | rfl | rfl | rfl <;> decide
            rw [ea.1]
            refine ⟨fun q => absurd q ea.2.1, fun _ => ⟨fun _ => ⟨fun _ => ⟨fun _ => ?_, fun q => absurd q ea.2.2.2.2⟩, fun q => absurd q ea.2.2.2.1⟩, fun q => absurd q ea.2.2.1⟩⟩
            rw [show nI (List.length (b :: v :: t)) + (-1) = nI (t.length + 1) from pk_m1 (t.length + 1)]
            rintro _ rfl
            rw [nI_pred]
            rintro _ rfl _ rfl
            refine ⟨nI_in (by omega) (by decide), ?_⟩
            rw [nI_clamp (n := t.length) (by omega), RV_top (RV_tail hR)]
            rintro _ rfl
            refine ⟨nI_in (by omega) (by decide), ?_⟩
            rw [nI_clamp (by omega), show gA u 23 (t.length + 1) = b from RV_top hR]
            rintro _ rfl
            refine ztwoOf g ⟨nI_in (by omega) (by decide), ?_⟩
            rintro _ rfl
            exact go _ _ rfl (Ag_sA (Ag_r _ _) (by decide) _) (RV_push (RV_tail (RV_tail hR)) _) (by simp only [List.length_cons]; omega)

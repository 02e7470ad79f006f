theorem zgives {V : ST} {ls : List zL} (hL : LT V ls) (hok : ∀ l ∈ ls, okl l) (hn : ls.length ≤ 61) (hc : (cat ls).length ≤ 121) {e : Nat → Int32} (hf : ∀ k : Nat, k < 3 → gA V 22 k = e k) {Q : Int32 → ST → Prop} (hq : ∀ V' : ST, Ag [23] V' V → Q (vl e ls) V') : wp_X12_gives 0 V Q := by
  obtain ⟨e19, h17, h18, hN⟩ := hL
  unfold wp_X12_gives
  rw [show (61 : Int32) * 0 = nI 0 by decide]
  rintro _ rfl
  unfold wp_X12_gives_p7
  refine ⟨fun x1 x2 x3 u => x1 = 0 ∧ ∃ (i k : Nat) (rest : List zL), x2 = nI k ∧ x3 = nI i ∧ Ag [23] u V ∧ i + rest.length = ls.length ∧ k + (cat rest).length ≤ 121 ∧ AtF aO (gA V 17) k (cat rest) ∧ AtF wO (gA V 18) k (cat rest) ∧ LnAt (gA V 20) (gA V 21) i k rest ∧ (∀ l ∈ rest, okl l) ∧ vl e rest = vl e ls, fun _ _ x3 _ => 62 - x3.toNatClampNeg, ⟨rfl, 0, 0, ls, rfl, rfl, Ag_r _ _, by omega, by omega, h17, h18, hN, hok, rfl⟩, ?_⟩
  rintro _ _ _ u ⟨rfl, i, k, rest, rfl, rfl, hA, hi, hk, g17, g18, hN, hok, hv⟩
  unfold wp_X12_gives_p7b wp_X12_gives_p47
  rw [show (61 : Int32) * 0 = nI 0 by decide]
  rintro _ rfl
  refine ⟨by first | decide | exact nI_in (c := 0) (by decide) (by decide) | exact nI_in (c := 1) (by decide) (by decide) | exact nI_in (c := 2) (by decide) (by decide), ?_⟩
  rw [show gA u 19 (0 : Int32).toNatClampNeg = nI ls.length from (congrFun (Ag_A hA 19 (by decide)) 0).trans e19]
  rintro _ rfl
  rw [nI_add, Nat.zero_add]
  rintro _ rfl
  refine ⟨fun c => ?_, fun c => ?_⟩
  · have := (nI_leI (by omega) (by omega)).mp c
    have : rest = [] := List.length_eq_zero_iff.mp (by omega)
    subst this
    have := hq u hA
    rw [← hv] at this
    exact this
  have hlt : i < ls.length := by
    have := mt (nI_leI (a := ls.length) (b := i) (by omega) (by omega)).mpr c
    omega
  cases rest with
  | nil => simp only [List.length_nil] at hi; omega
  | cons l rest =>
    have hi : i + (rest.length + 1) = ls.length := hi
    have ecl : (cat (l :: rest)).length = l.1.length + l.2.length + (cat rest).length := by
      show (l.1 ++ l.2 ++ cat rest).length = _
      rw [List.length_append, List.length_append]
    have c17 : AtF aO (gA V 17) k (l.1 ++ l.2 ++ cat rest) := g17
    have c18 : AtF wO (gA V 18) k (l.1 ++ l.2 ++ cat rest) := g18
    obtain ⟨o1, o2⟩ := hok l List.mem_cons_self
    have hv : (if l.1.isEmpty = true then vE e l.2 else if vE e l.1 = 0 then vl e rest else vE e l.2) = vl e ls := hv
    have e20 : ∀ w : ST, Ag [23] w V → gA w 20 i = nI (k + l.1.length) := fun w hw => by rw [Ag_A hw 20 (by decide)]; exact hN.1
    have e21 : ∀ w : ST, Ag [23] w V → gA w 21 i = nI (k + l.1.length + l.2.length) := fun w hw => by rw [Ag_A hw 21 (by decide)]; exact hN.2.1
    have hin : vp_in (nI i) 122 := nI_in (by omega) (by decide)
    have hci : (nI i).toNatClampNeg = i := nI_clamp (by omega)
    -- the line counts
    have fin : ∀ w : ST, Ag [23] w V → vE e l.2 = vl e ls → (vp_in (nI i) 122 ∧ ∀ y54 : Int32, y54 = gA w 20 (nI i).toNatClampNeg → (vp_in (nI i) 122 ∧ ∀ y60 : Int32, y60 = gA w 21 (nI i).toNatClampNeg → (wp_X12_worked 0 y54 y60 w (fun y61 u61 => Q y61 u61)))) := by
      intro w hw ev
      refine ⟨hin, ?_⟩
      rw [hci, e20 w hw, e21 w hw]
      rintro _ rfl
      refine ⟨hin, ?_⟩
      rintro _ rfl
      refine zworked o1 ?_ ?_ (by omega) (e := e) (fun k hk => by rw [Ag_A hw 22 (by decide)]; exact hf k hk) fun V' hV' => ?_
      · rw [Ag_A hw 17 (by decide)]
        exact AtF_r (AtF_l c17)
      · rw [Ag_A hw 18 (by decide)]
        exact AtF_r (AtF_l c18)
      · rw [ev]
        exact hq V' (Ag_t hV' hw)
    refine ⟨hin, ?_⟩
    rw [hci, e20 u hA]
    rintro _ rfl
    refine ⟨fun c2 => ?_, fun c2 => ⟨hin, ?_⟩⟩
    · have h0 : k + l.1.length = k := (nI_eq (by omega) (by omega)).mp c2
      have hem : l.1.isEmpty = true := List.isEmpty_iff.mpr (List.length_eq_zero_iff.mp (by omega))
      rw [if_pos hem] at hv
      have := fin u hA hv
      rw [hci, e20 u hA] at this
      exact this
    · have hne : l.1.isEmpty = false := by
        cases hh : l.1.isEmpty with
        | true =>
          rw [List.isEmpty_iff.mp hh] at c2
          exact absurd rfl c2
        | false => rfl
      rw [if_neg (by rw [hne]; decide)] at hv
      rintro _ rfl
      refine zworked (o2 hne) ?_ ?_ (by omega) (e := e) (fun k hk => by rw [Ag_A hA 22 (by decide)]; exact hf k hk) fun V' hV' => ⟨fun d => ⟨hin, ?_⟩, fun d => ?_⟩
      · rw [Ag_A hA 17 (by decide)]
        exact AtF_l (AtF_l c17)
      · rw [Ag_A hA 18 (by decide)]
        exact AtF_l (AtF_l c18)
      · rw [if_pos d] at hv
        rw [e21 V' (Ag_t hV' hA), nI_1]
        rintro _ rfl _ rfl
        refine ⟨⟨rfl, i + 1, _, rest, rfl, rfl, Ag_t hV' hA, by omega, by omega, ?_, ?_, hN.2.2, fun l hl => hok l (List.mem_cons_of_mem _ hl), hv⟩, ?_⟩
        · have := AtF_r c17
          rw [List.length_append, ← Nat.add_assoc] at this
          exact this
        · have := AtF_r c18
          rw [List.length_append, ← Nat.add_assoc] at this
          exact this
        · try dsimp only
          rw [nI_clamp (by omega), hci]
          omega
      · rw [if_neg d] at hv
        have := fin V' (Ag_t hV' hA) hv
        rw [hci] at this
        exact this
/-- held within 0 and 9 -/
def wI (v : Int32) : Nat := if v < 0 then 0 else if 9 < v then 9 else v.toNatClampNeg
theorem wI_or (v : Int32) : (v < 0 ∧ wI v = 0) ∨ (¬ v < 0 ∧ 9 < v ∧ wI v = 9) ∨ ∃ m : Nat, m ≤ 9 ∧ v = nI m ∧ wI v = m := by
  unfold wI
  by_cases c : v < 0
  · rw [if_pos c]
    exact .inl ⟨c, rfl⟩
  rw [if_neg c]
  by_cases c2 : 9 < v
  · rw [if_pos c2]
    exact .inr (.inl ⟨c, c2, rfl⟩)
  rw [if_neg c2]
  obtain ⟨m, hm, rfl⟩ := nI_of c
  have := mt (nI_ltI (a := 9) (b := m) (by decide) hm).mpr c2
  exact .inr (.inr ⟨m, by omega, rfl, nI_clamp hm⟩)
theorem wI_le (v : Int32) : wI v ≤ 9 := by
  rcases wI_or v with ⟨_, h⟩ | ⟨_, _, h⟩ | ⟨m, hm, _, h⟩ <;> omega
theorem wI_C (v : Int32) : (if 0 < (if v < 9 then v else 9) then (if v < 9 then v else 9) else 0) = nI (wI v) := by
  rcases wI_or v with ⟨c, h⟩ | ⟨_, c, h⟩ | ⟨m, hm, rfl, h⟩
  · have h9 : v < 9 := by
      rw [Int32.lt_iff_toInt_lt] at c ⊢
      have e0 : (0 : Int32).toInt = 0 := by decide
      have e9 : (9 : Int32).toInt = 9 := by decide
      omega
    have h0 : ¬ 0 < v := by
      rw [Int32.lt_iff_toInt_lt] at c ⊢
      have e0 : (0 : Int32).toInt = 0 := by decide
      omega
    rw [h, if_pos h9, if_neg h0]
    rfl
  · have h9 : ¬ v < 9 := by
      rw [Int32.lt_iff_toInt_lt] at c ⊢
      have e9 : (9 : Int32).toInt = 9 := by decide
      omega
    rw [h, if_neg h9]
    decide
  · rw [h]
    rcases (show m = 0 ∨ m = 1 ∨ m = 2 ∨ m = 3 ∨ m = 4 ∨ m = 5 ∨ m = 6 ∨ m = 7 ∨ m = 8 ∨ m = 9 by omega) with rfl | rfl | rfl | rfl | rfl | rfl | rfl | rfl | rfl | rfl <;> decide
/-- the law in force on both sides: none, or lines -/
def RLw (L V : ST) (o : Option (List zL)) : Prop := match o with
  | none => gI L 5 = 0 ∧ gI V 24 = 0
  | some ls => 0 < ls.length ∧ ls.length ≤ 61 ∧ (cat ls).length ≤ 121 ∧ (flt ls).length ≤ 121 ∧ (∀ l ∈ ls, okl l) ∧ gI L 5 = nI (flt ls).length ∧ AtF id (gA L 2) 0 (flt ls) ∧ gI V 24 = 1 ∧ LT V ls
/-- the weight of a height by it -/
def wt (o : Option (List zL)) (h n j : Nat) : Nat := match o with
  | none => 1
  | some ls => wI (vl (en3 (nI h) (nI n) (nI j)) ls)
theorem wt_le (o : Option (List zL)) (h n j : Nat) : wt o h n j ≤ 9 := by
  cases o with
  | none => exact (by decide : (1 : Nat) ≤ 9)
  | some ls => exact wI_le _
theorem flt_pos {ls : List zL} (h : 0 < ls.length) : 0 < (flt ls).length := by
  cases ls with
  | nil => exact absurd h (Nat.lt_irrefl _)
  | cons l ls =>
    show 0 < (fl1 l ++ flt ls).length
    rw [List.length_append]
    unfold fl1
    split <;> simp only [List.length_append, List.length_singleton] <;> omega
theorem zwtC {L V : ST} {o : Option (List zL)} (h : RLw L V o) {a n j : Nat} {Q : Int32 → ST → Prop} (hq : ∀ L' : ST, Ag [1, 8] L' L → Q (nI (wt o a n j)) L') : wp_X3_weightFor (nI a) (nI n) (nI j) L Q := by
  unfold wp_X3_weightFor
  cases o with
  | none => exact ⟨fun c => absurd h.1 c, fun _ => hq L (Ag_r _ _)⟩
  | some ls =>
    obtain ⟨h1, h2, h3, h4, h5, h6, h7, h8, h9⟩ := h
    have := flt_pos h1
    rw [h6]
    refine ⟨fun _ => ?_, fun c => absurd c (nI_ne0 (by omega) (by omega))⟩
    refine zvalC h7 h6 (by omega) fun L' hL' => ?_
    rw [vm_val h5]
    rintro _ rfl _ rfl
    rw [wI_C]
    exact hq L' hL'
theorem zwtR {L V : ST} {o : Option (List zL)} (h : RLw L V o) {a n j : Nat} (e1 : gI V 1 = nI n) (e2 : gI V 2 = nI j) {Q : Int32 → ST → Prop} (hq : ∀ V' : ST, Ag [22, 23] V' V → Q (nI (wt o a n j)) V') : wp_X12_weightOf (nI a) V Q := by
  unfold wp_X12_weightOf wp_X12_weightOf_p62
  cases o with
  | none => exact ⟨fun c => absurd h.2 c, fun _ => hq V (Ag_r _ _)⟩
  | some ls =>
    obtain ⟨h1, h2, h3, h4, h5, h6, h7, h8, h9⟩ := h
    rw [h8]
    refine ⟨fun _ => ⟨by first | decide | exact nI_in (c := 0) (by decide) (by decide) | exact nI_in (c := 1) (by decide) (by decide) | exact nI_in (c := 2) (by decide) (by decide), ?_⟩, fun c => absurd c (by decide)⟩
    rintro _ rfl
    refine ⟨by first | decide | exact nI_in (c := 0) (by decide) (by decide) | exact nI_in (c := 1) (by decide) (by decide) | exact nI_in (c := 2) (by decide) (by decide), ?_⟩
    rintro _ rfl
    refine ⟨by first | decide | exact nI_in (c := 0) (by decide) (by decide) | exact nI_in (c := 1) (by decide) (by decide) | exact nI_in (c := 2) (by decide) (by decide), ?_⟩
    rintro _ rfl
    generalize hX : sA (sA (sA V 22 (upd (gA V 22) (0 : Int32).toNatClampNeg (nI a))) 22 (upd (gA (sA V 22 (upd (gA V 22) (0 : Int32).toNatClampNeg (nI a))) 22) (1 : Int32).toNatClampNeg (gI (sA V 22 (upd (gA V 22) (0 : Int32).toNatClampNeg (nI a))) 1))) 22 (upd (gA (sA (sA V 22 (upd (gA V 22) (0 : Int32).toNatClampNeg (nI a))) 22 (upd (gA (sA V 22 (upd (gA V 22) (0 : Int32).toNatClampNeg (nI a))) 22) (1 : Int32).toNatClampNeg (gI (sA V 22 (upd (gA V 22) (0 : Int32).toNatClampNeg (nI a))) 1))) 22) (2 : Int32).toNatClampNeg (gI (sA (sA V 22 (upd (gA V 22) (0 : Int32).toNatClampNeg (nI a))) 22 (upd (gA (sA V 22 (upd (gA V 22) (0 : Int32).toNatClampNeg (nI a))) 22) (1 : Int32).toNatClampNeg (gI (sA V 22 (upd (gA V 22) (0 : Int32).toNatClampNeg (nI a))) 1))) 2)) = X
    have hA : Ag [22, 23] X V := by
      subst hX
      exact Ag_sA (Ag_sA (Ag_sA (Ag_r _ _) (by decide) _) (by decide) _) (by decide) _
    have hX22 : gA X 22 = upd (upd (upd (gA V 22) 0 (nI a)) 1 (nI n)) 2 (nI j) := by
      subst hX
      show upd (upd (upd (gA V 22) 0 (nI a)) 1 (gI V 1)) 2 (gI V 2) = _
      rw [e1, e2]
    clear hX
    have hLX : LT X ls := by
      unfold LT
      rw [Ag_A hA 17 (by decide), Ag_A hA 18 (by decide), Ag_A hA 19 (by decide), Ag_A hA 20 (by decide), Ag_A hA 21 (by decide)]
      exact h9
    refine zgives hLX h5 h2 h3 (e := en3 (nI a) (nI n) (nI j)) (fun k hk => ?_) fun V' hV' => ?_
    · rw [hX22]
      rcases (show k = 0 ∨ k = 1 ∨ k = 2 by omega) with rfl | rfl | rfl <;> rfl
    · have hA' : Ag [22, 23] V' V := Ag_t (Ag_m hV' (by decide)) hA
      have hq := hq V' hA'
      have hq : Q (nI (wI (vl (en3 (nI a) (nI n) (nI j)) ls))) V' := hq
      rcases wI_or (vl (en3 (nI a) (nI n) (nI j)) ls) with ⟨c, e⟩ | ⟨c0, c, e⟩ | ⟨m, hm, em, e⟩
      · rw [e] at hq
        exact ⟨fun c' => absurd c (Int32.not_lt.mpr c'), fun _ => hq⟩
      · rw [e] at hq
        exact ⟨fun _ => ⟨fun c' => absurd c (Int32.not_lt.mpr c'), fun _ => hq⟩, fun c' => absurd (Int32.not_lt.mp c0) c'⟩
      · rw [e] at hq
        rw [em]
        exact ⟨fun _ => ⟨fun _ => hq, fun c' => absurd (nI_le (b := 9) hm (by decide)) c'⟩, fun c' => absurd (nI_pos' (by omega)) c'⟩
theorem RLw_ag {L L' V V' : ST} {o : Option (List zL)} (h : RLw L V o) {ks ls : List Nat} (hL : Ag ks L' L) (h2 : 2 ∉ ks) (h5 : 5 ∉ ks) (hV : Ag ls V' V) (l17 : 17 ∉ ls) (l18 : 18 ∉ ls) (l19 : 19 ∉ ls) (l20 : 20 ∉ ls) (l21 : 21 ∉ ls) (l24 : 24 ∉ ls) : RLw L' V' o := by
  cases o with
  | none => exact ⟨(Ag_I hL 5 h5).trans h.1, (Ag_I hV 24 l24).trans h.2⟩
  | some m =>
    obtain ⟨g1, g2, g3, g4, g5, g6, g7, g8, g9⟩ := h
    refine ⟨g1, g2, g3, g4, g5, (Ag_I hL 5 h5).trans g6, by rw [Ag_A hL 2 h2]; exact g7, (Ag_I hV 24 l24).trans g8, ?_⟩
    unfold LT
    rw [Ag_A hV 17 l17, Ag_A hV 18 l18, Ag_A hV 19 l19, Ag_A hV 20 l20, Ag_A hV 21 l21]
    exact g9
theorem zweight {U : CS} {V : ST} {o : Option (List zL)} (hT : RT (U 1) V) (hw : RLw (U 2) V o) (a : Int32) : Sim (wp_X11_weight a U) (wp_X12_weight a V) (fun U' V' => (∃ L' : ST, Ag [1, 8] L' (U 2) ∧ U' = mu U 2 L') ∧ Ag [22, 23] V' V) := by
  intro Q h
  obtain ⟨n, j0, d, p, n1, n2, hj0, hd, hp, v1, v2, v3, v4, t1, t2, t3, t4⟩ := RT_vals hT
  unfold wp_X11_weight
  refine zstepsT ?_
  rintro _ rfl
  rw [mu_self, t1]
  refine zwithin (fun p q => ⟨fun _ => ?_, fun c => absurd c (by decide)⟩) (fun p => ⟨fun c => absurd rfl c, fun _ => h _ _ fun K hK => ?_⟩)
  rotate_left
  · unfold wp_X12_weight wp_X12_weight_p21
    rw [v1]
    exact zIb p ⟨fun _ => hK V ⟨⟨U 2, Ag_r _ _, (mu_self U 2).symm⟩, Ag_r _ _⟩, fun c => absurd rfl c⟩
  obtain ⟨a', ha, rfl⟩ := nI_of p
  refine zstepsT ?_
  rintro _ rfl
  rw [mu_self]
  refine zjarsT ?_
  rintro _ rfl
  rw [mu_self, t1, t2]
  refine zwtC hw fun L' hL' => ?_
  rintro _ rfl
  refine h _ _ fun K hK => ?_
  unfold wp_X12_weight wp_X12_weight_p21
  rw [v1]
  refine zin (fun _ _ => ⟨fun c => absurd c (by decide), fun _ => zwtR hw v1 v2 fun V' hV' => hK V' ⟨⟨L', hL', rfl⟩, hV'⟩⟩) (fun pp => (pp.elim p q).elim)
theorem ix224 (k : Nat) (h : ix [2, 24] k < [2, 24].length) : k ∈ [2, 24] := by
  have := ix_get [2, 24] k h
  have h2 : ix [2, 24] k < 2 := h
  rcases (show ix [2, 24] k = 0 ∨ ix [2, 24] k = 1 by omega) with e | e <;> rw [e] at this <;> subst this <;> decide
theorem zlaw {U : CS} {V : ST} {o : Option (List zL)} (hL0 : RL0 (U 2) V) (hw : RLw (U 2) V o) {v : Nat} (ev : gI (U 2) 9 = nI v) : Sim (wp_X11_law U) (wp_X12_law V) (fun U' V' => RL0 (U' 2) V' ∧ ((RLw (U' 2) V' o ∧ gI (U' 2) 9 = nI v) ∨ ∃ o' : Option (List zL), RLw (U' 2) V' o' ∧ gI (U' 2) 9 = nI (v + 1)) ∧ AgU [2, 24] U' U ∧ Ag [12, 13, 14, 15, 16, 17, 18, 19, 20, 21, 24] V' V) := by
  intro Q h
  obtain ⟨n, hn, e1, e2, ht⟩ := hL0
  have htC : ∀ i : Nat, i < n → gA (U 2) 0 i = nI (gA (U 2) 0 i).toNatClampNeg ∧ (gA (U 2) 0 i).toNatClampNeg < 256 ∧ gA V 11 i = lkc (gA (U 2) 0 i).toNatClampNeg := by
    intro i hi
    obtain ⟨b, hb, g1, g2⟩ := ht i hi
    rw [g1, nI_clamp (by omega)]
    refine ⟨rfl, hb, ?_⟩
    unfold lkc
    rw [if_neg (by omega)]
    exact g2
  have hTC : TC (fun i => (gA (U 2) 0 i).toNatClampNeg) n (U 2) := ⟨e1, fun i hi => (htC i hi).1⟩
  have hTR : TR (fun i => (gA (U 2) 0 i).toNatClampNeg) n V := ⟨e2, fun i hi => (htC i hi).2.2⟩
  have ht2 : ∀ i : Nat, i < n → (fun i => (gA (U 2) 0 i).toNatClampNeg) i < 256 := fun i hi => (htC i hi).2.1
  unfold wp_X11_law wp_X3_become wp_X3_become_p20 wp_X3_become_p61
  refine zread hn ht2 (u := U 2) hTC (fun g u' hA e6 hlen hok hat => ?_) (fun g u' hu => ?_)
  · rintro _ rfl
    refine ⟨fun c => absurd c (by decide), fun _ => ⟨fun c => absurd c (by decide), fun _ => ?_⟩⟩
    rintro _ rfl _ rfl _ rfl _ rfl _ rfl _ rfl
    refine h _ _ fun K hK => ?_
    unfold wp_X12_law
    refine zreadR hn ht2 hTR (fun _ V' gA' g12 gLT gcat gls gpos gok => ⟨fun _ => ?_, fun c => absurd (by decide) c⟩) (fun gf => by rw [g] at gf; exact absurd gf (by decide))
    rintro _ rfl
    refine hK _ ⟨⟨0, by omega, rfl, g12, fun i hi => absurd hi (Nat.not_lt_zero _)⟩, .inr ⟨some _, ⟨gpos, gls, gcat, hlen, hok, e6, hat, rfl, gLT⟩, ?_⟩, AgU_emb (AgU_r _ _) ix224, Ag_sI (Ag_m gA' (by decide)) (by decide) _⟩
    show gI u' 9 + 1 = nI (v + 1)
    rw [Ag_I hA 9 (by decide), ev, nI_1]
  · rintro _ rfl
    refine ⟨fun _ => ?_, fun c => absurd rfl c⟩
    rintro _ rfl
    refine ⟨fun _ => ?_, fun c => absurd rfl c⟩
    rintro _ rfl _ rfl
    refine h _ _ fun K hK => ?_
    unfold wp_X12_law
    refine zreadR hn ht2 hTR (fun gf => by rw [g] at gf; exact absurd gf (by decide)) (fun _ hle V' gA' g12 gh => ⟨fun c => absurd c (nI_pos (by omega)), fun _ => ?_⟩)
    rintro _ rfl
    refine zK (hK V' ⟨⟨0, by omega, rfl, g12, fun i hi => absurd hi (Nat.not_lt_zero _)⟩, .inl ⟨?_, (Ag_I hu.1 9 (by decide)).trans ev⟩, AgU_emb (AgU_r _ _) ix224, Ag_m gA' (by decide)⟩) ?_
    · have f5 : gI u' 5 = gI (U 2) 5 := Ag_I hu.1 5 (by decide)
      have f2 : gA u' 2 = gA (U 2) 2 := Ag_A hu.1 2 (by decide)
      have f24 : gI V' 24 = gI V 24 := Ag_I gA' 24 (by decide)
      cases o with
      | none => exact ⟨f5.trans hw.1, f24.trans hw.2⟩
      | some m =>
        obtain ⟨g1, g2, g3, g4, g5, g6, g7, g8, g9, g10, g11, g12'⟩ := hw
        refine ⟨g1, g2, g3, g4, g5, f5.trans g6, ?_, f24.trans g8, gh.2.2.trans g9, AtF_cg (fun i _ q => (gh.1 i (by omega)).1) g10, AtF_cg (fun i _ q => (gh.1 i (by omega)).2) g11, LnAt_cg (fun i _ q => gh.2.1 i (by omega)) g12'⟩
        show AtF id (gA u' 2) 0 (flt m)
        rw [f2]
        exact g7
    · show (-100 : Int32) - gI u' 7 = -100 - nI _
      rw [hu.2]

/-! ruled and step -/
def RWk (o : Option (List zL)) (v : Nat) (U : CS) (V : ST) : Prop := RLw (U 2) V o ∧ gI (U 2) 9 = nI v ∧ v < 100000 ∧ RMe (U 6) o v ∧ RLd false (U 3) ∧ RLd true (U 5) ∧ RW V
/-- what a call that walks leaves -/
def RWx (o : Option (List zL)) (v : Nat) (U : CS) (V : ST) (U' : CS) (V' : ST) : Prop := ((RMe (U' 6) o v ∧ RLd false (U' 3) ∧ RLd true (U' 5) ∧ Ag [1, 8] (U' 2) (U 2)) ∧ RW V') ∧ AgU kW U' U ∧ Ag kGR V' V
theorem RWx_r {o : Option (List zL)} {v : Nat} {U : CS} {V : ST} (h : RWk o v U V) : RWx o v U V U V := ⟨⟨⟨h.2.2.2.1, h.2.2.2.2.1, h.2.2.2.2.2.1, Ag_r _ _⟩, h.2.2.2.2.2.2⟩, AgU_r _ _, Ag_r _ _⟩
theorem RWx_of {o : Option (List zL)} {v N J : Nat} {U U' : CS} {V V' : ST} (h : CWx o v N J U U') (hv2 : v < 100000) (hN : N ≤ 60) (hJ : J ≤ 6) (hW : RW V') (hA : Ag kGR V' V) : RWx o v U V U' V' := by
  obtain ⟨⟨w, hm⟩, h1, h2, h3, h4⟩ := h
  exact ⟨⟨⟨ME_e hm hv2 hN hJ, h1, h2, h3⟩, hW⟩, h4, hA⟩
theorem zrefJ0 {V : ST} {J : Nat} (v2 : gI V 2 = nI J) (h : J = 0) : gI V 2 = 0 := by
  rw [v2, h]
  rfl
theorem zrefJ {V : ST} {J : Nat} (v2 : gI V 2 = nI J) (hJ : J ≤ 6) (h : J ≠ 0) : ¬ gI V 2 = 0 := by
  rw [v2]
  exact mt (nI_z0 (by omega)).mp h
theorem zruled {U : CS} {V : ST} {o : Option (List zL)} {v : Nat} (hT : RT (U 1) V) (hR : RWk o v U V) (a1 a2 a3 : Int32) : Sim (wp_X11_ruled a1 a2 a3 U) (wp_X12_ruled a1 a2 a3 V) (RWx o v U V) := by
  intro Q h
  obtain ⟨N, J, d, p, n1, n2, hJ, hd, hp, v1, v2, v3, v4, t1, t2, t3, t4⟩ := RT_vals hT
  obtain ⟨hL, hv, hv2, hM, hW3, hE, hW⟩ := id hR
  have hid := RWx_r hR
  unfold wp_X11_ruled wp_X11_ruled_p33 wp_X11_ruled_p68
  rcases what_or a1 with ha1 | hb1
  rotate_left
  · refine zWb hb1 ⟨fun _ => h _ _ fun K hK => ?_, fun c => absurd rfl c⟩
    unfold wp_X12_ruled wp_X12_ruled_p30
    exact zIb hb1 ⟨fun _ => hK V hid, fun c => absurd rfl c⟩
  refine zW01 ha1 ⟨fun c => absurd c (by decide), fun _ => zstepsT ?_⟩
  rintro _ rfl
  rw [mu_self, t1]
  by_cases hb2 : a2 < 0 ∨ nI N < a2
  · refine zWb hb2 ⟨fun _ => h _ _ fun K hK => ?_, fun c => absurd rfl c⟩
    unfold wp_X12_ruled wp_X12_ruled_p30
    rw [v1]
    exact zI01 ha1 ⟨fun c => absurd c (by decide), fun _ => zIb hb2 ⟨fun _ => hK V hid, fun c => absurd rfl c⟩⟩
  obtain ⟨e, he, rfl⟩ := nI_of (x := a2) fun c => hb2 (.inl c)
  have heN : e ≤ N := by
    by_cases c : e ≤ N
    · exact c
    · exact absurd (.inr ((nI_ltI (by omega) he).mpr (by omega))) hb2
  refine zWin (lo := 0) (by omega) heN (by omega) ⟨fun c => absurd c (by decide), fun _ => ?_⟩
  rcases what_or a3 with ha3 | hb3
  rotate_left
  · refine zWb hb3 ⟨fun c => absurd rfl c, fun _ => h _ _ fun K hK => ?_⟩
    unfold wp_X12_ruled wp_X12_ruled_p30
    rw [v1]
    exact zI01 ha1 ⟨fun c => absurd c (by decide), fun _ => zIn (lo := 0) (by omega) heN (by omega) ⟨fun c => absurd c (by decide), fun _ => zIb hb3 ⟨fun c => absurd rfl c, fun _ => hK V hid⟩⟩⟩
  refine zW01 ha3 ⟨fun _ => ?_, fun c => absurd c (by decide)⟩
  refine zwalks (F := if a1 = 0 then Fw else Fm (fun h => wt o h N J)) t1 t2 n1 n2 hJ he hL hv hv2 hM hW3 hE rfl (fun hJ0 U' hC => ?_) (fun hJ0 U' D g l hK' hC => ?_)
  · refine ⟨fun c => absurd rfl c, fun _ => h _ _ fun K hK => ?_⟩
    unfold wp_X12_ruled wp_X12_ruled_p30
    rw [v1]
    refine zI01 ha1 ⟨fun c => absurd c (by decide), fun _ => zIn (lo := 0) (by omega) heN (by omega) ⟨fun c => absurd c (by decide), fun _ => zI01 ha3 ⟨fun _ => ⟨fun c => absurd (zrefJ0 v2 hJ0) c, fun _ => ?_⟩, fun c => absurd c (by decide)⟩⟩⟩
    exact hK V (RWx_of hC hv2 n2 hJ hW (Ag_r _ _))
  · rw [hK'.2.1, hK'.2.2.1]
    have href : ∀ K : Int32 → ST → Prop, (∀ V' : ST, RWx o v U V U' V' → K (if a3 = 0 then nI D else nI (wk (if a1 = 0 then Fw else Fm (fun h => wt o h N J)) e N J D).2.2) V') → wp_X12_ruled a1 (nI e) a3 V K := by
      intro K hK
      unfold wp_X12_ruled wp_X12_ruled_p30 wp_X12_ruled_p64
      rw [v1]
      refine zI01 ha1 ⟨fun c => absurd c (by decide), fun _ => zIn (lo := 0) (by omega) heN (by omega) ⟨fun c => absurd c (by decide), fun _ => zI01 ha3 ⟨fun _ => ⟨fun _ => ?_, fun c => absurd c (zrefJ v2 hJ hJ0)⟩, fun c => absurd c (by decide)⟩⟩⟩
      refine zgoR hL v1 v2 n2 hJ hJ0 he hW rfl g l fun V' hA hW' e38 e39 _ => ?_
      have hK := hK V' (RWx_of hC hv2 n2 hJ hW' hA)
      rw [e38, e39]
      refine ⟨fun c => ?_, fun c => ?_⟩
      · rw [if_neg c] at hK
        exact hK
      · rw [if_pos c] at hK
        exact hK
    refine ⟨fun _ => ⟨fun c => ?_, fun c => ?_⟩, fun c => absurd c (by decide)⟩
    · rw [if_neg c] at href
      exact h _ _ href
    · rw [if_pos c] at href
      exact h _ _ href
theorem zstepS {U : CS} {V : ST} {o : Option (List zL)} {v : Nat} (hT : RT (U 1) V) (hR : RWk o v U V) (a1 a2 a3 : Int32) : Sim (wp_X11_step a1 a2 a3 U) (wp_X12_step a1 a2 a3 V) (RWx o v U V) := by
  intro Q h
  obtain ⟨N, J, d, p, n1, n2, hJ, hd, hp, v1, v2, v3, v4, t1, t2, t3, t4⟩ := RT_vals hT
  obtain ⟨hL, hv, hv2, hM, hW3, hE, hW⟩ := id hR
  have hid := RWx_r hR
  unfold wp_X11_step wp_X11_step_p28 wp_X11_step_p52
  rcases what_or a1 with ha1 | hb1
  rotate_left
  · refine zWb hb1 ⟨fun _ => h _ _ fun K hK => ?_, fun c => absurd rfl c⟩
    unfold wp_X12_step wp_X12_step_p25
    exact zIb hb1 ⟨fun _ => hK V hid, fun c => absurd rfl c⟩
  refine zW01 ha1 ⟨fun c => absurd c (by decide), fun _ => zstepsT ?_⟩
  rintro _ rfl
  rw [mu_self, t1]
  by_cases hb2 : a2 < 0 ∨ nI N < a2
  · refine zWb hb2 ⟨fun _ => h _ _ fun K hK => ?_, fun c => absurd rfl c⟩
    unfold wp_X12_step wp_X12_step_p25
    rw [v1]
    exact zI01 ha1 ⟨fun c => absurd c (by decide), fun _ => zIb hb2 ⟨fun _ => hK V hid, fun c => absurd rfl c⟩⟩
  obtain ⟨e, he, rfl⟩ := nI_of (x := a2) fun c => hb2 (.inl c)
  have heN : e ≤ N := by
    by_cases c : e ≤ N
    · exact c
    · exact absurd (.inr ((nI_ltI (by omega) he).mpr (by omega))) hb2
  refine zWin (lo := 0) (by omega) heN (by omega) ⟨fun c => absurd c (by decide), fun _ => ?_⟩
  refine ⟨fun ck => ?_, fun ck => h _ _ fun K hK => ?_⟩
  rotate_left
  · unfold wp_X12_step wp_X12_step_p25
    rw [v1]
    exact zI01 ha1 ⟨fun c => absurd c (by decide), fun _ => zIn (lo := 0) (by omega) heN (by omega) ⟨fun c => absurd c (by decide), fun _ => ⟨fun c => absurd c ck, fun _ => hK V hid⟩⟩⟩
  have ck' : ¬ a3 < 0 := fun c => by
    rw [Int32.lt_iff_toInt_lt] at c
    rw [Int32.le_iff_toInt_le] at ck
    omega
  obtain ⟨i, hi, rfl⟩ := nI_of ck'
  refine zwalks (F := if a1 = 0 then Fw else Fm (fun h => wt o h N J)) t1 t2 n1 n2 hJ he hL hv hv2 hM hW3 hE rfl (fun hJ0 U' hC => ?_) (fun hJ0 U' D g l hK' hC => ?_)
  · refine ⟨fun _ => h _ _ fun K hK => ?_, fun c => absurd rfl c⟩
    unfold wp_X12_step wp_X12_step_p25
    rw [v1]
    refine zI01 ha1 ⟨fun c => absurd c (by decide), fun _ => zIn (lo := 0) (by omega) heN (by omega) ⟨fun c => absurd c (by decide), fun _ => ⟨fun _ => ⟨fun c => absurd (zrefJ0 v2 hJ0) c, fun _ => ?_⟩, fun c => absurd ck c⟩⟩⟩
    exact hK V (RWx_of hC hv2 n2 hJ hW (Ag_r _ _))
  · have hFP : FP (if a1 = 0 then Fw else Fm (fun h => wt o h N J)) N := by
      split
      · exact FP0 n2
      · exact FP1 (fun h _ => wt_le o h N J) n2
    obtain ⟨-, -, hD, -, -⟩ := wk_ok hFP hJ0 D g
    have href : ∀ y : Int32, (∀ x : Int32, V40 (if a1 = 0 then Fw else Fm (fun h => wt o h N J)) e N J (nI i) D x → x = y) → ∀ K : Int32 → ST → Prop, (∀ V' : ST, RWx o v U V U' V' → K y V') → wp_X12_step a1 (nI e) (nI i) V K := by
      intro y hy K hK
      unfold wp_X12_step wp_X12_step_p25
      rw [v1]
      refine zI01 ha1 ⟨fun c => absurd c (by decide), fun _ => zIn (lo := 0) (by omega) heN (by omega) ⟨fun c => absurd c (by decide), fun _ => ⟨fun _ => ⟨fun _ => ?_, fun c => absurd c (zrefJ v2 hJ hJ0)⟩, fun c => absurd ck c⟩⟩⟩
      refine zgoR hL v1 v2 n2 hJ hJ0 he hW rfl g l fun V' hA hW' e38 e39 e40 => ?_
      rw [hy _ e40]
      exact hK V' (RWx_of hC hv2 n2 hJ hW' hA)
    refine ⟨fun c => absurd c (by decide), fun _ => ?_⟩
    unfold wp_X10_stepAt wp_X10_stepAt_p21 wp_X10_stepAt_p23
    rw [show gI (U' ([10, 11].getD 0 0)) 2 = nI D from hK'.2.1]
    refine ⟨fun c => absurd c ck', fun _ => ⟨fun c => ?_, fun c => ⟨?_, ?_⟩⟩⟩
    · have c := (nI_leI (by omega) hi).mp c
      try dsimp only
      rw [emb_self]
      intro u5 eu
      rw [eu]
      refine h _ _ (href _ fun x hx => hx.2 fun q hq e => ?_)
      have := (nI_eq hi (by omega)).mp e
      omega
    · have c := mt (nI_leI (a := D) (b := i) (by omega) hi).mpr c
      exact nI_in (by omega) (by decide)
    · have c := mt (nI_leI (a := D) (b := i) (by omega) hi).mpr c
      rw [nI_clamp hi, show gA (U' ([10, 11].getD 0 0)) 0 i = _ from hK'.2.2.2 i (by omega)]
      rintro _ rfl
      try dsimp only
      rw [emb_self]
      intro u5 eu
      rw [eu]
      exact h _ _ (href _ fun x hx => hx.1 i rfl (by omega))

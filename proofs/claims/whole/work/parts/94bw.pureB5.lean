/-- a row of bytes on a shelf, or why not -/
def rowOK (U : CS) (V : ST) (s m : Nat) : Prop := m ≤ 60 ∧ gI (U (18 + s)) 3 = nI m ∧ gA V 54 s = nI m ∧ gA V 53 s = -2 ∧ ∀ i : Nat, i < 60 → gJ (U (18 + s)) 0 i = gJ V 55 (60 * s + i)
theorem zbytes {U : CS} {V : ST} (hS : RS U V) (a1 : Int32) : ∃ y : Int32, (∀ Q : Int32 → CS → Prop, Q y U → wp_X11_refusesBytes a1 U Q) ∧ ((y = -1 ∧ (a1 < 0 ∨ 5 < a1)) ∨ ∃ s : Nat, s < 6 ∧ a1 = nI s ∧ (∀ Q : Int32 → ST → Prop, Q y V → wp_X12_rowFault (nI s) V Q) ∧ ((y = 0 ∧ ∃ m : Nat, rowOK U V s m) ∨ (y = -11 ∧ gA V 53 s = -1) ∨ (y = -12 ∧ ¬ gA V 53 s = -1 ∧ ¬ gA V 53 s = -2))) := by
  rcases shelf_or a1 with ⟨s, hs, rfl⟩ | hbad
  rotate_left
  · refine ⟨-1, fun Q hq => ?_, .inl ⟨rfl, hbad⟩⟩
    unfold wp_X11_refusesBytes
    exact zShelfN hbad ⟨fun c => absurd rfl c, fun _ => hq⟩
  have hcs : (nI s).toNatClampNeg = s := nI_clamp (by omega)
  have hm : mu U (18 + s) (U (18 + s)) = U := mu_self U (18 + s)
  obtain ⟨n, hn, e9, hS⟩ := hS
  rcases hS s hs with ⟨q1, q2, q3⟩ | ⟨b, hb, q1, q2, q3⟩ | ⟨so, m, r1, r2, q1, q2, q5, q3, q7, q8⟩
  · refine ⟨-11, fun Q hq => ?_, .inr ⟨s, hs, rfl, fun Q hq => ?_, .inr (.inl ⟨rfl, q3⟩)⟩⟩
    · unfold wp_X11_refusesBytes
      refine zShelfY hs ⟨fun _ => ⟨nI_in hs (by decide), ?_⟩, fun c => absurd c (by decide)⟩
      rw [hcs]
      refine zisEmpty (fun _ _ => ?_) (fun c => absurd ⟨q1, q2⟩ c)
      rintro _ rfl
      rw [hm]
      exact ⟨fun c => absurd c (by decide), fun _ => hq⟩
    · unfold wp_X12_rowFault wp_X12_rowFault_p32
      refine ⟨nI_in hs (by decide), ?_⟩
      rw [hcs, q3]
      rintro _ rfl
      exact ⟨fun c => absurd rfl c, fun _ => hq⟩
  · refine ⟨-12, fun Q hq => ?_, .inr ⟨s, hs, rfl, fun Q hq => ?_, .inr (.inr ⟨rfl, ?_, ?_⟩)⟩⟩
    · unfold wp_X11_refusesBytes wp_X11_refusesBytes_p52 wp_X11_refusesBytes_p54
      refine zShelfY hs ⟨fun _ => ⟨nI_in hs (by decide), ?_⟩, fun c => absurd c (by decide)⟩
      rw [hcs]
      refine zisEmpty (fun c _ => absurd (q1.symm.trans c) (nI_nm1 (by omega))) (fun _ => ?_)
      rintro _ rfl
      rw [hm]
      refine ⟨fun _ => ⟨nI_in hs (by decide), ?_⟩, fun c => absurd rfl c⟩
      refine zisRow (fun c => absurd q2 c) (fun _ => ?_)
      rintro _ rfl
      rw [hm]
      exact ⟨fun _ => hq, fun c => absurd rfl c⟩
    · unfold wp_X12_rowFault wp_X12_rowFault_p32
      refine ⟨nI_in hs (by decide), ?_⟩
      rw [hcs, q3]
      rintro _ rfl
      refine ⟨fun _ => ⟨nI_in hs (by decide), ?_⟩, fun c => absurd c (nI_nm1 (by omega))⟩
      rintro _ rfl
      refine ⟨fun _ => hq, fun c => absurd (c ▸ nI_pos (n := b) (by omega) : ¬ (-2 : Int32) < 0) (by decide)⟩
    · rw [q3]
      exact nI_nm1 (by omega)
    · rw [q3]
      intro c
      exact absurd (c ▸ nI_pos (n := b) (by omega) : ¬ (-2 : Int32) < 0) (by decide)
  · have hne := so_neg r1
    by_cases h0 : so = 0
    · subst h0
      have q3' : gA V 53 s = -2 := q3
      refine ⟨0, fun Q hq => ?_, .inr ⟨s, hs, rfl, fun Q hq => ?_, .inl ⟨rfl, m, r2, q5, q7, q3', q8⟩⟩⟩
      · unfold wp_X11_refusesBytes wp_X11_refusesBytes_p52 wp_X11_refusesBytes_p54
        refine zShelfY hs ⟨fun _ => ⟨nI_in hs (by decide), ?_⟩, fun c => absurd c (by decide)⟩
        rw [hcs]
        refine zisEmpty (fun _ c => absurd (q2.symm.trans c) (nI_nm1 (by decide))) (fun _ => ?_)
        rintro _ rfl
        rw [hm]
        refine ⟨fun _ => ⟨nI_in hs (by decide), ?_⟩, fun c => absurd rfl c⟩
        refine zisRow (fun _ => ?_) (fun c => absurd (q2.symm.trans c) (nI_nm1 (by decide)))
        rintro _ rfl
        rw [hm, q2]
        exact ⟨fun c => absurd c (by decide), fun _ => ⟨nI_in hs (by decide), fun c => absurd rfl c, fun _ => hq⟩⟩
      · unfold wp_X12_rowFault wp_X12_rowFault_p32
        refine ⟨nI_in hs (by decide), ?_⟩
        rw [hcs, q3']
        rintro _ rfl
        refine ⟨fun _ => ⟨nI_in hs (by decide), ?_⟩, fun c => absurd c (by decide)⟩
        rintro _ rfl
        exact ⟨fun c => absurd rfl c, fun _ => hq⟩
    · have hn2 : ¬ gA V 53 s = -2 := by
        rw [q3]
        intro c
        exact h0 (so_inj r1 (by decide) (so' := 0) c)
      refine ⟨-12, fun Q hq => ?_, .inr ⟨s, hs, rfl, fun Q hq => ?_, .inr (.inr ⟨rfl, by rw [q3]; exact hne.1, hn2⟩)⟩⟩
      · unfold wp_X11_refusesBytes wp_X11_refusesBytes_p52 wp_X11_refusesBytes_p54
        refine zShelfY hs ⟨fun _ => ⟨nI_in hs (by decide), ?_⟩, fun c => absurd c (by decide)⟩
        rw [hcs]
        refine zisEmpty (fun _ c => absurd (q2.symm.trans c) (nI_nm1 (by omega))) (fun _ => ?_)
        rintro _ rfl
        rw [hm]
        refine ⟨fun _ => ⟨nI_in hs (by decide), ?_⟩, fun c => absurd rfl c⟩
        refine zisRow (fun _ => ?_) (fun c => absurd (q2.symm.trans c) (nI_nm1 (by omega)))
        rintro _ rfl
        rw [hm, q2]
        exact ⟨fun c => absurd c (by decide), fun _ => ⟨nI_in hs (by decide), fun _ => hq, fun c => absurd ((nI_eq (b := 0) (by omega) (by decide)).mp c) h0⟩⟩
      · unfold wp_X12_rowFault wp_X12_rowFault_p32
        refine ⟨nI_in hs (by decide), ?_⟩
        rw [hcs]
        rintro _ rfl
        refine ⟨fun _ => ⟨nI_in hs (by decide), ?_⟩, fun c => absurd (q3.symm.trans c) hne.1⟩
        rintro _ rfl
        exact ⟨fun _ => hq, fun c => absurd c hn2⟩
def RGx (U : CS) (V : ST) (U' : CS) (V' : ST) : Prop := (RLd false (U' 3) ∧ RW V') ∧ AgU [0, 3, 12] U' U ∧ Ag [15] (U' 0) (U 0) ∧ Ag kG V' V
theorem zjudge {U : CS} {V : ST} (hT : RT (U 1) V) (hS : RS U V) (hL : RLd false (U 3)) (hW : RW V) (a1 : Int32) : Sim (wp_X11_judge a1 U) (wp_X12_judge a1 V) (RGx U V) := by
  intro Q h
  obtain ⟨N, J, d, p, n1, n2, hJ, hd, hp, v1, v2, v3, v4, t1, t2, t3, t4⟩ := RT_vals hT
  have hid : RGx U V U V := ⟨⟨hL, hW⟩, AgU_r _ _, Ag_r _ _, Ag_r _ _⟩
  obtain ⟨y, hc, hr⟩ := zbytes hS a1
  unfold wp_X11_judge wp_X11_judge_p24
  refine hc _ ?_
  rcases hr with ⟨rfl, hb⟩ | ⟨s, hs, rfl, hrf, ⟨rfl, m, hm, e3, e54, e53, hel⟩ | hy⟩
  · refine ⟨fun c => absurd c (by decide), fun _ => h _ _ fun K hK => ?_⟩
    unfold wp_X12_judge
    exact zShelfNM hb ⟨fun c => absurd rfl c, fun _ => hK _ hid⟩
  · refine ⟨fun _ => ⟨nI_in hs (by decide), ?_⟩, fun c => absurd rfl c⟩
    rw [nI_clamp (by omega)]
    refine zlisten hs t1 t2 n2 hJ hL hm e3 fun U' hF hM hk => h _ _ fun K hK => ?_
    unfold wp_X12_judge wp_X12_judge_p30
    refine zShelfYM hs ⟨fun _ => hrf _ ⟨fun _ => ?_, fun c => absurd (by decide) c⟩, fun c => absurd c (by decide)⟩
    exact zgoTold hs v1 v2 n2 hJ hW hm e54 hel fun V' hA hW' hM' _ => hK V' ⟨⟨hF.2.2, hW'⟩, hF.1, hF.2.1, hA⟩
  · have hy0 : ¬ y = 0 ∧ ¬ 0 ≤ y := by
      rcases hy with ⟨rfl, _⟩ | ⟨rfl, _⟩ <;> exact ⟨by decide, by decide⟩
    refine ⟨fun c => absurd c hy0.1, fun _ => h _ _ fun K hK => ?_⟩
    unfold wp_X12_judge wp_X12_judge_p30
    exact zShelfYM hs ⟨fun _ => hrf _ ⟨fun c => absurd c hy0.2, fun _ => hrf _ (hK _ hid)⟩, fun c => absurd c (by decide)⟩
theorem zwise {U : CS} {V : ST} (hT : RT (U 1) V) (hS : RS U V) (hL : RLd false (U 3)) (hW : RW V) (a1 : Int32) : Sim (wp_X11_wise a1 U) (wp_X12_wise a1 V) (RGx U V) := by
  intro Q h
  obtain ⟨N, J, d, p, n1, n2, hJ, hd, hp, v1, v2, v3, v4, t1, t2, t3, t4⟩ := RT_vals hT
  have hid : RGx U V U V := ⟨⟨hL, hW⟩, AgU_r _ _, Ag_r _ _, Ag_r _ _⟩
  obtain ⟨y, hc, hr⟩ := zbytes hS a1
  unfold wp_X11_wise wp_X11_wise_p36
  refine hc _ ?_
  rcases hr with ⟨rfl, hb⟩ | ⟨s, hs, rfl, hrf, ⟨rfl, m, hm, e3, e54, e53, hel⟩ | hy⟩
  · refine ⟨fun c => absurd c (by decide), fun _ => h _ _ fun K hK => ?_⟩
    unfold wp_X12_wise
    exact zShelfNM hb ⟨fun c => absurd rfl c, fun _ => hK _ hid⟩
  · refine ⟨fun _ => ⟨nI_in hs (by decide), ?_⟩, fun c => absurd rfl c⟩
    rw [nI_clamp (by omega)]
    refine zlisten hs t1 t2 n2 hJ hL hm e3 fun U' hF hM hk => ?_
    have href : ∀ K : Int32 → ST → Prop, (∀ V' : ST, Ag kG V' V → RW V' → VM V' (tld N m (gJ (U (18 + s)) 0) 31 0 (0, N, J, 0)).2.2 → (((if (tld N m (gJ (U (18 + s)) 0) 31 0 (0, N, J, 0)).1 = true then -2 else nI (tld N m (gJ (U (18 + s)) 0) 31 0 (0, N, J, 0)).2.1) < 0 → K (gI V' 44) V') ∧ (¬ (if (tld N m (gJ (U (18 + s)) 0) 31 0 (0, N, J, 0)).1 = true then -2 else nI (tld N m (gJ (U (18 + s)) 0) 31 0 (0, N, J, 0)).2.1) < 0 → K (-5) V'))) → wp_X12_wise (nI s) V K := by
      intro K hk'
      unfold wp_X12_wise wp_X12_wise_p40
      refine zShelfYM hs ⟨fun _ => hrf _ ⟨fun _ => ?_, fun c => absurd (by decide) c⟩, fun c => absurd c (by decide)⟩
      exact zgoTold hs v1 v2 n2 hJ hW hm e54 hel fun V' hA hW' hM' _ => hk' V' hA hW' hM'
    by_cases c : (tld N m (gJ (U (18 + s)) 0) 31 0 (0, N, J, 0)).1 = true
    · rw [if_pos c] at href ⊢
      refine ⟨fun c2 => absurd rfl c2, fun _ => h _ _ fun K hK => href K fun V' hA hW' hM' => ⟨fun _ => ?_, fun c2 => absurd (by decide) c2⟩⟩
      exact zK (hK V' ⟨⟨hF.2.2, hW'⟩, hF.1, hF.2.1, hA⟩) (by rw [hM.2.2.2, hM'.2.2.2])
    · rw [if_neg c] at href ⊢
      refine ⟨fun _ => h _ _ fun K hK => href K fun V' hA hW' hM' => ⟨fun c2 => absurd c2 (nI_pos (by omega)), fun _ => hK V' ⟨⟨hF.2.2, hW'⟩, hF.1, hF.2.1, hA⟩⟩, fun c2 => ?_⟩
      exact absurd (c2 ▸ nI_pos (n := (tld N m (gJ (U (18 + s)) 0) 31 0 (0, N, J, 0)).2.1) (by omega) : ¬ (-2 : Int32) < 0) (by decide)
  · have hy0 : ¬ y = 0 ∧ ¬ 0 ≤ y := by
      rcases hy with ⟨rfl, _⟩ | ⟨rfl, _⟩ <;> exact ⟨by decide, by decide⟩
    refine ⟨fun c => absurd c hy0.1, fun _ => h _ _ fun K hK => ?_⟩
    unfold wp_X12_wise
    exact zShelfYM hs ⟨fun _ => hrf _ ⟨fun c => absurd c hy0.2, fun _ => hrf _ (hK _ hid)⟩, fun c => absurd c (by decide)⟩
theorem zleft {U : CS} {V : ST} (hT : RT (U 1) V) (hS : RS U V) (hL : RLd false (U 3)) (hW : RW V) (a1 a2 : Int32) : Sim (wp_X11_left a1 a2 U) (wp_X12_left a1 a2 V) (RGx U V) := by
  intro Q h
  obtain ⟨N, J, d, p, n1, n2, hJ, hd, hp, v1, v2, v3, v4, t1, t2, t3, t4⟩ := RT_vals hT
  have hid : RGx U V U V := ⟨⟨hL, hW⟩, AgU_r _ _, Ag_r _ _, Ag_r _ _⟩
  obtain ⟨y, hc, hr⟩ := zbytes hS a1
  unfold wp_X11_left wp_X11_left_p75
  refine zwithin (fun p q => ⟨fun _ => hc _ ?_, fun c => absurd c (by decide)⟩) (fun p => ⟨fun c => absurd rfl c, fun _ => h _ _ fun K hK => ?_⟩)
  rotate_left
  · unfold wp_X12_left wp_X12_left_p16
    rcases shelf_or a1 with ⟨s, hs, rfl⟩ | hbad
    · exact zShelfYM hs ⟨fun c => absurd c (by decide), fun _ => zIb p ⟨fun c => absurd rfl c, fun _ => hK _ hid⟩⟩
    · exact zShelfNM hbad ⟨fun _ => hK _ hid, fun c => absurd rfl c⟩
  have hin : ∀ {Q2 : Int32 → Prop}, Q2 1 → wp_X12_in a2 (0 : Int32) (2 : Int32) Q2 := fun hq => zin (fun _ _ => hq) (fun pp => (pp.elim p q).elim)
  rcases hr with ⟨rfl, hb⟩ | ⟨s, hs, rfl, hrf, ⟨rfl, m, hm, e3, e54, e53, hel⟩ | hy⟩
  · refine ⟨fun c => absurd c (by decide), fun _ => h _ _ fun K hK => ?_⟩
    unfold wp_X12_left wp_X12_left_p16
    exact zShelfNM hb ⟨fun _ => hK _ hid, fun c => absurd rfl c⟩
  · refine ⟨fun _ => ⟨nI_in hs (by decide), ?_⟩, fun c => absurd rfl c⟩
    rw [nI_clamp (by omega)]
    refine zlisten hs t1 t2 n2 hJ hL hm e3 fun U' hF hM hk => ?_
    have href : ∀ K : Int32 → ST → Prop, (∀ V' : ST, Ag kG V' V → RW V' → VM V' (tld N m (gJ (U (18 + s)) 0) 31 0 (0, N, J, 0)).2.2 → (((if (tld N m (gJ (U (18 + s)) 0) 31 0 (0, N, J, 0)).1 = true then -2 else nI (tld N m (gJ (U (18 + s)) 0) 31 0 (0, N, J, 0)).2.1) < 0 → ((¬ a2 = 0 → ((¬ a2 = (1 : Int32) → K (gI V' 43) V') ∧ (a2 = (1 : Int32) → K (gI V' 42) V'))) ∧ (a2 = 0 → K (gI V' 41) V'))) ∧ (¬ (if (tld N m (gJ (U (18 + s)) 0) 31 0 (0, N, J, 0)).1 = true then -2 else nI (tld N m (gJ (U (18 + s)) 0) 31 0 (0, N, J, 0)).2.1) < 0 → K (-5) V'))) → wp_X12_left (nI s) a2 V K := by
      intro K hk'
      unfold wp_X12_left wp_X12_left_p70
      refine zShelfYM hs ⟨fun c => absurd c (by decide), fun _ => hin ⟨fun _ => hrf _ ⟨fun _ => ?_, fun c => absurd (by decide) c⟩, fun c => absurd c (by decide)⟩⟩
      exact zgoTold hs v1 v2 n2 hJ hW hm e54 hel fun V' hA hW' hM' _ => hk' V' hA hW' hM'
    by_cases c : (tld N m (gJ (U (18 + s)) 0) 31 0 (0, N, J, 0)).1 = true
    · rw [if_pos c] at href ⊢
      refine ⟨fun _ => ⟨fun k1 => ⟨fun k2 => ?_, fun k2 => ?_⟩, fun k1 => ?_⟩, fun c2 => absurd rfl c2⟩
      · exact h _ _ fun K hK => href K fun V' hA hW' hM' => ⟨fun _ => ⟨fun _ => ⟨fun _ => zK (hK V' ⟨⟨hF.2.2, hW'⟩, hF.1, hF.2.1, hA⟩) (by rw [hM.2.2.1, hM'.2.2.1]), fun k => absurd k k2⟩, fun k => absurd k k1⟩, fun c2 => absurd (by decide) c2⟩
      · exact h _ _ fun K hK => href K fun V' hA hW' hM' => ⟨fun _ => ⟨fun _ => ⟨fun k => absurd k2 k, fun _ => zK (hK V' ⟨⟨hF.2.2, hW'⟩, hF.1, hF.2.1, hA⟩) (by rw [hM.2.1, hM'.2.1])⟩, fun k => absurd k k1⟩, fun c2 => absurd (by decide) c2⟩
      · exact h _ _ fun K hK => href K fun V' hA hW' hM' => ⟨fun _ => ⟨fun k => absurd k1 k, fun _ => zK (hK V' ⟨⟨hF.2.2, hW'⟩, hF.1, hF.2.1, hA⟩) (by rw [hM.1, hM'.1])⟩, fun c2 => absurd (by decide) c2⟩
    · rw [if_neg c] at href ⊢
      refine ⟨fun c2 => ?_, fun _ => h _ _ fun K hK => href K fun V' hA hW' hM' => ⟨fun c2 => absurd c2 (nI_pos (by omega)), fun _ => hK V' ⟨⟨hF.2.2, hW'⟩, hF.1, hF.2.1, hA⟩⟩⟩
      exact absurd (c2 ▸ nI_pos (n := (tld N m (gJ (U (18 + s)) 0) 31 0 (0, N, J, 0)).2.1) (by omega) : ¬ (-2 : Int32) < 0) (by decide)
  · have hy0 : ¬ y = 0 ∧ ¬ 0 ≤ y := by
      rcases hy with ⟨rfl, _⟩ | ⟨rfl, _⟩ <;> exact ⟨by decide, by decide⟩
    refine ⟨fun c => absurd c hy0.1, fun _ => h _ _ fun K hK => ?_⟩
    unfold wp_X12_left
    exact zShelfYM hs ⟨fun c => absurd c (by decide), fun _ => hin ⟨fun _ => hrf _ ⟨fun c => absurd c hy0.2, fun _ => hrf _ (hK _ hid)⟩, fun c => absurd c (by decide)⟩⟩

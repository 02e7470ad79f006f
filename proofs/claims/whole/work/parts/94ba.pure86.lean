theorem Ag_rn1 {ks : List Nat} {u v : ST} (h : Ag ks u v) (h1 : 51 ∈ ks) (h2 : 52 ∈ ks) (b : Int32) : Ag ks (rn1 u b) v := by
  unfold rn1
  split
  · exact Ag_sI h h1 _
  · exact Ag_sI (Ag_sA h h2 _) h1 _
theorem Ag_rnL {ks : List Nat} {v : ST} (h1 : 51 ∈ ks) (h2 : 52 ∈ ks) : ∀ (l : List Int32) {u : ST}, Ag ks u v → Ag ks (rnL u l) v
  | [], _, h => h
  | b :: l, _, h => Ag_rnL h1 h2 l (Ag_rn1 h h1 h2 b)
def RBx (U : CS) (V : ST) (U' : CS) (V' : ST) : Prop := RB (U' 17) V' ∧ AgU [17] U' U ∧ Ag [49, 50, 51, 52] V' V
theorem zact {U : CS} {V : ST} (hB : RB (U 17) V) (a1 a2 a3 : Int32) : Sim (wp_X11_act a1 a2 a3 U) (wp_X12_act a1 a2 a3 V) (RBx U V) := by
  intro Q h
  obtain ⟨n, k, hn, e1, e2, hk, e3, e4, hk2, ht⟩ := hB
  have hB2 : RB (sI (U 17) 3 0) (sI V 51 0) := ⟨n, 0, hn, e1, e2, hk, rfl, rfl, by decide, fun i hi => absurd hi (by omega)⟩
  have hid : RBx U V (mu U 17 (sI (U 17) 3 0)) (sI V 51 0) := ⟨hB2, AgU_mu (AgU_r _ _) (by decide) _, Ag_sI (Ag_r _ _) (by decide) _⟩
  unfold wp_X11_act wp_X0_play wp_X0_play_p22
  rintro _ rfl
  rcases zbodyq hB2 a1 with ⟨b, n', hn', e2', hb, rfl, q1, q2⟩ | ⟨q1, q2⟩
  rotate_left
  · refine q1 _ ⟨fun _ => ?_, fun c => absurd rfl c⟩
    rintro _ rfl
    refine h _ _ fun K hK => ?_
    unfold wp_X12_act wp_X12_act_p22
    rintro _ rfl
    exact q2 _ ⟨fun _ => hK _ hid, fun c => absurd rfl c⟩
  have en : n' = n := (nI_eq (by omega) (by omega)).mp (e2'.symm.trans e2)
  subst en
  refine q1 _ ⟨fun c => absurd c (by decide), fun _ => ?_⟩
  have hrf0 : ∀ {K : Int32 → ST → Prop}, (wp_X12_in a2 (0 : Int32) (3 : Int32) fun y16 => (¬ y16 = 0 → (¬ a2 = 0 → (¬ a2 = 1 → (¬ a2 = 2 → wp_X12_telling (nI b) a3 (sI V 51 0) K) ∧ (a2 = 2 → wp_X12_climbing (nI b) a3 (sI V 51 0) K)) ∧ (a2 = 1 → wp_X12_breaking (nI b) a3 (sI V 51 0) K)) ∧ (a2 = 0 → wp_X12_dropping (nI b) a3 (sI V 51 0) K)) ∧ (y16 = 0 → K 0 (sI V 51 0))) → wp_X12_act (nI b) a2 a3 V K := by
    intro K hk'
    unfold wp_X12_act wp_X12_act_p22 wp_X12_act_p71
    rintro _ rfl
    exact q2 _ ⟨fun c => absurd c (by decide), fun _ => hk'⟩
  refine zwithin (fun p q => ⟨fun _ => ?_, fun c => absurd c (by decide)⟩) (fun p => ⟨fun c => absurd rfl c, fun _ => ?_⟩)
  rotate_left
  · rintro _ rfl
    exact h _ _ fun K hK => hrf0 (zin (fun p' q' => (p.elim p' q').elim) (fun _ => ⟨fun c => absurd rfl c, fun _ => hK _ hid⟩))
  obtain ⟨a, ha, rfl⟩ := nI_of p
  have ha4 : a < 4 := by
    have := mt (nI_ltI (a := 3) (b := a) (by decide) ha).mpr q
    omega
  rintro _ rfl
  refine ⟨nI_in (by omega) (by decide), ?_⟩
  rw [nI_clamp (by omega)]
  rintro _ rfl _ rfl
  obtain ⟨kk, hkk, ek⟩ := nI_of (hk b hb).2.1
  have hk8 : kk < 8 := by
    have := (hk b hb).2.2
    rw [ek] at this
    have := mt (nI_ltI (a := 7) (b := kk) (by decide) hkk).mpr this
    omega
  have ekI : nI kk = kI kk := (if_pos hk8).symm
  have eV : gA (sI V 51 0) 50 b = nI kk := (hk b hb).1.symm.trans ek
  have eB : gA (sI (sI (U 17) 3 0) 4 (nI b)) 0 b = kI kk := Eq.trans (b := gA (U 17) 0 b) rfl (ek.trans ekI)
  rw [eB, gI_sI]
  have fin : ∀ (v : Int32) (l : List Int32), l.length ≤ 19 → (∀ K : Int32 → ST → Prop, K v (rnL (sI V 51 0) l) → wp_X12_act (nI b) (nI a) a3 V K) → ∀ u' : CS, u' = mu U 17 (ntL (sI (sI (sI (U 17) 3 0) 4 (nI b)) 5 (kI kk)) l) → Q v u' := by
    rintro v l hl hr _ rfl
    refine h _ _ fun K hK => hr K (hK _ ⟨?_, AgU_mu (AgU_r _ _) (by decide) _, Ag_rnL (by decide) (by decide) l (Ag_sI (Ag_r _ _) (by decide) _)⟩)
    have ht0 := RTr_L l (k := 0) (B := sI (sI (sI (U 17) 3 0) 4 (nI b)) 5 (kI kk)) (V := sI V 51 0) ⟨rfl, rfl, fun i hi => absurd hi (by omega)⟩ (by omega)
    rw [Nat.zero_add] at ht0
    rw [mu_at]
    refine ⟨n', l.length, hn, ?_, ?_, ?_, ht0.1, ht0.2.1, by omega, ht0.2.2⟩
    · rw [ntL_I (by decide)]
      exact e1
    · rw [rnL_I (by decide)]
      exact e2
    · rw [ntL_A (by decide), rnL_A (by decide)]
      exact hk
  have hin : ∀ {Q2 : Int32 → Prop}, Q2 1 → wp_X12_in (nI a) 0 3 Q2 := fun hq => zIn (lo := 0) (hi := 3) (by omega) (by omega) (by decide) hq
  have b5 : ∀ K : Int32 → ST → Prop, (¬ nI a = 0 → (¬ nI a = 1 → (¬ nI a = 2 → wp_X12_telling (nI b) a3 (sI V 51 0) K) ∧ (nI a = 2 → wp_X12_climbing (nI b) a3 (sI V 51 0) K)) ∧ (nI a = 1 → wp_X12_breaking (nI b) a3 (sI V 51 0) K)) ∧ (nI a = 0 → wp_X12_dropping (nI b) a3 (sI V 51 0) K) → wp_X12_act (nI b) (nI a) a3 V K := fun K hk' => hrf0 (hin ⟨fun _ => hk', fun c => absurd c (by decide)⟩)
  have hb50 : b < 50 := by omega
  rcases (show a = 0 ∨ a = 1 ∨ a = 2 ∨ a = 3 by omega) with rfl | rfl | rfl | rfl
  · have hr := re_dr (n := b) hb50 hk8 a3
    exact (ce_dr (b := nI b) (kd := kI kk) (D := 54) (d := 0) hk8 (by decide)).2 _ 0 _ rfl (by decide) rfl rfl (fin _ _ (by have := hr.1; omega) fun K hK => b5 K ⟨fun c => absurd rfl c, fun _ => hr.2 (sI V 51 0) 0 _ rfl (by decide) eV hK⟩)
  · have hr := re_br (n := b) hb50 hk8 a3
    exact (ce_br (b := nI b) (D := 48) (d := 0) hk8 (by decide)).2 _ 0 _ rfl (by decide) rfl rfl (fin _ _ (by have := hr.1; omega) fun K hK => b5 K ⟨fun _ => ⟨fun c => absurd rfl c, fun _ => hr.2 (sI V 51 0) 0 _ rfl (by decide) eV hK⟩, fun c => absurd c (by decide)⟩)
  · have hr := re_cl (n := b) hb50 hk8 a3
    exact (ce_cl (b := nI b) (D := 52) (d := 0) hk8 (by decide)).2 _ 0 _ rfl (by decide) rfl rfl (fin _ _ (by have := hr.1; omega) fun K hK => b5 K ⟨fun _ => ⟨fun _ => ⟨fun c => absurd rfl c, fun _ => hr.2 (sI V 51 0) 0 _ rfl (by decide) eV hK⟩, fun c => absurd c (by decide)⟩, fun c => absurd c (by decide)⟩)
  · have hr := re_te (n := b) hb50 hk8 a3
    exact (ce_te (b := nI b) (D := 44) (d := 0) hk8 (by decide)).2 _ 0 _ rfl (by decide) rfl rfl (fin _ _ (by have := hr.1; omega) fun K hK => b5 K ⟨fun _ => ⟨fun _ => ⟨fun _ => hr.2 (sI V 51 0) 0 _ rfl (by decide) eV hK, fun c => absurd c (by decide)⟩, fun c => absurd c (by decide)⟩, fun c => absurd c (by decide)⟩)

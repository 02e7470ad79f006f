/-! all that goes together between two calls -/
def RBy (U : CS) (V : ST) (U' : CS) (V' : ST) : Prop := RB (U' 17) V' ∧ AgU [17] U' U ∧ Ag [49, 50] V' V ∧ ∀ m : Nat, m ≤ 50 → gI V 49 = nI m → ∃ m' : Nat, gI V' 49 = nI m' ∧ m ≤ m' ∧ m' ≤ 50
theorem zbody2 {U : CS} {V : ST} (hB : RB (U 17) V) (a : Int32) : Sim (wp_X11_body a U) (wp_X12_body a V) (RBy U V) := by
  have hP : AgU [17] U U ∧ Ag [49, 50] V V ∧ ∀ m : Nat, m ≤ 50 → gI V 49 = nI m → ∃ m' : Nat, gI V 49 = nI m' ∧ m ≤ m' ∧ m' ≤ 50 := ⟨AgU_r _ _, Ag_r _ _, fun m hm em => ⟨m, em, Nat.le_refl _, hm⟩⟩
  have hB0 := hB
  obtain ⟨n, k, hn, e1, e2, hk, e3, e4, hk2, ht⟩ := hB
  intro Q h
  unfold wp_X11_body wp_X11_body_p19
  refine zisKind (fun p q => ⟨fun e => absurd e (by decide), fun _ => ?_⟩) (fun p => ⟨fun _ => h _ _ fun K hK => ?_, fun e => absurd rfl e⟩)
  · unfold wp_X0_add
    rw [e1]
    refine ⟨fun c => ?_, fun c => ?_⟩
    · have hlt : n < 50 := (zN_lt (b := 50) (by omega) (by decide)).mp c
      refine ⟨nI_in hlt (by decide), ?_⟩
      intro u1 eu1 y1 ey1 u2 eu2 y2 ey2 u3 eu3
      subst eu3 ey2 eu2 ey1 eu1
      refine h _ _ fun K hK => ?_
      unfold wp_X12_body
      refine zin (fun _ _ => ⟨fun _ => ⟨fun _ => ?_, fun c2 => ?_⟩, fun e => absurd e (by decide)⟩) (fun pp => (pp.elim p q).elim)
      · rw [e2]
        refine ⟨nI_in hlt (by decide), ?_⟩
        intro u1 eu1 y1 ey1 u2 eu2 y2 ey2
        subst ey2 eu2 ey1 eu1
        refine zK (hK _ ⟨⟨n + 1, k, by omega, ?_, ?_, ?_, e3, e4, hk2, ht⟩, AgU_mu (AgU_r _ _) (by decide) _, Ag_sI (Ag_sA (Ag_r _ _) (by decide) _) (by decide) _, fun m hm em => ⟨n + 1, ?_, ?_, by omega⟩⟩) ?_
        · show gI (U 17) 2 + 1 = _
          rw [e1, nI_succ]
        · show gI V 49 + 1 = _
          rw [e2, nI_succ]
        · intro i hi
          show upd (gA (U 17) 0) (nI n).toNatClampNeg a i = upd (gA V 50) (nI n).toNatClampNeg a i ∧ ¬ upd (gA (U 17) 0) (nI n).toNatClampNeg a i < 0 ∧ ¬ 7 < upd (gA (U 17) 0) (nI n).toNatClampNeg a i
          rw [nI_clamp (by omega)]
          by_cases hi2 : i = n
          · subst hi2
            rw [pk_us, pk_us]
            exact ⟨rfl, p, q⟩
          · rw [pk_un hi2, pk_un hi2]
            exact hk i (by omega)
        · show gI V 49 + 1 = _
          rw [e2, nI_succ]
        · have := (nI_eq (by omega) (by omega)).mp (em.symm.trans e2)
          omega
        · show gI (U 17) 2 + 1 - 1 = gI V 49 + 1 - 1
          rw [e1, e2]
      · rw [e2] at c2
        have := (zN_eq (b := 50) (by omega) (by decide)).mp c2
        omega
    · have hge : n = 50 := by
        have := mt (zN_lt (a := n) (b := 50) (by omega) (by decide)).mpr c
        omega
      intro u3 eu3
      subst eu3
      rw [mu_self]
      refine h _ _ fun K hK => ?_
      unfold wp_X12_body
      refine zin (fun _ _ => ⟨fun _ => ⟨fun c2 => ?_, fun _ => hK _ ⟨hB0, hP⟩⟩, fun e => absurd e (by decide)⟩) (fun pp => (pp.elim p q).elim)
      exact absurd (by rw [e2, hge]; rfl) c2
  · unfold wp_X12_body
    exact zin (fun p1 q1 => (p.elim p1 q1).elim) (fun _ => ⟨fun e => absurd rfl e, fun _ => hK _ ⟨hB0, hP⟩⟩)
def RBz (U : CS) (V : ST) (U' : CS) (V' : ST) : Prop := RB (U' 17) V' ∧ AgU [17] U' U ∧ Ag [51, 52] V' V
theorem zact2 {U : CS} {V : ST} (hB : RB (U 17) V) (a1 a2 a3 : Int32) : Sim (wp_X11_act a1 a2 a3 U) (wp_X12_act a1 a2 a3 V) (RBz U V) := by
  intro Q h
  obtain ⟨n, k, hn, e1, e2, hk, e3, e4, hk2, ht⟩ := hB
  have hB2 : RB (sI (U 17) 3 0) (sI V 51 0) := ⟨n, 0, hn, e1, e2, hk, rfl, rfl, by decide, fun i hi => absurd hi (by omega)⟩
  have hid : RBz U V (mu U 17 (sI (U 17) 3 0)) (sI V 51 0) := ⟨hB2, AgU_mu (AgU_r _ _) (by decide) _, Ag_sI (Ag_r _ _) (by decide) _⟩
  unfold wp_X11_act wp_X0_play wp_X0_play_p22
  rintro _ rfl
  rcases zbodyq hB2 a1 with ⟨b, n', hn', e2', hb, rfl, q1, q2⟩ | ⟨q1, q2⟩
  rotate_left
  · refine q1 _ ⟨fun _ => ?_, fun c => absurd rfl c⟩
    rintro _ rfl
    refine h _ _ fun K hK => ?_
    unfold wp_X12_act wp_X12_act_p22
    rintro _ rfl
    exact q2 _ ⟨fun _ => hK _ hid, fun c => absurd rfl c⟩
  have en : n' = n := (nI_eq (by omega) (by omega)).mp (e2'.symm.trans e2)
  subst en
  refine q1 _ ⟨fun c => absurd c (by decide), fun _ => ?_⟩
  have hrf0 : ∀ {K : Int32 → ST → Prop}, (wp_X12_in a2 (0 : Int32) (3 : Int32) fun y16 => (¬ y16 = 0 → (¬ a2 = 0 → (¬ a2 = 1 → (¬ a2 = 2 → wp_X12_telling (nI b) a3 (sI V 51 0) K) ∧ (a2 = 2 → wp_X12_climbing (nI b) a3 (sI V 51 0) K)) ∧ (a2 = 1 → wp_X12_breaking (nI b) a3 (sI V 51 0) K)) ∧ (a2 = 0 → wp_X12_dropping (nI b) a3 (sI V 51 0) K)) ∧ (y16 = 0 → K 0 (sI V 51 0))) → wp_X12_act (nI b) a2 a3 V K := by
    intro K hk'
    unfold wp_X12_act wp_X12_act_p22 wp_X12_act_p71
    rintro _ rfl
    exact q2 _ ⟨fun c => absurd c (by decide), fun _ => hk'⟩
  refine zwithin (fun p q => ⟨fun _ => ?_, fun c => absurd c (by decide)⟩) (fun p => ⟨fun c => absurd rfl c, fun _ => ?_⟩)
  rotate_left
  · rintro _ rfl
    exact h _ _ fun K hK => hrf0 (zin (fun p' q' => (p.elim p' q').elim) (fun _ => ⟨fun c => absurd rfl c, fun _ => hK _ hid⟩))
  obtain ⟨a, ha, rfl⟩ := nI_of p
  have ha4 : a < 4 := by
    have := mt (nI_ltI (a := 3) (b := a) (by decide) ha).mpr q
    omega
  rintro _ rfl
  refine ⟨nI_in (by omega) (by decide), ?_⟩
  rw [nI_clamp (by omega)]
  rintro _ rfl _ rfl
  obtain ⟨kk, hkk, ek⟩ := nI_of (hk b hb).2.1
  have hk8 : kk < 8 := by
    have := (hk b hb).2.2
    rw [ek] at this
    have := mt (nI_ltI (a := 7) (b := kk) (by decide) hkk).mpr this
    omega
  have ekI : nI kk = kI kk := (if_pos hk8).symm
  have eV : gA (sI V 51 0) 50 b = nI kk := (hk b hb).1.symm.trans ek
  have eB : gA (sI (sI (U 17) 3 0) 4 (nI b)) 0 b = kI kk := Eq.trans (b := gA (U 17) 0 b) rfl (ek.trans ekI)
  rw [eB, gI_sI]
  have fin : ∀ (v : Int32) (l : List Int32), l.length ≤ 19 → (∀ K : Int32 → ST → Prop, K v (rnL (sI V 51 0) l) → wp_X12_act (nI b) (nI a) a3 V K) → ∀ u' : CS, u' = mu U 17 (ntL (sI (sI (sI (U 17) 3 0) 4 (nI b)) 5 (kI kk)) l) → Q v u' := by
    rintro v l hl hr _ rfl
    refine h _ _ fun K hK => hr K (hK _ ⟨?_, AgU_mu (AgU_r _ _) (by decide) _, Ag_rnL (by decide) (by decide) l (Ag_sI (Ag_r _ _) (by decide) _)⟩)
    have ht0 := RTr_L l (k := 0) (B := sI (sI (sI (U 17) 3 0) 4 (nI b)) 5 (kI kk)) (V := sI V 51 0) ⟨rfl, rfl, fun i hi => absurd hi (by omega)⟩ (by omega)
    rw [Nat.zero_add] at ht0
    rw [mu_at]
    refine ⟨n', l.length, hn, ?_, ?_, ?_, ht0.1, ht0.2.1, by omega, ht0.2.2⟩
    · rw [ntL_I (by decide)]
      exact e1
    · rw [rnL_I (by decide)]
      exact e2
    · rw [ntL_A (by decide), rnL_A (by decide)]
      exact hk
  have hin : ∀ {Q2 : Int32 → Prop}, Q2 1 → wp_X12_in (nI a) 0 3 Q2 := fun hq => zIn (lo := 0) (hi := 3) (by omega) (by omega) (by decide) hq
  have b5 : ∀ K : Int32 → ST → Prop, (¬ nI a = 0 → (¬ nI a = 1 → (¬ nI a = 2 → wp_X12_telling (nI b) a3 (sI V 51 0) K) ∧ (nI a = 2 → wp_X12_climbing (nI b) a3 (sI V 51 0) K)) ∧ (nI a = 1 → wp_X12_breaking (nI b) a3 (sI V 51 0) K)) ∧ (nI a = 0 → wp_X12_dropping (nI b) a3 (sI V 51 0) K) → wp_X12_act (nI b) (nI a) a3 V K := fun K hk' => hrf0 (hin ⟨fun _ => hk', fun c => absurd c (by decide)⟩)
  have hb50 : b < 50 := by omega
  rcases (show a = 0 ∨ a = 1 ∨ a = 2 ∨ a = 3 by omega) with rfl | rfl | rfl | rfl
  · have hr := re_dr (n := b) hb50 hk8 a3
    exact (ce_dr (b := nI b) (kd := kI kk) (D := 54) (d := 0) hk8 (by decide)).2 _ 0 _ rfl (by decide) rfl rfl (fin _ _ (by have := hr.1; omega) fun K hK => b5 K ⟨fun c => absurd rfl c, fun _ => hr.2 (sI V 51 0) 0 _ rfl (by decide) eV hK⟩)
  · have hr := re_br (n := b) hb50 hk8 a3
    exact (ce_br (b := nI b) (D := 48) (d := 0) hk8 (by decide)).2 _ 0 _ rfl (by decide) rfl rfl (fin _ _ (by have := hr.1; omega) fun K hK => b5 K ⟨fun _ => ⟨fun c => absurd rfl c, fun _ => hr.2 (sI V 51 0) 0 _ rfl (by decide) eV hK⟩, fun c => absurd c (by decide)⟩)
  · have hr := re_cl (n := b) hb50 hk8 a3
    exact (ce_cl (b := nI b) (D := 52) (d := 0) hk8 (by decide)).2 _ 0 _ rfl (by decide) rfl rfl (fin _ _ (by have := hr.1; omega) fun K hK => b5 K ⟨fun _ => ⟨fun _ => ⟨fun c => absurd rfl c, fun _ => hr.2 (sI V 51 0) 0 _ rfl (by decide) eV hK⟩, fun c => absurd c (by decide)⟩, fun c => absurd c (by decide)⟩)
  · have hr := re_te (n := b) hb50 hk8 a3
    exact (ce_te (b := nI b) (D := 44) (d := 0) hk8 (by decide)).2 _ 0 _ rfl (by decide) rfl rfl (fin _ _ (by have := hr.1; omega) fun K hK => b5 K ⟨fun _ => ⟨fun _ => ⟨fun _ => hr.2 (sI V 51 0) 0 _ rfl (by decide) eV hK, fun c => absurd c (by decide)⟩, fun c => absurd c (by decide)⟩, fun c => absurd c (by decide)⟩)
def RelO (o : Option (List zL)) (v : Nat) (U : CS) (V : ST) : Prop := RT (U 1) V ∧ RL0 (U 2) V ∧ RLw (U 2) V o ∧ gI (U 2) 9 = nI v ∧ RLd false (U 3) ∧ RLd false (U 4) ∧ RLd true (U 5) ∧ RMe (U 6) o v ∧ R7 (U 7) ∧ R2 (U 8) ∧ RD (U 13) (U 14) (gA V 46) ∧ RK U V ∧ RB (U 17) V ∧ RS U V ∧ RW V
def Rel (n : Nat) (U : CS) (V : ST) : Prop := ∃ (v : Nat) (o : Option (List zL)), v ≤ n ∧ RelO o v U V
theorem k_T {a b : List Nat} {U U' : CS} {V V' : ST} (h : RT (U 1) V) (hU : AgU a U' U) (hV : Ag b V' V) (u : 1 ∉ a) (p : ∀ k : Nat, k < 10 → k + 1 ∉ b) : RT (U' 1) V' := by
  rw [hU 1 u]
  refine RT_ag h hV fun k k1 k2 => ?_
  have := p (k - 1) (by omega)
  rw [show k - 1 + 1 = k by omega] at this
  exact this
theorem RL0_L {L L' V : ST} {a : List Nat} (h : RL0 L V) (hA : Ag a L' L) (h0 : 0 ∉ a) (h4 : 4 ∉ a) : RL0 L' V := by
  unfold RL0
  rw [Ag_I hA 4 h4, Ag_A hA 0 h0]
  exact h
theorem RLw_cg {L L' V V' : ST} {o : Option (List zL)} (h : RLw L V o) (e5 : gI L' 5 = gI L 5) (e2 : gA L' 2 = gA L 2) {ls : List Nat} (hV : Ag ls V' V) (l17 : 17 ∉ ls) (l18 : 18 ∉ ls) (l19 : 19 ∉ ls) (l20 : 20 ∉ ls) (l21 : 21 ∉ ls) (l24 : 24 ∉ ls) : RLw L' V' o := by
  cases o with
  | none => exact ⟨e5.trans h.1, (Ag_I hV 24 l24).trans h.2⟩
  | some m =>
    obtain ⟨g1, g2, g3, g4, g5, g6, g7, g8, g9⟩ := h
    refine ⟨g1, g2, g3, g4, g5, e5.trans g6, by rw [e2]; exact g7, (Ag_I hV 24 l24).trans g8, ?_⟩
    unfold LT
    rw [Ag_A hV 17 l17, Ag_A hV 18 l18, Ag_A hV 19 l19, Ag_A hV 20 l20, Ag_A hV 21 l21]
    exact g9
theorem k_L0 {a b c : List Nat} {U U' : CS} {V V' : ST} (h : RL0 (U 2) V) (hA : Ag c (U' 2) (U 2)) (hV : Ag b V' V) (h0 : 0 ∉ c) (h4 : 4 ∉ c) (p1 : 11 ∉ b) (p2 : 12 ∉ b) : RL0 (U' 2) V' := RL0_ag (RL0_L h hA h0 h4) hV p1 p2
theorem k_A {a : List Nat} {U U' : CS} (k : Nat) (hU : AgU a U' U) (u : k ∉ a) : Ag [1, 8] (U' k) (U k) := by
  rw [hU k u]
  exact Ag_r _ _
theorem k_d {a : List Nat} {U U' : CS} {P : ST → Prop} {k : Nat} (h : P (U k)) (hU : AgU a U' U) (u : k ∉ a) : P (U' k) := by
  rw [hU k u]
  exact h
theorem k_D {a b : List Nat} {U U' : CS} {V V' : ST} (h : RD (U 13) (U 14) (gA V 46)) (hU : AgU a U' U) (hV : Ag b V' V) (u : 13 ∉ a) (u2 : 14 ∉ a) (p : 46 ∉ b) : RD (U' 13) (U' 14) (gA V' 46) := by
  rw [hU 13 u, hU 14 u2, Ag_A hV 46 p]
  exact h
theorem k_K {a b c : List Nat} {U U' : CS} {V V' : ST} (h : RK U V) (h0 : Ag c (U' 0) (U 0)) (hU : AgU a U' U) (hV : Ag b V' V) (q : 16 ∉ c) (u : 15 ∉ a) (u2 : 16 ∉ a) (p1 : 47 ∉ b) (p2 : 48 ∉ b) : RK U' V' := by
  have h2 := RK_ag h hV p1 p2
  unfold RK at h2 ⊢
  rw [hU 15 u, hU 16 u2, Ag_I h0 16 q]
  exact h2
theorem k_B {a b : List Nat} {U U' : CS} {V V' : ST} (h : RB (U 17) V) (hU : AgU a U' U) (hV : Ag b V' V) (u : 17 ∉ a) (p1 : 49 ∉ b) (p2 : 50 ∉ b) (p3 : 51 ∉ b) (p4 : 52 ∉ b) : RB (U' 17) V' := by
  rw [hU 17 u]
  exact RB_ag h hV p1 p2 p3 p4
theorem k_S {a b : List Nat} {U U' : CS} {V V' : ST} (h : RS U V) (hU : AgU a U' U) (hV : Ag b V' V) (u : ∀ s : Nat, s < 6 → 18 + s ∉ a) (p1 : 49 ∉ b) (p2 : 53 ∉ b) (p3 : 54 ∉ b) (p4 : 55 ∉ b) : RS U' V' := RS_U (RS_ag h hV p1 p2 p3 p4) fun s hs => hU (18 + s) (u s hs)
theorem k_W {b : List Nat} {V V' : ST} (h : RW V) (hV : Ag b V' V) (p1 : 25 ∉ b) (p2 : 26 ∉ b) (p3 : 27 ∉ b) : RW V' := by
  rcases h with q | ⟨q1, q2⟩
  · exact .inl ((Ag_I hV 27 p3).trans q)
  · refine .inr ⟨by rw [Ag_I hV 27 p3]; exact q1, fun j m b1 b2 b3 => ?_⟩
    rw [Ag_A hV 25 p1, Ag_A hV 26 p2]
    exact q2 j m b1 b2 b3
theorem RS_more {U U' : CS} {V V' : ST} (h : RS U V) (e : ∀ s : Nat, s < 6 → U' (18 + s) = U (18 + s)) {b : List Nat} (hV : Ag b V' V) (p2 : 53 ∉ b) (p3 : 54 ∉ b) (p4 : 55 ∉ b) (hm : ∀ m : Nat, m ≤ 50 → gI V 49 = nI m → ∃ m' : Nat, gI V' 49 = nI m' ∧ m ≤ m' ∧ m' ≤ 50) : RS U' V' := by
  obtain ⟨n, hn, e9, hS⟩ := h
  obtain ⟨n', e9', h1, h2⟩ := hm n hn e9
  refine ⟨n', h2, e9', fun s hs => ?_⟩
  rw [e s hs]
  refine RS1_c (RS1_m (hS s hs) h1) ?_ ?_ ?_
  · rw [Ag_A hV 53 p2]
  · rw [Ag_A hV 54 p3]
  · rw [Ag_J hV 55 p4]
    exact fun _ _ => rfl
theorem Sim_m {w1 : (Int32 → CS → Prop) → Prop} {w2 : (Int32 → ST → Prop) → Prop} {R R' : CS → ST → Prop} (h : Sim w1 w2 R) (hR : ∀ U' V', R U' V' → R' U' V') : Sim w1 w2 R' := fun Q hq => h Q fun y U' hk => hq y U' fun K hK => hk K fun V' hV => hK V' (hR U' V' hV)
theorem SimJ_m {w1 : (Int64 → CS → Prop) → Prop} {w2 : (Int64 → ST → Prop) → Prop} {R R' : CS → ST → Prop} (h : SimJ w1 w2 R) (hR : ∀ U' V', R U' V' → R' U' V') : SimJ w1 w2 R' := fun Q hq => h Q fun y U' hk => hq y U' fun K hK => hk K fun V' hV => hK V' (hR U' V' hV)
theorem Rel_s {n : Nat} {U : CS} {V : ST} (h : Rel n U V) : Rel (n + 1) U V := by
  obtain ⟨v, o, hv, h⟩ := h
  exact ⟨v, o, by omega, h⟩
theorem st_mend {n : Nat} (hn : n < 1000) {U : CS} {V : ST} (h : Rel n U V) (a1 : Int32) (a2 : Int32) : Sim (wp_X11_mend a1 a2 U) (wp_X12_mend a1 a2 V) (Rel (n + 1)) := by
  obtain ⟨v, o, hvn, hT, hL0, hLw, hv, hd3, hd4, hd5, hM, hr7, hr2, hD, hK, hB, hS, hW⟩ := h
  have hv2 : v < 100000 := by omega
  refine Sim_m (zmend hT a1 a2) ?_
  rintro U' V' ⟨hT', hU, hV⟩
  exact ⟨v, o, by omega, hT', k_L0 (a := []) hL0 (k_A 2 hU (by decide)) hV (by decide) (by decide) (by decide) (by decide), RLw_ag hLw (k_A 2 hU (by decide)) (by decide) (by decide) hV (by decide) (by decide) (by decide) (by decide) (by decide) (by decide), (Ag_I (k_A 2 hU (by decide)) 9 (by decide)).trans hv, k_d hd3 hU (by decide), k_d hd4 hU (by decide), k_d hd5 hU (by decide), k_d (P := fun z => RMe z o v) hM hU (by decide), k_d hr7 hU (by decide), k_d hr2 hU (by decide), k_D hD hU hV (by decide) (by decide) (by decide), k_K hK (k_A 0 hU (by decide)) hU hV (by decide) (by decide) (by decide) (by decide) (by decide), k_B hB hU hV (by decide) (by decide) (by decide) (by decide) (by decide), k_S hS hU hV (by decide) (by decide) (by decide) (by decide) (by decide), k_W hW hV (by decide) (by decide) (by decide)⟩
theorem st_of {n : Nat} (hn : n < 1000) {U : CS} {V : ST} (h : Rel n U V) (a1 : Int32) : Sim (wp_X11_of a1 U) (wp_X12_of a1 V) (Rel (n + 1)) := by
  obtain ⟨v, o, hvn, hT, hL0, hLw, hv, hd3, hd4, hd5, hM, hr7, hr2, hD, hK, hB, hS, hW⟩ := h
  have hv2 : v < 100000 := by omega
  refine Sim_m (zof hT a1) ?_
  rintro U' V' ⟨hT', hU, hV⟩
  exact ⟨v, o, by omega, hT', k_L0 (a := []) hL0 (k_A 2 hU (by decide)) hV (by decide) (by decide) (by decide) (by decide), RLw_ag hLw (k_A 2 hU (by decide)) (by decide) (by decide) hV (by decide) (by decide) (by decide) (by decide) (by decide) (by decide), (Ag_I (k_A 2 hU (by decide)) 9 (by decide)).trans hv, k_d hd3 hU (by decide), k_d hd4 hU (by decide), k_d hd5 hU (by decide), k_d (P := fun z => RMe z o v) hM hU (by decide), k_d hr7 hU (by decide), k_d hr2 hU (by decide), k_D hD hU hV (by decide) (by decide) (by decide), k_K hK (k_A 0 hU (by decide)) hU hV (by decide) (by decide) (by decide) (by decide) (by decide), k_B hB hU hV (by decide) (by decide) (by decide) (by decide) (by decide), k_S hS hU hV (by decide) (by decide) (by decide) (by decide) (by decide), k_W hW hV (by decide) (by decide) (by decide)⟩
theorem st_undo {n : Nat} (hn : n < 1000) {U : CS} {V : ST} (h : Rel n U V) : Sim (wp_X11_undo U) (wp_X12_undo V) (Rel (n + 1)) := by
  obtain ⟨v, o, hvn, hT, hL0, hLw, hv, hd3, hd4, hd5, hM, hr7, hr2, hD, hK, hB, hS, hW⟩ := h
  have hv2 : v < 100000 := by omega
  refine Sim_m (zundo hT) ?_
  rintro U' V' ⟨hT', hU, hV⟩
  exact ⟨v, o, by omega, hT', k_L0 (a := []) hL0 (k_A 2 hU (by decide)) hV (by decide) (by decide) (by decide) (by decide), RLw_ag hLw (k_A 2 hU (by decide)) (by decide) (by decide) hV (by decide) (by decide) (by decide) (by decide) (by decide) (by decide), (Ag_I (k_A 2 hU (by decide)) 9 (by decide)).trans hv, k_d hd3 hU (by decide), k_d hd4 hU (by decide), k_d hd5 hU (by decide), k_d (P := fun z => RMe z o v) hM hU (by decide), k_d hr7 hU (by decide), k_d hr2 hU (by decide), k_D hD hU hV (by decide) (by decide) (by decide), k_K hK (k_A 0 hU (by decide)) hU hV (by decide) (by decide) (by decide) (by decide) (by decide), k_B hB hU hV (by decide) (by decide) (by decide) (by decide) (by decide), k_S hS hU hV (by decide) (by decide) (by decide) (by decide) (by decide), k_W hW hV (by decide) (by decide) (by decide)⟩
theorem st_redo {n : Nat} (hn : n < 1000) {U : CS} {V : ST} (h : Rel n U V) : Sim (wp_X11_redo U) (wp_X12_redo V) (Rel (n + 1)) := by
  obtain ⟨v, o, hvn, hT, hL0, hLw, hv, hd3, hd4, hd5, hM, hr7, hr2, hD, hK, hB, hS, hW⟩ := h
  have hv2 : v < 100000 := by omega
  refine Sim_m (zredo hT) ?_
  rintro U' V' ⟨hT', hU, hV⟩
  exact ⟨v, o, by omega, hT', k_L0 (a := []) hL0 (k_A 2 hU (by decide)) hV (by decide) (by decide) (by decide) (by decide), RLw_ag hLw (k_A 2 hU (by decide)) (by decide) (by decide) hV (by decide) (by decide) (by decide) (by decide) (by decide) (by decide), (Ag_I (k_A 2 hU (by decide)) 9 (by decide)).trans hv, k_d hd3 hU (by decide), k_d hd4 hU (by decide), k_d hd5 hU (by decide), k_d (P := fun z => RMe z o v) hM hU (by decide), k_d hr7 hU (by decide), k_d hr2 hU (by decide), k_D hD hU hV (by decide) (by decide) (by decide), k_K hK (k_A 0 hU (by decide)) hU hV (by decide) (by decide) (by decide) (by decide) (by decide), k_B hB hU hV (by decide) (by decide) (by decide) (by decide) (by decide), k_S hS hU hV (by decide) (by decide) (by decide) (by decide) (by decide), k_W hW hV (by decide) (by decide) (by decide)⟩
theorem st_feed {n : Nat} (hn : n < 1000) {U : CS} {V : ST} (h : Rel n U V) (a1 : Int32) : Sim (wp_X11_feed a1 U) (wp_X12_feed a1 V) (Rel (n + 1)) := by
  obtain ⟨v, o, hvn, hT, hL0, hLw, hv, hd3, hd4, hd5, hM, hr7, hr2, hD, hK, hB, hS, hW⟩ := h
  have hv2 : v < 100000 := by omega
  refine Sim_m (zfeed hL0 a1) ?_
  rintro U' V' ⟨⟨h0', ga, gi⟩, hU, hV⟩
  exact ⟨v, o, by omega, k_T hT hU hV (by decide) (by decide), h0', RLw_cg hLw (gi 5 (by decide)) (ga 2 (by decide)) hV (by decide) (by decide) (by decide) (by decide) (by decide) (by decide), (gi 9 (by decide)).trans hv, k_d hd3 hU (by decide), k_d hd4 hU (by decide), k_d hd5 hU (by decide), k_d (P := fun z => RMe z o v) hM hU (by decide), k_d hr7 hU (by decide), k_d hr2 hU (by decide), k_D hD hU hV (by decide) (by decide) (by decide), k_K hK (k_A 0 hU (by decide)) hU hV (by decide) (by decide) (by decide) (by decide) (by decide), k_B hB hU hV (by decide) (by decide) (by decide) (by decide) (by decide), k_S hS hU hV (by decide) (by decide) (by decide) (by decide) (by decide), k_W hW hV (by decide) (by decide) (by decide)⟩
theorem st_count {n : Nat} (hn : n < 1000) {U : CS} {V : ST} (h : Rel n U V) (a1 : Int32) : Sim (wp_X11_count a1 U) (wp_X12_count a1 V) (Rel (n + 1)) := by
  have h0 := h
  obtain ⟨v, o, hvn, hT, hL0, hLw, hv, hd3, hd4, hd5, hM, hr7, hr2, hD, hK, hB, hS, hW⟩ := h
  refine Sim_m (zcount hT hL0 hB a1) ?_
  rintro U' V' ⟨e1, e2⟩
  rw [e1, e2]
  exact Rel_s h0
theorem st_element {n : Nat} (hn : n < 1000) {U : CS} {V : ST} (h : Rel n U V) (a1 : Int32) (a2 : Int32) : SimJ (wp_X11_element a1 a2 U) (wp_X12_element a1 a2 V) (Rel (n + 1)) := by
  have h0 := h
  obtain ⟨v, o, hvn, hT, hL0, hLw, hv, hd3, hd4, hd5, hM, hr7, hr2, hD, hK, hB, hS, hW⟩ := h
  refine SimJ_m (zelement hS a1 a2) ?_
  rintro U' V' ⟨e1, e2⟩
  rw [e1, e2]
  exact Rel_s h0
theorem st_taken {n : Nat} (hn : n < 1000) {U : CS} {V : ST} (h : Rel n U V) (a1 : Int32) (a2 : Int32) : Sim (wp_X11_taken a1 a2 U) (wp_X12_taken a1 a2 V) (Rel (n + 1)) := by
  have h0 := h
  obtain ⟨v, o, hvn, hT, hL0, hLw, hv, hd3, hd4, hd5, hM, hr7, hr2, hD, hK, hB, hS, hW⟩ := h
  refine Sim_m (ztaken hS hB a1 a2) ?_
  rintro U' V' ⟨e1, e2⟩
  rw [e1, e2]
  exact Rel_s h0
theorem st_led {n : Nat} (hn : n < 1000) {U : CS} {V : ST} (h : Rel n U V) (a1 : Int32) : Sim (wp_X11_led a1 U) (wp_X12_led a1 V) (Rel (n + 1)) := by
  have h0 := h
  obtain ⟨v, o, hvn, hT, hL0, hLw, hv, hd3, hd4, hd5, hM, hr7, hr2, hD, hK, hB, hS, hW⟩ := h
  refine Sim_m (zled hD a1) ?_
  rintro U' V' ⟨e1, e2⟩
  rw [e1, e2]
  exact Rel_s h0
theorem st_reach {n : Nat} (hn : n < 1000) {U : CS} {V : ST} (h : Rel n U V) (a1 : Int32) : Sim (wp_X11_reach a1 U) (wp_X12_reach a1 V) (Rel (n + 1)) := by
  have h0 := h
  obtain ⟨v, o, hvn, hT, hL0, hLw, hv, hd3, hd4, hd5, hM, hr7, hr2, hD, hK, hB, hS, hW⟩ := h
  refine Sim_m (zreach a1) ?_
  rintro U' V' ⟨e1, e2⟩
  rw [e1, e2]
  exact Rel_s h0
theorem st_trace {n : Nat} (hn : n < 1000) {U : CS} {V : ST} (h : Rel n U V) (a1 : Int32) : Sim (wp_X11_trace a1 U) (wp_X12_trace a1 V) (Rel (n + 1)) := by
  have h0 := h
  obtain ⟨v, o, hvn, hT, hL0, hLw, hv, hd3, hd4, hd5, hM, hr7, hr2, hD, hK, hB, hS, hW⟩ := h
  refine Sim_m (ztrace (P := fun U' V' => U' = U ∧ V' = V) hB ⟨rfl, rfl⟩ a1) ?_
  rintro U' V' ⟨-, e1, e2⟩
  rw [e1, e2]
  exact Rel_s h0
theorem st_put {n : Nat} (hn : n < 1000) {U : CS} {V : ST} (h : Rel n U V) (a1 : Int32) (a2 : Int32) (a3 : Int64) : Sim (wp_X11_put a1 a2 a3 U) (wp_X12_put a1 a2 a3 V) (Rel (n + 1)) := by
  obtain ⟨v, o, hvn, hT, hL0, hLw, hv, hd3, hd4, hd5, hM, hr7, hr2, hD, hK, hB, hS, hW⟩ := h
  have hv2 : v < 100000 := by omega
  refine Sim_m (zput hS a1 a2 a3) ?_
  rintro U' V' ⟨hS', hU, hV⟩
  exact ⟨v, o, by omega, k_T hT hU hV (by decide) (by decide), k_L0 (a := []) hL0 (k_A 2 hU (by decide)) hV (by decide) (by decide) (by decide) (by decide), RLw_ag hLw (k_A 2 hU (by decide)) (by decide) (by decide) hV (by decide) (by decide) (by decide) (by decide) (by decide) (by decide), (Ag_I (k_A 2 hU (by decide)) 9 (by decide)).trans hv, k_d hd3 hU (by decide), k_d hd4 hU (by decide), k_d hd5 hU (by decide), k_d (P := fun z => RMe z o v) hM hU (by decide), k_d hr7 hU (by decide), k_d hr2 hU (by decide), k_D hD hU hV (by decide) (by decide) (by decide), k_K hK (k_A 0 hU (by decide)) hU hV (by decide) (by decide) (by decide) (by decide) (by decide), k_B hB hU hV (by decide) (by decide) (by decide) (by decide) (by decide), hS', k_W hW hV (by decide) (by decide) (by decide)⟩
theorem st_keep {n : Nat} (hn : n < 1000) {U : CS} {V : ST} (h : Rel n U V) (a1 : Int32) (a2 : Int32) : Sim (wp_X11_keep a1 a2 U) (wp_X12_keep a1 a2 V) (Rel (n + 1)) := by
  obtain ⟨v, o, hvn, hT, hL0, hLw, hv, hd3, hd4, hd5, hM, hr7, hr2, hD, hK, hB, hS, hW⟩ := h
  have hv2 : v < 100000 := by omega
  refine Sim_m (zkeep hS hB a1 a2) ?_
  rintro U' V' ⟨hS', hU, hV⟩
  exact ⟨v, o, by omega, k_T hT hU hV (by decide) (by decide), k_L0 (a := []) hL0 (k_A 2 hU (by decide)) hV (by decide) (by decide) (by decide) (by decide), RLw_ag hLw (k_A 2 hU (by decide)) (by decide) (by decide) hV (by decide) (by decide) (by decide) (by decide) (by decide) (by decide), (Ag_I (k_A 2 hU (by decide)) 9 (by decide)).trans hv, k_d hd3 hU (by decide), k_d hd4 hU (by decide), k_d hd5 hU (by decide), k_d (P := fun z => RMe z o v) hM hU (by decide), k_d hr7 hU (by decide), k_d hr2 hU (by decide), k_D hD hU hV (by decide) (by decide) (by decide), k_K hK (k_A 0 hU (by decide)) hU hV (by decide) (by decide) (by decide) (by decide) (by decide), k_B hB hU hV (by decide) (by decide) (by decide) (by decide) (by decide), hS', k_W hW hV (by decide) (by decide) (by decide)⟩
theorem st_row {n : Nat} (hn : n < 1000) {U : CS} {V : ST} (h : Rel n U V) (a1 : Int32) (a2 : Int32) (a3 : Int32) : Sim (wp_X11_row a1 a2 a3 U) (wp_X12_row a1 a2 a3 V) (Rel (n + 1)) := by
  obtain ⟨v, o, hvn, hT, hL0, hLw, hv, hd3, hd4, hd5, hM, hr7, hr2, hD, hK, hB, hS, hW⟩ := h
  have hv2 : v < 100000 := by omega
  refine Sim_m (zrow hS a1 a2 a3) ?_
  rintro U' V' ⟨hS', hU, hV⟩
  exact ⟨v, o, by omega, k_T hT hU hV (by decide) (by decide), k_L0 (a := []) hL0 (k_A 2 hU (by decide)) hV (by decide) (by decide) (by decide) (by decide), RLw_ag hLw (k_A 2 hU (by decide)) (by decide) (by decide) hV (by decide) (by decide) (by decide) (by decide) (by decide) (by decide), (Ag_I (k_A 2 hU (by decide)) 9 (by decide)).trans hv, k_d hd3 hU (by decide), k_d hd4 hU (by decide), k_d hd5 hU (by decide), k_d (P := fun z => RMe z o v) hM hU (by decide), k_d hr7 hU (by decide), k_d hr2 hU (by decide), k_D hD hU hV (by decide) (by decide) (by decide), k_K hK (k_A 0 hU (by decide)) hU hV (by decide) (by decide) (by decide) (by decide) (by decide), k_B hB hU hV (by decide) (by decide) (by decide) (by decide) (by decide), hS', k_W hW hV (by decide) (by decide) (by decide)⟩
theorem st_shift {n : Nat} (hn : n < 1000) {U : CS} {V : ST} (h : Rel n U V) (a1 : Int32) (a2 : Int32) (a3 : Int32) (a4 : Int32) (a5 : Int32) : Sim (wp_X11_shift a1 a2 a3 a4 a5 U) (wp_X12_shift a1 a2 a3 a4 a5 V) (Rel (n + 1)) := by
  obtain ⟨v, o, hvn, hT, hL0, hLw, hv, hd3, hd4, hd5, hM, hr7, hr2, hD, hK, hB, hS, hW⟩ := h
  have hv2 : v < 100000 := by omega
  refine Sim_m (zshift hS a1 a2 a3 a4 a5) ?_
  rintro U' V' ⟨hS', hU, hV⟩
  exact ⟨v, o, by omega, k_T hT hU hV (by decide) (by decide), k_L0 (a := []) hL0 (k_A 2 hU (by decide)) hV (by decide) (by decide) (by decide) (by decide), RLw_ag hLw (k_A 2 hU (by decide)) (by decide) (by decide) hV (by decide) (by decide) (by decide) (by decide) (by decide) (by decide), (Ag_I (k_A 2 hU (by decide)) 9 (by decide)).trans hv, k_d hd3 hU (by decide), k_d hd4 hU (by decide), k_d hd5 hU (by decide), k_d (P := fun z => RMe z o v) hM hU (by decide), k_d hr7 hU (by decide), k_d hr2 hU (by decide), k_D hD hU hV (by decide) (by decide) (by decide), k_K hK (k_A 0 hU (by decide)) hU hV (by decide) (by decide) (by decide) (by decide) (by decide), k_B hB hU hV (by decide) (by decide) (by decide) (by decide) (by decide), hS', k_W hW hV (by decide) (by decide) (by decide)⟩
theorem st_drop {n : Nat} (hn : n < 1000) {U : CS} {V : ST} (h : Rel n U V) (a1 : Int32) : Sim (wp_X11_drop a1 U) (wp_X12_drop a1 V) (Rel (n + 1)) := by
  obtain ⟨v, o, hvn, hT, hL0, hLw, hv, hd3, hd4, hd5, hM, hr7, hr2, hD, hK, hB, hS, hW⟩ := h
  have hv2 : v < 100000 := by omega
  refine Sim_m (zdrop hT hD a1) ?_
  rintro U' V' ⟨hD', hU, hV⟩
  exact ⟨v, o, by omega, k_T hT hU hV (by decide) (by decide), k_L0 (a := []) hL0 (k_A 2 hU (by decide)) hV (by decide) (by decide) (by decide) (by decide), RLw_ag hLw (k_A 2 hU (by decide)) (by decide) (by decide) hV (by decide) (by decide) (by decide) (by decide) (by decide) (by decide), (Ag_I (k_A 2 hU (by decide)) 9 (by decide)).trans hv, k_d hd3 hU (by decide), k_d hd4 hU (by decide), k_d hd5 hU (by decide), k_d (P := fun z => RMe z o v) hM hU (by decide), k_d hr7 hU (by decide), k_d hr2 hU (by decide), hD', k_K hK (k_A 0 hU (by decide)) hU hV (by decide) (by decide) (by decide) (by decide) (by decide), k_B hB hU hV (by decide) (by decide) (by decide) (by decide) (by decide), k_S hS hU hV (by decide) (by decide) (by decide) (by decide) (by decide), k_W hW hV (by decide) (by decide) (by decide)⟩
theorem st_guess {n : Nat} (hn : n < 1000) {U : CS} {V : ST} (h : Rel n U V) (a1 : Int32) : Sim (wp_X11_guess a1 U) (wp_X12_guess a1 V) (Rel (n + 1)) := by
  obtain ⟨v, o, hvn, hT, hL0, hLw, hv, hd3, hd4, hd5, hM, hr7, hr2, hD, hK, hB, hS, hW⟩ := h
  have hv2 : v < 100000 := by omega
  refine Sim_m (zguess hT hD a1) ?_
  rintro U' V' ⟨hD', hU, hV⟩
  exact ⟨v, o, by omega, k_T hT hU hV (by decide) (by decide), k_L0 (a := []) hL0 (k_A 2 hU (by decide)) hV (by decide) (by decide) (by decide) (by decide), RLw_ag hLw (k_A 2 hU (by decide)) (by decide) (by decide) hV (by decide) (by decide) (by decide) (by decide) (by decide) (by decide), (Ag_I (k_A 2 hU (by decide)) 9 (by decide)).trans hv, k_d hd3 hU (by decide), k_d hd4 hU (by decide), k_d hd5 hU (by decide), k_d (P := fun z => RMe z o v) hM hU (by decide), k_d hr7 hU (by decide), k_d hr2 hU (by decide), hD', k_K hK (k_A 0 hU (by decide)) hU hV (by decide) (by decide) (by decide) (by decide) (by decide), k_B hB hU hV (by decide) (by decide) (by decide) (by decide) (by decide), k_S hS hU hV (by decide) (by decide) (by decide) (by decide) (by decide), k_W hW hV (by decide) (by decide) (by decide)⟩
theorem st_drops {n : Nat} (hn : n < 1000) {U : CS} {V : ST} (h : Rel n U V) (a1 : Int32) (a2 : Int32) (a3 : Int32) : Sim (wp_X11_drops a1 a2 a3 U) (wp_X12_drops a1 a2 a3 V) (Rel (n + 1)) := by
  obtain ⟨v, o, hvn, hT, hL0, hLw, hv, hd3, hd4, hd5, hM, hr7, hr2, hD, hK, hB, hS, hW⟩ := h
  have hv2 : v < 100000 := by omega
  refine Sim_m (zdrops hS hD a1 a2 a3) ?_
  rintro U' V' ⟨hD', hU, hV⟩
  exact ⟨v, o, by omega, k_T hT hU hV (by decide) (by decide), k_L0 (a := []) hL0 (k_A 2 hU (by decide)) hV (by decide) (by decide) (by decide) (by decide), RLw_ag hLw (k_A 2 hU (by decide)) (by decide) (by decide) hV (by decide) (by decide) (by decide) (by decide) (by decide) (by decide), (Ag_I (k_A 2 hU (by decide)) 9 (by decide)).trans hv, k_d hd3 hU (by decide), k_d hd4 hU (by decide), k_d hd5 hU (by decide), k_d (P := fun z => RMe z o v) hM hU (by decide), k_d hr7 hU (by decide), k_d hr2 hU (by decide), hD', k_K hK (k_A 0 hU (by decide)) hU hV (by decide) (by decide) (by decide) (by decide) (by decide), k_B hB hU hV (by decide) (by decide) (by decide) (by decide) (by decide), k_S hS hU hV (by decide) (by decide) (by decide) (by decide) (by decide), k_W hW hV (by decide) (by decide) (by decide)⟩
theorem st_image {n : Nat} (hn : n < 1000) {U : CS} {V : ST} (h : Rel n U V) : Sim (wp_X11_image U) (wp_X12_image V) (Rel (n + 1)) := by
  obtain ⟨v, o, hvn, hT, hL0, hLw, hv, hd3, hd4, hd5, hM, hr7, hr2, hD, hK, hB, hS, hW⟩ := h
  have hv2 : v < 100000 := by omega
  refine Sim_m (zimage hD hK) ?_
  rintro U' V' ⟨hD', hK', h0i, h0a, hU, hV⟩
  exact ⟨v, o, by omega, k_T hT hU hV (by decide) (by decide), k_L0 (a := []) hL0 (k_A 2 hU (by decide)) hV (by decide) (by decide) (by decide) (by decide), RLw_ag hLw (k_A 2 hU (by decide)) (by decide) (by decide) hV (by decide) (by decide) (by decide) (by decide) (by decide) (by decide), (Ag_I (k_A 2 hU (by decide)) 9 (by decide)).trans hv, k_d hd3 hU (by decide), k_d hd4 hU (by decide), k_d hd5 hU (by decide), k_d (P := fun z => RMe z o v) hM hU (by decide), k_d hr7 hU (by decide), k_d hr2 hU (by decide), hD', hK', k_B hB hU hV (by decide) (by decide) (by decide) (by decide) (by decide), k_S hS hU hV (by decide) (by decide) (by decide) (by decide) (by decide), k_W hW hV (by decide) (by decide) (by decide)⟩
theorem st_back {n : Nat} (hn : n < 1000) {U : CS} {V : ST} (h : Rel n U V) : Sim (wp_X11_back U) (wp_X12_back V) (Rel (n + 1)) := by
  obtain ⟨v, o, hvn, hT, hL0, hLw, hv, hd3, hd4, hd5, hM, hr7, hr2, hD, hK, hB, hS, hW⟩ := h
  have hv2 : v < 100000 := by omega
  refine Sim_m (zback hD hK) ?_
  rintro U' V' ⟨hD', hK', h0i, h0a, hU, hV⟩
  exact ⟨v, o, by omega, k_T hT hU hV (by decide) (by decide), k_L0 (a := []) hL0 (k_A 2 hU (by decide)) hV (by decide) (by decide) (by decide) (by decide), RLw_ag hLw (k_A 2 hU (by decide)) (by decide) (by decide) hV (by decide) (by decide) (by decide) (by decide) (by decide) (by decide), (Ag_I (k_A 2 hU (by decide)) 9 (by decide)).trans hv, k_d hd3 hU (by decide), k_d hd4 hU (by decide), k_d hd5 hU (by decide), k_d (P := fun z => RMe z o v) hM hU (by decide), k_d hr7 hU (by decide), k_d hr2 hU (by decide), hD', hK', k_B hB hU hV (by decide) (by decide) (by decide) (by decide) (by decide), k_S hS hU hV (by decide) (by decide) (by decide) (by decide) (by decide), k_W hW hV (by decide) (by decide) (by decide)⟩
theorem st_act {n : Nat} (hn : n < 1000) {U : CS} {V : ST} (h : Rel n U V) (a1 : Int32) (a2 : Int32) (a3 : Int32) : Sim (wp_X11_act a1 a2 a3 U) (wp_X12_act a1 a2 a3 V) (Rel (n + 1)) := by
  obtain ⟨v, o, hvn, hT, hL0, hLw, hv, hd3, hd4, hd5, hM, hr7, hr2, hD, hK, hB, hS, hW⟩ := h
  have hv2 : v < 100000 := by omega
  refine Sim_m (zact2 hB a1 a2 a3) ?_
  rintro U' V' ⟨hB', hU, hV⟩
  exact ⟨v, o, by omega, k_T hT hU hV (by decide) (by decide), k_L0 (a := []) hL0 (k_A 2 hU (by decide)) hV (by decide) (by decide) (by decide) (by decide), RLw_ag hLw (k_A 2 hU (by decide)) (by decide) (by decide) hV (by decide) (by decide) (by decide) (by decide) (by decide) (by decide), (Ag_I (k_A 2 hU (by decide)) 9 (by decide)).trans hv, k_d hd3 hU (by decide), k_d hd4 hU (by decide), k_d hd5 hU (by decide), k_d (P := fun z => RMe z o v) hM hU (by decide), k_d hr7 hU (by decide), k_d hr2 hU (by decide), k_D hD hU hV (by decide) (by decide) (by decide), k_K hK (k_A 0 hU (by decide)) hU hV (by decide) (by decide) (by decide) (by decide) (by decide), hB', k_S hS hU hV (by decide) (by decide) (by decide) (by decide) (by decide), k_W hW hV (by decide) (by decide) (by decide)⟩
theorem st_body {n : Nat} (hn : n < 1000) {U : CS} {V : ST} (h : Rel n U V) (a1 : Int32) : Sim (wp_X11_body a1 U) (wp_X12_body a1 V) (Rel (n + 1)) := by
  obtain ⟨v, o, hvn, hT, hL0, hLw, hv, hd3, hd4, hd5, hM, hr7, hr2, hD, hK, hB, hS, hW⟩ := h
  have hv2 : v < 100000 := by omega
  refine Sim_m (zbody2 hB a1) ?_
  rintro U' V' ⟨hB', hU, hV, hm⟩
  exact ⟨v, o, by omega, k_T hT hU hV (by decide) (by decide), k_L0 (a := []) hL0 (k_A 2 hU (by decide)) hV (by decide) (by decide) (by decide) (by decide), RLw_ag hLw (k_A 2 hU (by decide)) (by decide) (by decide) hV (by decide) (by decide) (by decide) (by decide) (by decide) (by decide), (Ag_I (k_A 2 hU (by decide)) 9 (by decide)).trans hv, k_d hd3 hU (by decide), k_d hd4 hU (by decide), k_d hd5 hU (by decide), k_d (P := fun z => RMe z o v) hM hU (by decide), k_d hr7 hU (by decide), k_d hr2 hU (by decide), k_D hD hU hV (by decide) (by decide) (by decide), k_K hK (k_A 0 hU (by decide)) hU hV (by decide) (by decide) (by decide) (by decide) (by decide), hB', RS_more hS (fun s hs => hU (18 + s) ((by decide : ∀ s : Nat, s < 6 → 18 + s ∉ [17]) s hs)) hV (by decide) (by decide) (by decide) hm, k_W hW hV (by decide) (by decide) (by decide)⟩
theorem st_worst {n : Nat} (hn : n < 1000) {U : CS} {V : ST} (h : Rel n U V) (a1 : Int32) (a2 : Int32) : Sim (wp_X11_worst a1 a2 U) (wp_X12_worst a1 a2 V) (Rel (n + 1)) := by
  obtain ⟨v, o, hvn, hT, hL0, hLw, hv, hd3, hd4, hd5, hM, hr7, hr2, hD, hK, hB, hS, hW⟩ := h
  have hv2 : v < 100000 := by omega
  refine Sim_m (zworst hd3 hW a1 a2) ?_
  rintro U' V' ⟨⟨hd', hW'⟩, hU, hV⟩
  exact ⟨v, o, by omega, k_T hT hU hV (by decide) (by decide), k_L0 (a := []) hL0 (k_A 2 hU (by decide)) hV (by decide) (by decide) (by decide) (by decide), RLw_ag hLw (k_A 2 hU (by decide)) (by decide) (by decide) hV (by decide) (by decide) (by decide) (by decide) (by decide) (by decide), (Ag_I (k_A 2 hU (by decide)) 9 (by decide)).trans hv, hd', k_d hd4 hU (by decide), k_d hd5 hU (by decide), k_d (P := fun z => RMe z o v) hM hU (by decide), k_d hr7 hU (by decide), k_d hr2 hU (by decide), k_D hD hU hV (by decide) (by decide) (by decide), k_K hK (k_A 0 hU (by decide)) hU hV (by decide) (by decide) (by decide) (by decide) (by decide), k_B hB hU hV (by decide) (by decide) (by decide) (by decide) (by decide), k_S hS hU hV (by decide) (by decide) (by decide) (by decide) (by decide), hW'⟩
theorem st_price {n : Nat} (hn : n < 1000) {U : CS} {V : ST} (h : Rel n U V) (a1 : Int32) (a2 : Int32) : Sim (wp_X11_price a1 a2 U) (wp_X12_price a1 a2 V) (Rel (n + 1)) := by
  obtain ⟨v, o, hvn, hT, hL0, hLw, hv, hd3, hd4, hd5, hM, hr7, hr2, hD, hK, hB, hS, hW⟩ := h
  have hv2 : v < 100000 := by omega
  refine Sim_m (zprice hT hd4 a1 a2) ?_
  rintro U' V' ⟨hd', hU, hV⟩
  exact ⟨v, o, by omega, k_T hT hU hV (by decide) (by decide), k_L0 (a := []) hL0 (k_A 2 hU (by decide)) hV (by decide) (by decide) (by decide) (by decide), RLw_ag hLw (k_A 2 hU (by decide)) (by decide) (by decide) hV (by decide) (by decide) (by decide) (by decide) (by decide) (by decide), (Ag_I (k_A 2 hU (by decide)) 9 (by decide)).trans hv, k_d hd3 hU (by decide), hd', k_d hd5 hU (by decide), k_d (P := fun z => RMe z o v) hM hU (by decide), k_d hr7 hU (by decide), k_d hr2 hU (by decide), k_D hD hU hV (by decide) (by decide) (by decide), k_K hK (k_A 0 hU (by decide)) hU hV (by decide) (by decide) (by decide) (by decide) (by decide), k_B hB hU hV (by decide) (by decide) (by decide) (by decide) (by decide), k_S hS hU hV (by decide) (by decide) (by decide) (by decide) (by decide), k_W hW hV (by decide) (by decide) (by decide)⟩
theorem st_weight {n : Nat} (hn : n < 1000) {U : CS} {V : ST} (h : Rel n U V) (a1 : Int32) : Sim (wp_X11_weight a1 U) (wp_X12_weight a1 V) (Rel (n + 1)) := by
  obtain ⟨v, o, hvn, hT, hL0, hLw, hv, hd3, hd4, hd5, hM, hr7, hr2, hD, hK, hB, hS, hW⟩ := h
  have hv2 : v < 100000 := by omega
  refine Sim_m (zweight hT hLw a1) ?_
  rintro U' V' ⟨⟨L', hA, rfl⟩, hV⟩
  have hU : AgU [2] (mu U 2 L') U := AgU_mu (AgU_r _ _) (by decide) _
  have hA' : Ag [1, 8] (mu U 2 L' 2) (U 2) := hA
  exact ⟨v, o, by omega, k_T hT hU hV (by decide) (by decide), k_L0 (a := []) hL0 hA' hV (by decide) (by decide) (by decide) (by decide), RLw_ag hLw hA' (by decide) (by decide) hV (by decide) (by decide) (by decide) (by decide) (by decide) (by decide), (Ag_I hA' 9 (by decide)).trans hv, k_d hd3 hU (by decide), k_d hd4 hU (by decide), k_d hd5 hU (by decide), k_d (P := fun z => RMe z o v) hM hU (by decide), k_d hr7 hU (by decide), k_d hr2 hU (by decide), k_D hD hU hV (by decide) (by decide) (by decide), k_K hK (k_A 0 hU (by decide)) hU hV (by decide) (by decide) (by decide) (by decide) (by decide), k_B hB hU hV (by decide) (by decide) (by decide) (by decide) (by decide), k_S hS hU hV (by decide) (by decide) (by decide) (by decide) (by decide), k_W hW hV (by decide) (by decide) (by decide)⟩
theorem st_judge {n : Nat} (hn : n < 1000) {U : CS} {V : ST} (h : Rel n U V) (a1 : Int32) : Sim (wp_X11_judge a1 U) (wp_X12_judge a1 V) (Rel (n + 1)) := by
  obtain ⟨v, o, hvn, hT, hL0, hLw, hv, hd3, hd4, hd5, hM, hr7, hr2, hD, hK, hB, hS, hW⟩ := h
  have hv2 : v < 100000 := by omega
  refine Sim_m (zjudge hT hS hd3 hW a1) ?_
  rintro U' V' ⟨⟨hd', hW'⟩, hU, h0, hV⟩
  exact ⟨v, o, by omega, k_T hT hU hV (by decide) (by decide), k_L0 (a := []) hL0 (k_A 2 hU (by decide)) hV (by decide) (by decide) (by decide) (by decide), RLw_ag hLw (k_A 2 hU (by decide)) (by decide) (by decide) hV (by decide) (by decide) (by decide) (by decide) (by decide) (by decide), (Ag_I (k_A 2 hU (by decide)) 9 (by decide)).trans hv, hd', k_d hd4 hU (by decide), k_d hd5 hU (by decide), k_d (P := fun z => RMe z o v) hM hU (by decide), k_d hr7 hU (by decide), k_d hr2 hU (by decide), k_D hD hU hV (by decide) (by decide) (by decide), k_K hK h0 hU hV (by decide) (by decide) (by decide) (by decide) (by decide), k_B hB hU hV (by decide) (by decide) (by decide) (by decide) (by decide), k_S hS hU hV (by decide) (by decide) (by decide) (by decide) (by decide), hW'⟩
theorem st_left {n : Nat} (hn : n < 1000) {U : CS} {V : ST} (h : Rel n U V) (a1 : Int32) (a2 : Int32) : Sim (wp_X11_left a1 a2 U) (wp_X12_left a1 a2 V) (Rel (n + 1)) := by
  obtain ⟨v, o, hvn, hT, hL0, hLw, hv, hd3, hd4, hd5, hM, hr7, hr2, hD, hK, hB, hS, hW⟩ := h
  have hv2 : v < 100000 := by omega
  refine Sim_m (zleft hT hS hd3 hW a1 a2) ?_
  rintro U' V' ⟨⟨hd', hW'⟩, hU, h0, hV⟩
  exact ⟨v, o, by omega, k_T hT hU hV (by decide) (by decide), k_L0 (a := []) hL0 (k_A 2 hU (by decide)) hV (by decide) (by decide) (by decide) (by decide), RLw_ag hLw (k_A 2 hU (by decide)) (by decide) (by decide) hV (by decide) (by decide) (by decide) (by decide) (by decide) (by decide), (Ag_I (k_A 2 hU (by decide)) 9 (by decide)).trans hv, hd', k_d hd4 hU (by decide), k_d hd5 hU (by decide), k_d (P := fun z => RMe z o v) hM hU (by decide), k_d hr7 hU (by decide), k_d hr2 hU (by decide), k_D hD hU hV (by decide) (by decide) (by decide), k_K hK h0 hU hV (by decide) (by decide) (by decide) (by decide) (by decide), k_B hB hU hV (by decide) (by decide) (by decide) (by decide) (by decide), k_S hS hU hV (by decide) (by decide) (by decide) (by decide) (by decide), hW'⟩
theorem st_wise {n : Nat} (hn : n < 1000) {U : CS} {V : ST} (h : Rel n U V) (a1 : Int32) : Sim (wp_X11_wise a1 U) (wp_X12_wise a1 V) (Rel (n + 1)) := by
  obtain ⟨v, o, hvn, hT, hL0, hLw, hv, hd3, hd4, hd5, hM, hr7, hr2, hD, hK, hB, hS, hW⟩ := h
  have hv2 : v < 100000 := by omega
  refine Sim_m (zwise hT hS hd3 hW a1) ?_
  rintro U' V' ⟨⟨hd', hW'⟩, hU, h0, hV⟩
  exact ⟨v, o, by omega, k_T hT hU hV (by decide) (by decide), k_L0 (a := []) hL0 (k_A 2 hU (by decide)) hV (by decide) (by decide) (by decide) (by decide), RLw_ag hLw (k_A 2 hU (by decide)) (by decide) (by decide) hV (by decide) (by decide) (by decide) (by decide) (by decide) (by decide), (Ag_I (k_A 2 hU (by decide)) 9 (by decide)).trans hv, hd', k_d hd4 hU (by decide), k_d hd5 hU (by decide), k_d (P := fun z => RMe z o v) hM hU (by decide), k_d hr7 hU (by decide), k_d hr2 hU (by decide), k_D hD hU hV (by decide) (by decide) (by decide), k_K hK h0 hU hV (by decide) (by decide) (by decide) (by decide) (by decide), k_B hB hU hV (by decide) (by decide) (by decide) (by decide) (by decide), k_S hS hU hV (by decide) (by decide) (by decide) (by decide) (by decide), hW'⟩
theorem st_mean {n : Nat} (hn : n < 1000) {U : CS} {V : ST} (h : Rel n U V) (a1 : Int32) (a2 : Int32) (a3 : Int32) : Sim (wp_X11_mean a1 a2 a3 U) (wp_X12_mean a1 a2 a3 V) (Rel (n + 1)) := by
  obtain ⟨v, o, hvn, hT, hL0, hLw, hv, hd3, hd4, hd5, hM, hr7, hr2, hD, hK, hB, hS, hW⟩ := h
  have hv2 : v < 100000 := by omega
  refine Sim_m (zmean hT hLw hv hv2 hM hd5 a1 a2 a3) ?_
  rintro U' V' ⟨⟨hM', hd', hA⟩, hU, hV⟩
  exact ⟨v, o, by omega, k_T hT hU hV (by decide) (by decide), k_L0 (a := []) hL0 hA hV (by decide) (by decide) (by decide) (by decide), RLw_ag hLw hA (by decide) (by decide) hV (by decide) (by decide) (by decide) (by decide) (by decide) (by decide), (Ag_I hA 9 (by decide)).trans hv, k_d hd3 hU (by decide), k_d hd4 hU (by decide), hd', hM', k_d hr7 hU (by decide), k_d hr2 hU (by decide), k_D hD hU hV (by decide) (by decide) (by decide), k_K hK (k_A 0 hU (by decide)) hU hV (by decide) (by decide) (by decide) (by decide) (by decide), k_B hB hU hV (by decide) (by decide) (by decide) (by decide) (by decide), k_S hS hU hV (by decide) (by decide) (by decide) (by decide) (by decide), k_W hW hV (by decide) (by decide) (by decide)⟩
theorem st_meanFirst {n : Nat} (hn : n < 1000) {U : CS} {V : ST} (h : Rel n U V) (a1 : Int32) (a2 : Int32) : Sim (wp_X11_meanFirst a1 a2 U) (wp_X12_meanFirst a1 a2 V) (Rel (n + 1)) := by
  obtain ⟨v, o, hvn, hT, hL0, hLw, hv, hd3, hd4, hd5, hM, hr7, hr2, hD, hK, hB, hS, hW⟩ := h
  have hv2 : v < 100000 := by omega
  refine Sim_m (zmeanFirst hT hLw hv hv2 hM hd5 a1 a2) ?_
  rintro U' V' ⟨⟨hM', hd', hA⟩, hU, hV⟩
  exact ⟨v, o, by omega, k_T hT hU hV (by decide) (by decide), k_L0 (a := []) hL0 hA hV (by decide) (by decide) (by decide) (by decide), RLw_ag hLw hA (by decide) (by decide) hV (by decide) (by decide) (by decide) (by decide) (by decide) (by decide), (Ag_I hA 9 (by decide)).trans hv, k_d hd3 hU (by decide), k_d hd4 hU (by decide), hd', hM', k_d hr7 hU (by decide), k_d hr2 hU (by decide), k_D hD hU hV (by decide) (by decide) (by decide), k_K hK (k_A 0 hU (by decide)) hU hV (by decide) (by decide) (by decide) (by decide) (by decide), k_B hB hU hV (by decide) (by decide) (by decide) (by decide) (by decide), k_S hS hU hV (by decide) (by decide) (by decide) (by decide) (by decide), k_W hW hV (by decide) (by decide) (by decide)⟩
theorem st_two {n : Nat} (hn : n < 1000) {U : CS} {V : ST} (h : Rel n U V) (a1 : Int32) (a2 : Int32) (a3 : Int32) : Sim (wp_X11_two a1 a2 a3 U) (wp_X12_two a1 a2 a3 V) (Rel (n + 1)) := by
  obtain ⟨v, o, hvn, hT, hL0, hLw, hv, hd3, hd4, hd5, hM, hr7, hr2, hD, hK, hB, hS, hW⟩ := h
  have hv2 : v < 100000 := by omega
  refine Sim_m (ztwo hr2 a1 a2 a3) ?_
  rintro U' V' ⟨h2', hU, hV⟩
  exact ⟨v, o, by omega, k_T hT hU hV (by decide) (by decide), k_L0 (a := []) hL0 (k_A 2 hU (by decide)) hV (by decide) (by decide) (by decide) (by decide), RLw_ag hLw (k_A 2 hU (by decide)) (by decide) (by decide) hV (by decide) (by decide) (by decide) (by decide) (by decide) (by decide), (Ag_I (k_A 2 hU (by decide)) 9 (by decide)).trans hv, k_d hd3 hU (by decide), k_d hd4 hU (by decide), k_d hd5 hU (by decide), k_d (P := fun z => RMe z o v) hM hU (by decide), k_d hr7 hU (by decide), h2', k_D hD hU hV (by decide) (by decide) (by decide), k_K hK (k_A 0 hU (by decide)) hU hV (by decide) (by decide) (by decide) (by decide) (by decide), k_B hB hU hV (by decide) (by decide) (by decide) (by decide) (by decide), k_S hS hU hV (by decide) (by decide) (by decide) (by decide) (by decide), k_W hW hV (by decide) (by decide) (by decide)⟩
theorem st_trodden {n : Nat} (hn : n < 1000) {U : CS} {V : ST} (h : Rel n U V) (a1 : Int32) (a2 : Int32) (a3 : Int32) : Sim (wp_X11_trodden a1 a2 a3 U) (wp_X12_trodden a1 a2 a3 V) (Rel (n + 1)) := by
  obtain ⟨v, o, hvn, hT, hL0, hLw, hv, hd3, hd4, hd5, hM, hr7, hr2, hD, hK, hB, hS, hW⟩ := h
  have hv2 : v < 100000 := by omega
  refine Sim_m (ztrodden hT hr7 a1 a2 a3) ?_
  rintro U' V' ⟨h7', hU, hV⟩
  exact ⟨v, o, by omega, k_T hT hU hV (by decide) (by decide), k_L0 (a := []) hL0 (k_A 2 hU (by decide)) hV (by decide) (by decide) (by decide) (by decide), RLw_ag hLw (k_A 2 hU (by decide)) (by decide) (by decide) hV (by decide) (by decide) (by decide) (by decide) (by decide) (by decide), (Ag_I (k_A 2 hU (by decide)) 9 (by decide)).trans hv, k_d hd3 hU (by decide), k_d hd4 hU (by decide), k_d hd5 hU (by decide), k_d (P := fun z => RMe z o v) hM hU (by decide), h7', k_d hr2 hU (by decide), k_D hD hU hV (by decide) (by decide) (by decide), k_K hK (k_A 0 hU (by decide)) hU hV (by decide) (by decide) (by decide) (by decide) (by decide), k_B hB hU hV (by decide) (by decide) (by decide) (by decide) (by decide), k_S hS hU hV (by decide) (by decide) (by decide) (by decide) (by decide), k_W hW hV (by decide) (by decide) (by decide)⟩
theorem st_ruled {n : Nat} (hn : n < 1000) {U : CS} {V : ST} (h : Rel n U V) (a1 : Int32) (a2 : Int32) (a3 : Int32) : Sim (wp_X11_ruled a1 a2 a3 U) (wp_X12_ruled a1 a2 a3 V) (Rel (n + 1)) := by
  obtain ⟨v, o, hvn, hT, hL0, hLw, hv, hd3, hd4, hd5, hM, hr7, hr2, hD, hK, hB, hS, hW⟩ := h
  have hv2 : v < 100000 := by omega
  refine Sim_m (zruled hT ⟨hLw, hv, hv2, hM, hd3, hd5, hW⟩ a1 a2 a3) ?_
  rintro U' V' ⟨⟨⟨hM', hd3', hd5', hA⟩, hW'⟩, hU, hV⟩
  exact ⟨v, o, by omega, k_T hT hU hV (by decide) (by decide), k_L0 (a := []) hL0 hA hV (by decide) (by decide) (by decide) (by decide), RLw_ag hLw hA (by decide) (by decide) hV (by decide) (by decide) (by decide) (by decide) (by decide) (by decide), (Ag_I hA 9 (by decide)).trans hv, hd3', k_d hd4 hU (by decide), hd5', hM', k_d hr7 hU (by decide), k_d hr2 hU (by decide), k_D hD hU hV (by decide) (by decide) (by decide), k_K hK (k_A 0 hU (by decide)) hU hV (by decide) (by decide) (by decide) (by decide) (by decide), k_B hB hU hV (by decide) (by decide) (by decide) (by decide) (by decide), k_S hS hU hV (by decide) (by decide) (by decide) (by decide) (by decide), hW'⟩
theorem st_step {n : Nat} (hn : n < 1000) {U : CS} {V : ST} (h : Rel n U V) (a1 : Int32) (a2 : Int32) (a3 : Int32) : Sim (wp_X11_step a1 a2 a3 U) (wp_X12_step a1 a2 a3 V) (Rel (n + 1)) := by
  obtain ⟨v, o, hvn, hT, hL0, hLw, hv, hd3, hd4, hd5, hM, hr7, hr2, hD, hK, hB, hS, hW⟩ := h
  have hv2 : v < 100000 := by omega
  refine Sim_m (zstepS hT ⟨hLw, hv, hv2, hM, hd3, hd5, hW⟩ a1 a2 a3) ?_
  rintro U' V' ⟨⟨⟨hM', hd3', hd5', hA⟩, hW'⟩, hU, hV⟩
  exact ⟨v, o, by omega, k_T hT hU hV (by decide) (by decide), k_L0 (a := []) hL0 hA hV (by decide) (by decide) (by decide) (by decide), RLw_ag hLw hA (by decide) (by decide) hV (by decide) (by decide) (by decide) (by decide) (by decide) (by decide), (Ag_I hA 9 (by decide)).trans hv, hd3', k_d hd4 hU (by decide), hd5', hM', k_d hr7 hU (by decide), k_d hr2 hU (by decide), k_D hD hU hV (by decide) (by decide) (by decide), k_K hK (k_A 0 hU (by decide)) hU hV (by decide) (by decide) (by decide) (by decide) (by decide), k_B hB hU hV (by decide) (by decide) (by decide) (by decide) (by decide), k_S hS hU hV (by decide) (by decide) (by decide) (by decide) (by decide), hW'⟩
theorem st_drawn {n : Nat} (hn : n < 1000) {U : CS} {V : ST} (h : Rel n U V) (a1 : Int32) (a2 : Int32) (a3 : Int32) : Sim (wp_X11_drawn a1 a2 a3 U) (wp_X12_drawn a1 a2 a3 V) (Rel (n + 1)) := by
  obtain ⟨v, o, hvn, hT, hL0, hLw, hv, hd3, hd4, hd5, hM, hr7, hr2, hD, hK, hB, hS, hW⟩ := h
  have hv2 : v < 100000 := by omega
  refine Sim_m (zdrawn hT ⟨hLw, hv, hv2, hM, hd3, hd5, hW⟩ a1 a2 a3) ?_
  rintro U' V' ⟨⟨⟨hM', hd3', hd5', hA⟩, hW'⟩, hU, hV⟩
  exact ⟨v, o, by omega, k_T hT hU hV (by decide) (by decide), k_L0 (a := []) hL0 hA hV (by decide) (by decide) (by decide) (by decide), RLw_ag hLw hA (by decide) (by decide) hV (by decide) (by decide) (by decide) (by decide) (by decide) (by decide), (Ag_I hA 9 (by decide)).trans hv, hd3', k_d hd4 hU (by decide), hd5', hM', k_d hr7 hU (by decide), k_d hr2 hU (by decide), k_D hD hU hV (by decide) (by decide) (by decide), k_K hK (k_A 0 hU (by decide)) hU hV (by decide) (by decide) (by decide) (by decide) (by decide), k_B hB hU hV (by decide) (by decide) (by decide) (by decide) (by decide), k_S hS hU hV (by decide) (by decide) (by decide) (by decide) (by decide), hW'⟩
theorem st_shards {n : Nat} (hn : n < 1000) {U : CS} {V : ST} (h : Rel n U V) (a1 : Int32) (a2 : Int32) : SimJ (wp_X11_shards a1 a2 U) (wp_X12_shards a1 a2 V) (Rel (n + 1)) := by
  obtain ⟨v, o, hvn, hT, hL0, hLw, hv, hd3, hd4, hd5, hM, hr7, hr2, hD, hK, hB, hS, hW⟩ := h
  have hv2 : v < 100000 := by omega
  refine SimJ_m (zshards hT ⟨hLw, hv, hv2, hM, hd3, hd5, hW⟩ a1 a2) ?_
  rintro U' V' ⟨⟨⟨hM', hd3', hd5', hA⟩, hW'⟩, hU, hV⟩
  exact ⟨v, o, by omega, k_T hT hU hV (by decide) (by decide), k_L0 (a := []) hL0 hA hV (by decide) (by decide) (by decide) (by decide), RLw_ag hLw hA (by decide) (by decide) hV (by decide) (by decide) (by decide) (by decide) (by decide) (by decide), (Ag_I hA 9 (by decide)).trans hv, hd3', k_d hd4 hU (by decide), hd5', hM', k_d hr7 hU (by decide), k_d hr2 hU (by decide), k_D hD hU hV (by decide) (by decide) (by decide), k_K hK (k_A 0 hU (by decide)) hU hV (by decide) (by decide) (by decide) (by decide) (by decide), k_B hB hU hV (by decide) (by decide) (by decide) (by decide) (by decide), k_S hS hU hV (by decide) (by decide) (by decide) (by decide) (by decide), hW'⟩
theorem st_hide {n : Nat} (hn : n < 1000) {U : CS} {V : ST} (h : Rel n U V) (a1 : Int32) : Sim (wp_X11_hide a1 U) (wp_X12_hide a1 V) (Rel (n + 1)) := by
  obtain ⟨v, o, hvn, hT, hL0, hLw, hv, hd3, hd4, hd5, hM, hr7, hr2, hD, hK, hB, hS, hW⟩ := h
  have hv2 : v < 100000 := by omega
  refine Sim_m (zhide hT hLw hv hv2 hM hD a1) ?_
  rintro U' V' ⟨⟨hM', hA, hD'⟩, hU, hV⟩
  exact ⟨v, o, by omega, k_T hT hU hV (by decide) (by decide), k_L0 (a := []) hL0 hA hV (by decide) (by decide) (by decide) (by decide), RLw_ag hLw hA (by decide) (by decide) hV (by decide) (by decide) (by decide) (by decide) (by decide) (by decide), (Ag_I hA 9 (by decide)).trans hv, k_d hd3 hU (by decide), k_d hd4 hU (by decide), k_d hd5 hU (by decide), hM', k_d hr7 hU (by decide), k_d hr2 hU (by decide), hD', k_K hK (k_A 0 hU (by decide)) hU hV (by decide) (by decide) (by decide) (by decide) (by decide), k_B hB hU hV (by decide) (by decide) (by decide) (by decide) (by decide), k_S hS hU hV (by decide) (by decide) (by decide) (by decide) (by decide), k_W hW hV (by decide) (by decide) (by decide)⟩
theorem RMe_up {m : ST} {o o' : Option (List zL)} {v : Nat} (h : RMe m o v) (hv : v + 1 < 100000) : RMe m o' (v + 1) := by
  obtain ⟨w, rd, hb, h | ⟨s, N, J, h1, h2, h3, h4, h5, h6, h7, h8⟩⟩ := h
  · exact ⟨w, rd, hb, .inl h⟩
  · exact ⟨w, rd, hb, .inr ⟨s, N, J, by omega, hv, h3, h4, h5, h6, h7, fun e => by omega⟩⟩
theorem st_law {n : Nat} (hn : n < 1000) {U : CS} {V : ST} (h : Rel n U V) : Sim (wp_X11_law U) (wp_X12_law V) (Rel (n + 1)) := by
  obtain ⟨v, o, hvn, hT, hL0, hLw, hv, hd3, hd4, hd5, hM, hr7, hr2, hD, hK, hB, hS, hW⟩ := h
  refine Sim_m (zlaw hL0 hLw hv) ?_
  rintro U' V' ⟨h0', hh, hU, hV⟩
  have go : ∀ (v' : Nat) (o' : Option (List zL)), v' ≤ n + 1 → RLw (U' 2) V' o' → gI (U' 2) 9 = nI v' → RMe (U' 6) o' v' → Rel (n + 1) U' V' := fun v' o' q hLw2 hv3 hM3 => ⟨v', o', q, k_T hT hU hV (by decide) (by decide), h0', hLw2, hv3, k_d hd3 hU (by decide), k_d hd4 hU (by decide), k_d hd5 hU (by decide), hM3, k_d hr7 hU (by decide), k_d hr2 hU (by decide), k_D hD hU hV (by decide) (by decide) (by decide), k_K hK (k_A 0 hU (by decide)) hU hV (by decide) (by decide) (by decide) (by decide) (by decide), k_B hB hU hV (by decide) (by decide) (by decide) (by decide) (by decide), k_S hS hU hV (by decide) (by decide) (by decide) (by decide) (by decide), k_W hW hV (by decide) (by decide) (by decide)⟩
  have hM2 : RMe (U' 6) o v := k_d (P := fun z => RMe z o v) hM hU (by decide)
  rcases hh with ⟨g1, g2⟩ | ⟨o', g1, g2⟩
  · exact go v o (by omega) g1 g2 hM2
  · exact go (v + 1) o' (by omega) g1 g2 (RMe_up hM2 (by omega))
theorem Rel_x {n : Nat} {U X : CS} {V : ST} (h : Rel n U V) (hU : AgU [25] X U) : Rel n X V := by
  obtain ⟨v, o, hvn, hT, hL0, hLw, hv, hd3, hd4, hd5, hM, hr7, hr2, hD, hK, hB, hS, hW⟩ := h
  have hV : Ag [] V V := Ag_r _ _
  exact ⟨v, o, hvn, k_T hT hU hV (by decide) (by decide), k_L0 (a := []) hL0 (k_A 2 hU (by decide)) hV (by decide) (by decide) (by decide) (by decide), RLw_ag hLw (k_A 2 hU (by decide)) (by decide) (by decide) hV (by decide) (by decide) (by decide) (by decide) (by decide) (by decide), (Ag_I (k_A 2 hU (by decide)) 9 (by decide)).trans hv, k_d hd3 hU (by decide), k_d hd4 hU (by decide), k_d hd5 hU (by decide), k_d (P := fun z => RMe z o v) hM hU (by decide), k_d hr7 hU (by decide), k_d hr2 hU (by decide), k_D hD hU hV (by decide) (by decide) (by decide), k_K hK (k_A 0 hU (by decide)) hU hV (by decide) (by decide) (by decide) (by decide) (by decide), k_B hB hU hV (by decide) (by decide) (by decide) (by decide) (by decide), k_S hS hU hV (by decide) (by decide) (by decide) (by decide) (by decide), k_W hW hV (by decide) (by decide) (by decide)⟩

/-! laid by program: X0_run, X0_run_end, X0_play, J7_fill, world6, X6_isEmpty, X6_isRow, X6_holdBody, X6_holdRow, X6_hasPlaces, X6_get, X6_lowest, X6_set, world3, X3_take, X3_next, X3_isDigit, X3_write, X3_readNumber, X3_readEnclosed, X3_readTurned, X3_readOperand, X3_rankOf -/
def wp_X0_run_p63 (u : ST) (P : Nat → Int32 → Int32 → Int32 → Int32 → ST → (Int32 → ST → Prop) → Prop) (Q : Int32 → ST → Prop) : Prop :=
  Q (0 : Int32) u
def wp_X0_run_p48 (x2 : Int32) (x3 : Int32) (x4 : Int32) (x5 : Int32) (u : ST) (P : Nat → Int32 → Int32 → Int32 → Int32 → ST → (Int32 → ST → Prop) → Prop) (Q : Int32 → ST → Prop) : Prop :=
  (wp_X0_isKind x5 (fun y50 => ((y50 = 0 → wp_X0_run_p63 u P Q) ∧ (¬ y50 = 0 → ((x4 < (24 : Int32) → (∀ y71 : Int32, y71 = x5 * (4 : Int32) → (∀ y73 : Int32, y73 = y71 + x2 → (vp_in y73 32 ∧ ∀ y74 : Int32, y74 = xOWN y73.toNatClampNeg → (wp_X0_note y74 u (fun u80 => (vp_in x5 8 ∧ ∀ y91 : Int32, y91 = xABOVE x5.toNatClampNeg → (∀ y96 : Int32, y96 = x4 + (1 : Int32) → (P 1 y74 y91 x3 y96 u80 (fun y97 u97 => Q y97 u97)))))))))) ∧ (¬ x4 < (24 : Int32) → wp_X0_run_p63 u P Q))))))
def wp_X0_run_p6b (x2 : Int32) (x3 : Int32) (x4 : Int32) (x5 : Int32) (x6 : Int32) (u : ST) (B6 : Int32 → Int32 → Int32 → Int32 → Int32 → ST → Prop) (P : Nat → Int32 → Int32 → Int32 → Int32 → ST → (Int32 → ST → Prop) → Prop) (Q : Int32 → ST → Prop) : Prop :=
  (((8 : Int32) ≤ x6 → wp_X0_run_p48 x2 x3 x4 x5 u P Q) ∧ (¬ (8 : Int32) ≤ x6 → (wp_X0_isKind x5 (fun y15 => ((y15 = 0 → wp_X0_run_p48 x2 x3 x4 x5 u P Q) ∧ (¬ y15 = 0 → (∀ y27 : Int32, y27 = x5 * (4 : Int32) → (∀ y29 : Int32, y29 = y27 + x2 → (vp_in y29 32 ∧ ∀ y30 : Int32, y30 = xOWN y29.toNatClampNeg → ((¬ y30 = 0 → wp_X0_run_p48 x2 x3 x4 x5 u P Q) ∧ (y30 = 0 → (vp_in x5 8 ∧ ∀ y39 : Int32, y39 = xABOVE x5.toNatClampNeg → (∀ y42 : Int32, y42 = x6 + 1 → B6 x2 x3 x4 y39 y42 u)))))))))))))
def wp_X0_run_p6 (x2 : Int32) (x3 : Int32) (x4 : Int32) (x5 : Int32) (x6 : Int32) (u : ST) (P : Nat → Int32 → Int32 → Int32 → Int32 → ST → (Int32 → ST → Prop) → Prop) (Q : Int32 → ST → Prop) : Prop := ∃ (I : Int32 → Int32 → Int32 → Int32 → Int32 → ST → Prop) (μ : Int32 → Int32 → Int32 → Int32 → Int32 → ST → Nat), I x2 x3 x4 x5 x6 u ∧ ∀ (x2 : Int32) (x3 : Int32) (x4 : Int32) (x5 : Int32) (x6 : Int32) (u : ST), I x2 x3 x4 x5 x6 u → wp_X0_run_p6b x2 x3 x4 x5 x6 u (fun yx2 yx3 yx4 yx5 yx6 yu => I yx2 yx3 yx4 yx5 yx6 yu ∧ μ yx2 yx3 yx4 yx5 yx6 yu < μ x2 x3 x4 x5 x6 u) P Q
def wp_X0_run (a1 : Int32) (a2 : Int32) (a3 : Int32) (a4 : Int32) (u : ST) (P : Nat → Int32 → Int32 → Int32 → Int32 → ST → (Int32 → ST → Prop) → Prop) (Q : Int32 → ST → Prop) : Prop :=
  wp_X0_run_p6 a2 a3 a4 a1 (0 : Int32) u P Q
set_option maxHeartbeats 4000000 in
set_option maxRecDepth 100000 in
theorem c_X0_run (l : Launch) (D : va_G) (h : Nat) (r : Nat → Nat) (cs : Nat → ClassId) (d : Nat) (P : Nat → Int32 → Int32 → Int32 → Int32 → ST → (Int32 → ST → Prop) → Prop) (hP0 : (∀ (a1 : Int32) (a2 : Int32) (a3 : Int32) (a4 : Int32) (u : ST) (Q : Int32 → ST → Prop), P 0 a1 a2 a3 a4 u Q → mCi l yX0_run wsX0_run (rmS d) 0 0 D (mT cs) (W0 h r cs) [.ref h, .int a1, .int a2, .int a3, .int a4] u Q)) (hP1 : (∀ (a1 : Int32) (a2 : Int32) (a3 : Int32) (a4 : Int32) (u : ST) (Q : Int32 → ST → Prop), P 1 a1 a2 a3 a4 u Q → mCi l yX0_result wsX0_result (rmS d) 0 0 D (mT cs) (W0 h r cs) [.ref h, .int a1, .int a2, .int a3, .int a4] u Q)) (a1 : Int32) (a2 : Int32) (a3 : Int32) (a4 : Int32) (u : ST) (Q : Int32 → ST → Prop) (hw : wp_X0_run a1 a2 a3 a4 u P Q) : mCi l yX0_run wsX0_run (rmS (d + 1)) 0 0 D (mT cs) (W0 h r cs) [.ref h, .int a1, .int a2, .int a3, .int a4] u Q := by
  unfold mCi
  refine m_enter (QQ := fun A => va_Qi Q (mPos D (mT cs) A (W0 h r cs)) A) (cc := cX0_run) (maxL := 7) (ret := (some .int)) (by decide) rfl (Nat.le_of_ble_eq_true rfl) ?_
  intro p e s m args below meth c A ls S hr hlocks hname hl hI
  have S : CallFix p m c cX0_run 7 s args wsX0_run RX0 := S
  show W p l e (rmS (d + 1)) s m args below meth c s.heap [] 0 0 (MQ below (va_Qi Q (mPos D (mT cs) A (W0 h r cs)) A) args s 0 0 A) (F0 m 0 ls [])
  generalize hZ : MQ below (va_Qi Q (mPos D (mT cs) A (W0 h r cs)) A) args s 0 0 A = Z
  have hin : ∀ w ∈ wsX00, w ∈ wsX0_run := fun _ h => List.mem_cons_of_mem _ (List.mem_append_right _ h)
  have hl : lv_has ls 7 [(0, .ref h), (1, .int a1), (2, .int a2), (3, .int a3), (4, .int a4)] := hl
  have b63 : ∀ (u : ST), wp_X0_run_p63 u P Q → mGo p l e (rmS (d + 1)) s m args below meth c A Z 7 D (mT cs) (W0 h r cs) 63 [(0, .ref h)] [] u := by
    intro u hw H locs ls hI hl
    unfold wp_X0_run_p63 at hw
    refine lv_iconst (v := 0) S.1 S.2.1 dX0_run_63 (by decide) ?_
    subst hZ
    exact m_iret S hr hlocks hI hw dX0_run_64
  have b48 : ∀ (x2 : Int32) (x3 : Int32) (x4 : Int32) (x5 : Int32) (u : ST), wp_X0_run_p48 x2 x3 x4 x5 u P Q → mGo p l e (rmS (d + 1)) s m args below meth c A Z 7 D (mT cs) (W0 h r cs) 48 [(0, .ref h), (2, .int x2), (3, .int x3), (4, .int x4), (5, .int x5)] [] u := by
    intro x2 x3 x4 x5 u hw H locs ls hI hl
    unfold wp_X0_run_p48 at hw
    refine lv_iload S.1 S.2.1 dX0_run_48 (lv_at hl 4 rfl) ?_
    refine m_si (As := [.int x5]) (rest := []) S hI.2.2.2.1.2.1 (c_X0_isKind l x5 _ hw) (va_cwS 1 S.2.2.2.2 gX0_run_X0_isKind rfl rfl rfl (by decide +kernel) ⟨by simp only [rmS]; omega, by simp only [rmS]; omega⟩) rfl hl.1 rfl (Nat.le_of_ble_eq_true rfl) dX0_run_50 ⟨Nat.zero_le _, Nat.zero_le _⟩ (fun y50 hw => ?_)
    refine lv_if_eq (tgt := 63) S.1 S.2.1 dX0_run_53 (by decide) (fun c53 => ?_) (fun c53 => ?_)
    · have hw := hw.1 c53
      exact b63 u hw H locs ls hI (lv_sub hl [0] rfl)
    · have hw := hw.2 c53
      refine lv_iload S.1 S.2.1 dX0_run_56 (lv_at hl 3 rfl) ?_
      refine lv_bipush (v := 24) S.1 S.2.1 dX0_run_58 (by decide) ?_
      refine lv_icmp_lt (tgt := 65) S.1 S.2.1 dX0_run_60 (by decide) (fun c60 => ?_) (fun c60 => ?_)
      · have hw := hw.1 c60
        refine m_gets S hI hI.2.2.2.1.2.2.2.2.2 (List.mem_of_getElem? (i := 1) rfl) dX0_run_65 (fun t65 ht65 => ?_)
        refine lv_iload S.1 S.2.1 dX0_run_68 (lv_at hl 4 rfl) ?_
        refine lv_iconst (v := 4) S.1 S.2.1 dX0_run_70 (by decide) ?_
        refine lv_imul S.1 S.2.1 dX0_run_71 ?_
        refine lv_topi (fun y71 ey71 => ?_)
        have hw := hw y71 ey71
        refine lv_iload_n S.1 S.2.1 dX0_run_72 rfl (lv_at hl 1 rfl) ?_
        refine lv_iadd S.1 S.2.1 dX0_run_73 ?_
        refine lv_topi (fun y73 ey73 => ?_)
        have hw := hw y73 ey73
        refine m_ti S hI ht65 hw.1 dX0_run_74 ?_
        refine lv_topi (fun y74 ey74 => ?_)
        have hw := hw.2 y74 ey74
        refine lv_istore (lv' := [(6, .int y74), (0, .ref h), (2, .int x2), (3, .int x3), (4, .int x4), (5, .int x5)]) S.1 S.2.1 dX0_run_75 hl (by decide) rfl (fun ls hl => ?_)
        refine lv_aload_n S.1 S.2.1 dX0_run_77 rfl (lv_at hl 1 rfl) ?_
        refine lv_iload S.1 S.2.1 dX0_run_78 (lv_at hl 0 rfl) ?_
        refine m_vv (As := [.int y74]) (rest := []) S (W0_self h r cs) hI rfl (c_X0_note l D h r cs y74 u _ hw) (cwV 1 S.2.2.2.2 gX0_run_X0_note rfl rfl rfl (by decide +kernel) ⟨by simp only [rmS]; omega, by simp only [rmS]; omega⟩) (W0_at0 h r cs u) rfl rfl hl.1 rfl (Nat.le_of_ble_eq_true rfl) dX0_run_80 ⟨Nat.zero_le _, Nat.zero_le _⟩ (fun u80 H locs hw hI => ?_)
        refine lv_aload_n S.1 S.2.1 dX0_run_83 rfl (lv_at hl 1 rfl) ?_
        refine lv_iload S.1 S.2.1 dX0_run_84 (lv_at hl 0 rfl) ?_
        refine m_gets S hI hI.2.2.2.1.2.2.2.2.1 (List.mem_of_getElem? (i := 2) rfl) dX0_run_86 (fun t86 ht86 => ?_)
        refine lv_iload S.1 S.2.1 dX0_run_89 (lv_at hl 5 rfl) ?_
        refine m_ti S hI ht86 hw.1 dX0_run_91 ?_
        refine lv_topi (fun y91 ey91 => ?_)
        have hw := hw.2 y91 ey91
        refine lv_iload_n S.1 S.2.1 dX0_run_92 rfl (lv_at hl 3 rfl) ?_
        refine lv_iload S.1 S.2.1 dX0_run_93 (lv_at hl 4 rfl) ?_
        refine lv_iconst (v := 1) S.1 S.2.1 dX0_run_95 (by decide) ?_
        refine lv_iadd S.1 S.2.1 dX0_run_96 ?_
        refine lv_topi (fun y96 ey96 => ?_)
        have hw := hw y96 ey96
        refine m_vi (As := [.int y74, .int y91, .int x3, .int y96]) (rest := []) S (W0_self h r cs) hI rfl (hP1 y74 y91 x3 y96 u80 _ hw) (cwV 4 S.2.2.2.2 gX0_run_X0_result rfl rfl rfl (by decide +kernel) ⟨by simp only [rmS]; omega, by simp only [rmS]; omega⟩) (W0_at0 h r cs u80) rfl rfl hl.1 rfl (Nat.le_of_ble_eq_true rfl) dX0_run_97 ⟨Nat.zero_le _, Nat.zero_le _⟩ (fun y97 u97 H locs hw hI => ?_)
        subst hZ
        exact m_iret S hr hlocks hI hw dX0_run_100
      · have hw := hw.2 c60
        exact b63 u hw H locs ls hI (lv_sub hl [0] rfl)
  have b6b : ∀ (B6 : Int32 → Int32 → Int32 → Int32 → Int32 → ST → Prop), (∀ (x2 : Int32) (x3 : Int32) (x4 : Int32) (x5 : Int32) (x6 : Int32) (u : ST), B6 x2 x3 x4 x5 x6 u → mGo p l e (rmS (d + 1)) s m args below meth c A Z 7 D (mT cs) (W0 h r cs) 6 [(0, .ref h), (2, .int x2), (3, .int x3), (4, .int x4), (5, .int x5), (6, .int x6)] [] u) → ∀ (x2 : Int32) (x3 : Int32) (x4 : Int32) (x5 : Int32) (x6 : Int32) (u : ST), wp_X0_run_p6b x2 x3 x4 x5 x6 u B6 P Q → mGo p l e (rmS (d + 1)) s m args below meth c A Z 7 D (mT cs) (W0 h r cs) 6 [(0, .ref h), (2, .int x2), (3, .int x3), (4, .int x4), (5, .int x5), (6, .int x6)] [] u := by
    intro B6 hB6 x2 x3 x4 x5 x6 u hw H locs ls hI hl
    unfold wp_X0_run_p6b at hw
    refine lv_iload S.1 S.2.1 dX0_run_6 (lv_at hl 5 rfl) ?_
    refine lv_bipush (v := 8) S.1 S.2.1 dX0_run_8 (by decide) ?_
    refine lv_icmp_ge (tgt := 48) S.1 S.2.1 dX0_run_10 (by decide) (fun c10 => ?_) (fun c10 => ?_)
    · have hw := hw.1 c10
      exact b48 x2 x3 x4 x5 u hw H locs ls hI (lv_sub hl [0, 1, 2, 3, 4] rfl)
    · have hw := hw.2 c10
      refine lv_iload S.1 S.2.1 dX0_run_13 (lv_at hl 4 rfl) ?_
      refine m_si (As := [.int x5]) (rest := []) S hI.2.2.2.1.2.1 (c_X0_isKind l x5 _ hw) (va_cwS 1 S.2.2.2.2 gX0_run_X0_isKind rfl rfl rfl (by decide +kernel) ⟨by simp only [rmS]; omega, by simp only [rmS]; omega⟩) rfl hl.1 rfl (Nat.le_of_ble_eq_true rfl) dX0_run_15 ⟨Nat.zero_le _, Nat.zero_le _⟩ (fun y15 hw => ?_)
      refine lv_if_eq (tgt := 48) S.1 S.2.1 dX0_run_18 (by decide) (fun c18 => ?_) (fun c18 => ?_)
      · have hw := hw.1 c18
        exact b48 x2 x3 x4 x5 u hw H locs ls hI (lv_sub hl [0, 1, 2, 3, 4] rfl)
      · have hw := hw.2 c18
        refine m_gets S hI hI.2.2.2.1.2.2.2.2.2 (List.mem_of_getElem? (i := 1) rfl) dX0_run_21 (fun t21 ht21 => ?_)
        refine lv_iload S.1 S.2.1 dX0_run_24 (lv_at hl 4 rfl) ?_
        refine lv_iconst (v := 4) S.1 S.2.1 dX0_run_26 (by decide) ?_
        refine lv_imul S.1 S.2.1 dX0_run_27 ?_
        refine lv_topi (fun y27 ey27 => ?_)
        have hw := hw y27 ey27
        refine lv_iload_n S.1 S.2.1 dX0_run_28 rfl (lv_at hl 1 rfl) ?_
        refine lv_iadd S.1 S.2.1 dX0_run_29 ?_
        refine lv_topi (fun y29 ey29 => ?_)
        have hw := hw y29 ey29
        refine m_ti S hI ht21 hw.1 dX0_run_30 ?_
        refine lv_topi (fun y30 ey30 => ?_)
        have hw := hw.2 y30 ey30
        refine lv_if_ne (tgt := 48) S.1 S.2.1 dX0_run_31 (by decide) (fun c31 => ?_) (fun c31 => ?_)
        · have hw := hw.1 c31
          exact b48 x2 x3 x4 x5 u hw H locs ls hI (lv_sub hl [0, 1, 2, 3, 4] rfl)
        · have hw := hw.2 c31
          refine m_gets S hI hI.2.2.2.1.2.2.2.2.1 (List.mem_of_getElem? (i := 2) rfl) dX0_run_34 (fun t34 ht34 => ?_)
          refine lv_iload S.1 S.2.1 dX0_run_37 (lv_at hl 4 rfl) ?_
          refine m_ti S hI ht34 hw.1 dX0_run_39 ?_
          refine lv_topi (fun y39 ey39 => ?_)
          have hw := hw.2 y39 ey39
          refine lv_istore (lv' := [(5, .int y39), (0, .ref h), (2, .int x2), (3, .int x3), (4, .int x4), (6, .int x6)]) S.1 S.2.1 dX0_run_40 hl (by decide) rfl (fun ls hl => ?_)
          obtain ⟨y42, ey42⟩ : ∃ z : Int32, z = x6 + 1 := ⟨_, rfl⟩
          have hw := hw y42 ey42
          refine lv_iinc (v := y42) (lv' := [(6, .int y42), (5, .int y39), (0, .ref h), (2, .int x2), (3, .int x3), (4, .int x4)]) S.1 S.2.1 dX0_run_42 hl (k := 5) rfl (by rw [ey42]; rfl) (by decide) rfl (fun ls hl => ?_)
          refine lv_goto (tgt := 6) S.1 S.2.1 dX0_run_45 (by decide) ?_
          exact hB6 x2 x3 x4 y39 y42 u hw H locs ls hI (lv_sub hl [2, 3, 4, 5, 1, 0] rfl)
  have b6 : ∀ (x2 : Int32) (x3 : Int32) (x4 : Int32) (x5 : Int32) (x6 : Int32) (u : ST), wp_X0_run_p6 x2 x3 x4 x5 x6 u P Q → mGo p l e (rmS (d + 1)) s m args below meth c A Z 7 D (mT cs) (W0 h r cs) 6 [(0, .ref h), (2, .int x2), (3, .int x3), (4, .int x4), (5, .int x5), (6, .int x6)] [] u := by
    intro x2 x3 x4 x5 x6 u hw
    obtain ⟨I, μ, h0, hs⟩ := hw
    have key : ∀ (n : Nat) (x2 : Int32) (x3 : Int32) (x4 : Int32) (x5 : Int32) (x6 : Int32) (u : ST), μ x2 x3 x4 x5 x6 u = n → I x2 x3 x4 x5 x6 u → mGo p l e (rmS (d + 1)) s m args below meth c A Z 7 D (mT cs) (W0 h r cs) 6 [(0, .ref h), (2, .int x2), (3, .int x3), (4, .int x4), (5, .int x5), (6, .int x6)] [] u := by
      intro n
      induction n using Nat.strongRecOn with
      | ind n ih =>
        intro x2 x3 x4 x5 x6 u hn hi
        exact b6b (fun yx2 yx3 yx4 yx5 yx6 yu => I yx2 yx3 yx4 yx5 yx6 yu ∧ μ yx2 yx3 yx4 yx5 yx6 yu < μ x2 x3 x4 x5 x6 u) (fun yx2 yx3 yx4 yx5 yx6 yu hb => ih _ (hn ▸ hb.2) yx2 yx3 yx4 yx5 yx6 yu rfl hb.1) x2 x3 x4 x5 x6 u (hs x2 x3 x4 x5 x6 u hi)
    exact key _ x2 x3 x4 x5 x6 u rfl h0
  unfold wp_X0_run at hw
  obtain ⟨H, hH⟩ : ∃ z : Heap, z = s.heap := ⟨_, rfl⟩
  obtain ⟨locs, hL⟩ : ∃ z : List Loc, z = [] := ⟨_, rfl⟩
  rw [show W p l e (rmS (d + 1)) s m args below meth c s.heap [] 0 0 Z (F0 m 0 ls []) = W p l e (rmS (d + 1)) s m args below meth c H locs 0 0 Z (F0 m 0 ls []) by rw [hH, hL]]
  replace hI : mI D (mT cs) A s.heap s (W0 h r cs u) H locs := by rw [hH, hL]; exact hI
  refine lv_iload_n S.1 S.2.1 dX0_run_0 rfl (lv_at hl 1 rfl) ?_
  refine lv_istore (lv' := [(5, .int a1), (0, .ref h), (1, .int a1), (2, .int a2), (3, .int a3), (4, .int a4)]) S.1 S.2.1 dX0_run_1 hl (by decide) rfl (fun ls hl => ?_)
  refine lv_iconst (v := 0) S.1 S.2.1 dX0_run_3 (by decide) ?_
  refine lv_istore (lv' := [(6, .int (0 : Int32)), (5, .int a1), (0, .ref h), (1, .int a1), (2, .int a2), (3, .int a3), (4, .int a4)]) S.1 S.2.1 dX0_run_4 hl (by decide) rfl (fun ls hl => ?_)
  exact b6 a2 a3 a4 a1 (0 : Int32) u hw H locs ls hI (lv_sub hl [2, 4, 5, 6, 1, 0] rfl)

def wpR0 : Nat → Nat → Int32 → Int32 → Int32 → Int32 → ST → (Int32 → ST → Prop) → Prop
  | 0, _, _, _, _, _, _, _ => False
  | d + 1, k, b0, b1, b2, b3, u, Q => match k with
    | 0 => wp_X0_run b0 b1 b2 b3 u (wpR0 d) Q
    | _ => wp_X0_result b0 b1 b2 b3 u (wpR0 d) Q
set_option maxHeartbeats 4000000 in
theorem c_run0 (l : Launch) (D : va_G) (h : Nat) (r : Nat → Nat) (cs : Nat → ClassId) : ∀ d : Nat, (∀ (a1 : Int32) (a2 : Int32) (a3 : Int32) (a4 : Int32) (u : ST) (Q : Int32 → ST → Prop), wpR0 d 0 a1 a2 a3 a4 u Q → mCi l yX0_run wsX0_run (rmS d) 0 0 D (mT cs) (W0 h r cs) [.ref h, .int a1, .int a2, .int a3, .int a4] u Q) ∧ (∀ (a1 : Int32) (a2 : Int32) (a3 : Int32) (a4 : Int32) (u : ST) (Q : Int32 → ST → Prop), wpR0 d 1 a1 a2 a3 a4 u Q → mCi l yX0_result wsX0_result (rmS d) 0 0 D (mT cs) (W0 h r cs) [.ref h, .int a1, .int a2, .int a3, .int a4] u Q) := by
  intro d
  induction d with
  | zero => exact ⟨fun _ _ _ _ _ _ hw => False.elim hw, fun _ _ _ _ _ _ hw => False.elim hw⟩
  | succ d ih =>
    obtain ⟨i0, i1⟩ := ih
    exact ⟨fun a1 a2 a3 a4 u Q hw => c_X0_run l D h r cs d (wpR0 d) i0 i1 a1 a2 a3 a4 u Q hw, fun a1 a2 a3 a4 u Q hw => c_X0_result l D h r cs d (wpR0 d) i0 i1 a1 a2 a3 a4 u Q hw⟩

def wp_X0_play_p22 (u : ST) (Q : Int32 → ST → Prop) : Prop :=
  Q (0 : Int32) u
def wp_X0_play (a1 : Int32) (a2 : Int32) (a3 : Int32) (u : ST) (Q : Int32 → ST → Prop) : Prop :=
  (∀ u2 : ST, u2 = sI u 3 (0 : Int32) → (wp_X0_has a1 u2 (fun y7 u7 => ((y7 = 0 → wp_X0_play_p22 u7 Q) ∧ (¬ y7 = 0 → (wp_X11_within a2 (0 : Int32) (3 : Int32) (fun y16 => ((¬ y16 = 0 → (∀ u26 : ST, u26 = sI u7 4 a1 → (vp_in a1 50 ∧ ∀ y35 : Int32, y35 = gA u26 0 a1.toNatClampNeg → (∀ u36 : ST, u36 = sI u26 5 y35 → (wpR0 60 0 (gI u36 5) a2 a3 (0 : Int32) u36 (fun y47 u47 => Q y47 u47)))))) ∧ (y16 = 0 → wp_X0_play_p22 u7 Q)))))))))
set_option maxHeartbeats 4000000 in
set_option maxRecDepth 100000 in
theorem c_X0_play (l : Launch) (D : va_G) (h : Nat) (r : Nat → Nat) (cs : Nat → ClassId) (a1 : Int32) (a2 : Int32) (a3 : Int32) (u : ST) (Q : Int32 → ST → Prop) (hw : wp_X0_play a1 a2 a3 u Q) : mCi l yX0_play wsX0_play ({ frames := 64, cells := 0, slots := 0, locals := 1646 } : Room) 0 0 D (mT cs) (W0 h r cs) [.ref h, .int a1, .int a2, .int a3] u Q := by
  unfold mCi
  refine m_enter (QQ := fun A => va_Qi Q (mPos D (mT cs) A (W0 h r cs)) A) (cc := cX0_play) (maxL := 4) (ret := (some .int)) (by decide) rfl (Nat.le_of_ble_eq_true rfl) ?_
  intro p e s m args below meth c A ls S hr hlocks hname hl hI
  have S : CallFix p m c cX0_play 4 s args wsX0_play RX0 := S
  show W p l e ({ frames := 64, cells := 0, slots := 0, locals := 1646 } : Room) s m args below meth c s.heap [] 0 0 (MQ below (va_Qi Q (mPos D (mT cs) A (W0 h r cs)) A) args s 0 0 A) (F0 m 0 ls [])
  generalize hZ : MQ below (va_Qi Q (mPos D (mT cs) A (W0 h r cs)) A) args s 0 0 A = Z
  have hin : ∀ w ∈ wsX00, w ∈ wsX0_play := fun _ h => List.mem_cons_of_mem _ (List.mem_append_right _ h)
  have hl : lv_has ls 4 [(0, .ref h), (1, .int a1), (2, .int a2), (3, .int a3)] := hl
  have b22 : ∀ (u : ST), wp_X0_play_p22 u Q → mGo p l e ({ frames := 64, cells := 0, slots := 0, locals := 1646 } : Room) s m args below meth c A Z 4 D (mT cs) (W0 h r cs) 22 [(0, .ref h)] [] u := by
    intro u hw H locs ls hI hl
    unfold wp_X0_play_p22 at hw
    refine lv_iconst (v := 0) S.1 S.2.1 dX0_play_22 (by decide) ?_
    subst hZ
    exact m_iret S hr hlocks hI hw dX0_play_23
  unfold wp_X0_play at hw
  obtain ⟨H, hH⟩ : ∃ z : Heap, z = s.heap := ⟨_, rfl⟩
  obtain ⟨locs, hL⟩ : ∃ z : List Loc, z = [] := ⟨_, rfl⟩
  rw [show W p l e ({ frames := 64, cells := 0, slots := 0, locals := 1646 } : Room) s m args below meth c s.heap [] 0 0 Z (F0 m 0 ls []) = W p l e ({ frames := 64, cells := 0, slots := 0, locals := 1646 } : Room) s m args below meth c H locs 0 0 Z (F0 m 0 ls []) by rw [hH, hL]]
  replace hI : mI D (mT cs) A s.heap s (W0 h r cs u) H locs := by rw [hH, hL]; exact hI
  refine lv_aload_n S.1 S.2.1 dX0_play_0 rfl (lv_at hl 0 rfl) ?_
  refine lv_iconst (v := 0) S.1 S.2.1 dX0_play_1 (by decide) ?_
  obtain ⟨u2, eu2⟩ : ∃ z : ST, z = sI u 3 (0 : Int32) := ⟨_, rfl⟩
  have hw := hw u2 eu2
  refine m_put S hin tyX0_ok nmX0 hI 0 (W0_at0 h r cs u) rfl 3 (Nat.le_of_ble_eq_true rfl) (List.mem_of_getElem? (i := 1) rfl) rfl rfl rfl rfl (Nat.le_of_ble_eq_true rfl) (W0_sI3 h r cs u u2 (0 : Int32) eu2) dX0_play_2 (fun H locs hI => ?_)
  refine lv_aload_n S.1 S.2.1 dX0_play_5 rfl (lv_at hl 0 rfl) ?_
  refine lv_iload_n S.1 S.2.1 dX0_play_6 rfl (lv_at hl 1 rfl) ?_
  refine m_vi (As := [.int a1]) (rest := []) S (W0_self h r cs) hI rfl (c_X0_has l D h r cs a1 u2 _ hw) (cwV 1 S.2.2.2.2 gX0_play_X0_has rfl rfl rfl (by decide +kernel) ⟨Nat.le_of_ble_eq_true rfl, Nat.le_of_ble_eq_true rfl⟩) (W0_at0 h r cs u2) rfl rfl hl.1 rfl (Nat.le_of_ble_eq_true rfl) dX0_play_7 ⟨Nat.zero_le _, Nat.zero_le _⟩ (fun y7 u7 H locs hw hI => ?_)
  refine lv_if_eq (tgt := 22) S.1 S.2.1 dX0_play_10 (by decide) (fun c10 => ?_) (fun c10 => ?_)
  · have hw := hw.1 c10
    exact b22 u7 hw H locs ls hI (lv_sub hl [0] rfl)
  · have hw := hw.2 c10
    refine lv_iload_n S.1 S.2.1 dX0_play_13 rfl (lv_at hl 2 rfl) ?_
    refine lv_iconst (v := 0) S.1 S.2.1 dX0_play_14 (by decide) ?_
    refine lv_iconst (v := 3) S.1 S.2.1 dX0_play_15 (by decide) ?_
    refine m_siN (As := [.int a2, .int (0 : Int32), .int (3 : Int32)]) (rest := []) S hI.2.2.2.1.2.1 (c_X11_within l a2 (0 : Int32) (3 : Int32) _ hw) 3 gX0_play_X11_within_n18 rfl rfl rfl nm_X0_18 (List.mem_of_getElem? (i := 12) rfl) (List.mem_of_getElem? (i := 11) rfl) (by decide +kernel) ⟨Nat.le_of_ble_eq_true rfl, Nat.le_of_ble_eq_true rfl⟩ rfl hl.1 rfl (Nat.le_of_ble_eq_true rfl) dX0_play_16 ⟨Nat.zero_le _, Nat.zero_le _⟩ (fun y16 hw => ?_)
    refine lv_if_ne (tgt := 24) S.1 S.2.1 dX0_play_19 (by decide) (fun c19 => ?_) (fun c19 => ?_)
    · have hw := hw.1 c19
      refine lv_aload_n S.1 S.2.1 dX0_play_24 rfl (lv_at hl 0 rfl) ?_
      refine lv_iload_n S.1 S.2.1 dX0_play_25 rfl (lv_at hl 1 rfl) ?_
      obtain ⟨u26, eu26⟩ : ∃ z : ST, z = sI u7 4 a1 := ⟨_, rfl⟩
      have hw := hw u26 eu26
      refine m_put S hin tyX0_ok nmX0 hI 0 (W0_at0 h r cs u7) rfl 4 (Nat.le_of_ble_eq_true rfl) (List.mem_of_getElem? (i := 2) rfl) rfl rfl rfl rfl (Nat.le_of_ble_eq_true rfl) (W0_sI4 h r cs u7 u26 a1 eu26) dX0_play_26 (fun H locs hI => ?_)
      refine lv_aload_n S.1 S.2.1 dX0_play_29 rfl (lv_at hl 0 rfl) ?_
      refine lv_aload_n S.1 S.2.1 dX0_play_30 rfl (lv_at hl 0 rfl) ?_
      refine m_get S hin hI 0 (W0_at0 h r cs u26) rfl 0 (Nat.le_of_ble_eq_true rfl) (List.mem_of_getElem? (i := 3) rfl) rfl (Ff0_at0 r u26) dX0_play_31 ?_
      refine lv_iload_n S.1 S.2.1 dX0_play_34 rfl (lv_at hl 1 rfl) ?_
      refine m_iald S hI 1 0 (W0_at1 h r cs u26) rfl hw.1 dX0_play_35 ?_
      refine lv_topi (fun y35 ey35 => ?_)
      have hw := hw.2 y35 ey35
      obtain ⟨u36, eu36⟩ : ∃ z : ST, z = sI u26 5 y35 := ⟨_, rfl⟩
      have hw := hw u36 eu36
      refine m_put S hin tyX0_ok nmX0 hI 0 (W0_at0 h r cs u26) rfl 5 (Nat.le_of_ble_eq_true rfl) (List.mem_of_getElem? (i := 4) rfl) rfl rfl rfl rfl (Nat.le_of_ble_eq_true rfl) (W0_sI5 h r cs u26 u36 y35 eu36) dX0_play_36 (fun H locs hI => ?_)
      refine lv_aload_n S.1 S.2.1 dX0_play_39 rfl (lv_at hl 0 rfl) ?_
      refine lv_aload_n S.1 S.2.1 dX0_play_40 rfl (lv_at hl 0 rfl) ?_
      refine m_get S hin hI 0 (W0_at0 h r cs u36) rfl 5 (Nat.le_of_ble_eq_true rfl) (List.mem_of_getElem? (i := 4) rfl) rfl (Ff0_at5 r u36) dX0_play_41 ?_
      refine lv_iload_n S.1 S.2.1 dX0_play_44 rfl (lv_at hl 2 rfl) ?_
      refine lv_iload_n S.1 S.2.1 dX0_play_45 rfl (lv_at hl 3 rfl) ?_
      refine lv_iconst (v := 0) S.1 S.2.1 dX0_play_46 (by decide) ?_
      refine m_vi (As := [.int (gI u36 5), .int a2, .int a3, .int (0 : Int32)]) (rest := []) S (W0_self h r cs) hI rfl ((c_run0 l D h r cs 60).1 (gI u36 5) a2 a3 (0 : Int32) u36 _ hw) (cwV 4 S.2.2.2.2 gX0_play_X0_run rfl rfl rfl (by decide +kernel) ⟨Nat.le_of_ble_eq_true rfl, Nat.le_of_ble_eq_true rfl⟩) (W0_at0 h r cs u36) rfl rfl hl.1 rfl (Nat.le_of_ble_eq_true rfl) dX0_play_47 ⟨Nat.zero_le _, Nat.zero_le _⟩ (fun y47 u47 H locs hw hI => ?_)
      subst hZ
      exact m_iret S hr hlocks hI hw dX0_play_50
    · have hw := hw.2 c19
      exact b22 u7 hw H locs ls hI (lv_sub hl [0] rfl)

def wp_J7_fill_d0a16_p6b (x1 : Int64) (x3 : Int32) (x4 : Int32) (u : ST) (B6 : Int64 → Int32 → Int32 → ST → Prop) (Q : ST → Prop) : Prop :=
  ((x4 ≤ x3 → Q u) ∧ (¬ x4 ≤ x3 → (vp_in x3 60 ∧ ∀ u15 : ST, u15 = sJ u 0 (vp_updL (gJ u 0) x3.toNatClampNeg x1) → (∀ y16 : Int32, y16 = x3 + 1 → B6 x1 y16 x4 u15))))
def wp_J7_fill_d0a16_p6 (x1 : Int64) (x3 : Int32) (x4 : Int32) (u : ST) (Q : ST → Prop) : Prop := ∃ (I : Int64 → Int32 → Int32 → ST → Prop) (μ : Int64 → Int32 → Int32 → ST → Nat), I x1 x3 x4 u ∧ ∀ (x1 : Int64) (x3 : Int32) (x4 : Int32) (u : ST), I x1 x3 x4 u → wp_J7_fill_d0a16_p6b x1 x3 x4 u (fun yx1 yx3 yx4 yu => I yx1 yx3 yx4 yu ∧ μ yx1 yx3 yx4 yu < μ x1 x3 x4 u) Q
def wp_J7_fill_d0a16 (a1 : Int64) (u : ST) (Q : ST → Prop) : Prop :=
  wp_J7_fill_d0a16_p6 a1 (0 : Int32) (60 : Int32) u Q
set_option maxHeartbeats 4000000 in
set_option maxRecDepth 100000 in
theorem c_J7_fill_d0a16 (l : Launch) (D : va_G) (a : Nat) (cs : Nat → ClassId) (a1 : Int64) (u : ST) (Q : ST → Prop) (hw : wp_J7_fill_d0a16 a1 u Q) : mCv l yJ7_fill_d0a16 wsJ7_fill_d0a16 ({ frames := 0, cells := 0, slots := 0, locals := 0 } : Room) 0 0 D (mT cs) (WJ a cs) [.ref a, .long a1] u Q := by
  unfold mCv
  refine m_enter (QQ := fun A => va_Qv Q (mPos D (mT cs) A (WJ a cs)) A) (cc := cJ7_fill_d0a16) (maxL := 5) (ret := none) (by decide) rfl (Nat.le_of_ble_eq_true rfl) ?_
  intro p e s m args below meth c A ls S hr hlocks hname hl hI
  have S : CallFix p m c cJ7_fill_d0a16 5 s args wsJ7_fill_d0a16 RJ7 := S
  show W p l e ({ frames := 0, cells := 0, slots := 0, locals := 0 } : Room) s m args below meth c s.heap [] 0 0 (MQ below (va_Qv Q (mPos D (mT cs) A (WJ a cs)) A) args s 0 0 A) (F0 m 0 ls [])
  generalize hZ : MQ below (va_Qv Q (mPos D (mT cs) A (WJ a cs)) A) args s 0 0 A = Z
  have hl : lv_has ls 5 [(0, .ref a), (1, .long a1)] := hl
  have b6b : ∀ (B6 : Int64 → Int32 → Int32 → ST → Prop), (∀ (x1 : Int64) (x3 : Int32) (x4 : Int32) (u : ST), B6 x1 x3 x4 u → mGo p l e ({ frames := 0, cells := 0, slots := 0, locals := 0 } : Room) s m args below meth c A Z 5 D (mT cs) (WJ a cs) 6 [(0, .ref a), (1, .long x1), (3, .int x3), (4, .int x4)] [] u) → ∀ (x1 : Int64) (x3 : Int32) (x4 : Int32) (u : ST), wp_J7_fill_d0a16_p6b x1 x3 x4 u B6 Q → mGo p l e ({ frames := 0, cells := 0, slots := 0, locals := 0 } : Room) s m args below meth c A Z 5 D (mT cs) (WJ a cs) 6 [(0, .ref a), (1, .long x1), (3, .int x3), (4, .int x4)] [] u := by
    intro B6 hB6 x1 x3 x4 u hw H locs ls hI hl
    unfold wp_J7_fill_d0a16_p6b at hw
    refine lv_iload_n S.1 S.2.1 dJ7_fill_d0a16_6 rfl (lv_at hl 2 rfl) ?_
    refine lv_iload S.1 S.2.1 dJ7_fill_d0a16_7 (lv_at hl 3 rfl) ?_
    refine lv_icmp_ge (tgt := 22) S.1 S.2.1 dJ7_fill_d0a16_9 (by decide) (fun c9 => ?_) (fun c9 => ?_)
    · have hw := hw.1 c9
      subst hZ
      exact m_vret S hr hlocks hI hw dJ7_fill_d0a16_22
    · have hw := hw.2 c9
      refine lv_aload_n S.1 S.2.1 dJ7_fill_d0a16_12 rfl (lv_at hl 0 rfl) ?_
      refine lv_iload_n S.1 S.2.1 dJ7_fill_d0a16_13 rfl (lv_at hl 2 rfl) ?_
      refine lv_lload_n S.1 S.2.1 dJ7_fill_d0a16_14 rfl (lv_at hl 1 rfl) ?_
      obtain ⟨u15, eu15⟩ : ∃ z : ST, z = sJ u 0 (vp_updL (gJ u 0) x3.toNatClampNeg x1) := ⟨_, rfl⟩
      refine m_last S hI 0 3 (WJ_at0 a cs u) rfl hw.1 (WJ_sJ a cs u u15 _ eu15) dJ7_fill_d0a16_15 (fun H locs hI => ?_)
      have hw := hw.2 u15 eu15
      obtain ⟨y16, ey16⟩ : ∃ z : Int32, z = x3 + 1 := ⟨_, rfl⟩
      have hw := hw y16 ey16
      refine lv_iinc (v := y16) (lv' := [(3, .int y16), (0, .ref a), (1, .long x1), (4, .int x4)]) S.1 S.2.1 dJ7_fill_d0a16_16 hl (k := 2) rfl (by rw [ey16]; rfl) (by decide) rfl (fun ls hl => ?_)
      refine lv_goto (tgt := 6) S.1 S.2.1 dJ7_fill_d0a16_19 (by decide) ?_
      exact hB6 x1 y16 x4 u15 hw H locs ls hI (lv_sub hl [1, 2, 0, 3] rfl)
  have b6 : ∀ (x1 : Int64) (x3 : Int32) (x4 : Int32) (u : ST), wp_J7_fill_d0a16_p6 x1 x3 x4 u Q → mGo p l e ({ frames := 0, cells := 0, slots := 0, locals := 0 } : Room) s m args below meth c A Z 5 D (mT cs) (WJ a cs) 6 [(0, .ref a), (1, .long x1), (3, .int x3), (4, .int x4)] [] u := by
    intro x1 x3 x4 u hw
    obtain ⟨I, μ, h0, hs⟩ := hw
    have key : ∀ (n : Nat) (x1 : Int64) (x3 : Int32) (x4 : Int32) (u : ST), μ x1 x3 x4 u = n → I x1 x3 x4 u → mGo p l e ({ frames := 0, cells := 0, slots := 0, locals := 0 } : Room) s m args below meth c A Z 5 D (mT cs) (WJ a cs) 6 [(0, .ref a), (1, .long x1), (3, .int x3), (4, .int x4)] [] u := by
      intro n
      induction n using Nat.strongRecOn with
      | ind n ih =>
        intro x1 x3 x4 u hn hi
        exact b6b (fun yx1 yx3 yx4 yu => I yx1 yx3 yx4 yu ∧ μ yx1 yx3 yx4 yu < μ x1 x3 x4 u) (fun yx1 yx3 yx4 yu hb => ih _ (hn ▸ hb.2) yx1 yx3 yx4 yu rfl hb.1) x1 x3 x4 u (hs x1 x3 x4 u hi)
    exact key _ x1 x3 x4 u rfl h0
  unfold wp_J7_fill_d0a16 at hw
  obtain ⟨H, hH⟩ : ∃ z : Heap, z = s.heap := ⟨_, rfl⟩
  obtain ⟨locs, hL⟩ : ∃ z : List Loc, z = [] := ⟨_, rfl⟩
  rw [show W p l e ({ frames := 0, cells := 0, slots := 0, locals := 0 } : Room) s m args below meth c s.heap [] 0 0 Z (F0 m 0 ls []) = W p l e ({ frames := 0, cells := 0, slots := 0, locals := 0 } : Room) s m args below meth c H locs 0 0 Z (F0 m 0 ls []) by rw [hH, hL]]
  replace hI : mI D (mT cs) A s.heap s (WJ a cs u) H locs := by rw [hH, hL]; exact hI
  refine lv_iconst (v := 0) S.1 S.2.1 dJ7_fill_d0a16_0 (by decide) ?_
  refine lv_istore_n (lv' := [(3, .int (0 : Int32)), (0, .ref a), (1, .long a1)]) S.1 S.2.1 dJ7_fill_d0a16_1 rfl hl (by decide) rfl (fun ls hl => ?_)
  refine lv_aload_n S.1 S.2.1 dJ7_fill_d0a16_2 rfl (lv_at hl 1 rfl) ?_
  refine va_alen S.1 S.2.1 hI.2.2.2.1.1 hI.1 0 3 (WJ_at0 a cs u) rfl (v := 60) (by show Int32.ofNat 60 = 60; decide) dJ7_fill_d0a16_3 ?_
  refine lv_istore (lv' := [(4, .int (60 : Int32)), (3, .int (0 : Int32)), (0, .ref a), (1, .long a1)]) S.1 S.2.1 dJ7_fill_d0a16_4 hl (by decide) rfl (fun ls hl => ?_)
  exact b6 a1 (0 : Int32) (60 : Int32) u hw H locs ls hI (lv_sub hl [2, 3, 1, 0] rfl)

/-- TwoJars$Shelf: what its object holds -/
def Ff6 (r : Nat → Nat) (u : ST) : List Value := [.ref (r 0), .int (gI u 1), .int (gI u 2), .int (gI u 3)]
def W6 (h : Nat) (r : Nat → Nat) (cs : Nat → ClassId) (u : ST) : va_W := [(h, .inr (6, Ff6 r u)), (r 0, .inl (cs 3, 60, .inr (.inl (gJ u 0))))]
theorem W6_at0 (h : Nat) (r : Nat → Nat) (cs : Nat → ClassId) (u : ST) : (W6 h r cs u)[0]? = some (h, .inr (6, Ff6 r u)) := rfl
theorem W6_at1 (h : Nat) (r : Nat → Nat) (cs : Nat → ClassId) (u : ST) : (W6 h r cs u)[1]? = some (r 0, .inl (cs 3, 60, .inr (.inl (gJ u 0)))) := rfl
theorem Ff6_at0 (r : Nat → Nat) (u : ST) : (Ff6 r u)[0]? = some (.ref (r 0)) := rfl
theorem Ff6_at1 (r : Nat → Nat) (u : ST) : (Ff6 r u)[1]? = some (.int (gI u 1)) := rfl
theorem Ff6_at2 (r : Nat → Nat) (u : ST) : (Ff6 r u)[2]? = some (.int (gI u 2)) := rfl
theorem Ff6_at3 (r : Nat → Nat) (u : ST) : (Ff6 r u)[3]? = some (.int (gI u 3)) := rfl
theorem W6_sI1 (h : Nat) (r : Nat → Nat) (cs : Nat → ClassId) (u u9 : ST) (x : Int32) (e : u9 = sI u 1 x) : (W6 h r cs u).set 0 (h, .inr (6, (Ff6 r u).set 1 (.int x))) = W6 h r cs u9 := by subst e; rfl
theorem W6_sI2 (h : Nat) (r : Nat → Nat) (cs : Nat → ClassId) (u u9 : ST) (x : Int32) (e : u9 = sI u 2 x) : (W6 h r cs u).set 0 (h, .inr (6, (Ff6 r u).set 2 (.int x))) = W6 h r cs u9 := by subst e; rfl
theorem W6_sI3 (h : Nat) (r : Nat → Nat) (cs : Nat → ClassId) (u u9 : ST) (x : Int32) (e : u9 = sI u 3 x) : (W6 h r cs u).set 0 (h, .inr (6, (Ff6 r u).set 3 (.int x))) = W6 h r cs u9 := by subst e; rfl
theorem W6_sJ0 (h : Nat) (r : Nat → Nat) (cs : Nat → ClassId) (u u9 : ST) (f : Nat → Int64) (e : u9 = sJ u 0 f) : (W6 h r cs u).set 1 (r 0, .inl (cs 3, 60, .inr (.inl f))) = W6 h r cs u9 := by subst e; rfl
theorem W6_self (h : Nat) (r : Nat → Nat) (cs : Nat → ClassId) : ∀ v, (W6 h r cs v).Perm ([] ++ (W6 h r cs v ++ [])) := fun v => by rw [List.append_nil, List.nil_append]

def wp_X6_isEmpty_p21 (t0 : Int32) (u : ST) (Q : Int32 → ST → Prop) : Prop :=
  (t0 &&& 1 = t0 ∧ Q t0 u)
def wp_X6_isEmpty_p20 (u : ST) (Q : Int32 → ST → Prop) : Prop :=
  wp_X6_isEmpty_p21 (0 : Int32) u Q
def wp_X6_isEmpty (u : ST) (Q : Int32 → ST → Prop) : Prop :=
  ((¬ (gI u 1) = ((-1) : Int32) → wp_X6_isEmpty_p20 u Q) ∧ ((gI u 1) = ((-1) : Int32) → ((¬ (gI u 2) = ((-1) : Int32) → wp_X6_isEmpty_p20 u Q) ∧ ((gI u 2) = ((-1) : Int32) → wp_X6_isEmpty_p21 (1 : Int32) u Q))))
set_option maxHeartbeats 4000000 in
set_option maxRecDepth 100000 in
theorem c_X6_isEmpty (l : Launch) (D : va_G) (h : Nat) (r : Nat → Nat) (cs : Nat → ClassId) (u : ST) (Q : Int32 → ST → Prop) (hw : wp_X6_isEmpty u Q) : mCi l yX6_isEmpty wsX6_isEmpty ({ frames := 0, cells := 0, slots := 0, locals := 0 } : Room) 0 0 D (mT cs) (W6 h r cs) [.ref h] u Q := by
  unfold mCi
  refine m_enter (QQ := fun A => va_Qi Q (mPos D (mT cs) A (W6 h r cs)) A) (cc := cX6_isEmpty) (maxL := 1) (ret := (some .boolean)) (by decide) rfl (Nat.le_of_ble_eq_true rfl) ?_
  intro p e s m args below meth c A ls S hr hlocks hname hl hI
  have S : CallFix p m c cX6_isEmpty 1 s args wsX6_isEmpty RX6 := S
  show W p l e ({ frames := 0, cells := 0, slots := 0, locals := 0 } : Room) s m args below meth c s.heap [] 0 0 (MQ below (va_Qi Q (mPos D (mT cs) A (W6 h r cs)) A) args s 0 0 A) (F0 m 0 ls [])
  generalize hZ : MQ below (va_Qi Q (mPos D (mT cs) A (W6 h r cs)) A) args s 0 0 A = Z
  have hin : ∀ w ∈ wsX60, w ∈ wsX6_isEmpty := fun _ h => List.mem_cons_of_mem _ (List.mem_append_right _ h)
  have hl : lv_has ls 1 [(0, .ref h)] := hl
  have b21 : ∀ (t0 : Int32) (u : ST), wp_X6_isEmpty_p21 t0 u Q → mGo p l e ({ frames := 0, cells := 0, slots := 0, locals := 0 } : Room) s m args below meth c A Z 1 D (mT cs) (W6 h r cs) 21 [(0, .ref h)] [.int t0] u := by
    intro t0 u hw H locs ls hI hl
    unfold wp_X6_isEmpty_p21 at hw
    subst hZ
    exact m_zret S hr hlocks hI hw.1 hw.2 dX6_isEmpty_21
  have b20 : ∀ (u : ST), wp_X6_isEmpty_p20 u Q → mGo p l e ({ frames := 0, cells := 0, slots := 0, locals := 0 } : Room) s m args below meth c A Z 1 D (mT cs) (W6 h r cs) 20 [(0, .ref h)] [] u := by
    intro u hw H locs ls hI hl
    unfold wp_X6_isEmpty_p20 at hw
    refine lv_iconst (v := 0) S.1 S.2.1 dX6_isEmpty_20 (by decide) ?_
    exact b21 (0 : Int32) u hw H locs ls hI (lv_sub hl [0] rfl)
  unfold wp_X6_isEmpty at hw
  obtain ⟨H, hH⟩ : ∃ z : Heap, z = s.heap := ⟨_, rfl⟩
  obtain ⟨locs, hL⟩ : ∃ z : List Loc, z = [] := ⟨_, rfl⟩
  rw [show W p l e ({ frames := 0, cells := 0, slots := 0, locals := 0 } : Room) s m args below meth c s.heap [] 0 0 Z (F0 m 0 ls []) = W p l e ({ frames := 0, cells := 0, slots := 0, locals := 0 } : Room) s m args below meth c H locs 0 0 Z (F0 m 0 ls []) by rw [hH, hL]]
  replace hI : mI D (mT cs) A s.heap s (W6 h r cs u) H locs := by rw [hH, hL]; exact hI
  refine lv_aload_n S.1 S.2.1 dX6_isEmpty_0 rfl (lv_at hl 0 rfl) ?_
  refine m_get S hin hI 0 (W6_at0 h r cs u) rfl 1 (Nat.le_of_ble_eq_true rfl) (List.mem_of_getElem? (i := 1) rfl) rfl (Ff6_at1 r u) dX6_isEmpty_1 ?_
  refine lv_iconst (v := (-1)) S.1 S.2.1 dX6_isEmpty_4 (by decide) ?_
  refine lv_icmp_ne (tgt := 20) S.1 S.2.1 dX6_isEmpty_5 (by decide) (fun c5 => ?_) (fun c5 => ?_)
  · have hw := hw.1 c5
    exact b20 u hw H locs ls hI (lv_sub hl [0] rfl)
  · have hw := hw.2 c5
    refine lv_aload_n S.1 S.2.1 dX6_isEmpty_8 rfl (lv_at hl 0 rfl) ?_
    refine m_get S hin hI 0 (W6_at0 h r cs u) rfl 2 (Nat.le_of_ble_eq_true rfl) (List.mem_of_getElem? (i := 2) rfl) rfl (Ff6_at2 r u) dX6_isEmpty_9 ?_
    refine lv_iconst (v := (-1)) S.1 S.2.1 dX6_isEmpty_12 (by decide) ?_
    refine lv_icmp_ne (tgt := 20) S.1 S.2.1 dX6_isEmpty_13 (by decide) (fun c13 => ?_) (fun c13 => ?_)
    · have hw := hw.1 c13
      exact b20 u hw H locs ls hI (lv_sub hl [0] rfl)
    · have hw := hw.2 c13
      refine lv_iconst (v := 1) S.1 S.2.1 dX6_isEmpty_16 (by decide) ?_
      refine lv_goto (tgt := 21) S.1 S.2.1 dX6_isEmpty_17 (by decide) ?_
      exact b21 (1 : Int32) u hw H locs ls hI (lv_sub hl [0] rfl)

def wp_X6_isRow_p13 (t0 : Int32) (u : ST) (Q : Int32 → ST → Prop) : Prop :=
  (t0 &&& 1 = t0 ∧ Q t0 u)
def wp_X6_isRow (u : ST) (Q : Int32 → ST → Prop) : Prop :=
  (((gI u 2) = ((-1) : Int32) → wp_X6_isRow_p13 (0 : Int32) u Q) ∧ (¬ (gI u 2) = ((-1) : Int32) → wp_X6_isRow_p13 (1 : Int32) u Q))
set_option maxHeartbeats 4000000 in
set_option maxRecDepth 100000 in
theorem c_X6_isRow (l : Launch) (D : va_G) (h : Nat) (r : Nat → Nat) (cs : Nat → ClassId) (u : ST) (Q : Int32 → ST → Prop) (hw : wp_X6_isRow u Q) : mCi l yX6_isRow wsX6_isRow ({ frames := 0, cells := 0, slots := 0, locals := 0 } : Room) 0 0 D (mT cs) (W6 h r cs) [.ref h] u Q := by
  unfold mCi
  refine m_enter (QQ := fun A => va_Qi Q (mPos D (mT cs) A (W6 h r cs)) A) (cc := cX6_isRow) (maxL := 1) (ret := (some .boolean)) (by decide) rfl (Nat.le_of_ble_eq_true rfl) ?_
  intro p e s m args below meth c A ls S hr hlocks hname hl hI
  have S : CallFix p m c cX6_isRow 1 s args wsX6_isRow RX6 := S
  show W p l e ({ frames := 0, cells := 0, slots := 0, locals := 0 } : Room) s m args below meth c s.heap [] 0 0 (MQ below (va_Qi Q (mPos D (mT cs) A (W6 h r cs)) A) args s 0 0 A) (F0 m 0 ls [])
  generalize hZ : MQ below (va_Qi Q (mPos D (mT cs) A (W6 h r cs)) A) args s 0 0 A = Z
  have hin : ∀ w ∈ wsX60, w ∈ wsX6_isRow := fun _ h => List.mem_cons_of_mem _ (List.mem_append_right _ h)
  have hl : lv_has ls 1 [(0, .ref h)] := hl
  have b13 : ∀ (t0 : Int32) (u : ST), wp_X6_isRow_p13 t0 u Q → mGo p l e ({ frames := 0, cells := 0, slots := 0, locals := 0 } : Room) s m args below meth c A Z 1 D (mT cs) (W6 h r cs) 13 [(0, .ref h)] [.int t0] u := by
    intro t0 u hw H locs ls hI hl
    unfold wp_X6_isRow_p13 at hw
    subst hZ
    exact m_zret S hr hlocks hI hw.1 hw.2 dX6_isRow_13
  unfold wp_X6_isRow at hw
  obtain ⟨H, hH⟩ : ∃ z : Heap, z = s.heap := ⟨_, rfl⟩
  obtain ⟨locs, hL⟩ : ∃ z : List Loc, z = [] := ⟨_, rfl⟩
  rw [show W p l e ({ frames := 0, cells := 0, slots := 0, locals := 0 } : Room) s m args below meth c s.heap [] 0 0 Z (F0 m 0 ls []) = W p l e ({ frames := 0, cells := 0, slots := 0, locals := 0 } : Room) s m args below meth c H locs 0 0 Z (F0 m 0 ls []) by rw [hH, hL]]
  replace hI : mI D (mT cs) A s.heap s (W6 h r cs u) H locs := by rw [hH, hL]; exact hI
  refine lv_aload_n S.1 S.2.1 dX6_isRow_0 rfl (lv_at hl 0 rfl) ?_
  refine m_get S hin hI 0 (W6_at0 h r cs u) rfl 2 (Nat.le_of_ble_eq_true rfl) (List.mem_of_getElem? (i := 1) rfl) rfl (Ff6_at2 r u) dX6_isRow_1 ?_
  refine lv_iconst (v := (-1)) S.1 S.2.1 dX6_isRow_4 (by decide) ?_
  refine lv_icmp_eq (tgt := 12) S.1 S.2.1 dX6_isRow_5 (by decide) (fun c5 => ?_) (fun c5 => ?_)
  · have hw := hw.1 c5
    refine lv_iconst (v := 0) S.1 S.2.1 dX6_isRow_12 (by decide) ?_
    exact b13 (0 : Int32) u hw H locs ls hI (lv_sub hl [0] rfl)
  · have hw := hw.2 c5
    refine lv_iconst (v := 1) S.1 S.2.1 dX6_isRow_8 (by decide) ?_
    refine lv_goto (tgt := 13) S.1 S.2.1 dX6_isRow_9 (by decide) ?_
    exact b13 (1 : Int32) u hw H locs ls hI (lv_sub hl [0] rfl)

def wp_X6_holdBody (a1 : Int32) (u : ST) (Q : ST → Prop) : Prop :=
  (∀ u2 : ST, u2 = sI u 1 a1 → (∀ u7 : ST, u7 = sI u2 2 ((-1) : Int32) → (∀ u12 : ST, u12 = sI u7 3 (0 : Int32) → Q u12)))
set_option maxHeartbeats 4000000 in
set_option maxRecDepth 100000 in
theorem c_X6_holdBody (l : Launch) (D : va_G) (h : Nat) (r : Nat → Nat) (cs : Nat → ClassId) (a1 : Int32) (u : ST) (Q : ST → Prop) (hw : wp_X6_holdBody a1 u Q) : mCv l yX6_holdBody wsX6_holdBody ({ frames := 0, cells := 0, slots := 0, locals := 0 } : Room) 0 0 D (mT cs) (W6 h r cs) [.ref h, .int a1] u Q := by
  unfold mCv
  refine m_enter (QQ := fun A => va_Qv Q (mPos D (mT cs) A (W6 h r cs)) A) (cc := cX6_holdBody) (maxL := 2) (ret := none) (by decide) rfl (Nat.le_of_ble_eq_true rfl) ?_
  intro p e s m args below meth c A ls S hr hlocks hname hl hI
  have S : CallFix p m c cX6_holdBody 2 s args wsX6_holdBody RX6 := S
  show W p l e ({ frames := 0, cells := 0, slots := 0, locals := 0 } : Room) s m args below meth c s.heap [] 0 0 (MQ below (va_Qv Q (mPos D (mT cs) A (W6 h r cs)) A) args s 0 0 A) (F0 m 0 ls [])
  generalize hZ : MQ below (va_Qv Q (mPos D (mT cs) A (W6 h r cs)) A) args s 0 0 A = Z
  have hin : ∀ w ∈ wsX60, w ∈ wsX6_holdBody := fun _ h => List.mem_cons_of_mem _ (List.mem_append_right _ h)
  have hl : lv_has ls 2 [(0, .ref h), (1, .int a1)] := hl
  unfold wp_X6_holdBody at hw
  obtain ⟨H, hH⟩ : ∃ z : Heap, z = s.heap := ⟨_, rfl⟩
  obtain ⟨locs, hL⟩ : ∃ z : List Loc, z = [] := ⟨_, rfl⟩
  rw [show W p l e ({ frames := 0, cells := 0, slots := 0, locals := 0 } : Room) s m args below meth c s.heap [] 0 0 Z (F0 m 0 ls []) = W p l e ({ frames := 0, cells := 0, slots := 0, locals := 0 } : Room) s m args below meth c H locs 0 0 Z (F0 m 0 ls []) by rw [hH, hL]]
  replace hI : mI D (mT cs) A s.heap s (W6 h r cs u) H locs := by rw [hH, hL]; exact hI
  refine lv_aload_n S.1 S.2.1 dX6_holdBody_0 rfl (lv_at hl 0 rfl) ?_
  refine lv_iload_n S.1 S.2.1 dX6_holdBody_1 rfl (lv_at hl 1 rfl) ?_
  obtain ⟨u2, eu2⟩ : ∃ z : ST, z = sI u 1 a1 := ⟨_, rfl⟩
  have hw := hw u2 eu2
  refine m_put S hin tyX6_ok nmX6 hI 0 (W6_at0 h r cs u) rfl 1 (Nat.le_of_ble_eq_true rfl) (List.mem_of_getElem? (i := 1) rfl) rfl rfl rfl rfl (Nat.le_of_ble_eq_true rfl) (W6_sI1 h r cs u u2 a1 eu2) dX6_holdBody_2 (fun H locs hI => ?_)
  refine lv_aload_n S.1 S.2.1 dX6_holdBody_5 rfl (lv_at hl 0 rfl) ?_
  refine lv_iconst (v := (-1)) S.1 S.2.1 dX6_holdBody_6 (by decide) ?_
  obtain ⟨u7, eu7⟩ : ∃ z : ST, z = sI u2 2 ((-1) : Int32) := ⟨_, rfl⟩
  have hw := hw u7 eu7
  refine m_put S hin tyX6_ok nmX6 hI 0 (W6_at0 h r cs u2) rfl 2 (Nat.le_of_ble_eq_true rfl) (List.mem_of_getElem? (i := 2) rfl) rfl rfl rfl rfl (Nat.le_of_ble_eq_true rfl) (W6_sI2 h r cs u2 u7 ((-1) : Int32) eu7) dX6_holdBody_7 (fun H locs hI => ?_)
  refine lv_aload_n S.1 S.2.1 dX6_holdBody_10 rfl (lv_at hl 0 rfl) ?_
  refine lv_iconst (v := 0) S.1 S.2.1 dX6_holdBody_11 (by decide) ?_
  obtain ⟨u12, eu12⟩ : ∃ z : ST, z = sI u7 3 (0 : Int32) := ⟨_, rfl⟩
  have hw := hw u12 eu12
  refine m_put S hin tyX6_ok nmX6 hI 0 (W6_at0 h r cs u7) rfl 3 (Nat.le_of_ble_eq_true rfl) (List.mem_of_getElem? (i := 3) rfl) rfl rfl rfl rfl (Nat.le_of_ble_eq_true rfl) (W6_sI3 h r cs u7 u12 (0 : Int32) eu12) dX6_holdBody_12 (fun H locs hI => ?_)
  subst hZ
  exact m_vret S hr hlocks hI hw dX6_holdBody_15

def wp_X6_holdRow (a1 : Int32) (a2 : Int32) (u : ST) (Q : ST → Prop) : Prop :=
  (∀ u2 : ST, u2 = sI u 1 ((-1) : Int32) → (∀ u7 : ST, u7 = sI u2 2 a1 → (∀ u12 : ST, u12 = sI u7 3 a2 → (wp_J7_fill_d0a16 (0 : Int64) u12 (fun v20 => ∀ u20 : ST, u20 = sJ u12 0 (gJ v20 0) → Q u20)))))
set_option maxHeartbeats 4000000 in
set_option maxRecDepth 100000 in
theorem c_X6_holdRow (l : Launch) (D : va_G) (h : Nat) (r : Nat → Nat) (cs : Nat → ClassId) (a1 : Int32) (a2 : Int32) (u : ST) (Q : ST → Prop) (hw : wp_X6_holdRow a1 a2 u Q) : mCv l yX6_holdRow wsX6_holdRow ({ frames := 1, cells := 0, slots := 0, locals := 24 } : Room) 0 0 D (mT cs) (W6 h r cs) [.ref h, .int a1, .int a2] u Q := by
  unfold mCv
  refine m_enter (QQ := fun A => va_Qv Q (mPos D (mT cs) A (W6 h r cs)) A) (cc := cX6_holdRow) (maxL := 3) (ret := none) (by decide) rfl (Nat.le_of_ble_eq_true rfl) ?_
  intro p e s m args below meth c A ls S hr hlocks hname hl hI
  have S : CallFix p m c cX6_holdRow 3 s args wsX6_holdRow RX6 := S
  show W p l e ({ frames := 1, cells := 0, slots := 0, locals := 24 } : Room) s m args below meth c s.heap [] 0 0 (MQ below (va_Qv Q (mPos D (mT cs) A (W6 h r cs)) A) args s 0 0 A) (F0 m 0 ls [])
  generalize hZ : MQ below (va_Qv Q (mPos D (mT cs) A (W6 h r cs)) A) args s 0 0 A = Z
  have hin : ∀ w ∈ wsX60, w ∈ wsX6_holdRow := fun _ h => List.mem_cons_of_mem _ (List.mem_append_right _ h)
  have hl : lv_has ls 3 [(0, .ref h), (1, .int a1), (2, .int a2)] := hl
  unfold wp_X6_holdRow at hw
  obtain ⟨H, hH⟩ : ∃ z : Heap, z = s.heap := ⟨_, rfl⟩
  obtain ⟨locs, hL⟩ : ∃ z : List Loc, z = [] := ⟨_, rfl⟩
  rw [show W p l e ({ frames := 1, cells := 0, slots := 0, locals := 24 } : Room) s m args below meth c s.heap [] 0 0 Z (F0 m 0 ls []) = W p l e ({ frames := 1, cells := 0, slots := 0, locals := 24 } : Room) s m args below meth c H locs 0 0 Z (F0 m 0 ls []) by rw [hH, hL]]
  replace hI : mI D (mT cs) A s.heap s (W6 h r cs u) H locs := by rw [hH, hL]; exact hI
  refine lv_aload_n S.1 S.2.1 dX6_holdRow_0 rfl (lv_at hl 0 rfl) ?_
  refine lv_iconst (v := (-1)) S.1 S.2.1 dX6_holdRow_1 (by decide) ?_
  obtain ⟨u2, eu2⟩ : ∃ z : ST, z = sI u 1 ((-1) : Int32) := ⟨_, rfl⟩
  have hw := hw u2 eu2
  refine m_put S hin tyX6_ok nmX6 hI 0 (W6_at0 h r cs u) rfl 1 (Nat.le_of_ble_eq_true rfl) (List.mem_of_getElem? (i := 1) rfl) rfl rfl rfl rfl (Nat.le_of_ble_eq_true rfl) (W6_sI1 h r cs u u2 ((-1) : Int32) eu2) dX6_holdRow_2 (fun H locs hI => ?_)
  refine lv_aload_n S.1 S.2.1 dX6_holdRow_5 rfl (lv_at hl 0 rfl) ?_
  refine lv_iload_n S.1 S.2.1 dX6_holdRow_6 rfl (lv_at hl 1 rfl) ?_
  obtain ⟨u7, eu7⟩ : ∃ z : ST, z = sI u2 2 a1 := ⟨_, rfl⟩
  have hw := hw u7 eu7
  refine m_put S hin tyX6_ok nmX6 hI 0 (W6_at0 h r cs u2) rfl 2 (Nat.le_of_ble_eq_true rfl) (List.mem_of_getElem? (i := 2) rfl) rfl rfl rfl rfl (Nat.le_of_ble_eq_true rfl) (W6_sI2 h r cs u2 u7 a1 eu7) dX6_holdRow_7 (fun H locs hI => ?_)
  refine lv_aload_n S.1 S.2.1 dX6_holdRow_10 rfl (lv_at hl 0 rfl) ?_
  refine lv_iload_n S.1 S.2.1 dX6_holdRow_11 rfl (lv_at hl 2 rfl) ?_
  obtain ⟨u12, eu12⟩ : ∃ z : ST, z = sI u7 3 a2 := ⟨_, rfl⟩
  have hw := hw u12 eu12
  refine m_put S hin tyX6_ok nmX6 hI 0 (W6_at0 h r cs u7) rfl 3 (Nat.le_of_ble_eq_true rfl) (List.mem_of_getElem? (i := 3) rfl) rfl rfl rfl rfl (Nat.le_of_ble_eq_true rfl) (W6_sI3 h r cs u7 u12 a2 eu12) dX6_holdRow_12 (fun H locs hI => ?_)
  refine lv_aload_n S.1 S.2.1 dX6_holdRow_15 rfl (lv_at hl 0 rfl) ?_
  refine m_get S hin hI 0 (W6_at0 h r cs u12) rfl 0 (Nat.le_of_ble_eq_true rfl) (List.mem_of_getElem? (i := 4) rfl) rfl (Ff6_at0 r u12) dX6_holdRow_16 ?_
  refine lv_lconst (v := 0) S.1 S.2.1 dX6_holdRow_19 (by decide) ?_
  refine m_sgv (cf := fun v => W6 h r cs (sJ u12 0 (gJ v 0))) (X := [(h, .inr (6, Ff6 r u12))]) (Y := []) (As := [.ref (r 0), .long (0 : Int64)]) (rest := []) S (fun v => List.Perm.of_eq rfl) hI (u := u12) rfl (c_J7_fill_d0a16 l D (r 0) cs (0 : Int64) u12 _ hw) (va_cwS 2 S.2.2.2.2 gX6_holdRow_J7_fill_d0a16 rfl rfl rfl (by decide +kernel) ⟨Nat.le_of_ble_eq_true rfl, Nat.le_of_ble_eq_true rfl⟩) rfl hl.1 rfl (Nat.le_of_ble_eq_true rfl) dX6_holdRow_20 ⟨Nat.zero_le _, Nat.zero_le _⟩ (fun v20 H locs hw hI => ?_)
  obtain ⟨u20, eu20⟩ : ∃ z : ST, z = sJ u12 0 (gJ v20 0) := ⟨_, rfl⟩
  have hw := hw u20 eu20
  replace hI : mI D (mT cs) A s.heap s (W6 h r cs u20) H locs := by rw [eu20]; exact hI
  subst hZ
  exact m_vret S hr hlocks hI hw dX6_holdRow_23

def wp_X6_hasPlaces_p23 (t0 : Int32) (u : ST) (Q : Int32 → ST → Prop) : Prop :=
  (t0 &&& 1 = t0 ∧ Q t0 u)
def wp_X6_hasPlaces_p22 (u : ST) (Q : Int32 → ST → Prop) : Prop :=
  wp_X6_hasPlaces_p23 (0 : Int32) u Q
def wp_X6_hasPlaces (a1 : Int32) (a2 : Int32) (u : ST) (Q : Int32 → ST → Prop) : Prop :=
  ((a1 < 0 → wp_X6_hasPlaces_p22 u Q) ∧ (¬ a1 < 0 → ((a2 < 0 → wp_X6_hasPlaces_p22 u Q) ∧ (¬ a2 < 0 → (∀ y14 : Int32, y14 = (gI u 3) - a2 → ((y14 < a1 → wp_X6_hasPlaces_p22 u Q) ∧ (¬ y14 < a1 → wp_X6_hasPlaces_p23 (1 : Int32) u Q)))))))
set_option maxHeartbeats 4000000 in
set_option maxRecDepth 100000 in
theorem c_X6_hasPlaces (l : Launch) (D : va_G) (h : Nat) (r : Nat → Nat) (cs : Nat → ClassId) (a1 : Int32) (a2 : Int32) (u : ST) (Q : Int32 → ST → Prop) (hw : wp_X6_hasPlaces a1 a2 u Q) : mCi l yX6_hasPlaces wsX6_hasPlaces ({ frames := 0, cells := 0, slots := 0, locals := 0 } : Room) 0 0 D (mT cs) (W6 h r cs) [.ref h, .int a1, .int a2] u Q := by
  unfold mCi
  refine m_enter (QQ := fun A => va_Qi Q (mPos D (mT cs) A (W6 h r cs)) A) (cc := cX6_hasPlaces) (maxL := 3) (ret := (some .boolean)) (by decide) rfl (Nat.le_of_ble_eq_true rfl) ?_
  intro p e s m args below meth c A ls S hr hlocks hname hl hI
  have S : CallFix p m c cX6_hasPlaces 3 s args wsX6_hasPlaces RX6 := S
  show W p l e ({ frames := 0, cells := 0, slots := 0, locals := 0 } : Room) s m args below meth c s.heap [] 0 0 (MQ below (va_Qi Q (mPos D (mT cs) A (W6 h r cs)) A) args s 0 0 A) (F0 m 0 ls [])
  generalize hZ : MQ below (va_Qi Q (mPos D (mT cs) A (W6 h r cs)) A) args s 0 0 A = Z
  have hin : ∀ w ∈ wsX60, w ∈ wsX6_hasPlaces := fun _ h => List.mem_cons_of_mem _ (List.mem_append_right _ h)
  have hl : lv_has ls 3 [(0, .ref h), (1, .int a1), (2, .int a2)] := hl
  have b23 : ∀ (t0 : Int32) (u : ST), wp_X6_hasPlaces_p23 t0 u Q → mGo p l e ({ frames := 0, cells := 0, slots := 0, locals := 0 } : Room) s m args below meth c A Z 3 D (mT cs) (W6 h r cs) 23 [(0, .ref h)] [.int t0] u := by
    intro t0 u hw H locs ls hI hl
    unfold wp_X6_hasPlaces_p23 at hw
    subst hZ
    exact m_zret S hr hlocks hI hw.1 hw.2 dX6_hasPlaces_23
  have b22 : ∀ (u : ST), wp_X6_hasPlaces_p22 u Q → mGo p l e ({ frames := 0, cells := 0, slots := 0, locals := 0 } : Room) s m args below meth c A Z 3 D (mT cs) (W6 h r cs) 22 [(0, .ref h)] [] u := by
    intro u hw H locs ls hI hl
    unfold wp_X6_hasPlaces_p22 at hw
    refine lv_iconst (v := 0) S.1 S.2.1 dX6_hasPlaces_22 (by decide) ?_
    exact b23 (0 : Int32) u hw H locs ls hI (lv_sub hl [0] rfl)
  unfold wp_X6_hasPlaces at hw
  obtain ⟨H, hH⟩ : ∃ z : Heap, z = s.heap := ⟨_, rfl⟩
  obtain ⟨locs, hL⟩ : ∃ z : List Loc, z = [] := ⟨_, rfl⟩
  rw [show W p l e ({ frames := 0, cells := 0, slots := 0, locals := 0 } : Room) s m args below meth c s.heap [] 0 0 Z (F0 m 0 ls []) = W p l e ({ frames := 0, cells := 0, slots := 0, locals := 0 } : Room) s m args below meth c H locs 0 0 Z (F0 m 0 ls []) by rw [hH, hL]]
  replace hI : mI D (mT cs) A s.heap s (W6 h r cs u) H locs := by rw [hH, hL]; exact hI
  refine lv_iload_n S.1 S.2.1 dX6_hasPlaces_0 rfl (lv_at hl 1 rfl) ?_
  refine lv_if_lt (tgt := 22) S.1 S.2.1 dX6_hasPlaces_1 (by decide) (fun c1 => ?_) (fun c1 => ?_)
  · have hw := hw.1 c1
    exact b22 u hw H locs ls hI (lv_sub hl [0] rfl)
  · have hw := hw.2 c1
    refine lv_iload_n S.1 S.2.1 dX6_hasPlaces_4 rfl (lv_at hl 2 rfl) ?_
    refine lv_if_lt (tgt := 22) S.1 S.2.1 dX6_hasPlaces_5 (by decide) (fun c5 => ?_) (fun c5 => ?_)
    · have hw := hw.1 c5
      exact b22 u hw H locs ls hI (lv_sub hl [0] rfl)
    · have hw := hw.2 c5
      refine lv_iload_n S.1 S.2.1 dX6_hasPlaces_8 rfl (lv_at hl 1 rfl) ?_
      refine lv_aload_n S.1 S.2.1 dX6_hasPlaces_9 rfl (lv_at hl 0 rfl) ?_
      refine m_get S hin hI 0 (W6_at0 h r cs u) rfl 3 (Nat.le_of_ble_eq_true rfl) (List.mem_of_getElem? (i := 1) rfl) rfl (Ff6_at3 r u) dX6_hasPlaces_10 ?_
      refine lv_iload_n S.1 S.2.1 dX6_hasPlaces_13 rfl (lv_at hl 2 rfl) ?_
      refine lv_isub S.1 S.2.1 dX6_hasPlaces_14 ?_
      refine lv_topi (fun y14 ey14 => ?_)
      have hw := hw y14 ey14
      refine lv_icmp_gt (tgt := 22) S.1 S.2.1 dX6_hasPlaces_15 (by decide) (fun c15 => ?_) (fun c15 => ?_)
      · have hw := hw.1 c15
        exact b22 u hw H locs ls hI (lv_sub hl [0] rfl)
      · have hw := hw.2 c15
        refine lv_iconst (v := 1) S.1 S.2.1 dX6_hasPlaces_18 (by decide) ?_
        refine lv_goto (tgt := 23) S.1 S.2.1 dX6_hasPlaces_19 (by decide) ?_
        exact b23 (1 : Int32) u hw H locs ls hI (lv_sub hl [0] rfl)

def wp_X6_get_p22 (t0 : Int64) (u : ST) (Q : Int64 → ST → Prop) : Prop :=
  Q t0 u
def wp_X6_get_p21 (u : ST) (Q : Int64 → ST → Prop) : Prop :=
  wp_X6_get_p22 (0 : Int64) u Q
def wp_X6_get (a1 : Int32) (u : ST) (Q : Int64 → ST → Prop) : Prop :=
  ((a1 < 0 → wp_X6_get_p21 u Q) ∧ (¬ a1 < 0 → (((gI u 3) ≤ a1 → wp_X6_get_p21 u Q) ∧ (¬ (gI u 3) ≤ a1 → (vp_in a1 60 ∧ ∀ y17 : Int64, y17 = gJ u 0 a1.toNatClampNeg → wp_X6_get_p22 y17 u Q)))))
set_option maxHeartbeats 4000000 in
set_option maxRecDepth 100000 in
theorem c_X6_get (l : Launch) (D : va_G) (h : Nat) (r : Nat → Nat) (cs : Nat → ClassId) (a1 : Int32) (u : ST) (Q : Int64 → ST → Prop) (hw : wp_X6_get a1 u Q) : mCl l yX6_get wsX6_get ({ frames := 0, cells := 0, slots := 0, locals := 0 } : Room) 0 0 D (mT cs) (W6 h r cs) [.ref h, .int a1] u Q := by
  unfold mCl
  refine m_enter (QQ := fun A => va_Ql Q (mPos D (mT cs) A (W6 h r cs)) A) (cc := cX6_get) (maxL := 2) (ret := (some .long)) (by decide) rfl (Nat.le_of_ble_eq_true rfl) ?_
  intro p e s m args below meth c A ls S hr hlocks hname hl hI
  have S : CallFix p m c cX6_get 2 s args wsX6_get RX6 := S
  show W p l e ({ frames := 0, cells := 0, slots := 0, locals := 0 } : Room) s m args below meth c s.heap [] 0 0 (MQ below (va_Ql Q (mPos D (mT cs) A (W6 h r cs)) A) args s 0 0 A) (F0 m 0 ls [])
  generalize hZ : MQ below (va_Ql Q (mPos D (mT cs) A (W6 h r cs)) A) args s 0 0 A = Z
  have hin : ∀ w ∈ wsX60, w ∈ wsX6_get := fun _ h => List.mem_cons_of_mem _ (List.mem_append_right _ h)
  have hl : lv_has ls 2 [(0, .ref h), (1, .int a1)] := hl
  have b22 : ∀ (t0 : Int64) (u : ST), wp_X6_get_p22 t0 u Q → mGo p l e ({ frames := 0, cells := 0, slots := 0, locals := 0 } : Room) s m args below meth c A Z 2 D (mT cs) (W6 h r cs) 22 [(0, .ref h)] [.long t0] u := by
    intro t0 u hw H locs ls hI hl
    unfold wp_X6_get_p22 at hw
    subst hZ
    exact m_lret S hr hlocks hI hw dX6_get_22
  have b21 : ∀ (u : ST), wp_X6_get_p21 u Q → mGo p l e ({ frames := 0, cells := 0, slots := 0, locals := 0 } : Room) s m args below meth c A Z 2 D (mT cs) (W6 h r cs) 21 [(0, .ref h)] [] u := by
    intro u hw H locs ls hI hl
    unfold wp_X6_get_p21 at hw
    refine lv_lconst (v := 0) S.1 S.2.1 dX6_get_21 (by decide) ?_
    exact b22 (0 : Int64) u hw H locs ls hI (lv_sub hl [0] rfl)
  unfold wp_X6_get at hw
  obtain ⟨H, hH⟩ : ∃ z : Heap, z = s.heap := ⟨_, rfl⟩
  obtain ⟨locs, hL⟩ : ∃ z : List Loc, z = [] := ⟨_, rfl⟩
  rw [show W p l e ({ frames := 0, cells := 0, slots := 0, locals := 0 } : Room) s m args below meth c s.heap [] 0 0 Z (F0 m 0 ls []) = W p l e ({ frames := 0, cells := 0, slots := 0, locals := 0 } : Room) s m args below meth c H locs 0 0 Z (F0 m 0 ls []) by rw [hH, hL]]
  replace hI : mI D (mT cs) A s.heap s (W6 h r cs u) H locs := by rw [hH, hL]; exact hI
  refine lv_iload_n S.1 S.2.1 dX6_get_0 rfl (lv_at hl 1 rfl) ?_
  refine lv_if_lt (tgt := 21) S.1 S.2.1 dX6_get_1 (by decide) (fun c1 => ?_) (fun c1 => ?_)
  · have hw := hw.1 c1
    exact b21 u hw H locs ls hI (lv_sub hl [0] rfl)
  · have hw := hw.2 c1
    refine lv_iload_n S.1 S.2.1 dX6_get_4 rfl (lv_at hl 1 rfl) ?_
    refine lv_aload_n S.1 S.2.1 dX6_get_5 rfl (lv_at hl 0 rfl) ?_
    refine m_get S hin hI 0 (W6_at0 h r cs u) rfl 3 (Nat.le_of_ble_eq_true rfl) (List.mem_of_getElem? (i := 1) rfl) rfl (Ff6_at3 r u) dX6_get_6 ?_
    refine lv_icmp_ge (tgt := 21) S.1 S.2.1 dX6_get_9 (by decide) (fun c9 => ?_) (fun c9 => ?_)
    · have hw := hw.1 c9
      exact b21 u hw H locs ls hI (lv_sub hl [0] rfl)
    · have hw := hw.2 c9
      refine lv_aload_n S.1 S.2.1 dX6_get_12 rfl (lv_at hl 0 rfl) ?_
      refine m_get S hin hI 0 (W6_at0 h r cs u) rfl 0 (Nat.le_of_ble_eq_true rfl) (List.mem_of_getElem? (i := 2) rfl) rfl (Ff6_at0 r u) dX6_get_13 ?_
      refine lv_iload_n S.1 S.2.1 dX6_get_16 rfl (lv_at hl 1 rfl) ?_
      refine m_lald S hI 1 3 (W6_at1 h r cs u) rfl hw.1 dX6_get_17 ?_
      refine lv_topl (fun y17 ey17 => ?_)
      have hw := hw.2 y17 ey17
      refine lv_goto (tgt := 22) S.1 S.2.1 dX6_get_18 (by decide) ?_
      exact b22 y17 u hw H locs ls hI (lv_sub hl [0] rfl)

def wp_X6_lowest_p63 (t0 : Int64) (u : ST) (Q : Int64 → ST → Prop) : Prop :=
  Q t0 u
def wp_X6_lowest (a1 : Int64) (u : ST) (Q : Int64 → ST → Prop) : Prop :=
  (((gI u 2) = 0 → (∀ y37 : Int32, y37 = a1.toInt32 → (∀ y38 : Int32, y38 = y37.toInt8.toInt32 → (∀ y39 : Int64, y39 = y38.toInt64 → Q y39 u)))) ∧ (¬ (gI u 2) = 0 → (((gI u 2) = 1 → (∀ y42 : Int32, y42 = a1.toInt32 → (∀ y43 : Int32, y43 = y42.toInt16.toInt32 → (∀ y44 : Int64, y44 = y43.toInt64 → Q y44 u)))) ∧ (¬ (gI u 2) = 1 → (((gI u 2) = 2 → (∀ y47 : Int32, y47 = a1.toInt32 → (∀ y48 : Int64, y48 = y47.toInt64 → Q y48 u))) ∧ (¬ (gI u 2) = 2 → (((gI u 2) = 3 → Q a1 u) ∧ (¬ (gI u 2) = 3 → (∀ y54 : Int32, y54 = lg_cmp a1 (0 : Int64) → ((y54 = 0 → wp_X6_lowest_p63 (0 : Int64) u Q) ∧ (¬ y54 = 0 → wp_X6_lowest_p63 (1 : Int64) u Q)))))))))))
set_option maxHeartbeats 4000000 in
set_option maxRecDepth 100000 in
theorem c_X6_lowest (l : Launch) (D : va_G) (h : Nat) (r : Nat → Nat) (cs : Nat → ClassId) (a1 : Int64) (u : ST) (Q : Int64 → ST → Prop) (hw : wp_X6_lowest a1 u Q) : mCl l yX6_lowest wsX6_lowest ({ frames := 0, cells := 0, slots := 0, locals := 0 } : Room) 0 0 D (mT cs) (W6 h r cs) [.ref h, .long a1] u Q := by
  unfold mCl
  refine m_enter (QQ := fun A => va_Ql Q (mPos D (mT cs) A (W6 h r cs)) A) (cc := cX6_lowest) (maxL := 3) (ret := (some .long)) (by decide) rfl (Nat.le_of_ble_eq_true rfl) ?_
  intro p e s m args below meth c A ls S hr hlocks hname hl hI
  have S : CallFix p m c cX6_lowest 3 s args wsX6_lowest RX6 := S
  show W p l e ({ frames := 0, cells := 0, slots := 0, locals := 0 } : Room) s m args below meth c s.heap [] 0 0 (MQ below (va_Ql Q (mPos D (mT cs) A (W6 h r cs)) A) args s 0 0 A) (F0 m 0 ls [])
  generalize hZ : MQ below (va_Ql Q (mPos D (mT cs) A (W6 h r cs)) A) args s 0 0 A = Z
  have hin : ∀ w ∈ wsX60, w ∈ wsX6_lowest := fun _ h => List.mem_cons_of_mem _ (List.mem_append_right _ h)
  have hl : lv_has ls 3 [(0, .ref h), (1, .long a1)] := hl
  have b63 : ∀ (t0 : Int64) (u : ST), wp_X6_lowest_p63 t0 u Q → mGo p l e ({ frames := 0, cells := 0, slots := 0, locals := 0 } : Room) s m args below meth c A Z 3 D (mT cs) (W6 h r cs) 63 [(0, .ref h)] [.long t0] u := by
    intro t0 u hw H locs ls hI hl
    unfold wp_X6_lowest_p63 at hw
    subst hZ
    exact m_lret S hr hlocks hI hw dX6_lowest_63
  unfold wp_X6_lowest at hw
  obtain ⟨H, hH⟩ : ∃ z : Heap, z = s.heap := ⟨_, rfl⟩
  obtain ⟨locs, hL⟩ : ∃ z : List Loc, z = [] := ⟨_, rfl⟩
  rw [show W p l e ({ frames := 0, cells := 0, slots := 0, locals := 0 } : Room) s m args below meth c s.heap [] 0 0 Z (F0 m 0 ls []) = W p l e ({ frames := 0, cells := 0, slots := 0, locals := 0 } : Room) s m args below meth c H locs 0 0 Z (F0 m 0 ls []) by rw [hH, hL]]
  replace hI : mI D (mT cs) A s.heap s (W6 h r cs u) H locs := by rw [hH, hL]; exact hI
  refine lv_aload_n S.1 S.2.1 dX6_lowest_0 rfl (lv_at hl 0 rfl) ?_
  refine m_get S hin hI 0 (W6_at0 h r cs u) rfl 2 (Nat.le_of_ble_eq_true rfl) (List.mem_of_getElem? (i := 1) rfl) rfl (Ff6_at2 r u) dX6_lowest_1 ?_
  by_cases c4_0 : (gI u 2) = 0
  · have hw := hw.1 c4_0
    refine lv_tableIn (tgt := 36) S.1 S.2.1 dX6_lowest_4 (by rw [c4_0] <;> decide) (by rw [c4_0] <;> decide) (by rw [c4_0] <;> rfl) (by decide) ?_
    refine lv_lload_n S.1 S.2.1 dX6_lowest_36 rfl (lv_at hl 1 rfl) ?_
    refine lv_l2i S.1 S.2.1 dX6_lowest_37 rfl ?_
    refine lv_topi (fun y37 ey37 => ?_)
    have hw := hw y37 ey37
    refine lv_i2b S.1 S.2.1 dX6_lowest_38 rfl ?_
    refine lv_topi (fun y38 ey38 => ?_)
    have hw := hw y38 ey38
    refine lv_i2l S.1 S.2.1 dX6_lowest_39 rfl ?_
    refine lv_topl (fun y39 ey39 => ?_)
    have hw := hw y39 ey39
    subst hZ
    exact m_lret S hr hlocks hI hw dX6_lowest_40
  · have hw := hw.2 c4_0
    by_cases c4_1 : (gI u 2) = 1
    · have hw := hw.1 c4_1
      refine lv_tableIn (tgt := 41) S.1 S.2.1 dX6_lowest_4 (by rw [c4_1] <;> decide) (by rw [c4_1] <;> decide) (by rw [c4_1] <;> rfl) (by decide) ?_
      refine lv_lload_n S.1 S.2.1 dX6_lowest_41 rfl (lv_at hl 1 rfl) ?_
      refine lv_l2i S.1 S.2.1 dX6_lowest_42 rfl ?_
      refine lv_topi (fun y42 ey42 => ?_)
      have hw := hw y42 ey42
      refine lv_i2s S.1 S.2.1 dX6_lowest_43 rfl ?_
      refine lv_topi (fun y43 ey43 => ?_)
      have hw := hw y43 ey43
      refine lv_i2l S.1 S.2.1 dX6_lowest_44 rfl ?_
      refine lv_topl (fun y44 ey44 => ?_)
      have hw := hw y44 ey44
      subst hZ
      exact m_lret S hr hlocks hI hw dX6_lowest_45
    · have hw := hw.2 c4_1
      by_cases c4_2 : (gI u 2) = 2
      · have hw := hw.1 c4_2
        refine lv_tableIn (tgt := 46) S.1 S.2.1 dX6_lowest_4 (by rw [c4_2] <;> decide) (by rw [c4_2] <;> decide) (by rw [c4_2] <;> rfl) (by decide) ?_
        refine lv_lload_n S.1 S.2.1 dX6_lowest_46 rfl (lv_at hl 1 rfl) ?_
        refine lv_l2i S.1 S.2.1 dX6_lowest_47 rfl ?_
        refine lv_topi (fun y47 ey47 => ?_)
        have hw := hw y47 ey47
        refine lv_i2l S.1 S.2.1 dX6_lowest_48 rfl ?_
        refine lv_topl (fun y48 ey48 => ?_)
        have hw := hw y48 ey48
        subst hZ
        exact m_lret S hr hlocks hI hw dX6_lowest_49
      · have hw := hw.2 c4_2
        by_cases c4_3 : (gI u 2) = 3
        · have hw := hw.1 c4_3
          refine lv_tableIn (tgt := 50) S.1 S.2.1 dX6_lowest_4 (by rw [c4_3] <;> decide) (by rw [c4_3] <;> decide) (by rw [c4_3] <;> rfl) (by decide) ?_
          refine lv_lload_n S.1 S.2.1 dX6_lowest_50 rfl (lv_at hl 1 rfl) ?_
          subst hZ
          exact m_lret S hr hlocks hI hw dX6_lowest_51
        · have hw := hw.2 c4_3
          by_cases q4 : (gI u 2).toInt < 0 ∨ 3 < (gI u 2).toInt
          · refine lv_tableOut (tgt := 52) S.1 S.2.1 dX6_lowest_4 q4 (by decide) ?_
            refine lv_lload_n S.1 S.2.1 dX6_lowest_52 rfl (lv_at hl 1 rfl) ?_
            refine lv_lconst (v := 0) S.1 S.2.1 dX6_lowest_53 (by decide) ?_
            refine W.lcmp S.1 S.2.1 dX6_lowest_54 ?_
            refine lv_topi (fun y54 ey54 => ?_)
            have hw := hw y54 ey54
            refine lv_if_eq (tgt := 62) S.1 S.2.1 dX6_lowest_55 (by decide) (fun c55 => ?_) (fun c55 => ?_)
            · have hw := hw.1 c55
              refine lv_lconst (v := 0) S.1 S.2.1 dX6_lowest_62 (by decide) ?_
              exact b63 (0 : Int64) u hw H locs ls hI (lv_sub hl [0] rfl)
            · have hw := hw.2 c55
              refine lv_lconst (v := 1) S.1 S.2.1 dX6_lowest_58 (by decide) ?_
              refine lv_goto (tgt := 63) S.1 S.2.1 dX6_lowest_59 (by decide) ?_
              exact b63 (1 : Int64) u hw H locs ls hI (lv_sub hl [0] rfl)
          · have n4_0 := lv_neT c4_0 (a := 0) rfl
            have n4_1 := lv_neT c4_1 (a := 1) rfl
            have n4_2 := lv_neT c4_2 (a := 2) rfl
            have n4_3 := lv_neT c4_3 (a := 3) rfl
            omega

def wp_X6_set_p23 (u : ST) (Q : ST → Prop) : Prop :=
  Q u
def wp_X6_set (a1 : Int32) (a2 : Int64) (u : ST) (Q : ST → Prop) : Prop :=
  ((a1 < 0 → wp_X6_set_p23 u Q) ∧ (¬ a1 < 0 → (((gI u 3) ≤ a1 → wp_X6_set_p23 u Q) ∧ (¬ (gI u 3) ≤ a1 → (wp_X6_lowest a2 u (fun y19 u19 => (vp_in a1 60 ∧ ∀ u22 : ST, u22 = sJ u19 0 (vp_updL (gJ u19 0) a1.toNatClampNeg y19) → wp_X6_set_p23 u22 Q)))))))
set_option maxHeartbeats 4000000 in
set_option maxRecDepth 100000 in
theorem c_X6_set (l : Launch) (D : va_G) (h : Nat) (r : Nat → Nat) (cs : Nat → ClassId) (a1 : Int32) (a2 : Int64) (u : ST) (Q : ST → Prop) (hw : wp_X6_set a1 a2 u Q) : mCv l yX6_set wsX6_set ({ frames := 1, cells := 0, slots := 0, locals := 22 } : Room) 0 0 D (mT cs) (W6 h r cs) [.ref h, .int a1, .long a2] u Q := by
  unfold mCv
  refine m_enter (QQ := fun A => va_Qv Q (mPos D (mT cs) A (W6 h r cs)) A) (cc := cX6_set) (maxL := 4) (ret := none) (by decide) rfl (Nat.le_of_ble_eq_true rfl) ?_
  intro p e s m args below meth c A ls S hr hlocks hname hl hI
  have S : CallFix p m c cX6_set 4 s args wsX6_set RX6 := S
  show W p l e ({ frames := 1, cells := 0, slots := 0, locals := 22 } : Room) s m args below meth c s.heap [] 0 0 (MQ below (va_Qv Q (mPos D (mT cs) A (W6 h r cs)) A) args s 0 0 A) (F0 m 0 ls [])
  generalize hZ : MQ below (va_Qv Q (mPos D (mT cs) A (W6 h r cs)) A) args s 0 0 A = Z
  have hin : ∀ w ∈ wsX60, w ∈ wsX6_set := fun _ h => List.mem_cons_of_mem _ (List.mem_append_right _ h)
  have hl : lv_has ls 4 [(0, .ref h), (1, .int a1), (2, .long a2)] := hl
  have b23 : ∀ (u : ST), wp_X6_set_p23 u Q → mGo p l e ({ frames := 1, cells := 0, slots := 0, locals := 22 } : Room) s m args below meth c A Z 4 D (mT cs) (W6 h r cs) 23 [(0, .ref h)] [] u := by
    intro u hw H locs ls hI hl
    unfold wp_X6_set_p23 at hw
    subst hZ
    exact m_vret S hr hlocks hI hw dX6_set_23
  unfold wp_X6_set at hw
  obtain ⟨H, hH⟩ : ∃ z : Heap, z = s.heap := ⟨_, rfl⟩
  obtain ⟨locs, hL⟩ : ∃ z : List Loc, z = [] := ⟨_, rfl⟩
  rw [show W p l e ({ frames := 1, cells := 0, slots := 0, locals := 22 } : Room) s m args below meth c s.heap [] 0 0 Z (F0 m 0 ls []) = W p l e ({ frames := 1, cells := 0, slots := 0, locals := 22 } : Room) s m args below meth c H locs 0 0 Z (F0 m 0 ls []) by rw [hH, hL]]
  replace hI : mI D (mT cs) A s.heap s (W6 h r cs u) H locs := by rw [hH, hL]; exact hI
  refine lv_iload_n S.1 S.2.1 dX6_set_0 rfl (lv_at hl 1 rfl) ?_
  refine lv_if_lt (tgt := 23) S.1 S.2.1 dX6_set_1 (by decide) (fun c1 => ?_) (fun c1 => ?_)
  · have hw := hw.1 c1
    exact b23 u hw H locs ls hI (lv_sub hl [0] rfl)
  · have hw := hw.2 c1
    refine lv_iload_n S.1 S.2.1 dX6_set_4 rfl (lv_at hl 1 rfl) ?_
    refine lv_aload_n S.1 S.2.1 dX6_set_5 rfl (lv_at hl 0 rfl) ?_
    refine m_get S hin hI 0 (W6_at0 h r cs u) rfl 3 (Nat.le_of_ble_eq_true rfl) (List.mem_of_getElem? (i := 1) rfl) rfl (Ff6_at3 r u) dX6_set_6 ?_
    refine lv_icmp_ge (tgt := 23) S.1 S.2.1 dX6_set_9 (by decide) (fun c9 => ?_) (fun c9 => ?_)
    · have hw := hw.1 c9
      exact b23 u hw H locs ls hI (lv_sub hl [0] rfl)
    · have hw := hw.2 c9
      refine lv_aload_n S.1 S.2.1 dX6_set_12 rfl (lv_at hl 0 rfl) ?_
      refine m_get S hin hI 0 (W6_at0 h r cs u) rfl 0 (Nat.le_of_ble_eq_true rfl) (List.mem_of_getElem? (i := 2) rfl) rfl (Ff6_at0 r u) dX6_set_13 ?_
      refine lv_iload_n S.1 S.2.1 dX6_set_16 rfl (lv_at hl 1 rfl) ?_
      refine lv_aload_n S.1 S.2.1 dX6_set_17 rfl (lv_at hl 0 rfl) ?_
      refine lv_lload_n S.1 S.2.1 dX6_set_18 rfl (lv_at hl 2 rfl) ?_
      refine m_vl (As := [.long a2]) (rest := [.int a1, .ref (r 0)]) S (W6_self h r cs) hI rfl (c_X6_lowest l D h r cs a2 u _ hw) (cwV 1 S.2.2.2.2 gX6_set_X6_lowest rfl rfl rfl (by decide +kernel) ⟨Nat.le_of_ble_eq_true rfl, Nat.le_of_ble_eq_true rfl⟩) (W6_at0 h r cs u) rfl rfl hl.1 rfl (Nat.le_of_ble_eq_true rfl) dX6_set_19 ⟨Nat.zero_le _, Nat.zero_le _⟩ (fun y19 u19 H locs hw hI => ?_)
      obtain ⟨u22, eu22⟩ : ∃ z : ST, z = sJ u19 0 (vp_updL (gJ u19 0) a1.toNatClampNeg y19) := ⟨_, rfl⟩
      refine m_last S hI 1 3 (W6_at1 h r cs u19) rfl hw.1 (W6_sJ0 h r cs u19 u22 _ eu22) dX6_set_22 (fun H locs hI => ?_)
      have hw := hw.2 u22 eu22
      exact b23 u22 hw H locs ls hI (lv_sub hl [0] rfl)

/-- TwoJars$Law: what its object holds -/
def Ff3 (r : Nat → Nat) (u : ST) : List Value := [.ref (r 0), .ref (r 1), .ref (r 2), .ref (r 3), .int (gI u 4), .int (gI u 5), .int (gI u 6), .int (gI u 7), .int (gI u 8), .int (gI u 9)]
def W3 (h : Nat) (r : Nat → Nat) (cs : Nat → ClassId) (u : ST) : va_W := [(h, .inr (3, Ff3 r u)), (r 0, .inl (cs 0, 120, .inl (gA u 0))), (r 1, .inl (cs 0, 124, .inl (gA u 1))), (r 2, .inl (cs 0, 124, .inl (gA u 2))), (r 3, .inl (cs 0, 124, .inl (gA u 3)))]
theorem W3_at0 (h : Nat) (r : Nat → Nat) (cs : Nat → ClassId) (u : ST) : (W3 h r cs u)[0]? = some (h, .inr (3, Ff3 r u)) := rfl
theorem W3_at1 (h : Nat) (r : Nat → Nat) (cs : Nat → ClassId) (u : ST) : (W3 h r cs u)[1]? = some (r 0, .inl (cs 0, 120, .inl (gA u 0))) := rfl
theorem W3_at2 (h : Nat) (r : Nat → Nat) (cs : Nat → ClassId) (u : ST) : (W3 h r cs u)[2]? = some (r 1, .inl (cs 0, 124, .inl (gA u 1))) := rfl
theorem W3_at3 (h : Nat) (r : Nat → Nat) (cs : Nat → ClassId) (u : ST) : (W3 h r cs u)[3]? = some (r 2, .inl (cs 0, 124, .inl (gA u 2))) := rfl
theorem W3_at4 (h : Nat) (r : Nat → Nat) (cs : Nat → ClassId) (u : ST) : (W3 h r cs u)[4]? = some (r 3, .inl (cs 0, 124, .inl (gA u 3))) := rfl
theorem Ff3_at0 (r : Nat → Nat) (u : ST) : (Ff3 r u)[0]? = some (.ref (r 0)) := rfl
theorem Ff3_at1 (r : Nat → Nat) (u : ST) : (Ff3 r u)[1]? = some (.ref (r 1)) := rfl
theorem Ff3_at2 (r : Nat → Nat) (u : ST) : (Ff3 r u)[2]? = some (.ref (r 2)) := rfl
theorem Ff3_at3 (r : Nat → Nat) (u : ST) : (Ff3 r u)[3]? = some (.ref (r 3)) := rfl
theorem Ff3_at4 (r : Nat → Nat) (u : ST) : (Ff3 r u)[4]? = some (.int (gI u 4)) := rfl
theorem Ff3_at5 (r : Nat → Nat) (u : ST) : (Ff3 r u)[5]? = some (.int (gI u 5)) := rfl
theorem Ff3_at6 (r : Nat → Nat) (u : ST) : (Ff3 r u)[6]? = some (.int (gI u 6)) := rfl
theorem Ff3_at7 (r : Nat → Nat) (u : ST) : (Ff3 r u)[7]? = some (.int (gI u 7)) := rfl
theorem Ff3_at8 (r : Nat → Nat) (u : ST) : (Ff3 r u)[8]? = some (.int (gI u 8)) := rfl
theorem Ff3_at9 (r : Nat → Nat) (u : ST) : (Ff3 r u)[9]? = some (.int (gI u 9)) := rfl
theorem W3_sI4 (h : Nat) (r : Nat → Nat) (cs : Nat → ClassId) (u u9 : ST) (x : Int32) (e : u9 = sI u 4 x) : (W3 h r cs u).set 0 (h, .inr (3, (Ff3 r u).set 4 (.int x))) = W3 h r cs u9 := by subst e; rfl
theorem W3_sI5 (h : Nat) (r : Nat → Nat) (cs : Nat → ClassId) (u u9 : ST) (x : Int32) (e : u9 = sI u 5 x) : (W3 h r cs u).set 0 (h, .inr (3, (Ff3 r u).set 5 (.int x))) = W3 h r cs u9 := by subst e; rfl
theorem W3_sI6 (h : Nat) (r : Nat → Nat) (cs : Nat → ClassId) (u u9 : ST) (x : Int32) (e : u9 = sI u 6 x) : (W3 h r cs u).set 0 (h, .inr (3, (Ff3 r u).set 6 (.int x))) = W3 h r cs u9 := by subst e; rfl
theorem W3_sI7 (h : Nat) (r : Nat → Nat) (cs : Nat → ClassId) (u u9 : ST) (x : Int32) (e : u9 = sI u 7 x) : (W3 h r cs u).set 0 (h, .inr (3, (Ff3 r u).set 7 (.int x))) = W3 h r cs u9 := by subst e; rfl
theorem W3_sI8 (h : Nat) (r : Nat → Nat) (cs : Nat → ClassId) (u u9 : ST) (x : Int32) (e : u9 = sI u 8 x) : (W3 h r cs u).set 0 (h, .inr (3, (Ff3 r u).set 8 (.int x))) = W3 h r cs u9 := by subst e; rfl
theorem W3_sI9 (h : Nat) (r : Nat → Nat) (cs : Nat → ClassId) (u u9 : ST) (x : Int32) (e : u9 = sI u 9 x) : (W3 h r cs u).set 0 (h, .inr (3, (Ff3 r u).set 9 (.int x))) = W3 h r cs u9 := by subst e; rfl
theorem W3_sA0 (h : Nat) (r : Nat → Nat) (cs : Nat → ClassId) (u u9 : ST) (f : Nat → Int32) (e : u9 = sA u 0 f) : (W3 h r cs u).set 1 (r 0, .inl (cs 0, 120, .inl f)) = W3 h r cs u9 := by subst e; rfl
theorem W3_sA1 (h : Nat) (r : Nat → Nat) (cs : Nat → ClassId) (u u9 : ST) (f : Nat → Int32) (e : u9 = sA u 1 f) : (W3 h r cs u).set 2 (r 1, .inl (cs 0, 124, .inl f)) = W3 h r cs u9 := by subst e; rfl
theorem W3_sA2 (h : Nat) (r : Nat → Nat) (cs : Nat → ClassId) (u u9 : ST) (f : Nat → Int32) (e : u9 = sA u 2 f) : (W3 h r cs u).set 3 (r 2, .inl (cs 0, 124, .inl f)) = W3 h r cs u9 := by subst e; rfl
theorem W3_sA3 (h : Nat) (r : Nat → Nat) (cs : Nat → ClassId) (u u9 : ST) (f : Nat → Int32) (e : u9 = sA u 3 f) : (W3 h r cs u).set 4 (r 3, .inl (cs 0, 124, .inl f)) = W3 h r cs u9 := by subst e; rfl
theorem W3_self (h : Nat) (r : Nat → Nat) (cs : Nat → ClassId) : ∀ v, (W3 h r cs v).Perm ([] ++ (W3 h r cs v ++ [])) := fun v => by rw [List.append_nil, List.nil_append]

def wp_X3_take (a1 : Int32) (u : ST) (Q : Int32 → ST → Prop) : Prop :=
  (((gI u 4) < (120 : Int32) → (vp_in (gI u 4) 120 ∧ ∀ u21 : ST, u21 = sA u 0 (upd (gA u 0) (gI u 4).toNatClampNeg a1) → (∀ y28 : Int32, y28 = (gI u21 4) + (1 : Int32) → (∀ u29 : ST, u29 = sI u21 4 y28 → Q (gI u29 4) u29)))) ∧ (¬ (gI u 4) < (120 : Int32) → Q ((-3) : Int32) u))
set_option maxHeartbeats 4000000 in
set_option maxRecDepth 100000 in
theorem c_X3_take (l : Launch) (D : va_G) (h : Nat) (r : Nat → Nat) (cs : Nat → ClassId) (a1 : Int32) (u : ST) (Q : Int32 → ST → Prop) (hw : wp_X3_take a1 u Q) : mCi l yX3_take wsX3_take ({ frames := 0, cells := 0, slots := 0, locals := 0 } : Room) 0 0 D (mT cs) (W3 h r cs) [.ref h, .int a1] u Q := by
  unfold mCi
  refine m_enter (QQ := fun A => va_Qi Q (mPos D (mT cs) A (W3 h r cs)) A) (cc := cX3_take) (maxL := 2) (ret := (some .int)) (by decide) rfl (Nat.le_of_ble_eq_true rfl) ?_
  intro p e s m args below meth c A ls S hr hlocks hname hl hI
  have S : CallFix p m c cX3_take 2 s args wsX3_take RX3 := S
  show W p l e ({ frames := 0, cells := 0, slots := 0, locals := 0 } : Room) s m args below meth c s.heap [] 0 0 (MQ below (va_Qi Q (mPos D (mT cs) A (W3 h r cs)) A) args s 0 0 A) (F0 m 0 ls [])
  generalize hZ : MQ below (va_Qi Q (mPos D (mT cs) A (W3 h r cs)) A) args s 0 0 A = Z
  have hin : ∀ w ∈ wsX30, w ∈ wsX3_take := fun _ h => List.mem_cons_of_mem _ (List.mem_append_right _ h)
  have hl : lv_has ls 2 [(0, .ref h), (1, .int a1)] := hl
  unfold wp_X3_take at hw
  obtain ⟨H, hH⟩ : ∃ z : Heap, z = s.heap := ⟨_, rfl⟩
  obtain ⟨locs, hL⟩ : ∃ z : List Loc, z = [] := ⟨_, rfl⟩
  rw [show W p l e ({ frames := 0, cells := 0, slots := 0, locals := 0 } : Room) s m args below meth c s.heap [] 0 0 Z (F0 m 0 ls []) = W p l e ({ frames := 0, cells := 0, slots := 0, locals := 0 } : Room) s m args below meth c H locs 0 0 Z (F0 m 0 ls []) by rw [hH, hL]]
  replace hI : mI D (mT cs) A s.heap s (W3 h r cs u) H locs := by rw [hH, hL]; exact hI
  refine lv_aload_n S.1 S.2.1 dX3_take_0 rfl (lv_at hl 0 rfl) ?_
  refine m_get S hin hI 0 (W3_at0 h r cs u) rfl 4 (Nat.le_of_ble_eq_true rfl) (List.mem_of_getElem? (i := 1) rfl) rfl (Ff3_at4 r u) dX3_take_1 ?_
  refine lv_bipush (v := 120) S.1 S.2.1 dX3_take_4 (by decide) ?_
  refine lv_icmp_lt (tgt := 12) S.1 S.2.1 dX3_take_6 (by decide) (fun c6 => ?_) (fun c6 => ?_)
  · have hw := hw.1 c6
    refine lv_aload_n S.1 S.2.1 dX3_take_12 rfl (lv_at hl 0 rfl) ?_
    refine m_get S hin hI 0 (W3_at0 h r cs u) rfl 0 (Nat.le_of_ble_eq_true rfl) (List.mem_of_getElem? (i := 2) rfl) rfl (Ff3_at0 r u) dX3_take_13 ?_
    refine lv_aload_n S.1 S.2.1 dX3_take_16 rfl (lv_at hl 0 rfl) ?_
    refine m_get S hin hI 0 (W3_at0 h r cs u) rfl 4 (Nat.le_of_ble_eq_true rfl) (List.mem_of_getElem? (i := 1) rfl) rfl (Ff3_at4 r u) dX3_take_17 ?_
    refine lv_iload_n S.1 S.2.1 dX3_take_20 rfl (lv_at hl 1 rfl) ?_
    obtain ⟨u21, eu21⟩ : ∃ z : ST, z = sA u 0 (upd (gA u 0) (gI u 4).toNatClampNeg a1) := ⟨_, rfl⟩
    refine m_iast S hI 1 0 (W3_at1 h r cs u) rfl hw.1 (W3_sA0 h r cs u u21 _ eu21) dX3_take_21 (fun H locs hI => ?_)
    have hw := hw.2 u21 eu21
    refine lv_aload_n S.1 S.2.1 dX3_take_22 rfl (lv_at hl 0 rfl) ?_
    refine lv_dup S.1 S.2.1 dX3_take_23 rfl ?_
    refine m_get S hin hI 0 (W3_at0 h r cs u21) rfl 4 (Nat.le_of_ble_eq_true rfl) (List.mem_of_getElem? (i := 1) rfl) rfl (Ff3_at4 r u21) dX3_take_24 ?_
    refine lv_iconst (v := 1) S.1 S.2.1 dX3_take_27 (by decide) ?_
    refine lv_iadd S.1 S.2.1 dX3_take_28 ?_
    refine lv_topi (fun y28 ey28 => ?_)
    have hw := hw y28 ey28
    obtain ⟨u29, eu29⟩ : ∃ z : ST, z = sI u21 4 y28 := ⟨_, rfl⟩
    have hw := hw u29 eu29
    refine m_put S hin tyX3_ok nmX3 hI 0 (W3_at0 h r cs u21) rfl 4 (Nat.le_of_ble_eq_true rfl) (List.mem_of_getElem? (i := 1) rfl) rfl rfl rfl rfl (Nat.le_of_ble_eq_true rfl) (W3_sI4 h r cs u21 u29 y28 eu29) dX3_take_29 (fun H locs hI => ?_)
    refine lv_aload_n S.1 S.2.1 dX3_take_32 rfl (lv_at hl 0 rfl) ?_
    refine m_get S hin hI 0 (W3_at0 h r cs u29) rfl 4 (Nat.le_of_ble_eq_true rfl) (List.mem_of_getElem? (i := 1) rfl) rfl (Ff3_at4 r u29) dX3_take_33 ?_
    subst hZ
    exact m_iret S hr hlocks hI hw dX3_take_36
  · have hw := hw.2 c6
    refine lv_bipush (v := (-3)) S.1 S.2.1 dX3_take_9 (by decide) ?_
    subst hZ
    exact m_iret S hr hlocks hI hw dX3_take_11

def wp_X3_next_p31 (t0 : Int32) (u : ST) (Q : Int32 → ST → Prop) : Prop :=
  Q t0 u
def wp_X3_next_p30 (u : ST) (Q : Int32 → ST → Prop) : Prop :=
  wp_X3_next_p31 ((-1) : Int32) u Q
def wp_X3_next (u : ST) (Q : Int32 → ST → Prop) : Prop :=
  (((gI u 7) < 0 → wp_X3_next_p30 u Q) ∧ (¬ (gI u 7) < 0 → (((gI u 4) ≤ (gI u 7) → wp_X3_next_p30 u Q) ∧ (¬ (gI u 4) ≤ (gI u 7) → (vp_in (gI u 7) 120 ∧ ∀ y26 : Int32, y26 = gA u 0 (gI u 7).toNatClampNeg → wp_X3_next_p31 y26 u Q)))))
set_option maxHeartbeats 4000000 in
set_option maxRecDepth 100000 in
theorem c_X3_next (l : Launch) (D : va_G) (h : Nat) (r : Nat → Nat) (cs : Nat → ClassId) (u : ST) (Q : Int32 → ST → Prop) (hw : wp_X3_next u Q) : mCi l yX3_next wsX3_next ({ frames := 0, cells := 0, slots := 0, locals := 0 } : Room) 0 0 D (mT cs) (W3 h r cs) [.ref h] u Q := by
  unfold mCi
  refine m_enter (QQ := fun A => va_Qi Q (mPos D (mT cs) A (W3 h r cs)) A) (cc := cX3_next) (maxL := 1) (ret := (some .int)) (by decide) rfl (Nat.le_of_ble_eq_true rfl) ?_
  intro p e s m args below meth c A ls S hr hlocks hname hl hI
  have S : CallFix p m c cX3_next 1 s args wsX3_next RX3 := S
  show W p l e ({ frames := 0, cells := 0, slots := 0, locals := 0 } : Room) s m args below meth c s.heap [] 0 0 (MQ below (va_Qi Q (mPos D (mT cs) A (W3 h r cs)) A) args s 0 0 A) (F0 m 0 ls [])
  generalize hZ : MQ below (va_Qi Q (mPos D (mT cs) A (W3 h r cs)) A) args s 0 0 A = Z
  have hin : ∀ w ∈ wsX30, w ∈ wsX3_next := fun _ h => List.mem_cons_of_mem _ (List.mem_append_right _ h)
  have hl : lv_has ls 1 [(0, .ref h)] := hl
  have b31 : ∀ (t0 : Int32) (u : ST), wp_X3_next_p31 t0 u Q → mGo p l e ({ frames := 0, cells := 0, slots := 0, locals := 0 } : Room) s m args below meth c A Z 1 D (mT cs) (W3 h r cs) 31 [(0, .ref h)] [.int t0] u := by
    intro t0 u hw H locs ls hI hl
    unfold wp_X3_next_p31 at hw
    subst hZ
    exact m_iret S hr hlocks hI hw dX3_next_31
  have b30 : ∀ (u : ST), wp_X3_next_p30 u Q → mGo p l e ({ frames := 0, cells := 0, slots := 0, locals := 0 } : Room) s m args below meth c A Z 1 D (mT cs) (W3 h r cs) 30 [(0, .ref h)] [] u := by
    intro u hw H locs ls hI hl
    unfold wp_X3_next_p30 at hw
    refine lv_iconst (v := (-1)) S.1 S.2.1 dX3_next_30 (by decide) ?_
    exact b31 ((-1) : Int32) u hw H locs ls hI (lv_sub hl [0] rfl)
  unfold wp_X3_next at hw
  obtain ⟨H, hH⟩ : ∃ z : Heap, z = s.heap := ⟨_, rfl⟩
  obtain ⟨locs, hL⟩ : ∃ z : List Loc, z = [] := ⟨_, rfl⟩
  rw [show W p l e ({ frames := 0, cells := 0, slots := 0, locals := 0 } : Room) s m args below meth c s.heap [] 0 0 Z (F0 m 0 ls []) = W p l e ({ frames := 0, cells := 0, slots := 0, locals := 0 } : Room) s m args below meth c H locs 0 0 Z (F0 m 0 ls []) by rw [hH, hL]]
  replace hI : mI D (mT cs) A s.heap s (W3 h r cs u) H locs := by rw [hH, hL]; exact hI
  refine lv_aload_n S.1 S.2.1 dX3_next_0 rfl (lv_at hl 0 rfl) ?_
  refine m_get S hin hI 0 (W3_at0 h r cs u) rfl 7 (Nat.le_of_ble_eq_true rfl) (List.mem_of_getElem? (i := 1) rfl) rfl (Ff3_at7 r u) dX3_next_1 ?_
  refine lv_if_lt (tgt := 30) S.1 S.2.1 dX3_next_4 (by decide) (fun c4 => ?_) (fun c4 => ?_)
  · have hw := hw.1 c4
    exact b30 u hw H locs ls hI (lv_sub hl [0] rfl)
  · have hw := hw.2 c4
    refine lv_aload_n S.1 S.2.1 dX3_next_7 rfl (lv_at hl 0 rfl) ?_
    refine m_get S hin hI 0 (W3_at0 h r cs u) rfl 7 (Nat.le_of_ble_eq_true rfl) (List.mem_of_getElem? (i := 1) rfl) rfl (Ff3_at7 r u) dX3_next_8 ?_
    refine lv_aload_n S.1 S.2.1 dX3_next_11 rfl (lv_at hl 0 rfl) ?_
    refine m_get S hin hI 0 (W3_at0 h r cs u) rfl 4 (Nat.le_of_ble_eq_true rfl) (List.mem_of_getElem? (i := 2) rfl) rfl (Ff3_at4 r u) dX3_next_12 ?_
    refine lv_icmp_ge (tgt := 30) S.1 S.2.1 dX3_next_15 (by decide) (fun c15 => ?_) (fun c15 => ?_)
    · have hw := hw.1 c15
      exact b30 u hw H locs ls hI (lv_sub hl [0] rfl)
    · have hw := hw.2 c15
      refine lv_aload_n S.1 S.2.1 dX3_next_18 rfl (lv_at hl 0 rfl) ?_
      refine m_get S hin hI 0 (W3_at0 h r cs u) rfl 0 (Nat.le_of_ble_eq_true rfl) (List.mem_of_getElem? (i := 3) rfl) rfl (Ff3_at0 r u) dX3_next_19 ?_
      refine lv_aload_n S.1 S.2.1 dX3_next_22 rfl (lv_at hl 0 rfl) ?_
      refine m_get S hin hI 0 (W3_at0 h r cs u) rfl 7 (Nat.le_of_ble_eq_true rfl) (List.mem_of_getElem? (i := 1) rfl) rfl (Ff3_at7 r u) dX3_next_23 ?_
      refine m_iald S hI 1 0 (W3_at1 h r cs u) rfl hw.1 dX3_next_26 ?_
      refine lv_topi (fun y26 ey26 => ?_)
      have hw := hw.2 y26 ey26
      refine lv_goto (tgt := 31) S.1 S.2.1 dX3_next_27 (by decide) ?_
      exact b31 y26 u hw H locs ls hI (lv_sub hl [0] rfl)

def wp_X3_isDigit_p17 (t0 : Int32) (Q : Int32 → Prop) : Prop :=
  t0 &&& 1 = t0 ∧ Q t0
def wp_X3_isDigit_p16 (Q : Int32 → Prop) : Prop :=
  wp_X3_isDigit_p17 (0 : Int32) Q
def wp_X3_isDigit (a0 : Int32) (Q : Int32 → Prop) : Prop :=
  ((a0 < (48 : Int32) → wp_X3_isDigit_p16 Q) ∧ (¬ a0 < (48 : Int32) → (((57 : Int32) < a0 → wp_X3_isDigit_p16 Q) ∧ (¬ (57 : Int32) < a0 → wp_X3_isDigit_p17 (1 : Int32) Q))))
set_option maxHeartbeats 4000000 in
set_option maxRecDepth 100000 in
theorem c_X3_isDigit (l : Launch) (a0 : Int32) (Q : Int32 → Prop) (hw : wp_X3_isDigit a0 Q) : mTi l yX3_isDigit wsX3_isDigit ({ frames := 0, cells := 0, slots := 0, locals := 0 } : Room) [.int a0] Q := by
  refine m_enterT (cc := cX3_isDigit) (maxL := 1) (ret := (some .boolean)) (by decide) rfl (Nat.le_of_ble_eq_true rfl) ?_
  intro p e s m args below meth c ls S hr hlocks hname hl hN
  have S : CallFix p m c cX3_isDigit 1 s args wsX3_isDigit RX3 := S
  generalize hZ : MQ below (vp_Si Q) args s 0 0 (fun _ => False) = Z
  have hl : lv_has ls 1 [(0, .int a0)] := hl
  have b17 : ∀ (t0 : Int32), wp_X3_isDigit_p17 t0 Q → mGt p l e ({ frames := 0, cells := 0, slots := 0, locals := 0 } : Room) s m args below meth c Z 1 17 [] [.int t0] := by
    intro t0 hw ls hl
    unfold wp_X3_isDigit_p17 at hw
    subst hZ
    exact m_tzret S hr hlocks hw.1 hw.2 dX3_isDigit_17
  have b16 : wp_X3_isDigit_p16 Q → mGt p l e ({ frames := 0, cells := 0, slots := 0, locals := 0 } : Room) s m args below meth c Z 1 16 [] [] := by
    intro hw ls hl
    unfold wp_X3_isDigit_p16 at hw
    refine lv_iconst (v := 0) S.1 S.2.1 dX3_isDigit_16 (by decide) ?_
    exact b17 (0 : Int32) hw ls (lv_sub hl [] rfl)
  unfold wp_X3_isDigit at hw
  refine lv_iload_n S.1 S.2.1 dX3_isDigit_0 rfl (lv_at hl 0 rfl) ?_
  refine lv_bipush (v := 48) S.1 S.2.1 dX3_isDigit_1 (by decide) ?_
  refine lv_icmp_lt (tgt := 16) S.1 S.2.1 dX3_isDigit_3 (by decide) (fun c3 => ?_) (fun c3 => ?_)
  · have hw := hw.1 c3
    exact b16 hw ls (lv_sub hl [] rfl)
  · have hw := hw.2 c3
    refine lv_iload_n S.1 S.2.1 dX3_isDigit_6 rfl (lv_at hl 0 rfl) ?_
    refine lv_bipush (v := 57) S.1 S.2.1 dX3_isDigit_7 (by decide) ?_
    refine lv_icmp_gt (tgt := 16) S.1 S.2.1 dX3_isDigit_9 (by decide) (fun c9 => ?_) (fun c9 => ?_)
    · have hw := hw.1 c9
      exact b16 hw ls (lv_sub hl [] rfl)
    · have hw := hw.2 c9
      refine lv_iconst (v := 1) S.1 S.2.1 dX3_isDigit_12 (by decide) ?_
      refine lv_goto (tgt := 17) S.1 S.2.1 dX3_isDigit_13 (by decide) ?_
      exact b17 (1 : Int32) hw ls (lv_sub hl [] rfl)

def wp_X3_write_p29 (u : ST) (Q : ST → Prop) : Prop :=
  Q u
def wp_X3_write (a1 : Int32) (u : ST) (Q : ST → Prop) : Prop :=
  (((124 : Int32) ≤ (gI u 6) → wp_X3_write_p29 u Q) ∧ (¬ (124 : Int32) ≤ (gI u 6) → (vp_in (gI u 6) 124 ∧ ∀ u18 : ST, u18 = sA u 3 (upd (gA u 3) (gI u 6).toNatClampNeg a1) → (∀ y25 : Int32, y25 = (gI u18 6) + (1 : Int32) → (∀ u26 : ST, u26 = sI u18 6 y25 → wp_X3_write_p29 u26 Q)))))
set_option maxHeartbeats 4000000 in
set_option maxRecDepth 100000 in
theorem c_X3_write (l : Launch) (D : va_G) (h : Nat) (r : Nat → Nat) (cs : Nat → ClassId) (a1 : Int32) (u : ST) (Q : ST → Prop) (hw : wp_X3_write a1 u Q) : mCv l yX3_write wsX3_write ({ frames := 0, cells := 0, slots := 0, locals := 0 } : Room) 0 0 D (mT cs) (W3 h r cs) [.ref h, .int a1] u Q := by
  unfold mCv
  refine m_enter (QQ := fun A => va_Qv Q (mPos D (mT cs) A (W3 h r cs)) A) (cc := cX3_write) (maxL := 2) (ret := none) (by decide) rfl (Nat.le_of_ble_eq_true rfl) ?_
  intro p e s m args below meth c A ls S hr hlocks hname hl hI
  have S : CallFix p m c cX3_write 2 s args wsX3_write RX3 := S
  show W p l e ({ frames := 0, cells := 0, slots := 0, locals := 0 } : Room) s m args below meth c s.heap [] 0 0 (MQ below (va_Qv Q (mPos D (mT cs) A (W3 h r cs)) A) args s 0 0 A) (F0 m 0 ls [])
  generalize hZ : MQ below (va_Qv Q (mPos D (mT cs) A (W3 h r cs)) A) args s 0 0 A = Z
  have hin : ∀ w ∈ wsX30, w ∈ wsX3_write := fun _ h => List.mem_cons_of_mem _ (List.mem_append_right _ h)
  have hl : lv_has ls 2 [(0, .ref h), (1, .int a1)] := hl
  have b29 : ∀ (u : ST), wp_X3_write_p29 u Q → mGo p l e ({ frames := 0, cells := 0, slots := 0, locals := 0 } : Room) s m args below meth c A Z 2 D (mT cs) (W3 h r cs) 29 [(0, .ref h)] [] u := by
    intro u hw H locs ls hI hl
    unfold wp_X3_write_p29 at hw
    subst hZ
    exact m_vret S hr hlocks hI hw dX3_write_29
  unfold wp_X3_write at hw
  obtain ⟨H, hH⟩ : ∃ z : Heap, z = s.heap := ⟨_, rfl⟩
  obtain ⟨locs, hL⟩ : ∃ z : List Loc, z = [] := ⟨_, rfl⟩
  rw [show W p l e ({ frames := 0, cells := 0, slots := 0, locals := 0 } : Room) s m args below meth c s.heap [] 0 0 Z (F0 m 0 ls []) = W p l e ({ frames := 0, cells := 0, slots := 0, locals := 0 } : Room) s m args below meth c H locs 0 0 Z (F0 m 0 ls []) by rw [hH, hL]]
  replace hI : mI D (mT cs) A s.heap s (W3 h r cs u) H locs := by rw [hH, hL]; exact hI
  refine lv_aload_n S.1 S.2.1 dX3_write_0 rfl (lv_at hl 0 rfl) ?_
  refine m_get S hin hI 0 (W3_at0 h r cs u) rfl 6 (Nat.le_of_ble_eq_true rfl) (List.mem_of_getElem? (i := 1) rfl) rfl (Ff3_at6 r u) dX3_write_1 ?_
  refine lv_bipush (v := 124) S.1 S.2.1 dX3_write_4 (by decide) ?_
  refine lv_icmp_ge (tgt := 29) S.1 S.2.1 dX3_write_6 (by decide) (fun c6 => ?_) (fun c6 => ?_)
  · have hw := hw.1 c6
    exact b29 u hw H locs ls hI (lv_sub hl [0] rfl)
  · have hw := hw.2 c6
    refine lv_aload_n S.1 S.2.1 dX3_write_9 rfl (lv_at hl 0 rfl) ?_
    refine m_get S hin hI 0 (W3_at0 h r cs u) rfl 3 (Nat.le_of_ble_eq_true rfl) (List.mem_of_getElem? (i := 2) rfl) rfl (Ff3_at3 r u) dX3_write_10 ?_
    refine lv_aload_n S.1 S.2.1 dX3_write_13 rfl (lv_at hl 0 rfl) ?_
    refine m_get S hin hI 0 (W3_at0 h r cs u) rfl 6 (Nat.le_of_ble_eq_true rfl) (List.mem_of_getElem? (i := 1) rfl) rfl (Ff3_at6 r u) dX3_write_14 ?_
    refine lv_iload_n S.1 S.2.1 dX3_write_17 rfl (lv_at hl 1 rfl) ?_
    obtain ⟨u18, eu18⟩ : ∃ z : ST, z = sA u 3 (upd (gA u 3) (gI u 6).toNatClampNeg a1) := ⟨_, rfl⟩
    refine m_iast S hI 4 0 (W3_at4 h r cs u) rfl hw.1 (W3_sA3 h r cs u u18 _ eu18) dX3_write_18 (fun H locs hI => ?_)
    have hw := hw.2 u18 eu18
    refine lv_aload_n S.1 S.2.1 dX3_write_19 rfl (lv_at hl 0 rfl) ?_
    refine lv_dup S.1 S.2.1 dX3_write_20 rfl ?_
    refine m_get S hin hI 0 (W3_at0 h r cs u18) rfl 6 (Nat.le_of_ble_eq_true rfl) (List.mem_of_getElem? (i := 1) rfl) rfl (Ff3_at6 r u18) dX3_write_21 ?_
    refine lv_iconst (v := 1) S.1 S.2.1 dX3_write_24 (by decide) ?_
    refine lv_iadd S.1 S.2.1 dX3_write_25 ?_
    refine lv_topi (fun y25 ey25 => ?_)
    have hw := hw y25 ey25
    obtain ⟨u26, eu26⟩ : ∃ z : ST, z = sI u18 6 y25 := ⟨_, rfl⟩
    have hw := hw u26 eu26
    refine m_put S hin tyX3_ok nmX3 hI 0 (W3_at0 h r cs u18) rfl 6 (Nat.le_of_ble_eq_true rfl) (List.mem_of_getElem? (i := 1) rfl) rfl rfl rfl rfl (Nat.le_of_ble_eq_true rfl) (W3_sI6 h r cs u18 u26 y25 eu26) dX3_write_26 (fun H locs hI => ?_)
    exact b29 u26 hw H locs ls hI (lv_sub hl [0] rfl)

def wp_X3_readNumber_p48 (x1 : Int32) (u : ST) (Q : ST → Prop) : Prop :=
  (wp_X3_write x1 u (fun u50 => Q u50))
def wp_X3_readNumber_p4b (x1 : Int32) (x2 : Int32) (u : ST) (B4 : Int32 → Int32 → ST → Prop) (Q : ST → Prop) : Prop :=
  (((4 : Int32) ≤ x2 → wp_X3_readNumber_p48 x1 u Q) ∧ (¬ (4 : Int32) ≤ x2 → (wp_X3_next u (fun y10 u10 => (wp_X3_isDigit y10 (fun y13 => ((y13 = 0 → wp_X3_readNumber_p48 x1 u10 Q) ∧ (¬ y13 = 0 → (∀ y22 : Int32, y22 = x1 * (10 : Int32) → (wp_X3_next u10 (fun y24 u24 => (∀ y27 : Int32, y27 = y22 + y24 → (∀ y30 : Int32, y30 = y27 - (48 : Int32) → (∀ y38 : Int32, y38 = (gI u24 7) + (1 : Int32) → (∀ u39 : ST, u39 = sI u24 7 y38 → (∀ y42 : Int32, y42 = x2 + 1 → B4 y30 y42 u39))))))))))))))))
def wp_X3_readNumber_p4 (x1 : Int32) (x2 : Int32) (u : ST) (Q : ST → Prop) : Prop := ∃ (I : Int32 → Int32 → ST → Prop) (μ : Int32 → Int32 → ST → Nat), I x1 x2 u ∧ ∀ (x1 : Int32) (x2 : Int32) (u : ST), I x1 x2 u → wp_X3_readNumber_p4b x1 x2 u (fun yx1 yx2 yu => I yx1 yx2 yu ∧ μ yx1 yx2 yu < μ x1 x2 u) Q
def wp_X3_readNumber (u : ST) (Q : ST → Prop) : Prop :=
  wp_X3_readNumber_p4 (0 : Int32) (0 : Int32) u Q
set_option maxHeartbeats 4000000 in
set_option maxRecDepth 100000 in
theorem c_X3_readNumber (l : Launch) (D : va_G) (h : Nat) (r : Nat → Nat) (cs : Nat → ClassId) (u : ST) (Q : ST → Prop) (hw : wp_X3_readNumber u Q) : mCv l yX3_readNumber wsX3_readNumber ({ frames := 1, cells := 0, slots := 0, locals := 21 } : Room) 0 0 D (mT cs) (W3 h r cs) [.ref h] u Q := by
  unfold mCv
  refine m_enter (QQ := fun A => va_Qv Q (mPos D (mT cs) A (W3 h r cs)) A) (cc := cX3_readNumber) (maxL := 3) (ret := none) (by decide) rfl (Nat.le_of_ble_eq_true rfl) ?_
  intro p e s m args below meth c A ls S hr hlocks hname hl hI
  have S : CallFix p m c cX3_readNumber 3 s args wsX3_readNumber RX3 := S
  show W p l e ({ frames := 1, cells := 0, slots := 0, locals := 21 } : Room) s m args below meth c s.heap [] 0 0 (MQ below (va_Qv Q (mPos D (mT cs) A (W3 h r cs)) A) args s 0 0 A) (F0 m 0 ls [])
  generalize hZ : MQ below (va_Qv Q (mPos D (mT cs) A (W3 h r cs)) A) args s 0 0 A = Z
  have hin : ∀ w ∈ wsX30, w ∈ wsX3_readNumber := fun _ h => List.mem_cons_of_mem _ (List.mem_append_right _ h)
  have hl : lv_has ls 3 [(0, .ref h)] := hl
  have b48 : ∀ (x1 : Int32) (u : ST), wp_X3_readNumber_p48 x1 u Q → mGo p l e ({ frames := 1, cells := 0, slots := 0, locals := 21 } : Room) s m args below meth c A Z 3 D (mT cs) (W3 h r cs) 48 [(0, .ref h), (1, .int x1)] [] u := by
    intro x1 u hw H locs ls hI hl
    unfold wp_X3_readNumber_p48 at hw
    refine lv_aload_n S.1 S.2.1 dX3_readNumber_48 rfl (lv_at hl 0 rfl) ?_
    refine lv_iload_n S.1 S.2.1 dX3_readNumber_49 rfl (lv_at hl 1 rfl) ?_
    refine m_vv (As := [.int x1]) (rest := []) S (W3_self h r cs) hI rfl (c_X3_write l D h r cs x1 u _ hw) (cwV 1 S.2.2.2.2 gX3_readNumber_X3_write rfl rfl rfl (by decide +kernel) ⟨Nat.le_of_ble_eq_true rfl, Nat.le_of_ble_eq_true rfl⟩) (W3_at0 h r cs u) rfl rfl hl.1 rfl (Nat.le_of_ble_eq_true rfl) dX3_readNumber_50 ⟨Nat.zero_le _, Nat.zero_le _⟩ (fun u50 H locs hw hI => ?_)
    subst hZ
    exact m_vret S hr hlocks hI hw dX3_readNumber_53
  have b4b : ∀ (B4 : Int32 → Int32 → ST → Prop), (∀ (x1 : Int32) (x2 : Int32) (u : ST), B4 x1 x2 u → mGo p l e ({ frames := 1, cells := 0, slots := 0, locals := 21 } : Room) s m args below meth c A Z 3 D (mT cs) (W3 h r cs) 4 [(0, .ref h), (1, .int x1), (2, .int x2)] [] u) → ∀ (x1 : Int32) (x2 : Int32) (u : ST), wp_X3_readNumber_p4b x1 x2 u B4 Q → mGo p l e ({ frames := 1, cells := 0, slots := 0, locals := 21 } : Room) s m args below meth c A Z 3 D (mT cs) (W3 h r cs) 4 [(0, .ref h), (1, .int x1), (2, .int x2)] [] u := by
    intro B4 hB4 x1 x2 u hw H locs ls hI hl
    unfold wp_X3_readNumber_p4b at hw
    refine lv_iload_n S.1 S.2.1 dX3_readNumber_4 rfl (lv_at hl 2 rfl) ?_
    refine lv_iconst (v := 4) S.1 S.2.1 dX3_readNumber_5 (by decide) ?_
    refine lv_icmp_ge (tgt := 48) S.1 S.2.1 dX3_readNumber_6 (by decide) (fun c6 => ?_) (fun c6 => ?_)
    · have hw := hw.1 c6
      exact b48 x1 u hw H locs ls hI (lv_sub hl [0, 1] rfl)
    · have hw := hw.2 c6
      refine lv_aload_n S.1 S.2.1 dX3_readNumber_9 rfl (lv_at hl 0 rfl) ?_
      refine m_vi (As := []) (rest := []) S (W3_self h r cs) hI rfl (c_X3_next l D h r cs u _ hw) (cwV 0 S.2.2.2.2 gX3_readNumber_X3_next rfl rfl rfl (by decide +kernel) ⟨Nat.le_of_ble_eq_true rfl, Nat.le_of_ble_eq_true rfl⟩) (W3_at0 h r cs u) rfl rfl hl.1 rfl (Nat.le_of_ble_eq_true rfl) dX3_readNumber_10 ⟨Nat.zero_le _, Nat.zero_le _⟩ (fun y10 u10 H locs hw hI => ?_)
      refine m_si (As := [.int y10]) (rest := []) S hI.2.2.2.1.2.1 (c_X3_isDigit l y10 _ hw) (va_cwS 1 S.2.2.2.2 gX3_readNumber_X3_isDigit rfl rfl rfl (by decide +kernel) ⟨Nat.le_of_ble_eq_true rfl, Nat.le_of_ble_eq_true rfl⟩) rfl hl.1 rfl (Nat.le_of_ble_eq_true rfl) dX3_readNumber_13 ⟨Nat.zero_le _, Nat.zero_le _⟩ (fun y13 hw => ?_)
      refine lv_if_eq (tgt := 48) S.1 S.2.1 dX3_readNumber_16 (by decide) (fun c16 => ?_) (fun c16 => ?_)
      · have hw := hw.1 c16
        exact b48 x1 u10 hw H locs ls hI (lv_sub hl [0, 1] rfl)
      · have hw := hw.2 c16
        refine lv_iload_n S.1 S.2.1 dX3_readNumber_19 rfl (lv_at hl 1 rfl) ?_
        refine lv_bipush (v := 10) S.1 S.2.1 dX3_readNumber_20 (by decide) ?_
        refine lv_imul S.1 S.2.1 dX3_readNumber_22 ?_
        refine lv_topi (fun y22 ey22 => ?_)
        have hw := hw y22 ey22
        refine lv_aload_n S.1 S.2.1 dX3_readNumber_23 rfl (lv_at hl 0 rfl) ?_
        refine m_vi (As := []) (rest := [.int y22]) S (W3_self h r cs) hI rfl (c_X3_next l D h r cs u10 _ hw) (cwV 0 S.2.2.2.2 gX3_readNumber_X3_next rfl rfl rfl (by decide +kernel) ⟨Nat.le_of_ble_eq_true rfl, Nat.le_of_ble_eq_true rfl⟩) (W3_at0 h r cs u10) rfl rfl hl.1 rfl (Nat.le_of_ble_eq_true rfl) dX3_readNumber_24 ⟨Nat.zero_le _, Nat.zero_le _⟩ (fun y24 u24 H locs hw hI => ?_)
        refine lv_iadd S.1 S.2.1 dX3_readNumber_27 ?_
        refine lv_topi (fun y27 ey27 => ?_)
        have hw := hw y27 ey27
        refine lv_bipush (v := 48) S.1 S.2.1 dX3_readNumber_28 (by decide) ?_
        refine lv_isub S.1 S.2.1 dX3_readNumber_30 ?_
        refine lv_topi (fun y30 ey30 => ?_)
        have hw := hw y30 ey30
        refine lv_istore_n (lv' := [(1, .int y30), (0, .ref h), (2, .int x2)]) S.1 S.2.1 dX3_readNumber_31 rfl hl (by decide) rfl (fun ls hl => ?_)
        refine lv_aload_n S.1 S.2.1 dX3_readNumber_32 rfl (lv_at hl 1 rfl) ?_
        refine lv_dup S.1 S.2.1 dX3_readNumber_33 rfl ?_
        refine m_get S hin hI 0 (W3_at0 h r cs u24) rfl 7 (Nat.le_of_ble_eq_true rfl) (List.mem_of_getElem? (i := 1) rfl) rfl (Ff3_at7 r u24) dX3_readNumber_34 ?_
        refine lv_iconst (v := 1) S.1 S.2.1 dX3_readNumber_37 (by decide) ?_
        refine lv_iadd S.1 S.2.1 dX3_readNumber_38 ?_
        refine lv_topi (fun y38 ey38 => ?_)
        have hw := hw y38 ey38
        obtain ⟨u39, eu39⟩ : ∃ z : ST, z = sI u24 7 y38 := ⟨_, rfl⟩
        have hw := hw u39 eu39
        refine m_put S hin tyX3_ok nmX3 hI 0 (W3_at0 h r cs u24) rfl 7 (Nat.le_of_ble_eq_true rfl) (List.mem_of_getElem? (i := 1) rfl) rfl rfl rfl rfl (Nat.le_of_ble_eq_true rfl) (W3_sI7 h r cs u24 u39 y38 eu39) dX3_readNumber_39 (fun H locs hI => ?_)
        obtain ⟨y42, ey42⟩ : ∃ z : Int32, z = x2 + 1 := ⟨_, rfl⟩
        have hw := hw y42 ey42
        refine lv_iinc (v := y42) (lv' := [(2, .int y42), (1, .int y30), (0, .ref h)]) S.1 S.2.1 dX3_readNumber_42 hl (k := 2) rfl (by rw [ey42]; rfl) (by decide) rfl (fun ls hl => ?_)
        refine lv_goto (tgt := 4) S.1 S.2.1 dX3_readNumber_45 (by decide) ?_
        exact hB4 y30 y42 u39 hw H locs ls hI (lv_sub hl [2, 1, 0] rfl)
  have b4 : ∀ (x1 : Int32) (x2 : Int32) (u : ST), wp_X3_readNumber_p4 x1 x2 u Q → mGo p l e ({ frames := 1, cells := 0, slots := 0, locals := 21 } : Room) s m args below meth c A Z 3 D (mT cs) (W3 h r cs) 4 [(0, .ref h), (1, .int x1), (2, .int x2)] [] u := by
    intro x1 x2 u hw
    obtain ⟨I, μ, h0, hs⟩ := hw
    have key : ∀ (n : Nat) (x1 : Int32) (x2 : Int32) (u : ST), μ x1 x2 u = n → I x1 x2 u → mGo p l e ({ frames := 1, cells := 0, slots := 0, locals := 21 } : Room) s m args below meth c A Z 3 D (mT cs) (W3 h r cs) 4 [(0, .ref h), (1, .int x1), (2, .int x2)] [] u := by
      intro n
      induction n using Nat.strongRecOn with
      | ind n ih =>
        intro x1 x2 u hn hi
        exact b4b (fun yx1 yx2 yu => I yx1 yx2 yu ∧ μ yx1 yx2 yu < μ x1 x2 u) (fun yx1 yx2 yu hb => ih _ (hn ▸ hb.2) yx1 yx2 yu rfl hb.1) x1 x2 u (hs x1 x2 u hi)
    exact key _ x1 x2 u rfl h0
  unfold wp_X3_readNumber at hw
  obtain ⟨H, hH⟩ : ∃ z : Heap, z = s.heap := ⟨_, rfl⟩
  obtain ⟨locs, hL⟩ : ∃ z : List Loc, z = [] := ⟨_, rfl⟩
  rw [show W p l e ({ frames := 1, cells := 0, slots := 0, locals := 21 } : Room) s m args below meth c s.heap [] 0 0 Z (F0 m 0 ls []) = W p l e ({ frames := 1, cells := 0, slots := 0, locals := 21 } : Room) s m args below meth c H locs 0 0 Z (F0 m 0 ls []) by rw [hH, hL]]
  replace hI : mI D (mT cs) A s.heap s (W3 h r cs u) H locs := by rw [hH, hL]; exact hI
  refine lv_iconst (v := 0) S.1 S.2.1 dX3_readNumber_0 (by decide) ?_
  refine lv_istore_n (lv' := [(1, .int (0 : Int32)), (0, .ref h)]) S.1 S.2.1 dX3_readNumber_1 rfl hl (by decide) rfl (fun ls hl => ?_)
  refine lv_iconst (v := 0) S.1 S.2.1 dX3_readNumber_2 (by decide) ?_
  refine lv_istore_n (lv' := [(2, .int (0 : Int32)), (1, .int (0 : Int32)), (0, .ref h)]) S.1 S.2.1 dX3_readNumber_3 rfl hl (by decide) rfl (fun ls hl => ?_)
  exact b4 (0 : Int32) (0 : Int32) u hw H locs ls hI (lv_sub hl [2, 1, 0] rfl)

def wp_X3_readEnclosed_p24 (u : ST) (P : Nat → Int32 → Int32 → ST → (Int32 → ST → Prop) → Prop) (Q : Int32 → ST → Prop) : Prop :=
  ((0 : Int32) &&& 1 = (0 : Int32) ∧ Q (0 : Int32) u)
def wp_X3_readEnclosed (a1 : Int32) (u : ST) (P : Nat → Int32 → Int32 → ST → (Int32 → ST → Prop) → Prop) (Q : Int32 → ST → Prop) : Prop :=
  (((6 : Int32) < a1 → wp_X3_readEnclosed_p24 u P Q) ∧ (¬ (6 : Int32) < a1 → (P 0 (0 : Int32) a1 u (fun y9 u9 => ((y9 = 0 → wp_X3_readEnclosed_p24 u9 P Q) ∧ (¬ y9 = 0 → (wp_X3_next u9 (fun y16 u16 => ((y16 = (41 : Int32) → (∀ y32 : Int32, y32 = (gI u16 7) + (1 : Int32) → (∀ u33 : ST, u33 = sI u16 7 y32 → ((1 : Int32) &&& 1 = (1 : Int32) ∧ Q (1 : Int32) u33)))) ∧ (¬ y16 = (41 : Int32) → wp_X3_readEnclosed_p24 u16 P Q))))))))))
set_option maxHeartbeats 4000000 in
set_option maxRecDepth 100000 in
theorem c_X3_readEnclosed (l : Launch) (D : va_G) (h : Nat) (r : Nat → Nat) (cs : Nat → ClassId) (d : Nat) (P : Nat → Int32 → Int32 → ST → (Int32 → ST → Prop) → Prop) (hP0 : (∀ (a1 : Int32) (a2 : Int32) (u : ST) (Q : Int32 → ST → Prop), P 0 a1 a2 u Q → mCi l yX3_readJoined wsX3_readJoined (rmS d) 0 0 D (mT cs) (W3 h r cs) [.ref h, .int a1, .int a2] u Q)) (hP1 : (∀ (a1 : Int32) (u : ST) (Q : Int32 → ST → Prop), P 1 a1 (0 : Int32) u Q → mCi l yX3_readOperand wsX3_readOperand (rmS d) 0 0 D (mT cs) (W3 h r cs) [.ref h, .int a1] u Q)) (hP2 : (∀ (a1 : Int32) (u : ST) (Q : Int32 → ST → Prop), P 2 a1 (0 : Int32) u Q → mCi l yX3_readEnclosed wsX3_readEnclosed (rmS d) 0 0 D (mT cs) (W3 h r cs) [.ref h, .int a1] u Q)) (hP3 : (∀ (a1 : Int32) (a2 : Int32) (u : ST) (Q : Int32 → ST → Prop), P 3 a1 a2 u Q → mCi l yX3_readTurned wsX3_readTurned (rmS d) 0 0 D (mT cs) (W3 h r cs) [.ref h, .int a1, .int a2] u Q)) (a1 : Int32) (u : ST) (Q : Int32 → ST → Prop) (hw : wp_X3_readEnclosed a1 u P Q) : mCi l yX3_readEnclosed wsX3_readEnclosed (rmS (d + 1)) 0 0 D (mT cs) (W3 h r cs) [.ref h, .int a1] u Q := by
  unfold mCi
  refine m_enter (QQ := fun A => va_Qi Q (mPos D (mT cs) A (W3 h r cs)) A) (cc := cX3_readEnclosed) (maxL := 2) (ret := (some .boolean)) (by decide) rfl (Nat.le_of_ble_eq_true rfl) ?_
  intro p e s m args below meth c A ls S hr hlocks hname hl hI
  have S : CallFix p m c cX3_readEnclosed 2 s args wsX3_readEnclosed RX3 := S
  show W p l e (rmS (d + 1)) s m args below meth c s.heap [] 0 0 (MQ below (va_Qi Q (mPos D (mT cs) A (W3 h r cs)) A) args s 0 0 A) (F0 m 0 ls [])
  generalize hZ : MQ below (va_Qi Q (mPos D (mT cs) A (W3 h r cs)) A) args s 0 0 A = Z
  have hin : ∀ w ∈ wsX30, w ∈ wsX3_readEnclosed := fun _ h => List.mem_cons_of_mem _ (List.mem_append_right _ h)
  have hl : lv_has ls 2 [(0, .ref h), (1, .int a1)] := hl
  have b24 : ∀ (u : ST), wp_X3_readEnclosed_p24 u P Q → mGo p l e (rmS (d + 1)) s m args below meth c A Z 2 D (mT cs) (W3 h r cs) 24 [(0, .ref h)] [] u := by
    intro u hw H locs ls hI hl
    unfold wp_X3_readEnclosed_p24 at hw
    refine lv_iconst (v := 0) S.1 S.2.1 dX3_readEnclosed_24 (by decide) ?_
    subst hZ
    exact m_zret S hr hlocks hI hw.1 hw.2 dX3_readEnclosed_25
  unfold wp_X3_readEnclosed at hw
  obtain ⟨H, hH⟩ : ∃ z : Heap, z = s.heap := ⟨_, rfl⟩
  obtain ⟨locs, hL⟩ : ∃ z : List Loc, z = [] := ⟨_, rfl⟩
  rw [show W p l e (rmS (d + 1)) s m args below meth c s.heap [] 0 0 Z (F0 m 0 ls []) = W p l e (rmS (d + 1)) s m args below meth c H locs 0 0 Z (F0 m 0 ls []) by rw [hH, hL]]
  replace hI : mI D (mT cs) A s.heap s (W3 h r cs u) H locs := by rw [hH, hL]; exact hI
  refine lv_iload_n S.1 S.2.1 dX3_readEnclosed_0 rfl (lv_at hl 1 rfl) ?_
  refine lv_bipush (v := 6) S.1 S.2.1 dX3_readEnclosed_1 (by decide) ?_
  refine lv_icmp_gt (tgt := 24) S.1 S.2.1 dX3_readEnclosed_3 (by decide) (fun c3 => ?_) (fun c3 => ?_)
  · have hw := hw.1 c3
    exact b24 u hw H locs ls hI (lv_sub hl [0] rfl)
  · have hw := hw.2 c3
    refine lv_aload_n S.1 S.2.1 dX3_readEnclosed_6 rfl (lv_at hl 0 rfl) ?_
    refine lv_iconst (v := 0) S.1 S.2.1 dX3_readEnclosed_7 (by decide) ?_
    refine lv_iload_n S.1 S.2.1 dX3_readEnclosed_8 rfl (lv_at hl 1 rfl) ?_
    refine m_vi (As := [.int (0 : Int32), .int a1]) (rest := []) S (W3_self h r cs) hI rfl (hP0 (0 : Int32) a1 u _ hw) (cwV 2 S.2.2.2.2 gX3_readEnclosed_X3_readJoined rfl rfl rfl (by decide +kernel) ⟨by simp only [rmS]; omega, by simp only [rmS]; omega⟩) (W3_at0 h r cs u) rfl rfl hl.1 rfl (Nat.le_of_ble_eq_true rfl) dX3_readEnclosed_9 ⟨Nat.zero_le _, Nat.zero_le _⟩ (fun y9 u9 H locs hw hI => ?_)
    refine lv_if_eq (tgt := 24) S.1 S.2.1 dX3_readEnclosed_12 (by decide) (fun c12 => ?_) (fun c12 => ?_)
    · have hw := hw.1 c12
      exact b24 u9 hw H locs ls hI (lv_sub hl [0] rfl)
    · have hw := hw.2 c12
      refine lv_aload_n S.1 S.2.1 dX3_readEnclosed_15 rfl (lv_at hl 0 rfl) ?_
      refine m_vi (As := []) (rest := []) S (W3_self h r cs) hI rfl (c_X3_next l D h r cs u9 _ hw) (cwV 0 S.2.2.2.2 gX3_readEnclosed_X3_next rfl rfl rfl (by decide +kernel) ⟨by simp only [rmS]; omega, by simp only [rmS]; omega⟩) (W3_at0 h r cs u9) rfl rfl hl.1 rfl (Nat.le_of_ble_eq_true rfl) dX3_readEnclosed_16 ⟨Nat.zero_le _, Nat.zero_le _⟩ (fun y16 u16 H locs hw hI => ?_)
      refine lv_bipush (v := 41) S.1 S.2.1 dX3_readEnclosed_19 (by decide) ?_
      refine lv_icmp_eq (tgt := 26) S.1 S.2.1 dX3_readEnclosed_21 (by decide) (fun c21 => ?_) (fun c21 => ?_)
      · have hw := hw.1 c21
        refine lv_aload_n S.1 S.2.1 dX3_readEnclosed_26 rfl (lv_at hl 0 rfl) ?_
        refine lv_dup S.1 S.2.1 dX3_readEnclosed_27 rfl ?_
        refine m_get S hin hI 0 (W3_at0 h r cs u16) rfl 7 (Nat.le_of_ble_eq_true rfl) (List.mem_of_getElem? (i := 1) rfl) rfl (Ff3_at7 r u16) dX3_readEnclosed_28 ?_
        refine lv_iconst (v := 1) S.1 S.2.1 dX3_readEnclosed_31 (by decide) ?_
        refine lv_iadd S.1 S.2.1 dX3_readEnclosed_32 ?_
        refine lv_topi (fun y32 ey32 => ?_)
        have hw := hw y32 ey32
        obtain ⟨u33, eu33⟩ : ∃ z : ST, z = sI u16 7 y32 := ⟨_, rfl⟩
        have hw := hw u33 eu33
        refine m_put S hin tyX3_ok nmX3 hI 0 (W3_at0 h r cs u16) rfl 7 (Nat.le_of_ble_eq_true rfl) (List.mem_of_getElem? (i := 1) rfl) rfl rfl rfl rfl (Nat.le_of_ble_eq_true rfl) (W3_sI7 h r cs u16 u33 y32 eu33) dX3_readEnclosed_33 (fun H locs hI => ?_)
        refine lv_iconst (v := 1) S.1 S.2.1 dX3_readEnclosed_36 (by decide) ?_
        subst hZ
        exact m_zret S hr hlocks hI hw.1 hw.2 dX3_readEnclosed_37
      · have hw := hw.2 c21
        exact b24 u16 hw H locs ls hI (lv_sub hl [0] rfl)

def wp_X3_readTurned_p14 (u : ST) (P : Nat → Int32 → Int32 → ST → (Int32 → ST → Prop) → Prop) (Q : Int32 → ST → Prop) : Prop :=
  ((0 : Int32) &&& 1 = (0 : Int32) ∧ Q (0 : Int32) u)
def wp_X3_readTurned_p30 (t1 : Int32) (u : ST) (P : Nat → Int32 → Int32 → ST → (Int32 → ST → Prop) → Prop) (Q : Int32 → ST → Prop) : Prop :=
  (wp_X3_write t1 u (fun u30 => ((1 : Int32) &&& 1 = (1 : Int32) ∧ Q (1 : Int32) u30)))
def wp_X3_readTurned (a1 : Int32) (a2 : Int32) (u : ST) (P : Nat → Int32 → Int32 → ST → (Int32 → ST → Prop) → Prop) (Q : Int32 → ST → Prop) : Prop :=
  (((6 : Int32) < a2 → wp_X3_readTurned_p14 u P Q) ∧ (¬ (6 : Int32) < a2 → (P 1 a2 (0 : Int32) u (fun y8 u8 => ((¬ y8 = 0 → ((¬ a1 = (33 : Int32) → wp_X3_readTurned_p30 ((-4) : Int32) u8 P Q) ∧ (a1 = (33 : Int32) → wp_X3_readTurned_p30 ((-33) : Int32) u8 P Q))) ∧ (y8 = 0 → wp_X3_readTurned_p14 u8 P Q))))))
set_option maxHeartbeats 4000000 in
set_option maxRecDepth 100000 in
theorem c_X3_readTurned (l : Launch) (D : va_G) (h : Nat) (r : Nat → Nat) (cs : Nat → ClassId) (d : Nat) (P : Nat → Int32 → Int32 → ST → (Int32 → ST → Prop) → Prop) (hP0 : (∀ (a1 : Int32) (a2 : Int32) (u : ST) (Q : Int32 → ST → Prop), P 0 a1 a2 u Q → mCi l yX3_readJoined wsX3_readJoined (rmS d) 0 0 D (mT cs) (W3 h r cs) [.ref h, .int a1, .int a2] u Q)) (hP1 : (∀ (a1 : Int32) (u : ST) (Q : Int32 → ST → Prop), P 1 a1 (0 : Int32) u Q → mCi l yX3_readOperand wsX3_readOperand (rmS d) 0 0 D (mT cs) (W3 h r cs) [.ref h, .int a1] u Q)) (hP2 : (∀ (a1 : Int32) (u : ST) (Q : Int32 → ST → Prop), P 2 a1 (0 : Int32) u Q → mCi l yX3_readEnclosed wsX3_readEnclosed (rmS d) 0 0 D (mT cs) (W3 h r cs) [.ref h, .int a1] u Q)) (hP3 : (∀ (a1 : Int32) (a2 : Int32) (u : ST) (Q : Int32 → ST → Prop), P 3 a1 a2 u Q → mCi l yX3_readTurned wsX3_readTurned (rmS d) 0 0 D (mT cs) (W3 h r cs) [.ref h, .int a1, .int a2] u Q)) (a1 : Int32) (a2 : Int32) (u : ST) (Q : Int32 → ST → Prop) (hw : wp_X3_readTurned a1 a2 u P Q) : mCi l yX3_readTurned wsX3_readTurned (rmS (d + 1)) 0 0 D (mT cs) (W3 h r cs) [.ref h, .int a1, .int a2] u Q := by
  unfold mCi
  refine m_enter (QQ := fun A => va_Qi Q (mPos D (mT cs) A (W3 h r cs)) A) (cc := cX3_readTurned) (maxL := 3) (ret := (some .boolean)) (by decide) rfl (Nat.le_of_ble_eq_true rfl) ?_
  intro p e s m args below meth c A ls S hr hlocks hname hl hI
  have S : CallFix p m c cX3_readTurned 3 s args wsX3_readTurned RX3 := S
  show W p l e (rmS (d + 1)) s m args below meth c s.heap [] 0 0 (MQ below (va_Qi Q (mPos D (mT cs) A (W3 h r cs)) A) args s 0 0 A) (F0 m 0 ls [])
  generalize hZ : MQ below (va_Qi Q (mPos D (mT cs) A (W3 h r cs)) A) args s 0 0 A = Z
  have hin : ∀ w ∈ wsX30, w ∈ wsX3_readTurned := fun _ h => List.mem_cons_of_mem _ (List.mem_append_right _ h)
  have hl : lv_has ls 3 [(0, .ref h), (1, .int a1), (2, .int a2)] := hl
  have b14 : ∀ (u : ST), wp_X3_readTurned_p14 u P Q → mGo p l e (rmS (d + 1)) s m args below meth c A Z 3 D (mT cs) (W3 h r cs) 14 [(0, .ref h)] [] u := by
    intro u hw H locs ls hI hl
    unfold wp_X3_readTurned_p14 at hw
    refine lv_iconst (v := 0) S.1 S.2.1 dX3_readTurned_14 (by decide) ?_
    subst hZ
    exact m_zret S hr hlocks hI hw.1 hw.2 dX3_readTurned_15
  have b30 : ∀ (t1 : Int32) (u : ST), wp_X3_readTurned_p30 t1 u P Q → mGo p l e (rmS (d + 1)) s m args below meth c A Z 3 D (mT cs) (W3 h r cs) 30 [(0, .ref h)] [.int t1, .ref h] u := by
    intro t1 u hw H locs ls hI hl
    unfold wp_X3_readTurned_p30 at hw
    refine m_vv (As := [.int t1]) (rest := []) S (W3_self h r cs) hI rfl (c_X3_write l D h r cs t1 u _ hw) (cwV 1 S.2.2.2.2 gX3_readTurned_X3_write rfl rfl rfl (by decide +kernel) ⟨by simp only [rmS]; omega, by simp only [rmS]; omega⟩) (W3_at0 h r cs u) rfl rfl hl.1 rfl (Nat.le_of_ble_eq_true rfl) dX3_readTurned_30 ⟨Nat.zero_le _, Nat.zero_le _⟩ (fun u30 H locs hw hI => ?_)
    refine lv_iconst (v := 1) S.1 S.2.1 dX3_readTurned_33 (by decide) ?_
    subst hZ
    exact m_zret S hr hlocks hI hw.1 hw.2 dX3_readTurned_34
  unfold wp_X3_readTurned at hw
  obtain ⟨H, hH⟩ : ∃ z : Heap, z = s.heap := ⟨_, rfl⟩
  obtain ⟨locs, hL⟩ : ∃ z : List Loc, z = [] := ⟨_, rfl⟩
  rw [show W p l e (rmS (d + 1)) s m args below meth c s.heap [] 0 0 Z (F0 m 0 ls []) = W p l e (rmS (d + 1)) s m args below meth c H locs 0 0 Z (F0 m 0 ls []) by rw [hH, hL]]
  replace hI : mI D (mT cs) A s.heap s (W3 h r cs u) H locs := by rw [hH, hL]; exact hI
  refine lv_iload_n S.1 S.2.1 dX3_readTurned_0 rfl (lv_at hl 2 rfl) ?_
  refine lv_bipush (v := 6) S.1 S.2.1 dX3_readTurned_1 (by decide) ?_
  refine lv_icmp_gt (tgt := 14) S.1 S.2.1 dX3_readTurned_3 (by decide) (fun c3 => ?_) (fun c3 => ?_)
  · have hw := hw.1 c3
    exact b14 u hw H locs ls hI (lv_sub hl [0] rfl)
  · have hw := hw.2 c3
    refine lv_aload_n S.1 S.2.1 dX3_readTurned_6 rfl (lv_at hl 0 rfl) ?_
    refine lv_iload_n S.1 S.2.1 dX3_readTurned_7 rfl (lv_at hl 2 rfl) ?_
    refine m_vi (As := [.int a2]) (rest := []) S (W3_self h r cs) hI rfl (hP1 a2 u _ hw) (cwV 1 S.2.2.2.2 gX3_readTurned_X3_readOperand rfl rfl rfl (by decide +kernel) ⟨by simp only [rmS]; omega, by simp only [rmS]; omega⟩) (W3_at0 h r cs u) rfl rfl hl.1 rfl (Nat.le_of_ble_eq_true rfl) dX3_readTurned_8 ⟨Nat.zero_le _, Nat.zero_le _⟩ (fun y8 u8 H locs hw hI => ?_)
    refine lv_if_ne (tgt := 16) S.1 S.2.1 dX3_readTurned_11 (by decide) (fun c11 => ?_) (fun c11 => ?_)
    · have hw := hw.1 c11
      refine lv_aload_n S.1 S.2.1 dX3_readTurned_16 rfl (lv_at hl 0 rfl) ?_
      refine lv_iload_n S.1 S.2.1 dX3_readTurned_17 rfl (lv_at hl 1 rfl) ?_
      refine lv_bipush (v := 33) S.1 S.2.1 dX3_readTurned_18 (by decide) ?_
      refine lv_icmp_ne (tgt := 28) S.1 S.2.1 dX3_readTurned_20 (by decide) (fun c20 => ?_) (fun c20 => ?_)
      · have hw := hw.1 c20
        refine lv_bipush (v := (-4)) S.1 S.2.1 dX3_readTurned_28 (by decide) ?_
        exact b30 ((-4) : Int32) u8 hw H locs ls hI (lv_sub hl [0] rfl)
      · have hw := hw.2 c20
        refine lv_bipush (v := (-33)) S.1 S.2.1 dX3_readTurned_23 (by decide) ?_
        refine lv_goto (tgt := 30) S.1 S.2.1 dX3_readTurned_25 (by decide) ?_
        exact b30 ((-33) : Int32) u8 hw H locs ls hI (lv_sub hl [0] rfl)
    · have hw := hw.2 c11
      exact b14 u8 hw H locs ls hI (lv_sub hl [0] rfl)

def wp_X3_readOperand_p70 (t1 : Int32) (u : ST) (P : Nat → Int32 → Int32 → ST → (Int32 → ST → Prop) → Prop) (Q : Int32 → ST → Prop) : Prop :=
  (wp_X3_write t1 u (fun u70 => ((1 : Int32) &&& 1 = (1 : Int32) ∧ Q (1 : Int32) u70)))
def wp_X3_readOperand_p36 (x2 : Int32) (u : ST) (P : Nat → Int32 → Int32 → ST → (Int32 → ST → Prop) → Prop) (Q : Int32 → ST → Prop) : Prop :=
  (∀ y42 : Int32, y42 = (gI u 7) + (1 : Int32) → (∀ u43 : ST, u43 = sI u 7 y42 → ((¬ x2 = (104 : Int32) → ((¬ x2 = (110 : Int32) → wp_X3_readOperand_p70 ((-3) : Int32) u43 P Q) ∧ (x2 = (110 : Int32) → wp_X3_readOperand_p70 ((-2) : Int32) u43 P Q))) ∧ (x2 = (104 : Int32) → wp_X3_readOperand_p70 ((-1) : Int32) u43 P Q))))
def wp_X3_readOperand_p135 (t0 : Int32) (u : ST) (P : Nat → Int32 → Int32 → ST → (Int32 → ST → Prop) → Prop) (Q : Int32 → ST → Prop) : Prop :=
  (t0 &&& 1 = t0 ∧ Q t0 u)
def wp_X3_readOperand_p99 (u : ST) (P : Nat → Int32 → Int32 → ST → (Int32 → ST → Prop) → Prop) (Q : Int32 → ST → Prop) : Prop :=
  ((0 : Int32) &&& 1 = (0 : Int32) ∧ Q (0 : Int32) u)
def wp_X3_readOperand_p93 (x1 : Int32) (x2 : Int32) (u : ST) (P : Nat → Int32 → Int32 → ST → (Int32 → ST → Prop) → Prop) (Q : Int32 → ST → Prop) : Prop :=
  ((x1 < (6 : Int32) → (∀ y107 : Int32, y107 = (gI u 7) + (1 : Int32) → (∀ u108 : ST, u108 = sI u 7 y107 → ((¬ x2 = (40 : Int32) → (∀ y131 : Int32, y131 = x1 + (1 : Int32) → (P 3 x2 y131 u108 (fun y132 u132 => wp_X3_readOperand_p135 y132 u132 P Q)))) ∧ (x2 = (40 : Int32) → (∀ y120 : Int32, y120 = x1 + (1 : Int32) → (P 2 y120 (0 : Int32) u108 (fun y121 u121 => wp_X3_readOperand_p135 y121 u121 P Q)))))))) ∧ (¬ x1 < (6 : Int32) → wp_X3_readOperand_p99 u P Q))
def wp_X3_readOperand (a1 : Int32) (u : ST) (P : Nat → Int32 → Int32 → ST → (Int32 → ST → Prop) → Prop) (Q : Int32 → ST → Prop) : Prop :=
  (wp_X3_next u (fun y1 u1 => (wp_X3_isDigit y1 (fun y6 => ((y6 = 0 → ((y1 = (104 : Int32) → wp_X3_readOperand_p36 y1 u1 P Q) ∧ (¬ y1 = (104 : Int32) → ((y1 = (110 : Int32) → wp_X3_readOperand_p36 y1 u1 P Q) ∧ (¬ y1 = (110 : Int32) → ((¬ y1 = (106 : Int32) → ((y1 = (40 : Int32) → wp_X3_readOperand_p93 a1 y1 u1 P Q) ∧ (¬ y1 = (40 : Int32) → ((y1 = (33 : Int32) → wp_X3_readOperand_p93 a1 y1 u1 P Q) ∧ (¬ y1 = (33 : Int32) → ((¬ y1 = (45 : Int32) → wp_X3_readOperand_p99 u1 P Q) ∧ (y1 = (45 : Int32) → wp_X3_readOperand_p93 a1 y1 u1 P Q))))))) ∧ (y1 = (106 : Int32) → wp_X3_readOperand_p36 y1 u1 P Q))))))) ∧ (¬ y6 = 0 → (wp_X3_readNumber u1 (fun u13 => ((1 : Int32) &&& 1 = (1 : Int32) ∧ Q (1 : Int32) u13)))))))))
set_option maxHeartbeats 4000000 in
set_option maxRecDepth 100000 in
theorem c_X3_readOperand (l : Launch) (D : va_G) (h : Nat) (r : Nat → Nat) (cs : Nat → ClassId) (d : Nat) (P : Nat → Int32 → Int32 → ST → (Int32 → ST → Prop) → Prop) (hP0 : (∀ (a1 : Int32) (a2 : Int32) (u : ST) (Q : Int32 → ST → Prop), P 0 a1 a2 u Q → mCi l yX3_readJoined wsX3_readJoined (rmS d) 0 0 D (mT cs) (W3 h r cs) [.ref h, .int a1, .int a2] u Q)) (hP1 : (∀ (a1 : Int32) (u : ST) (Q : Int32 → ST → Prop), P 1 a1 (0 : Int32) u Q → mCi l yX3_readOperand wsX3_readOperand (rmS d) 0 0 D (mT cs) (W3 h r cs) [.ref h, .int a1] u Q)) (hP2 : (∀ (a1 : Int32) (u : ST) (Q : Int32 → ST → Prop), P 2 a1 (0 : Int32) u Q → mCi l yX3_readEnclosed wsX3_readEnclosed (rmS d) 0 0 D (mT cs) (W3 h r cs) [.ref h, .int a1] u Q)) (hP3 : (∀ (a1 : Int32) (a2 : Int32) (u : ST) (Q : Int32 → ST → Prop), P 3 a1 a2 u Q → mCi l yX3_readTurned wsX3_readTurned (rmS d) 0 0 D (mT cs) (W3 h r cs) [.ref h, .int a1, .int a2] u Q)) (a1 : Int32) (u : ST) (Q : Int32 → ST → Prop) (hw : wp_X3_readOperand a1 u P Q) : mCi l yX3_readOperand wsX3_readOperand (rmS (d + 1)) 0 0 D (mT cs) (W3 h r cs) [.ref h, .int a1] u Q := by
  unfold mCi
  refine m_enter (QQ := fun A => va_Qi Q (mPos D (mT cs) A (W3 h r cs)) A) (cc := cX3_readOperand) (maxL := 3) (ret := (some .boolean)) (by decide) rfl (Nat.le_of_ble_eq_true rfl) ?_
  intro p e s m args below meth c A ls S hr hlocks hname hl hI
  have S : CallFix p m c cX3_readOperand 3 s args wsX3_readOperand RX3 := S
  show W p l e (rmS (d + 1)) s m args below meth c s.heap [] 0 0 (MQ below (va_Qi Q (mPos D (mT cs) A (W3 h r cs)) A) args s 0 0 A) (F0 m 0 ls [])
  generalize hZ : MQ below (va_Qi Q (mPos D (mT cs) A (W3 h r cs)) A) args s 0 0 A = Z
  have hin : ∀ w ∈ wsX30, w ∈ wsX3_readOperand := fun _ h => List.mem_cons_of_mem _ (List.mem_append_right _ h)
  have hl : lv_has ls 3 [(0, .ref h), (1, .int a1)] := hl
  have b70 : ∀ (t1 : Int32) (u : ST), wp_X3_readOperand_p70 t1 u P Q → mGo p l e (rmS (d + 1)) s m args below meth c A Z 3 D (mT cs) (W3 h r cs) 70 [(0, .ref h)] [.int t1, .ref h] u := by
    intro t1 u hw H locs ls hI hl
    unfold wp_X3_readOperand_p70 at hw
    refine m_vv (As := [.int t1]) (rest := []) S (W3_self h r cs) hI rfl (c_X3_write l D h r cs t1 u _ hw) (cwV 1 S.2.2.2.2 gX3_readOperand_X3_write rfl rfl rfl (by decide +kernel) ⟨by simp only [rmS]; omega, by simp only [rmS]; omega⟩) (W3_at0 h r cs u) rfl rfl hl.1 rfl (Nat.le_of_ble_eq_true rfl) dX3_readOperand_70 ⟨Nat.zero_le _, Nat.zero_le _⟩ (fun u70 H locs hw hI => ?_)
    refine lv_iconst (v := 1) S.1 S.2.1 dX3_readOperand_73 (by decide) ?_
    subst hZ
    exact m_zret S hr hlocks hI hw.1 hw.2 dX3_readOperand_74
  have b36 : ∀ (x2 : Int32) (u : ST), wp_X3_readOperand_p36 x2 u P Q → mGo p l e (rmS (d + 1)) s m args below meth c A Z 3 D (mT cs) (W3 h r cs) 36 [(0, .ref h), (2, .int x2)] [] u := by
    intro x2 u hw H locs ls hI hl
    unfold wp_X3_readOperand_p36 at hw
    refine lv_aload_n S.1 S.2.1 dX3_readOperand_36 rfl (lv_at hl 0 rfl) ?_
    refine lv_dup S.1 S.2.1 dX3_readOperand_37 rfl ?_
    refine m_get S hin hI 0 (W3_at0 h r cs u) rfl 7 (Nat.le_of_ble_eq_true rfl) (List.mem_of_getElem? (i := 1) rfl) rfl (Ff3_at7 r u) dX3_readOperand_38 ?_
    refine lv_iconst (v := 1) S.1 S.2.1 dX3_readOperand_41 (by decide) ?_
    refine lv_iadd S.1 S.2.1 dX3_readOperand_42 ?_
    refine lv_topi (fun y42 ey42 => ?_)
    have hw := hw y42 ey42
    obtain ⟨u43, eu43⟩ : ∃ z : ST, z = sI u 7 y42 := ⟨_, rfl⟩
    have hw := hw u43 eu43
    refine m_put S hin tyX3_ok nmX3 hI 0 (W3_at0 h r cs u) rfl 7 (Nat.le_of_ble_eq_true rfl) (List.mem_of_getElem? (i := 1) rfl) rfl rfl rfl rfl (Nat.le_of_ble_eq_true rfl) (W3_sI7 h r cs u u43 y42 eu43) dX3_readOperand_43 (fun H locs hI => ?_)
    refine lv_aload_n S.1 S.2.1 dX3_readOperand_46 rfl (lv_at hl 0 rfl) ?_
    refine lv_iload_n S.1 S.2.1 dX3_readOperand_47 rfl (lv_at hl 1 rfl) ?_
    refine lv_bipush (v := 104) S.1 S.2.1 dX3_readOperand_48 (by decide) ?_
    refine lv_icmp_ne (tgt := 57) S.1 S.2.1 dX3_readOperand_50 (by decide) (fun c50 => ?_) (fun c50 => ?_)
    · have hw := hw.1 c50
      refine lv_iload_n S.1 S.2.1 dX3_readOperand_57 rfl (lv_at hl 1 rfl) ?_
      refine lv_bipush (v := 110) S.1 S.2.1 dX3_readOperand_58 (by decide) ?_
      refine lv_icmp_ne (tgt := 68) S.1 S.2.1 dX3_readOperand_60 (by decide) (fun c60 => ?_) (fun c60 => ?_)
      · have hw := hw.1 c60
        refine lv_bipush (v := (-3)) S.1 S.2.1 dX3_readOperand_68 (by decide) ?_
        exact b70 ((-3) : Int32) u43 hw H locs ls hI (lv_sub hl [0] rfl)
      · have hw := hw.2 c60
        refine lv_bipush (v := (-2)) S.1 S.2.1 dX3_readOperand_63 (by decide) ?_
        refine lv_goto (tgt := 70) S.1 S.2.1 dX3_readOperand_65 (by decide) ?_
        exact b70 ((-2) : Int32) u43 hw H locs ls hI (lv_sub hl [0] rfl)
    · have hw := hw.2 c50
      refine lv_iconst (v := (-1)) S.1 S.2.1 dX3_readOperand_53 (by decide) ?_
      refine lv_goto (tgt := 70) S.1 S.2.1 dX3_readOperand_54 (by decide) ?_
      exact b70 ((-1) : Int32) u43 hw H locs ls hI (lv_sub hl [0] rfl)
  have b135 : ∀ (t0 : Int32) (u : ST), wp_X3_readOperand_p135 t0 u P Q → mGo p l e (rmS (d + 1)) s m args below meth c A Z 3 D (mT cs) (W3 h r cs) 135 [(0, .ref h)] [.int t0] u := by
    intro t0 u hw H locs ls hI hl
    unfold wp_X3_readOperand_p135 at hw
    subst hZ
    exact m_zret S hr hlocks hI hw.1 hw.2 dX3_readOperand_135
  have b99 : ∀ (u : ST), wp_X3_readOperand_p99 u P Q → mGo p l e (rmS (d + 1)) s m args below meth c A Z 3 D (mT cs) (W3 h r cs) 99 [(0, .ref h)] [] u := by
    intro u hw H locs ls hI hl
    unfold wp_X3_readOperand_p99 at hw
    refine lv_iconst (v := 0) S.1 S.2.1 dX3_readOperand_99 (by decide) ?_
    subst hZ
    exact m_zret S hr hlocks hI hw.1 hw.2 dX3_readOperand_100
  have b93 : ∀ (x1 : Int32) (x2 : Int32) (u : ST), wp_X3_readOperand_p93 x1 x2 u P Q → mGo p l e (rmS (d + 1)) s m args below meth c A Z 3 D (mT cs) (W3 h r cs) 93 [(0, .ref h), (1, .int x1), (2, .int x2)] [] u := by
    intro x1 x2 u hw H locs ls hI hl
    unfold wp_X3_readOperand_p93 at hw
    refine lv_iload_n S.1 S.2.1 dX3_readOperand_93 rfl (lv_at hl 1 rfl) ?_
    refine lv_bipush (v := 6) S.1 S.2.1 dX3_readOperand_94 (by decide) ?_
    refine lv_icmp_lt (tgt := 101) S.1 S.2.1 dX3_readOperand_96 (by decide) (fun c96 => ?_) (fun c96 => ?_)
    · have hw := hw.1 c96
      refine lv_aload_n S.1 S.2.1 dX3_readOperand_101 rfl (lv_at hl 0 rfl) ?_
      refine lv_dup S.1 S.2.1 dX3_readOperand_102 rfl ?_
      refine m_get S hin hI 0 (W3_at0 h r cs u) rfl 7 (Nat.le_of_ble_eq_true rfl) (List.mem_of_getElem? (i := 1) rfl) rfl (Ff3_at7 r u) dX3_readOperand_103 ?_
      refine lv_iconst (v := 1) S.1 S.2.1 dX3_readOperand_106 (by decide) ?_
      refine lv_iadd S.1 S.2.1 dX3_readOperand_107 ?_
      refine lv_topi (fun y107 ey107 => ?_)
      have hw := hw y107 ey107
      obtain ⟨u108, eu108⟩ : ∃ z : ST, z = sI u 7 y107 := ⟨_, rfl⟩
      have hw := hw u108 eu108
      refine m_put S hin tyX3_ok nmX3 hI 0 (W3_at0 h r cs u) rfl 7 (Nat.le_of_ble_eq_true rfl) (List.mem_of_getElem? (i := 1) rfl) rfl rfl rfl rfl (Nat.le_of_ble_eq_true rfl) (W3_sI7 h r cs u u108 y107 eu108) dX3_readOperand_108 (fun H locs hI => ?_)
      refine lv_iload_n S.1 S.2.1 dX3_readOperand_111 rfl (lv_at hl 2 rfl) ?_
      refine lv_bipush (v := 40) S.1 S.2.1 dX3_readOperand_112 (by decide) ?_
      refine lv_icmp_ne (tgt := 127) S.1 S.2.1 dX3_readOperand_114 (by decide) (fun c114 => ?_) (fun c114 => ?_)
      · have hw := hw.1 c114
        refine lv_aload_n S.1 S.2.1 dX3_readOperand_127 rfl (lv_at hl 0 rfl) ?_
        refine lv_iload_n S.1 S.2.1 dX3_readOperand_128 rfl (lv_at hl 2 rfl) ?_
        refine lv_iload_n S.1 S.2.1 dX3_readOperand_129 rfl (lv_at hl 1 rfl) ?_
        refine lv_iconst (v := 1) S.1 S.2.1 dX3_readOperand_130 (by decide) ?_
        refine lv_iadd S.1 S.2.1 dX3_readOperand_131 ?_
        refine lv_topi (fun y131 ey131 => ?_)
        have hw := hw y131 ey131
        refine m_vi (As := [.int x2, .int y131]) (rest := []) S (W3_self h r cs) hI rfl (hP3 x2 y131 u108 _ hw) (cwV 2 S.2.2.2.2 gX3_readOperand_X3_readTurned rfl rfl rfl (by decide +kernel) ⟨by simp only [rmS]; omega, by simp only [rmS]; omega⟩) (W3_at0 h r cs u108) rfl rfl hl.1 rfl (Nat.le_of_ble_eq_true rfl) dX3_readOperand_132 ⟨Nat.zero_le _, Nat.zero_le _⟩ (fun y132 u132 H locs hw hI => ?_)
        exact b135 y132 u132 hw H locs ls hI (lv_sub hl [0] rfl)
      · have hw := hw.2 c114
        refine lv_aload_n S.1 S.2.1 dX3_readOperand_117 rfl (lv_at hl 0 rfl) ?_
        refine lv_iload_n S.1 S.2.1 dX3_readOperand_118 rfl (lv_at hl 1 rfl) ?_
        refine lv_iconst (v := 1) S.1 S.2.1 dX3_readOperand_119 (by decide) ?_
        refine lv_iadd S.1 S.2.1 dX3_readOperand_120 ?_
        refine lv_topi (fun y120 ey120 => ?_)
        have hw := hw y120 ey120
        refine m_vi (As := [.int y120]) (rest := []) S (W3_self h r cs) hI rfl (hP2 y120 u108 _ hw) (cwV 1 S.2.2.2.2 gX3_readOperand_X3_readEnclosed rfl rfl rfl (by decide +kernel) ⟨by simp only [rmS]; omega, by simp only [rmS]; omega⟩) (W3_at0 h r cs u108) rfl rfl hl.1 rfl (Nat.le_of_ble_eq_true rfl) dX3_readOperand_121 ⟨Nat.zero_le _, Nat.zero_le _⟩ (fun y121 u121 H locs hw hI => ?_)
        refine lv_goto (tgt := 135) S.1 S.2.1 dX3_readOperand_124 (by decide) ?_
        exact b135 y121 u121 hw H locs ls hI (lv_sub hl [0] rfl)
    · have hw := hw.2 c96
      exact b99 u hw H locs ls hI (lv_sub hl [0] rfl)
  unfold wp_X3_readOperand at hw
  obtain ⟨H, hH⟩ : ∃ z : Heap, z = s.heap := ⟨_, rfl⟩
  obtain ⟨locs, hL⟩ : ∃ z : List Loc, z = [] := ⟨_, rfl⟩
  rw [show W p l e (rmS (d + 1)) s m args below meth c s.heap [] 0 0 Z (F0 m 0 ls []) = W p l e (rmS (d + 1)) s m args below meth c H locs 0 0 Z (F0 m 0 ls []) by rw [hH, hL]]
  replace hI : mI D (mT cs) A s.heap s (W3 h r cs u) H locs := by rw [hH, hL]; exact hI
  refine lv_aload_n S.1 S.2.1 dX3_readOperand_0 rfl (lv_at hl 0 rfl) ?_
  refine m_vi (As := []) (rest := []) S (W3_self h r cs) hI rfl (c_X3_next l D h r cs u _ hw) (cwV 0 S.2.2.2.2 gX3_readOperand_X3_next rfl rfl rfl (by decide +kernel) ⟨by simp only [rmS]; omega, by simp only [rmS]; omega⟩) (W3_at0 h r cs u) rfl rfl hl.1 rfl (Nat.le_of_ble_eq_true rfl) dX3_readOperand_1 ⟨Nat.zero_le _, Nat.zero_le _⟩ (fun y1 u1 H locs hw hI => ?_)
  refine lv_istore_n (lv' := [(2, .int y1), (0, .ref h), (1, .int a1)]) S.1 S.2.1 dX3_readOperand_4 rfl hl (by decide) rfl (fun ls hl => ?_)
  refine lv_iload_n S.1 S.2.1 dX3_readOperand_5 rfl (lv_at hl 0 rfl) ?_
  refine m_si (As := [.int y1]) (rest := []) S hI.2.2.2.1.2.1 (c_X3_isDigit l y1 _ hw) (va_cwS 1 S.2.2.2.2 gX3_readOperand_X3_isDigit rfl rfl rfl (by decide +kernel) ⟨by simp only [rmS]; omega, by simp only [rmS]; omega⟩) rfl hl.1 rfl (Nat.le_of_ble_eq_true rfl) dX3_readOperand_6 ⟨Nat.zero_le _, Nat.zero_le _⟩ (fun y6 hw => ?_)
  refine lv_if_eq (tgt := 18) S.1 S.2.1 dX3_readOperand_9 (by decide) (fun c9 => ?_) (fun c9 => ?_)
  · have hw := hw.1 c9
    refine lv_iload_n S.1 S.2.1 dX3_readOperand_18 rfl (lv_at hl 0 rfl) ?_
    refine lv_bipush (v := 104) S.1 S.2.1 dX3_readOperand_19 (by decide) ?_
    refine lv_icmp_eq (tgt := 36) S.1 S.2.1 dX3_readOperand_21 (by decide) (fun c21 => ?_) (fun c21 => ?_)
    · have hw := hw.1 c21
      exact b36 y1 u1 hw H locs ls hI (lv_sub hl [1, 0] rfl)
    · have hw := hw.2 c21
      refine lv_iload_n S.1 S.2.1 dX3_readOperand_24 rfl (lv_at hl 0 rfl) ?_
      refine lv_bipush (v := 110) S.1 S.2.1 dX3_readOperand_25 (by decide) ?_
      refine lv_icmp_eq (tgt := 36) S.1 S.2.1 dX3_readOperand_27 (by decide) (fun c27 => ?_) (fun c27 => ?_)
      · have hw := hw.1 c27
        exact b36 y1 u1 hw H locs ls hI (lv_sub hl [1, 0] rfl)
      · have hw := hw.2 c27
        refine lv_iload_n S.1 S.2.1 dX3_readOperand_30 rfl (lv_at hl 0 rfl) ?_
        refine lv_bipush (v := 106) S.1 S.2.1 dX3_readOperand_31 (by decide) ?_
        refine lv_icmp_ne (tgt := 75) S.1 S.2.1 dX3_readOperand_33 (by decide) (fun c33 => ?_) (fun c33 => ?_)
        · have hw := hw.1 c33
          refine lv_iload_n S.1 S.2.1 dX3_readOperand_75 rfl (lv_at hl 0 rfl) ?_
          refine lv_bipush (v := 40) S.1 S.2.1 dX3_readOperand_76 (by decide) ?_
          refine lv_icmp_eq (tgt := 93) S.1 S.2.1 dX3_readOperand_78 (by decide) (fun c78 => ?_) (fun c78 => ?_)
          · have hw := hw.1 c78
            exact b93 a1 y1 u1 hw H locs ls hI (lv_sub hl [1, 2, 0] rfl)
          · have hw := hw.2 c78
            refine lv_iload_n S.1 S.2.1 dX3_readOperand_81 rfl (lv_at hl 0 rfl) ?_
            refine lv_bipush (v := 33) S.1 S.2.1 dX3_readOperand_82 (by decide) ?_
            refine lv_icmp_eq (tgt := 93) S.1 S.2.1 dX3_readOperand_84 (by decide) (fun c84 => ?_) (fun c84 => ?_)
            · have hw := hw.1 c84
              exact b93 a1 y1 u1 hw H locs ls hI (lv_sub hl [1, 2, 0] rfl)
            · have hw := hw.2 c84
              refine lv_iload_n S.1 S.2.1 dX3_readOperand_87 rfl (lv_at hl 0 rfl) ?_
              refine lv_bipush (v := 45) S.1 S.2.1 dX3_readOperand_88 (by decide) ?_
              refine lv_icmp_ne (tgt := 99) S.1 S.2.1 dX3_readOperand_90 (by decide) (fun c90 => ?_) (fun c90 => ?_)
              · have hw := hw.1 c90
                exact b99 u1 hw H locs ls hI (lv_sub hl [1] rfl)
              · have hw := hw.2 c90
                exact b93 a1 y1 u1 hw H locs ls hI (lv_sub hl [1, 2, 0] rfl)
        · have hw := hw.2 c33
          exact b36 y1 u1 hw H locs ls hI (lv_sub hl [1, 0] rfl)
  · have hw := hw.2 c9
    refine lv_aload_n S.1 S.2.1 dX3_readOperand_12 rfl (lv_at hl 1 rfl) ?_
    refine m_vv (As := []) (rest := []) S (W3_self h r cs) hI rfl (c_X3_readNumber l D h r cs u1 _ hw) (cwV 0 S.2.2.2.2 gX3_readOperand_X3_readNumber rfl rfl rfl (by decide +kernel) ⟨by simp only [rmS]; omega, by simp only [rmS]; omega⟩) (W3_at0 h r cs u1) rfl rfl hl.1 rfl (Nat.le_of_ble_eq_true rfl) dX3_readOperand_13 ⟨Nat.zero_le _, Nat.zero_le _⟩ (fun u13 H locs hw hI => ?_)
    refine lv_iconst (v := 1) S.1 S.2.1 dX3_readOperand_16 (by decide) ?_
    subst hZ
    exact m_zret S hr hlocks hI hw.1 hw.2 dX3_readOperand_17

def wp_X3_rankOf (a0 : Int32) (Q : Int32 → Prop) : Prop :=
  ((a0 = 37 → Q (4 : Int32)) ∧ (¬ a0 = 37 → ((a0 = 38 → Q (1 : Int32)) ∧ (¬ a0 = 38 → ((a0 = 42 → Q (4 : Int32)) ∧ (¬ a0 = 42 → ((a0 = 43 → Q (3 : Int32)) ∧ (¬ a0 = 43 → ((a0 = 45 → Q (3 : Int32)) ∧ (¬ a0 = 45 → ((a0 = 47 → Q (4 : Int32)) ∧ (¬ a0 = 47 → ((a0 = 60 → Q (2 : Int32)) ∧ (¬ a0 = 60 → ((a0 = 61 → Q (2 : Int32)) ∧ (¬ a0 = 61 → ((a0 = 62 → Q (2 : Int32)) ∧ (¬ a0 = 62 → ((a0 = 124 → Q (0 : Int32)) ∧ (¬ a0 = 124 → Q ((-1) : Int32)))))))))))))))))))))
set_option maxHeartbeats 4000000 in
set_option maxRecDepth 100000 in
theorem c_X3_rankOf (l : Launch) (a0 : Int32) (Q : Int32 → Prop) (hw : wp_X3_rankOf a0 Q) : mTi l yX3_rankOf wsX3_rankOf ({ frames := 0, cells := 0, slots := 0, locals := 0 } : Room) [.int a0] Q := by
  refine m_enterT (cc := cX3_rankOf) (maxL := 1) (ret := (some .int)) (by decide) rfl (Nat.le_of_ble_eq_true rfl) ?_
  intro p e s m args below meth c ls S hr hlocks hname hl hN
  have S : CallFix p m c cX3_rankOf 1 s args wsX3_rankOf RX3 := S
  generalize hZ : MQ below (vp_Si Q) args s 0 0 (fun _ => False) = Z
  have hl : lv_has ls 1 [(0, .int a0)] := hl
  unfold wp_X3_rankOf at hw
  refine lv_iload_n S.1 S.2.1 dX3_rankOf_0 rfl (lv_at hl 0 rfl) ?_
  by_cases c1_37 : a0 = 37
  · have hw := hw.1 c1_37
    refine lv_lookup (off := 99) (tgt := 100) S.1 S.2.1 dX3_rankOf_1 (by decide) (by rw [c1_37] <;> rfl) (by decide) ?_
    refine lv_iconst (v := 4) S.1 S.2.1 dX3_rankOf_100 (by decide) ?_
    subst hZ
    exact m_tiret S hr hlocks hw dX3_rankOf_101
  · have hw := hw.2 c1_37
    by_cases c1_38 : a0 = 38
    · have hw := hw.1 c1_38
      refine lv_lookup (off := 93) (tgt := 94) S.1 S.2.1 dX3_rankOf_1 (by decide) (by rw [c1_38] <;> rfl) (by decide) ?_
      refine lv_iconst (v := 1) S.1 S.2.1 dX3_rankOf_94 (by decide) ?_
      subst hZ
      exact m_tiret S hr hlocks hw dX3_rankOf_95
    · have hw := hw.2 c1_38
      by_cases c1_42 : a0 = 42
      · have hw := hw.1 c1_42
        refine lv_lookup (off := 99) (tgt := 100) S.1 S.2.1 dX3_rankOf_1 (by decide) (by rw [c1_42] <;> rfl) (by decide) ?_
        refine lv_iconst (v := 4) S.1 S.2.1 dX3_rankOf_100 (by decide) ?_
        subst hZ
        exact m_tiret S hr hlocks hw dX3_rankOf_101
      · have hw := hw.2 c1_42
        by_cases c1_43 : a0 = 43
        · have hw := hw.1 c1_43
          refine lv_lookup (off := 97) (tgt := 98) S.1 S.2.1 dX3_rankOf_1 (by decide) (by rw [c1_43] <;> rfl) (by decide) ?_
          refine lv_iconst (v := 3) S.1 S.2.1 dX3_rankOf_98 (by decide) ?_
          subst hZ
          exact m_tiret S hr hlocks hw dX3_rankOf_99
        · have hw := hw.2 c1_43
          by_cases c1_45 : a0 = 45
          · have hw := hw.1 c1_45
            refine lv_lookup (off := 97) (tgt := 98) S.1 S.2.1 dX3_rankOf_1 (by decide) (by rw [c1_45] <;> rfl) (by decide) ?_
            refine lv_iconst (v := 3) S.1 S.2.1 dX3_rankOf_98 (by decide) ?_
            subst hZ
            exact m_tiret S hr hlocks hw dX3_rankOf_99
          · have hw := hw.2 c1_45
            by_cases c1_47 : a0 = 47
            · have hw := hw.1 c1_47
              refine lv_lookup (off := 99) (tgt := 100) S.1 S.2.1 dX3_rankOf_1 (by decide) (by rw [c1_47] <;> rfl) (by decide) ?_
              refine lv_iconst (v := 4) S.1 S.2.1 dX3_rankOf_100 (by decide) ?_
              subst hZ
              exact m_tiret S hr hlocks hw dX3_rankOf_101
            · have hw := hw.2 c1_47
              by_cases c1_60 : a0 = 60
              · have hw := hw.1 c1_60
                refine lv_lookup (off := 95) (tgt := 96) S.1 S.2.1 dX3_rankOf_1 (by decide) (by rw [c1_60] <;> rfl) (by decide) ?_
                refine lv_iconst (v := 2) S.1 S.2.1 dX3_rankOf_96 (by decide) ?_
                subst hZ
                exact m_tiret S hr hlocks hw dX3_rankOf_97
              · have hw := hw.2 c1_60
                by_cases c1_61 : a0 = 61
                · have hw := hw.1 c1_61
                  refine lv_lookup (off := 95) (tgt := 96) S.1 S.2.1 dX3_rankOf_1 (by decide) (by rw [c1_61] <;> rfl) (by decide) ?_
                  refine lv_iconst (v := 2) S.1 S.2.1 dX3_rankOf_96 (by decide) ?_
                  subst hZ
                  exact m_tiret S hr hlocks hw dX3_rankOf_97
                · have hw := hw.2 c1_61
                  by_cases c1_62 : a0 = 62
                  · have hw := hw.1 c1_62
                    refine lv_lookup (off := 95) (tgt := 96) S.1 S.2.1 dX3_rankOf_1 (by decide) (by rw [c1_62] <;> rfl) (by decide) ?_
                    refine lv_iconst (v := 2) S.1 S.2.1 dX3_rankOf_96 (by decide) ?_
                    subst hZ
                    exact m_tiret S hr hlocks hw dX3_rankOf_97
                  · have hw := hw.2 c1_62
                    by_cases c1_124 : a0 = 124
                    · have hw := hw.1 c1_124
                      refine lv_lookup (off := 91) (tgt := 92) S.1 S.2.1 dX3_rankOf_1 (by decide) (by rw [c1_124] <;> rfl) (by decide) ?_
                      refine lv_iconst (v := 0) S.1 S.2.1 dX3_rankOf_92 (by decide) ?_
                      subst hZ
                      exact m_tiret S hr hlocks hw dX3_rankOf_93
                    · have hw := hw.2 c1_124
                      refine lv_lookup (off := 101) (tgt := 102) S.1 S.2.1 dX3_rankOf_1 (by decide) (by show Op.lookupswitch.offset [(37, 99), (38, 93), (42, 99), (43, 97), (45, 97), (47, 99), (60, 95), (61, 95), (62, 95), (124, 91)] 101 _ = _; rw [lv_osw (a := 37) c1_37 rfl, lv_osw (a := 38) c1_38 rfl, lv_osw (a := 42) c1_42 rfl, lv_osw (a := 43) c1_43 rfl, lv_osw (a := 45) c1_45 rfl, lv_osw (a := 47) c1_47 rfl, lv_osw (a := 60) c1_60 rfl, lv_osw (a := 61) c1_61 rfl, lv_osw (a := 62) c1_62 rfl, lv_osw (a := 124) c1_124 rfl] <;> rfl) (by decide) ?_
                      refine lv_iconst (v := (-1)) S.1 S.2.1 dX3_rankOf_102 (by decide) ?_
                      subst hZ
                      exact m_tiret S hr hlocks hw dX3_rankOf_103

/-! laid by program: X3_readJoined, X3_readJoined_end, X3_readLine, X3_readText, X3_pop, X3_push, X3_joined, X3_work, X3_valueFor, X3_weightFor, world4, X4_forgetFrom, X4_weightAt, X4_weightTo, X4_placeOf, X4_fill -/
def wp_X3_readJoined_p98 (u : ST) (P : Nat → Int32 → Int32 → ST → (Int32 → ST → Prop) → Prop) (Q : Int32 → ST → Prop) : Prop :=
  ((1 : Int32) &&& 1 = (1 : Int32) ∧ Q (1 : Int32) u)
def wp_X3_readJoined_p39b (x1 : Int32) (x2 : Int32) (x3 : Int32) (x4 : Int32) (u : ST) (B39 : Int32 → Int32 → Int32 → Int32 → ST → Prop) (P : Nat → Int32 → Int32 → ST → (Int32 → ST → Prop) → Prop) (Q : Int32 → ST → Prop) : Prop :=
  ((x3 ≤ x4 → wp_X3_readJoined_p98 u P Q) ∧ (¬ x3 ≤ x4 → (wp_X3_next u (fun y46 u46 => (wp_X3_rankOf y46 (fun y49 => ((¬ y49 = x1 → wp_X3_readJoined_p98 u46 P Q) ∧ (y49 = x1 → (wp_X3_next u46 (fun y57 u57 => (∀ y68 : Int32, y68 = (gI u57 7) + (1 : Int32) → (∀ u69 : ST, u69 = sI u57 7 y68 → (∀ y75 : Int32, y75 = x1 + (1 : Int32) → (P 0 y75 x2 u69 (fun y77 u77 => ((¬ y77 = 0 → (∀ y88 : Int32, y88 = -y57 → (wp_X3_write y88 u77 (fun u89 => (∀ y92 : Int32, y92 = x4 + 1 → B39 x1 x2 x3 y92 u89))))) ∧ (y77 = 0 → ((0 : Int32) &&& 1 = (0 : Int32) ∧ Q (0 : Int32) u77))))))))))))))))))
def wp_X3_readJoined_p39 (x1 : Int32) (x2 : Int32) (x3 : Int32) (x4 : Int32) (u : ST) (P : Nat → Int32 → Int32 → ST → (Int32 → ST → Prop) → Prop) (Q : Int32 → ST → Prop) : Prop := ∃ (I : Int32 → Int32 → Int32 → Int32 → ST → Prop) (μ : Int32 → Int32 → Int32 → Int32 → ST → Nat), I x1 x2 x3 x4 u ∧ ∀ (x1 : Int32) (x2 : Int32) (x3 : Int32) (x4 : Int32) (u : ST), I x1 x2 x3 x4 u → wp_X3_readJoined_p39b x1 x2 x3 x4 u (fun yx1 yx2 yx3 yx4 yu => I yx1 yx2 yx3 yx4 yu ∧ μ yx1 yx2 yx3 yx4 yu < μ x1 x2 x3 x4 u) P Q
def wp_X3_readJoined_p35 (x1 : Int32) (x2 : Int32) (t0 : Int32) (u : ST) (P : Nat → Int32 → Int32 → ST → (Int32 → ST → Prop) → Prop) (Q : Int32 → ST → Prop) : Prop :=
  wp_X3_readJoined_p39 x1 x2 t0 (0 : Int32) u P Q
def wp_X3_readJoined (a1 : Int32) (a2 : Int32) (u : ST) (P : Nat → Int32 → Int32 → ST → (Int32 → ST → Prop) → Prop) (Q : Int32 → ST → Prop) : Prop :=
  ((a1 ≤ (4 : Int32) → (∀ y14 : Int32, y14 = a1 + (1 : Int32) → (P 0 y14 a2 u (fun y16 u16 => ((¬ y16 = 0 → ((¬ a1 = (2 : Int32) → wp_X3_readJoined_p35 a1 a2 (120 : Int32) u16 P Q) ∧ (a1 = (2 : Int32) → wp_X3_readJoined_p35 a1 a2 (1 : Int32) u16 P Q))) ∧ (y16 = 0 → ((0 : Int32) &&& 1 = (0 : Int32) ∧ Q (0 : Int32) u16))))))) ∧ (¬ a1 ≤ (4 : Int32) → (P 1 a2 (0 : Int32) u (fun y7 u7 => (y7 &&& 1 = y7 ∧ Q y7 u7)))))
set_option maxHeartbeats 4000000 in
set_option maxRecDepth 100000 in
theorem c_X3_readJoined (l : Launch) (D : va_G) (h : Nat) (r : Nat → Nat) (cs : Nat → ClassId) (d : Nat) (P : Nat → Int32 → Int32 → ST → (Int32 → ST → Prop) → Prop) (hP0 : (∀ (a1 : Int32) (a2 : Int32) (u : ST) (Q : Int32 → ST → Prop), P 0 a1 a2 u Q → mCi l yX3_readJoined wsX3_readJoined (rmS d) 0 0 D (mT cs) (W3 h r cs) [.ref h, .int a1, .int a2] u Q)) (hP1 : (∀ (a1 : Int32) (u : ST) (Q : Int32 → ST → Prop), P 1 a1 (0 : Int32) u Q → mCi l yX3_readOperand wsX3_readOperand (rmS d) 0 0 D (mT cs) (W3 h r cs) [.ref h, .int a1] u Q)) (hP2 : (∀ (a1 : Int32) (u : ST) (Q : Int32 → ST → Prop), P 2 a1 (0 : Int32) u Q → mCi l yX3_readEnclosed wsX3_readEnclosed (rmS d) 0 0 D (mT cs) (W3 h r cs) [.ref h, .int a1] u Q)) (hP3 : (∀ (a1 : Int32) (a2 : Int32) (u : ST) (Q : Int32 → ST → Prop), P 3 a1 a2 u Q → mCi l yX3_readTurned wsX3_readTurned (rmS d) 0 0 D (mT cs) (W3 h r cs) [.ref h, .int a1, .int a2] u Q)) (a1 : Int32) (a2 : Int32) (u : ST) (Q : Int32 → ST → Prop) (hw : wp_X3_readJoined a1 a2 u P Q) : mCi l yX3_readJoined wsX3_readJoined (rmS (d + 1)) 0 0 D (mT cs) (W3 h r cs) [.ref h, .int a1, .int a2] u Q := by
  unfold mCi
  refine m_enter (QQ := fun A => va_Qi Q (mPos D (mT cs) A (W3 h r cs)) A) (cc := cX3_readJoined) (maxL := 6) (ret := (some .boolean)) (by decide) rfl (Nat.le_of_ble_eq_true rfl) ?_
  intro p e s m args below meth c A ls S hr hlocks hname hl hI
  have S : CallFix p m c cX3_readJoined 6 s args wsX3_readJoined RX3 := S
  show W p l e (rmS (d + 1)) s m args below meth c s.heap [] 0 0 (MQ below (va_Qi Q (mPos D (mT cs) A (W3 h r cs)) A) args s 0 0 A) (F0 m 0 ls [])
  generalize hZ : MQ below (va_Qi Q (mPos D (mT cs) A (W3 h r cs)) A) args s 0 0 A = Z
  have hin : ∀ w ∈ wsX30, w ∈ wsX3_readJoined := fun _ h => List.mem_cons_of_mem _ (List.mem_append_right _ h)
  have hl : lv_has ls 6 [(0, .ref h), (1, .int a1), (2, .int a2)] := hl
  have b98 : ∀ (u : ST), wp_X3_readJoined_p98 u P Q → mGo p l e (rmS (d + 1)) s m args below meth c A Z 6 D (mT cs) (W3 h r cs) 98 [(0, .ref h)] [] u := by
    intro u hw H locs ls hI hl
    unfold wp_X3_readJoined_p98 at hw
    refine lv_iconst (v := 1) S.1 S.2.1 dX3_readJoined_98 (by decide) ?_
    subst hZ
    exact m_zret S hr hlocks hI hw.1 hw.2 dX3_readJoined_99
  have b39b : ∀ (B39 : Int32 → Int32 → Int32 → Int32 → ST → Prop), (∀ (x1 : Int32) (x2 : Int32) (x3 : Int32) (x4 : Int32) (u : ST), B39 x1 x2 x3 x4 u → mGo p l e (rmS (d + 1)) s m args below meth c A Z 6 D (mT cs) (W3 h r cs) 39 [(0, .ref h), (1, .int x1), (2, .int x2), (3, .int x3), (4, .int x4)] [] u) → ∀ (x1 : Int32) (x2 : Int32) (x3 : Int32) (x4 : Int32) (u : ST), wp_X3_readJoined_p39b x1 x2 x3 x4 u B39 P Q → mGo p l e (rmS (d + 1)) s m args below meth c A Z 6 D (mT cs) (W3 h r cs) 39 [(0, .ref h), (1, .int x1), (2, .int x2), (3, .int x3), (4, .int x4)] [] u := by
    intro B39 hB39 x1 x2 x3 x4 u hw H locs ls hI hl
    unfold wp_X3_readJoined_p39b at hw
    refine lv_iload S.1 S.2.1 dX3_readJoined_39 (lv_at hl 4 rfl) ?_
    refine lv_iload_n S.1 S.2.1 dX3_readJoined_41 rfl (lv_at hl 3 rfl) ?_
    refine lv_icmp_ge (tgt := 98) S.1 S.2.1 dX3_readJoined_42 (by decide) (fun c42 => ?_) (fun c42 => ?_)
    · have hw := hw.1 c42
      exact b98 u hw H locs ls hI (lv_sub hl [0] rfl)
    · have hw := hw.2 c42
      refine lv_aload_n S.1 S.2.1 dX3_readJoined_45 rfl (lv_at hl 0 rfl) ?_
      refine m_vi (As := []) (rest := []) S (W3_self h r cs) hI rfl (c_X3_next l D h r cs u _ hw) (cwV 0 S.2.2.2.2 gX3_readJoined_X3_next rfl rfl rfl (by decide +kernel) ⟨by simp only [rmS]; omega, by simp only [rmS]; omega⟩) (W3_at0 h r cs u) rfl rfl hl.1 rfl (Nat.le_of_ble_eq_true rfl) dX3_readJoined_46 ⟨Nat.zero_le _, Nat.zero_le _⟩ (fun y46 u46 H locs hw hI => ?_)
      refine m_si (As := [.int y46]) (rest := []) S hI.2.2.2.1.2.1 (c_X3_rankOf l y46 _ hw) (va_cwS 1 S.2.2.2.2 gX3_readJoined_X3_rankOf rfl rfl rfl (by decide +kernel) ⟨by simp only [rmS]; omega, by simp only [rmS]; omega⟩) rfl hl.1 rfl (Nat.le_of_ble_eq_true rfl) dX3_readJoined_49 ⟨Nat.zero_le _, Nat.zero_le _⟩ (fun y49 hw => ?_)
      refine lv_iload_n S.1 S.2.1 dX3_readJoined_52 rfl (lv_at hl 1 rfl) ?_
      refine lv_icmp_ne (tgt := 98) S.1 S.2.1 dX3_readJoined_53 (by decide) (fun c53 => ?_) (fun c53 => ?_)
      · have hw := hw.1 c53
        exact b98 u46 hw H locs ls hI (lv_sub hl [0] rfl)
      · have hw := hw.2 c53
        refine lv_aload_n S.1 S.2.1 dX3_readJoined_56 rfl (lv_at hl 0 rfl) ?_
        refine m_vi (As := []) (rest := []) S (W3_self h r cs) hI rfl (c_X3_next l D h r cs u46 _ hw) (cwV 0 S.2.2.2.2 gX3_readJoined_X3_next rfl rfl rfl (by decide +kernel) ⟨by simp only [rmS]; omega, by simp only [rmS]; omega⟩) (W3_at0 h r cs u46) rfl rfl hl.1 rfl (Nat.le_of_ble_eq_true rfl) dX3_readJoined_57 ⟨Nat.zero_le _, Nat.zero_le _⟩ (fun y57 u57 H locs hw hI => ?_)
        refine lv_istore (lv' := [(5, .int y57), (0, .ref h), (1, .int x1), (2, .int x2), (3, .int x3), (4, .int x4)]) S.1 S.2.1 dX3_readJoined_60 hl (by decide) rfl (fun ls hl => ?_)
        refine lv_aload_n S.1 S.2.1 dX3_readJoined_62 rfl (lv_at hl 1 rfl) ?_
        refine lv_dup S.1 S.2.1 dX3_readJoined_63 rfl ?_
        refine m_get S hin hI 0 (W3_at0 h r cs u57) rfl 7 (Nat.le_of_ble_eq_true rfl) (List.mem_of_getElem? (i := 1) rfl) rfl (Ff3_at7 r u57) dX3_readJoined_64 ?_
        refine lv_iconst (v := 1) S.1 S.2.1 dX3_readJoined_67 (by decide) ?_
        refine lv_iadd S.1 S.2.1 dX3_readJoined_68 ?_
        refine lv_topi (fun y68 ey68 => ?_)
        have hw := hw y68 ey68
        obtain ⟨u69, eu69⟩ : ∃ z : ST, z = sI u57 7 y68 := ⟨_, rfl⟩
        have hw := hw u69 eu69
        refine m_put S hin tyX3_ok nmX3 hI 0 (W3_at0 h r cs u57) rfl 7 (Nat.le_of_ble_eq_true rfl) (List.mem_of_getElem? (i := 1) rfl) rfl rfl rfl rfl (Nat.le_of_ble_eq_true rfl) (W3_sI7 h r cs u57 u69 y68 eu69) dX3_readJoined_69 (fun H locs hI => ?_)
        refine lv_aload_n S.1 S.2.1 dX3_readJoined_72 rfl (lv_at hl 1 rfl) ?_
        refine lv_iload_n S.1 S.2.1 dX3_readJoined_73 rfl (lv_at hl 2 rfl) ?_
        refine lv_iconst (v := 1) S.1 S.2.1 dX3_readJoined_74 (by decide) ?_
        refine lv_iadd S.1 S.2.1 dX3_readJoined_75 ?_
        refine lv_topi (fun y75 ey75 => ?_)
        have hw := hw y75 ey75
        refine lv_iload_n S.1 S.2.1 dX3_readJoined_76 rfl (lv_at hl 3 rfl) ?_
        refine m_vi (As := [.int y75, .int x2]) (rest := []) S (W3_self h r cs) hI rfl (hP0 y75 x2 u69 _ hw) (cwV 2 S.2.2.2.2 gX3_readJoined_X3_readJoined rfl rfl rfl (by decide +kernel) ⟨by simp only [rmS]; omega, by simp only [rmS]; omega⟩) (W3_at0 h r cs u69) rfl rfl hl.1 rfl (Nat.le_of_ble_eq_true rfl) dX3_readJoined_77 ⟨Nat.zero_le _, Nat.zero_le _⟩ (fun y77 u77 H locs hw hI => ?_)
        refine lv_if_ne (tgt := 85) S.1 S.2.1 dX3_readJoined_80 (by decide) (fun c80 => ?_) (fun c80 => ?_)
        · have hw := hw.1 c80
          refine lv_aload_n S.1 S.2.1 dX3_readJoined_85 rfl (lv_at hl 1 rfl) ?_
          refine lv_iload S.1 S.2.1 dX3_readJoined_86 (lv_at hl 0 rfl) ?_
          refine lv_ineg S.1 S.2.1 dX3_readJoined_88 ?_
          refine lv_topi (fun y88 ey88 => ?_)
          have hw := hw y88 ey88
          refine m_vv (As := [.int y88]) (rest := []) S (W3_self h r cs) hI rfl (c_X3_write l D h r cs y88 u77 _ hw) (cwV 1 S.2.2.2.2 gX3_readJoined_X3_write rfl rfl rfl (by decide +kernel) ⟨by simp only [rmS]; omega, by simp only [rmS]; omega⟩) (W3_at0 h r cs u77) rfl rfl hl.1 rfl (Nat.le_of_ble_eq_true rfl) dX3_readJoined_89 ⟨Nat.zero_le _, Nat.zero_le _⟩ (fun u89 H locs hw hI => ?_)
          obtain ⟨y92, ey92⟩ : ∃ z : Int32, z = x4 + 1 := ⟨_, rfl⟩
          have hw := hw y92 ey92
          refine lv_iinc (v := y92) (lv' := [(4, .int y92), (5, .int y57), (0, .ref h), (1, .int x1), (2, .int x2), (3, .int x3)]) S.1 S.2.1 dX3_readJoined_92 hl (k := 5) rfl (by rw [ey92]; rfl) (by decide) rfl (fun ls hl => ?_)
          refine lv_goto (tgt := 39) S.1 S.2.1 dX3_readJoined_95 (by decide) ?_
          exact hB39 x1 x2 x3 y92 u89 hw H locs ls hI (lv_sub hl [2, 3, 4, 5, 0] rfl)
        · have hw := hw.2 c80
          refine lv_iconst (v := 0) S.1 S.2.1 dX3_readJoined_83 (by decide) ?_
          subst hZ
          exact m_zret S hr hlocks hI hw.1 hw.2 dX3_readJoined_84
  have b39 : ∀ (x1 : Int32) (x2 : Int32) (x3 : Int32) (x4 : Int32) (u : ST), wp_X3_readJoined_p39 x1 x2 x3 x4 u P Q → mGo p l e (rmS (d + 1)) s m args below meth c A Z 6 D (mT cs) (W3 h r cs) 39 [(0, .ref h), (1, .int x1), (2, .int x2), (3, .int x3), (4, .int x4)] [] u := by
    intro x1 x2 x3 x4 u hw
    obtain ⟨I, μ, h0, hs⟩ := hw
    have key : ∀ (n : Nat) (x1 : Int32) (x2 : Int32) (x3 : Int32) (x4 : Int32) (u : ST), μ x1 x2 x3 x4 u = n → I x1 x2 x3 x4 u → mGo p l e (rmS (d + 1)) s m args below meth c A Z 6 D (mT cs) (W3 h r cs) 39 [(0, .ref h), (1, .int x1), (2, .int x2), (3, .int x3), (4, .int x4)] [] u := by
      intro n
      induction n using Nat.strongRecOn with
      | ind n ih =>
        intro x1 x2 x3 x4 u hn hi
        exact b39b (fun yx1 yx2 yx3 yx4 yu => I yx1 yx2 yx3 yx4 yu ∧ μ yx1 yx2 yx3 yx4 yu < μ x1 x2 x3 x4 u) (fun yx1 yx2 yx3 yx4 yu hb => ih _ (hn ▸ hb.2) yx1 yx2 yx3 yx4 yu rfl hb.1) x1 x2 x3 x4 u (hs x1 x2 x3 x4 u hi)
    exact key _ x1 x2 x3 x4 u rfl h0
  have b35 : ∀ (x1 : Int32) (x2 : Int32) (t0 : Int32) (u : ST), wp_X3_readJoined_p35 x1 x2 t0 u P Q → mGo p l e (rmS (d + 1)) s m args below meth c A Z 6 D (mT cs) (W3 h r cs) 35 [(0, .ref h), (1, .int x1), (2, .int x2)] [.int t0] u := by
    intro x1 x2 t0 u hw H locs ls hI hl
    unfold wp_X3_readJoined_p35 at hw
    refine lv_istore_n (lv' := [(3, .int t0), (0, .ref h), (1, .int x1), (2, .int x2)]) S.1 S.2.1 dX3_readJoined_35 rfl hl (by decide) rfl (fun ls hl => ?_)
    refine lv_iconst (v := 0) S.1 S.2.1 dX3_readJoined_36 (by decide) ?_
    refine lv_istore (lv' := [(4, .int (0 : Int32)), (3, .int t0), (0, .ref h), (1, .int x1), (2, .int x2)]) S.1 S.2.1 dX3_readJoined_37 hl (by decide) rfl (fun ls hl => ?_)
    exact b39 x1 x2 t0 (0 : Int32) u hw H locs ls hI (lv_sub hl [2, 3, 4, 1, 0] rfl)
  unfold wp_X3_readJoined at hw
  obtain ⟨H, hH⟩ : ∃ z : Heap, z = s.heap := ⟨_, rfl⟩
  obtain ⟨locs, hL⟩ : ∃ z : List Loc, z = [] := ⟨_, rfl⟩
  rw [show W p l e (rmS (d + 1)) s m args below meth c s.heap [] 0 0 Z (F0 m 0 ls []) = W p l e (rmS (d + 1)) s m args below meth c H locs 0 0 Z (F0 m 0 ls []) by rw [hH, hL]]
  replace hI : mI D (mT cs) A s.heap s (W3 h r cs u) H locs := by rw [hH, hL]; exact hI
  refine lv_iload_n S.1 S.2.1 dX3_readJoined_0 rfl (lv_at hl 1 rfl) ?_
  refine lv_iconst (v := 4) S.1 S.2.1 dX3_readJoined_1 (by decide) ?_
  refine lv_icmp_le (tgt := 11) S.1 S.2.1 dX3_readJoined_2 (by decide) (fun c2 => ?_) (fun c2 => ?_)
  · have hw := hw.1 c2
    refine lv_aload_n S.1 S.2.1 dX3_readJoined_11 rfl (lv_at hl 0 rfl) ?_
    refine lv_iload_n S.1 S.2.1 dX3_readJoined_12 rfl (lv_at hl 1 rfl) ?_
    refine lv_iconst (v := 1) S.1 S.2.1 dX3_readJoined_13 (by decide) ?_
    refine lv_iadd S.1 S.2.1 dX3_readJoined_14 ?_
    refine lv_topi (fun y14 ey14 => ?_)
    have hw := hw y14 ey14
    refine lv_iload_n S.1 S.2.1 dX3_readJoined_15 rfl (lv_at hl 2 rfl) ?_
    refine m_vi (As := [.int y14, .int a2]) (rest := []) S (W3_self h r cs) hI rfl (hP0 y14 a2 u _ hw) (cwV 2 S.2.2.2.2 gX3_readJoined_X3_readJoined rfl rfl rfl (by decide +kernel) ⟨by simp only [rmS]; omega, by simp only [rmS]; omega⟩) (W3_at0 h r cs u) rfl rfl hl.1 rfl (Nat.le_of_ble_eq_true rfl) dX3_readJoined_16 ⟨Nat.zero_le _, Nat.zero_le _⟩ (fun y16 u16 H locs hw hI => ?_)
    refine lv_if_ne (tgt := 24) S.1 S.2.1 dX3_readJoined_19 (by decide) (fun c19 => ?_) (fun c19 => ?_)
    · have hw := hw.1 c19
      refine lv_iload_n S.1 S.2.1 dX3_readJoined_24 rfl (lv_at hl 1 rfl) ?_
      refine lv_iconst (v := 2) S.1 S.2.1 dX3_readJoined_25 (by decide) ?_
      refine lv_icmp_ne (tgt := 33) S.1 S.2.1 dX3_readJoined_26 (by decide) (fun c26 => ?_) (fun c26 => ?_)
      · have hw := hw.1 c26
        refine lv_bipush (v := 120) S.1 S.2.1 dX3_readJoined_33 (by decide) ?_
        exact b35 a1 a2 (120 : Int32) u16 hw H locs ls hI (lv_sub hl [0, 1, 2] rfl)
      · have hw := hw.2 c26
        refine lv_iconst (v := 1) S.1 S.2.1 dX3_readJoined_29 (by decide) ?_
        refine lv_goto (tgt := 35) S.1 S.2.1 dX3_readJoined_30 (by decide) ?_
        exact b35 a1 a2 (1 : Int32) u16 hw H locs ls hI (lv_sub hl [0, 1, 2] rfl)
    · have hw := hw.2 c19
      refine lv_iconst (v := 0) S.1 S.2.1 dX3_readJoined_22 (by decide) ?_
      subst hZ
      exact m_zret S hr hlocks hI hw.1 hw.2 dX3_readJoined_23
  · have hw := hw.2 c2
    refine lv_aload_n S.1 S.2.1 dX3_readJoined_5 rfl (lv_at hl 0 rfl) ?_
    refine lv_iload_n S.1 S.2.1 dX3_readJoined_6 rfl (lv_at hl 2 rfl) ?_
    refine m_vi (As := [.int a2]) (rest := []) S (W3_self h r cs) hI rfl (hP1 a2 u _ hw) (cwV 1 S.2.2.2.2 gX3_readJoined_X3_readOperand rfl rfl rfl (by decide +kernel) ⟨by simp only [rmS]; omega, by simp only [rmS]; omega⟩) (W3_at0 h r cs u) rfl rfl hl.1 rfl (Nat.le_of_ble_eq_true rfl) dX3_readJoined_7 ⟨Nat.zero_le _, Nat.zero_le _⟩ (fun y7 u7 H locs hw hI => ?_)
    subst hZ
    exact m_zret S hr hlocks hI hw.1 hw.2 dX3_readJoined_10

def wpR3 : Nat → Nat → Int32 → Int32 → ST → (Int32 → ST → Prop) → Prop
  | 0, _, _, _, _, _ => False
  | d + 1, k, b0, b1, u, Q => match k with
    | 0 => wp_X3_readJoined b0 b1 u (wpR3 d) Q
    | 1 => wp_X3_readOperand b0 u (wpR3 d) Q
    | 2 => wp_X3_readEnclosed b0 u (wpR3 d) Q
    | _ => wp_X3_readTurned b0 b1 u (wpR3 d) Q
set_option maxHeartbeats 4000000 in
theorem c_rd3 (l : Launch) (D : va_G) (h : Nat) (r : Nat → Nat) (cs : Nat → ClassId) : ∀ d : Nat, (∀ (a1 : Int32) (a2 : Int32) (u : ST) (Q : Int32 → ST → Prop), wpR3 d 0 a1 a2 u Q → mCi l yX3_readJoined wsX3_readJoined (rmS d) 0 0 D (mT cs) (W3 h r cs) [.ref h, .int a1, .int a2] u Q) ∧ (∀ (a1 : Int32) (u : ST) (Q : Int32 → ST → Prop), wpR3 d 1 a1 (0 : Int32) u Q → mCi l yX3_readOperand wsX3_readOperand (rmS d) 0 0 D (mT cs) (W3 h r cs) [.ref h, .int a1] u Q) ∧ (∀ (a1 : Int32) (u : ST) (Q : Int32 → ST → Prop), wpR3 d 2 a1 (0 : Int32) u Q → mCi l yX3_readEnclosed wsX3_readEnclosed (rmS d) 0 0 D (mT cs) (W3 h r cs) [.ref h, .int a1] u Q) ∧ (∀ (a1 : Int32) (a2 : Int32) (u : ST) (Q : Int32 → ST → Prop), wpR3 d 3 a1 a2 u Q → mCi l yX3_readTurned wsX3_readTurned (rmS d) 0 0 D (mT cs) (W3 h r cs) [.ref h, .int a1, .int a2] u Q) := by
  intro d
  induction d with
  | zero => exact ⟨fun _ _ _ _ hw => False.elim hw, fun _ _ _ hw => False.elim hw, fun _ _ _ hw => False.elim hw, fun _ _ _ _ hw => False.elim hw⟩
  | succ d ih =>
    obtain ⟨i0, i1, i2, i3⟩ := ih
    exact ⟨fun a1 a2 u Q hw => c_X3_readJoined l D h r cs d (wpR3 d) i0 i1 i2 i3 a1 a2 u Q hw, fun a1 u Q hw => c_X3_readOperand l D h r cs d (wpR3 d) i0 i1 i2 i3 a1 u Q hw, fun a1 u Q hw => c_X3_readEnclosed l D h r cs d (wpR3 d) i0 i1 i2 i3 a1 u Q hw, fun a1 a2 u Q hw => c_X3_readTurned l D h r cs d (wpR3 d) i0 i1 i2 i3 a1 a2 u Q hw⟩

def wp_X3_readLine_p47 (u : ST) (Q : Int32 → ST → Prop) : Prop :=
  (wp_X3_write ((-59) : Int32) u (fun u50 => ((1 : Int32) &&& 1 = (1 : Int32) ∧ Q (1 : Int32) u50)))
def wp_X3_readLine (u : ST) (Q : Int32 → ST → Prop) : Prop :=
  (wpR3 80 0 (0 : Int32) (0 : Int32) u (fun y3 u3 => ((¬ y3 = 0 → (wp_X3_next u3 (fun y12 u12 => ((¬ y12 = (63 : Int32) → wp_X3_readLine_p47 u12 Q) ∧ (y12 = (63 : Int32) → (∀ y26 : Int32, y26 = (gI u12 7) + (1 : Int32) → (∀ u27 : ST, u27 = sI u12 7 y26 → (wp_X3_write ((-63) : Int32) u27 (fun u33 => (wpR3 80 0 (0 : Int32) (0 : Int32) u33 (fun y39 u39 => ((¬ y39 = 0 → wp_X3_readLine_p47 u39 Q) ∧ (y39 = 0 → ((0 : Int32) &&& 1 = (0 : Int32) ∧ Q (0 : Int32) u39)))))))))))))) ∧ (y3 = 0 → ((0 : Int32) &&& 1 = (0 : Int32) ∧ Q (0 : Int32) u3)))))
set_option maxHeartbeats 4000000 in
set_option maxRecDepth 100000 in
theorem c_X3_readLine (l : Launch) (D : va_G) (h : Nat) (r : Nat → Nat) (cs : Nat → ClassId) (u : ST) (Q : Int32 → ST → Prop) (hw : wp_X3_readLine u Q) : mCi l yX3_readLine wsX3_readLine ({ frames := 84, cells := 0, slots := 0, locals := 2165 } : Room) 0 0 D (mT cs) (W3 h r cs) [.ref h] u Q := by
  unfold mCi
  refine m_enter (QQ := fun A => va_Qi Q (mPos D (mT cs) A (W3 h r cs)) A) (cc := cX3_readLine) (maxL := 1) (ret := (some .boolean)) (by decide) rfl (Nat.le_of_ble_eq_true rfl) ?_
  intro p e s m args below meth c A ls S hr hlocks hname hl hI
  have S : CallFix p m c cX3_readLine 1 s args wsX3_readLine RX3 := S
  show W p l e ({ frames := 84, cells := 0, slots := 0, locals := 2165 } : Room) s m args below meth c s.heap [] 0 0 (MQ below (va_Qi Q (mPos D (mT cs) A (W3 h r cs)) A) args s 0 0 A) (F0 m 0 ls [])
  generalize hZ : MQ below (va_Qi Q (mPos D (mT cs) A (W3 h r cs)) A) args s 0 0 A = Z
  have hin : ∀ w ∈ wsX30, w ∈ wsX3_readLine := fun _ h => List.mem_cons_of_mem _ (List.mem_append_right _ h)
  have hl : lv_has ls 1 [(0, .ref h)] := hl
  have b47 : ∀ (u : ST), wp_X3_readLine_p47 u Q → mGo p l e ({ frames := 84, cells := 0, slots := 0, locals := 2165 } : Room) s m args below meth c A Z 1 D (mT cs) (W3 h r cs) 47 [(0, .ref h)] [] u := by
    intro u hw H locs ls hI hl
    unfold wp_X3_readLine_p47 at hw
    refine lv_aload_n S.1 S.2.1 dX3_readLine_47 rfl (lv_at hl 0 rfl) ?_
    refine lv_bipush (v := (-59)) S.1 S.2.1 dX3_readLine_48 (by decide) ?_
    refine m_vv (As := [.int ((-59) : Int32)]) (rest := []) S (W3_self h r cs) hI rfl (c_X3_write l D h r cs ((-59) : Int32) u _ hw) (cwV 1 S.2.2.2.2 gX3_readLine_X3_write rfl rfl rfl (by decide +kernel) ⟨Nat.le_of_ble_eq_true rfl, Nat.le_of_ble_eq_true rfl⟩) (W3_at0 h r cs u) rfl rfl hl.1 rfl (Nat.le_of_ble_eq_true rfl) dX3_readLine_50 ⟨Nat.zero_le _, Nat.zero_le _⟩ (fun u50 H locs hw hI => ?_)
    refine lv_iconst (v := 1) S.1 S.2.1 dX3_readLine_53 (by decide) ?_
    subst hZ
    exact m_zret S hr hlocks hI hw.1 hw.2 dX3_readLine_54
  unfold wp_X3_readLine at hw
  obtain ⟨H, hH⟩ : ∃ z : Heap, z = s.heap := ⟨_, rfl⟩
  obtain ⟨locs, hL⟩ : ∃ z : List Loc, z = [] := ⟨_, rfl⟩
  rw [show W p l e ({ frames := 84, cells := 0, slots := 0, locals := 2165 } : Room) s m args below meth c s.heap [] 0 0 Z (F0 m 0 ls []) = W p l e ({ frames := 84, cells := 0, slots := 0, locals := 2165 } : Room) s m args below meth c H locs 0 0 Z (F0 m 0 ls []) by rw [hH, hL]]
  replace hI : mI D (mT cs) A s.heap s (W3 h r cs u) H locs := by rw [hH, hL]; exact hI
  refine lv_aload_n S.1 S.2.1 dX3_readLine_0 rfl (lv_at hl 0 rfl) ?_
  refine lv_iconst (v := 0) S.1 S.2.1 dX3_readLine_1 (by decide) ?_
  refine lv_iconst (v := 0) S.1 S.2.1 dX3_readLine_2 (by decide) ?_
  refine m_vi (As := [.int (0 : Int32), .int (0 : Int32)]) (rest := []) S (W3_self h r cs) hI rfl ((c_rd3 l D h r cs 80).1 (0 : Int32) (0 : Int32) u _ hw) (cwV 2 S.2.2.2.2 gX3_readLine_X3_readJoined rfl rfl rfl (by decide +kernel) ⟨Nat.le_of_ble_eq_true rfl, Nat.le_of_ble_eq_true rfl⟩) (W3_at0 h r cs u) rfl rfl hl.1 rfl (Nat.le_of_ble_eq_true rfl) dX3_readLine_3 ⟨Nat.zero_le _, Nat.zero_le _⟩ (fun y3 u3 H locs hw hI => ?_)
  refine lv_if_ne (tgt := 11) S.1 S.2.1 dX3_readLine_6 (by decide) (fun c6 => ?_) (fun c6 => ?_)
  · have hw := hw.1 c6
    refine lv_aload_n S.1 S.2.1 dX3_readLine_11 rfl (lv_at hl 0 rfl) ?_
    refine m_vi (As := []) (rest := []) S (W3_self h r cs) hI rfl (c_X3_next l D h r cs u3 _ hw) (cwV 0 S.2.2.2.2 gX3_readLine_X3_next rfl rfl rfl (by decide +kernel) ⟨Nat.le_of_ble_eq_true rfl, Nat.le_of_ble_eq_true rfl⟩) (W3_at0 h r cs u3) rfl rfl hl.1 rfl (Nat.le_of_ble_eq_true rfl) dX3_readLine_12 ⟨Nat.zero_le _, Nat.zero_le _⟩ (fun y12 u12 H locs hw hI => ?_)
    refine lv_bipush (v := 63) S.1 S.2.1 dX3_readLine_15 (by decide) ?_
    refine lv_icmp_ne (tgt := 47) S.1 S.2.1 dX3_readLine_17 (by decide) (fun c17 => ?_) (fun c17 => ?_)
    · have hw := hw.1 c17
      exact b47 u12 hw H locs ls hI (lv_sub hl [0] rfl)
    · have hw := hw.2 c17
      refine lv_aload_n S.1 S.2.1 dX3_readLine_20 rfl (lv_at hl 0 rfl) ?_
      refine lv_dup S.1 S.2.1 dX3_readLine_21 rfl ?_
      refine m_get S hin hI 0 (W3_at0 h r cs u12) rfl 7 (Nat.le_of_ble_eq_true rfl) (List.mem_of_getElem? (i := 1) rfl) rfl (Ff3_at7 r u12) dX3_readLine_22 ?_
      refine lv_iconst (v := 1) S.1 S.2.1 dX3_readLine_25 (by decide) ?_
      refine lv_iadd S.1 S.2.1 dX3_readLine_26 ?_
      refine lv_topi (fun y26 ey26 => ?_)
      have hw := hw y26 ey26
      obtain ⟨u27, eu27⟩ : ∃ z : ST, z = sI u12 7 y26 := ⟨_, rfl⟩
      have hw := hw u27 eu27
      refine m_put S hin tyX3_ok nmX3 hI 0 (W3_at0 h r cs u12) rfl 7 (Nat.le_of_ble_eq_true rfl) (List.mem_of_getElem? (i := 1) rfl) rfl rfl rfl rfl (Nat.le_of_ble_eq_true rfl) (W3_sI7 h r cs u12 u27 y26 eu27) dX3_readLine_27 (fun H locs hI => ?_)
      refine lv_aload_n S.1 S.2.1 dX3_readLine_30 rfl (lv_at hl 0 rfl) ?_
      refine lv_bipush (v := (-63)) S.1 S.2.1 dX3_readLine_31 (by decide) ?_
      refine m_vv (As := [.int ((-63) : Int32)]) (rest := []) S (W3_self h r cs) hI rfl (c_X3_write l D h r cs ((-63) : Int32) u27 _ hw) (cwV 1 S.2.2.2.2 gX3_readLine_X3_write rfl rfl rfl (by decide +kernel) ⟨Nat.le_of_ble_eq_true rfl, Nat.le_of_ble_eq_true rfl⟩) (W3_at0 h r cs u27) rfl rfl hl.1 rfl (Nat.le_of_ble_eq_true rfl) dX3_readLine_33 ⟨Nat.zero_le _, Nat.zero_le _⟩ (fun u33 H locs hw hI => ?_)
      refine lv_aload_n S.1 S.2.1 dX3_readLine_36 rfl (lv_at hl 0 rfl) ?_
      refine lv_iconst (v := 0) S.1 S.2.1 dX3_readLine_37 (by decide) ?_
      refine lv_iconst (v := 0) S.1 S.2.1 dX3_readLine_38 (by decide) ?_
      refine m_vi (As := [.int (0 : Int32), .int (0 : Int32)]) (rest := []) S (W3_self h r cs) hI rfl ((c_rd3 l D h r cs 80).1 (0 : Int32) (0 : Int32) u33 _ hw) (cwV 2 S.2.2.2.2 gX3_readLine_X3_readJoined rfl rfl rfl (by decide +kernel) ⟨Nat.le_of_ble_eq_true rfl, Nat.le_of_ble_eq_true rfl⟩) (W3_at0 h r cs u33) rfl rfl hl.1 rfl (Nat.le_of_ble_eq_true rfl) dX3_readLine_39 ⟨Nat.zero_le _, Nat.zero_le _⟩ (fun y39 u39 H locs hw hI => ?_)
      refine lv_if_ne (tgt := 47) S.1 S.2.1 dX3_readLine_42 (by decide) (fun c42 => ?_) (fun c42 => ?_)
      · have hw := hw.1 c42
        exact b47 u39 hw H locs ls hI (lv_sub hl [0] rfl)
      · have hw := hw.2 c42
        refine lv_iconst (v := 0) S.1 S.2.1 dX3_readLine_45 (by decide) ?_
        subst hZ
        exact m_zret S hr hlocks hI hw.1 hw.2 dX3_readLine_46
  · have hw := hw.2 c6
    refine lv_iconst (v := 0) S.1 S.2.1 dX3_readLine_9 (by decide) ?_
    subst hZ
    exact m_zret S hr hlocks hI hw.1 hw.2 dX3_readLine_10

def wp_X3_readText_p77 (t0 : Int32) (u : ST) (Q : Int32 → ST → Prop) : Prop :=
  (t0 &&& 1 = t0 ∧ Q t0 u)
def wp_X3_readText_p61 (u : ST) (Q : Int32 → ST → Prop) : Prop :=
  ((¬ (gI u 7) = (gI u 4) → wp_X3_readText_p77 (0 : Int32) u Q) ∧ ((gI u 7) = (gI u 4) → wp_X3_readText_p77 (1 : Int32) u Q))
def wp_X3_readText_p21b (x1 : Int32) (u : ST) (B21 : Int32 → ST → Prop) (Q : Int32 → ST → Prop) : Prop :=
  (((120 : Int32) ≤ x1 → wp_X3_readText_p61 u Q) ∧ (¬ (120 : Int32) ≤ x1 → (wp_X3_next u (fun y28 u28 => ((¬ y28 = (59 : Int32) → wp_X3_readText_p61 u28 Q) ∧ (y28 = (59 : Int32) → (∀ y42 : Int32, y42 = (gI u28 7) + (1 : Int32) → (∀ u43 : ST, u43 = sI u28 7 y42 → (wp_X3_readLine u43 (fun y47 u47 => ((¬ y47 = 0 → (∀ y55 : Int32, y55 = x1 + 1 → B21 y55 u47)) ∧ (y47 = 0 → ((0 : Int32) &&& 1 = (0 : Int32) ∧ Q (0 : Int32) u47)))))))))))))
def wp_X3_readText_p21 (x1 : Int32) (u : ST) (Q : Int32 → ST → Prop) : Prop := ∃ (I : Int32 → ST → Prop) (μ : Int32 → ST → Nat), I x1 u ∧ ∀ (x1 : Int32) (u : ST), I x1 u → wp_X3_readText_p21b x1 u (fun yx1 yu => I yx1 yu ∧ μ yx1 yu < μ x1 u) Q
def wp_X3_readText (u : ST) (Q : Int32 → ST → Prop) : Prop :=
  (∀ u2 : ST, u2 = sI u 7 (0 : Int32) → (∀ u7 : ST, u7 = sI u2 6 (0 : Int32) → (wp_X3_readLine u7 (fun y11 u11 => ((¬ y11 = 0 → wp_X3_readText_p21 (1 : Int32) u11 Q) ∧ (y11 = 0 → ((0 : Int32) &&& 1 = (0 : Int32) ∧ Q (0 : Int32) u11)))))))
set_option maxHeartbeats 4000000 in
set_option maxRecDepth 100000 in
theorem c_X3_readText (l : Launch) (D : va_G) (h : Nat) (r : Nat → Nat) (cs : Nat → ClassId) (u : ST) (Q : Int32 → ST → Prop) (hw : wp_X3_readText u Q) : mCi l yX3_readText wsX3_readText ({ frames := 85, cells := 0, slots := 0, locals := 2185 } : Room) 0 0 D (mT cs) (W3 h r cs) [.ref h] u Q := by
  unfold mCi
  refine m_enter (QQ := fun A => va_Qi Q (mPos D (mT cs) A (W3 h r cs)) A) (cc := cX3_readText) (maxL := 2) (ret := (some .boolean)) (by decide) rfl (Nat.le_of_ble_eq_true rfl) ?_
  intro p e s m args below meth c A ls S hr hlocks hname hl hI
  have S : CallFix p m c cX3_readText 2 s args wsX3_readText RX3 := S
  show W p l e ({ frames := 85, cells := 0, slots := 0, locals := 2185 } : Room) s m args below meth c s.heap [] 0 0 (MQ below (va_Qi Q (mPos D (mT cs) A (W3 h r cs)) A) args s 0 0 A) (F0 m 0 ls [])
  generalize hZ : MQ below (va_Qi Q (mPos D (mT cs) A (W3 h r cs)) A) args s 0 0 A = Z
  have hin : ∀ w ∈ wsX30, w ∈ wsX3_readText := fun _ h => List.mem_cons_of_mem _ (List.mem_append_right _ h)
  have hl : lv_has ls 2 [(0, .ref h)] := hl
  have b77 : ∀ (t0 : Int32) (u : ST), wp_X3_readText_p77 t0 u Q → mGo p l e ({ frames := 85, cells := 0, slots := 0, locals := 2185 } : Room) s m args below meth c A Z 2 D (mT cs) (W3 h r cs) 77 [(0, .ref h)] [.int t0] u := by
    intro t0 u hw H locs ls hI hl
    unfold wp_X3_readText_p77 at hw
    subst hZ
    exact m_zret S hr hlocks hI hw.1 hw.2 dX3_readText_77
  have b61 : ∀ (u : ST), wp_X3_readText_p61 u Q → mGo p l e ({ frames := 85, cells := 0, slots := 0, locals := 2185 } : Room) s m args below meth c A Z 2 D (mT cs) (W3 h r cs) 61 [(0, .ref h)] [] u := by
    intro u hw H locs ls hI hl
    unfold wp_X3_readText_p61 at hw
    refine lv_aload_n S.1 S.2.1 dX3_readText_61 rfl (lv_at hl 0 rfl) ?_
    refine m_get S hin hI 0 (W3_at0 h r cs u) rfl 7 (Nat.le_of_ble_eq_true rfl) (List.mem_of_getElem? (i := 1) rfl) rfl (Ff3_at7 r u) dX3_readText_62 ?_
    refine lv_aload_n S.1 S.2.1 dX3_readText_65 rfl (lv_at hl 0 rfl) ?_
    refine m_get S hin hI 0 (W3_at0 h r cs u) rfl 4 (Nat.le_of_ble_eq_true rfl) (List.mem_of_getElem? (i := 3) rfl) rfl (Ff3_at4 r u) dX3_readText_66 ?_
    refine lv_icmp_ne (tgt := 76) S.1 S.2.1 dX3_readText_69 (by decide) (fun c69 => ?_) (fun c69 => ?_)
    · have hw := hw.1 c69
      refine lv_iconst (v := 0) S.1 S.2.1 dX3_readText_76 (by decide) ?_
      exact b77 (0 : Int32) u hw H locs ls hI (lv_sub hl [0] rfl)
    · have hw := hw.2 c69
      refine lv_iconst (v := 1) S.1 S.2.1 dX3_readText_72 (by decide) ?_
      refine lv_goto (tgt := 77) S.1 S.2.1 dX3_readText_73 (by decide) ?_
      exact b77 (1 : Int32) u hw H locs ls hI (lv_sub hl [0] rfl)
  have b21b : ∀ (B21 : Int32 → ST → Prop), (∀ (x1 : Int32) (u : ST), B21 x1 u → mGo p l e ({ frames := 85, cells := 0, slots := 0, locals := 2185 } : Room) s m args below meth c A Z 2 D (mT cs) (W3 h r cs) 21 [(0, .ref h), (1, .int x1)] [] u) → ∀ (x1 : Int32) (u : ST), wp_X3_readText_p21b x1 u B21 Q → mGo p l e ({ frames := 85, cells := 0, slots := 0, locals := 2185 } : Room) s m args below meth c A Z 2 D (mT cs) (W3 h r cs) 21 [(0, .ref h), (1, .int x1)] [] u := by
    intro B21 hB21 x1 u hw H locs ls hI hl
    unfold wp_X3_readText_p21b at hw
    refine lv_iload_n S.1 S.2.1 dX3_readText_21 rfl (lv_at hl 1 rfl) ?_
    refine lv_bipush (v := 120) S.1 S.2.1 dX3_readText_22 (by decide) ?_
    refine lv_icmp_ge (tgt := 61) S.1 S.2.1 dX3_readText_24 (by decide) (fun c24 => ?_) (fun c24 => ?_)
    · have hw := hw.1 c24
      exact b61 u hw H locs ls hI (lv_sub hl [0] rfl)
    · have hw := hw.2 c24
      refine lv_aload_n S.1 S.2.1 dX3_readText_27 rfl (lv_at hl 0 rfl) ?_
      refine m_vi (As := []) (rest := []) S (W3_self h r cs) hI rfl (c_X3_next l D h r cs u _ hw) (cwV 0 S.2.2.2.2 gX3_readText_X3_next rfl rfl rfl (by decide +kernel) ⟨Nat.le_of_ble_eq_true rfl, Nat.le_of_ble_eq_true rfl⟩) (W3_at0 h r cs u) rfl rfl hl.1 rfl (Nat.le_of_ble_eq_true rfl) dX3_readText_28 ⟨Nat.zero_le _, Nat.zero_le _⟩ (fun y28 u28 H locs hw hI => ?_)
      refine lv_bipush (v := 59) S.1 S.2.1 dX3_readText_31 (by decide) ?_
      refine lv_icmp_ne (tgt := 61) S.1 S.2.1 dX3_readText_33 (by decide) (fun c33 => ?_) (fun c33 => ?_)
      · have hw := hw.1 c33
        exact b61 u28 hw H locs ls hI (lv_sub hl [0] rfl)
      · have hw := hw.2 c33
        refine lv_aload_n S.1 S.2.1 dX3_readText_36 rfl (lv_at hl 0 rfl) ?_
        refine lv_dup S.1 S.2.1 dX3_readText_37 rfl ?_
        refine m_get S hin hI 0 (W3_at0 h r cs u28) rfl 7 (Nat.le_of_ble_eq_true rfl) (List.mem_of_getElem? (i := 1) rfl) rfl (Ff3_at7 r u28) dX3_readText_38 ?_
        refine lv_iconst (v := 1) S.1 S.2.1 dX3_readText_41 (by decide) ?_
        refine lv_iadd S.1 S.2.1 dX3_readText_42 ?_
        refine lv_topi (fun y42 ey42 => ?_)
        have hw := hw y42 ey42
        obtain ⟨u43, eu43⟩ : ∃ z : ST, z = sI u28 7 y42 := ⟨_, rfl⟩
        have hw := hw u43 eu43
        refine m_put S hin tyX3_ok nmX3 hI 0 (W3_at0 h r cs u28) rfl 7 (Nat.le_of_ble_eq_true rfl) (List.mem_of_getElem? (i := 1) rfl) rfl rfl rfl rfl (Nat.le_of_ble_eq_true rfl) (W3_sI7 h r cs u28 u43 y42 eu43) dX3_readText_43 (fun H locs hI => ?_)
        refine lv_aload_n S.1 S.2.1 dX3_readText_46 rfl (lv_at hl 0 rfl) ?_
        refine m_vi (As := []) (rest := []) S (W3_self h r cs) hI rfl (c_X3_readLine l D h r cs u43 _ hw) (cwV 0 S.2.2.2.2 gX3_readText_X3_readLine rfl rfl rfl (by decide +kernel) ⟨Nat.le_of_ble_eq_true rfl, Nat.le_of_ble_eq_true rfl⟩) (W3_at0 h r cs u43) rfl rfl hl.1 rfl (Nat.le_of_ble_eq_true rfl) dX3_readText_47 ⟨Nat.zero_le _, Nat.zero_le _⟩ (fun y47 u47 H locs hw hI => ?_)
        refine lv_if_ne (tgt := 55) S.1 S.2.1 dX3_readText_50 (by decide) (fun c50 => ?_) (fun c50 => ?_)
        · have hw := hw.1 c50
          obtain ⟨y55, ey55⟩ : ∃ z : Int32, z = x1 + 1 := ⟨_, rfl⟩
          have hw := hw y55 ey55
          refine lv_iinc (v := y55) (lv' := [(1, .int y55), (0, .ref h)]) S.1 S.2.1 dX3_readText_55 hl (k := 1) rfl (by rw [ey55]; rfl) (by decide) rfl (fun ls hl => ?_)
          refine lv_goto (tgt := 21) S.1 S.2.1 dX3_readText_58 (by decide) ?_
          exact hB21 y55 u47 hw H locs ls hI (lv_sub hl [1, 0] rfl)
        · have hw := hw.2 c50
          refine lv_iconst (v := 0) S.1 S.2.1 dX3_readText_53 (by decide) ?_
          subst hZ
          exact m_zret S hr hlocks hI hw.1 hw.2 dX3_readText_54
  have b21 : ∀ (x1 : Int32) (u : ST), wp_X3_readText_p21 x1 u Q → mGo p l e ({ frames := 85, cells := 0, slots := 0, locals := 2185 } : Room) s m args below meth c A Z 2 D (mT cs) (W3 h r cs) 21 [(0, .ref h), (1, .int x1)] [] u := by
    intro x1 u hw
    obtain ⟨I, μ, h0, hs⟩ := hw
    have key : ∀ (n : Nat) (x1 : Int32) (u : ST), μ x1 u = n → I x1 u → mGo p l e ({ frames := 85, cells := 0, slots := 0, locals := 2185 } : Room) s m args below meth c A Z 2 D (mT cs) (W3 h r cs) 21 [(0, .ref h), (1, .int x1)] [] u := by
      intro n
      induction n using Nat.strongRecOn with
      | ind n ih =>
        intro x1 u hn hi
        exact b21b (fun yx1 yu => I yx1 yu ∧ μ yx1 yu < μ x1 u) (fun yx1 yu hb => ih _ (hn ▸ hb.2) yx1 yu rfl hb.1) x1 u (hs x1 u hi)
    exact key _ x1 u rfl h0
  unfold wp_X3_readText at hw
  obtain ⟨H, hH⟩ : ∃ z : Heap, z = s.heap := ⟨_, rfl⟩
  obtain ⟨locs, hL⟩ : ∃ z : List Loc, z = [] := ⟨_, rfl⟩
  rw [show W p l e ({ frames := 85, cells := 0, slots := 0, locals := 2185 } : Room) s m args below meth c s.heap [] 0 0 Z (F0 m 0 ls []) = W p l e ({ frames := 85, cells := 0, slots := 0, locals := 2185 } : Room) s m args below meth c H locs 0 0 Z (F0 m 0 ls []) by rw [hH, hL]]
  replace hI : mI D (mT cs) A s.heap s (W3 h r cs u) H locs := by rw [hH, hL]; exact hI
  refine lv_aload_n S.1 S.2.1 dX3_readText_0 rfl (lv_at hl 0 rfl) ?_
  refine lv_iconst (v := 0) S.1 S.2.1 dX3_readText_1 (by decide) ?_
  obtain ⟨u2, eu2⟩ : ∃ z : ST, z = sI u 7 (0 : Int32) := ⟨_, rfl⟩
  have hw := hw u2 eu2
  refine m_put S hin tyX3_ok nmX3 hI 0 (W3_at0 h r cs u) rfl 7 (Nat.le_of_ble_eq_true rfl) (List.mem_of_getElem? (i := 1) rfl) rfl rfl rfl rfl (Nat.le_of_ble_eq_true rfl) (W3_sI7 h r cs u u2 (0 : Int32) eu2) dX3_readText_2 (fun H locs hI => ?_)
  refine lv_aload_n S.1 S.2.1 dX3_readText_5 rfl (lv_at hl 0 rfl) ?_
  refine lv_iconst (v := 0) S.1 S.2.1 dX3_readText_6 (by decide) ?_
  obtain ⟨u7, eu7⟩ : ∃ z : ST, z = sI u2 6 (0 : Int32) := ⟨_, rfl⟩
  have hw := hw u7 eu7
  refine m_put S hin tyX3_ok nmX3 hI 0 (W3_at0 h r cs u2) rfl 6 (Nat.le_of_ble_eq_true rfl) (List.mem_of_getElem? (i := 2) rfl) rfl rfl rfl rfl (Nat.le_of_ble_eq_true rfl) (W3_sI6 h r cs u2 u7 (0 : Int32) eu7) dX3_readText_7 (fun H locs hI => ?_)
  refine lv_aload_n S.1 S.2.1 dX3_readText_10 rfl (lv_at hl 0 rfl) ?_
  refine m_vi (As := []) (rest := []) S (W3_self h r cs) hI rfl (c_X3_readLine l D h r cs u7 _ hw) (cwV 0 S.2.2.2.2 gX3_readText_X3_readLine rfl rfl rfl (by decide +kernel) ⟨Nat.le_of_ble_eq_true rfl, Nat.le_of_ble_eq_true rfl⟩) (W3_at0 h r cs u7) rfl rfl hl.1 rfl (Nat.le_of_ble_eq_true rfl) dX3_readText_11 ⟨Nat.zero_le _, Nat.zero_le _⟩ (fun y11 u11 H locs hw hI => ?_)
  refine lv_if_ne (tgt := 19) S.1 S.2.1 dX3_readText_14 (by decide) (fun c14 => ?_) (fun c14 => ?_)
  · have hw := hw.1 c14
    refine lv_iconst (v := 1) S.1 S.2.1 dX3_readText_19 (by decide) ?_
    refine lv_istore_n (lv' := [(1, .int (1 : Int32)), (0, .ref h)]) S.1 S.2.1 dX3_readText_20 rfl hl (by decide) rfl (fun ls hl => ?_)
    exact b21 (1 : Int32) u11 hw H locs ls hI (lv_sub hl [1, 0] rfl)
  · have hw := hw.2 c14
    refine lv_iconst (v := 0) S.1 S.2.1 dX3_readText_17 (by decide) ?_
    subst hZ
    exact m_zret S hr hlocks hI hw.1 hw.2 dX3_readText_18

def wp_X3_pop (u : ST) (Q : Int32 → ST → Prop) : Prop :=
  ((¬ (gI u 8) = 0 → (∀ y15 : Int32, y15 = (gI u 8) - (1 : Int32) → (∀ u16 : ST, u16 = sI u 8 y15 → (vp_in (gI u16 8) 124 ∧ ∀ y27 : Int32, y27 = gA u16 1 (gI u16 8).toNatClampNeg → Q y27 u16)))) ∧ ((gI u 8) = 0 → Q (0 : Int32) u))
set_option maxHeartbeats 4000000 in
set_option maxRecDepth 100000 in
theorem c_X3_pop (l : Launch) (D : va_G) (h : Nat) (r : Nat → Nat) (cs : Nat → ClassId) (u : ST) (Q : Int32 → ST → Prop) (hw : wp_X3_pop u Q) : mCi l yX3_pop wsX3_pop ({ frames := 0, cells := 0, slots := 0, locals := 0 } : Room) 0 0 D (mT cs) (W3 h r cs) [.ref h] u Q := by
  unfold mCi
  refine m_enter (QQ := fun A => va_Qi Q (mPos D (mT cs) A (W3 h r cs)) A) (cc := cX3_pop) (maxL := 1) (ret := (some .int)) (by decide) rfl (Nat.le_of_ble_eq_true rfl) ?_
  intro p e s m args below meth c A ls S hr hlocks hname hl hI
  have S : CallFix p m c cX3_pop 1 s args wsX3_pop RX3 := S
  show W p l e ({ frames := 0, cells := 0, slots := 0, locals := 0 } : Room) s m args below meth c s.heap [] 0 0 (MQ below (va_Qi Q (mPos D (mT cs) A (W3 h r cs)) A) args s 0 0 A) (F0 m 0 ls [])
  generalize hZ : MQ below (va_Qi Q (mPos D (mT cs) A (W3 h r cs)) A) args s 0 0 A = Z
  have hin : ∀ w ∈ wsX30, w ∈ wsX3_pop := fun _ h => List.mem_cons_of_mem _ (List.mem_append_right _ h)
  have hl : lv_has ls 1 [(0, .ref h)] := hl
  unfold wp_X3_pop at hw
  obtain ⟨H, hH⟩ : ∃ z : Heap, z = s.heap := ⟨_, rfl⟩
  obtain ⟨locs, hL⟩ : ∃ z : List Loc, z = [] := ⟨_, rfl⟩
  rw [show W p l e ({ frames := 0, cells := 0, slots := 0, locals := 0 } : Room) s m args below meth c s.heap [] 0 0 Z (F0 m 0 ls []) = W p l e ({ frames := 0, cells := 0, slots := 0, locals := 0 } : Room) s m args below meth c H locs 0 0 Z (F0 m 0 ls []) by rw [hH, hL]]
  replace hI : mI D (mT cs) A s.heap s (W3 h r cs u) H locs := by rw [hH, hL]; exact hI
  refine lv_aload_n S.1 S.2.1 dX3_pop_0 rfl (lv_at hl 0 rfl) ?_
  refine m_get S hin hI 0 (W3_at0 h r cs u) rfl 8 (Nat.le_of_ble_eq_true rfl) (List.mem_of_getElem? (i := 1) rfl) rfl (Ff3_at8 r u) dX3_pop_1 ?_
  refine lv_if_ne (tgt := 9) S.1 S.2.1 dX3_pop_4 (by decide) (fun c4 => ?_) (fun c4 => ?_)
  · have hw := hw.1 c4
    refine lv_aload_n S.1 S.2.1 dX3_pop_9 rfl (lv_at hl 0 rfl) ?_
    refine lv_dup S.1 S.2.1 dX3_pop_10 rfl ?_
    refine m_get S hin hI 0 (W3_at0 h r cs u) rfl 8 (Nat.le_of_ble_eq_true rfl) (List.mem_of_getElem? (i := 1) rfl) rfl (Ff3_at8 r u) dX3_pop_11 ?_
    refine lv_iconst (v := 1) S.1 S.2.1 dX3_pop_14 (by decide) ?_
    refine lv_isub S.1 S.2.1 dX3_pop_15 ?_
    refine lv_topi (fun y15 ey15 => ?_)
    have hw := hw y15 ey15
    obtain ⟨u16, eu16⟩ : ∃ z : ST, z = sI u 8 y15 := ⟨_, rfl⟩
    have hw := hw u16 eu16
    refine m_put S hin tyX3_ok nmX3 hI 0 (W3_at0 h r cs u) rfl 8 (Nat.le_of_ble_eq_true rfl) (List.mem_of_getElem? (i := 1) rfl) rfl rfl rfl rfl (Nat.le_of_ble_eq_true rfl) (W3_sI8 h r cs u u16 y15 eu16) dX3_pop_16 (fun H locs hI => ?_)
    refine lv_aload_n S.1 S.2.1 dX3_pop_19 rfl (lv_at hl 0 rfl) ?_
    refine m_get S hin hI 0 (W3_at0 h r cs u16) rfl 1 (Nat.le_of_ble_eq_true rfl) (List.mem_of_getElem? (i := 2) rfl) rfl (Ff3_at1 r u16) dX3_pop_20 ?_
    refine lv_aload_n S.1 S.2.1 dX3_pop_23 rfl (lv_at hl 0 rfl) ?_
    refine m_get S hin hI 0 (W3_at0 h r cs u16) rfl 8 (Nat.le_of_ble_eq_true rfl) (List.mem_of_getElem? (i := 1) rfl) rfl (Ff3_at8 r u16) dX3_pop_24 ?_
    refine m_iald S hI 2 0 (W3_at2 h r cs u16) rfl hw.1 dX3_pop_27 ?_
    refine lv_topi (fun y27 ey27 => ?_)
    have hw := hw.2 y27 ey27
    subst hZ
    exact m_iret S hr hlocks hI hw dX3_pop_28
  · have hw := hw.2 c4
    refine lv_iconst (v := 0) S.1 S.2.1 dX3_pop_7 (by decide) ?_
    subst hZ
    exact m_iret S hr hlocks hI hw dX3_pop_8

def wp_X3_push_p29 (u : ST) (Q : ST → Prop) : Prop :=
  Q u
def wp_X3_push (a1 : Int32) (u : ST) (Q : ST → Prop) : Prop :=
  (((124 : Int32) ≤ (gI u 8) → wp_X3_push_p29 u Q) ∧ (¬ (124 : Int32) ≤ (gI u 8) → (vp_in (gI u 8) 124 ∧ ∀ u18 : ST, u18 = sA u 1 (upd (gA u 1) (gI u 8).toNatClampNeg a1) → (∀ y25 : Int32, y25 = (gI u18 8) + (1 : Int32) → (∀ u26 : ST, u26 = sI u18 8 y25 → wp_X3_push_p29 u26 Q)))))
set_option maxHeartbeats 4000000 in
set_option maxRecDepth 100000 in
theorem c_X3_push (l : Launch) (D : va_G) (h : Nat) (r : Nat → Nat) (cs : Nat → ClassId) (a1 : Int32) (u : ST) (Q : ST → Prop) (hw : wp_X3_push a1 u Q) : mCv l yX3_push wsX3_push ({ frames := 0, cells := 0, slots := 0, locals := 0 } : Room) 0 0 D (mT cs) (W3 h r cs) [.ref h, .int a1] u Q := by
  unfold mCv
  refine m_enter (QQ := fun A => va_Qv Q (mPos D (mT cs) A (W3 h r cs)) A) (cc := cX3_push) (maxL := 2) (ret := none) (by decide) rfl (Nat.le_of_ble_eq_true rfl) ?_
  intro p e s m args below meth c A ls S hr hlocks hname hl hI
  have S : CallFix p m c cX3_push 2 s args wsX3_push RX3 := S
  show W p l e ({ frames := 0, cells := 0, slots := 0, locals := 0 } : Room) s m args below meth c s.heap [] 0 0 (MQ below (va_Qv Q (mPos D (mT cs) A (W3 h r cs)) A) args s 0 0 A) (F0 m 0 ls [])
  generalize hZ : MQ below (va_Qv Q (mPos D (mT cs) A (W3 h r cs)) A) args s 0 0 A = Z
  have hin : ∀ w ∈ wsX30, w ∈ wsX3_push := fun _ h => List.mem_cons_of_mem _ (List.mem_append_right _ h)
  have hl : lv_has ls 2 [(0, .ref h), (1, .int a1)] := hl
  have b29 : ∀ (u : ST), wp_X3_push_p29 u Q → mGo p l e ({ frames := 0, cells := 0, slots := 0, locals := 0 } : Room) s m args below meth c A Z 2 D (mT cs) (W3 h r cs) 29 [(0, .ref h)] [] u := by
    intro u hw H locs ls hI hl
    unfold wp_X3_push_p29 at hw
    subst hZ
    exact m_vret S hr hlocks hI hw dX3_push_29
  unfold wp_X3_push at hw
  obtain ⟨H, hH⟩ : ∃ z : Heap, z = s.heap := ⟨_, rfl⟩
  obtain ⟨locs, hL⟩ : ∃ z : List Loc, z = [] := ⟨_, rfl⟩
  rw [show W p l e ({ frames := 0, cells := 0, slots := 0, locals := 0 } : Room) s m args below meth c s.heap [] 0 0 Z (F0 m 0 ls []) = W p l e ({ frames := 0, cells := 0, slots := 0, locals := 0 } : Room) s m args below meth c H locs 0 0 Z (F0 m 0 ls []) by rw [hH, hL]]
  replace hI : mI D (mT cs) A s.heap s (W3 h r cs u) H locs := by rw [hH, hL]; exact hI
  refine lv_aload_n S.1 S.2.1 dX3_push_0 rfl (lv_at hl 0 rfl) ?_
  refine m_get S hin hI 0 (W3_at0 h r cs u) rfl 8 (Nat.le_of_ble_eq_true rfl) (List.mem_of_getElem? (i := 1) rfl) rfl (Ff3_at8 r u) dX3_push_1 ?_
  refine lv_bipush (v := 124) S.1 S.2.1 dX3_push_4 (by decide) ?_
  refine lv_icmp_ge (tgt := 29) S.1 S.2.1 dX3_push_6 (by decide) (fun c6 => ?_) (fun c6 => ?_)
  · have hw := hw.1 c6
    exact b29 u hw H locs ls hI (lv_sub hl [0] rfl)
  · have hw := hw.2 c6
    refine lv_aload_n S.1 S.2.1 dX3_push_9 rfl (lv_at hl 0 rfl) ?_
    refine m_get S hin hI 0 (W3_at0 h r cs u) rfl 1 (Nat.le_of_ble_eq_true rfl) (List.mem_of_getElem? (i := 2) rfl) rfl (Ff3_at1 r u) dX3_push_10 ?_
    refine lv_aload_n S.1 S.2.1 dX3_push_13 rfl (lv_at hl 0 rfl) ?_
    refine m_get S hin hI 0 (W3_at0 h r cs u) rfl 8 (Nat.le_of_ble_eq_true rfl) (List.mem_of_getElem? (i := 1) rfl) rfl (Ff3_at8 r u) dX3_push_14 ?_
    refine lv_iload_n S.1 S.2.1 dX3_push_17 rfl (lv_at hl 1 rfl) ?_
    obtain ⟨u18, eu18⟩ : ∃ z : ST, z = sA u 1 (upd (gA u 1) (gI u 8).toNatClampNeg a1) := ⟨_, rfl⟩
    refine m_iast S hI 2 0 (W3_at2 h r cs u) rfl hw.1 (W3_sA1 h r cs u u18 _ eu18) dX3_push_18 (fun H locs hI => ?_)
    have hw := hw.2 u18 eu18
    refine lv_aload_n S.1 S.2.1 dX3_push_19 rfl (lv_at hl 0 rfl) ?_
    refine lv_dup S.1 S.2.1 dX3_push_20 rfl ?_
    refine m_get S hin hI 0 (W3_at0 h r cs u18) rfl 8 (Nat.le_of_ble_eq_true rfl) (List.mem_of_getElem? (i := 1) rfl) rfl (Ff3_at8 r u18) dX3_push_21 ?_
    refine lv_iconst (v := 1) S.1 S.2.1 dX3_push_24 (by decide) ?_
    refine lv_iadd S.1 S.2.1 dX3_push_25 ?_
    refine lv_topi (fun y25 ey25 => ?_)
    have hw := hw y25 ey25
    obtain ⟨u26, eu26⟩ : ∃ z : ST, z = sI u18 8 y25 := ⟨_, rfl⟩
    have hw := hw u26 eu26
    refine m_put S hin tyX3_ok nmX3 hI 0 (W3_at0 h r cs u18) rfl 8 (Nat.le_of_ble_eq_true rfl) (List.mem_of_getElem? (i := 1) rfl) rfl rfl rfl rfl (Nat.le_of_ble_eq_true rfl) (W3_sI8 h r cs u18 u26 y25 eu26) dX3_push_26 (fun H locs hI => ?_)
    exact b29 u26 hw H locs ls hI (lv_sub hl [0] rfl)

def wp_X3_joined_p111 (t0 : Int32) (Q : Int32 → Prop) : Prop :=
  Q t0
def wp_X3_joined_p110 (Q : Int32 → Prop) : Prop :=
  wp_X3_joined_p111 (0 : Int32) Q
def wp_X3_joined_p168 (t0 : Int32) (Q : Int32 → Prop) : Prop :=
  Q t0
def wp_X3_joined_p122 (t0 : Int32) (Q : Int32 → Prop) : Prop :=
  Q t0
def wp_X3_joined_p133 (t0 : Int32) (Q : Int32 → Prop) : Prop :=
  Q t0
def wp_X3_joined_p144 (t0 : Int32) (Q : Int32 → Prop) : Prop :=
  Q t0
def wp_X3_joined_p97 (t0 : Int32) (Q : Int32 → Prop) : Prop :=
  Q t0
def wp_X3_joined_p92 (Q : Int32 → Prop) : Prop :=
  wp_X3_joined_p97 (1 : Int32) Q
def wp_X3_joined_p180 (t0 : Int32) (Q : Int32 → Prop) : Prop :=
  Q t0
def wp_X3_joined (a0 : Int32) (a1 : Int32) (a2 : Int32) (Q : Int32 → Prop) : Prop :=
  ((a0 = 38 → ((a1 = 0 → wp_X3_joined_p110 Q) ∧ (¬ a1 = 0 → ((a2 = 0 → wp_X3_joined_p110 Q) ∧ (¬ a2 = 0 → wp_X3_joined_p111 (1 : Int32) Q))))) ∧ (¬ a0 = 38 → ((a0 = 42 → (∀ y155 : Int32, y155 = a1 * a2 → Q y155)) ∧ (¬ a0 = 42 → ((a0 = 43 → (∀ y147 : Int32, y147 = a1 + a2 → Q y147)) ∧ (¬ a0 = 43 → ((a0 = 45 → (∀ y151 : Int32, y151 = a1 - a2 → Q y151)) ∧ (¬ a0 = 45 → ((a0 = 47 → ((¬ a2 = 0 → (¬ a2 = 0 ∧ ∀ y167 : Int32, y167 = a1 / a2 → wp_X3_joined_p168 y167 Q)) ∧ (a2 = 0 → wp_X3_joined_p168 (0 : Int32) Q))) ∧ (¬ a0 = 47 → ((a0 = 60 → ((a2 ≤ a1 → wp_X3_joined_p122 (0 : Int32) Q) ∧ (¬ a2 ≤ a1 → wp_X3_joined_p122 (1 : Int32) Q))) ∧ (¬ a0 = 60 → ((a0 = 61 → ((¬ a1 = a2 → wp_X3_joined_p133 (0 : Int32) Q) ∧ (a1 = a2 → wp_X3_joined_p133 (1 : Int32) Q))) ∧ (¬ a0 = 61 → ((a0 = 62 → ((a1 ≤ a2 → wp_X3_joined_p144 (0 : Int32) Q) ∧ (¬ a1 ≤ a2 → wp_X3_joined_p144 (1 : Int32) Q))) ∧ (¬ a0 = 62 → ((a0 = 124 → ((¬ a1 = 0 → wp_X3_joined_p92 Q) ∧ (a1 = 0 → ((a2 = 0 → wp_X3_joined_p97 (0 : Int32) Q) ∧ (¬ a2 = 0 → wp_X3_joined_p92 Q))))) ∧ (¬ a0 = 124 → ((¬ a2 = 0 → (¬ a2 = 0 ∧ ∀ y179 : Int32, y179 = a1 - a1 / a2 * a2 → wp_X3_joined_p180 y179 Q)) ∧ (a2 = 0 → wp_X3_joined_p180 (0 : Int32) Q))))))))))))))))))))
set_option maxHeartbeats 4000000 in
set_option maxRecDepth 100000 in
theorem c_X3_joined (l : Launch) (a0 : Int32) (a1 : Int32) (a2 : Int32) (Q : Int32 → Prop) (hw : wp_X3_joined a0 a1 a2 Q) : mTi l yX3_joined wsX3_joined ({ frames := 0, cells := 0, slots := 0, locals := 0 } : Room) [.int a0, .int a1, .int a2] Q := by
  refine m_enterT (cc := cX3_joined) (maxL := 3) (ret := (some .int)) (by decide) rfl (Nat.le_of_ble_eq_true rfl) ?_
  intro p e s m args below meth c ls S hr hlocks hname hl hN
  have S : CallFix p m c cX3_joined 3 s args wsX3_joined RX3 := S
  generalize hZ : MQ below (vp_Si Q) args s 0 0 (fun _ => False) = Z
  have hl : lv_has ls 3 [(0, .int a0), (1, .int a1), (2, .int a2)] := hl
  have b111 : ∀ (t0 : Int32), wp_X3_joined_p111 t0 Q → mGt p l e ({ frames := 0, cells := 0, slots := 0, locals := 0 } : Room) s m args below meth c Z 3 111 [] [.int t0] := by
    intro t0 hw ls hl
    unfold wp_X3_joined_p111 at hw
    subst hZ
    exact m_tiret S hr hlocks hw dX3_joined_111
  have b110 : wp_X3_joined_p110 Q → mGt p l e ({ frames := 0, cells := 0, slots := 0, locals := 0 } : Room) s m args below meth c Z 3 110 [] [] := by
    intro hw ls hl
    unfold wp_X3_joined_p110 at hw
    refine lv_iconst (v := 0) S.1 S.2.1 dX3_joined_110 (by decide) ?_
    exact b111 (0 : Int32) hw ls (lv_sub hl [] rfl)
  have b168 : ∀ (t0 : Int32), wp_X3_joined_p168 t0 Q → mGt p l e ({ frames := 0, cells := 0, slots := 0, locals := 0 } : Room) s m args below meth c Z 3 168 [] [.int t0] := by
    intro t0 hw ls hl
    unfold wp_X3_joined_p168 at hw
    subst hZ
    exact m_tiret S hr hlocks hw dX3_joined_168
  have b122 : ∀ (t0 : Int32), wp_X3_joined_p122 t0 Q → mGt p l e ({ frames := 0, cells := 0, slots := 0, locals := 0 } : Room) s m args below meth c Z 3 122 [] [.int t0] := by
    intro t0 hw ls hl
    unfold wp_X3_joined_p122 at hw
    subst hZ
    exact m_tiret S hr hlocks hw dX3_joined_122
  have b133 : ∀ (t0 : Int32), wp_X3_joined_p133 t0 Q → mGt p l e ({ frames := 0, cells := 0, slots := 0, locals := 0 } : Room) s m args below meth c Z 3 133 [] [.int t0] := by
    intro t0 hw ls hl
    unfold wp_X3_joined_p133 at hw
    subst hZ
    exact m_tiret S hr hlocks hw dX3_joined_133
  have b144 : ∀ (t0 : Int32), wp_X3_joined_p144 t0 Q → mGt p l e ({ frames := 0, cells := 0, slots := 0, locals := 0 } : Room) s m args below meth c Z 3 144 [] [.int t0] := by
    intro t0 hw ls hl
    unfold wp_X3_joined_p144 at hw
    subst hZ
    exact m_tiret S hr hlocks hw dX3_joined_144
  have b97 : ∀ (t0 : Int32), wp_X3_joined_p97 t0 Q → mGt p l e ({ frames := 0, cells := 0, slots := 0, locals := 0 } : Room) s m args below meth c Z 3 97 [] [.int t0] := by
    intro t0 hw ls hl
    unfold wp_X3_joined_p97 at hw
    subst hZ
    exact m_tiret S hr hlocks hw dX3_joined_97
  have b92 : wp_X3_joined_p92 Q → mGt p l e ({ frames := 0, cells := 0, slots := 0, locals := 0 } : Room) s m args below meth c Z 3 92 [] [] := by
    intro hw ls hl
    unfold wp_X3_joined_p92 at hw
    refine lv_iconst (v := 1) S.1 S.2.1 dX3_joined_92 (by decide) ?_
    refine lv_goto (tgt := 97) S.1 S.2.1 dX3_joined_93 (by decide) ?_
    exact b97 (1 : Int32) hw ls (lv_sub hl [] rfl)
  have b180 : ∀ (t0 : Int32), wp_X3_joined_p180 t0 Q → mGt p l e ({ frames := 0, cells := 0, slots := 0, locals := 0 } : Room) s m args below meth c Z 3 180 [] [.int t0] := by
    intro t0 hw ls hl
    unfold wp_X3_joined_p180 at hw
    subst hZ
    exact m_tiret S hr hlocks hw dX3_joined_180
  unfold wp_X3_joined at hw
  refine lv_iload_n S.1 S.2.1 dX3_joined_0 rfl (lv_at hl 0 rfl) ?_
  by_cases c1_38 : a0 = 38
  · have hw := hw.1 c1_38
    refine lv_lookup (off := 97) (tgt := 98) S.1 S.2.1 dX3_joined_1 (by decide) (by rw [c1_38] <;> rfl) (by decide) ?_
    refine lv_iload_n S.1 S.2.1 dX3_joined_98 rfl (lv_at hl 1 rfl) ?_
    refine lv_if_eq (tgt := 110) S.1 S.2.1 dX3_joined_99 (by decide) (fun c99 => ?_) (fun c99 => ?_)
    · have hw := hw.1 c99
      exact b110 hw ls (lv_sub hl [] rfl)
    · have hw := hw.2 c99
      refine lv_iload_n S.1 S.2.1 dX3_joined_102 rfl (lv_at hl 2 rfl) ?_
      refine lv_if_eq (tgt := 110) S.1 S.2.1 dX3_joined_103 (by decide) (fun c103 => ?_) (fun c103 => ?_)
      · have hw := hw.1 c103
        exact b110 hw ls (lv_sub hl [] rfl)
      · have hw := hw.2 c103
        refine lv_iconst (v := 1) S.1 S.2.1 dX3_joined_106 (by decide) ?_
        refine lv_goto (tgt := 111) S.1 S.2.1 dX3_joined_107 (by decide) ?_
        exact b111 (1 : Int32) hw ls (lv_sub hl [] rfl)
  · have hw := hw.2 c1_38
    by_cases c1_42 : a0 = 42
    · have hw := hw.1 c1_42
      refine lv_lookup (off := 152) (tgt := 153) S.1 S.2.1 dX3_joined_1 (by decide) (by rw [c1_42] <;> rfl) (by decide) ?_
      refine lv_iload_n S.1 S.2.1 dX3_joined_153 rfl (lv_at hl 1 rfl) ?_
      refine lv_iload_n S.1 S.2.1 dX3_joined_154 rfl (lv_at hl 2 rfl) ?_
      refine lv_imul S.1 S.2.1 dX3_joined_155 ?_
      refine lv_topi (fun y155 ey155 => ?_)
      have hw := hw y155 ey155
      subst hZ
      exact m_tiret S hr hlocks hw dX3_joined_156
    · have hw := hw.2 c1_42
      by_cases c1_43 : a0 = 43
      · have hw := hw.1 c1_43
        refine lv_lookup (off := 144) (tgt := 145) S.1 S.2.1 dX3_joined_1 (by decide) (by rw [c1_43] <;> rfl) (by decide) ?_
        refine lv_iload_n S.1 S.2.1 dX3_joined_145 rfl (lv_at hl 1 rfl) ?_
        refine lv_iload_n S.1 S.2.1 dX3_joined_146 rfl (lv_at hl 2 rfl) ?_
        refine lv_iadd S.1 S.2.1 dX3_joined_147 ?_
        refine lv_topi (fun y147 ey147 => ?_)
        have hw := hw y147 ey147
        subst hZ
        exact m_tiret S hr hlocks hw dX3_joined_148
      · have hw := hw.2 c1_43
        by_cases c1_45 : a0 = 45
        · have hw := hw.1 c1_45
          refine lv_lookup (off := 148) (tgt := 149) S.1 S.2.1 dX3_joined_1 (by decide) (by rw [c1_45] <;> rfl) (by decide) ?_
          refine lv_iload_n S.1 S.2.1 dX3_joined_149 rfl (lv_at hl 1 rfl) ?_
          refine lv_iload_n S.1 S.2.1 dX3_joined_150 rfl (lv_at hl 2 rfl) ?_
          refine lv_isub S.1 S.2.1 dX3_joined_151 ?_
          refine lv_topi (fun y151 ey151 => ?_)
          have hw := hw y151 ey151
          subst hZ
          exact m_tiret S hr hlocks hw dX3_joined_152
        · have hw := hw.2 c1_45
          by_cases c1_47 : a0 = 47
          · have hw := hw.1 c1_47
            refine lv_lookup (off := 156) (tgt := 157) S.1 S.2.1 dX3_joined_1 (by decide) (by rw [c1_47] <;> rfl) (by decide) ?_
            refine lv_iload_n S.1 S.2.1 dX3_joined_157 rfl (lv_at hl 2 rfl) ?_
            refine lv_if_ne (tgt := 165) S.1 S.2.1 dX3_joined_158 (by decide) (fun c158 => ?_) (fun c158 => ?_)
            · have hw := hw.1 c158
              refine lv_iload_n S.1 S.2.1 dX3_joined_165 rfl (lv_at hl 1 rfl) ?_
              refine lv_iload_n S.1 S.2.1 dX3_joined_166 rfl (lv_at hl 2 rfl) ?_
              refine lv_idiv S.1 S.2.1 dX3_joined_167 hw.1 ?_
              have hw := hw.2
              refine lv_topi (fun y167 ey167 => ?_)
              have hw := hw y167 ey167
              exact b168 y167 hw ls (lv_sub hl [] rfl)
            · have hw := hw.2 c158
              refine lv_iconst (v := 0) S.1 S.2.1 dX3_joined_161 (by decide) ?_
              refine lv_goto (tgt := 168) S.1 S.2.1 dX3_joined_162 (by decide) ?_
              exact b168 (0 : Int32) hw ls (lv_sub hl [] rfl)
          · have hw := hw.2 c1_47
            by_cases c1_60 : a0 = 60
            · have hw := hw.1 c1_60
              refine lv_lookup (off := 111) (tgt := 112) S.1 S.2.1 dX3_joined_1 (by decide) (by rw [c1_60] <;> rfl) (by decide) ?_
              refine lv_iload_n S.1 S.2.1 dX3_joined_112 rfl (lv_at hl 1 rfl) ?_
              refine lv_iload_n S.1 S.2.1 dX3_joined_113 rfl (lv_at hl 2 rfl) ?_
              refine lv_icmp_ge (tgt := 121) S.1 S.2.1 dX3_joined_114 (by decide) (fun c114 => ?_) (fun c114 => ?_)
              · have hw := hw.1 c114
                refine lv_iconst (v := 0) S.1 S.2.1 dX3_joined_121 (by decide) ?_
                exact b122 (0 : Int32) hw ls (lv_sub hl [] rfl)
              · have hw := hw.2 c114
                refine lv_iconst (v := 1) S.1 S.2.1 dX3_joined_117 (by decide) ?_
                refine lv_goto (tgt := 122) S.1 S.2.1 dX3_joined_118 (by decide) ?_
                exact b122 (1 : Int32) hw ls (lv_sub hl [] rfl)
            · have hw := hw.2 c1_60
              by_cases c1_61 : a0 = 61
              · have hw := hw.1 c1_61
                refine lv_lookup (off := 122) (tgt := 123) S.1 S.2.1 dX3_joined_1 (by decide) (by rw [c1_61] <;> rfl) (by decide) ?_
                refine lv_iload_n S.1 S.2.1 dX3_joined_123 rfl (lv_at hl 1 rfl) ?_
                refine lv_iload_n S.1 S.2.1 dX3_joined_124 rfl (lv_at hl 2 rfl) ?_
                refine lv_icmp_ne (tgt := 132) S.1 S.2.1 dX3_joined_125 (by decide) (fun c125 => ?_) (fun c125 => ?_)
                · have hw := hw.1 c125
                  refine lv_iconst (v := 0) S.1 S.2.1 dX3_joined_132 (by decide) ?_
                  exact b133 (0 : Int32) hw ls (lv_sub hl [] rfl)
                · have hw := hw.2 c125
                  refine lv_iconst (v := 1) S.1 S.2.1 dX3_joined_128 (by decide) ?_
                  refine lv_goto (tgt := 133) S.1 S.2.1 dX3_joined_129 (by decide) ?_
                  exact b133 (1 : Int32) hw ls (lv_sub hl [] rfl)
              · have hw := hw.2 c1_61
                by_cases c1_62 : a0 = 62
                · have hw := hw.1 c1_62
                  refine lv_lookup (off := 133) (tgt := 134) S.1 S.2.1 dX3_joined_1 (by decide) (by rw [c1_62] <;> rfl) (by decide) ?_
                  refine lv_iload_n S.1 S.2.1 dX3_joined_134 rfl (lv_at hl 1 rfl) ?_
                  refine lv_iload_n S.1 S.2.1 dX3_joined_135 rfl (lv_at hl 2 rfl) ?_
                  refine lv_icmp_le (tgt := 143) S.1 S.2.1 dX3_joined_136 (by decide) (fun c136 => ?_) (fun c136 => ?_)
                  · have hw := hw.1 c136
                    refine lv_iconst (v := 0) S.1 S.2.1 dX3_joined_143 (by decide) ?_
                    exact b144 (0 : Int32) hw ls (lv_sub hl [] rfl)
                  · have hw := hw.2 c136
                    refine lv_iconst (v := 1) S.1 S.2.1 dX3_joined_139 (by decide) ?_
                    refine lv_goto (tgt := 144) S.1 S.2.1 dX3_joined_140 (by decide) ?_
                    exact b144 (1 : Int32) hw ls (lv_sub hl [] rfl)
                · have hw := hw.2 c1_62
                  by_cases c1_124 : a0 = 124
                  · have hw := hw.1 c1_124
                    refine lv_lookup (off := 83) (tgt := 84) S.1 S.2.1 dX3_joined_1 (by decide) (by rw [c1_124] <;> rfl) (by decide) ?_
                    refine lv_iload_n S.1 S.2.1 dX3_joined_84 rfl (lv_at hl 1 rfl) ?_
                    refine lv_if_ne (tgt := 92) S.1 S.2.1 dX3_joined_85 (by decide) (fun c85 => ?_) (fun c85 => ?_)
                    · have hw := hw.1 c85
                      exact b92 hw ls (lv_sub hl [] rfl)
                    · have hw := hw.2 c85
                      refine lv_iload_n S.1 S.2.1 dX3_joined_88 rfl (lv_at hl 2 rfl) ?_
                      refine lv_if_eq (tgt := 96) S.1 S.2.1 dX3_joined_89 (by decide) (fun c89 => ?_) (fun c89 => ?_)
                      · have hw := hw.1 c89
                        refine lv_iconst (v := 0) S.1 S.2.1 dX3_joined_96 (by decide) ?_
                        exact b97 (0 : Int32) hw ls (lv_sub hl [] rfl)
                      · have hw := hw.2 c89
                        exact b92 hw ls (lv_sub hl [] rfl)
                  · have hw := hw.2 c1_124
                    refine lv_lookup (off := 168) (tgt := 169) S.1 S.2.1 dX3_joined_1 (by decide) (by show Op.lookupswitch.offset [(38, 97), (42, 152), (43, 144), (45, 148), (47, 156), (60, 111), (61, 122), (62, 133), (124, 83)] 168 _ = _; rw [lv_osw (a := 38) c1_38 rfl, lv_osw (a := 42) c1_42 rfl, lv_osw (a := 43) c1_43 rfl, lv_osw (a := 45) c1_45 rfl, lv_osw (a := 47) c1_47 rfl, lv_osw (a := 60) c1_60 rfl, lv_osw (a := 61) c1_61 rfl, lv_osw (a := 62) c1_62 rfl, lv_osw (a := 124) c1_124 rfl] <;> rfl) (by decide) ?_
                    refine lv_iload_n S.1 S.2.1 dX3_joined_169 rfl (lv_at hl 2 rfl) ?_
                    refine lv_if_ne (tgt := 177) S.1 S.2.1 dX3_joined_170 (by decide) (fun c170 => ?_) (fun c170 => ?_)
                    · have hw := hw.1 c170
                      refine lv_iload_n S.1 S.2.1 dX3_joined_177 rfl (lv_at hl 1 rfl) ?_
                      refine lv_iload_n S.1 S.2.1 dX3_joined_178 rfl (lv_at hl 2 rfl) ?_
                      refine lv_irem S.1 S.2.1 dX3_joined_179 hw.1 ?_
                      have hw := hw.2
                      refine lv_topi (fun y179 ey179 => ?_)
                      have hw := hw y179 ey179
                      exact b180 y179 hw ls (lv_sub hl [] rfl)
                    · have hw := hw.2 c170
                      refine lv_iconst (v := 0) S.1 S.2.1 dX3_joined_173 (by decide) ?_
                      refine lv_goto (tgt := 180) S.1 S.2.1 dX3_joined_174 (by decide) ?_
                      exact b180 (0 : Int32) hw ls (lv_sub hl [] rfl)

def wp_X3_work_p56 (u : ST) (Q : ST → Prop) : Prop :=
  Q u
def wp_X3_work_p36 (t1 : Int32) (u : ST) (Q : ST → Prop) : Prop :=
  (wp_X3_push t1 u (fun u36 => wp_X3_work_p56 u36 Q))
def wp_X3_work (a1 : Int32) (u : ST) (Q : ST → Prop) : Prop :=
  (wp_X3_pop u (fun y1 u1 => ((¬ a1 = ((-4) : Int32) → ((¬ a1 = ((-33) : Int32) → (∀ y44 : Int32, y44 = -a1 → (wp_X3_pop u1 (fun y46 u46 => (wp_X3_joined y44 y46 y1 (fun y50 => (wp_X3_push y50 u46 (fun u53 => wp_X3_work_p56 u53 Q)))))))) ∧ (a1 = ((-33) : Int32) → ((¬ y1 = 0 → wp_X3_work_p36 (0 : Int32) u1 Q) ∧ (y1 = 0 → wp_X3_work_p36 (1 : Int32) u1 Q))))) ∧ (a1 = ((-4) : Int32) → (∀ y13 : Int32, y13 = -y1 → (wp_X3_push y13 u1 (fun u14 => wp_X3_work_p56 u14 Q)))))))
set_option maxHeartbeats 4000000 in
set_option maxRecDepth 100000 in
theorem c_X3_work (l : Launch) (D : va_G) (h : Nat) (r : Nat → Nat) (cs : Nat → ClassId) (a1 : Int32) (u : ST) (Q : ST → Prop) (hw : wp_X3_work a1 u Q) : mCv l yX3_work wsX3_work ({ frames := 1, cells := 0, slots := 0, locals := 22 } : Room) 0 0 D (mT cs) (W3 h r cs) [.ref h, .int a1] u Q := by
  unfold mCv
  refine m_enter (QQ := fun A => va_Qv Q (mPos D (mT cs) A (W3 h r cs)) A) (cc := cX3_work) (maxL := 3) (ret := none) (by decide) rfl (Nat.le_of_ble_eq_true rfl) ?_
  intro p e s m args below meth c A ls S hr hlocks hname hl hI
  have S : CallFix p m c cX3_work 3 s args wsX3_work RX3 := S
  show W p l e ({ frames := 1, cells := 0, slots := 0, locals := 22 } : Room) s m args below meth c s.heap [] 0 0 (MQ below (va_Qv Q (mPos D (mT cs) A (W3 h r cs)) A) args s 0 0 A) (F0 m 0 ls [])
  generalize hZ : MQ below (va_Qv Q (mPos D (mT cs) A (W3 h r cs)) A) args s 0 0 A = Z
  have hin : ∀ w ∈ wsX30, w ∈ wsX3_work := fun _ h => List.mem_cons_of_mem _ (List.mem_append_right _ h)
  have hl : lv_has ls 3 [(0, .ref h), (1, .int a1)] := hl
  have b56 : ∀ (u : ST), wp_X3_work_p56 u Q → mGo p l e ({ frames := 1, cells := 0, slots := 0, locals := 22 } : Room) s m args below meth c A Z 3 D (mT cs) (W3 h r cs) 56 [(0, .ref h)] [] u := by
    intro u hw H locs ls hI hl
    unfold wp_X3_work_p56 at hw
    subst hZ
    exact m_vret S hr hlocks hI hw dX3_work_56
  have b36 : ∀ (t1 : Int32) (u : ST), wp_X3_work_p36 t1 u Q → mGo p l e ({ frames := 1, cells := 0, slots := 0, locals := 22 } : Room) s m args below meth c A Z 3 D (mT cs) (W3 h r cs) 36 [(0, .ref h)] [.int t1, .ref h] u := by
    intro t1 u hw H locs ls hI hl
    unfold wp_X3_work_p36 at hw
    refine m_vv (As := [.int t1]) (rest := []) S (W3_self h r cs) hI rfl (c_X3_push l D h r cs t1 u _ hw) (cwV 1 S.2.2.2.2 gX3_work_X3_push rfl rfl rfl (by decide +kernel) ⟨Nat.le_of_ble_eq_true rfl, Nat.le_of_ble_eq_true rfl⟩) (W3_at0 h r cs u) rfl rfl hl.1 rfl (Nat.le_of_ble_eq_true rfl) dX3_work_36 ⟨Nat.zero_le _, Nat.zero_le _⟩ (fun u36 H locs hw hI => ?_)
    refine lv_goto (tgt := 56) S.1 S.2.1 dX3_work_39 (by decide) ?_
    exact b56 u36 hw H locs ls hI (lv_sub hl [0] rfl)
  unfold wp_X3_work at hw
  obtain ⟨H, hH⟩ : ∃ z : Heap, z = s.heap := ⟨_, rfl⟩
  obtain ⟨locs, hL⟩ : ∃ z : List Loc, z = [] := ⟨_, rfl⟩
  rw [show W p l e ({ frames := 1, cells := 0, slots := 0, locals := 22 } : Room) s m args below meth c s.heap [] 0 0 Z (F0 m 0 ls []) = W p l e ({ frames := 1, cells := 0, slots := 0, locals := 22 } : Room) s m args below meth c H locs 0 0 Z (F0 m 0 ls []) by rw [hH, hL]]
  replace hI : mI D (mT cs) A s.heap s (W3 h r cs u) H locs := by rw [hH, hL]; exact hI
  refine lv_aload_n S.1 S.2.1 dX3_work_0 rfl (lv_at hl 0 rfl) ?_
  refine m_vi (As := []) (rest := []) S (W3_self h r cs) hI rfl (c_X3_pop l D h r cs u _ hw) (cwV 0 S.2.2.2.2 gX3_work_X3_pop rfl rfl rfl (by decide +kernel) ⟨Nat.le_of_ble_eq_true rfl, Nat.le_of_ble_eq_true rfl⟩) (W3_at0 h r cs u) rfl rfl hl.1 rfl (Nat.le_of_ble_eq_true rfl) dX3_work_1 ⟨Nat.zero_le _, Nat.zero_le _⟩ (fun y1 u1 H locs hw hI => ?_)
  refine lv_istore_n (lv' := [(2, .int y1), (0, .ref h), (1, .int a1)]) S.1 S.2.1 dX3_work_4 rfl hl (by decide) rfl (fun ls hl => ?_)
  refine lv_iload_n S.1 S.2.1 dX3_work_5 rfl (lv_at hl 2 rfl) ?_
  refine lv_bipush (v := (-4)) S.1 S.2.1 dX3_work_6 (by decide) ?_
  refine lv_icmp_ne (tgt := 20) S.1 S.2.1 dX3_work_8 (by decide) (fun c8 => ?_) (fun c8 => ?_)
  · have hw := hw.1 c8
    refine lv_iload_n S.1 S.2.1 dX3_work_20 rfl (lv_at hl 2 rfl) ?_
    refine lv_bipush (v := (-33)) S.1 S.2.1 dX3_work_21 (by decide) ?_
    refine lv_icmp_ne (tgt := 42) S.1 S.2.1 dX3_work_23 (by decide) (fun c23 => ?_) (fun c23 => ?_)
    · have hw := hw.1 c23
      refine lv_aload_n S.1 S.2.1 dX3_work_42 rfl (lv_at hl 1 rfl) ?_
      refine lv_iload_n S.1 S.2.1 dX3_work_43 rfl (lv_at hl 2 rfl) ?_
      refine lv_ineg S.1 S.2.1 dX3_work_44 ?_
      refine lv_topi (fun y44 ey44 => ?_)
      have hw := hw y44 ey44
      refine lv_aload_n S.1 S.2.1 dX3_work_45 rfl (lv_at hl 1 rfl) ?_
      refine m_vi (As := []) (rest := [.int y44, .ref h]) S (W3_self h r cs) hI rfl (c_X3_pop l D h r cs u1 _ hw) (cwV 0 S.2.2.2.2 gX3_work_X3_pop rfl rfl rfl (by decide +kernel) ⟨Nat.le_of_ble_eq_true rfl, Nat.le_of_ble_eq_true rfl⟩) (W3_at0 h r cs u1) rfl rfl hl.1 rfl (Nat.le_of_ble_eq_true rfl) dX3_work_46 ⟨Nat.zero_le _, Nat.zero_le _⟩ (fun y46 u46 H locs hw hI => ?_)
      refine lv_iload_n S.1 S.2.1 dX3_work_49 rfl (lv_at hl 0 rfl) ?_
      refine m_si (As := [.int y44, .int y46, .int y1]) (rest := [.ref h]) S hI.2.2.2.1.2.1 (c_X3_joined l y44 y46 y1 _ hw) (va_cwS 3 S.2.2.2.2 gX3_work_X3_joined rfl rfl rfl (by decide +kernel) ⟨Nat.le_of_ble_eq_true rfl, Nat.le_of_ble_eq_true rfl⟩) rfl hl.1 rfl (Nat.le_of_ble_eq_true rfl) dX3_work_50 ⟨Nat.zero_le _, Nat.zero_le _⟩ (fun y50 hw => ?_)
      refine m_vv (As := [.int y50]) (rest := []) S (W3_self h r cs) hI rfl (c_X3_push l D h r cs y50 u46 _ hw) (cwV 1 S.2.2.2.2 gX3_work_X3_push rfl rfl rfl (by decide +kernel) ⟨Nat.le_of_ble_eq_true rfl, Nat.le_of_ble_eq_true rfl⟩) (W3_at0 h r cs u46) rfl rfl hl.1 rfl (Nat.le_of_ble_eq_true rfl) dX3_work_53 ⟨Nat.zero_le _, Nat.zero_le _⟩ (fun u53 H locs hw hI => ?_)
      exact b56 u53 hw H locs ls hI (lv_sub hl [1] rfl)
    · have hw := hw.2 c23
      refine lv_aload_n S.1 S.2.1 dX3_work_26 rfl (lv_at hl 1 rfl) ?_
      refine lv_iload_n S.1 S.2.1 dX3_work_27 rfl (lv_at hl 0 rfl) ?_
      refine lv_if_ne (tgt := 35) S.1 S.2.1 dX3_work_28 (by decide) (fun c28 => ?_) (fun c28 => ?_)
      · have hw := hw.1 c28
        refine lv_iconst (v := 0) S.1 S.2.1 dX3_work_35 (by decide) ?_
        exact b36 (0 : Int32) u1 hw H locs ls hI (lv_sub hl [1] rfl)
      · have hw := hw.2 c28
        refine lv_iconst (v := 1) S.1 S.2.1 dX3_work_31 (by decide) ?_
        refine lv_goto (tgt := 36) S.1 S.2.1 dX3_work_32 (by decide) ?_
        exact b36 (1 : Int32) u1 hw H locs ls hI (lv_sub hl [1] rfl)
  · have hw := hw.2 c8
    refine lv_aload_n S.1 S.2.1 dX3_work_11 rfl (lv_at hl 1 rfl) ?_
    refine lv_iload_n S.1 S.2.1 dX3_work_12 rfl (lv_at hl 0 rfl) ?_
    refine lv_ineg S.1 S.2.1 dX3_work_13 ?_
    refine lv_topi (fun y13 ey13 => ?_)
    have hw := hw y13 ey13
    refine m_vv (As := [.int y13]) (rest := []) S (W3_self h r cs) hI rfl (c_X3_push l D h r cs y13 u1 _ hw) (cwV 1 S.2.2.2.2 gX3_work_X3_push rfl rfl rfl (by decide +kernel) ⟨Nat.le_of_ble_eq_true rfl, Nat.le_of_ble_eq_true rfl⟩) (W3_at0 h r cs u1) rfl rfl hl.1 rfl (Nat.le_of_ble_eq_true rfl) dX3_work_14 ⟨Nat.zero_le _, Nat.zero_le _⟩ (fun u14 H locs hw hI => ?_)
    refine lv_goto (tgt := 56) S.1 S.2.1 dX3_work_17 (by decide) ?_
    exact b56 u14 hw H locs ls hI (lv_sub hl [1] rfl)

def wp_X3_valueFor_p143 (x1 : Int32) (x2 : Int32) (x3 : Int32) (x4 : Int32) (x5 : Int32) (u : ST) (B11 : Int32 → Int32 → Int32 → Int32 → Int32 → ST → Prop) (Q : Int32 → ST → Prop) : Prop :=
  (∀ y143 : Int32, y143 = x5 + 1 → B11 x1 x2 x3 x4 y143 u)
def wp_X3_valueFor_p131 (x1 : Int32) (x2 : Int32) (x3 : Int32) (x4 : Int32) (x5 : Int32) (t1 : Int32) (u : ST) (B11 : Int32 → Int32 → Int32 → Int32 → Int32 → ST → Prop) (Q : Int32 → ST → Prop) : Prop :=
  (wp_X3_push t1 u (fun u131 => wp_X3_valueFor_p143 x1 x2 x3 x4 x5 u131 B11 Q))
def wp_X3_valueFor_p82 (x1 : Int32) (x2 : Int32) (x3 : Int32) (x5 : Int32) (t0 : Int32) (u : ST) (B11 : Int32 → Int32 → Int32 → Int32 → Int32 → ST → Prop) (Q : Int32 → ST → Prop) : Prop :=
  wp_X3_valueFor_p143 x1 x2 x3 t0 x5 u B11 Q
def wp_X3_valueFor_p46 (x1 : Int32) (x2 : Int32) (x3 : Int32) (x5 : Int32) (t0 : Int32) (u : ST) (B11 : Int32 → Int32 → Int32 → Int32 → Int32 → ST → Prop) (Q : Int32 → ST → Prop) : Prop :=
  wp_X3_valueFor_p143 x1 x2 x3 t0 x5 u B11 Q
def wp_X3_valueFor_p11b (x1 : Int32) (x2 : Int32) (x3 : Int32) (x4 : Int32) (x5 : Int32) (u : ST) (B11 : Int32 → Int32 → Int32 → Int32 → Int32 → ST → Prop) (Q : Int32 → ST → Prop) : Prop :=
  (((gI u 5) ≤ x5 → Q (0 : Int32) u) ∧ (¬ (gI u 5) ≤ x5 → (vp_in x5 124 ∧ ∀ y26 : Int32, y26 = gA u 2 x5.toNatClampNeg → ((x4 = 0 → ((¬ y26 = ((-59) : Int32) → ((¬ y26 = ((-63) : Int32) → ((y26 < 0 → ((y26 < ((-3) : Int32) → (wp_X3_work y26 u (fun u140 => wp_X3_valueFor_p143 x1 x2 x3 x4 x5 u140 B11 Q))) ∧ (¬ y26 < ((-3) : Int32) → ((¬ y26 = ((-1) : Int32) → ((¬ y26 = ((-2) : Int32) → wp_X3_valueFor_p131 x1 x2 x3 x4 x5 x3 u B11 Q) ∧ (y26 = ((-2) : Int32) → wp_X3_valueFor_p131 x1 x2 x3 x4 x5 x2 u B11 Q))) ∧ (y26 = ((-1) : Int32) → wp_X3_valueFor_p131 x1 x2 x3 x4 x5 x1 u B11 Q))))) ∧ (¬ y26 < 0 → (wp_X3_push y26 u (fun u95 => wp_X3_valueFor_p143 x1 x2 x3 x4 x5 u95 B11 Q))))) ∧ (y26 = ((-63) : Int32) → (wp_X3_pop u (fun y71 u71 => ((¬ y71 = 0 → wp_X3_valueFor_p82 x1 x2 x3 x5 (0 : Int32) u71 B11 Q) ∧ (y71 = 0 → wp_X3_valueFor_p82 x1 x2 x3 x5 (1 : Int32) u71 B11 Q))))))) ∧ (y26 = ((-59) : Int32) → (wp_X3_pop u (fun y59 u59 => Q y59 u59))))) ∧ (¬ x4 = 0 → ((y26 = ((-59) : Int32) → wp_X3_valueFor_p46 x1 x2 x3 x5 (0 : Int32) u B11 Q) ∧ (¬ y26 = ((-59) : Int32) → wp_X3_valueFor_p46 x1 x2 x3 x5 (1 : Int32) u B11 Q)))))))
def wp_X3_valueFor_p11 (x1 : Int32) (x2 : Int32) (x3 : Int32) (x4 : Int32) (x5 : Int32) (u : ST) (Q : Int32 → ST → Prop) : Prop := ∃ (I : Int32 → Int32 → Int32 → Int32 → Int32 → ST → Prop) (μ : Int32 → Int32 → Int32 → Int32 → Int32 → ST → Nat), I x1 x2 x3 x4 x5 u ∧ ∀ (x1 : Int32) (x2 : Int32) (x3 : Int32) (x4 : Int32) (x5 : Int32) (u : ST), I x1 x2 x3 x4 x5 u → wp_X3_valueFor_p11b x1 x2 x3 x4 x5 u (fun yx1 yx2 yx3 yx4 yx5 yu => I yx1 yx2 yx3 yx4 yx5 yu ∧ μ yx1 yx2 yx3 yx4 yx5 yu < μ x1 x2 x3 x4 x5 u) Q
def wp_X3_valueFor (a1 : Int32) (a2 : Int32) (a3 : Int32) (u : ST) (Q : Int32 → ST → Prop) : Prop :=
  (∀ u2 : ST, u2 = sI u 8 (0 : Int32) → wp_X3_valueFor_p11 a1 a2 a3 (0 : Int32) (0 : Int32) u2 Q)
set_option maxHeartbeats 4000000 in
set_option maxRecDepth 100000 in
theorem c_X3_valueFor (l : Launch) (D : va_G) (h : Nat) (r : Nat → Nat) (cs : Nat → ClassId) (a1 : Int32) (a2 : Int32) (a3 : Int32) (u : ST) (Q : Int32 → ST → Prop) (hw : wp_X3_valueFor a1 a2 a3 u Q) : mCi l yX3_valueFor wsX3_valueFor ({ frames := 2, cells := 0, slots := 0, locals := 44 } : Room) 0 0 D (mT cs) (W3 h r cs) [.ref h, .int a1, .int a2, .int a3] u Q := by
  unfold mCi
  refine m_enter (QQ := fun A => va_Qi Q (mPos D (mT cs) A (W3 h r cs)) A) (cc := cX3_valueFor) (maxL := 7) (ret := (some .int)) (by decide) rfl (Nat.le_of_ble_eq_true rfl) ?_
  intro p e s m args below meth c A ls S hr hlocks hname hl hI
  have S : CallFix p m c cX3_valueFor 7 s args wsX3_valueFor RX3 := S
  show W p l e ({ frames := 2, cells := 0, slots := 0, locals := 44 } : Room) s m args below meth c s.heap [] 0 0 (MQ below (va_Qi Q (mPos D (mT cs) A (W3 h r cs)) A) args s 0 0 A) (F0 m 0 ls [])
  generalize hZ : MQ below (va_Qi Q (mPos D (mT cs) A (W3 h r cs)) A) args s 0 0 A = Z
  have hin : ∀ w ∈ wsX30, w ∈ wsX3_valueFor := fun _ h => List.mem_cons_of_mem _ (List.mem_append_right _ h)
  have hl : lv_has ls 7 [(0, .ref h), (1, .int a1), (2, .int a2), (3, .int a3)] := hl
  have b143 : ∀ (B11 : Int32 → Int32 → Int32 → Int32 → Int32 → ST → Prop), (∀ (x1 : Int32) (x2 : Int32) (x3 : Int32) (x4 : Int32) (x5 : Int32) (u : ST), B11 x1 x2 x3 x4 x5 u → mGo p l e ({ frames := 2, cells := 0, slots := 0, locals := 44 } : Room) s m args below meth c A Z 7 D (mT cs) (W3 h r cs) 11 [(0, .ref h), (1, .int x1), (2, .int x2), (3, .int x3), (4, .int x4), (5, .int x5)] [] u) → ∀ (x1 : Int32) (x2 : Int32) (x3 : Int32) (x4 : Int32) (x5 : Int32) (u : ST), wp_X3_valueFor_p143 x1 x2 x3 x4 x5 u B11 Q → mGo p l e ({ frames := 2, cells := 0, slots := 0, locals := 44 } : Room) s m args below meth c A Z 7 D (mT cs) (W3 h r cs) 143 [(0, .ref h), (1, .int x1), (2, .int x2), (3, .int x3), (4, .int x4), (5, .int x5)] [] u := by
    intro B11 hB11 x1 x2 x3 x4 x5 u hw H locs ls hI hl
    unfold wp_X3_valueFor_p143 at hw
    obtain ⟨y143, ey143⟩ : ∃ z : Int32, z = x5 + 1 := ⟨_, rfl⟩
    have hw := hw y143 ey143
    refine lv_iinc (v := y143) (lv' := [(5, .int y143), (0, .ref h), (1, .int x1), (2, .int x2), (3, .int x3), (4, .int x4)]) S.1 S.2.1 dX3_valueFor_143 hl (k := 5) rfl (by rw [ey143]; rfl) (by decide) rfl (fun ls hl => ?_)
    refine lv_goto (tgt := 11) S.1 S.2.1 dX3_valueFor_146 (by decide) ?_
    exact hB11 x1 x2 x3 x4 y143 u hw H locs ls hI (lv_sub hl [1, 2, 3, 4, 5, 0] rfl)
  have b131 : ∀ (B11 : Int32 → Int32 → Int32 → Int32 → Int32 → ST → Prop), (∀ (x1 : Int32) (x2 : Int32) (x3 : Int32) (x4 : Int32) (x5 : Int32) (u : ST), B11 x1 x2 x3 x4 x5 u → mGo p l e ({ frames := 2, cells := 0, slots := 0, locals := 44 } : Room) s m args below meth c A Z 7 D (mT cs) (W3 h r cs) 11 [(0, .ref h), (1, .int x1), (2, .int x2), (3, .int x3), (4, .int x4), (5, .int x5)] [] u) → ∀ (x1 : Int32) (x2 : Int32) (x3 : Int32) (x4 : Int32) (x5 : Int32) (t1 : Int32) (u : ST), wp_X3_valueFor_p131 x1 x2 x3 x4 x5 t1 u B11 Q → mGo p l e ({ frames := 2, cells := 0, slots := 0, locals := 44 } : Room) s m args below meth c A Z 7 D (mT cs) (W3 h r cs) 131 [(0, .ref h), (1, .int x1), (2, .int x2), (3, .int x3), (4, .int x4), (5, .int x5)] [.int t1, .ref h] u := by
    intro B11 hB11 x1 x2 x3 x4 x5 t1 u hw H locs ls hI hl
    unfold wp_X3_valueFor_p131 at hw
    refine m_vv (As := [.int t1]) (rest := []) S (W3_self h r cs) hI rfl (c_X3_push l D h r cs t1 u _ hw) (cwV 1 S.2.2.2.2 gX3_valueFor_X3_push rfl rfl rfl (by decide +kernel) ⟨Nat.le_of_ble_eq_true rfl, Nat.le_of_ble_eq_true rfl⟩) (W3_at0 h r cs u) rfl rfl hl.1 rfl (Nat.le_of_ble_eq_true rfl) dX3_valueFor_131 ⟨Nat.zero_le _, Nat.zero_le _⟩ (fun u131 H locs hw hI => ?_)
    refine lv_goto (tgt := 143) S.1 S.2.1 dX3_valueFor_134 (by decide) ?_
    exact b143 B11 hB11 x1 x2 x3 x4 x5 u131 hw H locs ls hI (lv_sub hl [0, 1, 2, 3, 4, 5] rfl)
  have b82 : ∀ (B11 : Int32 → Int32 → Int32 → Int32 → Int32 → ST → Prop), (∀ (x1 : Int32) (x2 : Int32) (x3 : Int32) (x4 : Int32) (x5 : Int32) (u : ST), B11 x1 x2 x3 x4 x5 u → mGo p l e ({ frames := 2, cells := 0, slots := 0, locals := 44 } : Room) s m args below meth c A Z 7 D (mT cs) (W3 h r cs) 11 [(0, .ref h), (1, .int x1), (2, .int x2), (3, .int x3), (4, .int x4), (5, .int x5)] [] u) → ∀ (x1 : Int32) (x2 : Int32) (x3 : Int32) (x5 : Int32) (t0 : Int32) (u : ST), wp_X3_valueFor_p82 x1 x2 x3 x5 t0 u B11 Q → mGo p l e ({ frames := 2, cells := 0, slots := 0, locals := 44 } : Room) s m args below meth c A Z 7 D (mT cs) (W3 h r cs) 82 [(0, .ref h), (1, .int x1), (2, .int x2), (3, .int x3), (5, .int x5)] [.int t0] u := by
    intro B11 hB11 x1 x2 x3 x5 t0 u hw H locs ls hI hl
    unfold wp_X3_valueFor_p82 at hw
    refine lv_istore (lv' := [(4, .int t0), (0, .ref h), (1, .int x1), (2, .int x2), (3, .int x3), (5, .int x5)]) S.1 S.2.1 dX3_valueFor_82 hl (by decide) rfl (fun ls hl => ?_)
    refine lv_goto (tgt := 143) S.1 S.2.1 dX3_valueFor_84 (by decide) ?_
    exact b143 B11 hB11 x1 x2 x3 t0 x5 u hw H locs ls hI (lv_sub hl [1, 2, 3, 4, 0, 5] rfl)
  have b46 : ∀ (B11 : Int32 → Int32 → Int32 → Int32 → Int32 → ST → Prop), (∀ (x1 : Int32) (x2 : Int32) (x3 : Int32) (x4 : Int32) (x5 : Int32) (u : ST), B11 x1 x2 x3 x4 x5 u → mGo p l e ({ frames := 2, cells := 0, slots := 0, locals := 44 } : Room) s m args below meth c A Z 7 D (mT cs) (W3 h r cs) 11 [(0, .ref h), (1, .int x1), (2, .int x2), (3, .int x3), (4, .int x4), (5, .int x5)] [] u) → ∀ (x1 : Int32) (x2 : Int32) (x3 : Int32) (x5 : Int32) (t0 : Int32) (u : ST), wp_X3_valueFor_p46 x1 x2 x3 x5 t0 u B11 Q → mGo p l e ({ frames := 2, cells := 0, slots := 0, locals := 44 } : Room) s m args below meth c A Z 7 D (mT cs) (W3 h r cs) 46 [(0, .ref h), (1, .int x1), (2, .int x2), (3, .int x3), (5, .int x5)] [.int t0] u := by
    intro B11 hB11 x1 x2 x3 x5 t0 u hw H locs ls hI hl
    unfold wp_X3_valueFor_p46 at hw
    refine lv_istore (lv' := [(4, .int t0), (0, .ref h), (1, .int x1), (2, .int x2), (3, .int x3), (5, .int x5)]) S.1 S.2.1 dX3_valueFor_46 hl (by decide) rfl (fun ls hl => ?_)
    refine lv_goto (tgt := 143) S.1 S.2.1 dX3_valueFor_48 (by decide) ?_
    exact b143 B11 hB11 x1 x2 x3 t0 x5 u hw H locs ls hI (lv_sub hl [1, 2, 3, 4, 0, 5] rfl)
  have b11b : ∀ (B11 : Int32 → Int32 → Int32 → Int32 → Int32 → ST → Prop), (∀ (x1 : Int32) (x2 : Int32) (x3 : Int32) (x4 : Int32) (x5 : Int32) (u : ST), B11 x1 x2 x3 x4 x5 u → mGo p l e ({ frames := 2, cells := 0, slots := 0, locals := 44 } : Room) s m args below meth c A Z 7 D (mT cs) (W3 h r cs) 11 [(0, .ref h), (1, .int x1), (2, .int x2), (3, .int x3), (4, .int x4), (5, .int x5)] [] u) → ∀ (x1 : Int32) (x2 : Int32) (x3 : Int32) (x4 : Int32) (x5 : Int32) (u : ST), wp_X3_valueFor_p11b x1 x2 x3 x4 x5 u B11 Q → mGo p l e ({ frames := 2, cells := 0, slots := 0, locals := 44 } : Room) s m args below meth c A Z 7 D (mT cs) (W3 h r cs) 11 [(0, .ref h), (1, .int x1), (2, .int x2), (3, .int x3), (4, .int x4), (5, .int x5)] [] u := by
    intro B11 hB11 x1 x2 x3 x4 x5 u hw H locs ls hI hl
    unfold wp_X3_valueFor_p11b at hw
    refine lv_iload S.1 S.2.1 dX3_valueFor_11 (lv_at hl 5 rfl) ?_
    refine lv_aload_n S.1 S.2.1 dX3_valueFor_13 rfl (lv_at hl 0 rfl) ?_
    refine m_get S hin hI 0 (W3_at0 h r cs u) rfl 5 (Nat.le_of_ble_eq_true rfl) (List.mem_of_getElem? (i := 2) rfl) rfl (Ff3_at5 r u) dX3_valueFor_14 ?_
    refine lv_icmp_ge (tgt := 149) S.1 S.2.1 dX3_valueFor_17 (by decide) (fun c17 => ?_) (fun c17 => ?_)
    · have hw := hw.1 c17
      refine lv_iconst (v := 0) S.1 S.2.1 dX3_valueFor_149 (by decide) ?_
      subst hZ
      exact m_iret S hr hlocks hI hw dX3_valueFor_150
    · have hw := hw.2 c17
      refine lv_aload_n S.1 S.2.1 dX3_valueFor_20 rfl (lv_at hl 0 rfl) ?_
      refine m_get S hin hI 0 (W3_at0 h r cs u) rfl 2 (Nat.le_of_ble_eq_true rfl) (List.mem_of_getElem? (i := 3) rfl) rfl (Ff3_at2 r u) dX3_valueFor_21 ?_
      refine lv_iload S.1 S.2.1 dX3_valueFor_24 (lv_at hl 5 rfl) ?_
      refine m_iald S hI 3 0 (W3_at3 h r cs u) rfl hw.1 dX3_valueFor_26 ?_
      refine lv_topi (fun y26 ey26 => ?_)
      have hw := hw.2 y26 ey26
      refine lv_istore (lv' := [(6, .int y26), (0, .ref h), (1, .int x1), (2, .int x2), (3, .int x3), (4, .int x4), (5, .int x5)]) S.1 S.2.1 dX3_valueFor_27 hl (by decide) rfl (fun ls hl => ?_)
      refine lv_iload S.1 S.2.1 dX3_valueFor_29 (lv_at hl 5 rfl) ?_
      refine lv_if_eq (tgt := 51) S.1 S.2.1 dX3_valueFor_31 (by decide) (fun c31 => ?_) (fun c31 => ?_)
      · have hw := hw.1 c31
        refine lv_iload S.1 S.2.1 dX3_valueFor_51 (lv_at hl 0 rfl) ?_
        refine lv_bipush (v := (-59)) S.1 S.2.1 dX3_valueFor_53 (by decide) ?_
        refine lv_icmp_ne (tgt := 63) S.1 S.2.1 dX3_valueFor_55 (by decide) (fun c55 => ?_) (fun c55 => ?_)
        · have hw := hw.1 c55
          refine lv_iload S.1 S.2.1 dX3_valueFor_63 (lv_at hl 0 rfl) ?_
          refine lv_bipush (v := (-63)) S.1 S.2.1 dX3_valueFor_65 (by decide) ?_
          refine lv_icmp_ne (tgt := 87) S.1 S.2.1 dX3_valueFor_67 (by decide) (fun c67 => ?_) (fun c67 => ?_)
          · have hw := hw.1 c67
            refine lv_iload S.1 S.2.1 dX3_valueFor_87 (lv_at hl 0 rfl) ?_
            refine lv_if_lt (tgt := 101) S.1 S.2.1 dX3_valueFor_89 (by decide) (fun c89 => ?_) (fun c89 => ?_)
            · have hw := hw.1 c89
              refine lv_iload S.1 S.2.1 dX3_valueFor_101 (lv_at hl 0 rfl) ?_
              refine lv_bipush (v := (-3)) S.1 S.2.1 dX3_valueFor_103 (by decide) ?_
              refine lv_icmp_lt (tgt := 137) S.1 S.2.1 dX3_valueFor_105 (by decide) (fun c105 => ?_) (fun c105 => ?_)
              · have hw := hw.1 c105
                refine lv_aload_n S.1 S.2.1 dX3_valueFor_137 rfl (lv_at hl 1 rfl) ?_
                refine lv_iload S.1 S.2.1 dX3_valueFor_138 (lv_at hl 0 rfl) ?_
                refine m_vv (As := [.int y26]) (rest := []) S (W3_self h r cs) hI rfl (c_X3_work l D h r cs y26 u _ hw) (cwV 1 S.2.2.2.2 gX3_valueFor_X3_work rfl rfl rfl (by decide +kernel) ⟨Nat.le_of_ble_eq_true rfl, Nat.le_of_ble_eq_true rfl⟩) (W3_at0 h r cs u) rfl rfl hl.1 rfl (Nat.le_of_ble_eq_true rfl) dX3_valueFor_140 ⟨Nat.zero_le _, Nat.zero_le _⟩ (fun u140 H locs hw hI => ?_)
                exact b143 B11 hB11 x1 x2 x3 x4 x5 u140 hw H locs ls hI (lv_sub hl [1, 2, 3, 4, 5, 6] rfl)
              · have hw := hw.2 c105
                refine lv_aload_n S.1 S.2.1 dX3_valueFor_108 rfl (lv_at hl 1 rfl) ?_
                refine lv_iload S.1 S.2.1 dX3_valueFor_109 (lv_at hl 0 rfl) ?_
                refine lv_iconst (v := (-1)) S.1 S.2.1 dX3_valueFor_111 (by decide) ?_
                refine lv_icmp_ne (tgt := 119) S.1 S.2.1 dX3_valueFor_112 (by decide) (fun c112 => ?_) (fun c112 => ?_)
                · have hw := hw.1 c112
                  refine lv_iload S.1 S.2.1 dX3_valueFor_119 (lv_at hl 0 rfl) ?_
                  refine lv_bipush (v := (-2)) S.1 S.2.1 dX3_valueFor_121 (by decide) ?_
                  refine lv_icmp_ne (tgt := 130) S.1 S.2.1 dX3_valueFor_123 (by decide) (fun c123 => ?_) (fun c123 => ?_)
                  · have hw := hw.1 c123
                    refine lv_iload_n S.1 S.2.1 dX3_valueFor_130 rfl (lv_at hl 4 rfl) ?_
                    exact b131 B11 hB11 x1 x2 x3 x4 x5 x3 u hw H locs ls hI (lv_sub hl [1, 2, 3, 4, 5, 6] rfl)
                  · have hw := hw.2 c123
                    refine lv_iload_n S.1 S.2.1 dX3_valueFor_126 rfl (lv_at hl 3 rfl) ?_
                    refine lv_goto (tgt := 131) S.1 S.2.1 dX3_valueFor_127 (by decide) ?_
                    exact b131 B11 hB11 x1 x2 x3 x4 x5 x2 u hw H locs ls hI (lv_sub hl [1, 2, 3, 4, 5, 6] rfl)
                · have hw := hw.2 c112
                  refine lv_iload_n S.1 S.2.1 dX3_valueFor_115 rfl (lv_at hl 2 rfl) ?_
                  refine lv_goto (tgt := 131) S.1 S.2.1 dX3_valueFor_116 (by decide) ?_
                  exact b131 B11 hB11 x1 x2 x3 x4 x5 x1 u hw H locs ls hI (lv_sub hl [1, 2, 3, 4, 5, 6] rfl)
            · have hw := hw.2 c89
              refine lv_aload_n S.1 S.2.1 dX3_valueFor_92 rfl (lv_at hl 1 rfl) ?_
              refine lv_iload S.1 S.2.1 dX3_valueFor_93 (lv_at hl 0 rfl) ?_
              refine m_vv (As := [.int y26]) (rest := []) S (W3_self h r cs) hI rfl (c_X3_push l D h r cs y26 u _ hw) (cwV 1 S.2.2.2.2 gX3_valueFor_X3_push rfl rfl rfl (by decide +kernel) ⟨Nat.le_of_ble_eq_true rfl, Nat.le_of_ble_eq_true rfl⟩) (W3_at0 h r cs u) rfl rfl hl.1 rfl (Nat.le_of_ble_eq_true rfl) dX3_valueFor_95 ⟨Nat.zero_le _, Nat.zero_le _⟩ (fun u95 H locs hw hI => ?_)
              refine lv_goto (tgt := 143) S.1 S.2.1 dX3_valueFor_98 (by decide) ?_
              exact b143 B11 hB11 x1 x2 x3 x4 x5 u95 hw H locs ls hI (lv_sub hl [1, 2, 3, 4, 5, 6] rfl)
          · have hw := hw.2 c67
            refine lv_aload_n S.1 S.2.1 dX3_valueFor_70 rfl (lv_at hl 1 rfl) ?_
            refine m_vi (As := []) (rest := []) S (W3_self h r cs) hI rfl (c_X3_pop l D h r cs u _ hw) (cwV 0 S.2.2.2.2 gX3_valueFor_X3_pop rfl rfl rfl (by decide +kernel) ⟨Nat.le_of_ble_eq_true rfl, Nat.le_of_ble_eq_true rfl⟩) (W3_at0 h r cs u) rfl rfl hl.1 rfl (Nat.le_of_ble_eq_true rfl) dX3_valueFor_71 ⟨Nat.zero_le _, Nat.zero_le _⟩ (fun y71 u71 H locs hw hI => ?_)
            refine lv_if_ne (tgt := 81) S.1 S.2.1 dX3_valueFor_74 (by decide) (fun c74 => ?_) (fun c74 => ?_)
            · have hw := hw.1 c74
              refine lv_iconst (v := 0) S.1 S.2.1 dX3_valueFor_81 (by decide) ?_
              exact b82 B11 hB11 x1 x2 x3 x5 (0 : Int32) u71 hw H locs ls hI (lv_sub hl [1, 2, 3, 4, 6] rfl)
            · have hw := hw.2 c74
              refine lv_iconst (v := 1) S.1 S.2.1 dX3_valueFor_77 (by decide) ?_
              refine lv_goto (tgt := 82) S.1 S.2.1 dX3_valueFor_78 (by decide) ?_
              exact b82 B11 hB11 x1 x2 x3 x5 (1 : Int32) u71 hw H locs ls hI (lv_sub hl [1, 2, 3, 4, 6] rfl)
        · have hw := hw.2 c55
          refine lv_aload_n S.1 S.2.1 dX3_valueFor_58 rfl (lv_at hl 1 rfl) ?_
          refine m_vi (As := []) (rest := []) S (W3_self h r cs) hI rfl (c_X3_pop l D h r cs u _ hw) (cwV 0 S.2.2.2.2 gX3_valueFor_X3_pop rfl rfl rfl (by decide +kernel) ⟨Nat.le_of_ble_eq_true rfl, Nat.le_of_ble_eq_true rfl⟩) (W3_at0 h r cs u) rfl rfl hl.1 rfl (Nat.le_of_ble_eq_true rfl) dX3_valueFor_59 ⟨Nat.zero_le _, Nat.zero_le _⟩ (fun y59 u59 H locs hw hI => ?_)
          subst hZ
          exact m_iret S hr hlocks hI hw dX3_valueFor_62
      · have hw := hw.2 c31
        refine lv_iload S.1 S.2.1 dX3_valueFor_34 (lv_at hl 0 rfl) ?_
        refine lv_bipush (v := (-59)) S.1 S.2.1 dX3_valueFor_36 (by decide) ?_
        refine lv_icmp_eq (tgt := 45) S.1 S.2.1 dX3_valueFor_38 (by decide) (fun c38 => ?_) (fun c38 => ?_)
        · have hw := hw.1 c38
          refine lv_iconst (v := 0) S.1 S.2.1 dX3_valueFor_45 (by decide) ?_
          exact b46 B11 hB11 x1 x2 x3 x5 (0 : Int32) u hw H locs ls hI (lv_sub hl [1, 2, 3, 4, 6] rfl)
        · have hw := hw.2 c38
          refine lv_iconst (v := 1) S.1 S.2.1 dX3_valueFor_41 (by decide) ?_
          refine lv_goto (tgt := 46) S.1 S.2.1 dX3_valueFor_42 (by decide) ?_
          exact b46 B11 hB11 x1 x2 x3 x5 (1 : Int32) u hw H locs ls hI (lv_sub hl [1, 2, 3, 4, 6] rfl)
  have b11 : ∀ (x1 : Int32) (x2 : Int32) (x3 : Int32) (x4 : Int32) (x5 : Int32) (u : ST), wp_X3_valueFor_p11 x1 x2 x3 x4 x5 u Q → mGo p l e ({ frames := 2, cells := 0, slots := 0, locals := 44 } : Room) s m args below meth c A Z 7 D (mT cs) (W3 h r cs) 11 [(0, .ref h), (1, .int x1), (2, .int x2), (3, .int x3), (4, .int x4), (5, .int x5)] [] u := by
    intro x1 x2 x3 x4 x5 u hw
    obtain ⟨I, μ, h0, hs⟩ := hw
    have key : ∀ (n : Nat) (x1 : Int32) (x2 : Int32) (x3 : Int32) (x4 : Int32) (x5 : Int32) (u : ST), μ x1 x2 x3 x4 x5 u = n → I x1 x2 x3 x4 x5 u → mGo p l e ({ frames := 2, cells := 0, slots := 0, locals := 44 } : Room) s m args below meth c A Z 7 D (mT cs) (W3 h r cs) 11 [(0, .ref h), (1, .int x1), (2, .int x2), (3, .int x3), (4, .int x4), (5, .int x5)] [] u := by
      intro n
      induction n using Nat.strongRecOn with
      | ind n ih =>
        intro x1 x2 x3 x4 x5 u hn hi
        exact b11b (fun yx1 yx2 yx3 yx4 yx5 yu => I yx1 yx2 yx3 yx4 yx5 yu ∧ μ yx1 yx2 yx3 yx4 yx5 yu < μ x1 x2 x3 x4 x5 u) (fun yx1 yx2 yx3 yx4 yx5 yu hb => ih _ (hn ▸ hb.2) yx1 yx2 yx3 yx4 yx5 yu rfl hb.1) x1 x2 x3 x4 x5 u (hs x1 x2 x3 x4 x5 u hi)
    exact key _ x1 x2 x3 x4 x5 u rfl h0
  unfold wp_X3_valueFor at hw
  obtain ⟨H, hH⟩ : ∃ z : Heap, z = s.heap := ⟨_, rfl⟩
  obtain ⟨locs, hL⟩ : ∃ z : List Loc, z = [] := ⟨_, rfl⟩
  rw [show W p l e ({ frames := 2, cells := 0, slots := 0, locals := 44 } : Room) s m args below meth c s.heap [] 0 0 Z (F0 m 0 ls []) = W p l e ({ frames := 2, cells := 0, slots := 0, locals := 44 } : Room) s m args below meth c H locs 0 0 Z (F0 m 0 ls []) by rw [hH, hL]]
  replace hI : mI D (mT cs) A s.heap s (W3 h r cs u) H locs := by rw [hH, hL]; exact hI
  refine lv_aload_n S.1 S.2.1 dX3_valueFor_0 rfl (lv_at hl 0 rfl) ?_
  refine lv_iconst (v := 0) S.1 S.2.1 dX3_valueFor_1 (by decide) ?_
  obtain ⟨u2, eu2⟩ : ∃ z : ST, z = sI u 8 (0 : Int32) := ⟨_, rfl⟩
  have hw := hw u2 eu2
  refine m_put S hin tyX3_ok nmX3 hI 0 (W3_at0 h r cs u) rfl 8 (Nat.le_of_ble_eq_true rfl) (List.mem_of_getElem? (i := 1) rfl) rfl rfl rfl rfl (Nat.le_of_ble_eq_true rfl) (W3_sI8 h r cs u u2 (0 : Int32) eu2) dX3_valueFor_2 (fun H locs hI => ?_)
  refine lv_iconst (v := 0) S.1 S.2.1 dX3_valueFor_5 (by decide) ?_
  refine lv_istore (lv' := [(4, .int (0 : Int32)), (0, .ref h), (1, .int a1), (2, .int a2), (3, .int a3)]) S.1 S.2.1 dX3_valueFor_6 hl (by decide) rfl (fun ls hl => ?_)
  refine lv_iconst (v := 0) S.1 S.2.1 dX3_valueFor_8 (by decide) ?_
  refine lv_istore (lv' := [(5, .int (0 : Int32)), (4, .int (0 : Int32)), (0, .ref h), (1, .int a1), (2, .int a2), (3, .int a3)]) S.1 S.2.1 dX3_valueFor_9 hl (by decide) rfl (fun ls hl => ?_)
  exact b11 a1 a2 a3 (0 : Int32) (0 : Int32) u2 hw H locs ls hI (lv_sub hl [2, 3, 4, 5, 1, 0] rfl)

def wp_X3_weightFor (a1 : Int32) (a2 : Int32) (a3 : Int32) (u : ST) (Q : Int32 → ST → Prop) : Prop :=
  ((¬ (gI u 5) = 0 → (wp_X3_valueFor a1 a2 a3 u (fun y16 u16 => (∀ y19 : Int32, y19 = (if y16 < (9 : Int32) then y16 else (9 : Int32)) → (∀ y22 : Int32, y22 = (if (0 : Int32) < y19 then y19 else (0 : Int32)) → Q y22 u16))))) ∧ ((gI u 5) = 0 → Q (1 : Int32) u))
set_option maxHeartbeats 4000000 in
set_option maxRecDepth 100000 in
theorem c_X3_weightFor (l : Launch) (D : va_G) (h : Nat) (r : Nat → Nat) (cs : Nat → ClassId) (a1 : Int32) (a2 : Int32) (a3 : Int32) (u : ST) (Q : Int32 → ST → Prop) (hw : wp_X3_weightFor a1 a2 a3 u Q) : mCi l yX3_weightFor wsX3_weightFor ({ frames := 3, cells := 0, slots := 0, locals := 70 } : Room) 0 0 D (mT cs) (W3 h r cs) [.ref h, .int a1, .int a2, .int a3] u Q := by
  unfold mCi
  refine m_enter (QQ := fun A => va_Qi Q (mPos D (mT cs) A (W3 h r cs)) A) (cc := cX3_weightFor) (maxL := 4) (ret := (some .int)) (by decide) rfl (Nat.le_of_ble_eq_true rfl) ?_
  intro p e s m args below meth c A ls S hr hlocks hname hl hI
  have S : CallFix p m c cX3_weightFor 4 s args wsX3_weightFor RX3 := S
  show W p l e ({ frames := 3, cells := 0, slots := 0, locals := 70 } : Room) s m args below meth c s.heap [] 0 0 (MQ below (va_Qi Q (mPos D (mT cs) A (W3 h r cs)) A) args s 0 0 A) (F0 m 0 ls [])
  generalize hZ : MQ below (va_Qi Q (mPos D (mT cs) A (W3 h r cs)) A) args s 0 0 A = Z
  have hin : ∀ w ∈ wsX30, w ∈ wsX3_weightFor := fun _ h => List.mem_cons_of_mem _ (List.mem_append_right _ h)
  have hl : lv_has ls 4 [(0, .ref h), (1, .int a1), (2, .int a2), (3, .int a3)] := hl
  unfold wp_X3_weightFor at hw
  obtain ⟨H, hH⟩ : ∃ z : Heap, z = s.heap := ⟨_, rfl⟩
  obtain ⟨locs, hL⟩ : ∃ z : List Loc, z = [] := ⟨_, rfl⟩
  rw [show W p l e ({ frames := 3, cells := 0, slots := 0, locals := 70 } : Room) s m args below meth c s.heap [] 0 0 Z (F0 m 0 ls []) = W p l e ({ frames := 3, cells := 0, slots := 0, locals := 70 } : Room) s m args below meth c H locs 0 0 Z (F0 m 0 ls []) by rw [hH, hL]]
  replace hI : mI D (mT cs) A s.heap s (W3 h r cs u) H locs := by rw [hH, hL]; exact hI
  refine lv_aload_n S.1 S.2.1 dX3_weightFor_0 rfl (lv_at hl 0 rfl) ?_
  refine m_get S hin hI 0 (W3_at0 h r cs u) rfl 5 (Nat.le_of_ble_eq_true rfl) (List.mem_of_getElem? (i := 1) rfl) rfl (Ff3_at5 r u) dX3_weightFor_1 ?_
  refine lv_if_ne (tgt := 9) S.1 S.2.1 dX3_weightFor_4 (by decide) (fun c4 => ?_) (fun c4 => ?_)
  · have hw := hw.1 c4
    refine lv_iconst (v := 0) S.1 S.2.1 dX3_weightFor_9 (by decide) ?_
    refine lv_bipush (v := 9) S.1 S.2.1 dX3_weightFor_10 (by decide) ?_
    refine lv_aload_n S.1 S.2.1 dX3_weightFor_12 rfl (lv_at hl 0 rfl) ?_
    refine lv_iload_n S.1 S.2.1 dX3_weightFor_13 rfl (lv_at hl 1 rfl) ?_
    refine lv_iload_n S.1 S.2.1 dX3_weightFor_14 rfl (lv_at hl 2 rfl) ?_
    refine lv_iload_n S.1 S.2.1 dX3_weightFor_15 rfl (lv_at hl 3 rfl) ?_
    refine m_vi (As := [.int a1, .int a2, .int a3]) (rest := [.int (9 : Int32), .int (0 : Int32)]) S (W3_self h r cs) hI rfl (c_X3_valueFor l D h r cs a1 a2 a3 u _ hw) (cwV 3 S.2.2.2.2 gX3_weightFor_X3_valueFor rfl rfl rfl (by decide +kernel) ⟨Nat.le_of_ble_eq_true rfl, Nat.le_of_ble_eq_true rfl⟩) (W3_at0 h r cs u) rfl rfl hl.1 rfl (Nat.le_of_ble_eq_true rfl) dX3_weightFor_16 ⟨Nat.zero_le _, Nat.zero_le _⟩ (fun y16 u16 H locs hw hI => ?_)
    refine va_mmin S.1 S.2.1 (S.2.2.1.trans hl.1.symm) S.2.2.2.1 (S.2.2.2.2 _ (List.mem_of_getElem? (i := 2) rfl)) (S.2.2.2.2 _ (List.mem_of_getElem? (i := 3) rfl)) (S.2.2.2.2 _ (List.mem_of_getElem? (i := 4) rfl)) (S.2.2.2.2 _ (List.mem_of_getElem? (i := 5) rfl)) (Nat.le_of_ble_eq_true rfl) (Nat.le_of_ble_eq_true rfl) (Nat.zero_le _) (Nat.zero_le _) dX3_weightFor_19 ?_
    refine lv_topi (fun y19 ey19 => ?_)
    have hw := hw y19 ey19
    refine va_mmax S.1 S.2.1 (S.2.2.1.trans hl.1.symm) S.2.2.2.1 (S.2.2.2.2 _ (List.mem_of_getElem? (i := 6) rfl)) (S.2.2.2.2 _ (List.mem_of_getElem? (i := 7) rfl)) (S.2.2.2.2 _ (List.mem_of_getElem? (i := 4) rfl)) (S.2.2.2.2 _ (List.mem_of_getElem? (i := 8) rfl)) (Nat.le_of_ble_eq_true rfl) (Nat.le_of_ble_eq_true rfl) (Nat.zero_le _) (Nat.zero_le _) dX3_weightFor_22 ?_
    refine lv_topi (fun y22 ey22 => ?_)
    have hw := hw y22 ey22
    subst hZ
    exact m_iret S hr hlocks hI hw dX3_weightFor_25
  · have hw := hw.2 c4
    refine lv_iconst (v := 1) S.1 S.2.1 dX3_weightFor_7 (by decide) ?_
    subst hZ
    exact m_iret S hr hlocks hI hw dX3_weightFor_8

/-- TwoJars$Means: what its object holds -/
def Ff4 (r : Nat → Nat) (u : ST) : List Value := [.ref (r 0), .ref (r 1), .ref (r 2), .ref (r 3), .ref (r 4), .int (gI u 5), .int (gI u 6), .int (gI u 7)]
def W4 (h : Nat) (r : Nat → Nat) (q : Nat → Nat → Nat) (cs : Nat → ClassId) (u : ST) : va_W := [(h, .inr (4, Ff4 r u)), (r 0, .inl (cs 0, 61, .inl (gA u 0))), (r 1, .inl (cs 0, 62, .inl (gA u 1))), (r 2, .inl (cs 4, 7, .inr (.inr (.inr (.inr (mrow (q 2))))))), (q 2 0, .inl (cs 0, 1891, .inl (gG u 2 0))), (q 2 1, .inl (cs 0, 1891, .inl (gG u 2 1))), (q 2 2, .inl (cs 0, 1891, .inl (gG u 2 2))), (q 2 3, .inl (cs 0, 1891, .inl (gG u 2 3))), (q 2 4, .inl (cs 0, 1891, .inl (gG u 2 4))), (q 2 5, .inl (cs 0, 1891, .inl (gG u 2 5))), (q 2 6, .inl (cs 0, 1891, .inl (gG u 2 6))), (r 3, .inl (cs 4, 7, .inr (.inr (.inr (.inr (mrow (q 3))))))), (q 3 0, .inl (cs 0, 1891, .inl (gG u 3 0))), (q 3 1, .inl (cs 0, 1891, .inl (gG u 3 1))), (q 3 2, .inl (cs 0, 1891, .inl (gG u 3 2))), (q 3 3, .inl (cs 0, 1891, .inl (gG u 3 3))), (q 3 4, .inl (cs 0, 1891, .inl (gG u 3 4))), (q 3 5, .inl (cs 0, 1891, .inl (gG u 3 5))), (q 3 6, .inl (cs 0, 1891, .inl (gG u 3 6))), (r 4, .inl (cs 0, 7, .inl (gA u 4)))]
theorem W4_at0 (h : Nat) (r : Nat → Nat) (q : Nat → Nat → Nat) (cs : Nat → ClassId) (u : ST) : (W4 h r q cs u)[0]? = some (h, .inr (4, Ff4 r u)) := rfl
theorem W4_at1 (h : Nat) (r : Nat → Nat) (q : Nat → Nat → Nat) (cs : Nat → ClassId) (u : ST) : (W4 h r q cs u)[1]? = some (r 0, .inl (cs 0, 61, .inl (gA u 0))) := rfl
theorem W4_at2 (h : Nat) (r : Nat → Nat) (q : Nat → Nat → Nat) (cs : Nat → ClassId) (u : ST) : (W4 h r q cs u)[2]? = some (r 1, .inl (cs 0, 62, .inl (gA u 1))) := rfl
theorem W4_at19 (h : Nat) (r : Nat → Nat) (q : Nat → Nat → Nat) (cs : Nat → ClassId) (u : ST) : (W4 h r q cs u)[19]? = some (r 4, .inl (cs 0, 7, .inl (gA u 4))) := rfl
theorem Ff4_at0 (r : Nat → Nat) (u : ST) : (Ff4 r u)[0]? = some (.ref (r 0)) := rfl
theorem Ff4_at1 (r : Nat → Nat) (u : ST) : (Ff4 r u)[1]? = some (.ref (r 1)) := rfl
theorem Ff4_at2 (r : Nat → Nat) (u : ST) : (Ff4 r u)[2]? = some (.ref (r 2)) := rfl
theorem Ff4_at3 (r : Nat → Nat) (u : ST) : (Ff4 r u)[3]? = some (.ref (r 3)) := rfl
theorem Ff4_at4 (r : Nat → Nat) (u : ST) : (Ff4 r u)[4]? = some (.ref (r 4)) := rfl
theorem Ff4_at5 (r : Nat → Nat) (u : ST) : (Ff4 r u)[5]? = some (.int (gI u 5)) := rfl
theorem Ff4_at6 (r : Nat → Nat) (u : ST) : (Ff4 r u)[6]? = some (.int (gI u 6)) := rfl
theorem Ff4_at7 (r : Nat → Nat) (u : ST) : (Ff4 r u)[7]? = some (.int (gI u 7)) := rfl
theorem W4_sI5 (h : Nat) (r : Nat → Nat) (q : Nat → Nat → Nat) (cs : Nat → ClassId) (u u9 : ST) (x : Int32) (e : u9 = sI u 5 x) : (W4 h r q cs u).set 0 (h, .inr (4, (Ff4 r u).set 5 (.int x))) = W4 h r q cs u9 := by subst e; rfl
theorem W4_sI6 (h : Nat) (r : Nat → Nat) (q : Nat → Nat → Nat) (cs : Nat → ClassId) (u u9 : ST) (x : Int32) (e : u9 = sI u 6 x) : (W4 h r q cs u).set 0 (h, .inr (4, (Ff4 r u).set 6 (.int x))) = W4 h r q cs u9 := by subst e; rfl
theorem W4_sI7 (h : Nat) (r : Nat → Nat) (q : Nat → Nat → Nat) (cs : Nat → ClassId) (u u9 : ST) (x : Int32) (e : u9 = sI u 7 x) : (W4 h r q cs u).set 0 (h, .inr (4, (Ff4 r u).set 7 (.int x))) = W4 h r q cs u9 := by subst e; rfl
theorem W4_sA0 (h : Nat) (r : Nat → Nat) (q : Nat → Nat → Nat) (cs : Nat → ClassId) (u u9 : ST) (f : Nat → Int32) (e : u9 = sA u 0 f) : (W4 h r q cs u).set 1 (r 0, .inl (cs 0, 61, .inl f)) = W4 h r q cs u9 := by subst e; rfl
theorem W4_sA1 (h : Nat) (r : Nat → Nat) (q : Nat → Nat → Nat) (cs : Nat → ClassId) (u u9 : ST) (f : Nat → Int32) (e : u9 = sA u 1 f) : (W4 h r q cs u).set 2 (r 1, .inl (cs 0, 62, .inl f)) = W4 h r q cs u9 := by subst e; rfl
theorem W4_sA4 (h : Nat) (r : Nat → Nat) (q : Nat → Nat → Nat) (cs : Nat → ClassId) (u u9 : ST) (f : Nat → Int32) (e : u9 = sA u 4 f) : (W4 h r q cs u).set 19 (r 4, .inl (cs 0, 7, .inl f)) = W4 h r q cs u9 := by subst e; rfl
theorem W4_go2 (h : Nat) (r : Nat → Nat) (q : Nat → Nat → Nat) (cs : Nat → ClassId) (u : ST) : (W4 h r q cs u)[3]? = some (r 2, .inl (cs 4, 7, .inr (.inr (.inr (.inr (mrow (q 2))))))) := rfl
theorem W4_gr2 (h : Nat) (r : Nat → Nat) (q : Nat → Nat → Nat) (cs : Nat → ClassId) (u : ST) {j : Nat} (hj : j < 7) : (W4 h r q cs u)[4 + j]? = some (q 2 j, .inl (cs 0, 1891, .inl (gG u 2 j))) := by
  match j, hj with
  | 0, _ => rfl
  | 1, _ => rfl
  | 2, _ => rfl
  | 3, _ => rfl
  | 4, _ => rfl
  | 5, _ => rfl
  | 6, _ => rfl
theorem W4_sG2 (h : Nat) (r : Nat → Nat) (q : Nat → Nat → Nat) (cs : Nat → ClassId) (u u9 : ST) {j : Nat} (hj : j < 7) (f : Nat → Int32) (e : u9 = sG u 2 (mu (gG u 2) j f)) : (W4 h r q cs u).set (4 + j) (q 2 j, .inl (cs 0, 1891, .inl f)) = W4 h r q cs u9 := by
  subst e
  match j, hj with
  | 0, _ => rfl
  | 1, _ => rfl
  | 2, _ => rfl
  | 3, _ => rfl
  | 4, _ => rfl
  | 5, _ => rfl
  | 6, _ => rfl
theorem W4_go3 (h : Nat) (r : Nat → Nat) (q : Nat → Nat → Nat) (cs : Nat → ClassId) (u : ST) : (W4 h r q cs u)[11]? = some (r 3, .inl (cs 4, 7, .inr (.inr (.inr (.inr (mrow (q 3))))))) := rfl
theorem W4_gr3 (h : Nat) (r : Nat → Nat) (q : Nat → Nat → Nat) (cs : Nat → ClassId) (u : ST) {j : Nat} (hj : j < 7) : (W4 h r q cs u)[12 + j]? = some (q 3 j, .inl (cs 0, 1891, .inl (gG u 3 j))) := by
  match j, hj with
  | 0, _ => rfl
  | 1, _ => rfl
  | 2, _ => rfl
  | 3, _ => rfl
  | 4, _ => rfl
  | 5, _ => rfl
  | 6, _ => rfl
theorem W4_sG3 (h : Nat) (r : Nat → Nat) (q : Nat → Nat → Nat) (cs : Nat → ClassId) (u u9 : ST) {j : Nat} (hj : j < 7) (f : Nat → Int32) (e : u9 = sG u 3 (mu (gG u 3) j f)) : (W4 h r q cs u).set (12 + j) (q 3 j, .inl (cs 0, 1891, .inl f)) = W4 h r q cs u9 := by
  subst e
  match j, hj with
  | 0, _ => rfl
  | 1, _ => rfl
  | 2, _ => rfl
  | 3, _ => rfl
  | 4, _ => rfl
  | 5, _ => rfl
  | 6, _ => rfl
theorem W4_self (h : Nat) (r : Nat → Nat) (q : Nat → Nat → Nat) (cs : Nat → ClassId) : ∀ v, (W4 h r q cs v).Perm ([] ++ (W4 h r q cs v ++ [])) := fun v => by rw [List.append_nil, List.nil_append]

def wp_X4_forgetFrom_p2b (x1 : Int32) (x2 : Int32) (u : ST) (B2 : Int32 → Int32 → ST → Prop) (Q : ST → Prop) : Prop :=
  (((6 : Int32) < x2 → Q u) ∧ (¬ (6 : Int32) < x2 → (vp_in x2 7 ∧ ∀ y18 : Int32, y18 = gA u 4 x2.toNatClampNeg → (∀ y20 : Int32, y20 = (if x1 < y18 then x1 else y18) → (vp_in x2 7 ∧ ∀ u23 : ST, u23 = sA u 4 (upd (gA u 4) x2.toNatClampNeg y20) → (∀ y24 : Int32, y24 = x2 + 1 → B2 x1 y24 u23))))))
def wp_X4_forgetFrom_p2 (x1 : Int32) (x2 : Int32) (u : ST) (Q : ST → Prop) : Prop := ∃ (I : Int32 → Int32 → ST → Prop) (μ : Int32 → Int32 → ST → Nat), I x1 x2 u ∧ ∀ (x1 : Int32) (x2 : Int32) (u : ST), I x1 x2 u → wp_X4_forgetFrom_p2b x1 x2 u (fun yx1 yx2 yu => I yx1 yx2 yu ∧ μ yx1 yx2 yu < μ x1 x2 u) Q
def wp_X4_forgetFrom (a1 : Int32) (u : ST) (Q : ST → Prop) : Prop :=
  wp_X4_forgetFrom_p2 a1 (0 : Int32) u Q
set_option maxHeartbeats 4000000 in
set_option maxRecDepth 100000 in
theorem c_X4_forgetFrom (l : Launch) (D : va_G) (h : Nat) (r : Nat → Nat) (q : Nat → Nat → Nat) (cs : Nat → ClassId) (a1 : Int32) (u : ST) (Q : ST → Prop) (hw : wp_X4_forgetFrom a1 u Q) : mCv l yX4_forgetFrom wsX4_forgetFrom ({ frames := 1, cells := 0, slots := 0, locals := 15 } : Room) 0 0 D (mT cs) (W4 h r q cs) [.ref h, .int a1] u Q := by
  unfold mCv
  refine m_enter (QQ := fun A => va_Qv Q (mPos D (mT cs) A (W4 h r q cs)) A) (cc := cX4_forgetFrom) (maxL := 3) (ret := none) (by decide) rfl (Nat.le_of_ble_eq_true rfl) ?_
  intro p e s m args below meth c A ls S hr hlocks hname hl hI
  have S : CallFix p m c cX4_forgetFrom 3 s args wsX4_forgetFrom RX4 := S
  show W p l e ({ frames := 1, cells := 0, slots := 0, locals := 15 } : Room) s m args below meth c s.heap [] 0 0 (MQ below (va_Qv Q (mPos D (mT cs) A (W4 h r q cs)) A) args s 0 0 A) (F0 m 0 ls [])
  generalize hZ : MQ below (va_Qv Q (mPos D (mT cs) A (W4 h r q cs)) A) args s 0 0 A = Z
  have hin : ∀ w ∈ wsX40, w ∈ wsX4_forgetFrom := fun _ h => List.mem_cons_of_mem _ (List.mem_append_right _ h)
  have hl : lv_has ls 3 [(0, .ref h), (1, .int a1)] := hl
  have b2b : ∀ (B2 : Int32 → Int32 → ST → Prop), (∀ (x1 : Int32) (x2 : Int32) (u : ST), B2 x1 x2 u → mGo p l e ({ frames := 1, cells := 0, slots := 0, locals := 15 } : Room) s m args below meth c A Z 3 D (mT cs) (W4 h r q cs) 2 [(0, .ref h), (1, .int x1), (2, .int x2)] [] u) → ∀ (x1 : Int32) (x2 : Int32) (u : ST), wp_X4_forgetFrom_p2b x1 x2 u B2 Q → mGo p l e ({ frames := 1, cells := 0, slots := 0, locals := 15 } : Room) s m args below meth c A Z 3 D (mT cs) (W4 h r q cs) 2 [(0, .ref h), (1, .int x1), (2, .int x2)] [] u := by
    intro B2 hB2 x1 x2 u hw H locs ls hI hl
    unfold wp_X4_forgetFrom_p2b at hw
    refine lv_iload_n S.1 S.2.1 dX4_forgetFrom_2 rfl (lv_at hl 2 rfl) ?_
    refine lv_bipush (v := 6) S.1 S.2.1 dX4_forgetFrom_3 (by decide) ?_
    refine lv_icmp_gt (tgt := 30) S.1 S.2.1 dX4_forgetFrom_5 (by decide) (fun c5 => ?_) (fun c5 => ?_)
    · have hw := hw.1 c5
      subst hZ
      exact m_vret S hr hlocks hI hw dX4_forgetFrom_30
    · have hw := hw.2 c5
      refine lv_aload_n S.1 S.2.1 dX4_forgetFrom_8 rfl (lv_at hl 0 rfl) ?_
      refine m_get S hin hI 0 (W4_at0 h r q cs u) rfl 4 (Nat.le_of_ble_eq_true rfl) (List.mem_of_getElem? (i := 1) rfl) rfl (Ff4_at4 r u) dX4_forgetFrom_9 ?_
      refine lv_iload_n S.1 S.2.1 dX4_forgetFrom_12 rfl (lv_at hl 2 rfl) ?_
      refine lv_aload_n S.1 S.2.1 dX4_forgetFrom_13 rfl (lv_at hl 0 rfl) ?_
      refine m_get S hin hI 0 (W4_at0 h r q cs u) rfl 4 (Nat.le_of_ble_eq_true rfl) (List.mem_of_getElem? (i := 1) rfl) rfl (Ff4_at4 r u) dX4_forgetFrom_14 ?_
      refine lv_iload_n S.1 S.2.1 dX4_forgetFrom_17 rfl (lv_at hl 2 rfl) ?_
      refine m_iald S hI 19 0 (W4_at19 h r q cs u) rfl hw.1 dX4_forgetFrom_18 ?_
      refine lv_topi (fun y18 ey18 => ?_)
      have hw := hw.2 y18 ey18
      refine lv_iload_n S.1 S.2.1 dX4_forgetFrom_19 rfl (lv_at hl 1 rfl) ?_
      refine va_mmin S.1 S.2.1 (S.2.2.1.trans hl.1.symm) S.2.2.2.1 (S.2.2.2.2 _ (List.mem_of_getElem? (i := 2) rfl)) (S.2.2.2.2 _ (List.mem_of_getElem? (i := 3) rfl)) (S.2.2.2.2 _ (List.mem_of_getElem? (i := 4) rfl)) (S.2.2.2.2 _ (List.mem_of_getElem? (i := 5) rfl)) (Nat.le_of_ble_eq_true rfl) (Nat.le_of_ble_eq_true rfl) (Nat.zero_le _) (Nat.zero_le _) dX4_forgetFrom_20 ?_
      refine lv_topi (fun y20 ey20 => ?_)
      have hw := hw y20 ey20
      obtain ⟨u23, eu23⟩ : ∃ z : ST, z = sA u 4 (upd (gA u 4) x2.toNatClampNeg y20) := ⟨_, rfl⟩
      refine m_iast S hI 19 0 (W4_at19 h r q cs u) rfl hw.1 (W4_sA4 h r q cs u u23 _ eu23) dX4_forgetFrom_23 (fun H locs hI => ?_)
      have hw := hw.2 u23 eu23
      obtain ⟨y24, ey24⟩ : ∃ z : Int32, z = x2 + 1 := ⟨_, rfl⟩
      have hw := hw y24 ey24
      refine lv_iinc (v := y24) (lv' := [(2, .int y24), (0, .ref h), (1, .int x1)]) S.1 S.2.1 dX4_forgetFrom_24 hl (k := 2) rfl (by rw [ey24]; rfl) (by decide) rfl (fun ls hl => ?_)
      refine lv_goto (tgt := 2) S.1 S.2.1 dX4_forgetFrom_27 (by decide) ?_
      exact hB2 x1 y24 u23 hw H locs ls hI (lv_sub hl [1, 2, 0] rfl)
  have b2 : ∀ (x1 : Int32) (x2 : Int32) (u : ST), wp_X4_forgetFrom_p2 x1 x2 u Q → mGo p l e ({ frames := 1, cells := 0, slots := 0, locals := 15 } : Room) s m args below meth c A Z 3 D (mT cs) (W4 h r q cs) 2 [(0, .ref h), (1, .int x1), (2, .int x2)] [] u := by
    intro x1 x2 u hw
    obtain ⟨I, μ, h0, hs⟩ := hw
    have key : ∀ (n : Nat) (x1 : Int32) (x2 : Int32) (u : ST), μ x1 x2 u = n → I x1 x2 u → mGo p l e ({ frames := 1, cells := 0, slots := 0, locals := 15 } : Room) s m args below meth c A Z 3 D (mT cs) (W4 h r q cs) 2 [(0, .ref h), (1, .int x1), (2, .int x2)] [] u := by
      intro n
      induction n using Nat.strongRecOn with
      | ind n ih =>
        intro x1 x2 u hn hi
        exact b2b (fun yx1 yx2 yu => I yx1 yx2 yu ∧ μ yx1 yx2 yu < μ x1 x2 u) (fun yx1 yx2 yu hb => ih _ (hn ▸ hb.2) yx1 yx2 yu rfl hb.1) x1 x2 u (hs x1 x2 u hi)
    exact key _ x1 x2 u rfl h0
  unfold wp_X4_forgetFrom at hw
  obtain ⟨H, hH⟩ : ∃ z : Heap, z = s.heap := ⟨_, rfl⟩
  obtain ⟨locs, hL⟩ : ∃ z : List Loc, z = [] := ⟨_, rfl⟩
  rw [show W p l e ({ frames := 1, cells := 0, slots := 0, locals := 15 } : Room) s m args below meth c s.heap [] 0 0 Z (F0 m 0 ls []) = W p l e ({ frames := 1, cells := 0, slots := 0, locals := 15 } : Room) s m args below meth c H locs 0 0 Z (F0 m 0 ls []) by rw [hH, hL]]
  replace hI : mI D (mT cs) A s.heap s (W4 h r q cs u) H locs := by rw [hH, hL]; exact hI
  refine lv_iconst (v := 0) S.1 S.2.1 dX4_forgetFrom_0 (by decide) ?_
  refine lv_istore_n (lv' := [(2, .int (0 : Int32)), (0, .ref h), (1, .int a1)]) S.1 S.2.1 dX4_forgetFrom_1 rfl hl (by decide) rfl (fun ls hl => ?_)
  exact b2 a1 (0 : Int32) u hw H locs ls hI (lv_sub hl [1, 2, 0] rfl)

def wp_X4_weightAt_p20 (t0 : Int32) (u : ST) (Q : Int32 → ST → Prop) : Prop :=
  Q t0 u
def wp_X4_weightAt (a1 : Int32) (u : ST) (Q : Int32 → ST → Prop) : Prop :=
  (wp_X11_within a1 (0 : Int32) (60 : Int32) (fun y4 => ((y4 = 0 → wp_X4_weightAt_p20 (0 : Int32) u Q) ∧ (¬ y4 = 0 → (vp_in a1 61 ∧ ∀ y15 : Int32, y15 = gA u 0 a1.toNatClampNeg → wp_X4_weightAt_p20 y15 u Q)))))
set_option maxHeartbeats 4000000 in
set_option maxRecDepth 100000 in
theorem c_X4_weightAt (l : Launch) (D : va_G) (h : Nat) (r : Nat → Nat) (q : Nat → Nat → Nat) (cs : Nat → ClassId) (a1 : Int32) (u : ST) (Q : Int32 → ST → Prop) (hw : wp_X4_weightAt a1 u Q) : mCi l yX4_weightAt wsX4_weightAt ({ frames := 1, cells := 0, slots := 0, locals := 22 } : Room) 0 0 D (mT cs) (W4 h r q cs) [.ref h, .int a1] u Q := by
  unfold mCi
  refine m_enter (QQ := fun A => va_Qi Q (mPos D (mT cs) A (W4 h r q cs)) A) (cc := cX4_weightAt) (maxL := 2) (ret := (some .int)) (by decide) rfl (Nat.le_of_ble_eq_true rfl) ?_
  intro p e s m args below meth c A ls S hr hlocks hname hl hI
  have S : CallFix p m c cX4_weightAt 2 s args wsX4_weightAt RX4 := S
  show W p l e ({ frames := 1, cells := 0, slots := 0, locals := 22 } : Room) s m args below meth c s.heap [] 0 0 (MQ below (va_Qi Q (mPos D (mT cs) A (W4 h r q cs)) A) args s 0 0 A) (F0 m 0 ls [])
  generalize hZ : MQ below (va_Qi Q (mPos D (mT cs) A (W4 h r q cs)) A) args s 0 0 A = Z
  have hin : ∀ w ∈ wsX40, w ∈ wsX4_weightAt := fun _ h => List.mem_cons_of_mem _ (List.mem_append_right _ h)
  have hl : lv_has ls 2 [(0, .ref h), (1, .int a1)] := hl
  have b20 : ∀ (t0 : Int32) (u : ST), wp_X4_weightAt_p20 t0 u Q → mGo p l e ({ frames := 1, cells := 0, slots := 0, locals := 22 } : Room) s m args below meth c A Z 2 D (mT cs) (W4 h r q cs) 20 [(0, .ref h)] [.int t0] u := by
    intro t0 u hw H locs ls hI hl
    unfold wp_X4_weightAt_p20 at hw
    subst hZ
    exact m_iret S hr hlocks hI hw dX4_weightAt_20
  unfold wp_X4_weightAt at hw
  obtain ⟨H, hH⟩ : ∃ z : Heap, z = s.heap := ⟨_, rfl⟩
  obtain ⟨locs, hL⟩ : ∃ z : List Loc, z = [] := ⟨_, rfl⟩
  rw [show W p l e ({ frames := 1, cells := 0, slots := 0, locals := 22 } : Room) s m args below meth c s.heap [] 0 0 Z (F0 m 0 ls []) = W p l e ({ frames := 1, cells := 0, slots := 0, locals := 22 } : Room) s m args below meth c H locs 0 0 Z (F0 m 0 ls []) by rw [hH, hL]]
  replace hI : mI D (mT cs) A s.heap s (W4 h r q cs u) H locs := by rw [hH, hL]; exact hI
  refine lv_iload_n S.1 S.2.1 dX4_weightAt_0 rfl (lv_at hl 1 rfl) ?_
  refine lv_iconst (v := 0) S.1 S.2.1 dX4_weightAt_1 (by decide) ?_
  refine lv_bipush (v := 60) S.1 S.2.1 dX4_weightAt_2 (by decide) ?_
  refine m_siN (As := [.int a1, .int (0 : Int32), .int (60 : Int32)]) (rest := []) S hI.2.2.2.1.2.1 (c_X11_within l a1 (0 : Int32) (60 : Int32) _ hw) 3 gX4_weightAt_X11_within_n67 rfl rfl rfl nm_X4_67 (List.mem_of_getElem? (i := 3) rfl) (List.mem_of_getElem? (i := 2) rfl) (by decide +kernel) ⟨Nat.le_of_ble_eq_true rfl, Nat.le_of_ble_eq_true rfl⟩ rfl hl.1 rfl (Nat.le_of_ble_eq_true rfl) dX4_weightAt_4 ⟨Nat.zero_le _, Nat.zero_le _⟩ (fun y4 hw => ?_)
  refine lv_if_eq (tgt := 19) S.1 S.2.1 dX4_weightAt_7 (by decide) (fun c7 => ?_) (fun c7 => ?_)
  · have hw := hw.1 c7
    refine lv_iconst (v := 0) S.1 S.2.1 dX4_weightAt_19 (by decide) ?_
    exact b20 (0 : Int32) u hw H locs ls hI (lv_sub hl [0] rfl)
  · have hw := hw.2 c7
    refine lv_aload_n S.1 S.2.1 dX4_weightAt_10 rfl (lv_at hl 0 rfl) ?_
    refine m_get S hin hI 0 (W4_at0 h r q cs u) rfl 0 (Nat.le_of_ble_eq_true rfl) (List.mem_of_getElem? (i := 1) rfl) rfl (Ff4_at0 r u) dX4_weightAt_11 ?_
    refine lv_iload_n S.1 S.2.1 dX4_weightAt_14 rfl (lv_at hl 1 rfl) ?_
    refine m_iald S hI 1 0 (W4_at1 h r q cs u) rfl hw.1 dX4_weightAt_15 ?_
    refine lv_topi (fun y15 ey15 => ?_)
    have hw := hw.2 y15 ey15
    refine lv_goto (tgt := 20) S.1 S.2.1 dX4_weightAt_16 (by decide) ?_
    exact b20 y15 u hw H locs ls hI (lv_sub hl [0] rfl)

def wp_X4_weightTo_p22 (t0 : Int32) (u : ST) (Q : Int32 → ST → Prop) : Prop :=
  Q t0 u
def wp_X4_weightTo (a1 : Int32) (u : ST) (Q : Int32 → ST → Prop) : Prop :=
  (wp_X11_within a1 (0 : Int32) (60 : Int32) (fun y4 => ((y4 = 0 → wp_X4_weightTo_p22 (0 : Int32) u Q) ∧ (¬ y4 = 0 → (∀ y16 : Int32, y16 = a1 + (1 : Int32) → (vp_in y16 62 ∧ ∀ y17 : Int32, y17 = gA u 1 y16.toNatClampNeg → wp_X4_weightTo_p22 y17 u Q))))))
set_option maxHeartbeats 4000000 in
set_option maxRecDepth 100000 in
theorem c_X4_weightTo (l : Launch) (D : va_G) (h : Nat) (r : Nat → Nat) (q : Nat → Nat → Nat) (cs : Nat → ClassId) (a1 : Int32) (u : ST) (Q : Int32 → ST → Prop) (hw : wp_X4_weightTo a1 u Q) : mCi l yX4_weightTo wsX4_weightTo ({ frames := 1, cells := 0, slots := 0, locals := 22 } : Room) 0 0 D (mT cs) (W4 h r q cs) [.ref h, .int a1] u Q := by
  unfold mCi
  refine m_enter (QQ := fun A => va_Qi Q (mPos D (mT cs) A (W4 h r q cs)) A) (cc := cX4_weightTo) (maxL := 2) (ret := (some .int)) (by decide) rfl (Nat.le_of_ble_eq_true rfl) ?_
  intro p e s m args below meth c A ls S hr hlocks hname hl hI
  have S : CallFix p m c cX4_weightTo 2 s args wsX4_weightTo RX4 := S
  show W p l e ({ frames := 1, cells := 0, slots := 0, locals := 22 } : Room) s m args below meth c s.heap [] 0 0 (MQ below (va_Qi Q (mPos D (mT cs) A (W4 h r q cs)) A) args s 0 0 A) (F0 m 0 ls [])
  generalize hZ : MQ below (va_Qi Q (mPos D (mT cs) A (W4 h r q cs)) A) args s 0 0 A = Z
  have hin : ∀ w ∈ wsX40, w ∈ wsX4_weightTo := fun _ h => List.mem_cons_of_mem _ (List.mem_append_right _ h)
  have hl : lv_has ls 2 [(0, .ref h), (1, .int a1)] := hl
  have b22 : ∀ (t0 : Int32) (u : ST), wp_X4_weightTo_p22 t0 u Q → mGo p l e ({ frames := 1, cells := 0, slots := 0, locals := 22 } : Room) s m args below meth c A Z 2 D (mT cs) (W4 h r q cs) 22 [(0, .ref h)] [.int t0] u := by
    intro t0 u hw H locs ls hI hl
    unfold wp_X4_weightTo_p22 at hw
    subst hZ
    exact m_iret S hr hlocks hI hw dX4_weightTo_22
  unfold wp_X4_weightTo at hw
  obtain ⟨H, hH⟩ : ∃ z : Heap, z = s.heap := ⟨_, rfl⟩
  obtain ⟨locs, hL⟩ : ∃ z : List Loc, z = [] := ⟨_, rfl⟩
  rw [show W p l e ({ frames := 1, cells := 0, slots := 0, locals := 22 } : Room) s m args below meth c s.heap [] 0 0 Z (F0 m 0 ls []) = W p l e ({ frames := 1, cells := 0, slots := 0, locals := 22 } : Room) s m args below meth c H locs 0 0 Z (F0 m 0 ls []) by rw [hH, hL]]
  replace hI : mI D (mT cs) A s.heap s (W4 h r q cs u) H locs := by rw [hH, hL]; exact hI
  refine lv_iload_n S.1 S.2.1 dX4_weightTo_0 rfl (lv_at hl 1 rfl) ?_
  refine lv_iconst (v := 0) S.1 S.2.1 dX4_weightTo_1 (by decide) ?_
  refine lv_bipush (v := 60) S.1 S.2.1 dX4_weightTo_2 (by decide) ?_
  refine m_siN (As := [.int a1, .int (0 : Int32), .int (60 : Int32)]) (rest := []) S hI.2.2.2.1.2.1 (c_X11_within l a1 (0 : Int32) (60 : Int32) _ hw) 3 gX4_weightTo_X11_within_n67 rfl rfl rfl nm_X4_67 (List.mem_of_getElem? (i := 3) rfl) (List.mem_of_getElem? (i := 2) rfl) (by decide +kernel) ⟨Nat.le_of_ble_eq_true rfl, Nat.le_of_ble_eq_true rfl⟩ rfl hl.1 rfl (Nat.le_of_ble_eq_true rfl) dX4_weightTo_4 ⟨Nat.zero_le _, Nat.zero_le _⟩ (fun y4 hw => ?_)
  refine lv_if_eq (tgt := 21) S.1 S.2.1 dX4_weightTo_7 (by decide) (fun c7 => ?_) (fun c7 => ?_)
  · have hw := hw.1 c7
    refine lv_iconst (v := 0) S.1 S.2.1 dX4_weightTo_21 (by decide) ?_
    exact b22 (0 : Int32) u hw H locs ls hI (lv_sub hl [0] rfl)
  · have hw := hw.2 c7
    refine lv_aload_n S.1 S.2.1 dX4_weightTo_10 rfl (lv_at hl 0 rfl) ?_
    refine m_get S hin hI 0 (W4_at0 h r q cs u) rfl 1 (Nat.le_of_ble_eq_true rfl) (List.mem_of_getElem? (i := 1) rfl) rfl (Ff4_at1 r u) dX4_weightTo_11 ?_
    refine lv_iload_n S.1 S.2.1 dX4_weightTo_14 rfl (lv_at hl 1 rfl) ?_
    refine lv_iconst (v := 1) S.1 S.2.1 dX4_weightTo_15 (by decide) ?_
    refine lv_iadd S.1 S.2.1 dX4_weightTo_16 ?_
    refine lv_topi (fun y16 ey16 => ?_)
    have hw := hw y16 ey16
    refine m_iald S hI 2 0 (W4_at2 h r q cs u) rfl hw.1 dX4_weightTo_17 ?_
    refine lv_topi (fun y17 ey17 => ?_)
    have hw := hw.2 y17 ey17
    refine lv_goto (tgt := 22) S.1 S.2.1 dX4_weightTo_18 (by decide) ?_
    exact b22 y17 u hw H locs ls hI (lv_sub hl [0] rfl)

def wp_X4_placeOf (a0 : Int32) (a1 : Int32) (Q : Int32 → Prop) : Prop :=
  (∀ y3 : Int32, y3 = a1 + (1 : Int32) → (∀ y4 : Int32, y4 = a1 * y3 → (¬ (2 : Int32) = 0 ∧ ∀ y6 : Int32, y6 = y4 / (2 : Int32) → (∀ y8 : Int32, y8 = y6 + a0 → Q y8))))
set_option maxHeartbeats 4000000 in
set_option maxRecDepth 100000 in
theorem c_X4_placeOf (l : Launch) (a0 : Int32) (a1 : Int32) (Q : Int32 → Prop) (hw : wp_X4_placeOf a0 a1 Q) : mTi l yX4_placeOf wsX4_placeOf ({ frames := 0, cells := 0, slots := 0, locals := 0 } : Room) [.int a0, .int a1] Q := by
  refine m_enterT (cc := cX4_placeOf) (maxL := 2) (ret := (some .int)) (by decide) rfl (Nat.le_of_ble_eq_true rfl) ?_
  intro p e s m args below meth c ls S hr hlocks hname hl hN
  have S : CallFix p m c cX4_placeOf 2 s args wsX4_placeOf RX4 := S
  generalize hZ : MQ below (vp_Si Q) args s 0 0 (fun _ => False) = Z
  have hl : lv_has ls 2 [(0, .int a0), (1, .int a1)] := hl
  unfold wp_X4_placeOf at hw
  refine lv_iload_n S.1 S.2.1 dX4_placeOf_0 rfl (lv_at hl 1 rfl) ?_
  refine lv_iload_n S.1 S.2.1 dX4_placeOf_1 rfl (lv_at hl 1 rfl) ?_
  refine lv_iconst (v := 1) S.1 S.2.1 dX4_placeOf_2 (by decide) ?_
  refine lv_iadd S.1 S.2.1 dX4_placeOf_3 ?_
  refine lv_topi (fun y3 ey3 => ?_)
  have hw := hw y3 ey3
  refine lv_imul S.1 S.2.1 dX4_placeOf_4 ?_
  refine lv_topi (fun y4 ey4 => ?_)
  have hw := hw y4 ey4
  refine lv_iconst (v := 2) S.1 S.2.1 dX4_placeOf_5 (by decide) ?_
  refine lv_idiv S.1 S.2.1 dX4_placeOf_6 hw.1 ?_
  have hw := hw.2
  refine lv_topi (fun y6 ey6 => ?_)
  have hw := hw y6 ey6
  refine lv_iload_n S.1 S.2.1 dX4_placeOf_7 rfl (lv_at hl 0 rfl) ?_
  refine lv_iadd S.1 S.2.1 dX4_placeOf_8 ?_
  refine lv_topi (fun y8 ey8 => ?_)
  have hw := hw y8 ey8
  subst hZ
  exact m_tiret S hr hlocks hw dX4_placeOf_9

def wp_X4_fill_p86 (j1 j2 j3 : Nat) (x4 : Int32) (x5 : Int32) (x6 : Int32) (x7 : Int32) (u : ST) (Q : ST → Prop) : Prop :=
  (∀ y98 : Int32, y98 = x5 + (1 : Int32) → (vp_in y98 62 ∧ ∀ y99 : Int32, y99 = gA u 1 y98.toNatClampNeg → (∀ y100 : Int32, y100 = x6 + y99 → (vp_in x4 62 ∧ ∀ y107 : Int32, y107 = gA u 1 x4.toNatClampNeg → (∀ y108 : Int32, y108 = y100 - y107 → (vp_in x7 1891 ∧ ∀ u109 : ST, u109 = sG u 2 (mu (gG u 2) j2 (upd (gG u 2 j2) x7.toNatClampNeg y108)) → Q u109))))))
def wp_X4_fill_p80 (j1 j2 j3 : Nat) (x4 : Int32) (x5 : Int32) (x6 : Int32) (x7 : Int32) (x8 : Int32) (u : ST) (B19 : Int32 → Int32 → Int32 → Int32 → Int32 → ST → Prop) (Q : ST → Prop) : Prop :=
  (∀ y80 : Int32, y80 = x8 + 1 → B19 x4 x5 x6 x7 y80 u)
def wp_X4_fill_p19b (j1 j2 j3 : Nat) (x4 : Int32) (x5 : Int32) (x6 : Int32) (x7 : Int32) (x8 : Int32) (u : ST) (B19 : Int32 → Int32 → Int32 → Int32 → Int32 → ST → Prop) (Q : ST → Prop) : Prop :=
  ((x5 < x8 → wp_X4_fill_p86 j1 j2 j3 x4 x5 x6 x7 u Q) ∧ (¬ x5 < x8 → (∀ y32 : Int32, y32 = x8 - (1 : Int32) → (wp_X4_placeOf x4 y32 (fun y33 => (vp_in y33 1891 ∧ ∀ y36 : Int32, y36 = gG u 2 j1 y33.toNatClampNeg → ((y36 < x6 → (wp_X4_placeOf x8 x5 (fun y56 => (vp_in y56 1891 ∧ ∀ y59 : Int32, y59 = gG u 2 j2 y56.toNatClampNeg → (∀ y60 : Int32, y60 = y36 + y59 → ((x6 ≤ y60 → wp_X4_fill_p80 j1 j2 j3 x4 x5 x6 x7 x8 u B19 Q) ∧ (¬ x6 ≤ y60 → (vp_in x7 1891 ∧ ∀ u79 : ST, u79 = sG u 3 (mu (gG u 3) j3 (upd (gG u 3 j3) x7.toNatClampNeg x8)) → wp_X4_fill_p80 j1 j2 j3 x4 x5 y60 x7 x8 u79 B19 Q)))))))) ∧ (¬ y36 < x6 → wp_X4_fill_p86 j1 j2 j3 x4 x5 x6 x7 u Q))))))))
def wp_X4_fill_p19 (j1 j2 j3 : Nat) (x4 : Int32) (x5 : Int32) (x6 : Int32) (x7 : Int32) (x8 : Int32) (u : ST) (Q : ST → Prop) : Prop := ∃ (I : Int32 → Int32 → Int32 → Int32 → Int32 → ST → Prop) (μ : Int32 → Int32 → Int32 → Int32 → Int32 → ST → Nat), I x4 x5 x6 x7 x8 u ∧ ∀ (x4 : Int32) (x5 : Int32) (x6 : Int32) (x7 : Int32) (x8 : Int32) (u : ST), I x4 x5 x6 x7 x8 u → wp_X4_fill_p19b j1 j2 j3 x4 x5 x6 x7 x8 u (fun yx4 yx5 yx6 yx7 yx8 yu => I yx4 yx5 yx6 yx7 yx8 yu ∧ μ yx4 yx5 yx6 yx7 yx8 yu < μ x4 x5 x6 x7 x8 u) Q
def wp_X4_fill (j1 j2 j3 : Nat) (a4 : Int32) (a5 : Int32) (u : ST) (Q : ST → Prop) : Prop :=
  (wp_X4_placeOf a4 a5 (fun y8 => (∀ y16 : Int32, y16 = a4 + (1 : Int32) → wp_X4_fill_p19 j1 j2 j3 a4 a5 (268435456 : Int32) y8 y16 u Q)))
set_option maxHeartbeats 4000000 in
set_option maxRecDepth 100000 in
theorem c_X4_fill (l : Launch) (D : va_G) (h : Nat) (r : Nat → Nat) (q : Nat → Nat → Nat) (cs : Nat → ClassId) (j1 j2 j3 : Nat) (hj1 : j1 < 7) (hj2 : j2 < 7) (hj3 : j3 < 7) (a4 : Int32) (a5 : Int32) (u : ST) (Q : ST → Prop) (hw : wp_X4_fill j1 j2 j3 a4 a5 u Q) : mCv l yX4_fill wsX4_fill ({ frames := 1, cells := 0, slots := 0, locals := 21 } : Room) 0 0 D (mT cs) (W4 h r q cs) [.ref h, .ref (q 2 j1), .ref (q 2 j2), .ref (q 3 j3), .int a4, .int a5] u Q := by
  unfold mCv
  refine m_enter (QQ := fun A => va_Qv Q (mPos D (mT cs) A (W4 h r q cs)) A) (cc := cX4_fill) (maxL := 11) (ret := none) (by decide) rfl (Nat.le_of_ble_eq_true rfl) ?_
  intro p e s m args below meth c A ls S hr hlocks hname hl hI
  have S : CallFix p m c cX4_fill 11 s args wsX4_fill RX4 := S
  show W p l e ({ frames := 1, cells := 0, slots := 0, locals := 21 } : Room) s m args below meth c s.heap [] 0 0 (MQ below (va_Qv Q (mPos D (mT cs) A (W4 h r q cs)) A) args s 0 0 A) (F0 m 0 ls [])
  generalize hZ : MQ below (va_Qv Q (mPos D (mT cs) A (W4 h r q cs)) A) args s 0 0 A = Z
  have hin : ∀ w ∈ wsX40, w ∈ wsX4_fill := fun _ h => List.mem_cons_of_mem _ (List.mem_append_right _ h)
  have hl : lv_has ls 11 [(0, .ref h), (1, .ref (q 2 j1)), (2, .ref (q 2 j2)), (3, .ref (q 3 j3)), (4, .int a4), (5, .int a5)] := hl
  have b86 : ∀ (x4 : Int32) (x5 : Int32) (x6 : Int32) (x7 : Int32) (u : ST), j2 < 7 → wp_X4_fill_p86 j1 j2 j3 x4 x5 x6 x7 u Q → mGo p l e ({ frames := 1, cells := 0, slots := 0, locals := 21 } : Room) s m args below meth c A Z 11 D (mT cs) (W4 h r q cs) 86 [(0, .ref h), (2, .ref (q 2 j2)), (4, .int x4), (5, .int x5), (6, .int x6), (7, .int x7)] [] u := by
    intro x4 x5 x6 x7 u hq2 hw H locs ls hI hl
    unfold wp_X4_fill_p86 at hw
    refine lv_aload_n S.1 S.2.1 dX4_fill_86 rfl (lv_at hl 1 rfl) ?_
    refine lv_iload S.1 S.2.1 dX4_fill_87 (lv_at hl 5 rfl) ?_
    refine lv_iload S.1 S.2.1 dX4_fill_89 (lv_at hl 4 rfl) ?_
    refine lv_aload_n S.1 S.2.1 dX4_fill_91 rfl (lv_at hl 0 rfl) ?_
    refine m_get S hin hI 0 (W4_at0 h r q cs u) rfl 1 (Nat.le_of_ble_eq_true rfl) (List.mem_of_getElem? (i := 2) rfl) rfl (Ff4_at1 r u) dX4_fill_92 ?_
    refine lv_iload S.1 S.2.1 dX4_fill_95 (lv_at hl 3 rfl) ?_
    refine lv_iconst (v := 1) S.1 S.2.1 dX4_fill_97 (by decide) ?_
    refine lv_iadd S.1 S.2.1 dX4_fill_98 ?_
    refine lv_topi (fun y98 ey98 => ?_)
    have hw := hw y98 ey98
    refine m_iald S hI 2 0 (W4_at2 h r q cs u) rfl hw.1 dX4_fill_99 ?_
    refine lv_topi (fun y99 ey99 => ?_)
    have hw := hw.2 y99 ey99
    refine lv_iadd S.1 S.2.1 dX4_fill_100 ?_
    refine lv_topi (fun y100 ey100 => ?_)
    have hw := hw y100 ey100
    refine lv_aload_n S.1 S.2.1 dX4_fill_101 rfl (lv_at hl 0 rfl) ?_
    refine m_get S hin hI 0 (W4_at0 h r q cs u) rfl 1 (Nat.le_of_ble_eq_true rfl) (List.mem_of_getElem? (i := 2) rfl) rfl (Ff4_at1 r u) dX4_fill_102 ?_
    refine lv_iload S.1 S.2.1 dX4_fill_105 (lv_at hl 2 rfl) ?_
    refine m_iald S hI 2 0 (W4_at2 h r q cs u) rfl hw.1 dX4_fill_107 ?_
    refine lv_topi (fun y107 ey107 => ?_)
    have hw := hw.2 y107 ey107
    refine lv_isub S.1 S.2.1 dX4_fill_108 ?_
    refine lv_topi (fun y108 ey108 => ?_)
    have hw := hw y108 ey108
    obtain ⟨u109, eu109⟩ : ∃ z : ST, z = sG u 2 (mu (gG u 2) j2 (upd (gG u 2 j2) x7.toNatClampNeg y108)) := ⟨_, rfl⟩
    refine m_iast S hI (4 + j2) 0 (W4_gr2 h r q cs u hq2) rfl hw.1 (W4_sG2 h r q cs u u109 hq2 _ eu109) dX4_fill_109 (fun H locs hI => ?_)
    have hw := hw.2 u109 eu109
    subst hZ
    exact m_vret S hr hlocks hI hw dX4_fill_110
  have b80 : ∀ (B19 : Int32 → Int32 → Int32 → Int32 → Int32 → ST → Prop), (∀ (x4 : Int32) (x5 : Int32) (x6 : Int32) (x7 : Int32) (x8 : Int32) (u : ST), B19 x4 x5 x6 x7 x8 u → mGo p l e ({ frames := 1, cells := 0, slots := 0, locals := 21 } : Room) s m args below meth c A Z 11 D (mT cs) (W4 h r q cs) 19 [(0, .ref h), (1, .ref (q 2 j1)), (2, .ref (q 2 j2)), (3, .ref (q 3 j3)), (4, .int x4), (5, .int x5), (6, .int x6), (7, .int x7), (8, .int x8)] [] u) → ∀ (x4 : Int32) (x5 : Int32) (x6 : Int32) (x7 : Int32) (x8 : Int32) (u : ST), j1 < 7 → j2 < 7 → j3 < 7 → wp_X4_fill_p80 j1 j2 j3 x4 x5 x6 x7 x8 u B19 Q → mGo p l e ({ frames := 1, cells := 0, slots := 0, locals := 21 } : Room) s m args below meth c A Z 11 D (mT cs) (W4 h r q cs) 80 [(0, .ref h), (1, .ref (q 2 j1)), (2, .ref (q 2 j2)), (3, .ref (q 3 j3)), (4, .int x4), (5, .int x5), (6, .int x6), (7, .int x7), (8, .int x8)] [] u := by
    intro B19 hB19 x4 x5 x6 x7 x8 u hq1 hq2 hq3 hw H locs ls hI hl
    unfold wp_X4_fill_p80 at hw
    obtain ⟨y80, ey80⟩ : ∃ z : Int32, z = x8 + 1 := ⟨_, rfl⟩
    have hw := hw y80 ey80
    refine lv_iinc (v := y80) (lv' := [(8, .int y80), (0, .ref h), (1, .ref (q 2 j1)), (2, .ref (q 2 j2)), (3, .ref (q 3 j3)), (4, .int x4), (5, .int x5), (6, .int x6), (7, .int x7)]) S.1 S.2.1 dX4_fill_80 hl (k := 8) rfl (by rw [ey80]; rfl) (by decide) rfl (fun ls hl => ?_)
    refine lv_goto (tgt := 19) S.1 S.2.1 dX4_fill_83 (by decide) ?_
    exact hB19 x4 x5 x6 x7 y80 u hw H locs ls hI (lv_sub hl [1, 2, 3, 4, 5, 6, 7, 8, 0] rfl)
  have b19b : ∀ (B19 : Int32 → Int32 → Int32 → Int32 → Int32 → ST → Prop), (∀ (x4 : Int32) (x5 : Int32) (x6 : Int32) (x7 : Int32) (x8 : Int32) (u : ST), B19 x4 x5 x6 x7 x8 u → mGo p l e ({ frames := 1, cells := 0, slots := 0, locals := 21 } : Room) s m args below meth c A Z 11 D (mT cs) (W4 h r q cs) 19 [(0, .ref h), (1, .ref (q 2 j1)), (2, .ref (q 2 j2)), (3, .ref (q 3 j3)), (4, .int x4), (5, .int x5), (6, .int x6), (7, .int x7), (8, .int x8)] [] u) → ∀ (x4 : Int32) (x5 : Int32) (x6 : Int32) (x7 : Int32) (x8 : Int32) (u : ST), j1 < 7 → j2 < 7 → j3 < 7 → wp_X4_fill_p19b j1 j2 j3 x4 x5 x6 x7 x8 u B19 Q → mGo p l e ({ frames := 1, cells := 0, slots := 0, locals := 21 } : Room) s m args below meth c A Z 11 D (mT cs) (W4 h r q cs) 19 [(0, .ref h), (1, .ref (q 2 j1)), (2, .ref (q 2 j2)), (3, .ref (q 3 j3)), (4, .int x4), (5, .int x5), (6, .int x6), (7, .int x7), (8, .int x8)] [] u := by
    intro B19 hB19 x4 x5 x6 x7 x8 u hq1 hq2 hq3 hw H locs ls hI hl
    unfold wp_X4_fill_p19b at hw
    refine lv_iload S.1 S.2.1 dX4_fill_19 (lv_at hl 8 rfl) ?_
    refine lv_iload S.1 S.2.1 dX4_fill_21 (lv_at hl 5 rfl) ?_
    refine lv_icmp_gt (tgt := 86) S.1 S.2.1 dX4_fill_23 (by decide) (fun c23 => ?_) (fun c23 => ?_)
    · have hw := hw.1 c23
      exact b86 x4 x5 x6 x7 u hq2 hw H locs ls hI (lv_sub hl [0, 2, 4, 5, 6, 7] rfl)
    · have hw := hw.2 c23
      refine lv_aload_n S.1 S.2.1 dX4_fill_26 rfl (lv_at hl 1 rfl) ?_
      refine lv_iload S.1 S.2.1 dX4_fill_27 (lv_at hl 4 rfl) ?_
      refine lv_iload S.1 S.2.1 dX4_fill_29 (lv_at hl 8 rfl) ?_
      refine lv_iconst (v := 1) S.1 S.2.1 dX4_fill_31 (by decide) ?_
      refine lv_isub S.1 S.2.1 dX4_fill_32 ?_
      refine lv_topi (fun y32 ey32 => ?_)
      have hw := hw y32 ey32
      refine m_si (As := [.int x4, .int y32]) (rest := [.ref (q 2 j1)]) S hI.2.2.2.1.2.1 (c_X4_placeOf l x4 y32 _ hw) (va_cwS 2 S.2.2.2.2 gX4_fill_X4_placeOf rfl rfl rfl (by decide +kernel) ⟨Nat.le_of_ble_eq_true rfl, Nat.le_of_ble_eq_true rfl⟩) rfl hl.1 rfl (Nat.le_of_ble_eq_true rfl) dX4_fill_33 ⟨Nat.zero_le _, Nat.zero_le _⟩ (fun y33 hw => ?_)
      refine m_iald S hI (4 + j1) 0 (W4_gr2 h r q cs u hq1) rfl hw.1 dX4_fill_36 ?_
      refine lv_topi (fun y36 ey36 => ?_)
      have hw := hw.2 y36 ey36
      refine lv_istore (lv' := [(9, .int y36), (0, .ref h), (1, .ref (q 2 j1)), (2, .ref (q 2 j2)), (3, .ref (q 3 j3)), (4, .int x4), (5, .int x5), (6, .int x6), (7, .int x7), (8, .int x8)]) S.1 S.2.1 dX4_fill_37 hl (by decide) rfl (fun ls hl => ?_)
      refine lv_iload S.1 S.2.1 dX4_fill_39 (lv_at hl 0 rfl) ?_
      refine lv_iload S.1 S.2.1 dX4_fill_41 (lv_at hl 7 rfl) ?_
      refine lv_icmp_lt (tgt := 49) S.1 S.2.1 dX4_fill_43 (by decide) (fun c43 => ?_) (fun c43 => ?_)
      · have hw := hw.1 c43
        refine lv_iload S.1 S.2.1 dX4_fill_49 (lv_at hl 0 rfl) ?_
        refine lv_aload_n S.1 S.2.1 dX4_fill_51 rfl (lv_at hl 3 rfl) ?_
        refine lv_iload S.1 S.2.1 dX4_fill_52 (lv_at hl 9 rfl) ?_
        refine lv_iload S.1 S.2.1 dX4_fill_54 (lv_at hl 6 rfl) ?_
        refine m_si (As := [.int x8, .int x5]) (rest := [.ref (q 2 j2), .int y36]) S hI.2.2.2.1.2.1 (c_X4_placeOf l x8 x5 _ hw) (va_cwS 2 S.2.2.2.2 gX4_fill_X4_placeOf rfl rfl rfl (by decide +kernel) ⟨Nat.le_of_ble_eq_true rfl, Nat.le_of_ble_eq_true rfl⟩) rfl hl.1 rfl (Nat.le_of_ble_eq_true rfl) dX4_fill_56 ⟨Nat.zero_le _, Nat.zero_le _⟩ (fun y56 hw => ?_)
        refine m_iald S hI (4 + j2) 0 (W4_gr2 h r q cs u hq2) rfl hw.1 dX4_fill_59 ?_
        refine lv_topi (fun y59 ey59 => ?_)
        have hw := hw.2 y59 ey59
        refine lv_iadd S.1 S.2.1 dX4_fill_60 ?_
        refine lv_topi (fun y60 ey60 => ?_)
        have hw := hw y60 ey60
        refine lv_istore (lv' := [(10, .int y60), (9, .int y36), (0, .ref h), (1, .ref (q 2 j1)), (2, .ref (q 2 j2)), (3, .ref (q 3 j3)), (4, .int x4), (5, .int x5), (6, .int x6), (7, .int x7), (8, .int x8)]) S.1 S.2.1 dX4_fill_61 hl (by decide) rfl (fun ls hl => ?_)
        refine lv_iload S.1 S.2.1 dX4_fill_63 (lv_at hl 0 rfl) ?_
        refine lv_iload S.1 S.2.1 dX4_fill_65 (lv_at hl 8 rfl) ?_
        refine lv_icmp_ge (tgt := 80) S.1 S.2.1 dX4_fill_67 (by decide) (fun c67 => ?_) (fun c67 => ?_)
        · have hw := hw.1 c67
          exact b80 B19 hB19 x4 x5 x6 x7 x8 u hq1 hq2 hq3 hw H locs ls hI (lv_sub hl [2, 3, 4, 5, 6, 7, 8, 9, 10] rfl)
        · have hw := hw.2 c67
          refine lv_iload S.1 S.2.1 dX4_fill_70 (lv_at hl 0 rfl) ?_
          refine lv_istore (lv' := [(6, .int y60), (10, .int y60), (9, .int y36), (0, .ref h), (1, .ref (q 2 j1)), (2, .ref (q 2 j2)), (3, .ref (q 3 j3)), (4, .int x4), (5, .int x5), (7, .int x7), (8, .int x8)]) S.1 S.2.1 dX4_fill_72 hl (by decide) rfl (fun ls hl => ?_)
          refine lv_aload_n S.1 S.2.1 dX4_fill_74 rfl (lv_at hl 6 rfl) ?_
          refine lv_iload S.1 S.2.1 dX4_fill_75 (lv_at hl 9 rfl) ?_
          refine lv_iload S.1 S.2.1 dX4_fill_77 (lv_at hl 10 rfl) ?_
          obtain ⟨u79, eu79⟩ : ∃ z : ST, z = sG u 3 (mu (gG u 3) j3 (upd (gG u 3 j3) x7.toNatClampNeg x8)) := ⟨_, rfl⟩
          refine m_iast S hI (12 + j3) 0 (W4_gr3 h r q cs u hq3) rfl hw.1 (W4_sG3 h r q cs u u79 hq3 _ eu79) dX4_fill_79 (fun H locs hI => ?_)
          have hw := hw.2 u79 eu79
          exact b80 B19 hB19 x4 x5 y60 x7 x8 u79 hq1 hq2 hq3 hw H locs ls hI (lv_sub hl [3, 4, 5, 6, 7, 8, 0, 9, 10] rfl)
      · have hw := hw.2 c43
        refine lv_goto (tgt := 86) S.1 S.2.1 dX4_fill_46 (by decide) ?_
        exact b86 x4 x5 x6 x7 u hq2 hw H locs ls hI (lv_sub hl [1, 3, 5, 6, 7, 8] rfl)
  have b19 : ∀ (x4 : Int32) (x5 : Int32) (x6 : Int32) (x7 : Int32) (x8 : Int32) (u : ST), j1 < 7 → j2 < 7 → j3 < 7 → wp_X4_fill_p19 j1 j2 j3 x4 x5 x6 x7 x8 u Q → mGo p l e ({ frames := 1, cells := 0, slots := 0, locals := 21 } : Room) s m args below meth c A Z 11 D (mT cs) (W4 h r q cs) 19 [(0, .ref h), (1, .ref (q 2 j1)), (2, .ref (q 2 j2)), (3, .ref (q 3 j3)), (4, .int x4), (5, .int x5), (6, .int x6), (7, .int x7), (8, .int x8)] [] u := by
    intro x4 x5 x6 x7 x8 u hq1 hq2 hq3 hw
    obtain ⟨I, μ, h0, hs⟩ := hw
    have key : ∀ (n : Nat) (x4 : Int32) (x5 : Int32) (x6 : Int32) (x7 : Int32) (x8 : Int32) (u : ST), μ x4 x5 x6 x7 x8 u = n → I x4 x5 x6 x7 x8 u → mGo p l e ({ frames := 1, cells := 0, slots := 0, locals := 21 } : Room) s m args below meth c A Z 11 D (mT cs) (W4 h r q cs) 19 [(0, .ref h), (1, .ref (q 2 j1)), (2, .ref (q 2 j2)), (3, .ref (q 3 j3)), (4, .int x4), (5, .int x5), (6, .int x6), (7, .int x7), (8, .int x8)] [] u := by
      intro n
      induction n using Nat.strongRecOn with
      | ind n ih =>
        intro x4 x5 x6 x7 x8 u hn hi
        exact b19b (fun yx4 yx5 yx6 yx7 yx8 yu => I yx4 yx5 yx6 yx7 yx8 yu ∧ μ yx4 yx5 yx6 yx7 yx8 yu < μ x4 x5 x6 x7 x8 u) (fun yx4 yx5 yx6 yx7 yx8 yu hb => ih _ (hn ▸ hb.2) yx4 yx5 yx6 yx7 yx8 yu rfl hb.1) x4 x5 x6 x7 x8 u hq1 hq2 hq3 (hs x4 x5 x6 x7 x8 u hi)
    exact key _ x4 x5 x6 x7 x8 u rfl h0
  unfold wp_X4_fill at hw
  obtain ⟨H, hH⟩ : ∃ z : Heap, z = s.heap := ⟨_, rfl⟩
  obtain ⟨locs, hL⟩ : ∃ z : List Loc, z = [] := ⟨_, rfl⟩
  rw [show W p l e ({ frames := 1, cells := 0, slots := 0, locals := 21 } : Room) s m args below meth c s.heap [] 0 0 Z (F0 m 0 ls []) = W p l e ({ frames := 1, cells := 0, slots := 0, locals := 21 } : Room) s m args below meth c H locs 0 0 Z (F0 m 0 ls []) by rw [hH, hL]]
  replace hI : mI D (mT cs) A s.heap s (W4 h r q cs u) H locs := by rw [hH, hL]; exact hI
  refine lv_ldc S.1 S.2.1 S.2.2.2.1 (S.2.2.2.2 _ (List.mem_of_getElem? (i := 1) rfl)) dX4_fill_0 ?_
  refine lv_istore (lv' := [(6, .int (268435456 : Int32)), (0, .ref h), (1, .ref (q 2 j1)), (2, .ref (q 2 j2)), (3, .ref (q 3 j3)), (4, .int a4), (5, .int a5)]) S.1 S.2.1 dX4_fill_2 hl (by decide) rfl (fun ls hl => ?_)
  refine lv_iload S.1 S.2.1 dX4_fill_4 (lv_at hl 5 rfl) ?_
  refine lv_iload S.1 S.2.1 dX4_fill_6 (lv_at hl 6 rfl) ?_
  refine m_si (As := [.int a4, .int a5]) (rest := []) S hI.2.2.2.1.2.1 (c_X4_placeOf l a4 a5 _ hw) (va_cwS 2 S.2.2.2.2 gX4_fill_X4_placeOf rfl rfl rfl (by decide +kernel) ⟨Nat.le_of_ble_eq_true rfl, Nat.le_of_ble_eq_true rfl⟩) rfl hl.1 rfl (Nat.le_of_ble_eq_true rfl) dX4_fill_8 ⟨Nat.zero_le _, Nat.zero_le _⟩ (fun y8 hw => ?_)
  refine lv_istore (lv' := [(7, .int y8), (6, .int (268435456 : Int32)), (0, .ref h), (1, .ref (q 2 j1)), (2, .ref (q 2 j2)), (3, .ref (q 3 j3)), (4, .int a4), (5, .int a5)]) S.1 S.2.1 dX4_fill_11 hl (by decide) rfl (fun ls hl => ?_)
  refine lv_iload S.1 S.2.1 dX4_fill_13 (lv_at hl 6 rfl) ?_
  refine lv_iconst (v := 1) S.1 S.2.1 dX4_fill_15 (by decide) ?_
  refine lv_iadd S.1 S.2.1 dX4_fill_16 ?_
  refine lv_topi (fun y16 ey16 => ?_)
  have hw := hw y16 ey16
  refine lv_istore (lv' := [(8, .int y16), (7, .int y8), (6, .int (268435456 : Int32)), (0, .ref h), (1, .ref (q 2 j1)), (2, .ref (q 2 j2)), (3, .ref (q 3 j3)), (4, .int a4), (5, .int a5)]) S.1 S.2.1 dX4_fill_17 hl (by decide) rfl (fun ls hl => ?_)
  exact b19 a4 a5 (268435456 : Int32) y8 y16 u hj1 hj2 hj3 hw H locs ls hI (lv_sub hl [3, 4, 5, 6, 7, 8, 2, 1, 0] rfl)

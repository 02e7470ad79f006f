/-! laid by program: X12_sum, X12_compared, X12_both, X12_either, X12_operand, scc, X12_line, X12_readText, X12_twoOf -/
def wp_X12_sum_p57 (u : ST) (P : Nat → ST → (ST → Prop) → Prop) (Q : ST → Prop) : Prop :=
  Q u
def wp_X12_sum_p29 (u : ST) (B4 : ST → Prop) (P : Nat → ST → (ST → Prop) → Prop) (Q : ST → Prop) : Prop :=
  (wp_X12_look u (fun y30 u30 => (∀ y40 : Int32, y40 = (gI u30 13) + (1 : Int32) → (∀ u41 : ST, u41 = sI u30 13 y40 → (P 1 u41 (fun u45 => (wp_X12_addStep y30 (0 : Int32) u45 (fun u51 => B4 u51))))))))
def wp_X12_sum_p4b (u : ST) (B4 : ST → Prop) (P : Nat → ST → (ST → Prop) → Prop) (Q : ST → Prop) : Prop :=
  ((0 ≤ (gI u 14) → wp_X12_sum_p57 u P Q) ∧ (¬ 0 ≤ (gI u 14) → (wp_X12_look u (fun y12 u12 => ((y12 = (43 : Int32) → wp_X12_sum_p29 u12 B4 P Q) ∧ (¬ y12 = (43 : Int32) → (wp_X12_look u12 (fun y21 u21 => ((¬ y21 = (45 : Int32) → wp_X12_sum_p57 u21 P Q) ∧ (y21 = (45 : Int32) → wp_X12_sum_p29 u21 B4 P Q))))))))))
def wp_X12_sum_p4 (u : ST) (P : Nat → ST → (ST → Prop) → Prop) (Q : ST → Prop) : Prop := ∃ (I : ST → Prop) (μ : ST → Nat), I u ∧ ∀ (u : ST), I u → wp_X12_sum_p4b u (fun yu => I yu ∧ μ yu < μ u) P Q
def wp_X12_sum (u : ST) (P : Nat → ST → (ST → Prop) → Prop) (Q : ST → Prop) : Prop :=
  (P 1 u (fun u1 => wp_X12_sum_p4 u1 P Q))
set_option maxHeartbeats 4000000 in
set_option maxRecDepth 100000 in
theorem c_X12_sum (l : Launch) (D : va_G) (h : Nat) (r : Nat → Nat) (cs : Nat → ClassId) (d : Nat) (P : Nat → ST → (ST → Prop) → Prop) (hP0 : (∀ (u : ST) (Q : ST → Prop), P 0 u Q → mCv l yX12_operand wsX12_operand (rmS d) 0 0 D (mT cs) (W12 h r cs) [.ref h] u Q)) (hP1 : (∀ (u : ST) (Q : ST → Prop), P 1 u Q → mCv l yX12_product wsX12_product (rmS d) 0 0 D (mT cs) (W12 h r cs) [.ref h] u Q)) (hP2 : (∀ (u : ST) (Q : ST → Prop), P 2 u Q → mCv l yX12_sum wsX12_sum (rmS d) 0 0 D (mT cs) (W12 h r cs) [.ref h] u Q)) (hP3 : (∀ (u : ST) (Q : ST → Prop), P 3 u Q → mCv l yX12_compared wsX12_compared (rmS d) 0 0 D (mT cs) (W12 h r cs) [.ref h] u Q)) (hP4 : (∀ (u : ST) (Q : ST → Prop), P 4 u Q → mCv l yX12_both wsX12_both (rmS d) 0 0 D (mT cs) (W12 h r cs) [.ref h] u Q)) (hP5 : (∀ (u : ST) (Q : ST → Prop), P 5 u Q → mCv l yX12_either wsX12_either (rmS d) 0 0 D (mT cs) (W12 h r cs) [.ref h] u Q)) (u : ST) (Q : ST → Prop) (hw : wp_X12_sum u P Q) : mCv l yX12_sum wsX12_sum (rmS (d + 1)) 0 0 D (mT cs) (W12 h r cs) [.ref h] u Q := by
  unfold mCv
  refine m_enter (QQ := fun A => va_Qv Q (mPos D (mT cs) A (W12 h r cs)) A) (cc := cX12_sum) (maxL := 2) (ret := none) (by decide) rfl (Nat.le_of_ble_eq_true rfl) ?_
  intro p e s m args below meth c A ls S hr hlocks hname hl hI
  have S : CallFix p m c cX12_sum 2 s args wsX12_sum RX12 := S
  show W p l e (rmS (d + 1)) s m args below meth c s.heap [] 0 0 (MQ below (va_Qv Q (mPos D (mT cs) A (W12 h r cs)) A) args s 0 0 A) (F0 m 0 ls [])
  generalize hZ : MQ below (va_Qv Q (mPos D (mT cs) A (W12 h r cs)) A) args s 0 0 A = Z
  have hin : ∀ w ∈ wsX120, w ∈ wsX12_sum := fun _ h => List.mem_cons_of_mem _ (List.mem_append_right _ h)
  have hl : lv_has ls 2 [(0, .ref h)] := hl
  have b57 : ∀ (u : ST), wp_X12_sum_p57 u P Q → mGo p l e (rmS (d + 1)) s m args below meth c A Z 2 D (mT cs) (W12 h r cs) 57 [(0, .ref h)] [] u := by
    intro u hw H locs ls hI hl
    unfold wp_X12_sum_p57 at hw
    subst hZ
    exact m_vret S hr hlocks hI hw dX12_sum_57
  have b29 : ∀ (B4 : ST → Prop), (∀ (u : ST), B4 u → mGo p l e (rmS (d + 1)) s m args below meth c A Z 2 D (mT cs) (W12 h r cs) 4 [(0, .ref h)] [] u) → ∀ (u : ST), wp_X12_sum_p29 u B4 P Q → mGo p l e (rmS (d + 1)) s m args below meth c A Z 2 D (mT cs) (W12 h r cs) 29 [(0, .ref h)] [] u := by
    intro B4 hB4 u hw H locs ls hI hl
    unfold wp_X12_sum_p29 at hw
    refine lv_aload_n S.1 S.2.1 dX12_sum_29 rfl (lv_at hl 0 rfl) ?_
    refine m_vi (As := []) (rest := []) S (W12_self h r cs) hI rfl (c_X12_look l D h r cs u _ hw) (cwV 0 S.2.2.2.2 gX12_sum_X12_look rfl rfl rfl (by decide +kernel) ⟨by simp only [rmS]; omega, by simp only [rmS]; omega⟩) (W12_at0 h r cs u) rfl rfl hl.1 rfl (Nat.le_of_ble_eq_true rfl) dX12_sum_30 ⟨Nat.zero_le _, Nat.zero_le _⟩ (fun y30 u30 H locs hw hI => ?_)
    refine lv_istore_n (lv' := [(1, .int y30), (0, .ref h)]) S.1 S.2.1 dX12_sum_33 rfl hl (by decide) rfl (fun ls hl => ?_)
    refine lv_aload_n S.1 S.2.1 dX12_sum_34 rfl (lv_at hl 1 rfl) ?_
    refine lv_dup S.1 S.2.1 dX12_sum_35 rfl ?_
    refine m_get S hin hI 0 (W12_at0 h r cs u30) rfl 13 (Nat.le_of_ble_eq_true rfl) (List.mem_of_getElem? (i := 2) rfl) rfl (Ff12_at13 r u30) dX12_sum_36 ?_
    refine lv_iconst (v := 1) S.1 S.2.1 dX12_sum_39 (by decide) ?_
    refine lv_iadd S.1 S.2.1 dX12_sum_40 ?_
    refine lv_topi (fun y40 ey40 => ?_)
    have hw := hw y40 ey40
    obtain ⟨u41, eu41⟩ : ∃ z : ST, z = sI u30 13 y40 := ⟨_, rfl⟩
    have hw := hw u41 eu41
    refine m_put S hin tyX12_ok nmX12 hI 0 (W12_at0 h r cs u30) rfl 13 (Nat.le_of_ble_eq_true rfl) (List.mem_of_getElem? (i := 2) rfl) rfl rfl rfl rfl (Nat.le_of_ble_eq_true rfl) (W12_sI13 h r cs u30 u41 y40 eu41) dX12_sum_41 (fun H locs hI => ?_)
    refine lv_aload_n S.1 S.2.1 dX12_sum_44 rfl (lv_at hl 1 rfl) ?_
    refine m_vv (As := []) (rest := []) S (W12_self h r cs) hI rfl (hP1 u41 _ hw) (cwV 0 S.2.2.2.2 gX12_sum_X12_product rfl rfl rfl (by decide +kernel) ⟨by simp only [rmS]; omega, by simp only [rmS]; omega⟩) (W12_at0 h r cs u41) rfl rfl hl.1 rfl (Nat.le_of_ble_eq_true rfl) dX12_sum_45 ⟨Nat.zero_le _, Nat.zero_le _⟩ (fun u45 H locs hw hI => ?_)
    refine lv_aload_n S.1 S.2.1 dX12_sum_48 rfl (lv_at hl 1 rfl) ?_
    refine lv_iload_n S.1 S.2.1 dX12_sum_49 rfl (lv_at hl 0 rfl) ?_
    refine lv_iconst (v := 0) S.1 S.2.1 dX12_sum_50 (by decide) ?_
    refine m_vv (As := [.int y30, .int (0 : Int32)]) (rest := []) S (W12_self h r cs) hI rfl (c_X12_addStep l D h r cs y30 (0 : Int32) u45 _ hw) (cwV 2 S.2.2.2.2 gX12_sum_X12_addStep rfl rfl rfl (by decide +kernel) ⟨by simp only [rmS]; omega, by simp only [rmS]; omega⟩) (W12_at0 h r cs u45) rfl rfl hl.1 rfl (Nat.le_of_ble_eq_true rfl) dX12_sum_51 ⟨Nat.zero_le _, Nat.zero_le _⟩ (fun u51 H locs hw hI => ?_)
    refine lv_goto (tgt := 4) S.1 S.2.1 dX12_sum_54 (by decide) ?_
    exact hB4 u51 hw H locs ls hI (lv_sub hl [1] rfl)
  have b4b : ∀ (B4 : ST → Prop), (∀ (u : ST), B4 u → mGo p l e (rmS (d + 1)) s m args below meth c A Z 2 D (mT cs) (W12 h r cs) 4 [(0, .ref h)] [] u) → ∀ (u : ST), wp_X12_sum_p4b u B4 P Q → mGo p l e (rmS (d + 1)) s m args below meth c A Z 2 D (mT cs) (W12 h r cs) 4 [(0, .ref h)] [] u := by
    intro B4 hB4 u hw H locs ls hI hl
    unfold wp_X12_sum_p4b at hw
    refine lv_aload_n S.1 S.2.1 dX12_sum_4 rfl (lv_at hl 0 rfl) ?_
    refine m_get S hin hI 0 (W12_at0 h r cs u) rfl 14 (Nat.le_of_ble_eq_true rfl) (List.mem_of_getElem? (i := 1) rfl) rfl (Ff12_at14 r u) dX12_sum_5 ?_
    refine lv_if_ge (tgt := 57) S.1 S.2.1 dX12_sum_8 (by decide) (fun c8 => ?_) (fun c8 => ?_)
    · have hw := hw.1 c8
      exact b57 u hw H locs ls hI (lv_sub hl [0] rfl)
    · have hw := hw.2 c8
      refine lv_aload_n S.1 S.2.1 dX12_sum_11 rfl (lv_at hl 0 rfl) ?_
      refine m_vi (As := []) (rest := []) S (W12_self h r cs) hI rfl (c_X12_look l D h r cs u _ hw) (cwV 0 S.2.2.2.2 gX12_sum_X12_look rfl rfl rfl (by decide +kernel) ⟨by simp only [rmS]; omega, by simp only [rmS]; omega⟩) (W12_at0 h r cs u) rfl rfl hl.1 rfl (Nat.le_of_ble_eq_true rfl) dX12_sum_12 ⟨Nat.zero_le _, Nat.zero_le _⟩ (fun y12 u12 H locs hw hI => ?_)
      refine lv_bipush (v := 43) S.1 S.2.1 dX12_sum_15 (by decide) ?_
      refine lv_icmp_eq (tgt := 29) S.1 S.2.1 dX12_sum_17 (by decide) (fun c17 => ?_) (fun c17 => ?_)
      · have hw := hw.1 c17
        exact b29 B4 hB4 u12 hw H locs ls hI (lv_sub hl [0] rfl)
      · have hw := hw.2 c17
        refine lv_aload_n S.1 S.2.1 dX12_sum_20 rfl (lv_at hl 0 rfl) ?_
        refine m_vi (As := []) (rest := []) S (W12_self h r cs) hI rfl (c_X12_look l D h r cs u12 _ hw) (cwV 0 S.2.2.2.2 gX12_sum_X12_look rfl rfl rfl (by decide +kernel) ⟨by simp only [rmS]; omega, by simp only [rmS]; omega⟩) (W12_at0 h r cs u12) rfl rfl hl.1 rfl (Nat.le_of_ble_eq_true rfl) dX12_sum_21 ⟨Nat.zero_le _, Nat.zero_le _⟩ (fun y21 u21 H locs hw hI => ?_)
        refine lv_bipush (v := 45) S.1 S.2.1 dX12_sum_24 (by decide) ?_
        refine lv_icmp_ne (tgt := 57) S.1 S.2.1 dX12_sum_26 (by decide) (fun c26 => ?_) (fun c26 => ?_)
        · have hw := hw.1 c26
          exact b57 u21 hw H locs ls hI (lv_sub hl [0] rfl)
        · have hw := hw.2 c26
          exact b29 B4 hB4 u21 hw H locs ls hI (lv_sub hl [0] rfl)
  have b4 : ∀ (u : ST), wp_X12_sum_p4 u P Q → mGo p l e (rmS (d + 1)) s m args below meth c A Z 2 D (mT cs) (W12 h r cs) 4 [(0, .ref h)] [] u := by
    intro u hw
    obtain ⟨I, μ, h0, hs⟩ := hw
    have key : ∀ (n : Nat) (u : ST), μ u = n → I u → mGo p l e (rmS (d + 1)) s m args below meth c A Z 2 D (mT cs) (W12 h r cs) 4 [(0, .ref h)] [] u := by
      intro n
      induction n using Nat.strongRecOn with
      | ind n ih =>
        intro u hn hi
        exact b4b (fun yu => I yu ∧ μ yu < μ u) (fun yu hb => ih _ (hn ▸ hb.2) yu rfl hb.1) u (hs u hi)
    exact key _ u rfl h0
  unfold wp_X12_sum at hw
  obtain ⟨H, hH⟩ : ∃ z : Heap, z = s.heap := ⟨_, rfl⟩
  obtain ⟨locs, hL⟩ : ∃ z : List Loc, z = [] := ⟨_, rfl⟩
  rw [show W p l e (rmS (d + 1)) s m args below meth c s.heap [] 0 0 Z (F0 m 0 ls []) = W p l e (rmS (d + 1)) s m args below meth c H locs 0 0 Z (F0 m 0 ls []) by rw [hH, hL]]
  replace hI : mI D (mT cs) A s.heap s (W12 h r cs u) H locs := by rw [hH, hL]; exact hI
  refine lv_aload_n S.1 S.2.1 dX12_sum_0 rfl (lv_at hl 0 rfl) ?_
  refine m_vv (As := []) (rest := []) S (W12_self h r cs) hI rfl (hP1 u _ hw) (cwV 0 S.2.2.2.2 gX12_sum_X12_product rfl rfl rfl (by decide +kernel) ⟨by simp only [rmS]; omega, by simp only [rmS]; omega⟩) (W12_at0 h r cs u) rfl rfl hl.1 rfl (Nat.le_of_ble_eq_true rfl) dX12_sum_1 ⟨Nat.zero_le _, Nat.zero_le _⟩ (fun u1 H locs hw hI => ?_)
  exact b4 u1 hw H locs ls hI (lv_sub hl [0] rfl)

def wp_X12_compared_p34 (u : ST) (P : Nat → ST → (ST → Prop) → Prop) (Q : ST → Prop) : Prop :=
  Q u
def wp_X12_compared_p35 (x1 : Int32) (u : ST) (P : Nat → ST → (ST → Prop) → Prop) (Q : ST → Prop) : Prop :=
  (∀ y41 : Int32, y41 = (gI u 13) + (1 : Int32) → (∀ u42 : ST, u42 = sI u 13 y41 → (P 2 u42 (fun u46 => (wp_X12_addStep x1 (0 : Int32) u46 (fun u52 => Q u52))))))
def wp_X12_compared (u : ST) (P : Nat → ST → (ST → Prop) → Prop) (Q : ST → Prop) : Prop :=
  (P 2 u (fun u1 => (wp_X12_look u1 (fun y5 u5 => ((0 ≤ (gI u5 14) → wp_X12_compared_p34 u5 P Q) ∧ (¬ 0 ≤ (gI u5 14) → ((y5 = (60 : Int32) → wp_X12_compared_p35 y5 u5 P Q) ∧ (¬ y5 = (60 : Int32) → ((y5 = (61 : Int32) → wp_X12_compared_p35 y5 u5 P Q) ∧ (¬ y5 = (61 : Int32) → ((y5 = (62 : Int32) → wp_X12_compared_p35 y5 u5 P Q) ∧ (¬ y5 = (62 : Int32) → wp_X12_compared_p34 u5 P Q))))))))))))
set_option maxHeartbeats 4000000 in
set_option maxRecDepth 100000 in
theorem c_X12_compared (l : Launch) (D : va_G) (h : Nat) (r : Nat → Nat) (cs : Nat → ClassId) (d : Nat) (P : Nat → ST → (ST → Prop) → Prop) (hP0 : (∀ (u : ST) (Q : ST → Prop), P 0 u Q → mCv l yX12_operand wsX12_operand (rmS d) 0 0 D (mT cs) (W12 h r cs) [.ref h] u Q)) (hP1 : (∀ (u : ST) (Q : ST → Prop), P 1 u Q → mCv l yX12_product wsX12_product (rmS d) 0 0 D (mT cs) (W12 h r cs) [.ref h] u Q)) (hP2 : (∀ (u : ST) (Q : ST → Prop), P 2 u Q → mCv l yX12_sum wsX12_sum (rmS d) 0 0 D (mT cs) (W12 h r cs) [.ref h] u Q)) (hP3 : (∀ (u : ST) (Q : ST → Prop), P 3 u Q → mCv l yX12_compared wsX12_compared (rmS d) 0 0 D (mT cs) (W12 h r cs) [.ref h] u Q)) (hP4 : (∀ (u : ST) (Q : ST → Prop), P 4 u Q → mCv l yX12_both wsX12_both (rmS d) 0 0 D (mT cs) (W12 h r cs) [.ref h] u Q)) (hP5 : (∀ (u : ST) (Q : ST → Prop), P 5 u Q → mCv l yX12_either wsX12_either (rmS d) 0 0 D (mT cs) (W12 h r cs) [.ref h] u Q)) (u : ST) (Q : ST → Prop) (hw : wp_X12_compared u P Q) : mCv l yX12_compared wsX12_compared (rmS (d + 1)) 0 0 D (mT cs) (W12 h r cs) [.ref h] u Q := by
  unfold mCv
  refine m_enter (QQ := fun A => va_Qv Q (mPos D (mT cs) A (W12 h r cs)) A) (cc := cX12_compared) (maxL := 2) (ret := none) (by decide) rfl (Nat.le_of_ble_eq_true rfl) ?_
  intro p e s m args below meth c A ls S hr hlocks hname hl hI
  have S : CallFix p m c cX12_compared 2 s args wsX12_compared RX12 := S
  show W p l e (rmS (d + 1)) s m args below meth c s.heap [] 0 0 (MQ below (va_Qv Q (mPos D (mT cs) A (W12 h r cs)) A) args s 0 0 A) (F0 m 0 ls [])
  generalize hZ : MQ below (va_Qv Q (mPos D (mT cs) A (W12 h r cs)) A) args s 0 0 A = Z
  have hin : ∀ w ∈ wsX120, w ∈ wsX12_compared := fun _ h => List.mem_cons_of_mem _ (List.mem_append_right _ h)
  have hl : lv_has ls 2 [(0, .ref h)] := hl
  have b34 : ∀ (u : ST), wp_X12_compared_p34 u P Q → mGo p l e (rmS (d + 1)) s m args below meth c A Z 2 D (mT cs) (W12 h r cs) 34 [(0, .ref h)] [] u := by
    intro u hw H locs ls hI hl
    unfold wp_X12_compared_p34 at hw
    subst hZ
    exact m_vret S hr hlocks hI hw dX12_compared_34
  have b35 : ∀ (x1 : Int32) (u : ST), wp_X12_compared_p35 x1 u P Q → mGo p l e (rmS (d + 1)) s m args below meth c A Z 2 D (mT cs) (W12 h r cs) 35 [(0, .ref h), (1, .int x1)] [] u := by
    intro x1 u hw H locs ls hI hl
    unfold wp_X12_compared_p35 at hw
    refine lv_aload_n S.1 S.2.1 dX12_compared_35 rfl (lv_at hl 0 rfl) ?_
    refine lv_dup S.1 S.2.1 dX12_compared_36 rfl ?_
    refine m_get S hin hI 0 (W12_at0 h r cs u) rfl 13 (Nat.le_of_ble_eq_true rfl) (List.mem_of_getElem? (i := 2) rfl) rfl (Ff12_at13 r u) dX12_compared_37 ?_
    refine lv_iconst (v := 1) S.1 S.2.1 dX12_compared_40 (by decide) ?_
    refine lv_iadd S.1 S.2.1 dX12_compared_41 ?_
    refine lv_topi (fun y41 ey41 => ?_)
    have hw := hw y41 ey41
    obtain ⟨u42, eu42⟩ : ∃ z : ST, z = sI u 13 y41 := ⟨_, rfl⟩
    have hw := hw u42 eu42
    refine m_put S hin tyX12_ok nmX12 hI 0 (W12_at0 h r cs u) rfl 13 (Nat.le_of_ble_eq_true rfl) (List.mem_of_getElem? (i := 2) rfl) rfl rfl rfl rfl (Nat.le_of_ble_eq_true rfl) (W12_sI13 h r cs u u42 y41 eu42) dX12_compared_42 (fun H locs hI => ?_)
    refine lv_aload_n S.1 S.2.1 dX12_compared_45 rfl (lv_at hl 0 rfl) ?_
    refine m_vv (As := []) (rest := []) S (W12_self h r cs) hI rfl (hP2 u42 _ hw) (cwV 0 S.2.2.2.2 gX12_compared_X12_sum rfl rfl rfl (by decide +kernel) ⟨by simp only [rmS]; omega, by simp only [rmS]; omega⟩) (W12_at0 h r cs u42) rfl rfl hl.1 rfl (Nat.le_of_ble_eq_true rfl) dX12_compared_46 ⟨Nat.zero_le _, Nat.zero_le _⟩ (fun u46 H locs hw hI => ?_)
    refine lv_aload_n S.1 S.2.1 dX12_compared_49 rfl (lv_at hl 0 rfl) ?_
    refine lv_iload_n S.1 S.2.1 dX12_compared_50 rfl (lv_at hl 1 rfl) ?_
    refine lv_iconst (v := 0) S.1 S.2.1 dX12_compared_51 (by decide) ?_
    refine m_vv (As := [.int x1, .int (0 : Int32)]) (rest := []) S (W12_self h r cs) hI rfl (c_X12_addStep l D h r cs x1 (0 : Int32) u46 _ hw) (cwV 2 S.2.2.2.2 gX12_compared_X12_addStep rfl rfl rfl (by decide +kernel) ⟨by simp only [rmS]; omega, by simp only [rmS]; omega⟩) (W12_at0 h r cs u46) rfl rfl hl.1 rfl (Nat.le_of_ble_eq_true rfl) dX12_compared_52 ⟨Nat.zero_le _, Nat.zero_le _⟩ (fun u52 H locs hw hI => ?_)
    subst hZ
    exact m_vret S hr hlocks hI hw dX12_compared_55
  unfold wp_X12_compared at hw
  obtain ⟨H, hH⟩ : ∃ z : Heap, z = s.heap := ⟨_, rfl⟩
  obtain ⟨locs, hL⟩ : ∃ z : List Loc, z = [] := ⟨_, rfl⟩
  rw [show W p l e (rmS (d + 1)) s m args below meth c s.heap [] 0 0 Z (F0 m 0 ls []) = W p l e (rmS (d + 1)) s m args below meth c H locs 0 0 Z (F0 m 0 ls []) by rw [hH, hL]]
  replace hI : mI D (mT cs) A s.heap s (W12 h r cs u) H locs := by rw [hH, hL]; exact hI
  refine lv_aload_n S.1 S.2.1 dX12_compared_0 rfl (lv_at hl 0 rfl) ?_
  refine m_vv (As := []) (rest := []) S (W12_self h r cs) hI rfl (hP2 u _ hw) (cwV 0 S.2.2.2.2 gX12_compared_X12_sum rfl rfl rfl (by decide +kernel) ⟨by simp only [rmS]; omega, by simp only [rmS]; omega⟩) (W12_at0 h r cs u) rfl rfl hl.1 rfl (Nat.le_of_ble_eq_true rfl) dX12_compared_1 ⟨Nat.zero_le _, Nat.zero_le _⟩ (fun u1 H locs hw hI => ?_)
  refine lv_aload_n S.1 S.2.1 dX12_compared_4 rfl (lv_at hl 0 rfl) ?_
  refine m_vi (As := []) (rest := []) S (W12_self h r cs) hI rfl (c_X12_look l D h r cs u1 _ hw) (cwV 0 S.2.2.2.2 gX12_compared_X12_look rfl rfl rfl (by decide +kernel) ⟨by simp only [rmS]; omega, by simp only [rmS]; omega⟩) (W12_at0 h r cs u1) rfl rfl hl.1 rfl (Nat.le_of_ble_eq_true rfl) dX12_compared_5 ⟨Nat.zero_le _, Nat.zero_le _⟩ (fun y5 u5 H locs hw hI => ?_)
  refine lv_istore_n (lv' := [(1, .int y5), (0, .ref h)]) S.1 S.2.1 dX12_compared_8 rfl hl (by decide) rfl (fun ls hl => ?_)
  refine lv_aload_n S.1 S.2.1 dX12_compared_9 rfl (lv_at hl 1 rfl) ?_
  refine m_get S hin hI 0 (W12_at0 h r cs u5) rfl 14 (Nat.le_of_ble_eq_true rfl) (List.mem_of_getElem? (i := 1) rfl) rfl (Ff12_at14 r u5) dX12_compared_10 ?_
  refine lv_if_ge (tgt := 34) S.1 S.2.1 dX12_compared_13 (by decide) (fun c13 => ?_) (fun c13 => ?_)
  · have hw := hw.1 c13
    exact b34 u5 hw H locs ls hI (lv_sub hl [1] rfl)
  · have hw := hw.2 c13
    refine lv_iload_n S.1 S.2.1 dX12_compared_16 rfl (lv_at hl 0 rfl) ?_
    refine lv_bipush (v := 60) S.1 S.2.1 dX12_compared_17 (by decide) ?_
    refine lv_icmp_eq (tgt := 35) S.1 S.2.1 dX12_compared_19 (by decide) (fun c19 => ?_) (fun c19 => ?_)
    · have hw := hw.1 c19
      exact b35 y5 u5 hw H locs ls hI (lv_sub hl [1, 0] rfl)
    · have hw := hw.2 c19
      refine lv_iload_n S.1 S.2.1 dX12_compared_22 rfl (lv_at hl 0 rfl) ?_
      refine lv_bipush (v := 61) S.1 S.2.1 dX12_compared_23 (by decide) ?_
      refine lv_icmp_eq (tgt := 35) S.1 S.2.1 dX12_compared_25 (by decide) (fun c25 => ?_) (fun c25 => ?_)
      · have hw := hw.1 c25
        exact b35 y5 u5 hw H locs ls hI (lv_sub hl [1, 0] rfl)
      · have hw := hw.2 c25
        refine lv_iload_n S.1 S.2.1 dX12_compared_28 rfl (lv_at hl 0 rfl) ?_
        refine lv_bipush (v := 62) S.1 S.2.1 dX12_compared_29 (by decide) ?_
        refine lv_icmp_eq (tgt := 35) S.1 S.2.1 dX12_compared_31 (by decide) (fun c31 => ?_) (fun c31 => ?_)
        · have hw := hw.1 c31
          exact b35 y5 u5 hw H locs ls hI (lv_sub hl [1, 0] rfl)
        · have hw := hw.2 c31
          exact b34 u5 hw H locs ls hI (lv_sub hl [1] rfl)

def wp_X12_both_p44 (u : ST) (P : Nat → ST → (ST → Prop) → Prop) (Q : ST → Prop) : Prop :=
  Q u
def wp_X12_both_p4b (u : ST) (B4 : ST → Prop) (P : Nat → ST → (ST → Prop) → Prop) (Q : ST → Prop) : Prop :=
  ((0 ≤ (gI u 14) → wp_X12_both_p44 u P Q) ∧ (¬ 0 ≤ (gI u 14) → (wp_X12_look u (fun y12 u12 => ((¬ y12 = (38 : Int32) → wp_X12_both_p44 u12 P Q) ∧ (y12 = (38 : Int32) → (∀ y26 : Int32, y26 = (gI u12 13) + (1 : Int32) → (∀ u27 : ST, u27 = sI u12 13 y26 → (P 3 u27 (fun u31 => (wp_X12_addStep (38 : Int32) (0 : Int32) u31 (fun u38 => B4 u38))))))))))))
def wp_X12_both_p4 (u : ST) (P : Nat → ST → (ST → Prop) → Prop) (Q : ST → Prop) : Prop := ∃ (I : ST → Prop) (μ : ST → Nat), I u ∧ ∀ (u : ST), I u → wp_X12_both_p4b u (fun yu => I yu ∧ μ yu < μ u) P Q
def wp_X12_both (u : ST) (P : Nat → ST → (ST → Prop) → Prop) (Q : ST → Prop) : Prop :=
  (P 3 u (fun u1 => wp_X12_both_p4 u1 P Q))
set_option maxHeartbeats 4000000 in
set_option maxRecDepth 100000 in
theorem c_X12_both (l : Launch) (D : va_G) (h : Nat) (r : Nat → Nat) (cs : Nat → ClassId) (d : Nat) (P : Nat → ST → (ST → Prop) → Prop) (hP0 : (∀ (u : ST) (Q : ST → Prop), P 0 u Q → mCv l yX12_operand wsX12_operand (rmS d) 0 0 D (mT cs) (W12 h r cs) [.ref h] u Q)) (hP1 : (∀ (u : ST) (Q : ST → Prop), P 1 u Q → mCv l yX12_product wsX12_product (rmS d) 0 0 D (mT cs) (W12 h r cs) [.ref h] u Q)) (hP2 : (∀ (u : ST) (Q : ST → Prop), P 2 u Q → mCv l yX12_sum wsX12_sum (rmS d) 0 0 D (mT cs) (W12 h r cs) [.ref h] u Q)) (hP3 : (∀ (u : ST) (Q : ST → Prop), P 3 u Q → mCv l yX12_compared wsX12_compared (rmS d) 0 0 D (mT cs) (W12 h r cs) [.ref h] u Q)) (hP4 : (∀ (u : ST) (Q : ST → Prop), P 4 u Q → mCv l yX12_both wsX12_both (rmS d) 0 0 D (mT cs) (W12 h r cs) [.ref h] u Q)) (hP5 : (∀ (u : ST) (Q : ST → Prop), P 5 u Q → mCv l yX12_either wsX12_either (rmS d) 0 0 D (mT cs) (W12 h r cs) [.ref h] u Q)) (u : ST) (Q : ST → Prop) (hw : wp_X12_both u P Q) : mCv l yX12_both wsX12_both (rmS (d + 1)) 0 0 D (mT cs) (W12 h r cs) [.ref h] u Q := by
  unfold mCv
  refine m_enter (QQ := fun A => va_Qv Q (mPos D (mT cs) A (W12 h r cs)) A) (cc := cX12_both) (maxL := 1) (ret := none) (by decide) rfl (Nat.le_of_ble_eq_true rfl) ?_
  intro p e s m args below meth c A ls S hr hlocks hname hl hI
  have S : CallFix p m c cX12_both 1 s args wsX12_both RX12 := S
  show W p l e (rmS (d + 1)) s m args below meth c s.heap [] 0 0 (MQ below (va_Qv Q (mPos D (mT cs) A (W12 h r cs)) A) args s 0 0 A) (F0 m 0 ls [])
  generalize hZ : MQ below (va_Qv Q (mPos D (mT cs) A (W12 h r cs)) A) args s 0 0 A = Z
  have hin : ∀ w ∈ wsX120, w ∈ wsX12_both := fun _ h => List.mem_cons_of_mem _ (List.mem_append_right _ h)
  have hl : lv_has ls 1 [(0, .ref h)] := hl
  have b44 : ∀ (u : ST), wp_X12_both_p44 u P Q → mGo p l e (rmS (d + 1)) s m args below meth c A Z 1 D (mT cs) (W12 h r cs) 44 [(0, .ref h)] [] u := by
    intro u hw H locs ls hI hl
    unfold wp_X12_both_p44 at hw
    subst hZ
    exact m_vret S hr hlocks hI hw dX12_both_44
  have b4b : ∀ (B4 : ST → Prop), (∀ (u : ST), B4 u → mGo p l e (rmS (d + 1)) s m args below meth c A Z 1 D (mT cs) (W12 h r cs) 4 [(0, .ref h)] [] u) → ∀ (u : ST), wp_X12_both_p4b u B4 P Q → mGo p l e (rmS (d + 1)) s m args below meth c A Z 1 D (mT cs) (W12 h r cs) 4 [(0, .ref h)] [] u := by
    intro B4 hB4 u hw H locs ls hI hl
    unfold wp_X12_both_p4b at hw
    refine lv_aload_n S.1 S.2.1 dX12_both_4 rfl (lv_at hl 0 rfl) ?_
    refine m_get S hin hI 0 (W12_at0 h r cs u) rfl 14 (Nat.le_of_ble_eq_true rfl) (List.mem_of_getElem? (i := 1) rfl) rfl (Ff12_at14 r u) dX12_both_5 ?_
    refine lv_if_ge (tgt := 44) S.1 S.2.1 dX12_both_8 (by decide) (fun c8 => ?_) (fun c8 => ?_)
    · have hw := hw.1 c8
      exact b44 u hw H locs ls hI (lv_sub hl [0] rfl)
    · have hw := hw.2 c8
      refine lv_aload_n S.1 S.2.1 dX12_both_11 rfl (lv_at hl 0 rfl) ?_
      refine m_vi (As := []) (rest := []) S (W12_self h r cs) hI rfl (c_X12_look l D h r cs u _ hw) (cwV 0 S.2.2.2.2 gX12_both_X12_look rfl rfl rfl (by decide +kernel) ⟨by simp only [rmS]; omega, by simp only [rmS]; omega⟩) (W12_at0 h r cs u) rfl rfl hl.1 rfl (Nat.le_of_ble_eq_true rfl) dX12_both_12 ⟨Nat.zero_le _, Nat.zero_le _⟩ (fun y12 u12 H locs hw hI => ?_)
      refine lv_bipush (v := 38) S.1 S.2.1 dX12_both_15 (by decide) ?_
      refine lv_icmp_ne (tgt := 44) S.1 S.2.1 dX12_both_17 (by decide) (fun c17 => ?_) (fun c17 => ?_)
      · have hw := hw.1 c17
        exact b44 u12 hw H locs ls hI (lv_sub hl [0] rfl)
      · have hw := hw.2 c17
        refine lv_aload_n S.1 S.2.1 dX12_both_20 rfl (lv_at hl 0 rfl) ?_
        refine lv_dup S.1 S.2.1 dX12_both_21 rfl ?_
        refine m_get S hin hI 0 (W12_at0 h r cs u12) rfl 13 (Nat.le_of_ble_eq_true rfl) (List.mem_of_getElem? (i := 2) rfl) rfl (Ff12_at13 r u12) dX12_both_22 ?_
        refine lv_iconst (v := 1) S.1 S.2.1 dX12_both_25 (by decide) ?_
        refine lv_iadd S.1 S.2.1 dX12_both_26 ?_
        refine lv_topi (fun y26 ey26 => ?_)
        have hw := hw y26 ey26
        obtain ⟨u27, eu27⟩ : ∃ z : ST, z = sI u12 13 y26 := ⟨_, rfl⟩
        have hw := hw u27 eu27
        refine m_put S hin tyX12_ok nmX12 hI 0 (W12_at0 h r cs u12) rfl 13 (Nat.le_of_ble_eq_true rfl) (List.mem_of_getElem? (i := 2) rfl) rfl rfl rfl rfl (Nat.le_of_ble_eq_true rfl) (W12_sI13 h r cs u12 u27 y26 eu27) dX12_both_27 (fun H locs hI => ?_)
        refine lv_aload_n S.1 S.2.1 dX12_both_30 rfl (lv_at hl 0 rfl) ?_
        refine m_vv (As := []) (rest := []) S (W12_self h r cs) hI rfl (hP3 u27 _ hw) (cwV 0 S.2.2.2.2 gX12_both_X12_compared rfl rfl rfl (by decide +kernel) ⟨by simp only [rmS]; omega, by simp only [rmS]; omega⟩) (W12_at0 h r cs u27) rfl rfl hl.1 rfl (Nat.le_of_ble_eq_true rfl) dX12_both_31 ⟨Nat.zero_le _, Nat.zero_le _⟩ (fun u31 H locs hw hI => ?_)
        refine lv_aload_n S.1 S.2.1 dX12_both_34 rfl (lv_at hl 0 rfl) ?_
        refine lv_bipush (v := 38) S.1 S.2.1 dX12_both_35 (by decide) ?_
        refine lv_iconst (v := 0) S.1 S.2.1 dX12_both_37 (by decide) ?_
        refine m_vv (As := [.int (38 : Int32), .int (0 : Int32)]) (rest := []) S (W12_self h r cs) hI rfl (c_X12_addStep l D h r cs (38 : Int32) (0 : Int32) u31 _ hw) (cwV 2 S.2.2.2.2 gX12_both_X12_addStep rfl rfl rfl (by decide +kernel) ⟨by simp only [rmS]; omega, by simp only [rmS]; omega⟩) (W12_at0 h r cs u31) rfl rfl hl.1 rfl (Nat.le_of_ble_eq_true rfl) dX12_both_38 ⟨Nat.zero_le _, Nat.zero_le _⟩ (fun u38 H locs hw hI => ?_)
        refine lv_goto (tgt := 4) S.1 S.2.1 dX12_both_41 (by decide) ?_
        exact hB4 u38 hw H locs ls hI (lv_sub hl [0] rfl)
  have b4 : ∀ (u : ST), wp_X12_both_p4 u P Q → mGo p l e (rmS (d + 1)) s m args below meth c A Z 1 D (mT cs) (W12 h r cs) 4 [(0, .ref h)] [] u := by
    intro u hw
    obtain ⟨I, μ, h0, hs⟩ := hw
    have key : ∀ (n : Nat) (u : ST), μ u = n → I u → mGo p l e (rmS (d + 1)) s m args below meth c A Z 1 D (mT cs) (W12 h r cs) 4 [(0, .ref h)] [] u := by
      intro n
      induction n using Nat.strongRecOn with
      | ind n ih =>
        intro u hn hi
        exact b4b (fun yu => I yu ∧ μ yu < μ u) (fun yu hb => ih _ (hn ▸ hb.2) yu rfl hb.1) u (hs u hi)
    exact key _ u rfl h0
  unfold wp_X12_both at hw
  obtain ⟨H, hH⟩ : ∃ z : Heap, z = s.heap := ⟨_, rfl⟩
  obtain ⟨locs, hL⟩ : ∃ z : List Loc, z = [] := ⟨_, rfl⟩
  rw [show W p l e (rmS (d + 1)) s m args below meth c s.heap [] 0 0 Z (F0 m 0 ls []) = W p l e (rmS (d + 1)) s m args below meth c H locs 0 0 Z (F0 m 0 ls []) by rw [hH, hL]]
  replace hI : mI D (mT cs) A s.heap s (W12 h r cs u) H locs := by rw [hH, hL]; exact hI
  refine lv_aload_n S.1 S.2.1 dX12_both_0 rfl (lv_at hl 0 rfl) ?_
  refine m_vv (As := []) (rest := []) S (W12_self h r cs) hI rfl (hP3 u _ hw) (cwV 0 S.2.2.2.2 gX12_both_X12_compared rfl rfl rfl (by decide +kernel) ⟨by simp only [rmS]; omega, by simp only [rmS]; omega⟩) (W12_at0 h r cs u) rfl rfl hl.1 rfl (Nat.le_of_ble_eq_true rfl) dX12_both_1 ⟨Nat.zero_le _, Nat.zero_le _⟩ (fun u1 H locs hw hI => ?_)
  exact b4 u1 hw H locs ls hI (lv_sub hl [0] rfl)

def wp_X12_either_p44 (u : ST) (P : Nat → ST → (ST → Prop) → Prop) (Q : ST → Prop) : Prop :=
  Q u
def wp_X12_either_p4b (u : ST) (B4 : ST → Prop) (P : Nat → ST → (ST → Prop) → Prop) (Q : ST → Prop) : Prop :=
  ((0 ≤ (gI u 14) → wp_X12_either_p44 u P Q) ∧ (¬ 0 ≤ (gI u 14) → (wp_X12_look u (fun y12 u12 => ((¬ y12 = (124 : Int32) → wp_X12_either_p44 u12 P Q) ∧ (y12 = (124 : Int32) → (∀ y26 : Int32, y26 = (gI u12 13) + (1 : Int32) → (∀ u27 : ST, u27 = sI u12 13 y26 → (P 4 u27 (fun u31 => (wp_X12_addStep (124 : Int32) (0 : Int32) u31 (fun u38 => B4 u38))))))))))))
def wp_X12_either_p4 (u : ST) (P : Nat → ST → (ST → Prop) → Prop) (Q : ST → Prop) : Prop := ∃ (I : ST → Prop) (μ : ST → Nat), I u ∧ ∀ (u : ST), I u → wp_X12_either_p4b u (fun yu => I yu ∧ μ yu < μ u) P Q
def wp_X12_either (u : ST) (P : Nat → ST → (ST → Prop) → Prop) (Q : ST → Prop) : Prop :=
  (P 4 u (fun u1 => wp_X12_either_p4 u1 P Q))
set_option maxHeartbeats 4000000 in
set_option maxRecDepth 100000 in
theorem c_X12_either (l : Launch) (D : va_G) (h : Nat) (r : Nat → Nat) (cs : Nat → ClassId) (d : Nat) (P : Nat → ST → (ST → Prop) → Prop) (hP0 : (∀ (u : ST) (Q : ST → Prop), P 0 u Q → mCv l yX12_operand wsX12_operand (rmS d) 0 0 D (mT cs) (W12 h r cs) [.ref h] u Q)) (hP1 : (∀ (u : ST) (Q : ST → Prop), P 1 u Q → mCv l yX12_product wsX12_product (rmS d) 0 0 D (mT cs) (W12 h r cs) [.ref h] u Q)) (hP2 : (∀ (u : ST) (Q : ST → Prop), P 2 u Q → mCv l yX12_sum wsX12_sum (rmS d) 0 0 D (mT cs) (W12 h r cs) [.ref h] u Q)) (hP3 : (∀ (u : ST) (Q : ST → Prop), P 3 u Q → mCv l yX12_compared wsX12_compared (rmS d) 0 0 D (mT cs) (W12 h r cs) [.ref h] u Q)) (hP4 : (∀ (u : ST) (Q : ST → Prop), P 4 u Q → mCv l yX12_both wsX12_both (rmS d) 0 0 D (mT cs) (W12 h r cs) [.ref h] u Q)) (hP5 : (∀ (u : ST) (Q : ST → Prop), P 5 u Q → mCv l yX12_either wsX12_either (rmS d) 0 0 D (mT cs) (W12 h r cs) [.ref h] u Q)) (u : ST) (Q : ST → Prop) (hw : wp_X12_either u P Q) : mCv l yX12_either wsX12_either (rmS (d + 1)) 0 0 D (mT cs) (W12 h r cs) [.ref h] u Q := by
  unfold mCv
  refine m_enter (QQ := fun A => va_Qv Q (mPos D (mT cs) A (W12 h r cs)) A) (cc := cX12_either) (maxL := 1) (ret := none) (by decide) rfl (Nat.le_of_ble_eq_true rfl) ?_
  intro p e s m args below meth c A ls S hr hlocks hname hl hI
  have S : CallFix p m c cX12_either 1 s args wsX12_either RX12 := S
  show W p l e (rmS (d + 1)) s m args below meth c s.heap [] 0 0 (MQ below (va_Qv Q (mPos D (mT cs) A (W12 h r cs)) A) args s 0 0 A) (F0 m 0 ls [])
  generalize hZ : MQ below (va_Qv Q (mPos D (mT cs) A (W12 h r cs)) A) args s 0 0 A = Z
  have hin : ∀ w ∈ wsX120, w ∈ wsX12_either := fun _ h => List.mem_cons_of_mem _ (List.mem_append_right _ h)
  have hl : lv_has ls 1 [(0, .ref h)] := hl
  have b44 : ∀ (u : ST), wp_X12_either_p44 u P Q → mGo p l e (rmS (d + 1)) s m args below meth c A Z 1 D (mT cs) (W12 h r cs) 44 [(0, .ref h)] [] u := by
    intro u hw H locs ls hI hl
    unfold wp_X12_either_p44 at hw
    subst hZ
    exact m_vret S hr hlocks hI hw dX12_either_44
  have b4b : ∀ (B4 : ST → Prop), (∀ (u : ST), B4 u → mGo p l e (rmS (d + 1)) s m args below meth c A Z 1 D (mT cs) (W12 h r cs) 4 [(0, .ref h)] [] u) → ∀ (u : ST), wp_X12_either_p4b u B4 P Q → mGo p l e (rmS (d + 1)) s m args below meth c A Z 1 D (mT cs) (W12 h r cs) 4 [(0, .ref h)] [] u := by
    intro B4 hB4 u hw H locs ls hI hl
    unfold wp_X12_either_p4b at hw
    refine lv_aload_n S.1 S.2.1 dX12_either_4 rfl (lv_at hl 0 rfl) ?_
    refine m_get S hin hI 0 (W12_at0 h r cs u) rfl 14 (Nat.le_of_ble_eq_true rfl) (List.mem_of_getElem? (i := 1) rfl) rfl (Ff12_at14 r u) dX12_either_5 ?_
    refine lv_if_ge (tgt := 44) S.1 S.2.1 dX12_either_8 (by decide) (fun c8 => ?_) (fun c8 => ?_)
    · have hw := hw.1 c8
      exact b44 u hw H locs ls hI (lv_sub hl [0] rfl)
    · have hw := hw.2 c8
      refine lv_aload_n S.1 S.2.1 dX12_either_11 rfl (lv_at hl 0 rfl) ?_
      refine m_vi (As := []) (rest := []) S (W12_self h r cs) hI rfl (c_X12_look l D h r cs u _ hw) (cwV 0 S.2.2.2.2 gX12_either_X12_look rfl rfl rfl (by decide +kernel) ⟨by simp only [rmS]; omega, by simp only [rmS]; omega⟩) (W12_at0 h r cs u) rfl rfl hl.1 rfl (Nat.le_of_ble_eq_true rfl) dX12_either_12 ⟨Nat.zero_le _, Nat.zero_le _⟩ (fun y12 u12 H locs hw hI => ?_)
      refine lv_bipush (v := 124) S.1 S.2.1 dX12_either_15 (by decide) ?_
      refine lv_icmp_ne (tgt := 44) S.1 S.2.1 dX12_either_17 (by decide) (fun c17 => ?_) (fun c17 => ?_)
      · have hw := hw.1 c17
        exact b44 u12 hw H locs ls hI (lv_sub hl [0] rfl)
      · have hw := hw.2 c17
        refine lv_aload_n S.1 S.2.1 dX12_either_20 rfl (lv_at hl 0 rfl) ?_
        refine lv_dup S.1 S.2.1 dX12_either_21 rfl ?_
        refine m_get S hin hI 0 (W12_at0 h r cs u12) rfl 13 (Nat.le_of_ble_eq_true rfl) (List.mem_of_getElem? (i := 2) rfl) rfl (Ff12_at13 r u12) dX12_either_22 ?_
        refine lv_iconst (v := 1) S.1 S.2.1 dX12_either_25 (by decide) ?_
        refine lv_iadd S.1 S.2.1 dX12_either_26 ?_
        refine lv_topi (fun y26 ey26 => ?_)
        have hw := hw y26 ey26
        obtain ⟨u27, eu27⟩ : ∃ z : ST, z = sI u12 13 y26 := ⟨_, rfl⟩
        have hw := hw u27 eu27
        refine m_put S hin tyX12_ok nmX12 hI 0 (W12_at0 h r cs u12) rfl 13 (Nat.le_of_ble_eq_true rfl) (List.mem_of_getElem? (i := 2) rfl) rfl rfl rfl rfl (Nat.le_of_ble_eq_true rfl) (W12_sI13 h r cs u12 u27 y26 eu27) dX12_either_27 (fun H locs hI => ?_)
        refine lv_aload_n S.1 S.2.1 dX12_either_30 rfl (lv_at hl 0 rfl) ?_
        refine m_vv (As := []) (rest := []) S (W12_self h r cs) hI rfl (hP4 u27 _ hw) (cwV 0 S.2.2.2.2 gX12_either_X12_both rfl rfl rfl (by decide +kernel) ⟨by simp only [rmS]; omega, by simp only [rmS]; omega⟩) (W12_at0 h r cs u27) rfl rfl hl.1 rfl (Nat.le_of_ble_eq_true rfl) dX12_either_31 ⟨Nat.zero_le _, Nat.zero_le _⟩ (fun u31 H locs hw hI => ?_)
        refine lv_aload_n S.1 S.2.1 dX12_either_34 rfl (lv_at hl 0 rfl) ?_
        refine lv_bipush (v := 124) S.1 S.2.1 dX12_either_35 (by decide) ?_
        refine lv_iconst (v := 0) S.1 S.2.1 dX12_either_37 (by decide) ?_
        refine m_vv (As := [.int (124 : Int32), .int (0 : Int32)]) (rest := []) S (W12_self h r cs) hI rfl (c_X12_addStep l D h r cs (124 : Int32) (0 : Int32) u31 _ hw) (cwV 2 S.2.2.2.2 gX12_either_X12_addStep rfl rfl rfl (by decide +kernel) ⟨by simp only [rmS]; omega, by simp only [rmS]; omega⟩) (W12_at0 h r cs u31) rfl rfl hl.1 rfl (Nat.le_of_ble_eq_true rfl) dX12_either_38 ⟨Nat.zero_le _, Nat.zero_le _⟩ (fun u38 H locs hw hI => ?_)
        refine lv_goto (tgt := 4) S.1 S.2.1 dX12_either_41 (by decide) ?_
        exact hB4 u38 hw H locs ls hI (lv_sub hl [0] rfl)
  have b4 : ∀ (u : ST), wp_X12_either_p4 u P Q → mGo p l e (rmS (d + 1)) s m args below meth c A Z 1 D (mT cs) (W12 h r cs) 4 [(0, .ref h)] [] u := by
    intro u hw
    obtain ⟨I, μ, h0, hs⟩ := hw
    have key : ∀ (n : Nat) (u : ST), μ u = n → I u → mGo p l e (rmS (d + 1)) s m args below meth c A Z 1 D (mT cs) (W12 h r cs) 4 [(0, .ref h)] [] u := by
      intro n
      induction n using Nat.strongRecOn with
      | ind n ih =>
        intro u hn hi
        exact b4b (fun yu => I yu ∧ μ yu < μ u) (fun yu hb => ih _ (hn ▸ hb.2) yu rfl hb.1) u (hs u hi)
    exact key _ u rfl h0
  unfold wp_X12_either at hw
  obtain ⟨H, hH⟩ : ∃ z : Heap, z = s.heap := ⟨_, rfl⟩
  obtain ⟨locs, hL⟩ : ∃ z : List Loc, z = [] := ⟨_, rfl⟩
  rw [show W p l e (rmS (d + 1)) s m args below meth c s.heap [] 0 0 Z (F0 m 0 ls []) = W p l e (rmS (d + 1)) s m args below meth c H locs 0 0 Z (F0 m 0 ls []) by rw [hH, hL]]
  replace hI : mI D (mT cs) A s.heap s (W12 h r cs u) H locs := by rw [hH, hL]; exact hI
  refine lv_aload_n S.1 S.2.1 dX12_either_0 rfl (lv_at hl 0 rfl) ?_
  refine m_vv (As := []) (rest := []) S (W12_self h r cs) hI rfl (hP4 u _ hw) (cwV 0 S.2.2.2.2 gX12_either_X12_both rfl rfl rfl (by decide +kernel) ⟨by simp only [rmS]; omega, by simp only [rmS]; omega⟩) (W12_at0 h r cs u) rfl rfl hl.1 rfl (Nat.le_of_ble_eq_true rfl) dX12_either_1 ⟨Nat.zero_le _, Nat.zero_le _⟩ (fun u1 H locs hw hI => ?_)
  exact b4 u1 hw H locs ls hI (lv_sub hl [0] rfl)

def wp_X12_operand_p154 (u : ST) (P : Nat → ST → (ST → Prop) → Prop) (Q : ST → Prop) : Prop :=
  Q u
def wp_X12_operand_p80 (t1 : Int32) (u : ST) (P : Nat → ST → (ST → Prop) → Prop) (Q : ST → Prop) : Prop :=
  (wp_X12_addStep t1 (0 : Int32) u (fun u81 => wp_X12_operand_p154 u81 P Q))
def wp_X12_operand_p46 (x1 : Int32) (u : ST) (P : Nat → ST → (ST → Prop) → Prop) (Q : ST → Prop) : Prop :=
  (wp_X12_opens u (fun y47 u47 => ((¬ y47 = 0 → (P 0 u47 (fun u55 => (∀ y64 : Int32, y64 = (gI u55 15) - (1 : Int32) → (∀ u65 : ST, u65 = sI u55 15 y64 → ((¬ x1 = (33 : Int32) → wp_X12_operand_p80 (4 : Int32) u65 P Q) ∧ (x1 = (33 : Int32) → wp_X12_operand_p80 (3 : Int32) u65 P Q))))))) ∧ (y47 = 0 → Q u47))))
def wp_X12_operand (u : ST) (P : Nat → ST → (ST → Prop) → Prop) (Q : ST → Prop) : Prop :=
  (wp_X12_look u (fun y1 u1 => (wp_X12_nameOf y1 (fun y6 => ((y6 < 0 → ((y1 = (33 : Int32) → wp_X12_operand_p46 y1 u1 P Q) ∧ (¬ y1 = (33 : Int32) → ((¬ y1 = (45 : Int32) → ((¬ y1 = (40 : Int32) → (wp_X12_figure u1 (fun u151 => wp_X12_operand_p154 u151 P Q))) ∧ (y1 = (40 : Int32) → (wp_X12_opens u1 (fun y94 u94 => ((¬ y94 = 0 → (P 5 u94 (fun u102 => (((gI u102 14) < 0 → (wp_X12_look u102 (fun y114 u114 => ((y114 = (41 : Int32) → (∀ y133 : Int32, y133 = (gI u114 13) + (1 : Int32) → (∀ u134 : ST, u134 = sI u114 13 y133 → (∀ y143 : Int32, y143 = (gI u134 15) - (1 : Int32) → (∀ u144 : ST, u144 = sI u134 15 y143 → wp_X12_operand_p154 u144 P Q))))) ∧ (¬ y114 = (41 : Int32) → (wp_X12_faulty u114 (fun u123 => Q u123))))))) ∧ (¬ (gI u102 14) < 0 → Q u102))))) ∧ (y94 = 0 → Q u94))))))) ∧ (y1 = (45 : Int32) → wp_X12_operand_p46 y1 u1 P Q))))) ∧ (¬ y6 < 0 → (wp_X12_nameOf y1 (fun y15 => (wp_X12_addStep (2 : Int32) y15 u1 (fun u18 => (∀ y27 : Int32, y27 = (gI u18 13) + (1 : Int32) → (∀ u28 : ST, u28 = sI u18 13 y27 → wp_X12_operand_p154 u28 P Q))))))))))))
set_option maxHeartbeats 4000000 in
set_option maxRecDepth 100000 in
theorem c_X12_operand (l : Launch) (D : va_G) (h : Nat) (r : Nat → Nat) (cs : Nat → ClassId) (d : Nat) (P : Nat → ST → (ST → Prop) → Prop) (hP0 : (∀ (u : ST) (Q : ST → Prop), P 0 u Q → mCv l yX12_operand wsX12_operand (rmS d) 0 0 D (mT cs) (W12 h r cs) [.ref h] u Q)) (hP1 : (∀ (u : ST) (Q : ST → Prop), P 1 u Q → mCv l yX12_product wsX12_product (rmS d) 0 0 D (mT cs) (W12 h r cs) [.ref h] u Q)) (hP2 : (∀ (u : ST) (Q : ST → Prop), P 2 u Q → mCv l yX12_sum wsX12_sum (rmS d) 0 0 D (mT cs) (W12 h r cs) [.ref h] u Q)) (hP3 : (∀ (u : ST) (Q : ST → Prop), P 3 u Q → mCv l yX12_compared wsX12_compared (rmS d) 0 0 D (mT cs) (W12 h r cs) [.ref h] u Q)) (hP4 : (∀ (u : ST) (Q : ST → Prop), P 4 u Q → mCv l yX12_both wsX12_both (rmS d) 0 0 D (mT cs) (W12 h r cs) [.ref h] u Q)) (hP5 : (∀ (u : ST) (Q : ST → Prop), P 5 u Q → mCv l yX12_either wsX12_either (rmS d) 0 0 D (mT cs) (W12 h r cs) [.ref h] u Q)) (u : ST) (Q : ST → Prop) (hw : wp_X12_operand u P Q) : mCv l yX12_operand wsX12_operand (rmS (d + 1)) 0 0 D (mT cs) (W12 h r cs) [.ref h] u Q := by
  unfold mCv
  refine m_enter (QQ := fun A => va_Qv Q (mPos D (mT cs) A (W12 h r cs)) A) (cc := cX12_operand) (maxL := 2) (ret := none) (by decide) rfl (Nat.le_of_ble_eq_true rfl) ?_
  intro p e s m args below meth c A ls S hr hlocks hname hl hI
  have S : CallFix p m c cX12_operand 2 s args wsX12_operand RX12 := S
  show W p l e (rmS (d + 1)) s m args below meth c s.heap [] 0 0 (MQ below (va_Qv Q (mPos D (mT cs) A (W12 h r cs)) A) args s 0 0 A) (F0 m 0 ls [])
  generalize hZ : MQ below (va_Qv Q (mPos D (mT cs) A (W12 h r cs)) A) args s 0 0 A = Z
  have hin : ∀ w ∈ wsX120, w ∈ wsX12_operand := fun _ h => List.mem_cons_of_mem _ (List.mem_append_right _ h)
  have hl : lv_has ls 2 [(0, .ref h)] := hl
  have b154 : ∀ (u : ST), wp_X12_operand_p154 u P Q → mGo p l e (rmS (d + 1)) s m args below meth c A Z 2 D (mT cs) (W12 h r cs) 154 [(0, .ref h)] [] u := by
    intro u hw H locs ls hI hl
    unfold wp_X12_operand_p154 at hw
    subst hZ
    exact m_vret S hr hlocks hI hw dX12_operand_154
  have b80 : ∀ (t1 : Int32) (u : ST), wp_X12_operand_p80 t1 u P Q → mGo p l e (rmS (d + 1)) s m args below meth c A Z 2 D (mT cs) (W12 h r cs) 80 [(0, .ref h)] [.int t1, .ref h] u := by
    intro t1 u hw H locs ls hI hl
    unfold wp_X12_operand_p80 at hw
    refine lv_iconst (v := 0) S.1 S.2.1 dX12_operand_80 (by decide) ?_
    refine m_vv (As := [.int t1, .int (0 : Int32)]) (rest := []) S (W12_self h r cs) hI rfl (c_X12_addStep l D h r cs t1 (0 : Int32) u _ hw) (cwV 2 S.2.2.2.2 gX12_operand_X12_addStep rfl rfl rfl (by decide +kernel) ⟨by simp only [rmS]; omega, by simp only [rmS]; omega⟩) (W12_at0 h r cs u) rfl rfl hl.1 rfl (Nat.le_of_ble_eq_true rfl) dX12_operand_81 ⟨Nat.zero_le _, Nat.zero_le _⟩ (fun u81 H locs hw hI => ?_)
    refine lv_goto (tgt := 154) S.1 S.2.1 dX12_operand_84 (by decide) ?_
    exact b154 u81 hw H locs ls hI (lv_sub hl [0] rfl)
  have b46 : ∀ (x1 : Int32) (u : ST), wp_X12_operand_p46 x1 u P Q → mGo p l e (rmS (d + 1)) s m args below meth c A Z 2 D (mT cs) (W12 h r cs) 46 [(0, .ref h), (1, .int x1)] [] u := by
    intro x1 u hw H locs ls hI hl
    unfold wp_X12_operand_p46 at hw
    refine lv_aload_n S.1 S.2.1 dX12_operand_46 rfl (lv_at hl 0 rfl) ?_
    refine m_vi (As := []) (rest := []) S (W12_self h r cs) hI rfl (c_X12_opens l D h r cs u _ hw) (cwV 0 S.2.2.2.2 gX12_operand_X12_opens rfl rfl rfl (by decide +kernel) ⟨by simp only [rmS]; omega, by simp only [rmS]; omega⟩) (W12_at0 h r cs u) rfl rfl hl.1 rfl (Nat.le_of_ble_eq_true rfl) dX12_operand_47 ⟨Nat.zero_le _, Nat.zero_le _⟩ (fun y47 u47 H locs hw hI => ?_)
    refine lv_if_ne (tgt := 54) S.1 S.2.1 dX12_operand_50 (by decide) (fun c50 => ?_) (fun c50 => ?_)
    · have hw := hw.1 c50
      refine lv_aload_n S.1 S.2.1 dX12_operand_54 rfl (lv_at hl 0 rfl) ?_
      refine m_vv (As := []) (rest := []) S (W12_self h r cs) hI rfl (hP0 u47 _ hw) (cwV 0 S.2.2.2.2 gX12_operand_X12_operand rfl rfl rfl (by decide +kernel) ⟨by simp only [rmS]; omega, by simp only [rmS]; omega⟩) (W12_at0 h r cs u47) rfl rfl hl.1 rfl (Nat.le_of_ble_eq_true rfl) dX12_operand_55 ⟨Nat.zero_le _, Nat.zero_le _⟩ (fun u55 H locs hw hI => ?_)
      refine lv_aload_n S.1 S.2.1 dX12_operand_58 rfl (lv_at hl 0 rfl) ?_
      refine lv_dup S.1 S.2.1 dX12_operand_59 rfl ?_
      refine m_get S hin hI 0 (W12_at0 h r cs u55) rfl 15 (Nat.le_of_ble_eq_true rfl) (List.mem_of_getElem? (i := 2) rfl) rfl (Ff12_at15 r u55) dX12_operand_60 ?_
      refine lv_iconst (v := 1) S.1 S.2.1 dX12_operand_63 (by decide) ?_
      refine lv_isub S.1 S.2.1 dX12_operand_64 ?_
      refine lv_topi (fun y64 ey64 => ?_)
      have hw := hw y64 ey64
      obtain ⟨u65, eu65⟩ : ∃ z : ST, z = sI u55 15 y64 := ⟨_, rfl⟩
      have hw := hw u65 eu65
      refine m_put S hin tyX12_ok nmX12 hI 0 (W12_at0 h r cs u55) rfl 15 (Nat.le_of_ble_eq_true rfl) (List.mem_of_getElem? (i := 2) rfl) rfl rfl rfl rfl (Nat.le_of_ble_eq_true rfl) (W12_sI15 h r cs u55 u65 y64 eu65) dX12_operand_65 (fun H locs hI => ?_)
      refine lv_aload_n S.1 S.2.1 dX12_operand_68 rfl (lv_at hl 0 rfl) ?_
      refine lv_iload_n S.1 S.2.1 dX12_operand_69 rfl (lv_at hl 1 rfl) ?_
      refine lv_bipush (v := 33) S.1 S.2.1 dX12_operand_70 (by decide) ?_
      refine lv_icmp_ne (tgt := 79) S.1 S.2.1 dX12_operand_72 (by decide) (fun c72 => ?_) (fun c72 => ?_)
      · have hw := hw.1 c72
        refine lv_iconst (v := 4) S.1 S.2.1 dX12_operand_79 (by decide) ?_
        exact b80 (4 : Int32) u65 hw H locs ls hI (lv_sub hl [0] rfl)
      · have hw := hw.2 c72
        refine lv_iconst (v := 3) S.1 S.2.1 dX12_operand_75 (by decide) ?_
        refine lv_goto (tgt := 80) S.1 S.2.1 dX12_operand_76 (by decide) ?_
        exact b80 (3 : Int32) u65 hw H locs ls hI (lv_sub hl [0] rfl)
    · have hw := hw.2 c50
      subst hZ
      exact m_vret S hr hlocks hI hw dX12_operand_53
  unfold wp_X12_operand at hw
  obtain ⟨H, hH⟩ : ∃ z : Heap, z = s.heap := ⟨_, rfl⟩
  obtain ⟨locs, hL⟩ : ∃ z : List Loc, z = [] := ⟨_, rfl⟩
  rw [show W p l e (rmS (d + 1)) s m args below meth c s.heap [] 0 0 Z (F0 m 0 ls []) = W p l e (rmS (d + 1)) s m args below meth c H locs 0 0 Z (F0 m 0 ls []) by rw [hH, hL]]
  replace hI : mI D (mT cs) A s.heap s (W12 h r cs u) H locs := by rw [hH, hL]; exact hI
  refine lv_aload_n S.1 S.2.1 dX12_operand_0 rfl (lv_at hl 0 rfl) ?_
  refine m_vi (As := []) (rest := []) S (W12_self h r cs) hI rfl (c_X12_look l D h r cs u _ hw) (cwV 0 S.2.2.2.2 gX12_operand_X12_look rfl rfl rfl (by decide +kernel) ⟨by simp only [rmS]; omega, by simp only [rmS]; omega⟩) (W12_at0 h r cs u) rfl rfl hl.1 rfl (Nat.le_of_ble_eq_true rfl) dX12_operand_1 ⟨Nat.zero_le _, Nat.zero_le _⟩ (fun y1 u1 H locs hw hI => ?_)
  refine lv_istore_n (lv' := [(1, .int y1), (0, .ref h)]) S.1 S.2.1 dX12_operand_4 rfl hl (by decide) rfl (fun ls hl => ?_)
  refine lv_iload_n S.1 S.2.1 dX12_operand_5 rfl (lv_at hl 0 rfl) ?_
  refine m_si (As := [.int y1]) (rest := []) S hI.2.2.2.1.2.1 (c_X12_nameOf l y1 _ hw) (va_cwS 1 S.2.2.2.2 gX12_operand_X12_nameOf rfl rfl rfl (by decide +kernel) ⟨by simp only [rmS]; omega, by simp only [rmS]; omega⟩) rfl hl.1 rfl (Nat.le_of_ble_eq_true rfl) dX12_operand_6 ⟨Nat.zero_le _, Nat.zero_le _⟩ (fun y6 hw => ?_)
  refine lv_if_lt (tgt := 34) S.1 S.2.1 dX12_operand_9 (by decide) (fun c9 => ?_) (fun c9 => ?_)
  · have hw := hw.1 c9
    refine lv_iload_n S.1 S.2.1 dX12_operand_34 rfl (lv_at hl 0 rfl) ?_
    refine lv_bipush (v := 33) S.1 S.2.1 dX12_operand_35 (by decide) ?_
    refine lv_icmp_eq (tgt := 46) S.1 S.2.1 dX12_operand_37 (by decide) (fun c37 => ?_) (fun c37 => ?_)
    · have hw := hw.1 c37
      exact b46 y1 u1 hw H locs ls hI (lv_sub hl [1, 0] rfl)
    · have hw := hw.2 c37
      refine lv_iload_n S.1 S.2.1 dX12_operand_40 rfl (lv_at hl 0 rfl) ?_
      refine lv_bipush (v := 45) S.1 S.2.1 dX12_operand_41 (by decide) ?_
      refine lv_icmp_ne (tgt := 87) S.1 S.2.1 dX12_operand_43 (by decide) (fun c43 => ?_) (fun c43 => ?_)
      · have hw := hw.1 c43
        refine lv_iload_n S.1 S.2.1 dX12_operand_87 rfl (lv_at hl 0 rfl) ?_
        refine lv_bipush (v := 40) S.1 S.2.1 dX12_operand_88 (by decide) ?_
        refine lv_icmp_ne (tgt := 150) S.1 S.2.1 dX12_operand_90 (by decide) (fun c90 => ?_) (fun c90 => ?_)
        · have hw := hw.1 c90
          refine lv_aload_n S.1 S.2.1 dX12_operand_150 rfl (lv_at hl 1 rfl) ?_
          refine m_vv (As := []) (rest := []) S (W12_self h r cs) hI rfl (c_X12_figure l D h r cs u1 _ hw) (cwV 0 S.2.2.2.2 gX12_operand_X12_figure rfl rfl rfl (by decide +kernel) ⟨by simp only [rmS]; omega, by simp only [rmS]; omega⟩) (W12_at0 h r cs u1) rfl rfl hl.1 rfl (Nat.le_of_ble_eq_true rfl) dX12_operand_151 ⟨Nat.zero_le _, Nat.zero_le _⟩ (fun u151 H locs hw hI => ?_)
          exact b154 u151 hw H locs ls hI (lv_sub hl [1] rfl)
        · have hw := hw.2 c90
          refine lv_aload_n S.1 S.2.1 dX12_operand_93 rfl (lv_at hl 1 rfl) ?_
          refine m_vi (As := []) (rest := []) S (W12_self h r cs) hI rfl (c_X12_opens l D h r cs u1 _ hw) (cwV 0 S.2.2.2.2 gX12_operand_X12_opens rfl rfl rfl (by decide +kernel) ⟨by simp only [rmS]; omega, by simp only [rmS]; omega⟩) (W12_at0 h r cs u1) rfl rfl hl.1 rfl (Nat.le_of_ble_eq_true rfl) dX12_operand_94 ⟨Nat.zero_le _, Nat.zero_le _⟩ (fun y94 u94 H locs hw hI => ?_)
          refine lv_if_ne (tgt := 101) S.1 S.2.1 dX12_operand_97 (by decide) (fun c97 => ?_) (fun c97 => ?_)
          · have hw := hw.1 c97
            refine lv_aload_n S.1 S.2.1 dX12_operand_101 rfl (lv_at hl 1 rfl) ?_
            refine m_vv (As := []) (rest := []) S (W12_self h r cs) hI rfl (hP5 u94 _ hw) (cwV 0 S.2.2.2.2 gX12_operand_X12_either rfl rfl rfl (by decide +kernel) ⟨by simp only [rmS]; omega, by simp only [rmS]; omega⟩) (W12_at0 h r cs u94) rfl rfl hl.1 rfl (Nat.le_of_ble_eq_true rfl) dX12_operand_102 ⟨Nat.zero_le _, Nat.zero_le _⟩ (fun u102 H locs hw hI => ?_)
            refine lv_aload_n S.1 S.2.1 dX12_operand_105 rfl (lv_at hl 1 rfl) ?_
            refine m_get S hin hI 0 (W12_at0 h r cs u102) rfl 14 (Nat.le_of_ble_eq_true rfl) (List.mem_of_getElem? (i := 3) rfl) rfl (Ff12_at14 r u102) dX12_operand_106 ?_
            refine lv_if_lt (tgt := 113) S.1 S.2.1 dX12_operand_109 (by decide) (fun c109 => ?_) (fun c109 => ?_)
            · have hw := hw.1 c109
              refine lv_aload_n S.1 S.2.1 dX12_operand_113 rfl (lv_at hl 1 rfl) ?_
              refine m_vi (As := []) (rest := []) S (W12_self h r cs) hI rfl (c_X12_look l D h r cs u102 _ hw) (cwV 0 S.2.2.2.2 gX12_operand_X12_look rfl rfl rfl (by decide +kernel) ⟨by simp only [rmS]; omega, by simp only [rmS]; omega⟩) (W12_at0 h r cs u102) rfl rfl hl.1 rfl (Nat.le_of_ble_eq_true rfl) dX12_operand_114 ⟨Nat.zero_le _, Nat.zero_le _⟩ (fun y114 u114 H locs hw hI => ?_)
              refine lv_bipush (v := 41) S.1 S.2.1 dX12_operand_117 (by decide) ?_
              refine lv_icmp_eq (tgt := 127) S.1 S.2.1 dX12_operand_119 (by decide) (fun c119 => ?_) (fun c119 => ?_)
              · have hw := hw.1 c119
                refine lv_aload_n S.1 S.2.1 dX12_operand_127 rfl (lv_at hl 1 rfl) ?_
                refine lv_dup S.1 S.2.1 dX12_operand_128 rfl ?_
                refine m_get S hin hI 0 (W12_at0 h r cs u114) rfl 13 (Nat.le_of_ble_eq_true rfl) (List.mem_of_getElem? (i := 1) rfl) rfl (Ff12_at13 r u114) dX12_operand_129 ?_
                refine lv_iconst (v := 1) S.1 S.2.1 dX12_operand_132 (by decide) ?_
                refine lv_iadd S.1 S.2.1 dX12_operand_133 ?_
                refine lv_topi (fun y133 ey133 => ?_)
                have hw := hw y133 ey133
                obtain ⟨u134, eu134⟩ : ∃ z : ST, z = sI u114 13 y133 := ⟨_, rfl⟩
                have hw := hw u134 eu134
                refine m_put S hin tyX12_ok nmX12 hI 0 (W12_at0 h r cs u114) rfl 13 (Nat.le_of_ble_eq_true rfl) (List.mem_of_getElem? (i := 1) rfl) rfl rfl rfl rfl (Nat.le_of_ble_eq_true rfl) (W12_sI13 h r cs u114 u134 y133 eu134) dX12_operand_134 (fun H locs hI => ?_)
                refine lv_aload_n S.1 S.2.1 dX12_operand_137 rfl (lv_at hl 1 rfl) ?_
                refine lv_dup S.1 S.2.1 dX12_operand_138 rfl ?_
                refine m_get S hin hI 0 (W12_at0 h r cs u134) rfl 15 (Nat.le_of_ble_eq_true rfl) (List.mem_of_getElem? (i := 2) rfl) rfl (Ff12_at15 r u134) dX12_operand_139 ?_
                refine lv_iconst (v := 1) S.1 S.2.1 dX12_operand_142 (by decide) ?_
                refine lv_isub S.1 S.2.1 dX12_operand_143 ?_
                refine lv_topi (fun y143 ey143 => ?_)
                have hw := hw y143 ey143
                obtain ⟨u144, eu144⟩ : ∃ z : ST, z = sI u134 15 y143 := ⟨_, rfl⟩
                have hw := hw u144 eu144
                refine m_put S hin tyX12_ok nmX12 hI 0 (W12_at0 h r cs u134) rfl 15 (Nat.le_of_ble_eq_true rfl) (List.mem_of_getElem? (i := 2) rfl) rfl rfl rfl rfl (Nat.le_of_ble_eq_true rfl) (W12_sI15 h r cs u134 u144 y143 eu144) dX12_operand_144 (fun H locs hI => ?_)
                refine lv_goto (tgt := 154) S.1 S.2.1 dX12_operand_147 (by decide) ?_
                exact b154 u144 hw H locs ls hI (lv_sub hl [1] rfl)
              · have hw := hw.2 c119
                refine lv_aload_n S.1 S.2.1 dX12_operand_122 rfl (lv_at hl 1 rfl) ?_
                refine m_vv (As := []) (rest := []) S (W12_self h r cs) hI rfl (c_X12_faulty l D h r cs u114 _ hw) (cwV 0 S.2.2.2.2 gX12_operand_X12_faulty rfl rfl rfl (by decide +kernel) ⟨by simp only [rmS]; omega, by simp only [rmS]; omega⟩) (W12_at0 h r cs u114) rfl rfl hl.1 rfl (Nat.le_of_ble_eq_true rfl) dX12_operand_123 ⟨Nat.zero_le _, Nat.zero_le _⟩ (fun u123 H locs hw hI => ?_)
                subst hZ
                exact m_vret S hr hlocks hI hw dX12_operand_126
            · have hw := hw.2 c109
              subst hZ
              exact m_vret S hr hlocks hI hw dX12_operand_112
          · have hw := hw.2 c97
            subst hZ
            exact m_vret S hr hlocks hI hw dX12_operand_100
      · have hw := hw.2 c43
        exact b46 y1 u1 hw H locs ls hI (lv_sub hl [1, 0] rfl)
  · have hw := hw.2 c9
    refine lv_aload_n S.1 S.2.1 dX12_operand_12 rfl (lv_at hl 1 rfl) ?_
    refine lv_iconst (v := 2) S.1 S.2.1 dX12_operand_13 (by decide) ?_
    refine lv_iload_n S.1 S.2.1 dX12_operand_14 rfl (lv_at hl 0 rfl) ?_
    refine m_si (As := [.int y1]) (rest := [.int (2 : Int32), .ref h]) S hI.2.2.2.1.2.1 (c_X12_nameOf l y1 _ hw) (va_cwS 1 S.2.2.2.2 gX12_operand_X12_nameOf rfl rfl rfl (by decide +kernel) ⟨by simp only [rmS]; omega, by simp only [rmS]; omega⟩) rfl hl.1 rfl (Nat.le_of_ble_eq_true rfl) dX12_operand_15 ⟨Nat.zero_le _, Nat.zero_le _⟩ (fun y15 hw => ?_)
    refine m_vv (As := [.int (2 : Int32), .int y15]) (rest := []) S (W12_self h r cs) hI rfl (c_X12_addStep l D h r cs (2 : Int32) y15 u1 _ hw) (cwV 2 S.2.2.2.2 gX12_operand_X12_addStep rfl rfl rfl (by decide +kernel) ⟨by simp only [rmS]; omega, by simp only [rmS]; omega⟩) (W12_at0 h r cs u1) rfl rfl hl.1 rfl (Nat.le_of_ble_eq_true rfl) dX12_operand_18 ⟨Nat.zero_le _, Nat.zero_le _⟩ (fun u18 H locs hw hI => ?_)
    refine lv_aload_n S.1 S.2.1 dX12_operand_21 rfl (lv_at hl 1 rfl) ?_
    refine lv_dup S.1 S.2.1 dX12_operand_22 rfl ?_
    refine m_get S hin hI 0 (W12_at0 h r cs u18) rfl 13 (Nat.le_of_ble_eq_true rfl) (List.mem_of_getElem? (i := 1) rfl) rfl (Ff12_at13 r u18) dX12_operand_23 ?_
    refine lv_iconst (v := 1) S.1 S.2.1 dX12_operand_26 (by decide) ?_
    refine lv_iadd S.1 S.2.1 dX12_operand_27 ?_
    refine lv_topi (fun y27 ey27 => ?_)
    have hw := hw y27 ey27
    obtain ⟨u28, eu28⟩ : ∃ z : ST, z = sI u18 13 y27 := ⟨_, rfl⟩
    have hw := hw u28 eu28
    refine m_put S hin tyX12_ok nmX12 hI 0 (W12_at0 h r cs u18) rfl 13 (Nat.le_of_ble_eq_true rfl) (List.mem_of_getElem? (i := 1) rfl) rfl rfl rfl rfl (Nat.le_of_ble_eq_true rfl) (W12_sI13 h r cs u18 u28 y27 eu28) dX12_operand_28 (fun H locs hI => ?_)
    refine lv_goto (tgt := 154) S.1 S.2.1 dX12_operand_31 (by decide) ?_
    exact b154 u28 hw H locs ls hI (lv_sub hl [1] rfl)

def wpS : Nat → Nat → ST → (ST → Prop) → Prop
  | 0, _, _, _ => False
  | d + 1, k, u, Q => match k with
    | 0 => wp_X12_operand u (wpS d) Q
    | 1 => wp_X12_product u (wpS d) Q
    | 2 => wp_X12_sum u (wpS d) Q
    | 3 => wp_X12_compared u (wpS d) Q
    | 4 => wp_X12_both u (wpS d) Q
    | _ => wp_X12_either u (wpS d) Q
set_option maxHeartbeats 4000000 in
theorem c_scc (l : Launch) (D : va_G) (h : Nat) (r : Nat → Nat) (cs : Nat → ClassId) : ∀ d : Nat, (∀ (u : ST) (Q : ST → Prop), wpS d 0 u Q → mCv l yX12_operand wsX12_operand (rmS d) 0 0 D (mT cs) (W12 h r cs) [.ref h] u Q) ∧ (∀ (u : ST) (Q : ST → Prop), wpS d 1 u Q → mCv l yX12_product wsX12_product (rmS d) 0 0 D (mT cs) (W12 h r cs) [.ref h] u Q) ∧ (∀ (u : ST) (Q : ST → Prop), wpS d 2 u Q → mCv l yX12_sum wsX12_sum (rmS d) 0 0 D (mT cs) (W12 h r cs) [.ref h] u Q) ∧ (∀ (u : ST) (Q : ST → Prop), wpS d 3 u Q → mCv l yX12_compared wsX12_compared (rmS d) 0 0 D (mT cs) (W12 h r cs) [.ref h] u Q) ∧ (∀ (u : ST) (Q : ST → Prop), wpS d 4 u Q → mCv l yX12_both wsX12_both (rmS d) 0 0 D (mT cs) (W12 h r cs) [.ref h] u Q) ∧ (∀ (u : ST) (Q : ST → Prop), wpS d 5 u Q → mCv l yX12_either wsX12_either (rmS d) 0 0 D (mT cs) (W12 h r cs) [.ref h] u Q) := by
  intro d
  induction d with
  | zero => exact ⟨fun _ _ hw => False.elim hw, fun _ _ hw => False.elim hw, fun _ _ hw => False.elim hw, fun _ _ hw => False.elim hw, fun _ _ hw => False.elim hw, fun _ _ hw => False.elim hw⟩
  | succ d ih =>
    obtain ⟨i0, i1, i2, i3, i4, i5⟩ := ih
    exact ⟨fun u Q hw => c_X12_operand l D h r cs d (wpS d) i0 i1 i2 i3 i4 i5 u Q hw, fun u Q hw => c_X12_product l D h r cs d (wpS d) i0 i1 i2 i3 i4 i5 u Q hw, fun u Q hw => c_X12_sum l D h r cs d (wpS d) i0 i1 i2 i3 i4 i5 u Q hw, fun u Q hw => c_X12_compared l D h r cs d (wpS d) i0 i1 i2 i3 i4 i5 u Q hw, fun u Q hw => c_X12_both l D h r cs d (wpS d) i0 i1 i2 i3 i4 i5 u Q hw, fun u Q hw => c_X12_either l D h r cs d (wpS d) i0 i1 i2 i3 i4 i5 u Q hw⟩

def wp_X12_line_p66 (x1 : Int32) (u : ST) (Q : ST → Prop) : Prop :=
  (∀ y75 : Int32, y75 = (gI u 16).toInt16.toInt32 → (vp_in x1 122 ∧ ∀ u76 : ST, u76 = sA u 21 (upd (gA u 21) x1.toNatClampNeg (vp_nar .short y75)) → (vp_in (1 : Int32) 2 ∧ ∀ y83 : Int32, y83 = gA u76 19 (1 : Int32).toNatClampNeg → (∀ y85 : Int32, y85 = y83 + (1 : Int32) → (vp_in (1 : Int32) 2 ∧ ∀ u86 : ST, u86 = sA u76 19 (upd (gA u76 19) (1 : Int32).toNatClampNeg y85) → Q u86)))))
def wp_X12_line (u : ST) (Q : ST → Prop) : Prop :=
  (vp_in (1 : Int32) 2 ∧ ∀ y7 : Int32, y7 = gA u 19 (1 : Int32).toNatClampNeg → (∀ y8 : Int32, y8 = (61 : Int32) + y7 → (∀ y19 : Int32, y19 = (gI u 16).toInt16.toInt32 → (vp_in y8 122 ∧ ∀ u20 : ST, u20 = sA u 20 (upd (gA u 20) y8.toNatClampNeg (vp_nar .short y19)) → (wpS 60 5 u20 (fun u22 => ((0 ≤ (gI u22 14) → wp_X12_line_p66 y8 u22 Q) ∧ (¬ 0 ≤ (gI u22 14) → (wp_X12_look u22 (fun y33 u33 => ((¬ y33 = (63 : Int32) → wp_X12_line_p66 y8 u33 Q) ∧ (y33 = (63 : Int32) → (∀ y47 : Int32, y47 = (gI u33 13) + (1 : Int32) → (∀ u48 : ST, u48 = sI u33 13 y47 → (∀ y60 : Int32, y60 = (gI u48 16).toInt16.toInt32 → (vp_in y8 122 ∧ ∀ u61 : ST, u61 = sA u48 20 (upd (gA u48 20) y8.toNatClampNeg (vp_nar .short y60)) → (wpS 60 5 u61 (fun u63 => wp_X12_line_p66 y8 u63 Q))))))))))))))))))
set_option maxHeartbeats 4000000 in
set_option maxRecDepth 100000 in
theorem c_X12_line (l : Launch) (D : va_G) (h : Nat) (r : Nat → Nat) (cs : Nat → ClassId) (u : ST) (Q : ST → Prop) (hw : wp_X12_line u Q) : mCv l yX12_line wsX12_line ({ frames := 64, cells := 0, slots := 0, locals := 1640 } : Room) 0 0 D (mT cs) (W12 h r cs) [.ref h] u Q := by
  unfold mCv
  refine m_enter (QQ := fun A => va_Qv Q (mPos D (mT cs) A (W12 h r cs)) A) (cc := cX12_line) (maxL := 2) (ret := none) (by decide) rfl (Nat.le_of_ble_eq_true rfl) ?_
  intro p e s m args below meth c A ls S hr hlocks hname hl hI
  have S : CallFix p m c cX12_line 2 s args wsX12_line RX12 := S
  show W p l e ({ frames := 64, cells := 0, slots := 0, locals := 1640 } : Room) s m args below meth c s.heap [] 0 0 (MQ below (va_Qv Q (mPos D (mT cs) A (W12 h r cs)) A) args s 0 0 A) (F0 m 0 ls [])
  generalize hZ : MQ below (va_Qv Q (mPos D (mT cs) A (W12 h r cs)) A) args s 0 0 A = Z
  have hin : ∀ w ∈ wsX120, w ∈ wsX12_line := fun _ h => List.mem_cons_of_mem _ (List.mem_append_right _ h)
  have hl : lv_has ls 2 [(0, .ref h)] := hl
  have b66 : ∀ (x1 : Int32) (u : ST), wp_X12_line_p66 x1 u Q → mGo p l e ({ frames := 64, cells := 0, slots := 0, locals := 1640 } : Room) s m args below meth c A Z 2 D (mT cs) (W12 h r cs) 66 [(0, .ref h), (1, .int x1)] [] u := by
    intro x1 u hw H locs ls hI hl
    unfold wp_X12_line_p66 at hw
    refine lv_aload_n S.1 S.2.1 dX12_line_66 rfl (lv_at hl 0 rfl) ?_
    refine m_get S hin hI 0 (W12_at0 h r cs u) rfl 21 (Nat.le_of_ble_eq_true rfl) (List.mem_of_getElem? (i := 6) rfl) rfl (Ff12_at21 r u) dX12_line_67 ?_
    refine lv_iload_n S.1 S.2.1 dX12_line_70 rfl (lv_at hl 1 rfl) ?_
    refine lv_aload_n S.1 S.2.1 dX12_line_71 rfl (lv_at hl 0 rfl) ?_
    refine m_get S hin hI 0 (W12_at0 h r cs u) rfl 16 (Nat.le_of_ble_eq_true rfl) (List.mem_of_getElem? (i := 3) rfl) rfl (Ff12_at16 r u) dX12_line_72 ?_
    refine lv_i2s S.1 S.2.1 dX12_line_75 rfl ?_
    refine lv_topi (fun y75 ey75 => ?_)
    have hw := hw y75 ey75
    obtain ⟨u76, eu76⟩ : ∃ z : ST, z = sA u 21 (upd (gA u 21) x1.toNatClampNeg (vp_nar .short y75)) := ⟨_, rfl⟩
    refine m_sast S hI 10 2 (W12_at10 h r cs u) rfl hw.1 (W12_sA21 h r cs u u76 _ eu76) dX12_line_76 (fun H locs hI => ?_)
    have hw := hw.2 u76 eu76
    refine lv_aload_n S.1 S.2.1 dX12_line_77 rfl (lv_at hl 0 rfl) ?_
    refine m_get S hin hI 0 (W12_at0 h r cs u76) rfl 19 (Nat.le_of_ble_eq_true rfl) (List.mem_of_getElem? (i := 1) rfl) rfl (Ff12_at19 r u76) dX12_line_78 ?_
    refine lv_iconst (v := 1) S.1 S.2.1 dX12_line_81 (by decide) ?_
    refine lv_dup2_11 S.1 S.2.1 dX12_line_82 rfl rfl ?_
    refine m_iald S hI 8 0 (W12_at8 h r cs u76) rfl hw.1 dX12_line_83 ?_
    refine lv_topi (fun y83 ey83 => ?_)
    have hw := hw.2 y83 ey83
    refine lv_iconst (v := 1) S.1 S.2.1 dX12_line_84 (by decide) ?_
    refine lv_iadd S.1 S.2.1 dX12_line_85 ?_
    refine lv_topi (fun y85 ey85 => ?_)
    have hw := hw y85 ey85
    obtain ⟨u86, eu86⟩ : ∃ z : ST, z = sA u76 19 (upd (gA u76 19) (1 : Int32).toNatClampNeg y85) := ⟨_, rfl⟩
    refine m_iast S hI 8 0 (W12_at8 h r cs u76) rfl hw.1 (W12_sA19 h r cs u76 u86 _ eu86) dX12_line_86 (fun H locs hI => ?_)
    have hw := hw.2 u86 eu86
    subst hZ
    exact m_vret S hr hlocks hI hw dX12_line_87
  unfold wp_X12_line at hw
  obtain ⟨H, hH⟩ : ∃ z : Heap, z = s.heap := ⟨_, rfl⟩
  obtain ⟨locs, hL⟩ : ∃ z : List Loc, z = [] := ⟨_, rfl⟩
  rw [show W p l e ({ frames := 64, cells := 0, slots := 0, locals := 1640 } : Room) s m args below meth c s.heap [] 0 0 Z (F0 m 0 ls []) = W p l e ({ frames := 64, cells := 0, slots := 0, locals := 1640 } : Room) s m args below meth c H locs 0 0 Z (F0 m 0 ls []) by rw [hH, hL]]
  replace hI : mI D (mT cs) A s.heap s (W12 h r cs u) H locs := by rw [hH, hL]; exact hI
  refine lv_bipush (v := 61) S.1 S.2.1 dX12_line_0 (by decide) ?_
  refine lv_aload_n S.1 S.2.1 dX12_line_2 rfl (lv_at hl 0 rfl) ?_
  refine m_get S hin hI 0 (W12_at0 h r cs u) rfl 19 (Nat.le_of_ble_eq_true rfl) (List.mem_of_getElem? (i := 1) rfl) rfl (Ff12_at19 r u) dX12_line_3 ?_
  refine lv_iconst (v := 1) S.1 S.2.1 dX12_line_6 (by decide) ?_
  refine m_iald S hI 8 0 (W12_at8 h r cs u) rfl hw.1 dX12_line_7 ?_
  refine lv_topi (fun y7 ey7 => ?_)
  have hw := hw.2 y7 ey7
  refine lv_iadd S.1 S.2.1 dX12_line_8 ?_
  refine lv_topi (fun y8 ey8 => ?_)
  have hw := hw y8 ey8
  refine lv_istore_n (lv' := [(1, .int y8), (0, .ref h)]) S.1 S.2.1 dX12_line_9 rfl hl (by decide) rfl (fun ls hl => ?_)
  refine lv_aload_n S.1 S.2.1 dX12_line_10 rfl (lv_at hl 1 rfl) ?_
  refine m_get S hin hI 0 (W12_at0 h r cs u) rfl 20 (Nat.le_of_ble_eq_true rfl) (List.mem_of_getElem? (i := 2) rfl) rfl (Ff12_at20 r u) dX12_line_11 ?_
  refine lv_iload_n S.1 S.2.1 dX12_line_14 rfl (lv_at hl 0 rfl) ?_
  refine lv_aload_n S.1 S.2.1 dX12_line_15 rfl (lv_at hl 1 rfl) ?_
  refine m_get S hin hI 0 (W12_at0 h r cs u) rfl 16 (Nat.le_of_ble_eq_true rfl) (List.mem_of_getElem? (i := 3) rfl) rfl (Ff12_at16 r u) dX12_line_16 ?_
  refine lv_i2s S.1 S.2.1 dX12_line_19 rfl ?_
  refine lv_topi (fun y19 ey19 => ?_)
  have hw := hw y19 ey19
  obtain ⟨u20, eu20⟩ : ∃ z : ST, z = sA u 20 (upd (gA u 20) y8.toNatClampNeg (vp_nar .short y19)) := ⟨_, rfl⟩
  refine m_sast S hI 9 2 (W12_at9 h r cs u) rfl hw.1 (W12_sA20 h r cs u u20 _ eu20) dX12_line_20 (fun H locs hI => ?_)
  have hw := hw.2 u20 eu20
  refine lv_aload_n S.1 S.2.1 dX12_line_21 rfl (lv_at hl 1 rfl) ?_
  refine m_vv (As := []) (rest := []) S (W12_self h r cs) hI rfl ((c_scc l D h r cs 60).2.2.2.2.2 u20 _ hw) (cwV 0 S.2.2.2.2 gX12_line_X12_either rfl rfl rfl (by decide +kernel) ⟨Nat.le_of_ble_eq_true rfl, Nat.le_of_ble_eq_true rfl⟩) (W12_at0 h r cs u20) rfl rfl hl.1 rfl (Nat.le_of_ble_eq_true rfl) dX12_line_22 ⟨Nat.zero_le _, Nat.zero_le _⟩ (fun u22 H locs hw hI => ?_)
  refine lv_aload_n S.1 S.2.1 dX12_line_25 rfl (lv_at hl 1 rfl) ?_
  refine m_get S hin hI 0 (W12_at0 h r cs u22) rfl 14 (Nat.le_of_ble_eq_true rfl) (List.mem_of_getElem? (i := 4) rfl) rfl (Ff12_at14 r u22) dX12_line_26 ?_
  refine lv_if_ge (tgt := 66) S.1 S.2.1 dX12_line_29 (by decide) (fun c29 => ?_) (fun c29 => ?_)
  · have hw := hw.1 c29
    exact b66 y8 u22 hw H locs ls hI (lv_sub hl [1, 0] rfl)
  · have hw := hw.2 c29
    refine lv_aload_n S.1 S.2.1 dX12_line_32 rfl (lv_at hl 1 rfl) ?_
    refine m_vi (As := []) (rest := []) S (W12_self h r cs) hI rfl (c_X12_look l D h r cs u22 _ hw) (cwV 0 S.2.2.2.2 gX12_line_X12_look rfl rfl rfl (by decide +kernel) ⟨Nat.le_of_ble_eq_true rfl, Nat.le_of_ble_eq_true rfl⟩) (W12_at0 h r cs u22) rfl rfl hl.1 rfl (Nat.le_of_ble_eq_true rfl) dX12_line_33 ⟨Nat.zero_le _, Nat.zero_le _⟩ (fun y33 u33 H locs hw hI => ?_)
    refine lv_bipush (v := 63) S.1 S.2.1 dX12_line_36 (by decide) ?_
    refine lv_icmp_ne (tgt := 66) S.1 S.2.1 dX12_line_38 (by decide) (fun c38 => ?_) (fun c38 => ?_)
    · have hw := hw.1 c38
      exact b66 y8 u33 hw H locs ls hI (lv_sub hl [1, 0] rfl)
    · have hw := hw.2 c38
      refine lv_aload_n S.1 S.2.1 dX12_line_41 rfl (lv_at hl 1 rfl) ?_
      refine lv_dup S.1 S.2.1 dX12_line_42 rfl ?_
      refine m_get S hin hI 0 (W12_at0 h r cs u33) rfl 13 (Nat.le_of_ble_eq_true rfl) (List.mem_of_getElem? (i := 5) rfl) rfl (Ff12_at13 r u33) dX12_line_43 ?_
      refine lv_iconst (v := 1) S.1 S.2.1 dX12_line_46 (by decide) ?_
      refine lv_iadd S.1 S.2.1 dX12_line_47 ?_
      refine lv_topi (fun y47 ey47 => ?_)
      have hw := hw y47 ey47
      obtain ⟨u48, eu48⟩ : ∃ z : ST, z = sI u33 13 y47 := ⟨_, rfl⟩
      have hw := hw u48 eu48
      refine m_put S hin tyX12_ok nmX12 hI 0 (W12_at0 h r cs u33) rfl 13 (Nat.le_of_ble_eq_true rfl) (List.mem_of_getElem? (i := 5) rfl) rfl rfl rfl rfl (Nat.le_of_ble_eq_true rfl) (W12_sI13 h r cs u33 u48 y47 eu48) dX12_line_48 (fun H locs hI => ?_)
      refine lv_aload_n S.1 S.2.1 dX12_line_51 rfl (lv_at hl 1 rfl) ?_
      refine m_get S hin hI 0 (W12_at0 h r cs u48) rfl 20 (Nat.le_of_ble_eq_true rfl) (List.mem_of_getElem? (i := 2) rfl) rfl (Ff12_at20 r u48) dX12_line_52 ?_
      refine lv_iload_n S.1 S.2.1 dX12_line_55 rfl (lv_at hl 0 rfl) ?_
      refine lv_aload_n S.1 S.2.1 dX12_line_56 rfl (lv_at hl 1 rfl) ?_
      refine m_get S hin hI 0 (W12_at0 h r cs u48) rfl 16 (Nat.le_of_ble_eq_true rfl) (List.mem_of_getElem? (i := 3) rfl) rfl (Ff12_at16 r u48) dX12_line_57 ?_
      refine lv_i2s S.1 S.2.1 dX12_line_60 rfl ?_
      refine lv_topi (fun y60 ey60 => ?_)
      have hw := hw y60 ey60
      obtain ⟨u61, eu61⟩ : ∃ z : ST, z = sA u48 20 (upd (gA u48 20) y8.toNatClampNeg (vp_nar .short y60)) := ⟨_, rfl⟩
      refine m_sast S hI 9 2 (W12_at9 h r cs u48) rfl hw.1 (W12_sA20 h r cs u48 u61 _ eu61) dX12_line_61 (fun H locs hI => ?_)
      have hw := hw.2 u61 eu61
      refine lv_aload_n S.1 S.2.1 dX12_line_62 rfl (lv_at hl 1 rfl) ?_
      refine m_vv (As := []) (rest := []) S (W12_self h r cs) hI rfl ((c_scc l D h r cs 60).2.2.2.2.2 u61 _ hw) (cwV 0 S.2.2.2.2 gX12_line_X12_either rfl rfl rfl (by decide +kernel) ⟨Nat.le_of_ble_eq_true rfl, Nat.le_of_ble_eq_true rfl⟩) (W12_at0 h r cs u61) rfl rfl hl.1 rfl (Nat.le_of_ble_eq_true rfl) dX12_line_63 ⟨Nat.zero_le _, Nat.zero_le _⟩ (fun u63 H locs hw hI => ?_)
      exact b66 y8 u63 hw H locs ls hI (lv_sub hl [1, 0] rfl)

def wp_X12_readText_p177b (x1 : Int32) (x2 : Int32) (u : ST) (B177 : Int32 → Int32 → ST → Prop) (Q : Int32 → ST → Prop) : Prop :=
  (vp_in x1 2 ∧ ∀ y183 : Int32, y183 = gA u 19 x1.toNatClampNeg → ((y183 ≤ x2 → Q ((-1) : Int32) u) ∧ (¬ y183 ≤ x2 → (∀ y194 : Int32, y194 = (61 : Int32) * x1 → (∀ y196 : Int32, y196 = y194 + x2 → (∀ y204 : Int32, y204 = (61 : Int32) + x2 → (vp_in y204 122 ∧ ∀ y205 : Int32, y205 = gA u 20 y204.toNatClampNeg → (vp_in y196 122 ∧ ∀ u206 : ST, u206 = sA u 20 (upd (gA u 20) y196.toNatClampNeg (vp_nar .short y205)) → (∀ y214 : Int32, y214 = (61 : Int32) * x1 → (∀ y216 : Int32, y216 = y214 + x2 → (∀ y224 : Int32, y224 = (61 : Int32) + x2 → (vp_in y224 122 ∧ ∀ y225 : Int32, y225 = gA u206 21 y224.toNatClampNeg → (vp_in y216 122 ∧ ∀ u226 : ST, u226 = sA u206 21 (upd (gA u206 21) y216.toNatClampNeg (vp_nar .short y225)) → (∀ y227 : Int32, y227 = x2 + 1 → B177 x1 y227 u226))))))))))))))
def wp_X12_readText_p177 (x1 : Int32) (x2 : Int32) (u : ST) (Q : Int32 → ST → Prop) : Prop := ∃ (I : Int32 → Int32 → ST → Prop) (μ : Int32 → Int32 → ST → Nat), I x1 x2 u ∧ ∀ (x1 : Int32) (x2 : Int32) (u : ST), I x1 x2 u → wp_X12_readText_p177b x1 x2 u (fun yx1 yx2 yu => I yx1 yx2 yu ∧ μ yx1 yx2 yu < μ x1 x2 u) Q
def wp_X12_readText_p105b (x1 : Int32) (x2 : Int32) (u : ST) (B105 : Int32 → Int32 → ST → Prop) (Q : Int32 → ST → Prop) : Prop :=
  (((gI u 16) ≤ x2 → (vp_in (1 : Int32) 2 ∧ ∀ y173 : Int32, y173 = gA u 19 (1 : Int32).toNatClampNeg → (vp_in x1 2 ∧ ∀ u174 : ST, u174 = sA u 19 (upd (gA u 19) x1.toNatClampNeg y173) → wp_X12_readText_p177 x1 (0 : Int32) u174 Q))) ∧ (¬ (gI u 16) ≤ x2 → (∀ y121 : Int32, y121 = (130 : Int32) * x1 → (∀ y123 : Int32, y123 = y121 + x2 → (∀ y132 : Int32, y132 = (130 : Int32) + x2 → (vp_in y132 260 ∧ ∀ y133 : Int32, y133 = gA u 17 y132.toNatClampNeg → (vp_in y123 260 ∧ ∀ u134 : ST, u134 = sA u 17 (upd (gA u 17) y123.toNatClampNeg (vp_nar .byte y133)) → (∀ y143 : Int32, y143 = (130 : Int32) * x1 → (∀ y145 : Int32, y145 = y143 + x2 → (∀ y154 : Int32, y154 = (130 : Int32) + x2 → (vp_in y154 260 ∧ ∀ y155 : Int32, y155 = gA u134 18 y154.toNatClampNeg → (vp_in y145 260 ∧ ∀ u156 : ST, u156 = sA u134 18 (upd (gA u134 18) y145.toNatClampNeg y155) → (∀ y157 : Int32, y157 = x2 + 1 → B105 x1 y157 u156)))))))))))))
def wp_X12_readText_p105 (x1 : Int32) (x2 : Int32) (u : ST) (Q : Int32 → ST → Prop) : Prop := ∃ (I : Int32 → Int32 → ST → Prop) (μ : Int32 → Int32 → ST → Nat), I x1 x2 u ∧ ∀ (x1 : Int32) (x2 : Int32) (u : ST), I x1 x2 u → wp_X12_readText_p105b x1 x2 u (fun yx1 yx2 yu => I yx1 yx2 yu ∧ μ yx1 yx2 yu < μ x1 x2 u) Q
def wp_X12_readText_p86 (x1 : Int32) (u : ST) (Q : Int32 → ST → Prop) : Prop :=
  (∀ u88 : ST, u88 = sI u 12 (0 : Int32) → (((gI u88 14) < 0 → wp_X12_readText_p105 x1 (0 : Int32) u88 Q) ∧ (¬ (gI u88 14) < 0 → Q (gI u88 14) u88)))
def wp_X12_readText_p64 (x1 : Int32) (u : ST) (Q : Int32 → ST → Prop) : Prop :=
  ((0 ≤ (gI u 14) → wp_X12_readText_p86 x1 u Q) ∧ (¬ 0 ≤ (gI u 14) → (((gI u 12) ≤ (gI u 13) → wp_X12_readText_p86 x1 u Q) ∧ (¬ (gI u 12) ≤ (gI u 13) → (wp_X12_faulty u (fun u83 => wp_X12_readText_p86 x1 u83 Q))))))
def wp_X12_readText_p31b (x1 : Int32) (u : ST) (B31 : Int32 → ST → Prop) (Q : Int32 → ST → Prop) : Prop :=
  ((0 ≤ (gI u 14) → wp_X12_readText_p64 x1 u Q) ∧ (¬ 0 ≤ (gI u 14) → (wp_X12_look u (fun y39 u39 => ((¬ y39 = (59 : Int32) → wp_X12_readText_p64 x1 u39 Q) ∧ (y39 = (59 : Int32) → (∀ y53 : Int32, y53 = (gI u39 13) + (1 : Int32) → (∀ u54 : ST, u54 = sI u39 13 y53 → (wp_X12_line u54 (fun u58 => B31 x1 u58))))))))))
def wp_X12_readText_p31 (x1 : Int32) (u : ST) (Q : Int32 → ST → Prop) : Prop := ∃ (I : Int32 → ST → Prop) (μ : Int32 → ST → Nat), I x1 u ∧ ∀ (x1 : Int32) (u : ST), I x1 u → wp_X12_readText_p31b x1 u (fun yx1 yu => I yx1 yu ∧ μ yx1 yu < μ x1 u) Q
def wp_X12_readText (a1 : Int32) (u : ST) (Q : Int32 → ST → Prop) : Prop :=
  (∀ u2 : ST, u2 = sI u 13 (0 : Int32) → (∀ u7 : ST, u7 = sI u2 14 ((-1) : Int32) → (∀ u12 : ST, u12 = sI u7 15 (0 : Int32) → (∀ u17 : ST, u17 = sI u12 16 (0 : Int32) → (vp_in (1 : Int32) 2 ∧ ∀ u26 : ST, u26 = sA u17 19 (upd (gA u17 19) (1 : Int32).toNatClampNeg (0 : Int32)) → (wp_X12_line u26 (fun u28 => wp_X12_readText_p31 a1 u28 Q)))))))
set_option maxHeartbeats 4000000 in
set_option maxRecDepth 100000 in
theorem c_X12_readText (l : Launch) (D : va_G) (h : Nat) (r : Nat → Nat) (cs : Nat → ClassId) (a1 : Int32) (u : ST) (Q : Int32 → ST → Prop) (hw : wp_X12_readText a1 u Q) : mCi l yX12_readText wsX12_readText ({ frames := 65, cells := 0, slots := 0, locals := 1661 } : Room) 0 0 D (mT cs) (W12 h r cs) [.ref h, .int a1] u Q := by
  unfold mCi
  refine m_enter (QQ := fun A => va_Qi Q (mPos D (mT cs) A (W12 h r cs)) A) (cc := cX12_readText) (maxL := 3) (ret := (some .int)) (by decide) rfl (Nat.le_of_ble_eq_true rfl) ?_
  intro p e s m args below meth c A ls S hr hlocks hname hl hI
  have S : CallFix p m c cX12_readText 3 s args wsX12_readText RX12 := S
  show W p l e ({ frames := 65, cells := 0, slots := 0, locals := 1661 } : Room) s m args below meth c s.heap [] 0 0 (MQ below (va_Qi Q (mPos D (mT cs) A (W12 h r cs)) A) args s 0 0 A) (F0 m 0 ls [])
  generalize hZ : MQ below (va_Qi Q (mPos D (mT cs) A (W12 h r cs)) A) args s 0 0 A = Z
  have hin : ∀ w ∈ wsX120, w ∈ wsX12_readText := fun _ h => List.mem_cons_of_mem _ (List.mem_append_right _ h)
  have hl : lv_has ls 3 [(0, .ref h), (1, .int a1)] := hl
  have b177b : ∀ (B177 : Int32 → Int32 → ST → Prop), (∀ (x1 : Int32) (x2 : Int32) (u : ST), B177 x1 x2 u → mGo p l e ({ frames := 65, cells := 0, slots := 0, locals := 1661 } : Room) s m args below meth c A Z 3 D (mT cs) (W12 h r cs) 177 [(0, .ref h), (1, .int x1), (2, .int x2)] [] u) → ∀ (x1 : Int32) (x2 : Int32) (u : ST), wp_X12_readText_p177b x1 x2 u B177 Q → mGo p l e ({ frames := 65, cells := 0, slots := 0, locals := 1661 } : Room) s m args below meth c A Z 3 D (mT cs) (W12 h r cs) 177 [(0, .ref h), (1, .int x1), (2, .int x2)] [] u := by
    intro B177 hB177 x1 x2 u hw H locs ls hI hl
    unfold wp_X12_readText_p177b at hw
    refine lv_iload_n S.1 S.2.1 dX12_readText_177 rfl (lv_at hl 2 rfl) ?_
    refine lv_aload_n S.1 S.2.1 dX12_readText_178 rfl (lv_at hl 0 rfl) ?_
    refine m_get S hin hI 0 (W12_at0 h r cs u) rfl 19 (Nat.le_of_ble_eq_true rfl) (List.mem_of_getElem? (i := 5) rfl) rfl (Ff12_at19 r u) dX12_readText_179 ?_
    refine lv_iload_n S.1 S.2.1 dX12_readText_182 rfl (lv_at hl 1 rfl) ?_
    refine m_iald S hI 8 0 (W12_at8 h r cs u) rfl hw.1 dX12_readText_183 ?_
    refine lv_topi (fun y183 ey183 => ?_)
    have hw := hw.2 y183 ey183
    refine lv_icmp_ge (tgt := 233) S.1 S.2.1 dX12_readText_184 (by decide) (fun c184 => ?_) (fun c184 => ?_)
    · have hw := hw.1 c184
      refine lv_iconst (v := (-1)) S.1 S.2.1 dX12_readText_233 (by decide) ?_
      subst hZ
      exact m_iret S hr hlocks hI hw dX12_readText_234
    · have hw := hw.2 c184
      refine lv_aload_n S.1 S.2.1 dX12_readText_187 rfl (lv_at hl 0 rfl) ?_
      refine m_get S hin hI 0 (W12_at0 h r cs u) rfl 20 (Nat.le_of_ble_eq_true rfl) (List.mem_of_getElem? (i := 9) rfl) rfl (Ff12_at20 r u) dX12_readText_188 ?_
      refine lv_bipush (v := 61) S.1 S.2.1 dX12_readText_191 (by decide) ?_
      refine lv_iload_n S.1 S.2.1 dX12_readText_193 rfl (lv_at hl 1 rfl) ?_
      refine lv_imul S.1 S.2.1 dX12_readText_194 ?_
      refine lv_topi (fun y194 ey194 => ?_)
      have hw := hw y194 ey194
      refine lv_iload_n S.1 S.2.1 dX12_readText_195 rfl (lv_at hl 2 rfl) ?_
      refine lv_iadd S.1 S.2.1 dX12_readText_196 ?_
      refine lv_topi (fun y196 ey196 => ?_)
      have hw := hw y196 ey196
      refine lv_aload_n S.1 S.2.1 dX12_readText_197 rfl (lv_at hl 0 rfl) ?_
      refine m_get S hin hI 0 (W12_at0 h r cs u) rfl 20 (Nat.le_of_ble_eq_true rfl) (List.mem_of_getElem? (i := 9) rfl) rfl (Ff12_at20 r u) dX12_readText_198 ?_
      refine lv_bipush (v := 61) S.1 S.2.1 dX12_readText_201 (by decide) ?_
      refine lv_iload_n S.1 S.2.1 dX12_readText_203 rfl (lv_at hl 2 rfl) ?_
      refine lv_iadd S.1 S.2.1 dX12_readText_204 ?_
      refine lv_topi (fun y204 ey204 => ?_)
      have hw := hw y204 ey204
      refine m_sald S hI 9 2 (W12_at9 h r cs u) rfl hw.1 dX12_readText_205 ?_
      refine lv_topi (fun y205 ey205 => ?_)
      have hw := hw.2 y205 ey205
      obtain ⟨u206, eu206⟩ : ∃ z : ST, z = sA u 20 (upd (gA u 20) y196.toNatClampNeg (vp_nar .short y205)) := ⟨_, rfl⟩
      refine m_sast S hI 9 2 (W12_at9 h r cs u) rfl hw.1 (W12_sA20 h r cs u u206 _ eu206) dX12_readText_206 (fun H locs hI => ?_)
      have hw := hw.2 u206 eu206
      refine lv_aload_n S.1 S.2.1 dX12_readText_207 rfl (lv_at hl 0 rfl) ?_
      refine m_get S hin hI 0 (W12_at0 h r cs u206) rfl 21 (Nat.le_of_ble_eq_true rfl) (List.mem_of_getElem? (i := 10) rfl) rfl (Ff12_at21 r u206) dX12_readText_208 ?_
      refine lv_bipush (v := 61) S.1 S.2.1 dX12_readText_211 (by decide) ?_
      refine lv_iload_n S.1 S.2.1 dX12_readText_213 rfl (lv_at hl 1 rfl) ?_
      refine lv_imul S.1 S.2.1 dX12_readText_214 ?_
      refine lv_topi (fun y214 ey214 => ?_)
      have hw := hw y214 ey214
      refine lv_iload_n S.1 S.2.1 dX12_readText_215 rfl (lv_at hl 2 rfl) ?_
      refine lv_iadd S.1 S.2.1 dX12_readText_216 ?_
      refine lv_topi (fun y216 ey216 => ?_)
      have hw := hw y216 ey216
      refine lv_aload_n S.1 S.2.1 dX12_readText_217 rfl (lv_at hl 0 rfl) ?_
      refine m_get S hin hI 0 (W12_at0 h r cs u206) rfl 21 (Nat.le_of_ble_eq_true rfl) (List.mem_of_getElem? (i := 10) rfl) rfl (Ff12_at21 r u206) dX12_readText_218 ?_
      refine lv_bipush (v := 61) S.1 S.2.1 dX12_readText_221 (by decide) ?_
      refine lv_iload_n S.1 S.2.1 dX12_readText_223 rfl (lv_at hl 2 rfl) ?_
      refine lv_iadd S.1 S.2.1 dX12_readText_224 ?_
      refine lv_topi (fun y224 ey224 => ?_)
      have hw := hw y224 ey224
      refine m_sald S hI 10 2 (W12_at10 h r cs u206) rfl hw.1 dX12_readText_225 ?_
      refine lv_topi (fun y225 ey225 => ?_)
      have hw := hw.2 y225 ey225
      obtain ⟨u226, eu226⟩ : ∃ z : ST, z = sA u206 21 (upd (gA u206 21) y216.toNatClampNeg (vp_nar .short y225)) := ⟨_, rfl⟩
      refine m_sast S hI 10 2 (W12_at10 h r cs u206) rfl hw.1 (W12_sA21 h r cs u206 u226 _ eu226) dX12_readText_226 (fun H locs hI => ?_)
      have hw := hw.2 u226 eu226
      obtain ⟨y227, ey227⟩ : ∃ z : Int32, z = x2 + 1 := ⟨_, rfl⟩
      have hw := hw y227 ey227
      refine lv_iinc (v := y227) (lv' := [(2, .int y227), (0, .ref h), (1, .int x1)]) S.1 S.2.1 dX12_readText_227 hl (k := 2) rfl (by rw [ey227]; rfl) (by decide) rfl (fun ls hl => ?_)
      refine lv_goto (tgt := 177) S.1 S.2.1 dX12_readText_230 (by decide) ?_
      exact hB177 x1 y227 u226 hw H locs ls hI (lv_sub hl [1, 2, 0] rfl)
  have b177 : ∀ (x1 : Int32) (x2 : Int32) (u : ST), wp_X12_readText_p177 x1 x2 u Q → mGo p l e ({ frames := 65, cells := 0, slots := 0, locals := 1661 } : Room) s m args below meth c A Z 3 D (mT cs) (W12 h r cs) 177 [(0, .ref h), (1, .int x1), (2, .int x2)] [] u := by
    intro x1 x2 u hw
    obtain ⟨I, μ, h0, hs⟩ := hw
    have key : ∀ (n : Nat) (x1 : Int32) (x2 : Int32) (u : ST), μ x1 x2 u = n → I x1 x2 u → mGo p l e ({ frames := 65, cells := 0, slots := 0, locals := 1661 } : Room) s m args below meth c A Z 3 D (mT cs) (W12 h r cs) 177 [(0, .ref h), (1, .int x1), (2, .int x2)] [] u := by
      intro n
      induction n using Nat.strongRecOn with
      | ind n ih =>
        intro x1 x2 u hn hi
        exact b177b (fun yx1 yx2 yu => I yx1 yx2 yu ∧ μ yx1 yx2 yu < μ x1 x2 u) (fun yx1 yx2 yu hb => ih _ (hn ▸ hb.2) yx1 yx2 yu rfl hb.1) x1 x2 u (hs x1 x2 u hi)
    exact key _ x1 x2 u rfl h0
  have b105b : ∀ (B105 : Int32 → Int32 → ST → Prop), (∀ (x1 : Int32) (x2 : Int32) (u : ST), B105 x1 x2 u → mGo p l e ({ frames := 65, cells := 0, slots := 0, locals := 1661 } : Room) s m args below meth c A Z 3 D (mT cs) (W12 h r cs) 105 [(0, .ref h), (1, .int x1), (2, .int x2)] [] u) → ∀ (x1 : Int32) (x2 : Int32) (u : ST), wp_X12_readText_p105b x1 x2 u B105 Q → mGo p l e ({ frames := 65, cells := 0, slots := 0, locals := 1661 } : Room) s m args below meth c A Z 3 D (mT cs) (W12 h r cs) 105 [(0, .ref h), (1, .int x1), (2, .int x2)] [] u := by
    intro B105 hB105 x1 x2 u hw H locs ls hI hl
    unfold wp_X12_readText_p105b at hw
    refine lv_iload_n S.1 S.2.1 dX12_readText_105 rfl (lv_at hl 2 rfl) ?_
    refine lv_aload_n S.1 S.2.1 dX12_readText_106 rfl (lv_at hl 0 rfl) ?_
    refine m_get S hin hI 0 (W12_at0 h r cs u) rfl 16 (Nat.le_of_ble_eq_true rfl) (List.mem_of_getElem? (i := 4) rfl) rfl (Ff12_at16 r u) dX12_readText_107 ?_
    refine lv_icmp_ge (tgt := 163) S.1 S.2.1 dX12_readText_110 (by decide) (fun c110 => ?_) (fun c110 => ?_)
    · have hw := hw.1 c110
      refine lv_aload_n S.1 S.2.1 dX12_readText_163 rfl (lv_at hl 0 rfl) ?_
      refine m_get S hin hI 0 (W12_at0 h r cs u) rfl 19 (Nat.le_of_ble_eq_true rfl) (List.mem_of_getElem? (i := 5) rfl) rfl (Ff12_at19 r u) dX12_readText_164 ?_
      refine lv_iload_n S.1 S.2.1 dX12_readText_167 rfl (lv_at hl 1 rfl) ?_
      refine lv_aload_n S.1 S.2.1 dX12_readText_168 rfl (lv_at hl 0 rfl) ?_
      refine m_get S hin hI 0 (W12_at0 h r cs u) rfl 19 (Nat.le_of_ble_eq_true rfl) (List.mem_of_getElem? (i := 5) rfl) rfl (Ff12_at19 r u) dX12_readText_169 ?_
      refine lv_iconst (v := 1) S.1 S.2.1 dX12_readText_172 (by decide) ?_
      refine m_iald S hI 8 0 (W12_at8 h r cs u) rfl hw.1 dX12_readText_173 ?_
      refine lv_topi (fun y173 ey173 => ?_)
      have hw := hw.2 y173 ey173
      obtain ⟨u174, eu174⟩ : ∃ z : ST, z = sA u 19 (upd (gA u 19) x1.toNatClampNeg y173) := ⟨_, rfl⟩
      refine m_iast S hI 8 0 (W12_at8 h r cs u) rfl hw.1 (W12_sA19 h r cs u u174 _ eu174) dX12_readText_174 (fun H locs hI => ?_)
      have hw := hw.2 u174 eu174
      refine lv_iconst (v := 0) S.1 S.2.1 dX12_readText_175 (by decide) ?_
      refine lv_istore_n (lv' := [(2, .int (0 : Int32)), (0, .ref h), (1, .int x1)]) S.1 S.2.1 dX12_readText_176 rfl hl (by decide) rfl (fun ls hl => ?_)
      exact b177 x1 (0 : Int32) u174 hw H locs ls hI (lv_sub hl [1, 2, 0] rfl)
    · have hw := hw.2 c110
      refine lv_aload_n S.1 S.2.1 dX12_readText_113 rfl (lv_at hl 0 rfl) ?_
      refine m_get S hin hI 0 (W12_at0 h r cs u) rfl 17 (Nat.le_of_ble_eq_true rfl) (List.mem_of_getElem? (i := 7) rfl) rfl (Ff12_at17 r u) dX12_readText_114 ?_
      refine lv_sipush (v := 130) S.1 S.2.1 dX12_readText_117 (by decide) ?_
      refine lv_iload_n S.1 S.2.1 dX12_readText_120 rfl (lv_at hl 1 rfl) ?_
      refine lv_imul S.1 S.2.1 dX12_readText_121 ?_
      refine lv_topi (fun y121 ey121 => ?_)
      have hw := hw y121 ey121
      refine lv_iload_n S.1 S.2.1 dX12_readText_122 rfl (lv_at hl 2 rfl) ?_
      refine lv_iadd S.1 S.2.1 dX12_readText_123 ?_
      refine lv_topi (fun y123 ey123 => ?_)
      have hw := hw y123 ey123
      refine lv_aload_n S.1 S.2.1 dX12_readText_124 rfl (lv_at hl 0 rfl) ?_
      refine m_get S hin hI 0 (W12_at0 h r cs u) rfl 17 (Nat.le_of_ble_eq_true rfl) (List.mem_of_getElem? (i := 7) rfl) rfl (Ff12_at17 r u) dX12_readText_125 ?_
      refine lv_sipush (v := 130) S.1 S.2.1 dX12_readText_128 (by decide) ?_
      refine lv_iload_n S.1 S.2.1 dX12_readText_131 rfl (lv_at hl 2 rfl) ?_
      refine lv_iadd S.1 S.2.1 dX12_readText_132 ?_
      refine lv_topi (fun y132 ey132 => ?_)
      have hw := hw y132 ey132
      refine m_bald S hI 6 1 (W12_at6 h r cs u) rfl hw.1 dX12_readText_133 ?_
      refine lv_topi (fun y133 ey133 => ?_)
      have hw := hw.2 y133 ey133
      obtain ⟨u134, eu134⟩ : ∃ z : ST, z = sA u 17 (upd (gA u 17) y123.toNatClampNeg (vp_nar .byte y133)) := ⟨_, rfl⟩
      refine m_bast S hI 6 1 (W12_at6 h r cs u) rfl hw.1 (W12_sA17 h r cs u u134 _ eu134) dX12_readText_134 (fun H locs hI => ?_)
      have hw := hw.2 u134 eu134
      refine lv_aload_n S.1 S.2.1 dX12_readText_135 rfl (lv_at hl 0 rfl) ?_
      refine m_get S hin hI 0 (W12_at0 h r cs u134) rfl 18 (Nat.le_of_ble_eq_true rfl) (List.mem_of_getElem? (i := 8) rfl) rfl (Ff12_at18 r u134) dX12_readText_136 ?_
      refine lv_sipush (v := 130) S.1 S.2.1 dX12_readText_139 (by decide) ?_
      refine lv_iload_n S.1 S.2.1 dX12_readText_142 rfl (lv_at hl 1 rfl) ?_
      refine lv_imul S.1 S.2.1 dX12_readText_143 ?_
      refine lv_topi (fun y143 ey143 => ?_)
      have hw := hw y143 ey143
      refine lv_iload_n S.1 S.2.1 dX12_readText_144 rfl (lv_at hl 2 rfl) ?_
      refine lv_iadd S.1 S.2.1 dX12_readText_145 ?_
      refine lv_topi (fun y145 ey145 => ?_)
      have hw := hw y145 ey145
      refine lv_aload_n S.1 S.2.1 dX12_readText_146 rfl (lv_at hl 0 rfl) ?_
      refine m_get S hin hI 0 (W12_at0 h r cs u134) rfl 18 (Nat.le_of_ble_eq_true rfl) (List.mem_of_getElem? (i := 8) rfl) rfl (Ff12_at18 r u134) dX12_readText_147 ?_
      refine lv_sipush (v := 130) S.1 S.2.1 dX12_readText_150 (by decide) ?_
      refine lv_iload_n S.1 S.2.1 dX12_readText_153 rfl (lv_at hl 2 rfl) ?_
      refine lv_iadd S.1 S.2.1 dX12_readText_154 ?_
      refine lv_topi (fun y154 ey154 => ?_)
      have hw := hw y154 ey154
      refine m_iald S hI 7 0 (W12_at7 h r cs u134) rfl hw.1 dX12_readText_155 ?_
      refine lv_topi (fun y155 ey155 => ?_)
      have hw := hw.2 y155 ey155
      obtain ⟨u156, eu156⟩ : ∃ z : ST, z = sA u134 18 (upd (gA u134 18) y145.toNatClampNeg y155) := ⟨_, rfl⟩
      refine m_iast S hI 7 0 (W12_at7 h r cs u134) rfl hw.1 (W12_sA18 h r cs u134 u156 _ eu156) dX12_readText_156 (fun H locs hI => ?_)
      have hw := hw.2 u156 eu156
      obtain ⟨y157, ey157⟩ : ∃ z : Int32, z = x2 + 1 := ⟨_, rfl⟩
      have hw := hw y157 ey157
      refine lv_iinc (v := y157) (lv' := [(2, .int y157), (0, .ref h), (1, .int x1)]) S.1 S.2.1 dX12_readText_157 hl (k := 2) rfl (by rw [ey157]; rfl) (by decide) rfl (fun ls hl => ?_)
      refine lv_goto (tgt := 105) S.1 S.2.1 dX12_readText_160 (by decide) ?_
      exact hB105 x1 y157 u156 hw H locs ls hI (lv_sub hl [1, 2, 0] rfl)
  have b105 : ∀ (x1 : Int32) (x2 : Int32) (u : ST), wp_X12_readText_p105 x1 x2 u Q → mGo p l e ({ frames := 65, cells := 0, slots := 0, locals := 1661 } : Room) s m args below meth c A Z 3 D (mT cs) (W12 h r cs) 105 [(0, .ref h), (1, .int x1), (2, .int x2)] [] u := by
    intro x1 x2 u hw
    obtain ⟨I, μ, h0, hs⟩ := hw
    have key : ∀ (n : Nat) (x1 : Int32) (x2 : Int32) (u : ST), μ x1 x2 u = n → I x1 x2 u → mGo p l e ({ frames := 65, cells := 0, slots := 0, locals := 1661 } : Room) s m args below meth c A Z 3 D (mT cs) (W12 h r cs) 105 [(0, .ref h), (1, .int x1), (2, .int x2)] [] u := by
      intro n
      induction n using Nat.strongRecOn with
      | ind n ih =>
        intro x1 x2 u hn hi
        exact b105b (fun yx1 yx2 yu => I yx1 yx2 yu ∧ μ yx1 yx2 yu < μ x1 x2 u) (fun yx1 yx2 yu hb => ih _ (hn ▸ hb.2) yx1 yx2 yu rfl hb.1) x1 x2 u (hs x1 x2 u hi)
    exact key _ x1 x2 u rfl h0
  have b86 : ∀ (x1 : Int32) (u : ST), wp_X12_readText_p86 x1 u Q → mGo p l e ({ frames := 65, cells := 0, slots := 0, locals := 1661 } : Room) s m args below meth c A Z 3 D (mT cs) (W12 h r cs) 86 [(0, .ref h), (1, .int x1)] [] u := by
    intro x1 u hw H locs ls hI hl
    unfold wp_X12_readText_p86 at hw
    refine lv_aload_n S.1 S.2.1 dX12_readText_86 rfl (lv_at hl 0 rfl) ?_
    refine lv_iconst (v := 0) S.1 S.2.1 dX12_readText_87 (by decide) ?_
    obtain ⟨u88, eu88⟩ : ∃ z : ST, z = sI u 12 (0 : Int32) := ⟨_, rfl⟩
    have hw := hw u88 eu88
    refine m_put S hin tyX12_ok nmX12 hI 0 (W12_at0 h r cs u) rfl 12 (Nat.le_of_ble_eq_true rfl) (List.mem_of_getElem? (i := 6) rfl) rfl rfl rfl rfl (Nat.le_of_ble_eq_true rfl) (W12_sI12 h r cs u u88 (0 : Int32) eu88) dX12_readText_88 (fun H locs hI => ?_)
    refine lv_aload_n S.1 S.2.1 dX12_readText_91 rfl (lv_at hl 0 rfl) ?_
    refine m_get S hin hI 0 (W12_at0 h r cs u88) rfl 14 (Nat.le_of_ble_eq_true rfl) (List.mem_of_getElem? (i := 2) rfl) rfl (Ff12_at14 r u88) dX12_readText_92 ?_
    refine lv_if_lt (tgt := 103) S.1 S.2.1 dX12_readText_95 (by decide) (fun c95 => ?_) (fun c95 => ?_)
    · have hw := hw.1 c95
      refine lv_iconst (v := 0) S.1 S.2.1 dX12_readText_103 (by decide) ?_
      refine lv_istore_n (lv' := [(2, .int (0 : Int32)), (0, .ref h), (1, .int x1)]) S.1 S.2.1 dX12_readText_104 rfl hl (by decide) rfl (fun ls hl => ?_)
      exact b105 x1 (0 : Int32) u88 hw H locs ls hI (lv_sub hl [1, 2, 0] rfl)
    · have hw := hw.2 c95
      refine lv_aload_n S.1 S.2.1 dX12_readText_98 rfl (lv_at hl 0 rfl) ?_
      refine m_get S hin hI 0 (W12_at0 h r cs u88) rfl 14 (Nat.le_of_ble_eq_true rfl) (List.mem_of_getElem? (i := 2) rfl) rfl (Ff12_at14 r u88) dX12_readText_99 ?_
      subst hZ
      exact m_iret S hr hlocks hI hw dX12_readText_102
  have b64 : ∀ (x1 : Int32) (u : ST), wp_X12_readText_p64 x1 u Q → mGo p l e ({ frames := 65, cells := 0, slots := 0, locals := 1661 } : Room) s m args below meth c A Z 3 D (mT cs) (W12 h r cs) 64 [(0, .ref h), (1, .int x1)] [] u := by
    intro x1 u hw H locs ls hI hl
    unfold wp_X12_readText_p64 at hw
    refine lv_aload_n S.1 S.2.1 dX12_readText_64 rfl (lv_at hl 0 rfl) ?_
    refine m_get S hin hI 0 (W12_at0 h r cs u) rfl 14 (Nat.le_of_ble_eq_true rfl) (List.mem_of_getElem? (i := 2) rfl) rfl (Ff12_at14 r u) dX12_readText_65 ?_
    refine lv_if_ge (tgt := 86) S.1 S.2.1 dX12_readText_68 (by decide) (fun c68 => ?_) (fun c68 => ?_)
    · have hw := hw.1 c68
      exact b86 x1 u hw H locs ls hI (lv_sub hl [0, 1] rfl)
    · have hw := hw.2 c68
      refine lv_aload_n S.1 S.2.1 dX12_readText_71 rfl (lv_at hl 0 rfl) ?_
      refine m_get S hin hI 0 (W12_at0 h r cs u) rfl 13 (Nat.le_of_ble_eq_true rfl) (List.mem_of_getElem? (i := 1) rfl) rfl (Ff12_at13 r u) dX12_readText_72 ?_
      refine lv_aload_n S.1 S.2.1 dX12_readText_75 rfl (lv_at hl 0 rfl) ?_
      refine m_get S hin hI 0 (W12_at0 h r cs u) rfl 12 (Nat.le_of_ble_eq_true rfl) (List.mem_of_getElem? (i := 6) rfl) rfl (Ff12_at12 r u) dX12_readText_76 ?_
      refine lv_icmp_ge (tgt := 86) S.1 S.2.1 dX12_readText_79 (by decide) (fun c79 => ?_) (fun c79 => ?_)
      · have hw := hw.1 c79
        exact b86 x1 u hw H locs ls hI (lv_sub hl [0, 1] rfl)
      · have hw := hw.2 c79
        refine lv_aload_n S.1 S.2.1 dX12_readText_82 rfl (lv_at hl 0 rfl) ?_
        refine m_vv (As := []) (rest := []) S (W12_self h r cs) hI rfl (c_X12_faulty l D h r cs u _ hw) (cwV 0 S.2.2.2.2 gX12_readText_X12_faulty rfl rfl rfl (by decide +kernel) ⟨Nat.le_of_ble_eq_true rfl, Nat.le_of_ble_eq_true rfl⟩) (W12_at0 h r cs u) rfl rfl hl.1 rfl (Nat.le_of_ble_eq_true rfl) dX12_readText_83 ⟨Nat.zero_le _, Nat.zero_le _⟩ (fun u83 H locs hw hI => ?_)
        exact b86 x1 u83 hw H locs ls hI (lv_sub hl [0, 1] rfl)
  have b31b : ∀ (B31 : Int32 → ST → Prop), (∀ (x1 : Int32) (u : ST), B31 x1 u → mGo p l e ({ frames := 65, cells := 0, slots := 0, locals := 1661 } : Room) s m args below meth c A Z 3 D (mT cs) (W12 h r cs) 31 [(0, .ref h), (1, .int x1)] [] u) → ∀ (x1 : Int32) (u : ST), wp_X12_readText_p31b x1 u B31 Q → mGo p l e ({ frames := 65, cells := 0, slots := 0, locals := 1661 } : Room) s m args below meth c A Z 3 D (mT cs) (W12 h r cs) 31 [(0, .ref h), (1, .int x1)] [] u := by
    intro B31 hB31 x1 u hw H locs ls hI hl
    unfold wp_X12_readText_p31b at hw
    refine lv_aload_n S.1 S.2.1 dX12_readText_31 rfl (lv_at hl 0 rfl) ?_
    refine m_get S hin hI 0 (W12_at0 h r cs u) rfl 14 (Nat.le_of_ble_eq_true rfl) (List.mem_of_getElem? (i := 2) rfl) rfl (Ff12_at14 r u) dX12_readText_32 ?_
    refine lv_if_ge (tgt := 64) S.1 S.2.1 dX12_readText_35 (by decide) (fun c35 => ?_) (fun c35 => ?_)
    · have hw := hw.1 c35
      exact b64 x1 u hw H locs ls hI (lv_sub hl [0, 1] rfl)
    · have hw := hw.2 c35
      refine lv_aload_n S.1 S.2.1 dX12_readText_38 rfl (lv_at hl 0 rfl) ?_
      refine m_vi (As := []) (rest := []) S (W12_self h r cs) hI rfl (c_X12_look l D h r cs u _ hw) (cwV 0 S.2.2.2.2 gX12_readText_X12_look rfl rfl rfl (by decide +kernel) ⟨Nat.le_of_ble_eq_true rfl, Nat.le_of_ble_eq_true rfl⟩) (W12_at0 h r cs u) rfl rfl hl.1 rfl (Nat.le_of_ble_eq_true rfl) dX12_readText_39 ⟨Nat.zero_le _, Nat.zero_le _⟩ (fun y39 u39 H locs hw hI => ?_)
      refine lv_bipush (v := 59) S.1 S.2.1 dX12_readText_42 (by decide) ?_
      refine lv_icmp_ne (tgt := 64) S.1 S.2.1 dX12_readText_44 (by decide) (fun c44 => ?_) (fun c44 => ?_)
      · have hw := hw.1 c44
        exact b64 x1 u39 hw H locs ls hI (lv_sub hl [0, 1] rfl)
      · have hw := hw.2 c44
        refine lv_aload_n S.1 S.2.1 dX12_readText_47 rfl (lv_at hl 0 rfl) ?_
        refine lv_dup S.1 S.2.1 dX12_readText_48 rfl ?_
        refine m_get S hin hI 0 (W12_at0 h r cs u39) rfl 13 (Nat.le_of_ble_eq_true rfl) (List.mem_of_getElem? (i := 1) rfl) rfl (Ff12_at13 r u39) dX12_readText_49 ?_
        refine lv_iconst (v := 1) S.1 S.2.1 dX12_readText_52 (by decide) ?_
        refine lv_iadd S.1 S.2.1 dX12_readText_53 ?_
        refine lv_topi (fun y53 ey53 => ?_)
        have hw := hw y53 ey53
        obtain ⟨u54, eu54⟩ : ∃ z : ST, z = sI u39 13 y53 := ⟨_, rfl⟩
        have hw := hw u54 eu54
        refine m_put S hin tyX12_ok nmX12 hI 0 (W12_at0 h r cs u39) rfl 13 (Nat.le_of_ble_eq_true rfl) (List.mem_of_getElem? (i := 1) rfl) rfl rfl rfl rfl (Nat.le_of_ble_eq_true rfl) (W12_sI13 h r cs u39 u54 y53 eu54) dX12_readText_54 (fun H locs hI => ?_)
        refine lv_aload_n S.1 S.2.1 dX12_readText_57 rfl (lv_at hl 0 rfl) ?_
        refine m_vv (As := []) (rest := []) S (W12_self h r cs) hI rfl (c_X12_line l D h r cs u54 _ hw) (cwV 0 S.2.2.2.2 gX12_readText_X12_line rfl rfl rfl (by decide +kernel) ⟨Nat.le_of_ble_eq_true rfl, Nat.le_of_ble_eq_true rfl⟩) (W12_at0 h r cs u54) rfl rfl hl.1 rfl (Nat.le_of_ble_eq_true rfl) dX12_readText_58 ⟨Nat.zero_le _, Nat.zero_le _⟩ (fun u58 H locs hw hI => ?_)
        refine lv_goto (tgt := 31) S.1 S.2.1 dX12_readText_61 (by decide) ?_
        exact hB31 x1 u58 hw H locs ls hI (lv_sub hl [0, 1] rfl)
  have b31 : ∀ (x1 : Int32) (u : ST), wp_X12_readText_p31 x1 u Q → mGo p l e ({ frames := 65, cells := 0, slots := 0, locals := 1661 } : Room) s m args below meth c A Z 3 D (mT cs) (W12 h r cs) 31 [(0, .ref h), (1, .int x1)] [] u := by
    intro x1 u hw
    obtain ⟨I, μ, h0, hs⟩ := hw
    have key : ∀ (n : Nat) (x1 : Int32) (u : ST), μ x1 u = n → I x1 u → mGo p l e ({ frames := 65, cells := 0, slots := 0, locals := 1661 } : Room) s m args below meth c A Z 3 D (mT cs) (W12 h r cs) 31 [(0, .ref h), (1, .int x1)] [] u := by
      intro n
      induction n using Nat.strongRecOn with
      | ind n ih =>
        intro x1 u hn hi
        exact b31b (fun yx1 yu => I yx1 yu ∧ μ yx1 yu < μ x1 u) (fun yx1 yu hb => ih _ (hn ▸ hb.2) yx1 yu rfl hb.1) x1 u (hs x1 u hi)
    exact key _ x1 u rfl h0
  unfold wp_X12_readText at hw
  obtain ⟨H, hH⟩ : ∃ z : Heap, z = s.heap := ⟨_, rfl⟩
  obtain ⟨locs, hL⟩ : ∃ z : List Loc, z = [] := ⟨_, rfl⟩
  rw [show W p l e ({ frames := 65, cells := 0, slots := 0, locals := 1661 } : Room) s m args below meth c s.heap [] 0 0 Z (F0 m 0 ls []) = W p l e ({ frames := 65, cells := 0, slots := 0, locals := 1661 } : Room) s m args below meth c H locs 0 0 Z (F0 m 0 ls []) by rw [hH, hL]]
  replace hI : mI D (mT cs) A s.heap s (W12 h r cs u) H locs := by rw [hH, hL]; exact hI
  refine lv_aload_n S.1 S.2.1 dX12_readText_0 rfl (lv_at hl 0 rfl) ?_
  refine lv_iconst (v := 0) S.1 S.2.1 dX12_readText_1 (by decide) ?_
  obtain ⟨u2, eu2⟩ : ∃ z : ST, z = sI u 13 (0 : Int32) := ⟨_, rfl⟩
  have hw := hw u2 eu2
  refine m_put S hin tyX12_ok nmX12 hI 0 (W12_at0 h r cs u) rfl 13 (Nat.le_of_ble_eq_true rfl) (List.mem_of_getElem? (i := 1) rfl) rfl rfl rfl rfl (Nat.le_of_ble_eq_true rfl) (W12_sI13 h r cs u u2 (0 : Int32) eu2) dX12_readText_2 (fun H locs hI => ?_)
  refine lv_aload_n S.1 S.2.1 dX12_readText_5 rfl (lv_at hl 0 rfl) ?_
  refine lv_iconst (v := (-1)) S.1 S.2.1 dX12_readText_6 (by decide) ?_
  obtain ⟨u7, eu7⟩ : ∃ z : ST, z = sI u2 14 ((-1) : Int32) := ⟨_, rfl⟩
  have hw := hw u7 eu7
  refine m_put S hin tyX12_ok nmX12 hI 0 (W12_at0 h r cs u2) rfl 14 (Nat.le_of_ble_eq_true rfl) (List.mem_of_getElem? (i := 2) rfl) rfl rfl rfl rfl (Nat.le_of_ble_eq_true rfl) (W12_sI14 h r cs u2 u7 ((-1) : Int32) eu7) dX12_readText_7 (fun H locs hI => ?_)
  refine lv_aload_n S.1 S.2.1 dX12_readText_10 rfl (lv_at hl 0 rfl) ?_
  refine lv_iconst (v := 0) S.1 S.2.1 dX12_readText_11 (by decide) ?_
  obtain ⟨u12, eu12⟩ : ∃ z : ST, z = sI u7 15 (0 : Int32) := ⟨_, rfl⟩
  have hw := hw u12 eu12
  refine m_put S hin tyX12_ok nmX12 hI 0 (W12_at0 h r cs u7) rfl 15 (Nat.le_of_ble_eq_true rfl) (List.mem_of_getElem? (i := 3) rfl) rfl rfl rfl rfl (Nat.le_of_ble_eq_true rfl) (W12_sI15 h r cs u7 u12 (0 : Int32) eu12) dX12_readText_12 (fun H locs hI => ?_)
  refine lv_aload_n S.1 S.2.1 dX12_readText_15 rfl (lv_at hl 0 rfl) ?_
  refine lv_iconst (v := 0) S.1 S.2.1 dX12_readText_16 (by decide) ?_
  obtain ⟨u17, eu17⟩ : ∃ z : ST, z = sI u12 16 (0 : Int32) := ⟨_, rfl⟩
  have hw := hw u17 eu17
  refine m_put S hin tyX12_ok nmX12 hI 0 (W12_at0 h r cs u12) rfl 16 (Nat.le_of_ble_eq_true rfl) (List.mem_of_getElem? (i := 4) rfl) rfl rfl rfl rfl (Nat.le_of_ble_eq_true rfl) (W12_sI16 h r cs u12 u17 (0 : Int32) eu17) dX12_readText_17 (fun H locs hI => ?_)
  refine lv_aload_n S.1 S.2.1 dX12_readText_20 rfl (lv_at hl 0 rfl) ?_
  refine m_get S hin hI 0 (W12_at0 h r cs u17) rfl 19 (Nat.le_of_ble_eq_true rfl) (List.mem_of_getElem? (i := 5) rfl) rfl (Ff12_at19 r u17) dX12_readText_21 ?_
  refine lv_iconst (v := 1) S.1 S.2.1 dX12_readText_24 (by decide) ?_
  refine lv_iconst (v := 0) S.1 S.2.1 dX12_readText_25 (by decide) ?_
  obtain ⟨u26, eu26⟩ : ∃ z : ST, z = sA u17 19 (upd (gA u17 19) (1 : Int32).toNatClampNeg (0 : Int32)) := ⟨_, rfl⟩
  refine m_iast S hI 8 0 (W12_at8 h r cs u17) rfl hw.1 (W12_sA19 h r cs u17 u26 _ eu26) dX12_readText_26 (fun H locs hI => ?_)
  have hw := hw.2 u26 eu26
  refine lv_aload_n S.1 S.2.1 dX12_readText_27 rfl (lv_at hl 0 rfl) ?_
  refine m_vv (As := []) (rest := []) S (W12_self h r cs) hI rfl (c_X12_line l D h r cs u26 _ hw) (cwV 0 S.2.2.2.2 gX12_readText_X12_line rfl rfl rfl (by decide +kernel) ⟨Nat.le_of_ble_eq_true rfl, Nat.le_of_ble_eq_true rfl⟩) (W12_at0 h r cs u26) rfl rfl hl.1 rfl (Nat.le_of_ble_eq_true rfl) dX12_readText_28 ⟨Nat.zero_le _, Nat.zero_le _⟩ (fun u28 H locs hw hI => ?_)
  exact b31 a1 u28 hw H locs ls hI (lv_sub hl [0, 1] rfl)

def wp_X12_twoOf_p170 (t0 : Int32) (Q : Int32 → Prop) : Prop :=
  Q t0
def wp_X12_twoOf_p163 (Q : Int32 → Prop) : Prop :=
  wp_X12_twoOf_p170 (0 : Int32) Q
def wp_X12_twoOf_p217 (t0 : Int32) (Q : Int32 → Prop) : Prop :=
  Q t0
def wp_X12_twoOf_p216 (Q : Int32 → Prop) : Prop :=
  wp_X12_twoOf_p217 (0 : Int32) Q
def wp_X12_twoOf_p153 (t0 : Int32) (Q : Int32 → Prop) : Prop :=
  Q t0
def wp_X12_twoOf_p181 (t0 : Int32) (Q : Int32 → Prop) : Prop :=
  Q t0
def wp_X12_twoOf_p192 (t0 : Int32) (Q : Int32 → Prop) : Prop :=
  Q t0
def wp_X12_twoOf_p203 (t0 : Int32) (Q : Int32 → Prop) : Prop :=
  Q t0
def wp_X12_twoOf_p231 (t0 : Int32) (Q : Int32 → Prop) : Prop :=
  Q t0
def wp_X12_twoOf_p226 (Q : Int32 → Prop) : Prop :=
  wp_X12_twoOf_p231 (1 : Int32) Q
def wp_X12_twoOf (a0 : Int32) (a1 : Int32) (a2 : Int32) (Q : Int32 → Prop) : Prop :=
  ((a0 = 37 → ((a2 = 0 → wp_X12_twoOf_p163 Q) ∧ (¬ a2 = 0 → ((¬ a2 = ((-1) : Int32) → (¬ a2 = 0 ∧ ∀ y169 : Int32, y169 = a1 - a1 / a2 * a2 → wp_X12_twoOf_p170 y169 Q)) ∧ (a2 = ((-1) : Int32) → wp_X12_twoOf_p163 Q))))) ∧ (¬ a0 = 37 → ((a0 = 38 → ((a1 = 0 → wp_X12_twoOf_p216 Q) ∧ (¬ a1 = 0 → ((a2 = 0 → wp_X12_twoOf_p216 Q) ∧ (¬ a2 = 0 → wp_X12_twoOf_p217 (1 : Int32) Q))))) ∧ (¬ a0 = 38 → ((a0 = 42 → (∀ y130 : Int32, y130 = a1 * a2 → Q y130)) ∧ (¬ a0 = 42 → ((a0 = 43 → (∀ y122 : Int32, y122 = a1 + a2 → Q y122)) ∧ (¬ a0 = 43 → ((a0 = 45 → (∀ y126 : Int32, y126 = a1 - a2 → Q y126)) ∧ (¬ a0 = 45 → ((a0 = 47 → ((¬ a2 = 0 → ((¬ a2 = ((-1) : Int32) → (¬ a2 = 0 ∧ ∀ y152 : Int32, y152 = a1 / a2 → wp_X12_twoOf_p153 y152 Q)) ∧ (a2 = ((-1) : Int32) → (∀ y146 : Int32, y146 = -a1 → wp_X12_twoOf_p153 y146 Q)))) ∧ (a2 = 0 → wp_X12_twoOf_p153 (0 : Int32) Q))) ∧ (¬ a0 = 47 → ((a0 = 60 → ((a2 ≤ a1 → wp_X12_twoOf_p181 (0 : Int32) Q) ∧ (¬ a2 ≤ a1 → wp_X12_twoOf_p181 (1 : Int32) Q))) ∧ (¬ a0 = 60 → ((a0 = 61 → ((¬ a1 = a2 → wp_X12_twoOf_p192 (0 : Int32) Q) ∧ (a1 = a2 → wp_X12_twoOf_p192 (1 : Int32) Q))) ∧ (¬ a0 = 61 → ((a0 = 62 → ((a1 ≤ a2 → wp_X12_twoOf_p203 (0 : Int32) Q) ∧ (¬ a1 ≤ a2 → wp_X12_twoOf_p203 (1 : Int32) Q))) ∧ (¬ a0 = 62 → ((¬ a1 = 0 → wp_X12_twoOf_p226 Q) ∧ (a1 = 0 → ((a2 = 0 → wp_X12_twoOf_p231 (0 : Int32) Q) ∧ (¬ a2 = 0 → wp_X12_twoOf_p226 Q))))))))))))))))))))))
set_option maxHeartbeats 4000000 in
set_option maxRecDepth 100000 in
theorem c_X12_twoOf (l : Launch) (a0 : Int32) (a1 : Int32) (a2 : Int32) (Q : Int32 → Prop) (hw : wp_X12_twoOf a0 a1 a2 Q) : mTi l yX12_twoOf wsX12_twoOf ({ frames := 0, cells := 0, slots := 0, locals := 0 } : Room) [.int a0, .int a1, .int a2] Q := by
  refine m_enterT (cc := cX12_twoOf) (maxL := 3) (ret := (some .int)) (by decide) rfl (Nat.le_of_ble_eq_true rfl) ?_
  intro p e s m args below meth c ls S hr hlocks hname hl hN
  have S : CallFix p m c cX12_twoOf 3 s args wsX12_twoOf RX12 := S
  generalize hZ : MQ below (vp_Si Q) args s 0 0 (fun _ => False) = Z
  have hl : lv_has ls 3 [(0, .int a0), (1, .int a1), (2, .int a2)] := hl
  have b170 : ∀ (t0 : Int32), wp_X12_twoOf_p170 t0 Q → mGt p l e ({ frames := 0, cells := 0, slots := 0, locals := 0 } : Room) s m args below meth c Z 3 170 [] [.int t0] := by
    intro t0 hw ls hl
    unfold wp_X12_twoOf_p170 at hw
    subst hZ
    exact m_tiret S hr hlocks hw dX12_twoOf_170
  have b163 : wp_X12_twoOf_p163 Q → mGt p l e ({ frames := 0, cells := 0, slots := 0, locals := 0 } : Room) s m args below meth c Z 3 163 [] [] := by
    intro hw ls hl
    unfold wp_X12_twoOf_p163 at hw
    refine lv_iconst (v := 0) S.1 S.2.1 dX12_twoOf_163 (by decide) ?_
    refine lv_goto (tgt := 170) S.1 S.2.1 dX12_twoOf_164 (by decide) ?_
    exact b170 (0 : Int32) hw ls (lv_sub hl [] rfl)
  have b217 : ∀ (t0 : Int32), wp_X12_twoOf_p217 t0 Q → mGt p l e ({ frames := 0, cells := 0, slots := 0, locals := 0 } : Room) s m args below meth c Z 3 217 [] [.int t0] := by
    intro t0 hw ls hl
    unfold wp_X12_twoOf_p217 at hw
    subst hZ
    exact m_tiret S hr hlocks hw dX12_twoOf_217
  have b216 : wp_X12_twoOf_p216 Q → mGt p l e ({ frames := 0, cells := 0, slots := 0, locals := 0 } : Room) s m args below meth c Z 3 216 [] [] := by
    intro hw ls hl
    unfold wp_X12_twoOf_p216 at hw
    refine lv_iconst (v := 0) S.1 S.2.1 dX12_twoOf_216 (by decide) ?_
    exact b217 (0 : Int32) hw ls (lv_sub hl [] rfl)
  have b153 : ∀ (t0 : Int32), wp_X12_twoOf_p153 t0 Q → mGt p l e ({ frames := 0, cells := 0, slots := 0, locals := 0 } : Room) s m args below meth c Z 3 153 [] [.int t0] := by
    intro t0 hw ls hl
    unfold wp_X12_twoOf_p153 at hw
    subst hZ
    exact m_tiret S hr hlocks hw dX12_twoOf_153
  have b181 : ∀ (t0 : Int32), wp_X12_twoOf_p181 t0 Q → mGt p l e ({ frames := 0, cells := 0, slots := 0, locals := 0 } : Room) s m args below meth c Z 3 181 [] [.int t0] := by
    intro t0 hw ls hl
    unfold wp_X12_twoOf_p181 at hw
    subst hZ
    exact m_tiret S hr hlocks hw dX12_twoOf_181
  have b192 : ∀ (t0 : Int32), wp_X12_twoOf_p192 t0 Q → mGt p l e ({ frames := 0, cells := 0, slots := 0, locals := 0 } : Room) s m args below meth c Z 3 192 [] [.int t0] := by
    intro t0 hw ls hl
    unfold wp_X12_twoOf_p192 at hw
    subst hZ
    exact m_tiret S hr hlocks hw dX12_twoOf_192
  have b203 : ∀ (t0 : Int32), wp_X12_twoOf_p203 t0 Q → mGt p l e ({ frames := 0, cells := 0, slots := 0, locals := 0 } : Room) s m args below meth c Z 3 203 [] [.int t0] := by
    intro t0 hw ls hl
    unfold wp_X12_twoOf_p203 at hw
    subst hZ
    exact m_tiret S hr hlocks hw dX12_twoOf_203
  have b231 : ∀ (t0 : Int32), wp_X12_twoOf_p231 t0 Q → mGt p l e ({ frames := 0, cells := 0, slots := 0, locals := 0 } : Room) s m args below meth c Z 3 231 [] [.int t0] := by
    intro t0 hw ls hl
    unfold wp_X12_twoOf_p231 at hw
    subst hZ
    exact m_tiret S hr hlocks hw dX12_twoOf_231
  have b226 : wp_X12_twoOf_p226 Q → mGt p l e ({ frames := 0, cells := 0, slots := 0, locals := 0 } : Room) s m args below meth c Z 3 226 [] [] := by
    intro hw ls hl
    unfold wp_X12_twoOf_p226 at hw
    refine lv_iconst (v := 1) S.1 S.2.1 dX12_twoOf_226 (by decide) ?_
    refine lv_goto (tgt := 231) S.1 S.2.1 dX12_twoOf_227 (by decide) ?_
    exact b231 (1 : Int32) hw ls (lv_sub hl [] rfl)
  unfold wp_X12_twoOf at hw
  refine lv_iload_n S.1 S.2.1 dX12_twoOf_0 rfl (lv_at hl 0 rfl) ?_
  by_cases c1_37 : a0 = 37
  · have hw := hw.1 c1_37
    refine lv_tableIn (tgt := 154) S.1 S.2.1 dX12_twoOf_1 (by rw [c1_37] <;> decide) (by rw [c1_37] <;> decide) (by rw [c1_37] <;> rfl) (by decide) ?_
    refine lv_iload_n S.1 S.2.1 dX12_twoOf_154 rfl (lv_at hl 2 rfl) ?_
    refine lv_if_eq (tgt := 163) S.1 S.2.1 dX12_twoOf_155 (by decide) (fun c155 => ?_) (fun c155 => ?_)
    · have hw := hw.1 c155
      exact b163 hw ls (lv_sub hl [] rfl)
    · have hw := hw.2 c155
      refine lv_iload_n S.1 S.2.1 dX12_twoOf_158 rfl (lv_at hl 2 rfl) ?_
      refine lv_iconst (v := (-1)) S.1 S.2.1 dX12_twoOf_159 (by decide) ?_
      refine lv_icmp_ne (tgt := 167) S.1 S.2.1 dX12_twoOf_160 (by decide) (fun c160 => ?_) (fun c160 => ?_)
      · have hw := hw.1 c160
        refine lv_iload_n S.1 S.2.1 dX12_twoOf_167 rfl (lv_at hl 1 rfl) ?_
        refine lv_iload_n S.1 S.2.1 dX12_twoOf_168 rfl (lv_at hl 2 rfl) ?_
        refine lv_irem S.1 S.2.1 dX12_twoOf_169 hw.1 ?_
        have hw := hw.2
        refine lv_topi (fun y169 ey169 => ?_)
        have hw := hw y169 ey169
        exact b170 y169 hw ls (lv_sub hl [] rfl)
      · have hw := hw.2 c160
        exact b163 hw ls (lv_sub hl [] rfl)
  · have hw := hw.2 c1_37
    by_cases c1_38 : a0 = 38
    · have hw := hw.1 c1_38
      refine lv_tableIn (tgt := 204) S.1 S.2.1 dX12_twoOf_1 (by rw [c1_38] <;> decide) (by rw [c1_38] <;> decide) (by rw [c1_38] <;> rfl) (by decide) ?_
      refine lv_iload_n S.1 S.2.1 dX12_twoOf_204 rfl (lv_at hl 1 rfl) ?_
      refine lv_if_eq (tgt := 216) S.1 S.2.1 dX12_twoOf_205 (by decide) (fun c205 => ?_) (fun c205 => ?_)
      · have hw := hw.1 c205
        exact b216 hw ls (lv_sub hl [] rfl)
      · have hw := hw.2 c205
        refine lv_iload_n S.1 S.2.1 dX12_twoOf_208 rfl (lv_at hl 2 rfl) ?_
        refine lv_if_eq (tgt := 216) S.1 S.2.1 dX12_twoOf_209 (by decide) (fun c209 => ?_) (fun c209 => ?_)
        · have hw := hw.1 c209
          exact b216 hw ls (lv_sub hl [] rfl)
        · have hw := hw.2 c209
          refine lv_iconst (v := 1) S.1 S.2.1 dX12_twoOf_212 (by decide) ?_
          refine lv_goto (tgt := 217) S.1 S.2.1 dX12_twoOf_213 (by decide) ?_
          exact b217 (1 : Int32) hw ls (lv_sub hl [] rfl)
    · have hw := hw.2 c1_38
      by_cases c1_42 : a0 = 42
      · have hw := hw.1 c1_42
        refine lv_tableIn (tgt := 128) S.1 S.2.1 dX12_twoOf_1 (by rw [c1_42] <;> decide) (by rw [c1_42] <;> decide) (by rw [c1_42] <;> rfl) (by decide) ?_
        refine lv_iload_n S.1 S.2.1 dX12_twoOf_128 rfl (lv_at hl 1 rfl) ?_
        refine lv_iload_n S.1 S.2.1 dX12_twoOf_129 rfl (lv_at hl 2 rfl) ?_
        refine lv_imul S.1 S.2.1 dX12_twoOf_130 ?_
        refine lv_topi (fun y130 ey130 => ?_)
        have hw := hw y130 ey130
        subst hZ
        exact m_tiret S hr hlocks hw dX12_twoOf_131
      · have hw := hw.2 c1_42
        by_cases c1_43 : a0 = 43
        · have hw := hw.1 c1_43
          refine lv_tableIn (tgt := 120) S.1 S.2.1 dX12_twoOf_1 (by rw [c1_43] <;> decide) (by rw [c1_43] <;> decide) (by rw [c1_43] <;> rfl) (by decide) ?_
          refine lv_iload_n S.1 S.2.1 dX12_twoOf_120 rfl (lv_at hl 1 rfl) ?_
          refine lv_iload_n S.1 S.2.1 dX12_twoOf_121 rfl (lv_at hl 2 rfl) ?_
          refine lv_iadd S.1 S.2.1 dX12_twoOf_122 ?_
          refine lv_topi (fun y122 ey122 => ?_)
          have hw := hw y122 ey122
          subst hZ
          exact m_tiret S hr hlocks hw dX12_twoOf_123
        · have hw := hw.2 c1_43
          by_cases c1_45 : a0 = 45
          · have hw := hw.1 c1_45
            refine lv_tableIn (tgt := 124) S.1 S.2.1 dX12_twoOf_1 (by rw [c1_45] <;> decide) (by rw [c1_45] <;> decide) (by rw [c1_45] <;> rfl) (by decide) ?_
            refine lv_iload_n S.1 S.2.1 dX12_twoOf_124 rfl (lv_at hl 1 rfl) ?_
            refine lv_iload_n S.1 S.2.1 dX12_twoOf_125 rfl (lv_at hl 2 rfl) ?_
            refine lv_isub S.1 S.2.1 dX12_twoOf_126 ?_
            refine lv_topi (fun y126 ey126 => ?_)
            have hw := hw y126 ey126
            subst hZ
            exact m_tiret S hr hlocks hw dX12_twoOf_127
          · have hw := hw.2 c1_45
            by_cases c1_47 : a0 = 47
            · have hw := hw.1 c1_47
              refine lv_tableIn (tgt := 132) S.1 S.2.1 dX12_twoOf_1 (by rw [c1_47] <;> decide) (by rw [c1_47] <;> decide) (by rw [c1_47] <;> rfl) (by decide) ?_
              refine lv_iload_n S.1 S.2.1 dX12_twoOf_132 rfl (lv_at hl 2 rfl) ?_
              refine lv_if_ne (tgt := 140) S.1 S.2.1 dX12_twoOf_133 (by decide) (fun c133 => ?_) (fun c133 => ?_)
              · have hw := hw.1 c133
                refine lv_iload_n S.1 S.2.1 dX12_twoOf_140 rfl (lv_at hl 2 rfl) ?_
                refine lv_iconst (v := (-1)) S.1 S.2.1 dX12_twoOf_141 (by decide) ?_
                refine lv_icmp_ne (tgt := 150) S.1 S.2.1 dX12_twoOf_142 (by decide) (fun c142 => ?_) (fun c142 => ?_)
                · have hw := hw.1 c142
                  refine lv_iload_n S.1 S.2.1 dX12_twoOf_150 rfl (lv_at hl 1 rfl) ?_
                  refine lv_iload_n S.1 S.2.1 dX12_twoOf_151 rfl (lv_at hl 2 rfl) ?_
                  refine lv_idiv S.1 S.2.1 dX12_twoOf_152 hw.1 ?_
                  have hw := hw.2
                  refine lv_topi (fun y152 ey152 => ?_)
                  have hw := hw y152 ey152
                  exact b153 y152 hw ls (lv_sub hl [] rfl)
                · have hw := hw.2 c142
                  refine lv_iload_n S.1 S.2.1 dX12_twoOf_145 rfl (lv_at hl 1 rfl) ?_
                  refine lv_ineg S.1 S.2.1 dX12_twoOf_146 ?_
                  refine lv_topi (fun y146 ey146 => ?_)
                  have hw := hw y146 ey146
                  refine lv_goto (tgt := 153) S.1 S.2.1 dX12_twoOf_147 (by decide) ?_
                  exact b153 y146 hw ls (lv_sub hl [] rfl)
              · have hw := hw.2 c133
                refine lv_iconst (v := 0) S.1 S.2.1 dX12_twoOf_136 (by decide) ?_
                refine lv_goto (tgt := 153) S.1 S.2.1 dX12_twoOf_137 (by decide) ?_
                exact b153 (0 : Int32) hw ls (lv_sub hl [] rfl)
            · have hw := hw.2 c1_47
              by_cases c1_60 : a0 = 60
              · have hw := hw.1 c1_60
                refine lv_tableIn (tgt := 171) S.1 S.2.1 dX12_twoOf_1 (by rw [c1_60] <;> decide) (by rw [c1_60] <;> decide) (by rw [c1_60] <;> rfl) (by decide) ?_
                refine lv_iload_n S.1 S.2.1 dX12_twoOf_171 rfl (lv_at hl 1 rfl) ?_
                refine lv_iload_n S.1 S.2.1 dX12_twoOf_172 rfl (lv_at hl 2 rfl) ?_
                refine lv_icmp_ge (tgt := 180) S.1 S.2.1 dX12_twoOf_173 (by decide) (fun c173 => ?_) (fun c173 => ?_)
                · have hw := hw.1 c173
                  refine lv_iconst (v := 0) S.1 S.2.1 dX12_twoOf_180 (by decide) ?_
                  exact b181 (0 : Int32) hw ls (lv_sub hl [] rfl)
                · have hw := hw.2 c173
                  refine lv_iconst (v := 1) S.1 S.2.1 dX12_twoOf_176 (by decide) ?_
                  refine lv_goto (tgt := 181) S.1 S.2.1 dX12_twoOf_177 (by decide) ?_
                  exact b181 (1 : Int32) hw ls (lv_sub hl [] rfl)
              · have hw := hw.2 c1_60
                by_cases c1_61 : a0 = 61
                · have hw := hw.1 c1_61
                  refine lv_tableIn (tgt := 182) S.1 S.2.1 dX12_twoOf_1 (by rw [c1_61] <;> decide) (by rw [c1_61] <;> decide) (by rw [c1_61] <;> rfl) (by decide) ?_
                  refine lv_iload_n S.1 S.2.1 dX12_twoOf_182 rfl (lv_at hl 1 rfl) ?_
                  refine lv_iload_n S.1 S.2.1 dX12_twoOf_183 rfl (lv_at hl 2 rfl) ?_
                  refine lv_icmp_ne (tgt := 191) S.1 S.2.1 dX12_twoOf_184 (by decide) (fun c184 => ?_) (fun c184 => ?_)
                  · have hw := hw.1 c184
                    refine lv_iconst (v := 0) S.1 S.2.1 dX12_twoOf_191 (by decide) ?_
                    exact b192 (0 : Int32) hw ls (lv_sub hl [] rfl)
                  · have hw := hw.2 c184
                    refine lv_iconst (v := 1) S.1 S.2.1 dX12_twoOf_187 (by decide) ?_
                    refine lv_goto (tgt := 192) S.1 S.2.1 dX12_twoOf_188 (by decide) ?_
                    exact b192 (1 : Int32) hw ls (lv_sub hl [] rfl)
                · have hw := hw.2 c1_61
                  by_cases c1_62 : a0 = 62
                  · have hw := hw.1 c1_62
                    refine lv_tableIn (tgt := 193) S.1 S.2.1 dX12_twoOf_1 (by rw [c1_62] <;> decide) (by rw [c1_62] <;> decide) (by rw [c1_62] <;> rfl) (by decide) ?_
                    refine lv_iload_n S.1 S.2.1 dX12_twoOf_193 rfl (lv_at hl 1 rfl) ?_
                    refine lv_iload_n S.1 S.2.1 dX12_twoOf_194 rfl (lv_at hl 2 rfl) ?_
                    refine lv_icmp_le (tgt := 202) S.1 S.2.1 dX12_twoOf_195 (by decide) (fun c195 => ?_) (fun c195 => ?_)
                    · have hw := hw.1 c195
                      refine lv_iconst (v := 0) S.1 S.2.1 dX12_twoOf_202 (by decide) ?_
                      exact b203 (0 : Int32) hw ls (lv_sub hl [] rfl)
                    · have hw := hw.2 c195
                      refine lv_iconst (v := 1) S.1 S.2.1 dX12_twoOf_198 (by decide) ?_
                      refine lv_goto (tgt := 203) S.1 S.2.1 dX12_twoOf_199 (by decide) ?_
                      exact b203 (1 : Int32) hw ls (lv_sub hl [] rfl)
                  · have hw := hw.2 c1_62
                    by_cases q1 : a0.toInt < 37 ∨ 62 < a0.toInt
                    · refine lv_tableOut (tgt := 218) S.1 S.2.1 dX12_twoOf_1 q1 (by decide) ?_
                      refine lv_iload_n S.1 S.2.1 dX12_twoOf_218 rfl (lv_at hl 1 rfl) ?_
                      refine lv_if_ne (tgt := 226) S.1 S.2.1 dX12_twoOf_219 (by decide) (fun c219 => ?_) (fun c219 => ?_)
                      · have hw := hw.1 c219
                        exact b226 hw ls (lv_sub hl [] rfl)
                      · have hw := hw.2 c219
                        refine lv_iload_n S.1 S.2.1 dX12_twoOf_222 rfl (lv_at hl 2 rfl) ?_
                        refine lv_if_eq (tgt := 230) S.1 S.2.1 dX12_twoOf_223 (by decide) (fun c223 => ?_) (fun c223 => ?_)
                        · have hw := hw.1 c223
                          refine lv_iconst (v := 0) S.1 S.2.1 dX12_twoOf_230 (by decide) ?_
                          exact b231 (0 : Int32) hw ls (lv_sub hl [] rfl)
                        · have hw := hw.2 c223
                          exact b226 hw ls (lv_sub hl [] rfl)
                    · have n1_37 := lv_neT c1_37 (a := 37) rfl
                      have n1_38 := lv_neT c1_38 (a := 38) rfl
                      have n1_42 := lv_neT c1_42 (a := 42) rfl
                      have n1_43 := lv_neT c1_43 (a := 43) rfl
                      have n1_45 := lv_neT c1_45 (a := 45) rfl
                      have n1_47 := lv_neT c1_47 (a := 47) rfl
                      have n1_60 := lv_neT c1_60 (a := 60) rfl
                      have n1_61 := lv_neT c1_61 (a := 61) rfl
                      have n1_62 := lv_neT c1_62 (a := 62) rfl
                      have g1 : a0.toInt = 39 ∨ a0.toInt = 40 ∨ a0.toInt = 41 ∨ a0.toInt = 44 ∨ a0.toInt = 46 ∨ a0.toInt = 48 ∨ a0.toInt = 49 ∨ a0.toInt = 50 ∨ a0.toInt = 51 ∨ a0.toInt = 52 ∨ a0.toInt = 53 ∨ a0.toInt = 54 ∨ a0.toInt = 55 ∨ a0.toInt = 56 ∨ a0.toInt = 57 ∨ a0.toInt = 58 ∨ a0.toInt = 59 := by omega
                      rcases g1 with g1 | g1 | g1 | g1 | g1 | g1 | g1 | g1 | g1 | g1 | g1 | g1 | g1 | g1 | g1 | g1 | g1
                      · refine lv_tableIn (tgt := 218) S.1 S.2.1 dX12_twoOf_1 (by rw [g1] <;> decide) (by rw [g1] <;> decide) (by rw [g1] <;> rfl) (by decide) ?_
                        refine lv_iload_n S.1 S.2.1 dX12_twoOf_218 rfl (lv_at hl 1 rfl) ?_
                        refine lv_if_ne (tgt := 226) S.1 S.2.1 dX12_twoOf_219 (by decide) (fun c219 => ?_) (fun c219 => ?_)
                        · have hw := hw.1 c219
                          exact b226 hw ls (lv_sub hl [] rfl)
                        · have hw := hw.2 c219
                          refine lv_iload_n S.1 S.2.1 dX12_twoOf_222 rfl (lv_at hl 2 rfl) ?_
                          refine lv_if_eq (tgt := 230) S.1 S.2.1 dX12_twoOf_223 (by decide) (fun c223 => ?_) (fun c223 => ?_)
                          · have hw := hw.1 c223
                            refine lv_iconst (v := 0) S.1 S.2.1 dX12_twoOf_230 (by decide) ?_
                            exact b231 (0 : Int32) hw ls (lv_sub hl [] rfl)
                          · have hw := hw.2 c223
                            exact b226 hw ls (lv_sub hl [] rfl)
                      · refine lv_tableIn (tgt := 218) S.1 S.2.1 dX12_twoOf_1 (by rw [g1] <;> decide) (by rw [g1] <;> decide) (by rw [g1] <;> rfl) (by decide) ?_
                        refine lv_iload_n S.1 S.2.1 dX12_twoOf_218 rfl (lv_at hl 1 rfl) ?_
                        refine lv_if_ne (tgt := 226) S.1 S.2.1 dX12_twoOf_219 (by decide) (fun c219 => ?_) (fun c219 => ?_)
                        · have hw := hw.1 c219
                          exact b226 hw ls (lv_sub hl [] rfl)
                        · have hw := hw.2 c219
                          refine lv_iload_n S.1 S.2.1 dX12_twoOf_222 rfl (lv_at hl 2 rfl) ?_
                          refine lv_if_eq (tgt := 230) S.1 S.2.1 dX12_twoOf_223 (by decide) (fun c223 => ?_) (fun c223 => ?_)
                          · have hw := hw.1 c223
                            refine lv_iconst (v := 0) S.1 S.2.1 dX12_twoOf_230 (by decide) ?_
                            exact b231 (0 : Int32) hw ls (lv_sub hl [] rfl)
                          · have hw := hw.2 c223
                            exact b226 hw ls (lv_sub hl [] rfl)
                      · refine lv_tableIn (tgt := 218) S.1 S.2.1 dX12_twoOf_1 (by rw [g1] <;> decide) (by rw [g1] <;> decide) (by rw [g1] <;> rfl) (by decide) ?_
                        refine lv_iload_n S.1 S.2.1 dX12_twoOf_218 rfl (lv_at hl 1 rfl) ?_
                        refine lv_if_ne (tgt := 226) S.1 S.2.1 dX12_twoOf_219 (by decide) (fun c219 => ?_) (fun c219 => ?_)
                        · have hw := hw.1 c219
                          exact b226 hw ls (lv_sub hl [] rfl)
                        · have hw := hw.2 c219
                          refine lv_iload_n S.1 S.2.1 dX12_twoOf_222 rfl (lv_at hl 2 rfl) ?_
                          refine lv_if_eq (tgt := 230) S.1 S.2.1 dX12_twoOf_223 (by decide) (fun c223 => ?_) (fun c223 => ?_)
                          · have hw := hw.1 c223
                            refine lv_iconst (v := 0) S.1 S.2.1 dX12_twoOf_230 (by decide) ?_
                            exact b231 (0 : Int32) hw ls (lv_sub hl [] rfl)
                          · have hw := hw.2 c223
                            exact b226 hw ls (lv_sub hl [] rfl)
                      · refine lv_tableIn (tgt := 218) S.1 S.2.1 dX12_twoOf_1 (by rw [g1] <;> decide) (by rw [g1] <;> decide) (by rw [g1] <;> rfl) (by decide) ?_
                        refine lv_iload_n S.1 S.2.1 dX12_twoOf_218 rfl (lv_at hl 1 rfl) ?_
                        refine lv_if_ne (tgt := 226) S.1 S.2.1 dX12_twoOf_219 (by decide) (fun c219 => ?_) (fun c219 => ?_)
                        · have hw := hw.1 c219
                          exact b226 hw ls (lv_sub hl [] rfl)
                        · have hw := hw.2 c219
                          refine lv_iload_n S.1 S.2.1 dX12_twoOf_222 rfl (lv_at hl 2 rfl) ?_
                          refine lv_if_eq (tgt := 230) S.1 S.2.1 dX12_twoOf_223 (by decide) (fun c223 => ?_) (fun c223 => ?_)
                          · have hw := hw.1 c223
                            refine lv_iconst (v := 0) S.1 S.2.1 dX12_twoOf_230 (by decide) ?_
                            exact b231 (0 : Int32) hw ls (lv_sub hl [] rfl)
                          · have hw := hw.2 c223
                            exact b226 hw ls (lv_sub hl [] rfl)
                      · refine lv_tableIn (tgt := 218) S.1 S.2.1 dX12_twoOf_1 (by rw [g1] <;> decide) (by rw [g1] <;> decide) (by rw [g1] <;> rfl) (by decide) ?_
                        refine lv_iload_n S.1 S.2.1 dX12_twoOf_218 rfl (lv_at hl 1 rfl) ?_
                        refine lv_if_ne (tgt := 226) S.1 S.2.1 dX12_twoOf_219 (by decide) (fun c219 => ?_) (fun c219 => ?_)
                        · have hw := hw.1 c219
                          exact b226 hw ls (lv_sub hl [] rfl)
                        · have hw := hw.2 c219
                          refine lv_iload_n S.1 S.2.1 dX12_twoOf_222 rfl (lv_at hl 2 rfl) ?_
                          refine lv_if_eq (tgt := 230) S.1 S.2.1 dX12_twoOf_223 (by decide) (fun c223 => ?_) (fun c223 => ?_)
                          · have hw := hw.1 c223
                            refine lv_iconst (v := 0) S.1 S.2.1 dX12_twoOf_230 (by decide) ?_
                            exact b231 (0 : Int32) hw ls (lv_sub hl [] rfl)
                          · have hw := hw.2 c223
                            exact b226 hw ls (lv_sub hl [] rfl)
                      · refine lv_tableIn (tgt := 218) S.1 S.2.1 dX12_twoOf_1 (by rw [g1] <;> decide) (by rw [g1] <;> decide) (by rw [g1] <;> rfl) (by decide) ?_
                        refine lv_iload_n S.1 S.2.1 dX12_twoOf_218 rfl (lv_at hl 1 rfl) ?_
                        refine lv_if_ne (tgt := 226) S.1 S.2.1 dX12_twoOf_219 (by decide) (fun c219 => ?_) (fun c219 => ?_)
                        · have hw := hw.1 c219
                          exact b226 hw ls (lv_sub hl [] rfl)
                        · have hw := hw.2 c219
                          refine lv_iload_n S.1 S.2.1 dX12_twoOf_222 rfl (lv_at hl 2 rfl) ?_
                          refine lv_if_eq (tgt := 230) S.1 S.2.1 dX12_twoOf_223 (by decide) (fun c223 => ?_) (fun c223 => ?_)
                          · have hw := hw.1 c223
                            refine lv_iconst (v := 0) S.1 S.2.1 dX12_twoOf_230 (by decide) ?_
                            exact b231 (0 : Int32) hw ls (lv_sub hl [] rfl)
                          · have hw := hw.2 c223
                            exact b226 hw ls (lv_sub hl [] rfl)
                      · refine lv_tableIn (tgt := 218) S.1 S.2.1 dX12_twoOf_1 (by rw [g1] <;> decide) (by rw [g1] <;> decide) (by rw [g1] <;> rfl) (by decide) ?_
                        refine lv_iload_n S.1 S.2.1 dX12_twoOf_218 rfl (lv_at hl 1 rfl) ?_
                        refine lv_if_ne (tgt := 226) S.1 S.2.1 dX12_twoOf_219 (by decide) (fun c219 => ?_) (fun c219 => ?_)
                        · have hw := hw.1 c219
                          exact b226 hw ls (lv_sub hl [] rfl)
                        · have hw := hw.2 c219
                          refine lv_iload_n S.1 S.2.1 dX12_twoOf_222 rfl (lv_at hl 2 rfl) ?_
                          refine lv_if_eq (tgt := 230) S.1 S.2.1 dX12_twoOf_223 (by decide) (fun c223 => ?_) (fun c223 => ?_)
                          · have hw := hw.1 c223
                            refine lv_iconst (v := 0) S.1 S.2.1 dX12_twoOf_230 (by decide) ?_
                            exact b231 (0 : Int32) hw ls (lv_sub hl [] rfl)
                          · have hw := hw.2 c223
                            exact b226 hw ls (lv_sub hl [] rfl)
                      · refine lv_tableIn (tgt := 218) S.1 S.2.1 dX12_twoOf_1 (by rw [g1] <;> decide) (by rw [g1] <;> decide) (by rw [g1] <;> rfl) (by decide) ?_
                        refine lv_iload_n S.1 S.2.1 dX12_twoOf_218 rfl (lv_at hl 1 rfl) ?_
                        refine lv_if_ne (tgt := 226) S.1 S.2.1 dX12_twoOf_219 (by decide) (fun c219 => ?_) (fun c219 => ?_)
                        · have hw := hw.1 c219
                          exact b226 hw ls (lv_sub hl [] rfl)
                        · have hw := hw.2 c219
                          refine lv_iload_n S.1 S.2.1 dX12_twoOf_222 rfl (lv_at hl 2 rfl) ?_
                          refine lv_if_eq (tgt := 230) S.1 S.2.1 dX12_twoOf_223 (by decide) (fun c223 => ?_) (fun c223 => ?_)
                          · have hw := hw.1 c223
                            refine lv_iconst (v := 0) S.1 S.2.1 dX12_twoOf_230 (by decide) ?_
                            exact b231 (0 : Int32) hw ls (lv_sub hl [] rfl)
                          · have hw := hw.2 c223
                            exact b226 hw ls (lv_sub hl [] rfl)
                      · refine lv_tableIn (tgt := 218) S.1 S.2.1 dX12_twoOf_1 (by rw [g1] <;> decide) (by rw [g1] <;> decide) (by rw [g1] <;> rfl) (by decide) ?_
                        refine lv_iload_n S.1 S.2.1 dX12_twoOf_218 rfl (lv_at hl 1 rfl) ?_
                        refine lv_if_ne (tgt := 226) S.1 S.2.1 dX12_twoOf_219 (by decide) (fun c219 => ?_) (fun c219 => ?_)
                        · have hw := hw.1 c219
                          exact b226 hw ls (lv_sub hl [] rfl)
                        · have hw := hw.2 c219
                          refine lv_iload_n S.1 S.2.1 dX12_twoOf_222 rfl (lv_at hl 2 rfl) ?_
                          refine lv_if_eq (tgt := 230) S.1 S.2.1 dX12_twoOf_223 (by decide) (fun c223 => ?_) (fun c223 => ?_)
                          · have hw := hw.1 c223
                            refine lv_iconst (v := 0) S.1 S.2.1 dX12_twoOf_230 (by decide) ?_
                            exact b231 (0 : Int32) hw ls (lv_sub hl [] rfl)
                          · have hw := hw.2 c223
                            exact b226 hw ls (lv_sub hl [] rfl)
                      · refine lv_tableIn (tgt := 218) S.1 S.2.1 dX12_twoOf_1 (by rw [g1] <;> decide) (by rw [g1] <;> decide) (by rw [g1] <;> rfl) (by decide) ?_
                        refine lv_iload_n S.1 S.2.1 dX12_twoOf_218 rfl (lv_at hl 1 rfl) ?_
                        refine lv_if_ne (tgt := 226) S.1 S.2.1 dX12_twoOf_219 (by decide) (fun c219 => ?_) (fun c219 => ?_)
                        · have hw := hw.1 c219
                          exact b226 hw ls (lv_sub hl [] rfl)
                        · have hw := hw.2 c219
                          refine lv_iload_n S.1 S.2.1 dX12_twoOf_222 rfl (lv_at hl 2 rfl) ?_
                          refine lv_if_eq (tgt := 230) S.1 S.2.1 dX12_twoOf_223 (by decide) (fun c223 => ?_) (fun c223 => ?_)
                          · have hw := hw.1 c223
                            refine lv_iconst (v := 0) S.1 S.2.1 dX12_twoOf_230 (by decide) ?_
                            exact b231 (0 : Int32) hw ls (lv_sub hl [] rfl)
                          · have hw := hw.2 c223
                            exact b226 hw ls (lv_sub hl [] rfl)
                      · refine lv_tableIn (tgt := 218) S.1 S.2.1 dX12_twoOf_1 (by rw [g1] <;> decide) (by rw [g1] <;> decide) (by rw [g1] <;> rfl) (by decide) ?_
                        refine lv_iload_n S.1 S.2.1 dX12_twoOf_218 rfl (lv_at hl 1 rfl) ?_
                        refine lv_if_ne (tgt := 226) S.1 S.2.1 dX12_twoOf_219 (by decide) (fun c219 => ?_) (fun c219 => ?_)
                        · have hw := hw.1 c219
                          exact b226 hw ls (lv_sub hl [] rfl)
                        · have hw := hw.2 c219
                          refine lv_iload_n S.1 S.2.1 dX12_twoOf_222 rfl (lv_at hl 2 rfl) ?_
                          refine lv_if_eq (tgt := 230) S.1 S.2.1 dX12_twoOf_223 (by decide) (fun c223 => ?_) (fun c223 => ?_)
                          · have hw := hw.1 c223
                            refine lv_iconst (v := 0) S.1 S.2.1 dX12_twoOf_230 (by decide) ?_
                            exact b231 (0 : Int32) hw ls (lv_sub hl [] rfl)
                          · have hw := hw.2 c223
                            exact b226 hw ls (lv_sub hl [] rfl)
                      · refine lv_tableIn (tgt := 218) S.1 S.2.1 dX12_twoOf_1 (by rw [g1] <;> decide) (by rw [g1] <;> decide) (by rw [g1] <;> rfl) (by decide) ?_
                        refine lv_iload_n S.1 S.2.1 dX12_twoOf_218 rfl (lv_at hl 1 rfl) ?_
                        refine lv_if_ne (tgt := 226) S.1 S.2.1 dX12_twoOf_219 (by decide) (fun c219 => ?_) (fun c219 => ?_)
                        · have hw := hw.1 c219
                          exact b226 hw ls (lv_sub hl [] rfl)
                        · have hw := hw.2 c219
                          refine lv_iload_n S.1 S.2.1 dX12_twoOf_222 rfl (lv_at hl 2 rfl) ?_
                          refine lv_if_eq (tgt := 230) S.1 S.2.1 dX12_twoOf_223 (by decide) (fun c223 => ?_) (fun c223 => ?_)
                          · have hw := hw.1 c223
                            refine lv_iconst (v := 0) S.1 S.2.1 dX12_twoOf_230 (by decide) ?_
                            exact b231 (0 : Int32) hw ls (lv_sub hl [] rfl)
                          · have hw := hw.2 c223
                            exact b226 hw ls (lv_sub hl [] rfl)
                      · refine lv_tableIn (tgt := 218) S.1 S.2.1 dX12_twoOf_1 (by rw [g1] <;> decide) (by rw [g1] <;> decide) (by rw [g1] <;> rfl) (by decide) ?_
                        refine lv_iload_n S.1 S.2.1 dX12_twoOf_218 rfl (lv_at hl 1 rfl) ?_
                        refine lv_if_ne (tgt := 226) S.1 S.2.1 dX12_twoOf_219 (by decide) (fun c219 => ?_) (fun c219 => ?_)
                        · have hw := hw.1 c219
                          exact b226 hw ls (lv_sub hl [] rfl)
                        · have hw := hw.2 c219
                          refine lv_iload_n S.1 S.2.1 dX12_twoOf_222 rfl (lv_at hl 2 rfl) ?_
                          refine lv_if_eq (tgt := 230) S.1 S.2.1 dX12_twoOf_223 (by decide) (fun c223 => ?_) (fun c223 => ?_)
                          · have hw := hw.1 c223
                            refine lv_iconst (v := 0) S.1 S.2.1 dX12_twoOf_230 (by decide) ?_
                            exact b231 (0 : Int32) hw ls (lv_sub hl [] rfl)
                          · have hw := hw.2 c223
                            exact b226 hw ls (lv_sub hl [] rfl)
                      · refine lv_tableIn (tgt := 218) S.1 S.2.1 dX12_twoOf_1 (by rw [g1] <;> decide) (by rw [g1] <;> decide) (by rw [g1] <;> rfl) (by decide) ?_
                        refine lv_iload_n S.1 S.2.1 dX12_twoOf_218 rfl (lv_at hl 1 rfl) ?_
                        refine lv_if_ne (tgt := 226) S.1 S.2.1 dX12_twoOf_219 (by decide) (fun c219 => ?_) (fun c219 => ?_)
                        · have hw := hw.1 c219
                          exact b226 hw ls (lv_sub hl [] rfl)
                        · have hw := hw.2 c219
                          refine lv_iload_n S.1 S.2.1 dX12_twoOf_222 rfl (lv_at hl 2 rfl) ?_
                          refine lv_if_eq (tgt := 230) S.1 S.2.1 dX12_twoOf_223 (by decide) (fun c223 => ?_) (fun c223 => ?_)
                          · have hw := hw.1 c223
                            refine lv_iconst (v := 0) S.1 S.2.1 dX12_twoOf_230 (by decide) ?_
                            exact b231 (0 : Int32) hw ls (lv_sub hl [] rfl)
                          · have hw := hw.2 c223
                            exact b226 hw ls (lv_sub hl [] rfl)
                      · refine lv_tableIn (tgt := 218) S.1 S.2.1 dX12_twoOf_1 (by rw [g1] <;> decide) (by rw [g1] <;> decide) (by rw [g1] <;> rfl) (by decide) ?_
                        refine lv_iload_n S.1 S.2.1 dX12_twoOf_218 rfl (lv_at hl 1 rfl) ?_
                        refine lv_if_ne (tgt := 226) S.1 S.2.1 dX12_twoOf_219 (by decide) (fun c219 => ?_) (fun c219 => ?_)
                        · have hw := hw.1 c219
                          exact b226 hw ls (lv_sub hl [] rfl)
                        · have hw := hw.2 c219
                          refine lv_iload_n S.1 S.2.1 dX12_twoOf_222 rfl (lv_at hl 2 rfl) ?_
                          refine lv_if_eq (tgt := 230) S.1 S.2.1 dX12_twoOf_223 (by decide) (fun c223 => ?_) (fun c223 => ?_)
                          · have hw := hw.1 c223
                            refine lv_iconst (v := 0) S.1 S.2.1 dX12_twoOf_230 (by decide) ?_
                            exact b231 (0 : Int32) hw ls (lv_sub hl [] rfl)
                          · have hw := hw.2 c223
                            exact b226 hw ls (lv_sub hl [] rfl)
                      · refine lv_tableIn (tgt := 218) S.1 S.2.1 dX12_twoOf_1 (by rw [g1] <;> decide) (by rw [g1] <;> decide) (by rw [g1] <;> rfl) (by decide) ?_
                        refine lv_iload_n S.1 S.2.1 dX12_twoOf_218 rfl (lv_at hl 1 rfl) ?_
                        refine lv_if_ne (tgt := 226) S.1 S.2.1 dX12_twoOf_219 (by decide) (fun c219 => ?_) (fun c219 => ?_)
                        · have hw := hw.1 c219
                          exact b226 hw ls (lv_sub hl [] rfl)
                        · have hw := hw.2 c219
                          refine lv_iload_n S.1 S.2.1 dX12_twoOf_222 rfl (lv_at hl 2 rfl) ?_
                          refine lv_if_eq (tgt := 230) S.1 S.2.1 dX12_twoOf_223 (by decide) (fun c223 => ?_) (fun c223 => ?_)
                          · have hw := hw.1 c223
                            refine lv_iconst (v := 0) S.1 S.2.1 dX12_twoOf_230 (by decide) ?_
                            exact b231 (0 : Int32) hw ls (lv_sub hl [] rfl)
                          · have hw := hw.2 c223
                            exact b226 hw ls (lv_sub hl [] rfl)
                      · refine lv_tableIn (tgt := 218) S.1 S.2.1 dX12_twoOf_1 (by rw [g1] <;> decide) (by rw [g1] <;> decide) (by rw [g1] <;> rfl) (by decide) ?_
                        refine lv_iload_n S.1 S.2.1 dX12_twoOf_218 rfl (lv_at hl 1 rfl) ?_
                        refine lv_if_ne (tgt := 226) S.1 S.2.1 dX12_twoOf_219 (by decide) (fun c219 => ?_) (fun c219 => ?_)
                        · have hw := hw.1 c219
                          exact b226 hw ls (lv_sub hl [] rfl)
                        · have hw := hw.2 c219
                          refine lv_iload_n S.1 S.2.1 dX12_twoOf_222 rfl (lv_at hl 2 rfl) ?_
                          refine lv_if_eq (tgt := 230) S.1 S.2.1 dX12_twoOf_223 (by decide) (fun c223 => ?_) (fun c223 => ?_)
                          · have hw := hw.1 c223
                            refine lv_iconst (v := 0) S.1 S.2.1 dX12_twoOf_230 (by decide) ?_
                            exact b231 (0 : Int32) hw ls (lv_sub hl [] rfl)
                          · have hw := hw.2 c223
                            exact b226 hw ls (lv_sub hl [] rfl)

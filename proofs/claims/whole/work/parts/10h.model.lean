/-! laid by program: X12_act, X12_count, X12_keep, X12_row, X12_whyNoPlace, X12_put, X12_element, X12_shift, X12_taken -/
def wp_X12_act_p22 (u : ST) (Q : Int32 → ST → Prop) : Prop :=
  Q (0 : Int32) u
def wp_X12_act_p71 (t0 : Int32) (u : ST) (Q : Int32 → ST → Prop) : Prop :=
  Q t0 u
def wp_X12_act (a1 : Int32) (a2 : Int32) (a3 : Int32) (u : ST) (Q : Int32 → ST → Prop) : Prop :=
  (∀ u2 : ST, u2 = sI u 51 (0 : Int32) → (wp_X12_isBody a1 u2 (fun y7 u7 => ((y7 = 0 → wp_X12_act_p22 u7 Q) ∧ (¬ y7 = 0 → (wp_X12_in a2 (0 : Int32) (3 : Int32) (fun y16 => ((¬ y16 = 0 → ((¬ a2 = 0 → ((¬ a2 = (1 : Int32) → ((¬ a2 = (2 : Int32) → (wp_X12_telling a1 a3 u7 (fun y68 u68 => wp_X12_act_p71 y68 u68 Q))) ∧ (a2 = (2 : Int32) → (wp_X12_climbing a1 a3 u7 (fun y59 u59 => wp_X12_act_p71 y59 u59 Q))))) ∧ (a2 = (1 : Int32) → (wp_X12_breaking a1 a3 u7 (fun y45 u45 => wp_X12_act_p71 y45 u45 Q))))) ∧ (a2 = 0 → (wp_X12_dropping a1 a3 u7 (fun y31 u31 => wp_X12_act_p71 y31 u31 Q))))) ∧ (y16 = 0 → wp_X12_act_p22 u7 Q)))))))))
set_option maxHeartbeats 4000000 in
set_option maxRecDepth 100000 in
theorem c_X12_act (l : Launch) (D : va_G) (h : Nat) (r : Nat → Nat) (cs : Nat → ClassId) (a1 : Int32) (a2 : Int32) (a3 : Int32) (u : ST) (Q : Int32 → ST → Prop) (hw : wp_X12_act a1 a2 a3 u Q) : mCi l yX12_act wsX12_act ({ frames := 9, cells := 0, slots := 0, locals := 199 } : Room) 0 0 D (mT cs) (W12 h r cs) [.ref h, .int a1, .int a2, .int a3] u Q := by
  unfold mCi
  refine m_enter (QQ := fun A => va_Qi Q (mPos D (mT cs) A (W12 h r cs)) A) (cc := cX12_act) (maxL := 4) (ret := (some .int)) (by decide) rfl (Nat.le_of_ble_eq_true rfl) ?_
  intro p e s m args below meth c A ls S hr hlocks hname hl hI
  have S : CallFix p m c cX12_act 4 s args wsX12_act RX12 := S
  show W p l e ({ frames := 9, cells := 0, slots := 0, locals := 199 } : Room) s m args below meth c s.heap [] 0 0 (MQ below (va_Qi Q (mPos D (mT cs) A (W12 h r cs)) A) args s 0 0 A) (F0 m 0 ls [])
  generalize hZ : MQ below (va_Qi Q (mPos D (mT cs) A (W12 h r cs)) A) args s 0 0 A = Z
  have hin : ∀ w ∈ wsX120, w ∈ wsX12_act := fun _ h => List.mem_cons_of_mem _ (List.mem_append_right _ h)
  have hl : lv_has ls 4 [(0, .ref h), (1, .int a1), (2, .int a2), (3, .int a3)] := hl
  have b22 : ∀ (u : ST), wp_X12_act_p22 u Q → mGo p l e ({ frames := 9, cells := 0, slots := 0, locals := 199 } : Room) s m args below meth c A Z 4 D (mT cs) (W12 h r cs) 22 [(0, .ref h)] [] u := by
    intro u hw H locs ls hI hl
    unfold wp_X12_act_p22 at hw
    refine lv_iconst (v := 0) S.1 S.2.1 dX12_act_22 (by decide) ?_
    subst hZ
    exact m_iret S hr hlocks hI hw dX12_act_23
  have b71 : ∀ (t0 : Int32) (u : ST), wp_X12_act_p71 t0 u Q → mGo p l e ({ frames := 9, cells := 0, slots := 0, locals := 199 } : Room) s m args below meth c A Z 4 D (mT cs) (W12 h r cs) 71 [(0, .ref h)] [.int t0] u := by
    intro t0 u hw H locs ls hI hl
    unfold wp_X12_act_p71 at hw
    subst hZ
    exact m_iret S hr hlocks hI hw dX12_act_71
  unfold wp_X12_act at hw
  obtain ⟨H, hH⟩ : ∃ z : Heap, z = s.heap := ⟨_, rfl⟩
  obtain ⟨locs, hL⟩ : ∃ z : List Loc, z = [] := ⟨_, rfl⟩
  rw [show W p l e ({ frames := 9, cells := 0, slots := 0, locals := 199 } : Room) s m args below meth c s.heap [] 0 0 Z (F0 m 0 ls []) = W p l e ({ frames := 9, cells := 0, slots := 0, locals := 199 } : Room) s m args below meth c H locs 0 0 Z (F0 m 0 ls []) by rw [hH, hL]]
  replace hI : mI D (mT cs) A s.heap s (W12 h r cs u) H locs := by rw [hH, hL]; exact hI
  refine lv_aload_n S.1 S.2.1 dX12_act_0 rfl (lv_at hl 0 rfl) ?_
  refine lv_iconst (v := 0) S.1 S.2.1 dX12_act_1 (by decide) ?_
  obtain ⟨u2, eu2⟩ : ∃ z : ST, z = sI u 51 (0 : Int32) := ⟨_, rfl⟩
  have hw := hw u2 eu2
  refine m_put S hin tyX12_ok nmX12 hI 0 (W12_at0 h r cs u) rfl 51 (Nat.le_of_ble_eq_true rfl) (List.mem_of_getElem? (i := 1) rfl) rfl rfl rfl rfl (Nat.le_of_ble_eq_true rfl) (W12_sI51 h r cs u u2 (0 : Int32) eu2) dX12_act_2 (fun H locs hI => ?_)
  refine lv_aload_n S.1 S.2.1 dX12_act_5 rfl (lv_at hl 0 rfl) ?_
  refine lv_iload_n S.1 S.2.1 dX12_act_6 rfl (lv_at hl 1 rfl) ?_
  refine m_vi (As := [.int a1]) (rest := []) S (W12_self h r cs) hI rfl (c_X12_isBody l D h r cs a1 u2 _ hw) (cwV 1 S.2.2.2.2 gX12_act_X12_isBody rfl rfl rfl (by decide +kernel) ⟨Nat.le_of_ble_eq_true rfl, Nat.le_of_ble_eq_true rfl⟩) (W12_at0 h r cs u2) rfl rfl hl.1 rfl (Nat.le_of_ble_eq_true rfl) dX12_act_7 ⟨Nat.zero_le _, Nat.zero_le _⟩ (fun y7 u7 H locs hw hI => ?_)
  refine lv_if_eq (tgt := 22) S.1 S.2.1 dX12_act_10 (by decide) (fun c10 => ?_) (fun c10 => ?_)
  · have hw := hw.1 c10
    exact b22 u7 hw H locs ls hI (lv_sub hl [0] rfl)
  · have hw := hw.2 c10
    refine lv_iload_n S.1 S.2.1 dX12_act_13 rfl (lv_at hl 2 rfl) ?_
    refine lv_iconst (v := 0) S.1 S.2.1 dX12_act_14 (by decide) ?_
    refine lv_iconst (v := 3) S.1 S.2.1 dX12_act_15 (by decide) ?_
    refine m_si (As := [.int a2, .int (0 : Int32), .int (3 : Int32)]) (rest := []) S hI.2.2.2.1.2.1 (c_X12_in l a2 (0 : Int32) (3 : Int32) _ hw) (va_cwS 3 S.2.2.2.2 gX12_act_X12_in rfl rfl rfl (by decide +kernel) ⟨Nat.le_of_ble_eq_true rfl, Nat.le_of_ble_eq_true rfl⟩) rfl hl.1 rfl (Nat.le_of_ble_eq_true rfl) dX12_act_16 ⟨Nat.zero_le _, Nat.zero_le _⟩ (fun y16 hw => ?_)
    refine lv_if_ne (tgt := 24) S.1 S.2.1 dX12_act_19 (by decide) (fun c19 => ?_) (fun c19 => ?_)
    · have hw := hw.1 c19
      refine lv_iload_n S.1 S.2.1 dX12_act_24 rfl (lv_at hl 2 rfl) ?_
      refine lv_if_ne (tgt := 37) S.1 S.2.1 dX12_act_25 (by decide) (fun c25 => ?_) (fun c25 => ?_)
      · have hw := hw.1 c25
        refine lv_iload_n S.1 S.2.1 dX12_act_37 rfl (lv_at hl 2 rfl) ?_
        refine lv_iconst (v := 1) S.1 S.2.1 dX12_act_38 (by decide) ?_
        refine lv_icmp_ne (tgt := 51) S.1 S.2.1 dX12_act_39 (by decide) (fun c39 => ?_) (fun c39 => ?_)
        · have hw := hw.1 c39
          refine lv_iload_n S.1 S.2.1 dX12_act_51 rfl (lv_at hl 2 rfl) ?_
          refine lv_iconst (v := 2) S.1 S.2.1 dX12_act_52 (by decide) ?_
          refine lv_icmp_ne (tgt := 65) S.1 S.2.1 dX12_act_53 (by decide) (fun c53 => ?_) (fun c53 => ?_)
          · have hw := hw.1 c53
            refine lv_aload_n S.1 S.2.1 dX12_act_65 rfl (lv_at hl 0 rfl) ?_
            refine lv_iload_n S.1 S.2.1 dX12_act_66 rfl (lv_at hl 1 rfl) ?_
            refine lv_iload_n S.1 S.2.1 dX12_act_67 rfl (lv_at hl 3 rfl) ?_
            refine m_vi (As := [.int a1, .int a3]) (rest := []) S (W12_self h r cs) hI rfl (c_X12_telling l D h r cs a1 a3 u7 _ hw) (cwV 2 S.2.2.2.2 gX12_act_X12_telling rfl rfl rfl (by decide +kernel) ⟨Nat.le_of_ble_eq_true rfl, Nat.le_of_ble_eq_true rfl⟩) (W12_at0 h r cs u7) rfl rfl hl.1 rfl (Nat.le_of_ble_eq_true rfl) dX12_act_68 ⟨Nat.zero_le _, Nat.zero_le _⟩ (fun y68 u68 H locs hw hI => ?_)
            exact b71 y68 u68 hw H locs ls hI (lv_sub hl [0] rfl)
          · have hw := hw.2 c53
            refine lv_aload_n S.1 S.2.1 dX12_act_56 rfl (lv_at hl 0 rfl) ?_
            refine lv_iload_n S.1 S.2.1 dX12_act_57 rfl (lv_at hl 1 rfl) ?_
            refine lv_iload_n S.1 S.2.1 dX12_act_58 rfl (lv_at hl 3 rfl) ?_
            refine m_vi (As := [.int a1, .int a3]) (rest := []) S (W12_self h r cs) hI rfl (c_X12_climbing l D h r cs a1 a3 u7 _ hw) (cwV 2 S.2.2.2.2 gX12_act_X12_climbing rfl rfl rfl (by decide +kernel) ⟨Nat.le_of_ble_eq_true rfl, Nat.le_of_ble_eq_true rfl⟩) (W12_at0 h r cs u7) rfl rfl hl.1 rfl (Nat.le_of_ble_eq_true rfl) dX12_act_59 ⟨Nat.zero_le _, Nat.zero_le _⟩ (fun y59 u59 H locs hw hI => ?_)
            refine lv_goto (tgt := 71) S.1 S.2.1 dX12_act_62 (by decide) ?_
            exact b71 y59 u59 hw H locs ls hI (lv_sub hl [0] rfl)
        · have hw := hw.2 c39
          refine lv_aload_n S.1 S.2.1 dX12_act_42 rfl (lv_at hl 0 rfl) ?_
          refine lv_iload_n S.1 S.2.1 dX12_act_43 rfl (lv_at hl 1 rfl) ?_
          refine lv_iload_n S.1 S.2.1 dX12_act_44 rfl (lv_at hl 3 rfl) ?_
          refine m_vi (As := [.int a1, .int a3]) (rest := []) S (W12_self h r cs) hI rfl (c_X12_breaking l D h r cs a1 a3 u7 _ hw) (cwV 2 S.2.2.2.2 gX12_act_X12_breaking rfl rfl rfl (by decide +kernel) ⟨Nat.le_of_ble_eq_true rfl, Nat.le_of_ble_eq_true rfl⟩) (W12_at0 h r cs u7) rfl rfl hl.1 rfl (Nat.le_of_ble_eq_true rfl) dX12_act_45 ⟨Nat.zero_le _, Nat.zero_le _⟩ (fun y45 u45 H locs hw hI => ?_)
          refine lv_goto (tgt := 71) S.1 S.2.1 dX12_act_48 (by decide) ?_
          exact b71 y45 u45 hw H locs ls hI (lv_sub hl [0] rfl)
      · have hw := hw.2 c25
        refine lv_aload_n S.1 S.2.1 dX12_act_28 rfl (lv_at hl 0 rfl) ?_
        refine lv_iload_n S.1 S.2.1 dX12_act_29 rfl (lv_at hl 1 rfl) ?_
        refine lv_iload_n S.1 S.2.1 dX12_act_30 rfl (lv_at hl 3 rfl) ?_
        refine m_vi (As := [.int a1, .int a3]) (rest := []) S (W12_self h r cs) hI rfl (c_X12_dropping l D h r cs a1 a3 u7 _ hw) (cwV 2 S.2.2.2.2 gX12_act_X12_dropping rfl rfl rfl (by decide +kernel) ⟨Nat.le_of_ble_eq_true rfl, Nat.le_of_ble_eq_true rfl⟩) (W12_at0 h r cs u7) rfl rfl hl.1 rfl (Nat.le_of_ble_eq_true rfl) dX12_act_31 ⟨Nat.zero_le _, Nat.zero_le _⟩ (fun y31 u31 H locs hw hI => ?_)
        refine lv_goto (tgt := 71) S.1 S.2.1 dX12_act_34 (by decide) ?_
        exact b71 y31 u31 hw H locs ls hI (lv_sub hl [0] rfl)
    · have hw := hw.2 c19
      exact b22 u7 hw H locs ls hI (lv_sub hl [0] rfl)

def wp_X12_count (a1 : Int32) (u : ST) (Q : Int32 → ST → Prop) : Prop :=
  ((a1 = 0 → Q (gI u 12) u) ∧ (¬ a1 = 0 → ((a1 = 1 → Q (gI u 5) u) ∧ (¬ a1 = 1 → ((a1 = 2 → Q (gI u 49) u) ∧ (¬ a1 = 2 → ((a1 = 3 → Q (gI u 51) u) ∧ (¬ a1 = 3 → Q ((-1) : Int32) u))))))))
set_option maxHeartbeats 4000000 in
set_option maxRecDepth 100000 in
theorem c_X12_count (l : Launch) (D : va_G) (h : Nat) (r : Nat → Nat) (cs : Nat → ClassId) (a1 : Int32) (u : ST) (Q : Int32 → ST → Prop) (hw : wp_X12_count a1 u Q) : mCi l yX12_count wsX12_count ({ frames := 0, cells := 0, slots := 0, locals := 0 } : Room) 0 0 D (mT cs) (W12 h r cs) [.ref h, .int a1] u Q := by
  unfold mCi
  refine m_enter (QQ := fun A => va_Qi Q (mPos D (mT cs) A (W12 h r cs)) A) (cc := cX12_count) (maxL := 2) (ret := (some .int)) (by decide) rfl (Nat.le_of_ble_eq_true rfl) ?_
  intro p e s m args below meth c A ls S hr hlocks hname hl hI
  have S : CallFix p m c cX12_count 2 s args wsX12_count RX12 := S
  show W p l e ({ frames := 0, cells := 0, slots := 0, locals := 0 } : Room) s m args below meth c s.heap [] 0 0 (MQ below (va_Qi Q (mPos D (mT cs) A (W12 h r cs)) A) args s 0 0 A) (F0 m 0 ls [])
  generalize hZ : MQ below (va_Qi Q (mPos D (mT cs) A (W12 h r cs)) A) args s 0 0 A = Z
  have hin : ∀ w ∈ wsX120, w ∈ wsX12_count := fun _ h => List.mem_cons_of_mem _ (List.mem_append_right _ h)
  have hl : lv_has ls 2 [(0, .ref h), (1, .int a1)] := hl
  unfold wp_X12_count at hw
  obtain ⟨H, hH⟩ : ∃ z : Heap, z = s.heap := ⟨_, rfl⟩
  obtain ⟨locs, hL⟩ : ∃ z : List Loc, z = [] := ⟨_, rfl⟩
  rw [show W p l e ({ frames := 0, cells := 0, slots := 0, locals := 0 } : Room) s m args below meth c s.heap [] 0 0 Z (F0 m 0 ls []) = W p l e ({ frames := 0, cells := 0, slots := 0, locals := 0 } : Room) s m args below meth c H locs 0 0 Z (F0 m 0 ls []) by rw [hH, hL]]
  replace hI : mI D (mT cs) A s.heap s (W12 h r cs u) H locs := by rw [hH, hL]; exact hI
  refine lv_iload_n S.1 S.2.1 dX12_count_0 rfl (lv_at hl 1 rfl) ?_
  by_cases c1_0 : a1 = 0
  · have hw := hw.1 c1_0
    refine lv_tableIn (tgt := 32) S.1 S.2.1 dX12_count_1 (by rw [c1_0] <;> decide) (by rw [c1_0] <;> decide) (by rw [c1_0] <;> rfl) (by decide) ?_
    refine lv_aload_n S.1 S.2.1 dX12_count_32 rfl (lv_at hl 0 rfl) ?_
    refine m_get S hin hI 0 (W12_at0 h r cs u) rfl 12 (Nat.le_of_ble_eq_true rfl) (List.mem_of_getElem? (i := 1) rfl) rfl (Ff12_at12 r u) dX12_count_33 ?_
    subst hZ
    exact m_iret S hr hlocks hI hw dX12_count_36
  · have hw := hw.2 c1_0
    by_cases c1_1 : a1 = 1
    · have hw := hw.1 c1_1
      refine lv_tableIn (tgt := 37) S.1 S.2.1 dX12_count_1 (by rw [c1_1] <;> decide) (by rw [c1_1] <;> decide) (by rw [c1_1] <;> rfl) (by decide) ?_
      refine lv_aload_n S.1 S.2.1 dX12_count_37 rfl (lv_at hl 0 rfl) ?_
      refine m_get S hin hI 0 (W12_at0 h r cs u) rfl 5 (Nat.le_of_ble_eq_true rfl) (List.mem_of_getElem? (i := 2) rfl) rfl (Ff12_at5 r u) dX12_count_38 ?_
      subst hZ
      exact m_iret S hr hlocks hI hw dX12_count_41
    · have hw := hw.2 c1_1
      by_cases c1_2 : a1 = 2
      · have hw := hw.1 c1_2
        refine lv_tableIn (tgt := 42) S.1 S.2.1 dX12_count_1 (by rw [c1_2] <;> decide) (by rw [c1_2] <;> decide) (by rw [c1_2] <;> rfl) (by decide) ?_
        refine lv_aload_n S.1 S.2.1 dX12_count_42 rfl (lv_at hl 0 rfl) ?_
        refine m_get S hin hI 0 (W12_at0 h r cs u) rfl 49 (Nat.le_of_ble_eq_true rfl) (List.mem_of_getElem? (i := 3) rfl) rfl (Ff12_at49 r u) dX12_count_43 ?_
        subst hZ
        exact m_iret S hr hlocks hI hw dX12_count_46
      · have hw := hw.2 c1_2
        by_cases c1_3 : a1 = 3
        · have hw := hw.1 c1_3
          refine lv_tableIn (tgt := 47) S.1 S.2.1 dX12_count_1 (by rw [c1_3] <;> decide) (by rw [c1_3] <;> decide) (by rw [c1_3] <;> rfl) (by decide) ?_
          refine lv_aload_n S.1 S.2.1 dX12_count_47 rfl (lv_at hl 0 rfl) ?_
          refine m_get S hin hI 0 (W12_at0 h r cs u) rfl 51 (Nat.le_of_ble_eq_true rfl) (List.mem_of_getElem? (i := 4) rfl) rfl (Ff12_at51 r u) dX12_count_48 ?_
          subst hZ
          exact m_iret S hr hlocks hI hw dX12_count_51
        · have hw := hw.2 c1_3
          by_cases q1 : a1.toInt < 0 ∨ 3 < a1.toInt
          · refine lv_tableOut (tgt := 52) S.1 S.2.1 dX12_count_1 q1 (by decide) ?_
            refine lv_iconst (v := (-1)) S.1 S.2.1 dX12_count_52 (by decide) ?_
            subst hZ
            exact m_iret S hr hlocks hI hw dX12_count_53
          · have n1_0 := lv_neT c1_0 (a := 0) rfl
            have n1_1 := lv_neT c1_1 (a := 1) rfl
            have n1_2 := lv_neT c1_2 (a := 2) rfl
            have n1_3 := lv_neT c1_3 (a := 3) rfl
            omega

def wp_X12_keep_p20 (u : ST) (Q : Int32 → ST → Prop) : Prop :=
  Q ((-1) : Int32) u
def wp_X12_keep_p22 (x1 : Int32) (x2 : Int32) (u : ST) (Q : Int32 → ST → Prop) : Prop :=
  (vp_in x1 6 ∧ ∀ u28 : ST, u28 = sA u 53 (upd (gA u 53) x1.toNatClampNeg x2) → Q (1 : Int32) u28)
def wp_X12_keep (a1 : Int32) (a2 : Int32) (u : ST) (Q : Int32 → ST → Prop) : Prop :=
  (wp_X12_isShelf a1 (fun y1 => ((y1 = 0 → wp_X12_keep_p20 u Q) ∧ (¬ y1 = 0 → ((a2 = ((-1) : Int32) → wp_X12_keep_p22 a1 a2 u Q) ∧ (¬ a2 = ((-1) : Int32) → (wp_X12_isBody a2 u (fun y14 u14 => ((¬ y14 = 0 → wp_X12_keep_p22 a1 a2 u14 Q) ∧ (y14 = 0 → wp_X12_keep_p20 u14 Q))))))))))
set_option maxHeartbeats 4000000 in
set_option maxRecDepth 100000 in
theorem c_X12_keep (l : Launch) (D : va_G) (h : Nat) (r : Nat → Nat) (cs : Nat → ClassId) (a1 : Int32) (a2 : Int32) (u : ST) (Q : Int32 → ST → Prop) (hw : wp_X12_keep a1 a2 u Q) : mCi l yX12_keep wsX12_keep ({ frames := 2, cells := 0, slots := 0, locals := 43 } : Room) 0 0 D (mT cs) (W12 h r cs) [.ref h, .int a1, .int a2] u Q := by
  unfold mCi
  refine m_enter (QQ := fun A => va_Qi Q (mPos D (mT cs) A (W12 h r cs)) A) (cc := cX12_keep) (maxL := 3) (ret := (some .int)) (by decide) rfl (Nat.le_of_ble_eq_true rfl) ?_
  intro p e s m args below meth c A ls S hr hlocks hname hl hI
  have S : CallFix p m c cX12_keep 3 s args wsX12_keep RX12 := S
  show W p l e ({ frames := 2, cells := 0, slots := 0, locals := 43 } : Room) s m args below meth c s.heap [] 0 0 (MQ below (va_Qi Q (mPos D (mT cs) A (W12 h r cs)) A) args s 0 0 A) (F0 m 0 ls [])
  generalize hZ : MQ below (va_Qi Q (mPos D (mT cs) A (W12 h r cs)) A) args s 0 0 A = Z
  have hin : ∀ w ∈ wsX120, w ∈ wsX12_keep := fun _ h => List.mem_cons_of_mem _ (List.mem_append_right _ h)
  have hl : lv_has ls 3 [(0, .ref h), (1, .int a1), (2, .int a2)] := hl
  have b20 : ∀ (u : ST), wp_X12_keep_p20 u Q → mGo p l e ({ frames := 2, cells := 0, slots := 0, locals := 43 } : Room) s m args below meth c A Z 3 D (mT cs) (W12 h r cs) 20 [(0, .ref h)] [] u := by
    intro u hw H locs ls hI hl
    unfold wp_X12_keep_p20 at hw
    refine lv_iconst (v := (-1)) S.1 S.2.1 dX12_keep_20 (by decide) ?_
    subst hZ
    exact m_iret S hr hlocks hI hw dX12_keep_21
  have b22 : ∀ (x1 : Int32) (x2 : Int32) (u : ST), wp_X12_keep_p22 x1 x2 u Q → mGo p l e ({ frames := 2, cells := 0, slots := 0, locals := 43 } : Room) s m args below meth c A Z 3 D (mT cs) (W12 h r cs) 22 [(0, .ref h), (1, .int x1), (2, .int x2)] [] u := by
    intro x1 x2 u hw H locs ls hI hl
    unfold wp_X12_keep_p22 at hw
    refine lv_aload_n S.1 S.2.1 dX12_keep_22 rfl (lv_at hl 0 rfl) ?_
    refine m_get S hin hI 0 (W12_at0 h r cs u) rfl 53 (Nat.le_of_ble_eq_true rfl) (List.mem_of_getElem? (i := 1) rfl) rfl (Ff12_at53 r u) dX12_keep_23 ?_
    refine lv_iload_n S.1 S.2.1 dX12_keep_26 rfl (lv_at hl 1 rfl) ?_
    refine lv_iload_n S.1 S.2.1 dX12_keep_27 rfl (lv_at hl 2 rfl) ?_
    obtain ⟨u28, eu28⟩ : ∃ z : ST, z = sA u 53 (upd (gA u 53) x1.toNatClampNeg x2) := ⟨_, rfl⟩
    refine m_iast S hI 26 0 (W12_at26 h r cs u) rfl hw.1 (W12_sA53 h r cs u u28 _ eu28) dX12_keep_28 (fun H locs hI => ?_)
    have hw := hw.2 u28 eu28
    refine lv_iconst (v := 1) S.1 S.2.1 dX12_keep_29 (by decide) ?_
    subst hZ
    exact m_iret S hr hlocks hI hw dX12_keep_30
  unfold wp_X12_keep at hw
  obtain ⟨H, hH⟩ : ∃ z : Heap, z = s.heap := ⟨_, rfl⟩
  obtain ⟨locs, hL⟩ : ∃ z : List Loc, z = [] := ⟨_, rfl⟩
  rw [show W p l e ({ frames := 2, cells := 0, slots := 0, locals := 43 } : Room) s m args below meth c s.heap [] 0 0 Z (F0 m 0 ls []) = W p l e ({ frames := 2, cells := 0, slots := 0, locals := 43 } : Room) s m args below meth c H locs 0 0 Z (F0 m 0 ls []) by rw [hH, hL]]
  replace hI : mI D (mT cs) A s.heap s (W12 h r cs u) H locs := by rw [hH, hL]; exact hI
  refine lv_iload_n S.1 S.2.1 dX12_keep_0 rfl (lv_at hl 1 rfl) ?_
  refine m_si (As := [.int a1]) (rest := []) S hI.2.2.2.1.2.1 (c_X12_isShelf l a1 _ hw) (va_cwS 1 S.2.2.2.2 gX12_keep_X12_isShelf rfl rfl rfl (by decide +kernel) ⟨Nat.le_of_ble_eq_true rfl, Nat.le_of_ble_eq_true rfl⟩) rfl hl.1 rfl (Nat.le_of_ble_eq_true rfl) dX12_keep_1 ⟨Nat.zero_le _, Nat.zero_le _⟩ (fun y1 hw => ?_)
  refine lv_if_eq (tgt := 20) S.1 S.2.1 dX12_keep_4 (by decide) (fun c4 => ?_) (fun c4 => ?_)
  · have hw := hw.1 c4
    exact b20 u hw H locs ls hI (lv_sub hl [0] rfl)
  · have hw := hw.2 c4
    refine lv_iload_n S.1 S.2.1 dX12_keep_7 rfl (lv_at hl 2 rfl) ?_
    refine lv_iconst (v := (-1)) S.1 S.2.1 dX12_keep_8 (by decide) ?_
    refine lv_icmp_eq (tgt := 22) S.1 S.2.1 dX12_keep_9 (by decide) (fun c9 => ?_) (fun c9 => ?_)
    · have hw := hw.1 c9
      exact b22 a1 a2 u hw H locs ls hI (lv_sub hl [0, 1, 2] rfl)
    · have hw := hw.2 c9
      refine lv_aload_n S.1 S.2.1 dX12_keep_12 rfl (lv_at hl 0 rfl) ?_
      refine lv_iload_n S.1 S.2.1 dX12_keep_13 rfl (lv_at hl 2 rfl) ?_
      refine m_vi (As := [.int a2]) (rest := []) S (W12_self h r cs) hI rfl (c_X12_isBody l D h r cs a2 u _ hw) (cwV 1 S.2.2.2.2 gX12_keep_X12_isBody rfl rfl rfl (by decide +kernel) ⟨Nat.le_of_ble_eq_true rfl, Nat.le_of_ble_eq_true rfl⟩) (W12_at0 h r cs u) rfl rfl hl.1 rfl (Nat.le_of_ble_eq_true rfl) dX12_keep_14 ⟨Nat.zero_le _, Nat.zero_le _⟩ (fun y14 u14 H locs hw hI => ?_)
      refine lv_if_ne (tgt := 22) S.1 S.2.1 dX12_keep_17 (by decide) (fun c17 => ?_) (fun c17 => ?_)
      · have hw := hw.1 c17
        exact b22 a1 a2 u14 hw H locs ls hI (lv_sub hl [0, 1, 2] rfl)
      · have hw := hw.2 c17
        exact b20 u14 hw H locs ls hI (lv_sub hl [0] rfl)

def wp_X12_row_p22 (u : ST) (Q : Int32 → ST → Prop) : Prop :=
  Q ((-1) : Int32) u
def wp_X12_row_p54b (x1 : Int32) (x4 : Int32) (u : ST) (B54 : Int32 → Int32 → ST → Prop) (Q : Int32 → ST → Prop) : Prop :=
  (∀ y59 : Int32, y59 = (60 : Int32) * x1 → (∀ y62 : Int32, y62 = y59 + (60 : Int32) → ((y62 ≤ x4 → Q (1 : Int32) u) ∧ (¬ y62 ≤ x4 → (vp_in x4 360 ∧ ∀ u73 : ST, u73 = sJ u 55 (vp_updL (gJ u 55) x4.toNatClampNeg (0 : Int64)) → (∀ y74 : Int32, y74 = x4 + 1 → B54 x1 y74 u73))))))
def wp_X12_row_p54 (x1 : Int32) (x4 : Int32) (u : ST) (Q : Int32 → ST → Prop) : Prop := ∃ (I : Int32 → Int32 → ST → Prop) (μ : Int32 → Int32 → ST → Nat), I x1 x4 u ∧ ∀ (x1 : Int32) (x4 : Int32) (u : ST), I x1 x4 u → wp_X12_row_p54b x1 x4 u (fun yx1 yx4 yu => I yx1 yx4 yu ∧ μ yx1 yx4 yu < μ x1 x4 u) Q
def wp_X12_row (a1 : Int32) (a2 : Int32) (a3 : Int32) (u : ST) (Q : Int32 → ST → Prop) : Prop :=
  (wp_X12_isShelf a1 (fun y1 => ((y1 = 0 → wp_X12_row_p22 u Q) ∧ (¬ y1 = 0 → (wp_X12_in a2 (0 : Int32) (4 : Int32) (fun y10 => ((y10 = 0 → wp_X12_row_p22 u Q) ∧ (¬ y10 = 0 → ((a3 ≤ (60 : Int32) → ((0 ≤ a3 → (∀ y39 : Int32, y39 = ((-2) : Int32) - a2 → (vp_in a1 6 ∧ ∀ u40 : ST, u40 = sA u 53 (upd (gA u 53) a1.toNatClampNeg y39) → (vp_in a1 6 ∧ ∀ u47 : ST, u47 = sA u40 54 (upd (gA u40 54) a1.toNatClampNeg a3) → (∀ y51 : Int32, y51 = (60 : Int32) * a1 → wp_X12_row_p54 a1 y51 u47 Q))))) ∧ (¬ 0 ≤ a3 → Q ((-14) : Int32) u))) ∧ (¬ a3 ≤ (60 : Int32) → wp_X12_row_p22 u Q))))))))))
set_option maxHeartbeats 4000000 in
set_option maxRecDepth 100000 in
theorem c_X12_row (l : Launch) (D : va_G) (h : Nat) (r : Nat → Nat) (cs : Nat → ClassId) (a1 : Int32) (a2 : Int32) (a3 : Int32) (u : ST) (Q : Int32 → ST → Prop) (hw : wp_X12_row a1 a2 a3 u Q) : mCi l yX12_row wsX12_row ({ frames := 2, cells := 0, slots := 0, locals := 42 } : Room) 0 0 D (mT cs) (W12 h r cs) [.ref h, .int a1, .int a2, .int a3] u Q := by
  unfold mCi
  refine m_enter (QQ := fun A => va_Qi Q (mPos D (mT cs) A (W12 h r cs)) A) (cc := cX12_row) (maxL := 5) (ret := (some .int)) (by decide) rfl (Nat.le_of_ble_eq_true rfl) ?_
  intro p e s m args below meth c A ls S hr hlocks hname hl hI
  have S : CallFix p m c cX12_row 5 s args wsX12_row RX12 := S
  show W p l e ({ frames := 2, cells := 0, slots := 0, locals := 42 } : Room) s m args below meth c s.heap [] 0 0 (MQ below (va_Qi Q (mPos D (mT cs) A (W12 h r cs)) A) args s 0 0 A) (F0 m 0 ls [])
  generalize hZ : MQ below (va_Qi Q (mPos D (mT cs) A (W12 h r cs)) A) args s 0 0 A = Z
  have hin : ∀ w ∈ wsX120, w ∈ wsX12_row := fun _ h => List.mem_cons_of_mem _ (List.mem_append_right _ h)
  have hl : lv_has ls 5 [(0, .ref h), (1, .int a1), (2, .int a2), (3, .int a3)] := hl
  have b22 : ∀ (u : ST), wp_X12_row_p22 u Q → mGo p l e ({ frames := 2, cells := 0, slots := 0, locals := 42 } : Room) s m args below meth c A Z 5 D (mT cs) (W12 h r cs) 22 [(0, .ref h)] [] u := by
    intro u hw H locs ls hI hl
    unfold wp_X12_row_p22 at hw
    refine lv_iconst (v := (-1)) S.1 S.2.1 dX12_row_22 (by decide) ?_
    subst hZ
    exact m_iret S hr hlocks hI hw dX12_row_23
  have b54b : ∀ (B54 : Int32 → Int32 → ST → Prop), (∀ (x1 : Int32) (x4 : Int32) (u : ST), B54 x1 x4 u → mGo p l e ({ frames := 2, cells := 0, slots := 0, locals := 42 } : Room) s m args below meth c A Z 5 D (mT cs) (W12 h r cs) 54 [(0, .ref h), (1, .int x1), (4, .int x4)] [] u) → ∀ (x1 : Int32) (x4 : Int32) (u : ST), wp_X12_row_p54b x1 x4 u B54 Q → mGo p l e ({ frames := 2, cells := 0, slots := 0, locals := 42 } : Room) s m args below meth c A Z 5 D (mT cs) (W12 h r cs) 54 [(0, .ref h), (1, .int x1), (4, .int x4)] [] u := by
    intro B54 hB54 x1 x4 u hw H locs ls hI hl
    unfold wp_X12_row_p54b at hw
    refine lv_iload S.1 S.2.1 dX12_row_54 (lv_at hl 2 rfl) ?_
    refine lv_bipush (v := 60) S.1 S.2.1 dX12_row_56 (by decide) ?_
    refine lv_iload_n S.1 S.2.1 dX12_row_58 rfl (lv_at hl 1 rfl) ?_
    refine lv_imul S.1 S.2.1 dX12_row_59 ?_
    refine lv_topi (fun y59 ey59 => ?_)
    have hw := hw y59 ey59
    refine lv_bipush (v := 60) S.1 S.2.1 dX12_row_60 (by decide) ?_
    refine lv_iadd S.1 S.2.1 dX12_row_62 ?_
    refine lv_topi (fun y62 ey62 => ?_)
    have hw := hw y62 ey62
    refine lv_icmp_ge (tgt := 80) S.1 S.2.1 dX12_row_63 (by decide) (fun c63 => ?_) (fun c63 => ?_)
    · have hw := hw.1 c63
      refine lv_iconst (v := 1) S.1 S.2.1 dX12_row_80 (by decide) ?_
      subst hZ
      exact m_iret S hr hlocks hI hw dX12_row_81
    · have hw := hw.2 c63
      refine lv_aload_n S.1 S.2.1 dX12_row_66 rfl (lv_at hl 0 rfl) ?_
      refine m_get S hin hI 0 (W12_at0 h r cs u) rfl 55 (Nat.le_of_ble_eq_true rfl) (List.mem_of_getElem? (i := 3) rfl) rfl (Ff12_at55 r u) dX12_row_67 ?_
      refine lv_iload S.1 S.2.1 dX12_row_70 (lv_at hl 2 rfl) ?_
      refine lv_lconst (v := 0) S.1 S.2.1 dX12_row_72 (by decide) ?_
      obtain ⟨u73, eu73⟩ : ∃ z : ST, z = sJ u 55 (vp_updL (gJ u 55) x4.toNatClampNeg (0 : Int64)) := ⟨_, rfl⟩
      refine m_last S hI 28 3 (W12_at28 h r cs u) rfl hw.1 (W12_sJ55 h r cs u u73 _ eu73) dX12_row_73 (fun H locs hI => ?_)
      have hw := hw.2 u73 eu73
      obtain ⟨y74, ey74⟩ : ∃ z : Int32, z = x4 + 1 := ⟨_, rfl⟩
      have hw := hw y74 ey74
      refine lv_iinc (v := y74) (lv' := [(4, .int y74), (0, .ref h), (1, .int x1)]) S.1 S.2.1 dX12_row_74 hl (k := 2) rfl (by rw [ey74]; rfl) (by decide) rfl (fun ls hl => ?_)
      refine lv_goto (tgt := 54) S.1 S.2.1 dX12_row_77 (by decide) ?_
      exact hB54 x1 y74 u73 hw H locs ls hI (lv_sub hl [1, 2, 0] rfl)
  have b54 : ∀ (x1 : Int32) (x4 : Int32) (u : ST), wp_X12_row_p54 x1 x4 u Q → mGo p l e ({ frames := 2, cells := 0, slots := 0, locals := 42 } : Room) s m args below meth c A Z 5 D (mT cs) (W12 h r cs) 54 [(0, .ref h), (1, .int x1), (4, .int x4)] [] u := by
    intro x1 x4 u hw
    obtain ⟨I, μ, h0, hs⟩ := hw
    have key : ∀ (n : Nat) (x1 : Int32) (x4 : Int32) (u : ST), μ x1 x4 u = n → I x1 x4 u → mGo p l e ({ frames := 2, cells := 0, slots := 0, locals := 42 } : Room) s m args below meth c A Z 5 D (mT cs) (W12 h r cs) 54 [(0, .ref h), (1, .int x1), (4, .int x4)] [] u := by
      intro n
      induction n using Nat.strongRecOn with
      | ind n ih =>
        intro x1 x4 u hn hi
        exact b54b (fun yx1 yx4 yu => I yx1 yx4 yu ∧ μ yx1 yx4 yu < μ x1 x4 u) (fun yx1 yx4 yu hb => ih _ (hn ▸ hb.2) yx1 yx4 yu rfl hb.1) x1 x4 u (hs x1 x4 u hi)
    exact key _ x1 x4 u rfl h0
  unfold wp_X12_row at hw
  obtain ⟨H, hH⟩ : ∃ z : Heap, z = s.heap := ⟨_, rfl⟩
  obtain ⟨locs, hL⟩ : ∃ z : List Loc, z = [] := ⟨_, rfl⟩
  rw [show W p l e ({ frames := 2, cells := 0, slots := 0, locals := 42 } : Room) s m args below meth c s.heap [] 0 0 Z (F0 m 0 ls []) = W p l e ({ frames := 2, cells := 0, slots := 0, locals := 42 } : Room) s m args below meth c H locs 0 0 Z (F0 m 0 ls []) by rw [hH, hL]]
  replace hI : mI D (mT cs) A s.heap s (W12 h r cs u) H locs := by rw [hH, hL]; exact hI
  refine lv_iload_n S.1 S.2.1 dX12_row_0 rfl (lv_at hl 1 rfl) ?_
  refine m_si (As := [.int a1]) (rest := []) S hI.2.2.2.1.2.1 (c_X12_isShelf l a1 _ hw) (va_cwS 1 S.2.2.2.2 gX12_row_X12_isShelf rfl rfl rfl (by decide +kernel) ⟨Nat.le_of_ble_eq_true rfl, Nat.le_of_ble_eq_true rfl⟩) rfl hl.1 rfl (Nat.le_of_ble_eq_true rfl) dX12_row_1 ⟨Nat.zero_le _, Nat.zero_le _⟩ (fun y1 hw => ?_)
  refine lv_if_eq (tgt := 22) S.1 S.2.1 dX12_row_4 (by decide) (fun c4 => ?_) (fun c4 => ?_)
  · have hw := hw.1 c4
    exact b22 u hw H locs ls hI (lv_sub hl [0] rfl)
  · have hw := hw.2 c4
    refine lv_iload_n S.1 S.2.1 dX12_row_7 rfl (lv_at hl 2 rfl) ?_
    refine lv_iconst (v := 0) S.1 S.2.1 dX12_row_8 (by decide) ?_
    refine lv_iconst (v := 4) S.1 S.2.1 dX12_row_9 (by decide) ?_
    refine m_si (As := [.int a2, .int (0 : Int32), .int (4 : Int32)]) (rest := []) S hI.2.2.2.1.2.1 (c_X12_in l a2 (0 : Int32) (4 : Int32) _ hw) (va_cwS 3 S.2.2.2.2 gX12_row_X12_in rfl rfl rfl (by decide +kernel) ⟨Nat.le_of_ble_eq_true rfl, Nat.le_of_ble_eq_true rfl⟩) rfl hl.1 rfl (Nat.le_of_ble_eq_true rfl) dX12_row_10 ⟨Nat.zero_le _, Nat.zero_le _⟩ (fun y10 hw => ?_)
    refine lv_if_eq (tgt := 22) S.1 S.2.1 dX12_row_13 (by decide) (fun c13 => ?_) (fun c13 => ?_)
    · have hw := hw.1 c13
      exact b22 u hw H locs ls hI (lv_sub hl [0] rfl)
    · have hw := hw.2 c13
      refine lv_iload_n S.1 S.2.1 dX12_row_16 rfl (lv_at hl 3 rfl) ?_
      refine lv_bipush (v := 60) S.1 S.2.1 dX12_row_17 (by decide) ?_
      refine lv_icmp_le (tgt := 24) S.1 S.2.1 dX12_row_19 (by decide) (fun c19 => ?_) (fun c19 => ?_)
      · have hw := hw.1 c19
        refine lv_iload_n S.1 S.2.1 dX12_row_24 rfl (lv_at hl 3 rfl) ?_
        refine lv_if_ge (tgt := 31) S.1 S.2.1 dX12_row_25 (by decide) (fun c25 => ?_) (fun c25 => ?_)
        · have hw := hw.1 c25
          refine lv_aload_n S.1 S.2.1 dX12_row_31 rfl (lv_at hl 0 rfl) ?_
          refine m_get S hin hI 0 (W12_at0 h r cs u) rfl 53 (Nat.le_of_ble_eq_true rfl) (List.mem_of_getElem? (i := 1) rfl) rfl (Ff12_at53 r u) dX12_row_32 ?_
          refine lv_iload_n S.1 S.2.1 dX12_row_35 rfl (lv_at hl 1 rfl) ?_
          refine lv_bipush (v := (-2)) S.1 S.2.1 dX12_row_36 (by decide) ?_
          refine lv_iload_n S.1 S.2.1 dX12_row_38 rfl (lv_at hl 2 rfl) ?_
          refine lv_isub S.1 S.2.1 dX12_row_39 ?_
          refine lv_topi (fun y39 ey39 => ?_)
          have hw := hw y39 ey39
          obtain ⟨u40, eu40⟩ : ∃ z : ST, z = sA u 53 (upd (gA u 53) a1.toNatClampNeg y39) := ⟨_, rfl⟩
          refine m_iast S hI 26 0 (W12_at26 h r cs u) rfl hw.1 (W12_sA53 h r cs u u40 _ eu40) dX12_row_40 (fun H locs hI => ?_)
          have hw := hw.2 u40 eu40
          refine lv_aload_n S.1 S.2.1 dX12_row_41 rfl (lv_at hl 0 rfl) ?_
          refine m_get S hin hI 0 (W12_at0 h r cs u40) rfl 54 (Nat.le_of_ble_eq_true rfl) (List.mem_of_getElem? (i := 2) rfl) rfl (Ff12_at54 r u40) dX12_row_42 ?_
          refine lv_iload_n S.1 S.2.1 dX12_row_45 rfl (lv_at hl 1 rfl) ?_
          refine lv_iload_n S.1 S.2.1 dX12_row_46 rfl (lv_at hl 3 rfl) ?_
          obtain ⟨u47, eu47⟩ : ∃ z : ST, z = sA u40 54 (upd (gA u40 54) a1.toNatClampNeg a3) := ⟨_, rfl⟩
          refine m_iast S hI 27 0 (W12_at27 h r cs u40) rfl hw.1 (W12_sA54 h r cs u40 u47 _ eu47) dX12_row_47 (fun H locs hI => ?_)
          have hw := hw.2 u47 eu47
          refine lv_bipush (v := 60) S.1 S.2.1 dX12_row_48 (by decide) ?_
          refine lv_iload_n S.1 S.2.1 dX12_row_50 rfl (lv_at hl 1 rfl) ?_
          refine lv_imul S.1 S.2.1 dX12_row_51 ?_
          refine lv_topi (fun y51 ey51 => ?_)
          have hw := hw y51 ey51
          refine lv_istore (lv' := [(4, .int y51), (0, .ref h), (1, .int a1), (2, .int a2), (3, .int a3)]) S.1 S.2.1 dX12_row_52 hl (by decide) rfl (fun ls hl => ?_)
          exact b54 a1 y51 u47 hw H locs ls hI (lv_sub hl [1, 2, 0] rfl)
        · have hw := hw.2 c25
          refine lv_bipush (v := (-14)) S.1 S.2.1 dX12_row_28 (by decide) ?_
          subst hZ
          exact m_iret S hr hlocks hI hw dX12_row_30
      · have hw := hw.2 c19
        exact b22 u hw H locs ls hI (lv_sub hl [0] rfl)

def wp_X12_whyNoPlace_p56 (t0 : Int32) (u : ST) (Q : Int32 → ST → Prop) : Prop :=
  Q t0 u
def wp_X12_whyNoPlace (a1 : Int32) (a2 : Int32) (u : ST) (Q : Int32 → ST → Prop) : Prop :=
  (wp_X12_isShelf a1 (fun y1 => ((¬ y1 = 0 → (vp_in a1 6 ∧ ∀ y14 : Int32, y14 = gA u 53 a1.toNatClampNeg → ((¬ y14 = ((-1) : Int32) → (vp_in a1 6 ∧ ∀ y27 : Int32, y27 = gA u 53 a1.toNatClampNeg → ((y27 < 0 → (vp_in a1 6 ∧ ∀ y41 : Int32, y41 = gA u 54 a1.toNatClampNeg → (∀ y43 : Int32, y43 = y41 - (1 : Int32) → (wp_X12_in a2 (0 : Int32) y43 (fun y44 => ((y44 = 0 → wp_X12_whyNoPlace_p56 ((-13) : Int32) u Q) ∧ (¬ y44 = 0 → wp_X12_whyNoPlace_p56 (0 : Int32) u Q))))))) ∧ (¬ y27 < 0 → Q ((-12) : Int32) u)))) ∧ (y14 = ((-1) : Int32) → Q ((-11) : Int32) u)))) ∧ (y1 = 0 → Q ((-1) : Int32) u))))
set_option maxHeartbeats 4000000 in
set_option maxRecDepth 100000 in
theorem c_X12_whyNoPlace (l : Launch) (D : va_G) (h : Nat) (r : Nat → Nat) (cs : Nat → ClassId) (a1 : Int32) (a2 : Int32) (u : ST) (Q : Int32 → ST → Prop) (hw : wp_X12_whyNoPlace a1 a2 u Q) : mCi l yX12_whyNoPlace wsX12_whyNoPlace ({ frames := 2, cells := 0, slots := 0, locals := 42 } : Room) 0 0 D (mT cs) (W12 h r cs) [.ref h, .int a1, .int a2] u Q := by
  unfold mCi
  refine m_enter (QQ := fun A => va_Qi Q (mPos D (mT cs) A (W12 h r cs)) A) (cc := cX12_whyNoPlace) (maxL := 3) (ret := (some .int)) (by decide) rfl (Nat.le_of_ble_eq_true rfl) ?_
  intro p e s m args below meth c A ls S hr hlocks hname hl hI
  have S : CallFix p m c cX12_whyNoPlace 3 s args wsX12_whyNoPlace RX12 := S
  show W p l e ({ frames := 2, cells := 0, slots := 0, locals := 42 } : Room) s m args below meth c s.heap [] 0 0 (MQ below (va_Qi Q (mPos D (mT cs) A (W12 h r cs)) A) args s 0 0 A) (F0 m 0 ls [])
  generalize hZ : MQ below (va_Qi Q (mPos D (mT cs) A (W12 h r cs)) A) args s 0 0 A = Z
  have hin : ∀ w ∈ wsX120, w ∈ wsX12_whyNoPlace := fun _ h => List.mem_cons_of_mem _ (List.mem_append_right _ h)
  have hl : lv_has ls 3 [(0, .ref h), (1, .int a1), (2, .int a2)] := hl
  have b56 : ∀ (t0 : Int32) (u : ST), wp_X12_whyNoPlace_p56 t0 u Q → mGo p l e ({ frames := 2, cells := 0, slots := 0, locals := 42 } : Room) s m args below meth c A Z 3 D (mT cs) (W12 h r cs) 56 [(0, .ref h)] [.int t0] u := by
    intro t0 u hw H locs ls hI hl
    unfold wp_X12_whyNoPlace_p56 at hw
    subst hZ
    exact m_iret S hr hlocks hI hw dX12_whyNoPlace_56
  unfold wp_X12_whyNoPlace at hw
  obtain ⟨H, hH⟩ : ∃ z : Heap, z = s.heap := ⟨_, rfl⟩
  obtain ⟨locs, hL⟩ : ∃ z : List Loc, z = [] := ⟨_, rfl⟩
  rw [show W p l e ({ frames := 2, cells := 0, slots := 0, locals := 42 } : Room) s m args below meth c s.heap [] 0 0 Z (F0 m 0 ls []) = W p l e ({ frames := 2, cells := 0, slots := 0, locals := 42 } : Room) s m args below meth c H locs 0 0 Z (F0 m 0 ls []) by rw [hH, hL]]
  replace hI : mI D (mT cs) A s.heap s (W12 h r cs u) H locs := by rw [hH, hL]; exact hI
  refine lv_iload_n S.1 S.2.1 dX12_whyNoPlace_0 rfl (lv_at hl 1 rfl) ?_
  refine m_si (As := [.int a1]) (rest := []) S hI.2.2.2.1.2.1 (c_X12_isShelf l a1 _ hw) (va_cwS 1 S.2.2.2.2 gX12_whyNoPlace_X12_isShelf rfl rfl rfl (by decide +kernel) ⟨Nat.le_of_ble_eq_true rfl, Nat.le_of_ble_eq_true rfl⟩) rfl hl.1 rfl (Nat.le_of_ble_eq_true rfl) dX12_whyNoPlace_1 ⟨Nat.zero_le _, Nat.zero_le _⟩ (fun y1 hw => ?_)
  refine lv_if_ne (tgt := 9) S.1 S.2.1 dX12_whyNoPlace_4 (by decide) (fun c4 => ?_) (fun c4 => ?_)
  · have hw := hw.1 c4
    refine lv_aload_n S.1 S.2.1 dX12_whyNoPlace_9 rfl (lv_at hl 0 rfl) ?_
    refine m_get S hin hI 0 (W12_at0 h r cs u) rfl 53 (Nat.le_of_ble_eq_true rfl) (List.mem_of_getElem? (i := 1) rfl) rfl (Ff12_at53 r u) dX12_whyNoPlace_10 ?_
    refine lv_iload_n S.1 S.2.1 dX12_whyNoPlace_13 rfl (lv_at hl 1 rfl) ?_
    refine m_iald S hI 26 0 (W12_at26 h r cs u) rfl hw.1 dX12_whyNoPlace_14 ?_
    refine lv_topi (fun y14 ey14 => ?_)
    have hw := hw.2 y14 ey14
    refine lv_iconst (v := (-1)) S.1 S.2.1 dX12_whyNoPlace_15 (by decide) ?_
    refine lv_icmp_ne (tgt := 22) S.1 S.2.1 dX12_whyNoPlace_16 (by decide) (fun c16 => ?_) (fun c16 => ?_)
    · have hw := hw.1 c16
      refine lv_aload_n S.1 S.2.1 dX12_whyNoPlace_22 rfl (lv_at hl 0 rfl) ?_
      refine m_get S hin hI 0 (W12_at0 h r cs u) rfl 53 (Nat.le_of_ble_eq_true rfl) (List.mem_of_getElem? (i := 1) rfl) rfl (Ff12_at53 r u) dX12_whyNoPlace_23 ?_
      refine lv_iload_n S.1 S.2.1 dX12_whyNoPlace_26 rfl (lv_at hl 1 rfl) ?_
      refine m_iald S hI 26 0 (W12_at26 h r cs u) rfl hw.1 dX12_whyNoPlace_27 ?_
      refine lv_topi (fun y27 ey27 => ?_)
      have hw := hw.2 y27 ey27
      refine lv_if_lt (tgt := 34) S.1 S.2.1 dX12_whyNoPlace_28 (by decide) (fun c28 => ?_) (fun c28 => ?_)
      · have hw := hw.1 c28
        refine lv_iload_n S.1 S.2.1 dX12_whyNoPlace_34 rfl (lv_at hl 2 rfl) ?_
        refine lv_iconst (v := 0) S.1 S.2.1 dX12_whyNoPlace_35 (by decide) ?_
        refine lv_aload_n S.1 S.2.1 dX12_whyNoPlace_36 rfl (lv_at hl 0 rfl) ?_
        refine m_get S hin hI 0 (W12_at0 h r cs u) rfl 54 (Nat.le_of_ble_eq_true rfl) (List.mem_of_getElem? (i := 2) rfl) rfl (Ff12_at54 r u) dX12_whyNoPlace_37 ?_
        refine lv_iload_n S.1 S.2.1 dX12_whyNoPlace_40 rfl (lv_at hl 1 rfl) ?_
        refine m_iald S hI 27 0 (W12_at27 h r cs u) rfl hw.1 dX12_whyNoPlace_41 ?_
        refine lv_topi (fun y41 ey41 => ?_)
        have hw := hw.2 y41 ey41
        refine lv_iconst (v := 1) S.1 S.2.1 dX12_whyNoPlace_42 (by decide) ?_
        refine lv_isub S.1 S.2.1 dX12_whyNoPlace_43 ?_
        refine lv_topi (fun y43 ey43 => ?_)
        have hw := hw y43 ey43
        refine m_si (As := [.int a2, .int (0 : Int32), .int y43]) (rest := []) S hI.2.2.2.1.2.1 (c_X12_in l a2 (0 : Int32) y43 _ hw) (va_cwS 3 S.2.2.2.2 gX12_whyNoPlace_X12_in rfl rfl rfl (by decide +kernel) ⟨Nat.le_of_ble_eq_true rfl, Nat.le_of_ble_eq_true rfl⟩) rfl hl.1 rfl (Nat.le_of_ble_eq_true rfl) dX12_whyNoPlace_44 ⟨Nat.zero_le _, Nat.zero_le _⟩ (fun y44 hw => ?_)
        refine lv_if_eq (tgt := 54) S.1 S.2.1 dX12_whyNoPlace_47 (by decide) (fun c47 => ?_) (fun c47 => ?_)
        · have hw := hw.1 c47
          refine lv_bipush (v := (-13)) S.1 S.2.1 dX12_whyNoPlace_54 (by decide) ?_
          exact b56 ((-13) : Int32) u hw H locs ls hI (lv_sub hl [0] rfl)
        · have hw := hw.2 c47
          refine lv_iconst (v := 0) S.1 S.2.1 dX12_whyNoPlace_50 (by decide) ?_
          refine lv_goto (tgt := 56) S.1 S.2.1 dX12_whyNoPlace_51 (by decide) ?_
          exact b56 (0 : Int32) u hw H locs ls hI (lv_sub hl [0] rfl)
      · have hw := hw.2 c28
        refine lv_bipush (v := (-12)) S.1 S.2.1 dX12_whyNoPlace_31 (by decide) ?_
        subst hZ
        exact m_iret S hr hlocks hI hw dX12_whyNoPlace_33
    · have hw := hw.2 c16
      refine lv_bipush (v := (-11)) S.1 S.2.1 dX12_whyNoPlace_19 (by decide) ?_
      subst hZ
      exact m_iret S hr hlocks hI hw dX12_whyNoPlace_21
  · have hw := hw.2 c4
    refine lv_iconst (v := (-1)) S.1 S.2.1 dX12_whyNoPlace_7 (by decide) ?_
    subst hZ
    exact m_iret S hr hlocks hI hw dX12_whyNoPlace_8

def wp_X12_put_p95 (t1 : Int32) (t2 : Int64) (u : ST) (Q : Int32 → ST → Prop) : Prop :=
  (vp_in t1 360 ∧ ∀ u95 : ST, u95 = sJ u 55 (vp_updL (gJ u 55) t1.toNatClampNeg t2) → Q (1 : Int32) u95)
def wp_X12_put (a1 : Int32) (a2 : Int32) (a3 : Int64) (u : ST) (Q : Int32 → ST → Prop) : Prop :=
  (wp_X12_whyNoPlace a1 a2 u (fun y3 u3 => ((0 ≤ y3 → (vp_in a1 6 ∧ ∀ y23 : Int32, y23 = gA u3 53 a1.toNatClampNeg → (∀ y24 : Int32, y24 = ((-2) : Int32) - y23 → (∀ y34 : Int32, y34 = (60 : Int32) * a1 → (∀ y36 : Int32, y36 = y34 + a2 → ((¬ y24 = 0 → ((¬ y24 = (1 : Int32) → ((¬ y24 = (2 : Int32) → ((¬ y24 = (3 : Int32) → (∀ y86 : Int32, y86 = lg_cmp a3 (0 : Int64) → ((y86 = 0 → wp_X12_put_p95 y36 (0 : Int64) u3 Q) ∧ (¬ y86 = 0 → wp_X12_put_p95 y36 (1 : Int64) u3 Q)))) ∧ (y24 = (3 : Int32) → wp_X12_put_p95 y36 a3 u3 Q))) ∧ (y24 = (2 : Int32) → (∀ y69 : Int32, y69 = a3.toInt32 → (∀ y70 : Int64, y70 = y69.toInt64 → wp_X12_put_p95 y36 y70 u3 Q))))) ∧ (y24 = (1 : Int32) → (∀ y56 : Int32, y56 = a3.toInt32 → (∀ y57 : Int32, y57 = y56.toInt16.toInt32 → (∀ y58 : Int64, y58 = y57.toInt64 → wp_X12_put_p95 y36 y58 u3 Q)))))) ∧ (y24 = 0 → (∀ y43 : Int32, y43 = a3.toInt32 → (∀ y44 : Int32, y44 = y43.toInt8.toInt32 → (∀ y45 : Int64, y45 = y44.toInt64 → wp_X12_put_p95 y36 y45 u3 Q)))))))))) ∧ (¬ 0 ≤ y3 → Q y3 u3))))
set_option maxHeartbeats 4000000 in
set_option maxRecDepth 100000 in
theorem c_X12_put (l : Launch) (D : va_G) (h : Nat) (r : Nat → Nat) (cs : Nat → ClassId) (a1 : Int32) (a2 : Int32) (a3 : Int64) (u : ST) (Q : Int32 → ST → Prop) (hw : wp_X12_put a1 a2 a3 u Q) : mCi l yX12_put wsX12_put ({ frames := 3, cells := 0, slots := 0, locals := 64 } : Room) 0 0 D (mT cs) (W12 h r cs) [.ref h, .int a1, .int a2, .long a3] u Q := by
  unfold mCi
  refine m_enter (QQ := fun A => va_Qi Q (mPos D (mT cs) A (W12 h r cs)) A) (cc := cX12_put) (maxL := 7) (ret := (some .int)) (by decide) rfl (Nat.le_of_ble_eq_true rfl) ?_
  intro p e s m args below meth c A ls S hr hlocks hname hl hI
  have S : CallFix p m c cX12_put 7 s args wsX12_put RX12 := S
  show W p l e ({ frames := 3, cells := 0, slots := 0, locals := 64 } : Room) s m args below meth c s.heap [] 0 0 (MQ below (va_Qi Q (mPos D (mT cs) A (W12 h r cs)) A) args s 0 0 A) (F0 m 0 ls [])
  generalize hZ : MQ below (va_Qi Q (mPos D (mT cs) A (W12 h r cs)) A) args s 0 0 A = Z
  have hin : ∀ w ∈ wsX120, w ∈ wsX12_put := fun _ h => List.mem_cons_of_mem _ (List.mem_append_right _ h)
  have hl : lv_has ls 7 [(0, .ref h), (1, .int a1), (2, .int a2), (3, .long a3)] := hl
  have b95 : ∀ (t1 : Int32) (t2 : Int64) (u : ST), wp_X12_put_p95 t1 t2 u Q → mGo p l e ({ frames := 3, cells := 0, slots := 0, locals := 64 } : Room) s m args below meth c A Z 7 D (mT cs) (W12 h r cs) 95 [(0, .ref h)] [.long t2, .int t1, .ref (r 55)] u := by
    intro t1 t2 u hw H locs ls hI hl
    unfold wp_X12_put_p95 at hw
    obtain ⟨u95, eu95⟩ : ∃ z : ST, z = sJ u 55 (vp_updL (gJ u 55) t1.toNatClampNeg t2) := ⟨_, rfl⟩
    refine m_last S hI 28 3 (W12_at28 h r cs u) rfl hw.1 (W12_sJ55 h r cs u u95 _ eu95) dX12_put_95 (fun H locs hI => ?_)
    have hw := hw.2 u95 eu95
    refine lv_iconst (v := 1) S.1 S.2.1 dX12_put_96 (by decide) ?_
    subst hZ
    exact m_iret S hr hlocks hI hw dX12_put_97
  unfold wp_X12_put at hw
  obtain ⟨H, hH⟩ : ∃ z : Heap, z = s.heap := ⟨_, rfl⟩
  obtain ⟨locs, hL⟩ : ∃ z : List Loc, z = [] := ⟨_, rfl⟩
  rw [show W p l e ({ frames := 3, cells := 0, slots := 0, locals := 64 } : Room) s m args below meth c s.heap [] 0 0 Z (F0 m 0 ls []) = W p l e ({ frames := 3, cells := 0, slots := 0, locals := 64 } : Room) s m args below meth c H locs 0 0 Z (F0 m 0 ls []) by rw [hH, hL]]
  replace hI : mI D (mT cs) A s.heap s (W12 h r cs u) H locs := by rw [hH, hL]; exact hI
  refine lv_aload_n S.1 S.2.1 dX12_put_0 rfl (lv_at hl 0 rfl) ?_
  refine lv_iload_n S.1 S.2.1 dX12_put_1 rfl (lv_at hl 1 rfl) ?_
  refine lv_iload_n S.1 S.2.1 dX12_put_2 rfl (lv_at hl 2 rfl) ?_
  refine m_vi (As := [.int a1, .int a2]) (rest := []) S (W12_self h r cs) hI rfl (c_X12_whyNoPlace l D h r cs a1 a2 u _ hw) (cwV 2 S.2.2.2.2 gX12_put_X12_whyNoPlace rfl rfl rfl (by decide +kernel) ⟨Nat.le_of_ble_eq_true rfl, Nat.le_of_ble_eq_true rfl⟩) (W12_at0 h r cs u) rfl rfl hl.1 rfl (Nat.le_of_ble_eq_true rfl) dX12_put_3 ⟨Nat.zero_le _, Nat.zero_le _⟩ (fun y3 u3 H locs hw hI => ?_)
  refine lv_istore (lv' := [(5, .int y3), (0, .ref h), (1, .int a1), (2, .int a2), (3, .long a3)]) S.1 S.2.1 dX12_put_6 hl (by decide) rfl (fun ls hl => ?_)
  refine lv_iload S.1 S.2.1 dX12_put_8 (lv_at hl 0 rfl) ?_
  refine lv_if_ge (tgt := 16) S.1 S.2.1 dX12_put_10 (by decide) (fun c10 => ?_) (fun c10 => ?_)
  · have hw := hw.1 c10
    refine lv_bipush (v := (-2)) S.1 S.2.1 dX12_put_16 (by decide) ?_
    refine lv_aload_n S.1 S.2.1 dX12_put_18 rfl (lv_at hl 1 rfl) ?_
    refine m_get S hin hI 0 (W12_at0 h r cs u3) rfl 53 (Nat.le_of_ble_eq_true rfl) (List.mem_of_getElem? (i := 1) rfl) rfl (Ff12_at53 r u3) dX12_put_19 ?_
    refine lv_iload_n S.1 S.2.1 dX12_put_22 rfl (lv_at hl 2 rfl) ?_
    refine m_iald S hI 26 0 (W12_at26 h r cs u3) rfl hw.1 dX12_put_23 ?_
    refine lv_topi (fun y23 ey23 => ?_)
    have hw := hw.2 y23 ey23
    refine lv_isub S.1 S.2.1 dX12_put_24 ?_
    refine lv_topi (fun y24 ey24 => ?_)
    have hw := hw y24 ey24
    refine lv_istore (lv' := [(6, .int y24), (5, .int y3), (0, .ref h), (1, .int a1), (2, .int a2), (3, .long a3)]) S.1 S.2.1 dX12_put_25 hl (by decide) rfl (fun ls hl => ?_)
    refine lv_aload_n S.1 S.2.1 dX12_put_27 rfl (lv_at hl 2 rfl) ?_
    refine m_get S hin hI 0 (W12_at0 h r cs u3) rfl 55 (Nat.le_of_ble_eq_true rfl) (List.mem_of_getElem? (i := 2) rfl) rfl (Ff12_at55 r u3) dX12_put_28 ?_
    refine lv_bipush (v := 60) S.1 S.2.1 dX12_put_31 (by decide) ?_
    refine lv_iload_n S.1 S.2.1 dX12_put_33 rfl (lv_at hl 3 rfl) ?_
    refine lv_imul S.1 S.2.1 dX12_put_34 ?_
    refine lv_topi (fun y34 ey34 => ?_)
    have hw := hw y34 ey34
    refine lv_iload_n S.1 S.2.1 dX12_put_35 rfl (lv_at hl 4 rfl) ?_
    refine lv_iadd S.1 S.2.1 dX12_put_36 ?_
    refine lv_topi (fun y36 ey36 => ?_)
    have hw := hw y36 ey36
    refine lv_iload S.1 S.2.1 dX12_put_37 (lv_at hl 0 rfl) ?_
    refine lv_if_ne (tgt := 49) S.1 S.2.1 dX12_put_39 (by decide) (fun c39 => ?_) (fun c39 => ?_)
    · have hw := hw.1 c39
      refine lv_iload S.1 S.2.1 dX12_put_49 (lv_at hl 0 rfl) ?_
      refine lv_iconst (v := 1) S.1 S.2.1 dX12_put_51 (by decide) ?_
      refine lv_icmp_ne (tgt := 62) S.1 S.2.1 dX12_put_52 (by decide) (fun c52 => ?_) (fun c52 => ?_)
      · have hw := hw.1 c52
        refine lv_iload S.1 S.2.1 dX12_put_62 (lv_at hl 0 rfl) ?_
        refine lv_iconst (v := 2) S.1 S.2.1 dX12_put_64 (by decide) ?_
        refine lv_icmp_ne (tgt := 74) S.1 S.2.1 dX12_put_65 (by decide) (fun c65 => ?_) (fun c65 => ?_)
        · have hw := hw.1 c65
          refine lv_iload S.1 S.2.1 dX12_put_74 (lv_at hl 0 rfl) ?_
          refine lv_iconst (v := 3) S.1 S.2.1 dX12_put_76 (by decide) ?_
          refine lv_icmp_ne (tgt := 84) S.1 S.2.1 dX12_put_77 (by decide) (fun c77 => ?_) (fun c77 => ?_)
          · have hw := hw.1 c77
            refine lv_lload_n S.1 S.2.1 dX12_put_84 rfl (lv_at hl 5 rfl) ?_
            refine lv_lconst (v := 0) S.1 S.2.1 dX12_put_85 (by decide) ?_
            refine W.lcmp S.1 S.2.1 dX12_put_86 ?_
            refine lv_topi (fun y86 ey86 => ?_)
            have hw := hw y86 ey86
            refine lv_if_eq (tgt := 94) S.1 S.2.1 dX12_put_87 (by decide) (fun c87 => ?_) (fun c87 => ?_)
            · have hw := hw.1 c87
              refine lv_lconst (v := 0) S.1 S.2.1 dX12_put_94 (by decide) ?_
              exact b95 y36 (0 : Int64) u3 hw H locs ls hI (lv_sub hl [2] rfl)
            · have hw := hw.2 c87
              refine lv_lconst (v := 1) S.1 S.2.1 dX12_put_90 (by decide) ?_
              refine lv_goto (tgt := 95) S.1 S.2.1 dX12_put_91 (by decide) ?_
              exact b95 y36 (1 : Int64) u3 hw H locs ls hI (lv_sub hl [2] rfl)
          · have hw := hw.2 c77
            refine lv_lload_n S.1 S.2.1 dX12_put_80 rfl (lv_at hl 5 rfl) ?_
            refine lv_goto (tgt := 95) S.1 S.2.1 dX12_put_81 (by decide) ?_
            exact b95 y36 a3 u3 hw H locs ls hI (lv_sub hl [2] rfl)
        · have hw := hw.2 c65
          refine lv_lload_n S.1 S.2.1 dX12_put_68 rfl (lv_at hl 5 rfl) ?_
          refine lv_l2i S.1 S.2.1 dX12_put_69 rfl ?_
          refine lv_topi (fun y69 ey69 => ?_)
          have hw := hw y69 ey69
          refine lv_i2l S.1 S.2.1 dX12_put_70 rfl ?_
          refine lv_topl (fun y70 ey70 => ?_)
          have hw := hw y70 ey70
          refine lv_goto (tgt := 95) S.1 S.2.1 dX12_put_71 (by decide) ?_
          exact b95 y36 y70 u3 hw H locs ls hI (lv_sub hl [2] rfl)
      · have hw := hw.2 c52
        refine lv_lload_n S.1 S.2.1 dX12_put_55 rfl (lv_at hl 5 rfl) ?_
        refine lv_l2i S.1 S.2.1 dX12_put_56 rfl ?_
        refine lv_topi (fun y56 ey56 => ?_)
        have hw := hw y56 ey56
        refine lv_i2s S.1 S.2.1 dX12_put_57 rfl ?_
        refine lv_topi (fun y57 ey57 => ?_)
        have hw := hw y57 ey57
        refine lv_i2l S.1 S.2.1 dX12_put_58 rfl ?_
        refine lv_topl (fun y58 ey58 => ?_)
        have hw := hw y58 ey58
        refine lv_goto (tgt := 95) S.1 S.2.1 dX12_put_59 (by decide) ?_
        exact b95 y36 y58 u3 hw H locs ls hI (lv_sub hl [2] rfl)
    · have hw := hw.2 c39
      refine lv_lload_n S.1 S.2.1 dX12_put_42 rfl (lv_at hl 5 rfl) ?_
      refine lv_l2i S.1 S.2.1 dX12_put_43 rfl ?_
      refine lv_topi (fun y43 ey43 => ?_)
      have hw := hw y43 ey43
      refine lv_i2b S.1 S.2.1 dX12_put_44 rfl ?_
      refine lv_topi (fun y44 ey44 => ?_)
      have hw := hw y44 ey44
      refine lv_i2l S.1 S.2.1 dX12_put_45 rfl ?_
      refine lv_topl (fun y45 ey45 => ?_)
      have hw := hw y45 ey45
      refine lv_goto (tgt := 95) S.1 S.2.1 dX12_put_46 (by decide) ?_
      exact b95 y36 y45 u3 hw H locs ls hI (lv_sub hl [2] rfl)
  · have hw := hw.2 c10
    refine lv_iload S.1 S.2.1 dX12_put_13 (lv_at hl 0 rfl) ?_
    subst hZ
    exact m_iret S hr hlocks hI hw dX12_put_15

def wp_X12_element_p26 (t0 : Int64) (u : ST) (Q : Int64 → ST → Prop) : Prop :=
  Q t0 u
def wp_X12_element (a1 : Int32) (a2 : Int32) (u : ST) (Q : Int64 → ST → Prop) : Prop :=
  (wp_X12_whyNoPlace a1 a2 u (fun y3 u3 => ((0 ≤ y3 → (∀ y22 : Int32, y22 = (60 : Int32) * a1 → (∀ y24 : Int32, y24 = y22 + a2 → (vp_in y24 360 ∧ ∀ y25 : Int64, y25 = gJ u3 55 y24.toNatClampNeg → wp_X12_element_p26 y25 u3 Q)))) ∧ (¬ 0 ≤ y3 → wp_X12_element_p26 ((-9223372036854775808) : Int64) u3 Q))))
set_option maxHeartbeats 4000000 in
set_option maxRecDepth 100000 in
theorem c_X12_element (l : Launch) (D : va_G) (h : Nat) (r : Nat → Nat) (cs : Nat → ClassId) (a1 : Int32) (a2 : Int32) (u : ST) (Q : Int64 → ST → Prop) (hw : wp_X12_element a1 a2 u Q) : mCl l yX12_element wsX12_element ({ frames := 3, cells := 0, slots := 0, locals := 64 } : Room) 0 0 D (mT cs) (W12 h r cs) [.ref h, .int a1, .int a2] u Q := by
  unfold mCl
  refine m_enter (QQ := fun A => va_Ql Q (mPos D (mT cs) A (W12 h r cs)) A) (cc := cX12_element) (maxL := 3) (ret := (some .long)) (by decide) rfl (Nat.le_of_ble_eq_true rfl) ?_
  intro p e s m args below meth c A ls S hr hlocks hname hl hI
  have S : CallFix p m c cX12_element 3 s args wsX12_element RX12 := S
  show W p l e ({ frames := 3, cells := 0, slots := 0, locals := 64 } : Room) s m args below meth c s.heap [] 0 0 (MQ below (va_Ql Q (mPos D (mT cs) A (W12 h r cs)) A) args s 0 0 A) (F0 m 0 ls [])
  generalize hZ : MQ below (va_Ql Q (mPos D (mT cs) A (W12 h r cs)) A) args s 0 0 A = Z
  have hin : ∀ w ∈ wsX120, w ∈ wsX12_element := fun _ h => List.mem_cons_of_mem _ (List.mem_append_right _ h)
  have hl : lv_has ls 3 [(0, .ref h), (1, .int a1), (2, .int a2)] := hl
  have b26 : ∀ (t0 : Int64) (u : ST), wp_X12_element_p26 t0 u Q → mGo p l e ({ frames := 3, cells := 0, slots := 0, locals := 64 } : Room) s m args below meth c A Z 3 D (mT cs) (W12 h r cs) 26 [(0, .ref h)] [.long t0] u := by
    intro t0 u hw H locs ls hI hl
    unfold wp_X12_element_p26 at hw
    subst hZ
    exact m_lret S hr hlocks hI hw dX12_element_26
  unfold wp_X12_element at hw
  obtain ⟨H, hH⟩ : ∃ z : Heap, z = s.heap := ⟨_, rfl⟩
  obtain ⟨locs, hL⟩ : ∃ z : List Loc, z = [] := ⟨_, rfl⟩
  rw [show W p l e ({ frames := 3, cells := 0, slots := 0, locals := 64 } : Room) s m args below meth c s.heap [] 0 0 Z (F0 m 0 ls []) = W p l e ({ frames := 3, cells := 0, slots := 0, locals := 64 } : Room) s m args below meth c H locs 0 0 Z (F0 m 0 ls []) by rw [hH, hL]]
  replace hI : mI D (mT cs) A s.heap s (W12 h r cs u) H locs := by rw [hH, hL]; exact hI
  refine lv_aload_n S.1 S.2.1 dX12_element_0 rfl (lv_at hl 0 rfl) ?_
  refine lv_iload_n S.1 S.2.1 dX12_element_1 rfl (lv_at hl 1 rfl) ?_
  refine lv_iload_n S.1 S.2.1 dX12_element_2 rfl (lv_at hl 2 rfl) ?_
  refine m_vi (As := [.int a1, .int a2]) (rest := []) S (W12_self h r cs) hI rfl (c_X12_whyNoPlace l D h r cs a1 a2 u _ hw) (cwV 2 S.2.2.2.2 gX12_element_X12_whyNoPlace rfl rfl rfl (by decide +kernel) ⟨Nat.le_of_ble_eq_true rfl, Nat.le_of_ble_eq_true rfl⟩) (W12_at0 h r cs u) rfl rfl hl.1 rfl (Nat.le_of_ble_eq_true rfl) dX12_element_3 ⟨Nat.zero_le _, Nat.zero_le _⟩ (fun y3 u3 H locs hw hI => ?_)
  refine lv_if_ge (tgt := 15) S.1 S.2.1 dX12_element_6 (by decide) (fun c6 => ?_) (fun c6 => ?_)
  · have hw := hw.1 c6
    refine lv_aload_n S.1 S.2.1 dX12_element_15 rfl (lv_at hl 0 rfl) ?_
    refine m_get S hin hI 0 (W12_at0 h r cs u3) rfl 55 (Nat.le_of_ble_eq_true rfl) (List.mem_of_getElem? (i := 2) rfl) rfl (Ff12_at55 r u3) dX12_element_16 ?_
    refine lv_bipush (v := 60) S.1 S.2.1 dX12_element_19 (by decide) ?_
    refine lv_iload_n S.1 S.2.1 dX12_element_21 rfl (lv_at hl 1 rfl) ?_
    refine lv_imul S.1 S.2.1 dX12_element_22 ?_
    refine lv_topi (fun y22 ey22 => ?_)
    have hw := hw y22 ey22
    refine lv_iload_n S.1 S.2.1 dX12_element_23 rfl (lv_at hl 2 rfl) ?_
    refine lv_iadd S.1 S.2.1 dX12_element_24 ?_
    refine lv_topi (fun y24 ey24 => ?_)
    have hw := hw y24 ey24
    refine m_lald S hI 28 3 (W12_at28 h r cs u3) rfl hw.1 dX12_element_25 ?_
    refine lv_topl (fun y25 ey25 => ?_)
    have hw := hw.2 y25 ey25
    exact b26 y25 u3 hw H locs ls hI (lv_sub hl [0] rfl)
  · have hw := hw.2 c6
    refine lv_ldc2 S.1 S.2.1 S.2.2.2.1 (S.2.2.2.2 _ (List.mem_of_getElem? (i := 1) rfl)) dX12_element_9 ?_
    refine lv_goto (tgt := 26) S.1 S.2.1 dX12_element_12 (by decide) ?_
    exact b26 ((-9223372036854775808) : Int64) u3 hw H locs ls hI (lv_sub hl [0] rfl)

def wp_X12_shift_p14 (u : ST) (Q : Int32 → ST → Prop) : Prop :=
  Q ((-1) : Int32) u
def wp_X12_shift_p36 (u : ST) (Q : Int32 → ST → Prop) : Prop :=
  Q ((-11) : Int32) u
def wp_X12_shift_p63 (u : ST) (Q : Int32 → ST → Prop) : Prop :=
  Q ((-12) : Int32) u
def wp_X12_shift_p107 (u : ST) (Q : Int32 → ST → Prop) : Prop :=
  Q ((-13) : Int32) u
def wp_X12_shift_p150b (x3 : Int32) (x4 : Int32) (x5 : Int32) (x6 : Int32) (u : ST) (B150 : Int32 → Int32 → Int32 → Int32 → ST → Prop) (Q : Int32 → ST → Prop) : Prop :=
  ((x5 ≤ x6 → Q x5 u) ∧ (¬ x5 ≤ x6 → (∀ y164 : Int32, y164 = (60 : Int32) * x3 → (∀ y167 : Int32, y167 = y164 + x4 → (∀ y170 : Int32, y170 = y167 + x6 → (vp_in x6 60 ∧ ∀ y177 : Int64, y177 = gJ u 56 x6.toNatClampNeg → (vp_in y170 360 ∧ ∀ u178 : ST, u178 = sJ u 55 (vp_updL (gJ u 55) y170.toNatClampNeg y177) → (∀ y179 : Int32, y179 = x6 + 1 → B150 x3 x4 x5 y179 u178))))))))
def wp_X12_shift_p150 (x3 : Int32) (x4 : Int32) (x5 : Int32) (x6 : Int32) (u : ST) (Q : Int32 → ST → Prop) : Prop := ∃ (I : Int32 → Int32 → Int32 → Int32 → ST → Prop) (μ : Int32 → Int32 → Int32 → Int32 → ST → Nat), I x3 x4 x5 x6 u ∧ ∀ (x3 : Int32) (x4 : Int32) (x5 : Int32) (x6 : Int32) (u : ST), I x3 x4 x5 x6 u → wp_X12_shift_p150b x3 x4 x5 x6 u (fun yx3 yx4 yx5 yx6 yu => I yx3 yx4 yx5 yx6 yu ∧ μ yx3 yx4 yx5 yx6 yu < μ x3 x4 x5 x6 u) Q
def wp_X12_shift_p113b (x1 : Int32) (x2 : Int32) (x3 : Int32) (x4 : Int32) (x5 : Int32) (x6 : Int32) (u : ST) (B113 : Int32 → Int32 → Int32 → Int32 → Int32 → Int32 → ST → Prop) (Q : Int32 → ST → Prop) : Prop :=
  ((x5 ≤ x6 → wp_X12_shift_p150 x3 x4 x5 (0 : Int32) u Q) ∧ (¬ x5 ≤ x6 → (∀ y133 : Int32, y133 = (60 : Int32) * x1 → (∀ y135 : Int32, y135 = y133 + x2 → (∀ y138 : Int32, y138 = y135 + x6 → (vp_in y138 360 ∧ ∀ y139 : Int64, y139 = gJ u 55 y138.toNatClampNeg → (vp_in x6 60 ∧ ∀ u140 : ST, u140 = sJ u 56 (vp_updL (gJ u 56) x6.toNatClampNeg y139) → (∀ y141 : Int32, y141 = x6 + 1 → B113 x1 x2 x3 x4 x5 y141 u140))))))))
def wp_X12_shift_p113 (x1 : Int32) (x2 : Int32) (x3 : Int32) (x4 : Int32) (x5 : Int32) (x6 : Int32) (u : ST) (Q : Int32 → ST → Prop) : Prop := ∃ (I : Int32 → Int32 → Int32 → Int32 → Int32 → Int32 → ST → Prop) (μ : Int32 → Int32 → Int32 → Int32 → Int32 → Int32 → ST → Nat), I x1 x2 x3 x4 x5 x6 u ∧ ∀ (x1 : Int32) (x2 : Int32) (x3 : Int32) (x4 : Int32) (x5 : Int32) (x6 : Int32) (u : ST), I x1 x2 x3 x4 x5 x6 u → wp_X12_shift_p113b x1 x2 x3 x4 x5 x6 u (fun yx1 yx2 yx3 yx4 yx5 yx6 yu => I yx1 yx2 yx3 yx4 yx5 yx6 yu ∧ μ yx1 yx2 yx3 yx4 yx5 yx6 yu < μ x1 x2 x3 x4 x5 x6 u) Q
def wp_X12_shift (a1 : Int32) (a2 : Int32) (a3 : Int32) (a4 : Int32) (a5 : Int32) (u : ST) (Q : Int32 → ST → Prop) : Prop :=
  (wp_X12_isShelf a1 (fun y1 => ((y1 = 0 → wp_X12_shift_p14 u Q) ∧ (¬ y1 = 0 → (wp_X12_isShelf a3 (fun y8 => ((¬ y8 = 0 → (vp_in a1 6 ∧ ∀ y21 : Int32, y21 = gA u 53 a1.toNatClampNeg → ((y21 = ((-1) : Int32) → wp_X12_shift_p36 u Q) ∧ (¬ y21 = ((-1) : Int32) → (vp_in a3 6 ∧ ∀ y31 : Int32, y31 = gA u 53 a3.toNatClampNeg → ((¬ y31 = ((-1) : Int32) → (vp_in a1 6 ∧ ∀ y44 : Int32, y44 = gA u 53 a1.toNatClampNeg → ((0 ≤ y44 → wp_X12_shift_p63 u Q) ∧ (¬ 0 ≤ y44 → (vp_in a1 6 ∧ ∀ y53 : Int32, y53 = gA u 53 a1.toNatClampNeg → (vp_in a3 6 ∧ ∀ y59 : Int32, y59 = gA u 53 a3.toNatClampNeg → ((y53 = y59 → ((a5 < 0 → wp_X12_shift_p107 u Q) ∧ (¬ a5 < 0 → ((a2 < 0 → wp_X12_shift_p107 u Q) ∧ (¬ a2 < 0 → ((a4 < 0 → wp_X12_shift_p107 u Q) ∧ (¬ a4 < 0 → (vp_in a1 6 ∧ ∀ y86 : Int32, y86 = gA u 54 a1.toNatClampNeg → (∀ y89 : Int32, y89 = y86 - a5 → ((y89 < a2 → wp_X12_shift_p107 u Q) ∧ (¬ y89 < a2 → (vp_in a3 6 ∧ ∀ y100 : Int32, y100 = gA u 54 a3.toNatClampNeg → (∀ y103 : Int32, y103 = y100 - a5 → ((a4 ≤ y103 → wp_X12_shift_p113 a1 a2 a3 a4 a5 (0 : Int32) u Q) ∧ (¬ a4 ≤ y103 → wp_X12_shift_p107 u Q))))))))))))))) ∧ (¬ y53 = y59 → wp_X12_shift_p63 u Q)))))))) ∧ (y31 = ((-1) : Int32) → wp_X12_shift_p36 u Q))))))) ∧ (y8 = 0 → wp_X12_shift_p14 u Q))))))))
set_option maxHeartbeats 4000000 in
set_option maxRecDepth 100000 in
theorem c_X12_shift (l : Launch) (D : va_G) (h : Nat) (r : Nat → Nat) (cs : Nat → ClassId) (a1 : Int32) (a2 : Int32) (a3 : Int32) (a4 : Int32) (a5 : Int32) (u : ST) (Q : Int32 → ST → Prop) (hw : wp_X12_shift a1 a2 a3 a4 a5 u Q) : mCi l yX12_shift wsX12_shift ({ frames := 2, cells := 0, slots := 0, locals := 42 } : Room) 0 0 D (mT cs) (W12 h r cs) [.ref h, .int a1, .int a2, .int a3, .int a4, .int a5] u Q := by
  unfold mCi
  refine m_enter (QQ := fun A => va_Qi Q (mPos D (mT cs) A (W12 h r cs)) A) (cc := cX12_shift) (maxL := 7) (ret := (some .int)) (by decide) rfl (Nat.le_of_ble_eq_true rfl) ?_
  intro p e s m args below meth c A ls S hr hlocks hname hl hI
  have S : CallFix p m c cX12_shift 7 s args wsX12_shift RX12 := S
  show W p l e ({ frames := 2, cells := 0, slots := 0, locals := 42 } : Room) s m args below meth c s.heap [] 0 0 (MQ below (va_Qi Q (mPos D (mT cs) A (W12 h r cs)) A) args s 0 0 A) (F0 m 0 ls [])
  generalize hZ : MQ below (va_Qi Q (mPos D (mT cs) A (W12 h r cs)) A) args s 0 0 A = Z
  have hin : ∀ w ∈ wsX120, w ∈ wsX12_shift := fun _ h => List.mem_cons_of_mem _ (List.mem_append_right _ h)
  have hl : lv_has ls 7 [(0, .ref h), (1, .int a1), (2, .int a2), (3, .int a3), (4, .int a4), (5, .int a5)] := hl
  have b14 : ∀ (u : ST), wp_X12_shift_p14 u Q → mGo p l e ({ frames := 2, cells := 0, slots := 0, locals := 42 } : Room) s m args below meth c A Z 7 D (mT cs) (W12 h r cs) 14 [(0, .ref h)] [] u := by
    intro u hw H locs ls hI hl
    unfold wp_X12_shift_p14 at hw
    refine lv_iconst (v := (-1)) S.1 S.2.1 dX12_shift_14 (by decide) ?_
    subst hZ
    exact m_iret S hr hlocks hI hw dX12_shift_15
  have b36 : ∀ (u : ST), wp_X12_shift_p36 u Q → mGo p l e ({ frames := 2, cells := 0, slots := 0, locals := 42 } : Room) s m args below meth c A Z 7 D (mT cs) (W12 h r cs) 36 [(0, .ref h)] [] u := by
    intro u hw H locs ls hI hl
    unfold wp_X12_shift_p36 at hw
    refine lv_bipush (v := (-11)) S.1 S.2.1 dX12_shift_36 (by decide) ?_
    subst hZ
    exact m_iret S hr hlocks hI hw dX12_shift_38
  have b63 : ∀ (u : ST), wp_X12_shift_p63 u Q → mGo p l e ({ frames := 2, cells := 0, slots := 0, locals := 42 } : Room) s m args below meth c A Z 7 D (mT cs) (W12 h r cs) 63 [(0, .ref h)] [] u := by
    intro u hw H locs ls hI hl
    unfold wp_X12_shift_p63 at hw
    refine lv_bipush (v := (-12)) S.1 S.2.1 dX12_shift_63 (by decide) ?_
    subst hZ
    exact m_iret S hr hlocks hI hw dX12_shift_65
  have b107 : ∀ (u : ST), wp_X12_shift_p107 u Q → mGo p l e ({ frames := 2, cells := 0, slots := 0, locals := 42 } : Room) s m args below meth c A Z 7 D (mT cs) (W12 h r cs) 107 [(0, .ref h)] [] u := by
    intro u hw H locs ls hI hl
    unfold wp_X12_shift_p107 at hw
    refine lv_bipush (v := (-13)) S.1 S.2.1 dX12_shift_107 (by decide) ?_
    subst hZ
    exact m_iret S hr hlocks hI hw dX12_shift_109
  have b150b : ∀ (B150 : Int32 → Int32 → Int32 → Int32 → ST → Prop), (∀ (x3 : Int32) (x4 : Int32) (x5 : Int32) (x6 : Int32) (u : ST), B150 x3 x4 x5 x6 u → mGo p l e ({ frames := 2, cells := 0, slots := 0, locals := 42 } : Room) s m args below meth c A Z 7 D (mT cs) (W12 h r cs) 150 [(0, .ref h), (3, .int x3), (4, .int x4), (5, .int x5), (6, .int x6)] [] u) → ∀ (x3 : Int32) (x4 : Int32) (x5 : Int32) (x6 : Int32) (u : ST), wp_X12_shift_p150b x3 x4 x5 x6 u B150 Q → mGo p l e ({ frames := 2, cells := 0, slots := 0, locals := 42 } : Room) s m args below meth c A Z 7 D (mT cs) (W12 h r cs) 150 [(0, .ref h), (3, .int x3), (4, .int x4), (5, .int x5), (6, .int x6)] [] u := by
    intro B150 hB150 x3 x4 x5 x6 u hw H locs ls hI hl
    unfold wp_X12_shift_p150b at hw
    refine lv_iload S.1 S.2.1 dX12_shift_150 (lv_at hl 4 rfl) ?_
    refine lv_iload S.1 S.2.1 dX12_shift_152 (lv_at hl 3 rfl) ?_
    refine lv_icmp_ge (tgt := 185) S.1 S.2.1 dX12_shift_154 (by decide) (fun c154 => ?_) (fun c154 => ?_)
    · have hw := hw.1 c154
      refine lv_iload S.1 S.2.1 dX12_shift_185 (lv_at hl 3 rfl) ?_
      subst hZ
      exact m_iret S hr hlocks hI hw dX12_shift_187
    · have hw := hw.2 c154
      refine lv_aload_n S.1 S.2.1 dX12_shift_157 rfl (lv_at hl 0 rfl) ?_
      refine m_get S hin hI 0 (W12_at0 h r cs u) rfl 55 (Nat.le_of_ble_eq_true rfl) (List.mem_of_getElem? (i := 4) rfl) rfl (Ff12_at55 r u) dX12_shift_158 ?_
      refine lv_bipush (v := 60) S.1 S.2.1 dX12_shift_161 (by decide) ?_
      refine lv_iload_n S.1 S.2.1 dX12_shift_163 rfl (lv_at hl 1 rfl) ?_
      refine lv_imul S.1 S.2.1 dX12_shift_164 ?_
      refine lv_topi (fun y164 ey164 => ?_)
      have hw := hw y164 ey164
      refine lv_iload S.1 S.2.1 dX12_shift_165 (lv_at hl 2 rfl) ?_
      refine lv_iadd S.1 S.2.1 dX12_shift_167 ?_
      refine lv_topi (fun y167 ey167 => ?_)
      have hw := hw y167 ey167
      refine lv_iload S.1 S.2.1 dX12_shift_168 (lv_at hl 4 rfl) ?_
      refine lv_iadd S.1 S.2.1 dX12_shift_170 ?_
      refine lv_topi (fun y170 ey170 => ?_)
      have hw := hw y170 ey170
      refine lv_aload_n S.1 S.2.1 dX12_shift_171 rfl (lv_at hl 0 rfl) ?_
      refine m_get S hin hI 0 (W12_at0 h r cs u) rfl 56 (Nat.le_of_ble_eq_true rfl) (List.mem_of_getElem? (i := 3) rfl) rfl (Ff12_at56 r u) dX12_shift_172 ?_
      refine lv_iload S.1 S.2.1 dX12_shift_175 (lv_at hl 4 rfl) ?_
      refine m_lald S hI 29 3 (W12_at29 h r cs u) rfl hw.1 dX12_shift_177 ?_
      refine lv_topl (fun y177 ey177 => ?_)
      have hw := hw.2 y177 ey177
      obtain ⟨u178, eu178⟩ : ∃ z : ST, z = sJ u 55 (vp_updL (gJ u 55) y170.toNatClampNeg y177) := ⟨_, rfl⟩
      refine m_last S hI 28 3 (W12_at28 h r cs u) rfl hw.1 (W12_sJ55 h r cs u u178 _ eu178) dX12_shift_178 (fun H locs hI => ?_)
      have hw := hw.2 u178 eu178
      obtain ⟨y179, ey179⟩ : ∃ z : Int32, z = x6 + 1 := ⟨_, rfl⟩
      have hw := hw y179 ey179
      refine lv_iinc (v := y179) (lv' := [(6, .int y179), (0, .ref h), (3, .int x3), (4, .int x4), (5, .int x5)]) S.1 S.2.1 dX12_shift_179 hl (k := 4) rfl (by rw [ey179]; rfl) (by decide) rfl (fun ls hl => ?_)
      refine lv_goto (tgt := 150) S.1 S.2.1 dX12_shift_182 (by decide) ?_
      exact hB150 x3 x4 x5 y179 u178 hw H locs ls hI (lv_sub hl [1, 2, 3, 4, 0] rfl)
  have b150 : ∀ (x3 : Int32) (x4 : Int32) (x5 : Int32) (x6 : Int32) (u : ST), wp_X12_shift_p150 x3 x4 x5 x6 u Q → mGo p l e ({ frames := 2, cells := 0, slots := 0, locals := 42 } : Room) s m args below meth c A Z 7 D (mT cs) (W12 h r cs) 150 [(0, .ref h), (3, .int x3), (4, .int x4), (5, .int x5), (6, .int x6)] [] u := by
    intro x3 x4 x5 x6 u hw
    obtain ⟨I, μ, h0, hs⟩ := hw
    have key : ∀ (n : Nat) (x3 : Int32) (x4 : Int32) (x5 : Int32) (x6 : Int32) (u : ST), μ x3 x4 x5 x6 u = n → I x3 x4 x5 x6 u → mGo p l e ({ frames := 2, cells := 0, slots := 0, locals := 42 } : Room) s m args below meth c A Z 7 D (mT cs) (W12 h r cs) 150 [(0, .ref h), (3, .int x3), (4, .int x4), (5, .int x5), (6, .int x6)] [] u := by
      intro n
      induction n using Nat.strongRecOn with
      | ind n ih =>
        intro x3 x4 x5 x6 u hn hi
        exact b150b (fun yx3 yx4 yx5 yx6 yu => I yx3 yx4 yx5 yx6 yu ∧ μ yx3 yx4 yx5 yx6 yu < μ x3 x4 x5 x6 u) (fun yx3 yx4 yx5 yx6 yu hb => ih _ (hn ▸ hb.2) yx3 yx4 yx5 yx6 yu rfl hb.1) x3 x4 x5 x6 u (hs x3 x4 x5 x6 u hi)
    exact key _ x3 x4 x5 x6 u rfl h0
  have b113b : ∀ (B113 : Int32 → Int32 → Int32 → Int32 → Int32 → Int32 → ST → Prop), (∀ (x1 : Int32) (x2 : Int32) (x3 : Int32) (x4 : Int32) (x5 : Int32) (x6 : Int32) (u : ST), B113 x1 x2 x3 x4 x5 x6 u → mGo p l e ({ frames := 2, cells := 0, slots := 0, locals := 42 } : Room) s m args below meth c A Z 7 D (mT cs) (W12 h r cs) 113 [(0, .ref h), (1, .int x1), (2, .int x2), (3, .int x3), (4, .int x4), (5, .int x5), (6, .int x6)] [] u) → ∀ (x1 : Int32) (x2 : Int32) (x3 : Int32) (x4 : Int32) (x5 : Int32) (x6 : Int32) (u : ST), wp_X12_shift_p113b x1 x2 x3 x4 x5 x6 u B113 Q → mGo p l e ({ frames := 2, cells := 0, slots := 0, locals := 42 } : Room) s m args below meth c A Z 7 D (mT cs) (W12 h r cs) 113 [(0, .ref h), (1, .int x1), (2, .int x2), (3, .int x3), (4, .int x4), (5, .int x5), (6, .int x6)] [] u := by
    intro B113 hB113 x1 x2 x3 x4 x5 x6 u hw H locs ls hI hl
    unfold wp_X12_shift_p113b at hw
    refine lv_iload S.1 S.2.1 dX12_shift_113 (lv_at hl 6 rfl) ?_
    refine lv_iload S.1 S.2.1 dX12_shift_115 (lv_at hl 5 rfl) ?_
    refine lv_icmp_ge (tgt := 147) S.1 S.2.1 dX12_shift_117 (by decide) (fun c117 => ?_) (fun c117 => ?_)
    · have hw := hw.1 c117
      refine lv_iconst (v := 0) S.1 S.2.1 dX12_shift_147 (by decide) ?_
      refine lv_istore (lv' := [(6, .int (0 : Int32)), (0, .ref h), (1, .int x1), (2, .int x2), (3, .int x3), (4, .int x4), (5, .int x5)]) S.1 S.2.1 dX12_shift_148 hl (by decide) rfl (fun ls hl => ?_)
      exact b150 x3 x4 x5 (0 : Int32) u hw H locs ls hI (lv_sub hl [1, 4, 5, 6, 0] rfl)
    · have hw := hw.2 c117
      refine lv_aload_n S.1 S.2.1 dX12_shift_120 rfl (lv_at hl 0 rfl) ?_
      refine m_get S hin hI 0 (W12_at0 h r cs u) rfl 56 (Nat.le_of_ble_eq_true rfl) (List.mem_of_getElem? (i := 3) rfl) rfl (Ff12_at56 r u) dX12_shift_121 ?_
      refine lv_iload S.1 S.2.1 dX12_shift_124 (lv_at hl 6 rfl) ?_
      refine lv_aload_n S.1 S.2.1 dX12_shift_126 rfl (lv_at hl 0 rfl) ?_
      refine m_get S hin hI 0 (W12_at0 h r cs u) rfl 55 (Nat.le_of_ble_eq_true rfl) (List.mem_of_getElem? (i := 4) rfl) rfl (Ff12_at55 r u) dX12_shift_127 ?_
      refine lv_bipush (v := 60) S.1 S.2.1 dX12_shift_130 (by decide) ?_
      refine lv_iload_n S.1 S.2.1 dX12_shift_132 rfl (lv_at hl 1 rfl) ?_
      refine lv_imul S.1 S.2.1 dX12_shift_133 ?_
      refine lv_topi (fun y133 ey133 => ?_)
      have hw := hw y133 ey133
      refine lv_iload_n S.1 S.2.1 dX12_shift_134 rfl (lv_at hl 2 rfl) ?_
      refine lv_iadd S.1 S.2.1 dX12_shift_135 ?_
      refine lv_topi (fun y135 ey135 => ?_)
      have hw := hw y135 ey135
      refine lv_iload S.1 S.2.1 dX12_shift_136 (lv_at hl 6 rfl) ?_
      refine lv_iadd S.1 S.2.1 dX12_shift_138 ?_
      refine lv_topi (fun y138 ey138 => ?_)
      have hw := hw y138 ey138
      refine m_lald S hI 28 3 (W12_at28 h r cs u) rfl hw.1 dX12_shift_139 ?_
      refine lv_topl (fun y139 ey139 => ?_)
      have hw := hw.2 y139 ey139
      obtain ⟨u140, eu140⟩ : ∃ z : ST, z = sJ u 56 (vp_updL (gJ u 56) x6.toNatClampNeg y139) := ⟨_, rfl⟩
      refine m_last S hI 29 3 (W12_at29 h r cs u) rfl hw.1 (W12_sJ56 h r cs u u140 _ eu140) dX12_shift_140 (fun H locs hI => ?_)
      have hw := hw.2 u140 eu140
      obtain ⟨y141, ey141⟩ : ∃ z : Int32, z = x6 + 1 := ⟨_, rfl⟩
      have hw := hw y141 ey141
      refine lv_iinc (v := y141) (lv' := [(6, .int y141), (0, .ref h), (1, .int x1), (2, .int x2), (3, .int x3), (4, .int x4), (5, .int x5)]) S.1 S.2.1 dX12_shift_141 hl (k := 6) rfl (by rw [ey141]; rfl) (by decide) rfl (fun ls hl => ?_)
      refine lv_goto (tgt := 113) S.1 S.2.1 dX12_shift_144 (by decide) ?_
      exact hB113 x1 x2 x3 x4 x5 y141 u140 hw H locs ls hI (lv_sub hl [1, 2, 3, 4, 5, 6, 0] rfl)
  have b113 : ∀ (x1 : Int32) (x2 : Int32) (x3 : Int32) (x4 : Int32) (x5 : Int32) (x6 : Int32) (u : ST), wp_X12_shift_p113 x1 x2 x3 x4 x5 x6 u Q → mGo p l e ({ frames := 2, cells := 0, slots := 0, locals := 42 } : Room) s m args below meth c A Z 7 D (mT cs) (W12 h r cs) 113 [(0, .ref h), (1, .int x1), (2, .int x2), (3, .int x3), (4, .int x4), (5, .int x5), (6, .int x6)] [] u := by
    intro x1 x2 x3 x4 x5 x6 u hw
    obtain ⟨I, μ, h0, hs⟩ := hw
    have key : ∀ (n : Nat) (x1 : Int32) (x2 : Int32) (x3 : Int32) (x4 : Int32) (x5 : Int32) (x6 : Int32) (u : ST), μ x1 x2 x3 x4 x5 x6 u = n → I x1 x2 x3 x4 x5 x6 u → mGo p l e ({ frames := 2, cells := 0, slots := 0, locals := 42 } : Room) s m args below meth c A Z 7 D (mT cs) (W12 h r cs) 113 [(0, .ref h), (1, .int x1), (2, .int x2), (3, .int x3), (4, .int x4), (5, .int x5), (6, .int x6)] [] u := by
      intro n
      induction n using Nat.strongRecOn with
      | ind n ih =>
        intro x1 x2 x3 x4 x5 x6 u hn hi
        exact b113b (fun yx1 yx2 yx3 yx4 yx5 yx6 yu => I yx1 yx2 yx3 yx4 yx5 yx6 yu ∧ μ yx1 yx2 yx3 yx4 yx5 yx6 yu < μ x1 x2 x3 x4 x5 x6 u) (fun yx1 yx2 yx3 yx4 yx5 yx6 yu hb => ih _ (hn ▸ hb.2) yx1 yx2 yx3 yx4 yx5 yx6 yu rfl hb.1) x1 x2 x3 x4 x5 x6 u (hs x1 x2 x3 x4 x5 x6 u hi)
    exact key _ x1 x2 x3 x4 x5 x6 u rfl h0
  unfold wp_X12_shift at hw
  obtain ⟨H, hH⟩ : ∃ z : Heap, z = s.heap := ⟨_, rfl⟩
  obtain ⟨locs, hL⟩ : ∃ z : List Loc, z = [] := ⟨_, rfl⟩
  rw [show W p l e ({ frames := 2, cells := 0, slots := 0, locals := 42 } : Room) s m args below meth c s.heap [] 0 0 Z (F0 m 0 ls []) = W p l e ({ frames := 2, cells := 0, slots := 0, locals := 42 } : Room) s m args below meth c H locs 0 0 Z (F0 m 0 ls []) by rw [hH, hL]]
  replace hI : mI D (mT cs) A s.heap s (W12 h r cs u) H locs := by rw [hH, hL]; exact hI
  refine lv_iload_n S.1 S.2.1 dX12_shift_0 rfl (lv_at hl 1 rfl) ?_
  refine m_si (As := [.int a1]) (rest := []) S hI.2.2.2.1.2.1 (c_X12_isShelf l a1 _ hw) (va_cwS 1 S.2.2.2.2 gX12_shift_X12_isShelf rfl rfl rfl (by decide +kernel) ⟨Nat.le_of_ble_eq_true rfl, Nat.le_of_ble_eq_true rfl⟩) rfl hl.1 rfl (Nat.le_of_ble_eq_true rfl) dX12_shift_1 ⟨Nat.zero_le _, Nat.zero_le _⟩ (fun y1 hw => ?_)
  refine lv_if_eq (tgt := 14) S.1 S.2.1 dX12_shift_4 (by decide) (fun c4 => ?_) (fun c4 => ?_)
  · have hw := hw.1 c4
    exact b14 u hw H locs ls hI (lv_sub hl [0] rfl)
  · have hw := hw.2 c4
    refine lv_iload_n S.1 S.2.1 dX12_shift_7 rfl (lv_at hl 3 rfl) ?_
    refine m_si (As := [.int a3]) (rest := []) S hI.2.2.2.1.2.1 (c_X12_isShelf l a3 _ hw) (va_cwS 1 S.2.2.2.2 gX12_shift_X12_isShelf rfl rfl rfl (by decide +kernel) ⟨Nat.le_of_ble_eq_true rfl, Nat.le_of_ble_eq_true rfl⟩) rfl hl.1 rfl (Nat.le_of_ble_eq_true rfl) dX12_shift_8 ⟨Nat.zero_le _, Nat.zero_le _⟩ (fun y8 hw => ?_)
    refine lv_if_ne (tgt := 16) S.1 S.2.1 dX12_shift_11 (by decide) (fun c11 => ?_) (fun c11 => ?_)
    · have hw := hw.1 c11
      refine lv_aload_n S.1 S.2.1 dX12_shift_16 rfl (lv_at hl 0 rfl) ?_
      refine m_get S hin hI 0 (W12_at0 h r cs u) rfl 53 (Nat.le_of_ble_eq_true rfl) (List.mem_of_getElem? (i := 1) rfl) rfl (Ff12_at53 r u) dX12_shift_17 ?_
      refine lv_iload_n S.1 S.2.1 dX12_shift_20 rfl (lv_at hl 1 rfl) ?_
      refine m_iald S hI 26 0 (W12_at26 h r cs u) rfl hw.1 dX12_shift_21 ?_
      refine lv_topi (fun y21 ey21 => ?_)
      have hw := hw.2 y21 ey21
      refine lv_iconst (v := (-1)) S.1 S.2.1 dX12_shift_22 (by decide) ?_
      refine lv_icmp_eq (tgt := 36) S.1 S.2.1 dX12_shift_23 (by decide) (fun c23 => ?_) (fun c23 => ?_)
      · have hw := hw.1 c23
        exact b36 u hw H locs ls hI (lv_sub hl [0] rfl)
      · have hw := hw.2 c23
        refine lv_aload_n S.1 S.2.1 dX12_shift_26 rfl (lv_at hl 0 rfl) ?_
        refine m_get S hin hI 0 (W12_at0 h r cs u) rfl 53 (Nat.le_of_ble_eq_true rfl) (List.mem_of_getElem? (i := 1) rfl) rfl (Ff12_at53 r u) dX12_shift_27 ?_
        refine lv_iload_n S.1 S.2.1 dX12_shift_30 rfl (lv_at hl 3 rfl) ?_
        refine m_iald S hI 26 0 (W12_at26 h r cs u) rfl hw.1 dX12_shift_31 ?_
        refine lv_topi (fun y31 ey31 => ?_)
        have hw := hw.2 y31 ey31
        refine lv_iconst (v := (-1)) S.1 S.2.1 dX12_shift_32 (by decide) ?_
        refine lv_icmp_ne (tgt := 39) S.1 S.2.1 dX12_shift_33 (by decide) (fun c33 => ?_) (fun c33 => ?_)
        · have hw := hw.1 c33
          refine lv_aload_n S.1 S.2.1 dX12_shift_39 rfl (lv_at hl 0 rfl) ?_
          refine m_get S hin hI 0 (W12_at0 h r cs u) rfl 53 (Nat.le_of_ble_eq_true rfl) (List.mem_of_getElem? (i := 1) rfl) rfl (Ff12_at53 r u) dX12_shift_40 ?_
          refine lv_iload_n S.1 S.2.1 dX12_shift_43 rfl (lv_at hl 1 rfl) ?_
          refine m_iald S hI 26 0 (W12_at26 h r cs u) rfl hw.1 dX12_shift_44 ?_
          refine lv_topi (fun y44 ey44 => ?_)
          have hw := hw.2 y44 ey44
          refine lv_if_ge (tgt := 63) S.1 S.2.1 dX12_shift_45 (by decide) (fun c45 => ?_) (fun c45 => ?_)
          · have hw := hw.1 c45
            exact b63 u hw H locs ls hI (lv_sub hl [0] rfl)
          · have hw := hw.2 c45
            refine lv_aload_n S.1 S.2.1 dX12_shift_48 rfl (lv_at hl 0 rfl) ?_
            refine m_get S hin hI 0 (W12_at0 h r cs u) rfl 53 (Nat.le_of_ble_eq_true rfl) (List.mem_of_getElem? (i := 1) rfl) rfl (Ff12_at53 r u) dX12_shift_49 ?_
            refine lv_iload_n S.1 S.2.1 dX12_shift_52 rfl (lv_at hl 1 rfl) ?_
            refine m_iald S hI 26 0 (W12_at26 h r cs u) rfl hw.1 dX12_shift_53 ?_
            refine lv_topi (fun y53 ey53 => ?_)
            have hw := hw.2 y53 ey53
            refine lv_aload_n S.1 S.2.1 dX12_shift_54 rfl (lv_at hl 0 rfl) ?_
            refine m_get S hin hI 0 (W12_at0 h r cs u) rfl 53 (Nat.le_of_ble_eq_true rfl) (List.mem_of_getElem? (i := 1) rfl) rfl (Ff12_at53 r u) dX12_shift_55 ?_
            refine lv_iload_n S.1 S.2.1 dX12_shift_58 rfl (lv_at hl 3 rfl) ?_
            refine m_iald S hI 26 0 (W12_at26 h r cs u) rfl hw.1 dX12_shift_59 ?_
            refine lv_topi (fun y59 ey59 => ?_)
            have hw := hw.2 y59 ey59
            refine lv_icmp_eq (tgt := 66) S.1 S.2.1 dX12_shift_60 (by decide) (fun c60 => ?_) (fun c60 => ?_)
            · have hw := hw.1 c60
              refine lv_iload S.1 S.2.1 dX12_shift_66 (lv_at hl 5 rfl) ?_
              refine lv_if_lt (tgt := 107) S.1 S.2.1 dX12_shift_68 (by decide) (fun c68 => ?_) (fun c68 => ?_)
              · have hw := hw.1 c68
                exact b107 u hw H locs ls hI (lv_sub hl [0] rfl)
              · have hw := hw.2 c68
                refine lv_iload_n S.1 S.2.1 dX12_shift_71 rfl (lv_at hl 2 rfl) ?_
                refine lv_if_lt (tgt := 107) S.1 S.2.1 dX12_shift_72 (by decide) (fun c72 => ?_) (fun c72 => ?_)
                · have hw := hw.1 c72
                  exact b107 u hw H locs ls hI (lv_sub hl [0] rfl)
                · have hw := hw.2 c72
                  refine lv_iload S.1 S.2.1 dX12_shift_75 (lv_at hl 4 rfl) ?_
                  refine lv_if_lt (tgt := 107) S.1 S.2.1 dX12_shift_77 (by decide) (fun c77 => ?_) (fun c77 => ?_)
                  · have hw := hw.1 c77
                    exact b107 u hw H locs ls hI (lv_sub hl [0] rfl)
                  · have hw := hw.2 c77
                    refine lv_iload_n S.1 S.2.1 dX12_shift_80 rfl (lv_at hl 2 rfl) ?_
                    refine lv_aload_n S.1 S.2.1 dX12_shift_81 rfl (lv_at hl 0 rfl) ?_
                    refine m_get S hin hI 0 (W12_at0 h r cs u) rfl 54 (Nat.le_of_ble_eq_true rfl) (List.mem_of_getElem? (i := 2) rfl) rfl (Ff12_at54 r u) dX12_shift_82 ?_
                    refine lv_iload_n S.1 S.2.1 dX12_shift_85 rfl (lv_at hl 1 rfl) ?_
                    refine m_iald S hI 27 0 (W12_at27 h r cs u) rfl hw.1 dX12_shift_86 ?_
                    refine lv_topi (fun y86 ey86 => ?_)
                    have hw := hw.2 y86 ey86
                    refine lv_iload S.1 S.2.1 dX12_shift_87 (lv_at hl 5 rfl) ?_
                    refine lv_isub S.1 S.2.1 dX12_shift_89 ?_
                    refine lv_topi (fun y89 ey89 => ?_)
                    have hw := hw y89 ey89
                    refine lv_icmp_gt (tgt := 107) S.1 S.2.1 dX12_shift_90 (by decide) (fun c90 => ?_) (fun c90 => ?_)
                    · have hw := hw.1 c90
                      exact b107 u hw H locs ls hI (lv_sub hl [0] rfl)
                    · have hw := hw.2 c90
                      refine lv_iload S.1 S.2.1 dX12_shift_93 (lv_at hl 4 rfl) ?_
                      refine lv_aload_n S.1 S.2.1 dX12_shift_95 rfl (lv_at hl 0 rfl) ?_
                      refine m_get S hin hI 0 (W12_at0 h r cs u) rfl 54 (Nat.le_of_ble_eq_true rfl) (List.mem_of_getElem? (i := 2) rfl) rfl (Ff12_at54 r u) dX12_shift_96 ?_
                      refine lv_iload_n S.1 S.2.1 dX12_shift_99 rfl (lv_at hl 3 rfl) ?_
                      refine m_iald S hI 27 0 (W12_at27 h r cs u) rfl hw.1 dX12_shift_100 ?_
                      refine lv_topi (fun y100 ey100 => ?_)
                      have hw := hw.2 y100 ey100
                      refine lv_iload S.1 S.2.1 dX12_shift_101 (lv_at hl 5 rfl) ?_
                      refine lv_isub S.1 S.2.1 dX12_shift_103 ?_
                      refine lv_topi (fun y103 ey103 => ?_)
                      have hw := hw y103 ey103
                      refine lv_icmp_le (tgt := 110) S.1 S.2.1 dX12_shift_104 (by decide) (fun c104 => ?_) (fun c104 => ?_)
                      · have hw := hw.1 c104
                        refine lv_iconst (v := 0) S.1 S.2.1 dX12_shift_110 (by decide) ?_
                        refine lv_istore (lv' := [(6, .int (0 : Int32)), (0, .ref h), (1, .int a1), (2, .int a2), (3, .int a3), (4, .int a4), (5, .int a5)]) S.1 S.2.1 dX12_shift_111 hl (by decide) rfl (fun ls hl => ?_)
                        exact b113 a1 a2 a3 a4 a5 (0 : Int32) u hw H locs ls hI (lv_sub hl [1, 2, 3, 4, 5, 6, 0] rfl)
                      · have hw := hw.2 c104
                        exact b107 u hw H locs ls hI (lv_sub hl [0] rfl)
            · have hw := hw.2 c60
              exact b63 u hw H locs ls hI (lv_sub hl [0] rfl)
        · have hw := hw.2 c33
          exact b36 u hw H locs ls hI (lv_sub hl [0] rfl)
    · have hw := hw.2 c11
      exact b14 u hw H locs ls hI (lv_sub hl [0] rfl)

def wp_X12_taken_p17 (u : ST) (Q : Int32 → ST → Prop) : Prop :=
  Q ((-1) : Int32) u
def wp_X12_taken_p75 (t0 : Int32) (u : ST) (Q : Int32 → ST → Prop) : Prop :=
  Q t0 u
def wp_X12_taken_p73 (u : ST) (Q : Int32 → ST → Prop) : Prop :=
  wp_X12_taken_p75 ((-12) : Int32) u Q
def wp_X12_taken (a1 : Int32) (a2 : Int32) (u : ST) (Q : Int32 → ST → Prop) : Prop :=
  (wp_X12_isShelf a1 (fun y1 => ((y1 = 0 → wp_X12_taken_p17 u Q) ∧ (¬ y1 = 0 → (wp_X12_in a2 (0 : Int32) (7 : Int32) (fun y11 => ((¬ y11 = 0 → (vp_in a1 6 ∧ ∀ y24 : Int32, y24 = gA u 53 a1.toNatClampNeg → ((¬ y24 = ((-1) : Int32) → (vp_in a1 6 ∧ ∀ y37 : Int32, y37 = gA u 53 a1.toNatClampNeg → ((y37 < 0 → wp_X12_taken_p73 u Q) ∧ (¬ y37 < 0 → (vp_in a1 6 ∧ ∀ y50 : Int32, y50 = gA u 53 a1.toNatClampNeg → (vp_in y50 50 ∧ ∀ y51 : Int32, y51 = gA u 50 y50.toNatClampNeg → (wp_X12_isUnder y51 a2 (fun y53 => ((y53 = 0 → wp_X12_taken_p73 u Q) ∧ (¬ y53 = 0 → (vp_in a1 6 ∧ ∀ y68 : Int32, y68 = gA u 53 a1.toNatClampNeg → (vp_in y68 50 ∧ ∀ y69 : Int32, y69 = gA u 50 y68.toNatClampNeg → wp_X12_taken_p75 y69 u Q)))))))))))) ∧ (y24 = ((-1) : Int32) → Q ((-11) : Int32) u)))) ∧ (y11 = 0 → wp_X12_taken_p17 u Q))))))))
set_option maxHeartbeats 4000000 in
set_option maxRecDepth 100000 in
theorem c_X12_taken (l : Launch) (D : va_G) (h : Nat) (r : Nat → Nat) (cs : Nat → ClassId) (a1 : Int32) (a2 : Int32) (u : ST) (Q : Int32 → ST → Prop) (hw : wp_X12_taken a1 a2 u Q) : mCi l yX12_taken wsX12_taken ({ frames := 2, cells := 0, slots := 0, locals := 42 } : Room) 0 0 D (mT cs) (W12 h r cs) [.ref h, .int a1, .int a2] u Q := by
  unfold mCi
  refine m_enter (QQ := fun A => va_Qi Q (mPos D (mT cs) A (W12 h r cs)) A) (cc := cX12_taken) (maxL := 3) (ret := (some .int)) (by decide) rfl (Nat.le_of_ble_eq_true rfl) ?_
  intro p e s m args below meth c A ls S hr hlocks hname hl hI
  have S : CallFix p m c cX12_taken 3 s args wsX12_taken RX12 := S
  show W p l e ({ frames := 2, cells := 0, slots := 0, locals := 42 } : Room) s m args below meth c s.heap [] 0 0 (MQ below (va_Qi Q (mPos D (mT cs) A (W12 h r cs)) A) args s 0 0 A) (F0 m 0 ls [])
  generalize hZ : MQ below (va_Qi Q (mPos D (mT cs) A (W12 h r cs)) A) args s 0 0 A = Z
  have hin : ∀ w ∈ wsX120, w ∈ wsX12_taken := fun _ h => List.mem_cons_of_mem _ (List.mem_append_right _ h)
  have hl : lv_has ls 3 [(0, .ref h), (1, .int a1), (2, .int a2)] := hl
  have b17 : ∀ (u : ST), wp_X12_taken_p17 u Q → mGo p l e ({ frames := 2, cells := 0, slots := 0, locals := 42 } : Room) s m args below meth c A Z 3 D (mT cs) (W12 h r cs) 17 [(0, .ref h)] [] u := by
    intro u hw H locs ls hI hl
    unfold wp_X12_taken_p17 at hw
    refine lv_iconst (v := (-1)) S.1 S.2.1 dX12_taken_17 (by decide) ?_
    subst hZ
    exact m_iret S hr hlocks hI hw dX12_taken_18
  have b75 : ∀ (t0 : Int32) (u : ST), wp_X12_taken_p75 t0 u Q → mGo p l e ({ frames := 2, cells := 0, slots := 0, locals := 42 } : Room) s m args below meth c A Z 3 D (mT cs) (W12 h r cs) 75 [(0, .ref h)] [.int t0] u := by
    intro t0 u hw H locs ls hI hl
    unfold wp_X12_taken_p75 at hw
    subst hZ
    exact m_iret S hr hlocks hI hw dX12_taken_75
  have b73 : ∀ (u : ST), wp_X12_taken_p73 u Q → mGo p l e ({ frames := 2, cells := 0, slots := 0, locals := 42 } : Room) s m args below meth c A Z 3 D (mT cs) (W12 h r cs) 73 [(0, .ref h)] [] u := by
    intro u hw H locs ls hI hl
    unfold wp_X12_taken_p73 at hw
    refine lv_bipush (v := (-12)) S.1 S.2.1 dX12_taken_73 (by decide) ?_
    exact b75 ((-12) : Int32) u hw H locs ls hI (lv_sub hl [0] rfl)
  unfold wp_X12_taken at hw
  obtain ⟨H, hH⟩ : ∃ z : Heap, z = s.heap := ⟨_, rfl⟩
  obtain ⟨locs, hL⟩ : ∃ z : List Loc, z = [] := ⟨_, rfl⟩
  rw [show W p l e ({ frames := 2, cells := 0, slots := 0, locals := 42 } : Room) s m args below meth c s.heap [] 0 0 Z (F0 m 0 ls []) = W p l e ({ frames := 2, cells := 0, slots := 0, locals := 42 } : Room) s m args below meth c H locs 0 0 Z (F0 m 0 ls []) by rw [hH, hL]]
  replace hI : mI D (mT cs) A s.heap s (W12 h r cs u) H locs := by rw [hH, hL]; exact hI
  refine lv_iload_n S.1 S.2.1 dX12_taken_0 rfl (lv_at hl 1 rfl) ?_
  refine m_si (As := [.int a1]) (rest := []) S hI.2.2.2.1.2.1 (c_X12_isShelf l a1 _ hw) (va_cwS 1 S.2.2.2.2 gX12_taken_X12_isShelf rfl rfl rfl (by decide +kernel) ⟨Nat.le_of_ble_eq_true rfl, Nat.le_of_ble_eq_true rfl⟩) rfl hl.1 rfl (Nat.le_of_ble_eq_true rfl) dX12_taken_1 ⟨Nat.zero_le _, Nat.zero_le _⟩ (fun y1 hw => ?_)
  refine lv_if_eq (tgt := 17) S.1 S.2.1 dX12_taken_4 (by decide) (fun c4 => ?_) (fun c4 => ?_)
  · have hw := hw.1 c4
    exact b17 u hw H locs ls hI (lv_sub hl [0] rfl)
  · have hw := hw.2 c4
    refine lv_iload_n S.1 S.2.1 dX12_taken_7 rfl (lv_at hl 2 rfl) ?_
    refine lv_iconst (v := 0) S.1 S.2.1 dX12_taken_8 (by decide) ?_
    refine lv_bipush (v := 7) S.1 S.2.1 dX12_taken_9 (by decide) ?_
    refine m_si (As := [.int a2, .int (0 : Int32), .int (7 : Int32)]) (rest := []) S hI.2.2.2.1.2.1 (c_X12_in l a2 (0 : Int32) (7 : Int32) _ hw) (va_cwS 3 S.2.2.2.2 gX12_taken_X12_in rfl rfl rfl (by decide +kernel) ⟨Nat.le_of_ble_eq_true rfl, Nat.le_of_ble_eq_true rfl⟩) rfl hl.1 rfl (Nat.le_of_ble_eq_true rfl) dX12_taken_11 ⟨Nat.zero_le _, Nat.zero_le _⟩ (fun y11 hw => ?_)
    refine lv_if_ne (tgt := 19) S.1 S.2.1 dX12_taken_14 (by decide) (fun c14 => ?_) (fun c14 => ?_)
    · have hw := hw.1 c14
      refine lv_aload_n S.1 S.2.1 dX12_taken_19 rfl (lv_at hl 0 rfl) ?_
      refine m_get S hin hI 0 (W12_at0 h r cs u) rfl 53 (Nat.le_of_ble_eq_true rfl) (List.mem_of_getElem? (i := 1) rfl) rfl (Ff12_at53 r u) dX12_taken_20 ?_
      refine lv_iload_n S.1 S.2.1 dX12_taken_23 rfl (lv_at hl 1 rfl) ?_
      refine m_iald S hI 26 0 (W12_at26 h r cs u) rfl hw.1 dX12_taken_24 ?_
      refine lv_topi (fun y24 ey24 => ?_)
      have hw := hw.2 y24 ey24
      refine lv_iconst (v := (-1)) S.1 S.2.1 dX12_taken_25 (by decide) ?_
      refine lv_icmp_ne (tgt := 32) S.1 S.2.1 dX12_taken_26 (by decide) (fun c26 => ?_) (fun c26 => ?_)
      · have hw := hw.1 c26
        refine lv_aload_n S.1 S.2.1 dX12_taken_32 rfl (lv_at hl 0 rfl) ?_
        refine m_get S hin hI 0 (W12_at0 h r cs u) rfl 53 (Nat.le_of_ble_eq_true rfl) (List.mem_of_getElem? (i := 1) rfl) rfl (Ff12_at53 r u) dX12_taken_33 ?_
        refine lv_iload_n S.1 S.2.1 dX12_taken_36 rfl (lv_at hl 1 rfl) ?_
        refine m_iald S hI 26 0 (W12_at26 h r cs u) rfl hw.1 dX12_taken_37 ?_
        refine lv_topi (fun y37 ey37 => ?_)
        have hw := hw.2 y37 ey37
        refine lv_if_lt (tgt := 73) S.1 S.2.1 dX12_taken_38 (by decide) (fun c38 => ?_) (fun c38 => ?_)
        · have hw := hw.1 c38
          exact b73 u hw H locs ls hI (lv_sub hl [0] rfl)
        · have hw := hw.2 c38
          refine lv_aload_n S.1 S.2.1 dX12_taken_41 rfl (lv_at hl 0 rfl) ?_
          refine m_get S hin hI 0 (W12_at0 h r cs u) rfl 50 (Nat.le_of_ble_eq_true rfl) (List.mem_of_getElem? (i := 2) rfl) rfl (Ff12_at50 r u) dX12_taken_42 ?_
          refine lv_aload_n S.1 S.2.1 dX12_taken_45 rfl (lv_at hl 0 rfl) ?_
          refine m_get S hin hI 0 (W12_at0 h r cs u) rfl 53 (Nat.le_of_ble_eq_true rfl) (List.mem_of_getElem? (i := 1) rfl) rfl (Ff12_at53 r u) dX12_taken_46 ?_
          refine lv_iload_n S.1 S.2.1 dX12_taken_49 rfl (lv_at hl 1 rfl) ?_
          refine m_iald S hI 26 0 (W12_at26 h r cs u) rfl hw.1 dX12_taken_50 ?_
          refine lv_topi (fun y50 ey50 => ?_)
          have hw := hw.2 y50 ey50
          refine m_iald S hI 24 0 (W12_at24 h r cs u) rfl hw.1 dX12_taken_51 ?_
          refine lv_topi (fun y51 ey51 => ?_)
          have hw := hw.2 y51 ey51
          refine lv_iload_n S.1 S.2.1 dX12_taken_52 rfl (lv_at hl 2 rfl) ?_
          refine m_si (As := [.int y51, .int a2]) (rest := []) S hI.2.2.2.1.2.1 (c_X12_isUnder l y51 a2 _ hw) (va_cwS 2 S.2.2.2.2 gX12_taken_X12_isUnder rfl rfl rfl (by decide +kernel) ⟨Nat.le_of_ble_eq_true rfl, Nat.le_of_ble_eq_true rfl⟩) rfl hl.1 rfl (Nat.le_of_ble_eq_true rfl) dX12_taken_53 ⟨Nat.zero_le _, Nat.zero_le _⟩ (fun y53 hw => ?_)
          refine lv_if_eq (tgt := 73) S.1 S.2.1 dX12_taken_56 (by decide) (fun c56 => ?_) (fun c56 => ?_)
          · have hw := hw.1 c56
            exact b73 u hw H locs ls hI (lv_sub hl [0] rfl)
          · have hw := hw.2 c56
            refine lv_aload_n S.1 S.2.1 dX12_taken_59 rfl (lv_at hl 0 rfl) ?_
            refine m_get S hin hI 0 (W12_at0 h r cs u) rfl 50 (Nat.le_of_ble_eq_true rfl) (List.mem_of_getElem? (i := 2) rfl) rfl (Ff12_at50 r u) dX12_taken_60 ?_
            refine lv_aload_n S.1 S.2.1 dX12_taken_63 rfl (lv_at hl 0 rfl) ?_
            refine m_get S hin hI 0 (W12_at0 h r cs u) rfl 53 (Nat.le_of_ble_eq_true rfl) (List.mem_of_getElem? (i := 1) rfl) rfl (Ff12_at53 r u) dX12_taken_64 ?_
            refine lv_iload_n S.1 S.2.1 dX12_taken_67 rfl (lv_at hl 1 rfl) ?_
            refine m_iald S hI 26 0 (W12_at26 h r cs u) rfl hw.1 dX12_taken_68 ?_
            refine lv_topi (fun y68 ey68 => ?_)
            have hw := hw.2 y68 ey68
            refine m_iald S hI 24 0 (W12_at24 h r cs u) rfl hw.1 dX12_taken_69 ?_
            refine lv_topi (fun y69 ey69 => ?_)
            have hw := hw.2 y69 ey69
            refine lv_goto (tgt := 75) S.1 S.2.1 dX12_taken_70 (by decide) ?_
            exact b75 y69 u hw H locs ls hI (lv_sub hl [0] rfl)
      · have hw := hw.2 c26
        refine lv_bipush (v := (-11)) S.1 S.2.1 dX12_taken_29 (by decide) ?_
        subst hZ
        exact m_iret S hr hlocks hI hw dX12_taken_31
    · have hw := hw.2 c14
      exact b17 u hw H locs ls hI (lv_sub hl [0] rfl)

/-! laid by program: X11_guess, X11_led, X11_image, X11_back, X11_undo, X11_redo, X11_body, X11_act, X11_trace, X11_keep, X11_row, X11_put, X11_element, X11_shift, X11_taken, X11_count -/
def wp_X11_guess_p43 (t0 : Int32) (u : CS) (Q : Int32 → CS → Prop) : Prop :=
  Q t0 u
def wp_X11_guess (a1 : Int32) (u : CS) (Q : Int32 → CS → Prop) : Prop :=
  (wp_X11_stepsInDeed u (fun y3 u3 => (wp_X11_within a1 (0 : Int32) y3 (fun y6 => ((¬ y6 = 0 → ((¬ (gI (u3 13) 1) = 0 → (wp_X1_isGuessed a1 (fun i => u3 ([13, 14].getD i 0)) (fun y32 v32 => ∀ u32 : CS, u32 = emb u3 [13, 14] v32 → ((y32 = 0 → wp_X11_guess_p43 (0 : Int32) u32 Q) ∧ (¬ y32 = 0 → wp_X11_guess_p43 (1 : Int32) u32 Q))))) ∧ ((gI (u3 13) 1) = 0 → Q ((-5) : Int32) u3))) ∧ (y6 = 0 → Q ((-1) : Int32) u3))))))
set_option maxHeartbeats 4000000 in
set_option maxRecDepth 100000 in
theorem c_X11_guess (l : Launch) (D : va_G) (h : Nat → Nat) (r : Nat → Nat → Nat) (q : Nat → Nat → Nat → Nat) (cs : Nat → ClassId) (a1 : Int32) (u : CS) (Q : Int32 → CS → Prop) (hw : wp_X11_guess a1 u Q) : mCi l yX11_guess wsX11_guess ({ frames := 2, cells := 0, slots := 0, locals := 40 } : Room) 0 0 D (mT cs) (VT h r q cs) [.ref (h 0), .int a1] u Q := by
  unfold mCi
  refine m_enter (QQ := fun A => va_Qi Q (mPos D (mT cs) A (VT h r q cs)) A) (cc := cX11_guess) (maxL := 2) (ret := (some .int)) (by decide) rfl (Nat.le_of_ble_eq_true rfl) ?_
  intro p e s m args below meth c A ls S hr hlocks hname hl hI
  have S : CallFix p m c cX11_guess 2 s args wsX11_guess RX11 := S
  show W p l e ({ frames := 2, cells := 0, slots := 0, locals := 40 } : Room) s m args below meth c s.heap [] 0 0 (MQ below (va_Qi Q (mPos D (mT cs) A (VT h r q cs)) A) args s 0 0 A) (F0 m 0 ls [])
  generalize hZ : MQ below (va_Qi Q (mPos D (mT cs) A (VT h r q cs)) A) args s 0 0 A = Z
  have hin1 : ∀ w ∈ wsX10, w ∈ wsX11_guess := fun _ h => List.mem_cons_of_mem _ (List.mem_append_left _ (List.mem_append_right _ h))
  have hin8 : ∀ w ∈ wsX80, w ∈ wsX11_guess := fun _ h => List.mem_cons_of_mem _ (List.mem_append_right _ h)
  have hin11 : ∀ w ∈ wsX110, w ∈ wsX11_guess := fun _ h => List.mem_cons_of_mem _ (List.mem_append_left _ (List.mem_append_left _ (List.mem_append_right _ h)))
  have hl : lv_has ls 2 [(0, .ref (h 0)), (1, .int a1)] := hl
  have b43 : ∀ (t0 : Int32) (u : CS), wp_X11_guess_p43 t0 u Q → mGo p l e ({ frames := 2, cells := 0, slots := 0, locals := 40 } : Room) s m args below meth c A Z 2 D (mT cs) (VT h r q cs) 43 [(0, .ref (h 0))] [.int t0] u := by
    intro t0 u hw H locs ls hI hl
    unfold wp_X11_guess_p43 at hw
    subst hZ
    exact m_iret S hr hlocks hI hw dX11_guess_43
  unfold wp_X11_guess at hw
  obtain ⟨H, hH⟩ : ∃ z : Heap, z = s.heap := ⟨_, rfl⟩
  obtain ⟨locs, hL⟩ : ∃ z : List Loc, z = [] := ⟨_, rfl⟩
  rw [show W p l e ({ frames := 2, cells := 0, slots := 0, locals := 40 } : Room) s m args below meth c s.heap [] 0 0 Z (F0 m 0 ls []) = W p l e ({ frames := 2, cells := 0, slots := 0, locals := 40 } : Room) s m args below meth c H locs 0 0 Z (F0 m 0 ls []) by rw [hH, hL]]
  replace hI : mI D (mT cs) A s.heap s (VT h r q cs u) H locs := by rw [hH, hL]; exact hI
  refine lv_iload_n S.1 S.2.1 dX11_guess_0 rfl (lv_at hl 1 rfl) ?_
  refine lv_iconst (v := 0) S.1 S.2.1 dX11_guess_1 (by decide) ?_
  refine lv_aload_n S.1 S.2.1 dX11_guess_2 rfl (lv_at hl 0 rfl) ?_
  refine m_vi (As := []) (rest := [.int (0 : Int32), .int a1]) S (VT_self h r q cs) hI rfl (c_X11_stepsInDeed l D h r q cs u _ hw) (cwV 0 S.2.2.2.2 gX11_guess_X11_stepsInDeed rfl rfl rfl (by decide +kernel) ⟨Nat.le_of_ble_eq_true rfl, Nat.le_of_ble_eq_true rfl⟩) (VT_o0 h r q cs u) rfl rfl hl.1 rfl (Nat.le_of_ble_eq_true rfl) dX11_guess_3 ⟨Nat.zero_le _, Nat.zero_le _⟩ (fun y3 u3 H locs hw hI => ?_)
  refine m_si (As := [.int a1, .int (0 : Int32), .int y3]) (rest := []) S hI.2.2.2.1.2.1 (c_X11_within l a1 (0 : Int32) y3 _ hw) (va_cwS 3 S.2.2.2.2 gX11_guess_X11_within rfl rfl rfl (by decide +kernel) ⟨Nat.le_of_ble_eq_true rfl, Nat.le_of_ble_eq_true rfl⟩) rfl hl.1 rfl (Nat.le_of_ble_eq_true rfl) dX11_guess_6 ⟨Nat.zero_le _, Nat.zero_le _⟩ (fun y6 hw => ?_)
  refine lv_if_ne (tgt := 14) S.1 S.2.1 dX11_guess_9 (by decide) (fun c9 => ?_) (fun c9 => ?_)
  · have hw := hw.1 c9
    refine lv_aload_n S.1 S.2.1 dX11_guess_14 rfl (lv_at hl 0 rfl) ?_
    refine m_get S hin11 hI 0 (VT_o0 h r q cs u3) rfl 11 (Nat.le_of_ble_eq_true rfl) (List.mem_of_getElem? (i := 1) rfl) rfl (FO11_at11 _ _ _) dX11_guess_15 ?_
    refine m_getN S hin1 hI 114 (VT_o13 h r q cs u3) rfl 1 (Nat.le_of_ble_eq_true rfl) nf_X11_243 rfl (FO1_at1 _ _ _) dX11_guess_18 ?_
    refine lv_if_ne (tgt := 27) S.1 S.2.1 dX11_guess_21 (by decide) (fun c21 => ?_) (fun c21 => ?_)
    · have hw := hw.1 c21
      refine lv_aload_n S.1 S.2.1 dX11_guess_27 rfl (lv_at hl 0 rfl) ?_
      refine m_get S hin11 hI 0 (VT_o0 h r q cs u3) rfl 11 (Nat.le_of_ble_eq_true rfl) (List.mem_of_getElem? (i := 1) rfl) rfl (FO11_at11 _ _ _) dX11_guess_28 ?_
      refine lv_iload_n S.1 S.2.1 dX11_guess_31 rfl (lv_at hl 1 rfl) ?_
      refine m_vi (cf := fun v => VT h r q cs (emb u3 [13, 14] v)) (As := [.int a1]) (rest := []) S (VT_k_hd_13_14 h r q cs u3) hI (by rw [emb_self]) (c_X1_isGuessed l D (fun i => h ([13, 14].getD i 0)) (fun i => rE r (gI (u3 24) 0) ([13, 14].getD i 0)) (fun i => q ([13, 14].getD i 0)) cs a1 (fun i => u3 ([13, 14].getD i 0)) _ hw) (cwV 1 S.2.2.2.2 gX11_guess_X1_isGuessed rfl rfl rfl (by decide +kernel) ⟨Nat.le_of_ble_eq_true rfl, Nat.le_of_ble_eq_true rfl⟩) rfl rfl rfl hl.1 rfl (Nat.le_of_ble_eq_true rfl) dX11_guess_32 ⟨Nat.zero_le _, Nat.zero_le _⟩ (fun y32 v32 H locs hw hI => ?_)
      obtain ⟨u32, eu32⟩ : ∃ z : CS, z = emb u3 [13, 14] v32 := ⟨_, rfl⟩
      have hw := hw u32 eu32
      replace hI : mI D (mT cs) A s.heap s (VT h r q cs u32) H locs := by rw [eu32]; exact hI
      refine lv_if_eq (tgt := 42) S.1 S.2.1 dX11_guess_35 (by decide) (fun c35 => ?_) (fun c35 => ?_)
      · have hw := hw.1 c35
        refine lv_iconst (v := 0) S.1 S.2.1 dX11_guess_42 (by decide) ?_
        exact b43 (0 : Int32) u32 hw H locs ls hI (lv_sub hl [0] rfl)
      · have hw := hw.2 c35
        refine lv_iconst (v := 1) S.1 S.2.1 dX11_guess_38 (by decide) ?_
        refine lv_goto (tgt := 43) S.1 S.2.1 dX11_guess_39 (by decide) ?_
        exact b43 (1 : Int32) u32 hw H locs ls hI (lv_sub hl [0] rfl)
    · have hw := hw.2 c21
      refine lv_bipush (v := (-5)) S.1 S.2.1 dX11_guess_24 (by decide) ?_
      subst hZ
      exact m_iret S hr hlocks hI hw dX11_guess_26
  · have hw := hw.2 c9
    refine lv_iconst (v := (-1)) S.1 S.2.1 dX11_guess_12 (by decide) ?_
    subst hZ
    exact m_iret S hr hlocks hI hw dX11_guess_13

def wp_X11_led_p29 (x1 : Int32) (u : CS) (Q : Int32 → CS → Prop) : Prop :=
  ((x1 = 0 → Q (gI (u 13) 4) u) ∧ (¬ x1 = 0 → ((x1 = 1 → Q (gI (u 13) 5) u) ∧ (¬ x1 = 1 → ((x1 = 2 → Q (gI (u 14) 0) u) ∧ (¬ x1 = 2 → ((x1 = 3 → Q (gI (u 14) 1) u) ∧ (¬ x1 = 3 → ((x1 = 4 → Q (gI (u 13) 6) u) ∧ (¬ x1 = 4 → Q (gI (u 13) 7) u))))))))))
def wp_X11_led (a1 : Int32) (u : CS) (Q : Int32 → CS → Prop) : Prop :=
  (wp_X11_within a1 (0 : Int32) (5 : Int32) (fun y3 => ((¬ y3 = 0 → (((4 : Int32) ≤ a1 → wp_X11_led_p29 a1 u Q) ∧ (¬ (4 : Int32) ≤ a1 → ((¬ (gI (u 13) 1) = 0 → wp_X11_led_p29 a1 u Q) ∧ ((gI (u 13) 1) = 0 → Q ((-5) : Int32) u))))) ∧ (y3 = 0 → Q ((-1) : Int32) u))))
set_option maxHeartbeats 4000000 in
set_option maxRecDepth 100000 in
theorem c_X11_led (l : Launch) (D : va_G) (h : Nat → Nat) (r : Nat → Nat → Nat) (q : Nat → Nat → Nat → Nat) (cs : Nat → ClassId) (a1 : Int32) (u : CS) (Q : Int32 → CS → Prop) (hw : wp_X11_led a1 u Q) : mCi l yX11_led wsX11_led ({ frames := 1, cells := 0, slots := 0, locals := 22 } : Room) 0 0 D (mT cs) (VT h r q cs) [.ref (h 0), .int a1] u Q := by
  unfold mCi
  refine m_enter (QQ := fun A => va_Qi Q (mPos D (mT cs) A (VT h r q cs)) A) (cc := cX11_led) (maxL := 2) (ret := (some .int)) (by decide) rfl (Nat.le_of_ble_eq_true rfl) ?_
  intro p e s m args below meth c A ls S hr hlocks hname hl hI
  have S : CallFix p m c cX11_led 2 s args wsX11_led RX11 := S
  show W p l e ({ frames := 1, cells := 0, slots := 0, locals := 22 } : Room) s m args below meth c s.heap [] 0 0 (MQ below (va_Qi Q (mPos D (mT cs) A (VT h r q cs)) A) args s 0 0 A) (F0 m 0 ls [])
  generalize hZ : MQ below (va_Qi Q (mPos D (mT cs) A (VT h r q cs)) A) args s 0 0 A = Z
  have hin1 : ∀ w ∈ wsX10, w ∈ wsX11_led := fun _ h => List.mem_cons_of_mem _ (List.mem_append_left _ (List.mem_append_right _ h))
  have hin7 : ∀ w ∈ wsX70, w ∈ wsX11_led := fun _ h => List.mem_cons_of_mem _ (List.mem_append_right _ h)
  have hin11 : ∀ w ∈ wsX110, w ∈ wsX11_led := fun _ h => List.mem_cons_of_mem _ (List.mem_append_left _ (List.mem_append_left _ (List.mem_append_right _ h)))
  have hl : lv_has ls 2 [(0, .ref (h 0)), (1, .int a1)] := hl
  have b29 : ∀ (x1 : Int32) (u : CS), wp_X11_led_p29 x1 u Q → mGo p l e ({ frames := 1, cells := 0, slots := 0, locals := 22 } : Room) s m args below meth c A Z 2 D (mT cs) (VT h r q cs) 29 [(0, .ref (h 0)), (1, .int x1)] [] u := by
    intro x1 u hw H locs ls hI hl
    unfold wp_X11_led_p29 at hw
    refine lv_iload_n S.1 S.2.1 dX11_led_29 rfl (lv_at hl 1 rfl) ?_
    by_cases c30_0 : x1 = 0
    · have hw := hw.1 c30_0
      refine lv_tableIn (tgt := 64) S.1 S.2.1 dX11_led_30 (by rw [c30_0] <;> decide) (by rw [c30_0] <;> decide) (by rw [c30_0] <;> rfl) (by decide) ?_
      refine lv_aload_n S.1 S.2.1 dX11_led_64 rfl (lv_at hl 0 rfl) ?_
      refine m_get S hin11 hI 0 (VT_o0 h r q cs u) rfl 11 (Nat.le_of_ble_eq_true rfl) (List.mem_of_getElem? (i := 1) rfl) rfl (FO11_at11 _ _ _) dX11_led_65 ?_
      refine m_getN S hin1 hI 114 (VT_o13 h r q cs u) rfl 4 (Nat.le_of_ble_eq_true rfl) nf_X11_264 rfl (FO1_at4 _ _ _) dX11_led_68 ?_
      subst hZ
      exact m_iret S hr hlocks hI hw dX11_led_71
    · have hw := hw.2 c30_0
      by_cases c30_1 : x1 = 1
      · have hw := hw.1 c30_1
        refine lv_tableIn (tgt := 72) S.1 S.2.1 dX11_led_30 (by rw [c30_1] <;> decide) (by rw [c30_1] <;> decide) (by rw [c30_1] <;> rfl) (by decide) ?_
        refine lv_aload_n S.1 S.2.1 dX11_led_72 rfl (lv_at hl 0 rfl) ?_
        refine m_get S hin11 hI 0 (VT_o0 h r q cs u) rfl 11 (Nat.le_of_ble_eq_true rfl) (List.mem_of_getElem? (i := 1) rfl) rfl (FO11_at11 _ _ _) dX11_led_73 ?_
        refine m_getN S hin1 hI 114 (VT_o13 h r q cs u) rfl 5 (Nat.le_of_ble_eq_true rfl) nf_X11_265 rfl (FO1_at5 _ _ _) dX11_led_76 ?_
        subst hZ
        exact m_iret S hr hlocks hI hw dX11_led_79
      · have hw := hw.2 c30_1
        by_cases c30_2 : x1 = 2
        · have hw := hw.1 c30_2
          refine lv_tableIn (tgt := 80) S.1 S.2.1 dX11_led_30 (by rw [c30_2] <;> decide) (by rw [c30_2] <;> decide) (by rw [c30_2] <;> rfl) (by decide) ?_
          refine lv_aload_n S.1 S.2.1 dX11_led_80 rfl (lv_at hl 0 rfl) ?_
          refine m_get S hin11 hI 0 (VT_o0 h r q cs u) rfl 11 (Nat.le_of_ble_eq_true rfl) (List.mem_of_getElem? (i := 1) rfl) rfl (FO11_at11 _ _ _) dX11_led_81 ?_
          refine m_getN S hin1 hI 114 (VT_o13 h r q cs u) rfl 0 (Nat.le_of_ble_eq_true rfl) nf_X11_247 rfl (FO1_at0 _ _ _) dX11_led_84 ?_
          refine m_getN S hin7 hI 115 (VT_o14 h r q cs u) rfl 0 (Nat.le_of_ble_eq_true rfl) nf_X11_221 rfl (Ff7_at0 _ _) dX11_led_87 ?_
          subst hZ
          exact m_iret S hr hlocks hI hw dX11_led_90
        · have hw := hw.2 c30_2
          by_cases c30_3 : x1 = 3
          · have hw := hw.1 c30_3
            refine lv_tableIn (tgt := 91) S.1 S.2.1 dX11_led_30 (by rw [c30_3] <;> decide) (by rw [c30_3] <;> decide) (by rw [c30_3] <;> rfl) (by decide) ?_
            refine lv_aload_n S.1 S.2.1 dX11_led_91 rfl (lv_at hl 0 rfl) ?_
            refine m_get S hin11 hI 0 (VT_o0 h r q cs u) rfl 11 (Nat.le_of_ble_eq_true rfl) (List.mem_of_getElem? (i := 1) rfl) rfl (FO11_at11 _ _ _) dX11_led_92 ?_
            refine m_getN S hin1 hI 114 (VT_o13 h r q cs u) rfl 0 (Nat.le_of_ble_eq_true rfl) nf_X11_247 rfl (FO1_at0 _ _ _) dX11_led_95 ?_
            refine m_getN S hin7 hI 115 (VT_o14 h r q cs u) rfl 1 (Nat.le_of_ble_eq_true rfl) nf_X11_224 rfl (Ff7_at1 _ _) dX11_led_98 ?_
            subst hZ
            exact m_iret S hr hlocks hI hw dX11_led_101
          · have hw := hw.2 c30_3
            by_cases c30_4 : x1 = 4
            · have hw := hw.1 c30_4
              refine lv_tableIn (tgt := 102) S.1 S.2.1 dX11_led_30 (by rw [c30_4] <;> decide) (by rw [c30_4] <;> decide) (by rw [c30_4] <;> rfl) (by decide) ?_
              refine lv_aload_n S.1 S.2.1 dX11_led_102 rfl (lv_at hl 0 rfl) ?_
              refine m_get S hin11 hI 0 (VT_o0 h r q cs u) rfl 11 (Nat.le_of_ble_eq_true rfl) (List.mem_of_getElem? (i := 1) rfl) rfl (FO11_at11 _ _ _) dX11_led_103 ?_
              refine m_getN S hin1 hI 114 (VT_o13 h r q cs u) rfl 6 (Nat.le_of_ble_eq_true rfl) nf_X11_268 rfl (FO1_at6 _ _ _) dX11_led_106 ?_
              subst hZ
              exact m_iret S hr hlocks hI hw dX11_led_109
            · have hw := hw.2 c30_4
              by_cases q30 : x1.toInt < 0 ∨ 4 < x1.toInt
              · refine lv_tableOut (tgt := 110) S.1 S.2.1 dX11_led_30 q30 (by decide) ?_
                refine lv_aload_n S.1 S.2.1 dX11_led_110 rfl (lv_at hl 0 rfl) ?_
                refine m_get S hin11 hI 0 (VT_o0 h r q cs u) rfl 11 (Nat.le_of_ble_eq_true rfl) (List.mem_of_getElem? (i := 1) rfl) rfl (FO11_at11 _ _ _) dX11_led_111 ?_
                refine m_getN S hin1 hI 114 (VT_o13 h r q cs u) rfl 7 (Nat.le_of_ble_eq_true rfl) nf_X11_271 rfl (FO1_at7 _ _ _) dX11_led_114 ?_
                subst hZ
                exact m_iret S hr hlocks hI hw dX11_led_117
              · have n30_0 := lv_neT c30_0 (a := 0) rfl
                have n30_1 := lv_neT c30_1 (a := 1) rfl
                have n30_2 := lv_neT c30_2 (a := 2) rfl
                have n30_3 := lv_neT c30_3 (a := 3) rfl
                have n30_4 := lv_neT c30_4 (a := 4) rfl
                omega
  unfold wp_X11_led at hw
  obtain ⟨H, hH⟩ : ∃ z : Heap, z = s.heap := ⟨_, rfl⟩
  obtain ⟨locs, hL⟩ : ∃ z : List Loc, z = [] := ⟨_, rfl⟩
  rw [show W p l e ({ frames := 1, cells := 0, slots := 0, locals := 22 } : Room) s m args below meth c s.heap [] 0 0 Z (F0 m 0 ls []) = W p l e ({ frames := 1, cells := 0, slots := 0, locals := 22 } : Room) s m args below meth c H locs 0 0 Z (F0 m 0 ls []) by rw [hH, hL]]
  replace hI : mI D (mT cs) A s.heap s (VT h r q cs u) H locs := by rw [hH, hL]; exact hI
  refine lv_iload_n S.1 S.2.1 dX11_led_0 rfl (lv_at hl 1 rfl) ?_
  refine lv_iconst (v := 0) S.1 S.2.1 dX11_led_1 (by decide) ?_
  refine lv_iconst (v := 5) S.1 S.2.1 dX11_led_2 (by decide) ?_
  refine m_si (As := [.int a1, .int (0 : Int32), .int (5 : Int32)]) (rest := []) S hI.2.2.2.1.2.1 (c_X11_within l a1 (0 : Int32) (5 : Int32) _ hw) (va_cwS 3 S.2.2.2.2 gX11_led_X11_within rfl rfl rfl (by decide +kernel) ⟨Nat.le_of_ble_eq_true rfl, Nat.le_of_ble_eq_true rfl⟩) rfl hl.1 rfl (Nat.le_of_ble_eq_true rfl) dX11_led_3 ⟨Nat.zero_le _, Nat.zero_le _⟩ (fun y3 hw => ?_)
  refine lv_if_ne (tgt := 11) S.1 S.2.1 dX11_led_6 (by decide) (fun c6 => ?_) (fun c6 => ?_)
  · have hw := hw.1 c6
    refine lv_iload_n S.1 S.2.1 dX11_led_11 rfl (lv_at hl 1 rfl) ?_
    refine lv_iconst (v := 4) S.1 S.2.1 dX11_led_12 (by decide) ?_
    refine lv_icmp_ge (tgt := 29) S.1 S.2.1 dX11_led_13 (by decide) (fun c13 => ?_) (fun c13 => ?_)
    · have hw := hw.1 c13
      exact b29 a1 u hw H locs ls hI (lv_sub hl [0, 1] rfl)
    · have hw := hw.2 c13
      refine lv_aload_n S.1 S.2.1 dX11_led_16 rfl (lv_at hl 0 rfl) ?_
      refine m_get S hin11 hI 0 (VT_o0 h r q cs u) rfl 11 (Nat.le_of_ble_eq_true rfl) (List.mem_of_getElem? (i := 1) rfl) rfl (FO11_at11 _ _ _) dX11_led_17 ?_
      refine m_getN S hin1 hI 114 (VT_o13 h r q cs u) rfl 1 (Nat.le_of_ble_eq_true rfl) nf_X11_243 rfl (FO1_at1 _ _ _) dX11_led_20 ?_
      refine lv_if_ne (tgt := 29) S.1 S.2.1 dX11_led_23 (by decide) (fun c23 => ?_) (fun c23 => ?_)
      · have hw := hw.1 c23
        exact b29 a1 u hw H locs ls hI (lv_sub hl [0, 1] rfl)
      · have hw := hw.2 c23
        refine lv_bipush (v := (-5)) S.1 S.2.1 dX11_led_26 (by decide) ?_
        subst hZ
        exact m_iret S hr hlocks hI hw dX11_led_28
  · have hw := hw.2 c6
    refine lv_iconst (v := (-1)) S.1 S.2.1 dX11_led_9 (by decide) ?_
    subst hZ
    exact m_iret S hr hlocks hI hw dX11_led_10

theorem VT_k_hc_15_16_13_14 (h : Nat → Nat) (r : Nat → Nat → Nat) (q : Nat → Nat → Nat → Nat) (cs : Nat → ClassId) (U : CS) : ∀ v : CS, (VT h r q cs (emb U [15, 16, 13, 14] v)).Perm ([] ++ (Vhc (fun i => h ([15, 16, 13, 14].getD i 0)) (fun i => rE r (gI (U 24) 0) ([15, 16, 13, 14].getD i 0)) (fun i => q ([15, 16, 13, 14].getD i 0)) cs v ++ [0, 1, 2, 3, 4, 5, 6, 7, 8, 9, 10, 11, 12, 17, 18, 19, 20, 21, 22, 23, 24].flatMap (cTT h r q cs U))) := fun v => (front_perm (cTT h r q cs (emb U [15, 16, 13, 14] v)) (l := [0, 1, 2, 3, 4, 5, 6, 7, 8, 9, 10, 11, 12, 13, 14, 15, 16, 17, 18, 19, 20, 21, 22, 23, 24]) (ks := [15, 16, 13, 14]) (rest := [0, 1, 2, 3, 4, 5, 6, 7, 8, 9, 10, 11, 12, 17, 18, 19, 20, 21, 22, 23, 24]) (by decide)).trans (List.Perm.of_eq rfl)
theorem VT_sI0_16 (h : Nat → Nat) (r : Nat → Nat → Nat) (q : Nat → Nat → Nat → Nat) (cs : Nat → ClassId) (U u9 : CS) (x : Int32) (e : u9 = mu U 0 (sI (U 0) 16 x)) : (VT h r q cs U).set 0 (h 0, .inr (11, (FO11 (fun i => h (0 + i)) (r 0) (U 0)).set 16 (.int x))) = VT h r q cs u9 := by subst e; rfl
def wp_X11_image (u : CS) (Q : Int32 → CS → Prop) : Prop :=
  (wp_X1_copy (fun i => u ([15, 16, 13, 14].getD i 0)) (fun v8 => ∀ u8 : CS, u8 = emb u [15, 16, 13, 14] v8 → (∀ u13 : CS, u13 = mu u8 0 (sI (u8 0) 16 (1 : Int32)) → (wp_X11_dropsInDeed u13 (fun y17 u17 => Q y17 u17)))))
set_option maxHeartbeats 4000000 in
set_option maxRecDepth 100000 in
theorem c_X11_image (l : Launch) (D : va_G) (h : Nat → Nat) (r : Nat → Nat → Nat) (q : Nat → Nat → Nat → Nat) (cs : Nat → ClassId) (u : CS) (Q : Int32 → CS → Prop) (hw : wp_X11_image u Q) : mCi l yX11_image wsX11_image ({ frames := 2, cells := 0, slots := 0, locals := 44 } : Room) 0 0 D (mT cs) (VT h r q cs) [.ref (h 0)] u Q := by
  unfold mCi
  refine m_enter (QQ := fun A => va_Qi Q (mPos D (mT cs) A (VT h r q cs)) A) (cc := cX11_image) (maxL := 1) (ret := (some .int)) (by decide) rfl (Nat.le_of_ble_eq_true rfl) ?_
  intro p e s m args below meth c A ls S hr hlocks hname hl hI
  have S : CallFix p m c cX11_image 1 s args wsX11_image RX11 := S
  show W p l e ({ frames := 2, cells := 0, slots := 0, locals := 44 } : Room) s m args below meth c s.heap [] 0 0 (MQ below (va_Qi Q (mPos D (mT cs) A (VT h r q cs)) A) args s 0 0 A) (F0 m 0 ls [])
  generalize hZ : MQ below (va_Qi Q (mPos D (mT cs) A (VT h r q cs)) A) args s 0 0 A = Z
  have hin1 : ∀ w ∈ wsX10, w ∈ wsX11_image := fun _ h => List.mem_cons_of_mem _ (List.mem_append_left _ (List.mem_append_right _ h))
  have hin7 : ∀ w ∈ wsX70, w ∈ wsX11_image := fun _ h => List.mem_cons_of_mem _ (List.mem_append_right _ h)
  have hin11 : ∀ w ∈ wsX110, w ∈ wsX11_image := fun _ h => List.mem_cons_of_mem _ (List.mem_append_left _ (List.mem_append_left _ (List.mem_append_right _ h)))
  have hl : lv_has ls 1 [(0, .ref (h 0))] := hl
  unfold wp_X11_image at hw
  obtain ⟨H, hH⟩ : ∃ z : Heap, z = s.heap := ⟨_, rfl⟩
  obtain ⟨locs, hL⟩ : ∃ z : List Loc, z = [] := ⟨_, rfl⟩
  rw [show W p l e ({ frames := 2, cells := 0, slots := 0, locals := 44 } : Room) s m args below meth c s.heap [] 0 0 Z (F0 m 0 ls []) = W p l e ({ frames := 2, cells := 0, slots := 0, locals := 44 } : Room) s m args below meth c H locs 0 0 Z (F0 m 0 ls []) by rw [hH, hL]]
  replace hI : mI D (mT cs) A s.heap s (VT h r q cs u) H locs := by rw [hH, hL]; exact hI
  refine lv_aload_n S.1 S.2.1 dX11_image_0 rfl (lv_at hl 0 rfl) ?_
  refine m_get S hin11 hI 0 (VT_o0 h r q cs u) rfl 12 (Nat.le_of_ble_eq_true rfl) (List.mem_of_getElem? (i := 1) rfl) rfl (FO11_at12 _ _ _) dX11_image_1 ?_
  refine lv_aload_n S.1 S.2.1 dX11_image_4 rfl (lv_at hl 0 rfl) ?_
  refine m_get S hin11 hI 0 (VT_o0 h r q cs u) rfl 11 (Nat.le_of_ble_eq_true rfl) (List.mem_of_getElem? (i := 2) rfl) rfl (FO11_at11 _ _ _) dX11_image_5 ?_
  refine m_vv (cf := fun v => VT h r q cs (emb u [15, 16, 13, 14] v)) (As := [.ref (h 13)]) (rest := []) S (VT_k_hc_15_16_13_14 h r q cs u) hI (by rw [emb_self]) (c_X1_copy l D (fun i => h ([15, 16, 13, 14].getD i 0)) (fun i => rE r (gI (u 24) 0) ([15, 16, 13, 14].getD i 0)) (fun i => q ([15, 16, 13, 14].getD i 0)) cs (fun i => u ([15, 16, 13, 14].getD i 0)) _ hw) (cwV 1 S.2.2.2.2 gX11_image_X1_copy rfl rfl rfl (by decide +kernel) ⟨Nat.le_of_ble_eq_true rfl, Nat.le_of_ble_eq_true rfl⟩) rfl rfl rfl hl.1 rfl (Nat.le_of_ble_eq_true rfl) dX11_image_8 ⟨Nat.zero_le _, Nat.zero_le _⟩ (fun v8 H locs hw hI => ?_)
  obtain ⟨u8, eu8⟩ : ∃ z : CS, z = emb u [15, 16, 13, 14] v8 := ⟨_, rfl⟩
  have hw := hw u8 eu8
  replace hI : mI D (mT cs) A s.heap s (VT h r q cs u8) H locs := by rw [eu8]; exact hI
  refine lv_aload_n S.1 S.2.1 dX11_image_11 rfl (lv_at hl 0 rfl) ?_
  refine lv_iconst (v := 1) S.1 S.2.1 dX11_image_12 (by decide) ?_
  obtain ⟨u13, eu13⟩ : ∃ z : CS, z = mu u8 0 (sI (u8 0) 16 (1 : Int32)) := ⟨_, rfl⟩
  have hw := hw u13 eu13
  refine m_put S hin11 tyX11_ok nmX11 hI 0 (VT_o0 h r q cs u8) rfl 16 (Nat.le_of_ble_eq_true rfl) (List.mem_of_getElem? (i := 3) rfl) rfl rfl (by show Value.int ((1 : Int32) &&& 1) = _; rfl) rfl (Nat.le_of_ble_eq_true rfl) (VT_sI0_16 h r q cs u8 u13 (1 : Int32) eu13) dX11_image_13 (fun H locs hI => ?_)
  refine lv_aload_n S.1 S.2.1 dX11_image_16 rfl (lv_at hl 0 rfl) ?_
  refine m_vi (As := []) (rest := []) S (VT_self h r q cs) hI rfl (c_X11_dropsInDeed l D h r q cs u13 _ hw) (cwV 0 S.2.2.2.2 gX11_image_X11_dropsInDeed rfl rfl rfl (by decide +kernel) ⟨Nat.le_of_ble_eq_true rfl, Nat.le_of_ble_eq_true rfl⟩) (VT_o0 h r q cs u13) rfl rfl hl.1 rfl (Nat.le_of_ble_eq_true rfl) dX11_image_17 ⟨Nat.zero_le _, Nat.zero_le _⟩ (fun y17 u17 H locs hw hI => ?_)
  subst hZ
  exact m_iret S hr hlocks hI hw dX11_image_20

theorem VT_k_hc_13_14_15_16 (h : Nat → Nat) (r : Nat → Nat → Nat) (q : Nat → Nat → Nat → Nat) (cs : Nat → ClassId) (U : CS) : ∀ v : CS, (VT h r q cs (emb U [13, 14, 15, 16] v)).Perm ([] ++ (Vhc (fun i => h ([13, 14, 15, 16].getD i 0)) (fun i => rE r (gI (U 24) 0) ([13, 14, 15, 16].getD i 0)) (fun i => q ([13, 14, 15, 16].getD i 0)) cs v ++ [0, 1, 2, 3, 4, 5, 6, 7, 8, 9, 10, 11, 12, 17, 18, 19, 20, 21, 22, 23, 24].flatMap (cTT h r q cs U))) := fun v => (front_perm (cTT h r q cs (emb U [13, 14, 15, 16] v)) (l := [0, 1, 2, 3, 4, 5, 6, 7, 8, 9, 10, 11, 12, 13, 14, 15, 16, 17, 18, 19, 20, 21, 22, 23, 24]) (ks := [13, 14, 15, 16]) (rest := [0, 1, 2, 3, 4, 5, 6, 7, 8, 9, 10, 11, 12, 17, 18, 19, 20, 21, 22, 23, 24]) (by decide)).trans (List.Perm.of_eq rfl)
def wp_X11_back (u : CS) (Q : Int32 → CS → Prop) : Prop :=
  ((¬ (gI (u 0) 16) = 0 → (wp_X1_copy (fun i => u ([13, 14, 15, 16].getD i 0)) (fun v18 => ∀ u18 : CS, u18 = emb u [13, 14, 15, 16] v18 → (wp_X11_dropsInDeed u18 (fun y22 u22 => Q y22 u22))))) ∧ ((gI (u 0) 16) = 0 → Q ((-5) : Int32) u))
set_option maxHeartbeats 4000000 in
set_option maxRecDepth 100000 in
theorem c_X11_back (l : Launch) (D : va_G) (h : Nat → Nat) (r : Nat → Nat → Nat) (q : Nat → Nat → Nat → Nat) (cs : Nat → ClassId) (u : CS) (Q : Int32 → CS → Prop) (hw : wp_X11_back u Q) : mCi l yX11_back wsX11_back ({ frames := 2, cells := 0, slots := 0, locals := 44 } : Room) 0 0 D (mT cs) (VT h r q cs) [.ref (h 0)] u Q := by
  unfold mCi
  refine m_enter (QQ := fun A => va_Qi Q (mPos D (mT cs) A (VT h r q cs)) A) (cc := cX11_back) (maxL := 1) (ret := (some .int)) (by decide) rfl (Nat.le_of_ble_eq_true rfl) ?_
  intro p e s m args below meth c A ls S hr hlocks hname hl hI
  have S : CallFix p m c cX11_back 1 s args wsX11_back RX11 := S
  show W p l e ({ frames := 2, cells := 0, slots := 0, locals := 44 } : Room) s m args below meth c s.heap [] 0 0 (MQ below (va_Qi Q (mPos D (mT cs) A (VT h r q cs)) A) args s 0 0 A) (F0 m 0 ls [])
  generalize hZ : MQ below (va_Qi Q (mPos D (mT cs) A (VT h r q cs)) A) args s 0 0 A = Z
  have hin1 : ∀ w ∈ wsX10, w ∈ wsX11_back := fun _ h => List.mem_cons_of_mem _ (List.mem_append_left _ (List.mem_append_right _ h))
  have hin7 : ∀ w ∈ wsX70, w ∈ wsX11_back := fun _ h => List.mem_cons_of_mem _ (List.mem_append_right _ h)
  have hin11 : ∀ w ∈ wsX110, w ∈ wsX11_back := fun _ h => List.mem_cons_of_mem _ (List.mem_append_left _ (List.mem_append_left _ (List.mem_append_right _ h)))
  have hl : lv_has ls 1 [(0, .ref (h 0))] := hl
  unfold wp_X11_back at hw
  obtain ⟨H, hH⟩ : ∃ z : Heap, z = s.heap := ⟨_, rfl⟩
  obtain ⟨locs, hL⟩ : ∃ z : List Loc, z = [] := ⟨_, rfl⟩
  rw [show W p l e ({ frames := 2, cells := 0, slots := 0, locals := 44 } : Room) s m args below meth c s.heap [] 0 0 Z (F0 m 0 ls []) = W p l e ({ frames := 2, cells := 0, slots := 0, locals := 44 } : Room) s m args below meth c H locs 0 0 Z (F0 m 0 ls []) by rw [hH, hL]]
  replace hI : mI D (mT cs) A s.heap s (VT h r q cs u) H locs := by rw [hH, hL]; exact hI
  refine lv_aload_n S.1 S.2.1 dX11_back_0 rfl (lv_at hl 0 rfl) ?_
  refine m_get S hin11 hI 0 (VT_o0 h r q cs u) rfl 16 (Nat.le_of_ble_eq_true rfl) (List.mem_of_getElem? (i := 1) rfl) rfl (FO11_at16 _ _ _) dX11_back_1 ?_
  refine lv_if_ne (tgt := 10) S.1 S.2.1 dX11_back_4 (by decide) (fun c4 => ?_) (fun c4 => ?_)
  · have hw := hw.1 c4
    refine lv_aload_n S.1 S.2.1 dX11_back_10 rfl (lv_at hl 0 rfl) ?_
    refine m_get S hin11 hI 0 (VT_o0 h r q cs u) rfl 11 (Nat.le_of_ble_eq_true rfl) (List.mem_of_getElem? (i := 2) rfl) rfl (FO11_at11 _ _ _) dX11_back_11 ?_
    refine lv_aload_n S.1 S.2.1 dX11_back_14 rfl (lv_at hl 0 rfl) ?_
    refine m_get S hin11 hI 0 (VT_o0 h r q cs u) rfl 12 (Nat.le_of_ble_eq_true rfl) (List.mem_of_getElem? (i := 3) rfl) rfl (FO11_at12 _ _ _) dX11_back_15 ?_
    refine m_vv (cf := fun v => VT h r q cs (emb u [13, 14, 15, 16] v)) (As := [.ref (h 15)]) (rest := []) S (VT_k_hc_13_14_15_16 h r q cs u) hI (by rw [emb_self]) (c_X1_copy l D (fun i => h ([13, 14, 15, 16].getD i 0)) (fun i => rE r (gI (u 24) 0) ([13, 14, 15, 16].getD i 0)) (fun i => q ([13, 14, 15, 16].getD i 0)) cs (fun i => u ([13, 14, 15, 16].getD i 0)) _ hw) (cwV 1 S.2.2.2.2 gX11_back_X1_copy rfl rfl rfl (by decide +kernel) ⟨Nat.le_of_ble_eq_true rfl, Nat.le_of_ble_eq_true rfl⟩) rfl rfl rfl hl.1 rfl (Nat.le_of_ble_eq_true rfl) dX11_back_18 ⟨Nat.zero_le _, Nat.zero_le _⟩ (fun v18 H locs hw hI => ?_)
    obtain ⟨u18, eu18⟩ : ∃ z : CS, z = emb u [13, 14, 15, 16] v18 := ⟨_, rfl⟩
    have hw := hw u18 eu18
    replace hI : mI D (mT cs) A s.heap s (VT h r q cs u18) H locs := by rw [eu18]; exact hI
    refine lv_aload_n S.1 S.2.1 dX11_back_21 rfl (lv_at hl 0 rfl) ?_
    refine m_vi (As := []) (rest := []) S (VT_self h r q cs) hI rfl (c_X11_dropsInDeed l D h r q cs u18 _ hw) (cwV 0 S.2.2.2.2 gX11_back_X11_dropsInDeed rfl rfl rfl (by decide +kernel) ⟨Nat.le_of_ble_eq_true rfl, Nat.le_of_ble_eq_true rfl⟩) (VT_o0 h r q cs u18) rfl rfl hl.1 rfl (Nat.le_of_ble_eq_true rfl) dX11_back_22 ⟨Nat.zero_le _, Nat.zero_le _⟩ (fun y22 u22 H locs hw hI => ?_)
    subst hZ
    exact m_iret S hr hlocks hI hw dX11_back_25
  · have hw := hw.2 c4
    refine lv_bipush (v := (-5)) S.1 S.2.1 dX11_back_7 (by decide) ?_
    subst hZ
    exact m_iret S hr hlocks hI hw dX11_back_9

def wp_X11_undo (u : CS) (Q : Int32 → CS → Prop) : Prop :=
  (wp_X8_takeBack (u 1) (fun y4 v4 => ∀ u4 : CS, u4 = mu u 1 v4 → Q y4 u4))
set_option maxHeartbeats 4000000 in
set_option maxRecDepth 100000 in
theorem c_X11_undo (l : Launch) (D : va_G) (h : Nat → Nat) (r : Nat → Nat → Nat) (q : Nat → Nat → Nat → Nat) (cs : Nat → ClassId) (u : CS) (Q : Int32 → CS → Prop) (hw : wp_X11_undo u Q) : mCi l yX11_undo wsX11_undo ({ frames := 1, cells := 0, slots := 0, locals := 20 } : Room) 0 0 D (mT cs) (VT h r q cs) [.ref (h 0)] u Q := by
  unfold mCi
  refine m_enter (QQ := fun A => va_Qi Q (mPos D (mT cs) A (VT h r q cs)) A) (cc := cX11_undo) (maxL := 1) (ret := (some .int)) (by decide) rfl (Nat.le_of_ble_eq_true rfl) ?_
  intro p e s m args below meth c A ls S hr hlocks hname hl hI
  have S : CallFix p m c cX11_undo 1 s args wsX11_undo RX11 := S
  show W p l e ({ frames := 1, cells := 0, slots := 0, locals := 20 } : Room) s m args below meth c s.heap [] 0 0 (MQ below (va_Qi Q (mPos D (mT cs) A (VT h r q cs)) A) args s 0 0 A) (F0 m 0 ls [])
  generalize hZ : MQ below (va_Qi Q (mPos D (mT cs) A (VT h r q cs)) A) args s 0 0 A = Z
  have hin8 : ∀ w ∈ wsX80, w ∈ wsX11_undo := fun _ h => List.mem_cons_of_mem _ (List.mem_append_right _ h)
  have hin11 : ∀ w ∈ wsX110, w ∈ wsX11_undo := fun _ h => List.mem_cons_of_mem _ (List.mem_append_left _ (List.mem_append_right _ h))
  have hl : lv_has ls 1 [(0, .ref (h 0))] := hl
  unfold wp_X11_undo at hw
  obtain ⟨H, hH⟩ : ∃ z : Heap, z = s.heap := ⟨_, rfl⟩
  obtain ⟨locs, hL⟩ : ∃ z : List Loc, z = [] := ⟨_, rfl⟩
  rw [show W p l e ({ frames := 1, cells := 0, slots := 0, locals := 20 } : Room) s m args below meth c s.heap [] 0 0 Z (F0 m 0 ls []) = W p l e ({ frames := 1, cells := 0, slots := 0, locals := 20 } : Room) s m args below meth c H locs 0 0 Z (F0 m 0 ls []) by rw [hH, hL]]
  replace hI : mI D (mT cs) A s.heap s (VT h r q cs u) H locs := by rw [hH, hL]; exact hI
  refine lv_aload_n S.1 S.2.1 dX11_undo_0 rfl (lv_at hl 0 rfl) ?_
  refine m_get S hin11 hI 0 (VT_o0 h r q cs u) rfl 0 (Nat.le_of_ble_eq_true rfl) (List.mem_of_getElem? (i := 1) rfl) rfl (FO11_at0 _ _ _) dX11_undo_1 ?_
  refine m_vi (cf := fun v => VT h r q cs (mu u 1 v)) (As := []) (rest := []) S (VT_c1 h r q cs u) hI (by rw [mu_self]) (c_X8_takeBack l D (h 1) (r 1) cs (u 1) _ hw) (cwV 0 S.2.2.2.2 gX11_undo_X8_takeBack rfl rfl rfl (by decide +kernel) ⟨Nat.le_of_ble_eq_true rfl, Nat.le_of_ble_eq_true rfl⟩) rfl rfl rfl hl.1 rfl (Nat.le_of_ble_eq_true rfl) dX11_undo_4 ⟨Nat.zero_le _, Nat.zero_le _⟩ (fun y4 v4 H locs hw hI => ?_)
  obtain ⟨u4, eu4⟩ : ∃ z : CS, z = mu u 1 v4 := ⟨_, rfl⟩
  have hw := hw u4 eu4
  replace hI : mI D (mT cs) A s.heap s (VT h r q cs u4) H locs := by rw [eu4]; exact hI
  subst hZ
  exact m_iret S hr hlocks hI hw dX11_undo_7

def wp_X11_redo (u : CS) (Q : Int32 → CS → Prop) : Prop :=
  (wp_X8_doAgain (u 1) (fun y4 v4 => ∀ u4 : CS, u4 = mu u 1 v4 → Q y4 u4))
set_option maxHeartbeats 4000000 in
set_option maxRecDepth 100000 in
theorem c_X11_redo (l : Launch) (D : va_G) (h : Nat → Nat) (r : Nat → Nat → Nat) (q : Nat → Nat → Nat → Nat) (cs : Nat → ClassId) (u : CS) (Q : Int32 → CS → Prop) (hw : wp_X11_redo u Q) : mCi l yX11_redo wsX11_redo ({ frames := 1, cells := 0, slots := 0, locals := 20 } : Room) 0 0 D (mT cs) (VT h r q cs) [.ref (h 0)] u Q := by
  unfold mCi
  refine m_enter (QQ := fun A => va_Qi Q (mPos D (mT cs) A (VT h r q cs)) A) (cc := cX11_redo) (maxL := 1) (ret := (some .int)) (by decide) rfl (Nat.le_of_ble_eq_true rfl) ?_
  intro p e s m args below meth c A ls S hr hlocks hname hl hI
  have S : CallFix p m c cX11_redo 1 s args wsX11_redo RX11 := S
  show W p l e ({ frames := 1, cells := 0, slots := 0, locals := 20 } : Room) s m args below meth c s.heap [] 0 0 (MQ below (va_Qi Q (mPos D (mT cs) A (VT h r q cs)) A) args s 0 0 A) (F0 m 0 ls [])
  generalize hZ : MQ below (va_Qi Q (mPos D (mT cs) A (VT h r q cs)) A) args s 0 0 A = Z
  have hin8 : ∀ w ∈ wsX80, w ∈ wsX11_redo := fun _ h => List.mem_cons_of_mem _ (List.mem_append_right _ h)
  have hin11 : ∀ w ∈ wsX110, w ∈ wsX11_redo := fun _ h => List.mem_cons_of_mem _ (List.mem_append_left _ (List.mem_append_right _ h))
  have hl : lv_has ls 1 [(0, .ref (h 0))] := hl
  unfold wp_X11_redo at hw
  obtain ⟨H, hH⟩ : ∃ z : Heap, z = s.heap := ⟨_, rfl⟩
  obtain ⟨locs, hL⟩ : ∃ z : List Loc, z = [] := ⟨_, rfl⟩
  rw [show W p l e ({ frames := 1, cells := 0, slots := 0, locals := 20 } : Room) s m args below meth c s.heap [] 0 0 Z (F0 m 0 ls []) = W p l e ({ frames := 1, cells := 0, slots := 0, locals := 20 } : Room) s m args below meth c H locs 0 0 Z (F0 m 0 ls []) by rw [hH, hL]]
  replace hI : mI D (mT cs) A s.heap s (VT h r q cs u) H locs := by rw [hH, hL]; exact hI
  refine lv_aload_n S.1 S.2.1 dX11_redo_0 rfl (lv_at hl 0 rfl) ?_
  refine m_get S hin11 hI 0 (VT_o0 h r q cs u) rfl 0 (Nat.le_of_ble_eq_true rfl) (List.mem_of_getElem? (i := 1) rfl) rfl (FO11_at0 _ _ _) dX11_redo_1 ?_
  refine m_vi (cf := fun v => VT h r q cs (mu u 1 v)) (As := []) (rest := []) S (VT_c1 h r q cs u) hI (by rw [mu_self]) (c_X8_doAgain l D (h 1) (r 1) cs (u 1) _ hw) (cwV 0 S.2.2.2.2 gX11_redo_X8_doAgain rfl rfl rfl (by decide +kernel) ⟨Nat.le_of_ble_eq_true rfl, Nat.le_of_ble_eq_true rfl⟩) rfl rfl rfl hl.1 rfl (Nat.le_of_ble_eq_true rfl) dX11_redo_4 ⟨Nat.zero_le _, Nat.zero_le _⟩ (fun y4 v4 H locs hw hI => ?_)
  obtain ⟨u4, eu4⟩ : ∃ z : CS, z = mu u 1 v4 := ⟨_, rfl⟩
  have hw := hw u4 eu4
  replace hI : mI D (mT cs) A s.heap s (VT h r q cs u4) H locs := by rw [eu4]; exact hI
  subst hZ
  exact m_iret S hr hlocks hI hw dX11_redo_7

theorem VT_c17 (h : Nat → Nat) (r : Nat → Nat → Nat) (q : Nat → Nat → Nat → Nat) (cs : Nat → ClassId) (U : CS) : ∀ v : ST, (VT h r q cs (mu U 17 v)).Perm ([] ++ (W0 (h 17) (r 17) cs v ++ [0, 1, 2, 3, 4, 5, 6, 7, 8, 9, 10, 11, 12, 13, 14, 15, 16, 18, 19, 20, 21, 22, 23, 24].flatMap (cTT h r q cs U))) := fun v => (front_perm (cTT h r q cs (mu U 17 v)) (l := [0, 1, 2, 3, 4, 5, 6, 7, 8, 9, 10, 11, 12, 13, 14, 15, 16, 17, 18, 19, 20, 21, 22, 23, 24]) (ks := [17]) (rest := [0, 1, 2, 3, 4, 5, 6, 7, 8, 9, 10, 11, 12, 13, 14, 15, 16, 18, 19, 20, 21, 22, 23, 24]) (by decide)).trans (List.Perm.of_eq (by rw [show [17].flatMap (cTT h r q cs (mu U 17 v)) = W0 (h 17) (r 17) cs v from List.append_nil _]; rfl))
def wp_X11_body_p19 (t0 : Int32) (u : CS) (Q : Int32 → CS → Prop) : Prop :=
  Q t0 u
def wp_X11_body (a1 : Int32) (u : CS) (Q : Int32 → CS → Prop) : Prop :=
  (wp_X0_isKind a1 (fun y1 => ((y1 = 0 → wp_X11_body_p19 ((-1) : Int32) u Q) ∧ (¬ y1 = 0 → (wp_X0_add a1 (u 17) (fun y12 v12 => ∀ u12 : CS, u12 = mu u 17 v12 → wp_X11_body_p19 y12 u12 Q))))))
set_option maxHeartbeats 4000000 in
set_option maxRecDepth 100000 in
theorem c_X11_body (l : Launch) (D : va_G) (h : Nat → Nat) (r : Nat → Nat → Nat) (q : Nat → Nat → Nat → Nat) (cs : Nat → ClassId) (a1 : Int32) (u : CS) (Q : Int32 → CS → Prop) (hw : wp_X11_body a1 u Q) : mCi l yX11_body wsX11_body ({ frames := 2, cells := 0, slots := 0, locals := 42 } : Room) 0 0 D (mT cs) (VT h r q cs) [.ref (h 0), .int a1] u Q := by
  unfold mCi
  refine m_enter (QQ := fun A => va_Qi Q (mPos D (mT cs) A (VT h r q cs)) A) (cc := cX11_body) (maxL := 2) (ret := (some .int)) (by decide) rfl (Nat.le_of_ble_eq_true rfl) ?_
  intro p e s m args below meth c A ls S hr hlocks hname hl hI
  have S : CallFix p m c cX11_body 2 s args wsX11_body RX11 := S
  show W p l e ({ frames := 2, cells := 0, slots := 0, locals := 42 } : Room) s m args below meth c s.heap [] 0 0 (MQ below (va_Qi Q (mPos D (mT cs) A (VT h r q cs)) A) args s 0 0 A) (F0 m 0 ls [])
  generalize hZ : MQ below (va_Qi Q (mPos D (mT cs) A (VT h r q cs)) A) args s 0 0 A = Z
  have hin0 : ∀ w ∈ wsX00, w ∈ wsX11_body := fun _ h => List.mem_cons_of_mem _ (List.mem_append_right _ h)
  have hin11 : ∀ w ∈ wsX110, w ∈ wsX11_body := fun _ h => List.mem_cons_of_mem _ (List.mem_append_left _ (List.mem_append_right _ h))
  have hl : lv_has ls 2 [(0, .ref (h 0)), (1, .int a1)] := hl
  have b19 : ∀ (t0 : Int32) (u : CS), wp_X11_body_p19 t0 u Q → mGo p l e ({ frames := 2, cells := 0, slots := 0, locals := 42 } : Room) s m args below meth c A Z 2 D (mT cs) (VT h r q cs) 19 [(0, .ref (h 0))] [.int t0] u := by
    intro t0 u hw H locs ls hI hl
    unfold wp_X11_body_p19 at hw
    subst hZ
    exact m_iret S hr hlocks hI hw dX11_body_19
  unfold wp_X11_body at hw
  obtain ⟨H, hH⟩ : ∃ z : Heap, z = s.heap := ⟨_, rfl⟩
  obtain ⟨locs, hL⟩ : ∃ z : List Loc, z = [] := ⟨_, rfl⟩
  rw [show W p l e ({ frames := 2, cells := 0, slots := 0, locals := 42 } : Room) s m args below meth c s.heap [] 0 0 Z (F0 m 0 ls []) = W p l e ({ frames := 2, cells := 0, slots := 0, locals := 42 } : Room) s m args below meth c H locs 0 0 Z (F0 m 0 ls []) by rw [hH, hL]]
  replace hI : mI D (mT cs) A s.heap s (VT h r q cs u) H locs := by rw [hH, hL]; exact hI
  refine lv_iload_n S.1 S.2.1 dX11_body_0 rfl (lv_at hl 1 rfl) ?_
  refine m_si (As := [.int a1]) (rest := []) S hI.2.2.2.1.2.1 (c_X0_isKind l a1 _ hw) (va_cwS 1 S.2.2.2.2 gX11_body_X0_isKind rfl rfl rfl (by decide +kernel) ⟨Nat.le_of_ble_eq_true rfl, Nat.le_of_ble_eq_true rfl⟩) rfl hl.1 rfl (Nat.le_of_ble_eq_true rfl) dX11_body_1 ⟨Nat.zero_le _, Nat.zero_le _⟩ (fun y1 hw => ?_)
  refine lv_if_eq (tgt := 18) S.1 S.2.1 dX11_body_4 (by decide) (fun c4 => ?_) (fun c4 => ?_)
  · have hw := hw.1 c4
    refine lv_iconst (v := (-1)) S.1 S.2.1 dX11_body_18 (by decide) ?_
    exact b19 ((-1) : Int32) u hw H locs ls hI (lv_sub hl [0] rfl)
  · have hw := hw.2 c4
    refine lv_aload_n S.1 S.2.1 dX11_body_7 rfl (lv_at hl 0 rfl) ?_
    refine m_get S hin11 hI 0 (VT_o0 h r q cs u) rfl 13 (Nat.le_of_ble_eq_true rfl) (List.mem_of_getElem? (i := 1) rfl) rfl (FO11_at13 _ _ _) dX11_body_8 ?_
    refine lv_iload_n S.1 S.2.1 dX11_body_11 rfl (lv_at hl 1 rfl) ?_
    refine m_vi (cf := fun v => VT h r q cs (mu u 17 v)) (As := [.int a1]) (rest := []) S (VT_c17 h r q cs u) hI (by rw [mu_self]) (c_X0_add l D (h 17) (r 17) cs a1 (u 17) _ hw) (cwV 1 S.2.2.2.2 gX11_body_X0_add rfl rfl rfl (by decide +kernel) ⟨Nat.le_of_ble_eq_true rfl, Nat.le_of_ble_eq_true rfl⟩) rfl rfl rfl hl.1 rfl (Nat.le_of_ble_eq_true rfl) dX11_body_12 ⟨Nat.zero_le _, Nat.zero_le _⟩ (fun y12 v12 H locs hw hI => ?_)
    obtain ⟨u12, eu12⟩ : ∃ z : CS, z = mu u 17 v12 := ⟨_, rfl⟩
    have hw := hw u12 eu12
    replace hI : mI D (mT cs) A s.heap s (VT h r q cs u12) H locs := by rw [eu12]; exact hI
    refine lv_goto (tgt := 19) S.1 S.2.1 dX11_body_15 (by decide) ?_
    exact b19 y12 u12 hw H locs ls hI (lv_sub hl [0] rfl)

def wp_X11_act (a1 : Int32) (a2 : Int32) (a3 : Int32) (u : CS) (Q : Int32 → CS → Prop) : Prop :=
  (wp_X0_play a1 a2 a3 (u 17) (fun y7 v7 => ∀ u7 : CS, u7 = mu u 17 v7 → Q y7 u7))
set_option maxHeartbeats 4000000 in
set_option maxRecDepth 100000 in
theorem c_X11_act (l : Launch) (D : va_G) (h : Nat → Nat) (r : Nat → Nat → Nat) (q : Nat → Nat → Nat → Nat) (cs : Nat → ClassId) (a1 : Int32) (a2 : Int32) (a3 : Int32) (u : CS) (Q : Int32 → CS → Prop) (hw : wp_X11_act a1 a2 a3 u Q) : mCi l yX11_act wsX11_act ({ frames := 65, cells := 0, slots := 0, locals := 1669 } : Room) 0 0 D (mT cs) (VT h r q cs) [.ref (h 0), .int a1, .int a2, .int a3] u Q := by
  unfold mCi
  refine m_enter (QQ := fun A => va_Qi Q (mPos D (mT cs) A (VT h r q cs)) A) (cc := cX11_act) (maxL := 4) (ret := (some .int)) (by decide) rfl (Nat.le_of_ble_eq_true rfl) ?_
  intro p e s m args below meth c A ls S hr hlocks hname hl hI
  have S : CallFix p m c cX11_act 4 s args wsX11_act RX11 := S
  show W p l e ({ frames := 65, cells := 0, slots := 0, locals := 1669 } : Room) s m args below meth c s.heap [] 0 0 (MQ below (va_Qi Q (mPos D (mT cs) A (VT h r q cs)) A) args s 0 0 A) (F0 m 0 ls [])
  generalize hZ : MQ below (va_Qi Q (mPos D (mT cs) A (VT h r q cs)) A) args s 0 0 A = Z
  have hin0 : ∀ w ∈ wsX00, w ∈ wsX11_act := fun _ h => List.mem_cons_of_mem _ (List.mem_append_right _ h)
  have hin11 : ∀ w ∈ wsX110, w ∈ wsX11_act := fun _ h => List.mem_cons_of_mem _ (List.mem_append_left _ (List.mem_append_right _ h))
  have hl : lv_has ls 4 [(0, .ref (h 0)), (1, .int a1), (2, .int a2), (3, .int a3)] := hl
  unfold wp_X11_act at hw
  obtain ⟨H, hH⟩ : ∃ z : Heap, z = s.heap := ⟨_, rfl⟩
  obtain ⟨locs, hL⟩ : ∃ z : List Loc, z = [] := ⟨_, rfl⟩
  rw [show W p l e ({ frames := 65, cells := 0, slots := 0, locals := 1669 } : Room) s m args below meth c s.heap [] 0 0 Z (F0 m 0 ls []) = W p l e ({ frames := 65, cells := 0, slots := 0, locals := 1669 } : Room) s m args below meth c H locs 0 0 Z (F0 m 0 ls []) by rw [hH, hL]]
  replace hI : mI D (mT cs) A s.heap s (VT h r q cs u) H locs := by rw [hH, hL]; exact hI
  refine lv_aload_n S.1 S.2.1 dX11_act_0 rfl (lv_at hl 0 rfl) ?_
  refine m_get S hin11 hI 0 (VT_o0 h r q cs u) rfl 13 (Nat.le_of_ble_eq_true rfl) (List.mem_of_getElem? (i := 1) rfl) rfl (FO11_at13 _ _ _) dX11_act_1 ?_
  refine lv_iload_n S.1 S.2.1 dX11_act_4 rfl (lv_at hl 1 rfl) ?_
  refine lv_iload_n S.1 S.2.1 dX11_act_5 rfl (lv_at hl 2 rfl) ?_
  refine lv_iload_n S.1 S.2.1 dX11_act_6 rfl (lv_at hl 3 rfl) ?_
  refine m_vi (cf := fun v => VT h r q cs (mu u 17 v)) (As := [.int a1, .int a2, .int a3]) (rest := []) S (VT_c17 h r q cs u) hI (by rw [mu_self]) (c_X0_play l D (h 17) (r 17) cs a1 a2 a3 (u 17) _ hw) (cwV 3 S.2.2.2.2 gX11_act_X0_play rfl rfl rfl (by decide +kernel) ⟨Nat.le_of_ble_eq_true rfl, Nat.le_of_ble_eq_true rfl⟩) rfl rfl rfl hl.1 rfl (Nat.le_of_ble_eq_true rfl) dX11_act_7 ⟨Nat.zero_le _, Nat.zero_le _⟩ (fun y7 v7 H locs hw hI => ?_)
  obtain ⟨u7, eu7⟩ : ∃ z : CS, z = mu u 17 v7 := ⟨_, rfl⟩
  have hw := hw u7 eu7
  replace hI : mI D (mT cs) A s.heap s (VT h r q cs u7) H locs := by rw [eu7]; exact hI
  subst hZ
  exact m_iret S hr hlocks hI hw dX11_act_10

def wp_X11_trace (a1 : Int32) (u : CS) (Q : Int32 → CS → Prop) : Prop :=
  (wp_X0_traced a1 (u 17) (fun y5 v5 => ∀ u5 : CS, u5 = mu u 17 v5 → Q y5 u5))
set_option maxHeartbeats 4000000 in
set_option maxRecDepth 100000 in
theorem c_X11_trace (l : Launch) (D : va_G) (h : Nat → Nat) (r : Nat → Nat → Nat) (q : Nat → Nat → Nat → Nat) (cs : Nat → ClassId) (a1 : Int32) (u : CS) (Q : Int32 → CS → Prop) (hw : wp_X11_trace a1 u Q) : mCi l yX11_trace wsX11_trace ({ frames := 1, cells := 0, slots := 0, locals := 21 } : Room) 0 0 D (mT cs) (VT h r q cs) [.ref (h 0), .int a1] u Q := by
  unfold mCi
  refine m_enter (QQ := fun A => va_Qi Q (mPos D (mT cs) A (VT h r q cs)) A) (cc := cX11_trace) (maxL := 2) (ret := (some .int)) (by decide) rfl (Nat.le_of_ble_eq_true rfl) ?_
  intro p e s m args below meth c A ls S hr hlocks hname hl hI
  have S : CallFix p m c cX11_trace 2 s args wsX11_trace RX11 := S
  show W p l e ({ frames := 1, cells := 0, slots := 0, locals := 21 } : Room) s m args below meth c s.heap [] 0 0 (MQ below (va_Qi Q (mPos D (mT cs) A (VT h r q cs)) A) args s 0 0 A) (F0 m 0 ls [])
  generalize hZ : MQ below (va_Qi Q (mPos D (mT cs) A (VT h r q cs)) A) args s 0 0 A = Z
  have hin0 : ∀ w ∈ wsX00, w ∈ wsX11_trace := fun _ h => List.mem_cons_of_mem _ (List.mem_append_right _ h)
  have hin11 : ∀ w ∈ wsX110, w ∈ wsX11_trace := fun _ h => List.mem_cons_of_mem _ (List.mem_append_left _ (List.mem_append_right _ h))
  have hl : lv_has ls 2 [(0, .ref (h 0)), (1, .int a1)] := hl
  unfold wp_X11_trace at hw
  obtain ⟨H, hH⟩ : ∃ z : Heap, z = s.heap := ⟨_, rfl⟩
  obtain ⟨locs, hL⟩ : ∃ z : List Loc, z = [] := ⟨_, rfl⟩
  rw [show W p l e ({ frames := 1, cells := 0, slots := 0, locals := 21 } : Room) s m args below meth c s.heap [] 0 0 Z (F0 m 0 ls []) = W p l e ({ frames := 1, cells := 0, slots := 0, locals := 21 } : Room) s m args below meth c H locs 0 0 Z (F0 m 0 ls []) by rw [hH, hL]]
  replace hI : mI D (mT cs) A s.heap s (VT h r q cs u) H locs := by rw [hH, hL]; exact hI
  refine lv_aload_n S.1 S.2.1 dX11_trace_0 rfl (lv_at hl 0 rfl) ?_
  refine m_get S hin11 hI 0 (VT_o0 h r q cs u) rfl 13 (Nat.le_of_ble_eq_true rfl) (List.mem_of_getElem? (i := 1) rfl) rfl (FO11_at13 _ _ _) dX11_trace_1 ?_
  refine lv_iload_n S.1 S.2.1 dX11_trace_4 rfl (lv_at hl 1 rfl) ?_
  refine m_vi (cf := fun v => VT h r q cs (mu u 17 v)) (As := [.int a1]) (rest := []) S (VT_c17 h r q cs u) hI (by rw [mu_self]) (c_X0_traced l D (h 17) (r 17) cs a1 (u 17) _ hw) (cwV 1 S.2.2.2.2 gX11_trace_X0_traced rfl rfl rfl (by decide +kernel) ⟨Nat.le_of_ble_eq_true rfl, Nat.le_of_ble_eq_true rfl⟩) rfl rfl rfl hl.1 rfl (Nat.le_of_ble_eq_true rfl) dX11_trace_5 ⟨Nat.zero_le _, Nat.zero_le _⟩ (fun y5 v5 H locs hw hI => ?_)
  obtain ⟨u5, eu5⟩ : ∃ z : CS, z = mu u 17 v5 := ⟨_, rfl⟩
  have hw := hw u5 eu5
  replace hI : mI D (mT cs) A s.heap s (VT h r q cs u5) H locs := by rw [eu5]; exact hI
  subst hZ
  exact m_iret S hr hlocks hI hw dX11_trace_8

def wp_X11_keep_p23 (u : CS) (Q : Int32 → CS → Prop) : Prop :=
  Q ((-1) : Int32) u
def wp_X11_keep_p25 (x1 : Int32) (x2 : Int32) (u : CS) (Q : Int32 → CS → Prop) : Prop :=
  (vp_in x1 6 ∧ (wp_X6_holdBody x2 (u (18 + x1.toNatClampNeg)) (fun v32 => ∀ u32 : CS, u32 = mu u (18 + x1.toNatClampNeg) v32 → Q (1 : Int32) u32)))
def wp_X11_keep (a1 : Int32) (a2 : Int32) (u : CS) (Q : Int32 → CS → Prop) : Prop :=
  (wp_X11_isShelf a1 (fun y1 => ((y1 = 0 → wp_X11_keep_p23 u Q) ∧ (¬ y1 = 0 → ((a2 = ((-1) : Int32) → wp_X11_keep_p25 a1 a2 u Q) ∧ (¬ a2 = ((-1) : Int32) → (wp_X0_has a2 (u 17) (fun y17 v17 => ∀ u17 : CS, u17 = mu u 17 v17 → ((¬ y17 = 0 → wp_X11_keep_p25 a1 a2 u17 Q) ∧ (y17 = 0 → wp_X11_keep_p23 u17 Q))))))))))
set_option maxHeartbeats 4000000 in
set_option maxRecDepth 100000 in
theorem c_X11_keep (l : Launch) (D : va_G) (h : Nat → Nat) (r : Nat → Nat → Nat) (q : Nat → Nat → Nat → Nat) (cs : Nat → ClassId) (a1 : Int32) (a2 : Int32) (u : CS) (Q : Int32 → CS → Prop) (hw : wp_X11_keep a1 a2 u Q) : mCi l yX11_keep wsX11_keep ({ frames := 2, cells := 0, slots := 0, locals := 42 } : Room) 0 0 D (mT cs) (VT h r q cs) [.ref (h 0), .int a1, .int a2] u Q := by
  unfold mCi
  refine m_enter (QQ := fun A => va_Qi Q (mPos D (mT cs) A (VT h r q cs)) A) (cc := cX11_keep) (maxL := 3) (ret := (some .int)) (by decide) rfl (Nat.le_of_ble_eq_true rfl) ?_
  intro p e s m args below meth c A ls S hr hlocks hname hl hI
  have S : CallFix p m c cX11_keep 3 s args wsX11_keep RX11 := S
  show W p l e ({ frames := 2, cells := 0, slots := 0, locals := 42 } : Room) s m args below meth c s.heap [] 0 0 (MQ below (va_Qi Q (mPos D (mT cs) A (VT h r q cs)) A) args s 0 0 A) (F0 m 0 ls [])
  generalize hZ : MQ below (va_Qi Q (mPos D (mT cs) A (VT h r q cs)) A) args s 0 0 A = Z
  have hin0 : ∀ w ∈ wsX00, w ∈ wsX11_keep := fun _ h => List.mem_cons_of_mem _ (List.mem_append_left _ (List.mem_append_right _ h))
  have hin6 : ∀ w ∈ wsX60, w ∈ wsX11_keep := fun _ h => List.mem_cons_of_mem _ (List.mem_append_right _ h)
  have hin11 : ∀ w ∈ wsX110, w ∈ wsX11_keep := fun _ h => List.mem_cons_of_mem _ (List.mem_append_left _ (List.mem_append_left _ (List.mem_append_right _ h)))
  have hl : lv_has ls 3 [(0, .ref (h 0)), (1, .int a1), (2, .int a2)] := hl
  have b23 : ∀ (u : CS), wp_X11_keep_p23 u Q → mGo p l e ({ frames := 2, cells := 0, slots := 0, locals := 42 } : Room) s m args below meth c A Z 3 D (mT cs) (VT h r q cs) 23 [(0, .ref (h 0))] [] u := by
    intro u hw H locs ls hI hl
    unfold wp_X11_keep_p23 at hw
    refine lv_iconst (v := (-1)) S.1 S.2.1 dX11_keep_23 (by decide) ?_
    subst hZ
    exact m_iret S hr hlocks hI hw dX11_keep_24
  have b25 : ∀ (x1 : Int32) (x2 : Int32) (u : CS), wp_X11_keep_p25 x1 x2 u Q → mGo p l e ({ frames := 2, cells := 0, slots := 0, locals := 42 } : Room) s m args below meth c A Z 3 D (mT cs) (VT h r q cs) 25 [(0, .ref (h 0)), (1, .int x1), (2, .int x2)] [] u := by
    intro x1 x2 u hw H locs ls hI hl
    unfold wp_X11_keep_p25 at hw
    refine lv_aload_n S.1 S.2.1 dX11_keep_25 rfl (lv_at hl 0 rfl) ?_
    refine m_get S hin11 hI 0 (VT_o0 h r q cs u) rfl 14 (Nat.le_of_ble_eq_true rfl) (List.mem_of_getElem? (i := 2) rfl) rfl (FO11_at14 _ _ _) dX11_keep_26 ?_
    refine lv_iload_n S.1 S.2.1 dX11_keep_29 rfl (lv_at hl 1 rfl) ?_
    have hj30 := mlt hw.1
    refine m_aals S hI 1 5 (VT_sh h r q cs u) rfl hw.1 dX11_keep_30 ?_
    have hw := hw.2
    rw [show h (0 + (18 + x1.toNatClampNeg)) = h (18 + x1.toNatClampNeg) from congrArg h (Nat.zero_add _)]
    refine lv_iload_n S.1 S.2.1 dX11_keep_31 rfl (lv_at hl 2 rfl) ?_
    refine m_vv (cf := fun v => VT h r q cs (mu u (18 + x1.toNatClampNeg) v)) (As := [.int x2]) (rest := []) S (VT_cS h r q cs u hj30) hI (by rw [mu_self]) (c_X6_holdBody l D (h (18 + x1.toNatClampNeg)) (r (18 + x1.toNatClampNeg)) cs x2 (u (18 + x1.toNatClampNeg)) _ hw) (cwV 1 S.2.2.2.2 gX11_keep_X6_holdBody rfl rfl rfl (by decide +kernel) ⟨Nat.le_of_ble_eq_true rfl, Nat.le_of_ble_eq_true rfl⟩) rfl rfl rfl hl.1 rfl (Nat.le_of_ble_eq_true rfl) dX11_keep_32 ⟨Nat.zero_le _, Nat.zero_le _⟩ (fun v32 H locs hw hI => ?_)
    obtain ⟨u32, eu32⟩ : ∃ z : CS, z = mu u (18 + x1.toNatClampNeg) v32 := ⟨_, rfl⟩
    have hw := hw u32 eu32
    replace hI : mI D (mT cs) A s.heap s (VT h r q cs u32) H locs := by rw [eu32]; exact hI
    refine lv_iconst (v := 1) S.1 S.2.1 dX11_keep_35 (by decide) ?_
    subst hZ
    exact m_iret S hr hlocks hI hw dX11_keep_36
  unfold wp_X11_keep at hw
  obtain ⟨H, hH⟩ : ∃ z : Heap, z = s.heap := ⟨_, rfl⟩
  obtain ⟨locs, hL⟩ : ∃ z : List Loc, z = [] := ⟨_, rfl⟩
  rw [show W p l e ({ frames := 2, cells := 0, slots := 0, locals := 42 } : Room) s m args below meth c s.heap [] 0 0 Z (F0 m 0 ls []) = W p l e ({ frames := 2, cells := 0, slots := 0, locals := 42 } : Room) s m args below meth c H locs 0 0 Z (F0 m 0 ls []) by rw [hH, hL]]
  replace hI : mI D (mT cs) A s.heap s (VT h r q cs u) H locs := by rw [hH, hL]; exact hI
  refine lv_iload_n S.1 S.2.1 dX11_keep_0 rfl (lv_at hl 1 rfl) ?_
  refine m_si (As := [.int a1]) (rest := []) S hI.2.2.2.1.2.1 (c_X11_isShelf l a1 _ hw) (va_cwS 1 S.2.2.2.2 gX11_keep_X11_isShelf rfl rfl rfl (by decide +kernel) ⟨Nat.le_of_ble_eq_true rfl, Nat.le_of_ble_eq_true rfl⟩) rfl hl.1 rfl (Nat.le_of_ble_eq_true rfl) dX11_keep_1 ⟨Nat.zero_le _, Nat.zero_le _⟩ (fun y1 hw => ?_)
  refine lv_if_eq (tgt := 23) S.1 S.2.1 dX11_keep_4 (by decide) (fun c4 => ?_) (fun c4 => ?_)
  · have hw := hw.1 c4
    exact b23 u hw H locs ls hI (lv_sub hl [0] rfl)
  · have hw := hw.2 c4
    refine lv_iload_n S.1 S.2.1 dX11_keep_7 rfl (lv_at hl 2 rfl) ?_
    refine lv_iconst (v := (-1)) S.1 S.2.1 dX11_keep_8 (by decide) ?_
    refine lv_icmp_eq (tgt := 25) S.1 S.2.1 dX11_keep_9 (by decide) (fun c9 => ?_) (fun c9 => ?_)
    · have hw := hw.1 c9
      exact b25 a1 a2 u hw H locs ls hI (lv_sub hl [0, 1, 2] rfl)
    · have hw := hw.2 c9
      refine lv_aload_n S.1 S.2.1 dX11_keep_12 rfl (lv_at hl 0 rfl) ?_
      refine m_get S hin11 hI 0 (VT_o0 h r q cs u) rfl 13 (Nat.le_of_ble_eq_true rfl) (List.mem_of_getElem? (i := 1) rfl) rfl (FO11_at13 _ _ _) dX11_keep_13 ?_
      refine lv_iload_n S.1 S.2.1 dX11_keep_16 rfl (lv_at hl 2 rfl) ?_
      refine m_vi (cf := fun v => VT h r q cs (mu u 17 v)) (As := [.int a2]) (rest := []) S (VT_c17 h r q cs u) hI (by rw [mu_self]) (c_X0_has l D (h 17) (r 17) cs a2 (u 17) _ hw) (cwV 1 S.2.2.2.2 gX11_keep_X0_has rfl rfl rfl (by decide +kernel) ⟨Nat.le_of_ble_eq_true rfl, Nat.le_of_ble_eq_true rfl⟩) rfl rfl rfl hl.1 rfl (Nat.le_of_ble_eq_true rfl) dX11_keep_17 ⟨Nat.zero_le _, Nat.zero_le _⟩ (fun y17 v17 H locs hw hI => ?_)
      obtain ⟨u17, eu17⟩ : ∃ z : CS, z = mu u 17 v17 := ⟨_, rfl⟩
      have hw := hw u17 eu17
      replace hI : mI D (mT cs) A s.heap s (VT h r q cs u17) H locs := by rw [eu17]; exact hI
      refine lv_if_ne (tgt := 25) S.1 S.2.1 dX11_keep_20 (by decide) (fun c20 => ?_) (fun c20 => ?_)
      · have hw := hw.1 c20
        exact b25 a1 a2 u17 hw H locs ls hI (lv_sub hl [0, 1, 2] rfl)
      · have hw := hw.2 c20
        exact b23 u17 hw H locs ls hI (lv_sub hl [0] rfl)

def wp_X11_row_p22 (u : CS) (Q : Int32 → CS → Prop) : Prop :=
  Q ((-1) : Int32) u
def wp_X11_row (a1 : Int32) (a2 : Int32) (a3 : Int32) (u : CS) (Q : Int32 → CS → Prop) : Prop :=
  (wp_X11_isShelf a1 (fun y1 => ((y1 = 0 → wp_X11_row_p22 u Q) ∧ (¬ y1 = 0 → (wp_X11_within a2 (0 : Int32) (4 : Int32) (fun y10 => ((y10 = 0 → wp_X11_row_p22 u Q) ∧ (¬ y10 = 0 → ((a3 ≤ (60 : Int32) → ((0 ≤ a3 → (vp_in a1 6 ∧ (wp_X6_holdRow a2 a3 (u (18 + a1.toNatClampNeg)) (fun v39 => ∀ u39 : CS, u39 = mu u (18 + a1.toNatClampNeg) v39 → Q (1 : Int32) u39)))) ∧ (¬ 0 ≤ a3 → Q ((-14) : Int32) u))) ∧ (¬ a3 ≤ (60 : Int32) → wp_X11_row_p22 u Q))))))))))
set_option maxHeartbeats 4000000 in
set_option maxRecDepth 100000 in
theorem c_X11_row (l : Launch) (D : va_G) (h : Nat → Nat) (r : Nat → Nat → Nat) (q : Nat → Nat → Nat → Nat) (cs : Nat → ClassId) (a1 : Int32) (a2 : Int32) (a3 : Int32) (u : CS) (Q : Int32 → CS → Prop) (hw : wp_X11_row a1 a2 a3 u Q) : mCi l yX11_row wsX11_row ({ frames := 2, cells := 0, slots := 0, locals := 46 } : Room) 0 0 D (mT cs) (VT h r q cs) [.ref (h 0), .int a1, .int a2, .int a3] u Q := by
  unfold mCi
  refine m_enter (QQ := fun A => va_Qi Q (mPos D (mT cs) A (VT h r q cs)) A) (cc := cX11_row) (maxL := 4) (ret := (some .int)) (by decide) rfl (Nat.le_of_ble_eq_true rfl) ?_
  intro p e s m args below meth c A ls S hr hlocks hname hl hI
  have S : CallFix p m c cX11_row 4 s args wsX11_row RX11 := S
  show W p l e ({ frames := 2, cells := 0, slots := 0, locals := 46 } : Room) s m args below meth c s.heap [] 0 0 (MQ below (va_Qi Q (mPos D (mT cs) A (VT h r q cs)) A) args s 0 0 A) (F0 m 0 ls [])
  generalize hZ : MQ below (va_Qi Q (mPos D (mT cs) A (VT h r q cs)) A) args s 0 0 A = Z
  have hin6 : ∀ w ∈ wsX60, w ∈ wsX11_row := fun _ h => List.mem_cons_of_mem _ (List.mem_append_right _ h)
  have hin11 : ∀ w ∈ wsX110, w ∈ wsX11_row := fun _ h => List.mem_cons_of_mem _ (List.mem_append_left _ (List.mem_append_right _ h))
  have hl : lv_has ls 4 [(0, .ref (h 0)), (1, .int a1), (2, .int a2), (3, .int a3)] := hl
  have b22 : ∀ (u : CS), wp_X11_row_p22 u Q → mGo p l e ({ frames := 2, cells := 0, slots := 0, locals := 46 } : Room) s m args below meth c A Z 4 D (mT cs) (VT h r q cs) 22 [(0, .ref (h 0))] [] u := by
    intro u hw H locs ls hI hl
    unfold wp_X11_row_p22 at hw
    refine lv_iconst (v := (-1)) S.1 S.2.1 dX11_row_22 (by decide) ?_
    subst hZ
    exact m_iret S hr hlocks hI hw dX11_row_23
  unfold wp_X11_row at hw
  obtain ⟨H, hH⟩ : ∃ z : Heap, z = s.heap := ⟨_, rfl⟩
  obtain ⟨locs, hL⟩ : ∃ z : List Loc, z = [] := ⟨_, rfl⟩
  rw [show W p l e ({ frames := 2, cells := 0, slots := 0, locals := 46 } : Room) s m args below meth c s.heap [] 0 0 Z (F0 m 0 ls []) = W p l e ({ frames := 2, cells := 0, slots := 0, locals := 46 } : Room) s m args below meth c H locs 0 0 Z (F0 m 0 ls []) by rw [hH, hL]]
  replace hI : mI D (mT cs) A s.heap s (VT h r q cs u) H locs := by rw [hH, hL]; exact hI
  refine lv_iload_n S.1 S.2.1 dX11_row_0 rfl (lv_at hl 1 rfl) ?_
  refine m_si (As := [.int a1]) (rest := []) S hI.2.2.2.1.2.1 (c_X11_isShelf l a1 _ hw) (va_cwS 1 S.2.2.2.2 gX11_row_X11_isShelf rfl rfl rfl (by decide +kernel) ⟨Nat.le_of_ble_eq_true rfl, Nat.le_of_ble_eq_true rfl⟩) rfl hl.1 rfl (Nat.le_of_ble_eq_true rfl) dX11_row_1 ⟨Nat.zero_le _, Nat.zero_le _⟩ (fun y1 hw => ?_)
  refine lv_if_eq (tgt := 22) S.1 S.2.1 dX11_row_4 (by decide) (fun c4 => ?_) (fun c4 => ?_)
  · have hw := hw.1 c4
    exact b22 u hw H locs ls hI (lv_sub hl [0] rfl)
  · have hw := hw.2 c4
    refine lv_iload_n S.1 S.2.1 dX11_row_7 rfl (lv_at hl 2 rfl) ?_
    refine lv_iconst (v := 0) S.1 S.2.1 dX11_row_8 (by decide) ?_
    refine lv_iconst (v := 4) S.1 S.2.1 dX11_row_9 (by decide) ?_
    refine m_si (As := [.int a2, .int (0 : Int32), .int (4 : Int32)]) (rest := []) S hI.2.2.2.1.2.1 (c_X11_within l a2 (0 : Int32) (4 : Int32) _ hw) (va_cwS 3 S.2.2.2.2 gX11_row_X11_within rfl rfl rfl (by decide +kernel) ⟨Nat.le_of_ble_eq_true rfl, Nat.le_of_ble_eq_true rfl⟩) rfl hl.1 rfl (Nat.le_of_ble_eq_true rfl) dX11_row_10 ⟨Nat.zero_le _, Nat.zero_le _⟩ (fun y10 hw => ?_)
    refine lv_if_eq (tgt := 22) S.1 S.2.1 dX11_row_13 (by decide) (fun c13 => ?_) (fun c13 => ?_)
    · have hw := hw.1 c13
      exact b22 u hw H locs ls hI (lv_sub hl [0] rfl)
    · have hw := hw.2 c13
      refine lv_iload_n S.1 S.2.1 dX11_row_16 rfl (lv_at hl 3 rfl) ?_
      refine lv_bipush (v := 60) S.1 S.2.1 dX11_row_17 (by decide) ?_
      refine lv_icmp_le (tgt := 24) S.1 S.2.1 dX11_row_19 (by decide) (fun c19 => ?_) (fun c19 => ?_)
      · have hw := hw.1 c19
        refine lv_iload_n S.1 S.2.1 dX11_row_24 rfl (lv_at hl 3 rfl) ?_
        refine lv_if_ge (tgt := 31) S.1 S.2.1 dX11_row_25 (by decide) (fun c25 => ?_) (fun c25 => ?_)
        · have hw := hw.1 c25
          refine lv_aload_n S.1 S.2.1 dX11_row_31 rfl (lv_at hl 0 rfl) ?_
          refine m_get S hin11 hI 0 (VT_o0 h r q cs u) rfl 14 (Nat.le_of_ble_eq_true rfl) (List.mem_of_getElem? (i := 1) rfl) rfl (FO11_at14 _ _ _) dX11_row_32 ?_
          refine lv_iload_n S.1 S.2.1 dX11_row_35 rfl (lv_at hl 1 rfl) ?_
          have hj36 := mlt hw.1
          refine m_aals S hI 1 5 (VT_sh h r q cs u) rfl hw.1 dX11_row_36 ?_
          have hw := hw.2
          rw [show h (0 + (18 + a1.toNatClampNeg)) = h (18 + a1.toNatClampNeg) from congrArg h (Nat.zero_add _)]
          refine lv_iload_n S.1 S.2.1 dX11_row_37 rfl (lv_at hl 2 rfl) ?_
          refine lv_iload_n S.1 S.2.1 dX11_row_38 rfl (lv_at hl 3 rfl) ?_
          refine m_vv (cf := fun v => VT h r q cs (mu u (18 + a1.toNatClampNeg) v)) (As := [.int a2, .int a3]) (rest := []) S (VT_cS h r q cs u hj36) hI (by rw [mu_self]) (c_X6_holdRow l D (h (18 + a1.toNatClampNeg)) (r (18 + a1.toNatClampNeg)) cs a2 a3 (u (18 + a1.toNatClampNeg)) _ hw) (cwV 2 S.2.2.2.2 gX11_row_X6_holdRow rfl rfl rfl (by decide +kernel) ⟨Nat.le_of_ble_eq_true rfl, Nat.le_of_ble_eq_true rfl⟩) rfl rfl rfl hl.1 rfl (Nat.le_of_ble_eq_true rfl) dX11_row_39 ⟨Nat.zero_le _, Nat.zero_le _⟩ (fun v39 H locs hw hI => ?_)
          obtain ⟨u39, eu39⟩ : ∃ z : CS, z = mu u (18 + a1.toNatClampNeg) v39 := ⟨_, rfl⟩
          have hw := hw u39 eu39
          replace hI : mI D (mT cs) A s.heap s (VT h r q cs u39) H locs := by rw [eu39]; exact hI
          refine lv_iconst (v := 1) S.1 S.2.1 dX11_row_42 (by decide) ?_
          subst hZ
          exact m_iret S hr hlocks hI hw dX11_row_43
        · have hw := hw.2 c25
          refine lv_bipush (v := (-14)) S.1 S.2.1 dX11_row_28 (by decide) ?_
          subst hZ
          exact m_iret S hr hlocks hI hw dX11_row_30
      · have hw := hw.2 c19
        exact b22 u hw H locs ls hI (lv_sub hl [0] rfl)

def wp_X11_put (a1 : Int32) (a2 : Int32) (a3 : Int64) (u : CS) (Q : Int32 → CS → Prop) : Prop :=
  (wp_X11_refusesPlace a1 a2 u (fun y3 u3 => ((y3 = 0 → (vp_in a1 6 ∧ (wp_X6_set a2 a3 (u3 (18 + a1.toNatClampNeg)) (fun v24 => ∀ u24 : CS, u24 = mu u3 (18 + a1.toNatClampNeg) v24 → Q (1 : Int32) u24)))) ∧ (¬ y3 = 0 → Q y3 u3))))
set_option maxHeartbeats 4000000 in
set_option maxRecDepth 100000 in
theorem c_X11_put (l : Launch) (D : va_G) (h : Nat → Nat) (r : Nat → Nat → Nat) (q : Nat → Nat → Nat → Nat) (cs : Nat → ClassId) (a1 : Int32) (a2 : Int32) (a3 : Int64) (u : CS) (Q : Int32 → CS → Prop) (hw : wp_X11_put a1 a2 a3 u Q) : mCi l yX11_put wsX11_put ({ frames := 3, cells := 0, slots := 0, locals := 64 } : Room) 0 0 D (mT cs) (VT h r q cs) [.ref (h 0), .int a1, .int a2, .long a3] u Q := by
  unfold mCi
  refine m_enter (QQ := fun A => va_Qi Q (mPos D (mT cs) A (VT h r q cs)) A) (cc := cX11_put) (maxL := 6) (ret := (some .int)) (by decide) rfl (Nat.le_of_ble_eq_true rfl) ?_
  intro p e s m args below meth c A ls S hr hlocks hname hl hI
  have S : CallFix p m c cX11_put 6 s args wsX11_put RX11 := S
  show W p l e ({ frames := 3, cells := 0, slots := 0, locals := 64 } : Room) s m args below meth c s.heap [] 0 0 (MQ below (va_Qi Q (mPos D (mT cs) A (VT h r q cs)) A) args s 0 0 A) (F0 m 0 ls [])
  generalize hZ : MQ below (va_Qi Q (mPos D (mT cs) A (VT h r q cs)) A) args s 0 0 A = Z
  have hin6 : ∀ w ∈ wsX60, w ∈ wsX11_put := fun _ h => List.mem_cons_of_mem _ (List.mem_append_right _ h)
  have hin11 : ∀ w ∈ wsX110, w ∈ wsX11_put := fun _ h => List.mem_cons_of_mem _ (List.mem_append_left _ (List.mem_append_right _ h))
  have hl : lv_has ls 6 [(0, .ref (h 0)), (1, .int a1), (2, .int a2), (3, .long a3)] := hl
  unfold wp_X11_put at hw
  obtain ⟨H, hH⟩ : ∃ z : Heap, z = s.heap := ⟨_, rfl⟩
  obtain ⟨locs, hL⟩ : ∃ z : List Loc, z = [] := ⟨_, rfl⟩
  rw [show W p l e ({ frames := 3, cells := 0, slots := 0, locals := 64 } : Room) s m args below meth c s.heap [] 0 0 Z (F0 m 0 ls []) = W p l e ({ frames := 3, cells := 0, slots := 0, locals := 64 } : Room) s m args below meth c H locs 0 0 Z (F0 m 0 ls []) by rw [hH, hL]]
  replace hI : mI D (mT cs) A s.heap s (VT h r q cs u) H locs := by rw [hH, hL]; exact hI
  refine lv_aload_n S.1 S.2.1 dX11_put_0 rfl (lv_at hl 0 rfl) ?_
  refine lv_iload_n S.1 S.2.1 dX11_put_1 rfl (lv_at hl 1 rfl) ?_
  refine lv_iload_n S.1 S.2.1 dX11_put_2 rfl (lv_at hl 2 rfl) ?_
  refine m_vi (As := [.int a1, .int a2]) (rest := []) S (VT_self h r q cs) hI rfl (c_X11_refusesPlace l D h r q cs a1 a2 u _ hw) (cwV 2 S.2.2.2.2 gX11_put_X11_refusesPlace rfl rfl rfl (by decide +kernel) ⟨Nat.le_of_ble_eq_true rfl, Nat.le_of_ble_eq_true rfl⟩) (VT_o0 h r q cs u) rfl rfl hl.1 rfl (Nat.le_of_ble_eq_true rfl) dX11_put_3 ⟨Nat.zero_le _, Nat.zero_le _⟩ (fun y3 u3 H locs hw hI => ?_)
  refine lv_istore (lv' := [(5, .int y3), (0, .ref (h 0)), (1, .int a1), (2, .int a2), (3, .long a3)]) S.1 S.2.1 dX11_put_6 hl (by decide) rfl (fun ls hl => ?_)
  refine lv_iload S.1 S.2.1 dX11_put_8 (lv_at hl 0 rfl) ?_
  refine lv_if_eq (tgt := 16) S.1 S.2.1 dX11_put_10 (by decide) (fun c10 => ?_) (fun c10 => ?_)
  · have hw := hw.1 c10
    refine lv_aload_n S.1 S.2.1 dX11_put_16 rfl (lv_at hl 1 rfl) ?_
    refine m_get S hin11 hI 0 (VT_o0 h r q cs u3) rfl 14 (Nat.le_of_ble_eq_true rfl) (List.mem_of_getElem? (i := 1) rfl) rfl (FO11_at14 _ _ _) dX11_put_17 ?_
    refine lv_iload_n S.1 S.2.1 dX11_put_20 rfl (lv_at hl 2 rfl) ?_
    have hj21 := mlt hw.1
    refine m_aals S hI 1 5 (VT_sh h r q cs u3) rfl hw.1 dX11_put_21 ?_
    have hw := hw.2
    rw [show h (0 + (18 + a1.toNatClampNeg)) = h (18 + a1.toNatClampNeg) from congrArg h (Nat.zero_add _)]
    refine lv_iload_n S.1 S.2.1 dX11_put_22 rfl (lv_at hl 3 rfl) ?_
    refine lv_lload_n S.1 S.2.1 dX11_put_23 rfl (lv_at hl 4 rfl) ?_
    refine m_vv (cf := fun v => VT h r q cs (mu u3 (18 + a1.toNatClampNeg) v)) (As := [.int a2, .long a3]) (rest := []) S (VT_cS h r q cs u3 hj21) hI (by rw [mu_self]) (c_X6_set l D (h (18 + a1.toNatClampNeg)) (r (18 + a1.toNatClampNeg)) cs a2 a3 (u3 (18 + a1.toNatClampNeg)) _ hw) (cwV 2 S.2.2.2.2 gX11_put_X6_set rfl rfl rfl (by decide +kernel) ⟨Nat.le_of_ble_eq_true rfl, Nat.le_of_ble_eq_true rfl⟩) rfl rfl rfl hl.1 rfl (Nat.le_of_ble_eq_true rfl) dX11_put_24 ⟨Nat.zero_le _, Nat.zero_le _⟩ (fun v24 H locs hw hI => ?_)
    obtain ⟨u24, eu24⟩ : ∃ z : CS, z = mu u3 (18 + a1.toNatClampNeg) v24 := ⟨_, rfl⟩
    have hw := hw u24 eu24
    replace hI : mI D (mT cs) A s.heap s (VT h r q cs u24) H locs := by rw [eu24]; exact hI
    refine lv_iconst (v := 1) S.1 S.2.1 dX11_put_27 (by decide) ?_
    subst hZ
    exact m_iret S hr hlocks hI hw dX11_put_28
  · have hw := hw.2 c10
    refine lv_iload S.1 S.2.1 dX11_put_13 (lv_at hl 0 rfl) ?_
    subst hZ
    exact m_iret S hr hlocks hI hw dX11_put_15

def wp_X11_element_p25 (t0 : Int64) (u : CS) (Q : Int64 → CS → Prop) : Prop :=
  Q t0 u
def wp_X11_element (a1 : Int32) (a2 : Int32) (u : CS) (Q : Int64 → CS → Prop) : Prop :=
  (wp_X11_refusesPlace a1 a2 u (fun y3 u3 => ((y3 = 0 → (vp_in a1 6 ∧ (wp_X6_get a2 (u3 (18 + a1.toNatClampNeg)) (fun y22 v22 => ∀ u22 : CS, u22 = mu u3 (18 + a1.toNatClampNeg) v22 → wp_X11_element_p25 y22 u22 Q)))) ∧ (¬ y3 = 0 → wp_X11_element_p25 ((-9223372036854775808) : Int64) u3 Q))))
set_option maxHeartbeats 4000000 in
set_option maxRecDepth 100000 in
theorem c_X11_element (l : Launch) (D : va_G) (h : Nat → Nat) (r : Nat → Nat → Nat) (q : Nat → Nat → Nat → Nat) (cs : Nat → ClassId) (a1 : Int32) (a2 : Int32) (u : CS) (Q : Int64 → CS → Prop) (hw : wp_X11_element a1 a2 u Q) : mCl l yX11_element wsX11_element ({ frames := 3, cells := 0, slots := 0, locals := 64 } : Room) 0 0 D (mT cs) (VT h r q cs) [.ref (h 0), .int a1, .int a2] u Q := by
  unfold mCl
  refine m_enter (QQ := fun A => va_Ql Q (mPos D (mT cs) A (VT h r q cs)) A) (cc := cX11_element) (maxL := 3) (ret := (some .long)) (by decide) rfl (Nat.le_of_ble_eq_true rfl) ?_
  intro p e s m args below meth c A ls S hr hlocks hname hl hI
  have S : CallFix p m c cX11_element 3 s args wsX11_element RX11 := S
  show W p l e ({ frames := 3, cells := 0, slots := 0, locals := 64 } : Room) s m args below meth c s.heap [] 0 0 (MQ below (va_Ql Q (mPos D (mT cs) A (VT h r q cs)) A) args s 0 0 A) (F0 m 0 ls [])
  generalize hZ : MQ below (va_Ql Q (mPos D (mT cs) A (VT h r q cs)) A) args s 0 0 A = Z
  have hin6 : ∀ w ∈ wsX60, w ∈ wsX11_element := fun _ h => List.mem_cons_of_mem _ (List.mem_append_right _ h)
  have hin11 : ∀ w ∈ wsX110, w ∈ wsX11_element := fun _ h => List.mem_cons_of_mem _ (List.mem_append_left _ (List.mem_append_right _ h))
  have hl : lv_has ls 3 [(0, .ref (h 0)), (1, .int a1), (2, .int a2)] := hl
  have b25 : ∀ (t0 : Int64) (u : CS), wp_X11_element_p25 t0 u Q → mGo p l e ({ frames := 3, cells := 0, slots := 0, locals := 64 } : Room) s m args below meth c A Z 3 D (mT cs) (VT h r q cs) 25 [(0, .ref (h 0))] [.long t0] u := by
    intro t0 u hw H locs ls hI hl
    unfold wp_X11_element_p25 at hw
    subst hZ
    exact m_lret S hr hlocks hI hw dX11_element_25
  unfold wp_X11_element at hw
  obtain ⟨H, hH⟩ : ∃ z : Heap, z = s.heap := ⟨_, rfl⟩
  obtain ⟨locs, hL⟩ : ∃ z : List Loc, z = [] := ⟨_, rfl⟩
  rw [show W p l e ({ frames := 3, cells := 0, slots := 0, locals := 64 } : Room) s m args below meth c s.heap [] 0 0 Z (F0 m 0 ls []) = W p l e ({ frames := 3, cells := 0, slots := 0, locals := 64 } : Room) s m args below meth c H locs 0 0 Z (F0 m 0 ls []) by rw [hH, hL]]
  replace hI : mI D (mT cs) A s.heap s (VT h r q cs u) H locs := by rw [hH, hL]; exact hI
  refine lv_aload_n S.1 S.2.1 dX11_element_0 rfl (lv_at hl 0 rfl) ?_
  refine lv_iload_n S.1 S.2.1 dX11_element_1 rfl (lv_at hl 1 rfl) ?_
  refine lv_iload_n S.1 S.2.1 dX11_element_2 rfl (lv_at hl 2 rfl) ?_
  refine m_vi (As := [.int a1, .int a2]) (rest := []) S (VT_self h r q cs) hI rfl (c_X11_refusesPlace l D h r q cs a1 a2 u _ hw) (cwV 2 S.2.2.2.2 gX11_element_X11_refusesPlace rfl rfl rfl (by decide +kernel) ⟨Nat.le_of_ble_eq_true rfl, Nat.le_of_ble_eq_true rfl⟩) (VT_o0 h r q cs u) rfl rfl hl.1 rfl (Nat.le_of_ble_eq_true rfl) dX11_element_3 ⟨Nat.zero_le _, Nat.zero_le _⟩ (fun y3 u3 H locs hw hI => ?_)
  refine lv_if_eq (tgt := 15) S.1 S.2.1 dX11_element_6 (by decide) (fun c6 => ?_) (fun c6 => ?_)
  · have hw := hw.1 c6
    refine lv_aload_n S.1 S.2.1 dX11_element_15 rfl (lv_at hl 0 rfl) ?_
    refine m_get S hin11 hI 0 (VT_o0 h r q cs u3) rfl 14 (Nat.le_of_ble_eq_true rfl) (List.mem_of_getElem? (i := 2) rfl) rfl (FO11_at14 _ _ _) dX11_element_16 ?_
    refine lv_iload_n S.1 S.2.1 dX11_element_19 rfl (lv_at hl 1 rfl) ?_
    have hj20 := mlt hw.1
    refine m_aals S hI 1 5 (VT_sh h r q cs u3) rfl hw.1 dX11_element_20 ?_
    have hw := hw.2
    rw [show h (0 + (18 + a1.toNatClampNeg)) = h (18 + a1.toNatClampNeg) from congrArg h (Nat.zero_add _)]
    refine lv_iload_n S.1 S.2.1 dX11_element_21 rfl (lv_at hl 2 rfl) ?_
    refine m_vl (cf := fun v => VT h r q cs (mu u3 (18 + a1.toNatClampNeg) v)) (As := [.int a2]) (rest := []) S (VT_cS h r q cs u3 hj20) hI (by rw [mu_self]) (c_X6_get l D (h (18 + a1.toNatClampNeg)) (r (18 + a1.toNatClampNeg)) cs a2 (u3 (18 + a1.toNatClampNeg)) _ hw) (cwV 1 S.2.2.2.2 gX11_element_X6_get rfl rfl rfl (by decide +kernel) ⟨Nat.le_of_ble_eq_true rfl, Nat.le_of_ble_eq_true rfl⟩) rfl rfl rfl hl.1 rfl (Nat.le_of_ble_eq_true rfl) dX11_element_22 ⟨Nat.zero_le _, Nat.zero_le _⟩ (fun y22 v22 H locs hw hI => ?_)
    obtain ⟨u22, eu22⟩ : ∃ z : CS, z = mu u3 (18 + a1.toNatClampNeg) v22 := ⟨_, rfl⟩
    have hw := hw u22 eu22
    replace hI : mI D (mT cs) A s.heap s (VT h r q cs u22) H locs := by rw [eu22]; exact hI
    exact b25 y22 u22 hw H locs ls hI (lv_sub hl [0] rfl)
  · have hw := hw.2 c6
    refine lv_ldc2 S.1 S.2.1 S.2.2.2.1 (S.2.2.2.2 _ (List.mem_of_getElem? (i := 1) rfl)) dX11_element_9 ?_
    refine lv_goto (tgt := 25) S.1 S.2.1 dX11_element_12 (by decide) ?_
    exact b25 ((-9223372036854775808) : Int64) u3 hw H locs ls hI (lv_sub hl [0] rfl)

theorem VT_aS (h : Nat → Nat) (r : Nat → Nat → Nat) (q : Nat → Nat → Nat → Nat) (cs : Nat → ClassId) (U : CS) {s : Nat} (hs : s < 6) : (VT h r q cs U)[121 + 2 * s + 1]? = some (r (18 + s) 0, .inl (cs 3, 60, .inr (.inl (gJ (U (18 + s)) 0)))) := by
  match s, hs with
  | 0, _ => rfl
  | 1, _ => rfl
  | 2, _ => rfl
  | 3, _ => rfl
  | 4, _ => rfl
  | 5, _ => rfl
theorem VT_sJS (h : Nat → Nat) (r : Nat → Nat → Nat) (q : Nat → Nat → Nat → Nat) (cs : Nat → ClassId) (U u9 : CS) {s : Nat} (hs : s < 6) (f : Nat → Int64) (e : u9 = mu U (18 + s) (sJ (U (18 + s)) 0 f)) : (VT h r q cs U).set (121 + 2 * s + 1) (r (18 + s) 0, .inl (cs 3, 60, .inr (.inl f))) = VT h r q cs u9 := by
  subst e
  match s, hs with
  | 0, _ => rfl
  | 1, _ => rfl
  | 2, _ => rfl
  | 3, _ => rfl
  | 4, _ => rfl
  | 5, _ => rfl
def wp_X11_shift_p14 (u : CS) (Q : Int32 → CS → Prop) : Prop :=
  Q ((-1) : Int32) u
def wp_X11_shift_p48 (u : CS) (Q : Int32 → CS → Prop) : Prop :=
  Q ((-11) : Int32) u
def wp_X11_shift_p80 (u : CS) (Q : Int32 → CS → Prop) : Prop :=
  Q ((-12) : Int32) u
def wp_X11_shift_p106 (u : CS) (Q : Int32 → CS → Prop) : Prop :=
  Q ((-13) : Int32) u
def wp_X11_shift (a1 : Int32) (a2 : Int32) (a3 : Int32) (a4 : Int32) (a5 : Int32) (u : CS) (Q : Int32 → CS → Prop) : Prop :=
  (wp_X11_isShelf a1 (fun y1 => ((y1 = 0 → wp_X11_shift_p14 u Q) ∧ (¬ y1 = 0 → (wp_X11_isShelf a3 (fun y8 => ((¬ y8 = 0 → (vp_in a1 6 ∧ (vp_in a3 6 ∧ (wp_X6_isEmpty (u (18 + a1.toNatClampNeg)) (fun y34 v34 => ∀ u34 : CS, u34 = mu u (18 + a1.toNatClampNeg) v34 → ((¬ y34 = 0 → wp_X11_shift_p48 u34 Q) ∧ (y34 = 0 → (wp_X6_isEmpty (u34 (18 + a3.toNatClampNeg)) (fun y42 v42 => ∀ u42 : CS, u42 = mu u34 (18 + a3.toNatClampNeg) v42 → ((y42 = 0 → (wp_X6_isRow (u42 (18 + a1.toNatClampNeg)) (fun y53 v53 => ∀ u53 : CS, u53 = mu u42 (18 + a1.toNatClampNeg) v53 → ((y53 = 0 → wp_X11_shift_p80 u53 Q) ∧ (¬ y53 = 0 → (wp_X6_isRow (u53 (18 + a3.toNatClampNeg)) (fun y61 v61 => ∀ u61 : CS, u61 = mu u53 (18 + a3.toNatClampNeg) v61 → ((y61 = 0 → wp_X11_shift_p80 u61 Q) ∧ (¬ y61 = 0 → (((gI (u61 (18 + a1.toNatClampNeg)) 2) = (gI (u61 (18 + a3.toNatClampNeg)) 2) → (wp_X6_hasPlaces a2 a5 (u61 (18 + a1.toNatClampNeg)) (fun y88 v88 => ∀ u88 : CS, u88 = mu u61 (18 + a1.toNatClampNeg) v88 → ((y88 = 0 → wp_X11_shift_p106 u88 Q) ∧ (¬ y88 = 0 → (wp_X6_hasPlaces a4 a5 (u88 (18 + a3.toNatClampNeg)) (fun y100 v100 => ∀ u100 : CS, u100 = mu u88 (18 + a3.toNatClampNeg) v100 → ((¬ y100 = 0 → ((¬ a2 < 0 ∧ ¬ a4 < 0 ∧ ¬ a5 < 0 ∧ a2.toNatClampNeg + a5.toNatClampNeg ≤ 60 ∧ a4.toNatClampNeg + a5.toNatClampNeg ≤ 60) ∧ ∀ u124 : CS, u124 = mu u100 (18 + a3.toNatClampNeg) (sJ (u100 (18 + a3.toNatClampNeg)) 0 (va_cpy (gJ (u100 (18 + a1.toNatClampNeg)) 0) (gJ (u100 (18 + a3.toNatClampNeg)) 0) a2.toNatClampNeg a4.toNatClampNeg a5.toNatClampNeg)) → Q a5 u124)) ∧ (y100 = 0 → wp_X11_shift_p106 u100 Q))))))))) ∧ (¬ (gI (u61 (18 + a1.toNatClampNeg)) 2) = (gI (u61 (18 + a3.toNatClampNeg)) 2) → wp_X11_shift_p80 u61 Q))))))))))) ∧ (¬ y42 = 0 → wp_X11_shift_p48 u42 Q))))))))))) ∧ (y8 = 0 → wp_X11_shift_p14 u Q))))))))
set_option maxHeartbeats 4000000 in
set_option maxRecDepth 100000 in
theorem c_X11_shift (l : Launch) (D : va_G) (h : Nat → Nat) (r : Nat → Nat → Nat) (q : Nat → Nat → Nat → Nat) (cs : Nat → ClassId) (a1 : Int32) (a2 : Int32) (a3 : Int32) (a4 : Int32) (a5 : Int32) (u : CS) (Q : Int32 → CS → Prop) (hw : wp_X11_shift a1 a2 a3 a4 a5 u Q) : mCi l yX11_shift wsX11_shift ({ frames := 2, cells := 0, slots := 0, locals := 80 } : Room) 0 0 D (mT cs) (VT h r q cs) [.ref (h 0), .int a1, .int a2, .int a3, .int a4, .int a5] u Q := by
  unfold mCi
  refine m_enter (QQ := fun A => va_Qi Q (mPos D (mT cs) A (VT h r q cs)) A) (cc := cX11_shift) (maxL := 8) (ret := (some .int)) (by decide) rfl (Nat.le_of_ble_eq_true rfl) ?_
  intro p e s m args below meth c A ls S hr hlocks hname hl hI
  have S : CallFix p m c cX11_shift 8 s args wsX11_shift RX11 := S
  show W p l e ({ frames := 2, cells := 0, slots := 0, locals := 80 } : Room) s m args below meth c s.heap [] 0 0 (MQ below (va_Qi Q (mPos D (mT cs) A (VT h r q cs)) A) args s 0 0 A) (F0 m 0 ls [])
  generalize hZ : MQ below (va_Qi Q (mPos D (mT cs) A (VT h r q cs)) A) args s 0 0 A = Z
  have hin6 : ∀ w ∈ wsX60, w ∈ wsX11_shift := fun _ h => List.mem_cons_of_mem _ (List.mem_append_right _ h)
  have hin11 : ∀ w ∈ wsX110, w ∈ wsX11_shift := fun _ h => List.mem_cons_of_mem _ (List.mem_append_left _ (List.mem_append_right _ h))
  have hl : lv_has ls 8 [(0, .ref (h 0)), (1, .int a1), (2, .int a2), (3, .int a3), (4, .int a4), (5, .int a5)] := hl
  have b14 : ∀ (u : CS), wp_X11_shift_p14 u Q → mGo p l e ({ frames := 2, cells := 0, slots := 0, locals := 80 } : Room) s m args below meth c A Z 8 D (mT cs) (VT h r q cs) 14 [(0, .ref (h 0))] [] u := by
    intro u hw H locs ls hI hl
    unfold wp_X11_shift_p14 at hw
    refine lv_iconst (v := (-1)) S.1 S.2.1 dX11_shift_14 (by decide) ?_
    subst hZ
    exact m_iret S hr hlocks hI hw dX11_shift_15
  have b48 : ∀ (u : CS), wp_X11_shift_p48 u Q → mGo p l e ({ frames := 2, cells := 0, slots := 0, locals := 80 } : Room) s m args below meth c A Z 8 D (mT cs) (VT h r q cs) 48 [(0, .ref (h 0))] [] u := by
    intro u hw H locs ls hI hl
    unfold wp_X11_shift_p48 at hw
    refine lv_bipush (v := (-11)) S.1 S.2.1 dX11_shift_48 (by decide) ?_
    subst hZ
    exact m_iret S hr hlocks hI hw dX11_shift_50
  have b80 : ∀ (u : CS), wp_X11_shift_p80 u Q → mGo p l e ({ frames := 2, cells := 0, slots := 0, locals := 80 } : Room) s m args below meth c A Z 8 D (mT cs) (VT h r q cs) 80 [(0, .ref (h 0))] [] u := by
    intro u hw H locs ls hI hl
    unfold wp_X11_shift_p80 at hw
    refine lv_bipush (v := (-12)) S.1 S.2.1 dX11_shift_80 (by decide) ?_
    subst hZ
    exact m_iret S hr hlocks hI hw dX11_shift_82
  have b106 : ∀ (u : CS), wp_X11_shift_p106 u Q → mGo p l e ({ frames := 2, cells := 0, slots := 0, locals := 80 } : Room) s m args below meth c A Z 8 D (mT cs) (VT h r q cs) 106 [(0, .ref (h 0))] [] u := by
    intro u hw H locs ls hI hl
    unfold wp_X11_shift_p106 at hw
    refine lv_bipush (v := (-13)) S.1 S.2.1 dX11_shift_106 (by decide) ?_
    subst hZ
    exact m_iret S hr hlocks hI hw dX11_shift_108
  unfold wp_X11_shift at hw
  obtain ⟨H, hH⟩ : ∃ z : Heap, z = s.heap := ⟨_, rfl⟩
  obtain ⟨locs, hL⟩ : ∃ z : List Loc, z = [] := ⟨_, rfl⟩
  rw [show W p l e ({ frames := 2, cells := 0, slots := 0, locals := 80 } : Room) s m args below meth c s.heap [] 0 0 Z (F0 m 0 ls []) = W p l e ({ frames := 2, cells := 0, slots := 0, locals := 80 } : Room) s m args below meth c H locs 0 0 Z (F0 m 0 ls []) by rw [hH, hL]]
  replace hI : mI D (mT cs) A s.heap s (VT h r q cs u) H locs := by rw [hH, hL]; exact hI
  refine lv_iload_n S.1 S.2.1 dX11_shift_0 rfl (lv_at hl 1 rfl) ?_
  refine m_si (As := [.int a1]) (rest := []) S hI.2.2.2.1.2.1 (c_X11_isShelf l a1 _ hw) (va_cwS 1 S.2.2.2.2 gX11_shift_X11_isShelf rfl rfl rfl (by decide +kernel) ⟨Nat.le_of_ble_eq_true rfl, Nat.le_of_ble_eq_true rfl⟩) rfl hl.1 rfl (Nat.le_of_ble_eq_true rfl) dX11_shift_1 ⟨Nat.zero_le _, Nat.zero_le _⟩ (fun y1 hw => ?_)
  refine lv_if_eq (tgt := 14) S.1 S.2.1 dX11_shift_4 (by decide) (fun c4 => ?_) (fun c4 => ?_)
  · have hw := hw.1 c4
    exact b14 u hw H locs ls hI (lv_sub hl [0] rfl)
  · have hw := hw.2 c4
    refine lv_iload_n S.1 S.2.1 dX11_shift_7 rfl (lv_at hl 3 rfl) ?_
    refine m_si (As := [.int a3]) (rest := []) S hI.2.2.2.1.2.1 (c_X11_isShelf l a3 _ hw) (va_cwS 1 S.2.2.2.2 gX11_shift_X11_isShelf rfl rfl rfl (by decide +kernel) ⟨Nat.le_of_ble_eq_true rfl, Nat.le_of_ble_eq_true rfl⟩) rfl hl.1 rfl (Nat.le_of_ble_eq_true rfl) dX11_shift_8 ⟨Nat.zero_le _, Nat.zero_le _⟩ (fun y8 hw => ?_)
    refine lv_if_ne (tgt := 16) S.1 S.2.1 dX11_shift_11 (by decide) (fun c11 => ?_) (fun c11 => ?_)
    · have hw := hw.1 c11
      refine lv_aload_n S.1 S.2.1 dX11_shift_16 rfl (lv_at hl 0 rfl) ?_
      refine m_get S hin11 hI 0 (VT_o0 h r q cs u) rfl 14 (Nat.le_of_ble_eq_true rfl) (List.mem_of_getElem? (i := 1) rfl) rfl (FO11_at14 _ _ _) dX11_shift_17 ?_
      refine lv_iload_n S.1 S.2.1 dX11_shift_20 rfl (lv_at hl 1 rfl) ?_
      have hj21 := mlt hw.1
      refine m_aals S hI 1 5 (VT_sh h r q cs u) rfl hw.1 dX11_shift_21 ?_
      have hw := hw.2
      rw [show h (0 + (18 + a1.toNatClampNeg)) = h (18 + a1.toNatClampNeg) from congrArg h (Nat.zero_add _)]
      refine lv_astore (lv' := [(6, .ref (h (18 + a1.toNatClampNeg))), (0, .ref (h 0)), (1, .int a1), (2, .int a2), (3, .int a3), (4, .int a4), (5, .int a5)]) S.1 S.2.1 dX11_shift_22 hl (by decide) rfl (fun ls hl => ?_)
      refine lv_aload_n S.1 S.2.1 dX11_shift_24 rfl (lv_at hl 1 rfl) ?_
      refine m_get S hin11 hI 0 (VT_o0 h r q cs u) rfl 14 (Nat.le_of_ble_eq_true rfl) (List.mem_of_getElem? (i := 1) rfl) rfl (FO11_at14 _ _ _) dX11_shift_25 ?_
      refine lv_iload_n S.1 S.2.1 dX11_shift_28 rfl (lv_at hl 4 rfl) ?_
      have hj29 := mlt hw.1
      refine m_aals S hI 1 5 (VT_sh h r q cs u) rfl hw.1 dX11_shift_29 ?_
      have hw := hw.2
      rw [show h (0 + (18 + a3.toNatClampNeg)) = h (18 + a3.toNatClampNeg) from congrArg h (Nat.zero_add _)]
      refine lv_astore (lv' := [(7, .ref (h (18 + a3.toNatClampNeg))), (6, .ref (h (18 + a1.toNatClampNeg))), (0, .ref (h 0)), (1, .int a1), (2, .int a2), (3, .int a3), (4, .int a4), (5, .int a5)]) S.1 S.2.1 dX11_shift_30 hl (by decide) rfl (fun ls hl => ?_)
      refine lv_aload S.1 S.2.1 dX11_shift_32 (lv_at hl 1 rfl) ?_
      refine m_vi (cf := fun v => VT h r q cs (mu u (18 + a1.toNatClampNeg) v)) (As := []) (rest := []) S (VT_cS h r q cs u hj21) hI (by rw [mu_self]) (c_X6_isEmpty l D (h (18 + a1.toNatClampNeg)) (r (18 + a1.toNatClampNeg)) cs (u (18 + a1.toNatClampNeg)) _ hw) (cwV 0 S.2.2.2.2 gX11_shift_X6_isEmpty rfl rfl rfl (by decide +kernel) ⟨Nat.le_of_ble_eq_true rfl, Nat.le_of_ble_eq_true rfl⟩) rfl rfl rfl hl.1 rfl (Nat.le_of_ble_eq_true rfl) dX11_shift_34 ⟨Nat.zero_le _, Nat.zero_le _⟩ (fun y34 v34 H locs hw hI => ?_)
      obtain ⟨u34, eu34⟩ : ∃ z : CS, z = mu u (18 + a1.toNatClampNeg) v34 := ⟨_, rfl⟩
      have hw := hw u34 eu34
      replace hI : mI D (mT cs) A s.heap s (VT h r q cs u34) H locs := by rw [eu34]; exact hI
      refine lv_if_ne (tgt := 48) S.1 S.2.1 dX11_shift_37 (by decide) (fun c37 => ?_) (fun c37 => ?_)
      · have hw := hw.1 c37
        exact b48 u34 hw H locs ls hI (lv_sub hl [2] rfl)
      · have hw := hw.2 c37
        refine lv_aload S.1 S.2.1 dX11_shift_40 (lv_at hl 0 rfl) ?_
        refine m_vi (cf := fun v => VT h r q cs (mu u34 (18 + a3.toNatClampNeg) v)) (As := []) (rest := []) S (VT_cS h r q cs u34 hj29) hI (by rw [mu_self]) (c_X6_isEmpty l D (h (18 + a3.toNatClampNeg)) (r (18 + a3.toNatClampNeg)) cs (u34 (18 + a3.toNatClampNeg)) _ hw) (cwV 0 S.2.2.2.2 gX11_shift_X6_isEmpty rfl rfl rfl (by decide +kernel) ⟨Nat.le_of_ble_eq_true rfl, Nat.le_of_ble_eq_true rfl⟩) rfl rfl rfl hl.1 rfl (Nat.le_of_ble_eq_true rfl) dX11_shift_42 ⟨Nat.zero_le _, Nat.zero_le _⟩ (fun y42 v42 H locs hw hI => ?_)
        obtain ⟨u42, eu42⟩ : ∃ z : CS, z = mu u34 (18 + a3.toNatClampNeg) v42 := ⟨_, rfl⟩
        have hw := hw u42 eu42
        replace hI : mI D (mT cs) A s.heap s (VT h r q cs u42) H locs := by rw [eu42]; exact hI
        refine lv_if_eq (tgt := 51) S.1 S.2.1 dX11_shift_45 (by decide) (fun c45 => ?_) (fun c45 => ?_)
        · have hw := hw.1 c45
          refine lv_aload S.1 S.2.1 dX11_shift_51 (lv_at hl 1 rfl) ?_
          refine m_vi (cf := fun v => VT h r q cs (mu u42 (18 + a1.toNatClampNeg) v)) (As := []) (rest := []) S (VT_cS h r q cs u42 hj21) hI (by rw [mu_self]) (c_X6_isRow l D (h (18 + a1.toNatClampNeg)) (r (18 + a1.toNatClampNeg)) cs (u42 (18 + a1.toNatClampNeg)) _ hw) (cwV 0 S.2.2.2.2 gX11_shift_X6_isRow rfl rfl rfl (by decide +kernel) ⟨Nat.le_of_ble_eq_true rfl, Nat.le_of_ble_eq_true rfl⟩) rfl rfl rfl hl.1 rfl (Nat.le_of_ble_eq_true rfl) dX11_shift_53 ⟨Nat.zero_le _, Nat.zero_le _⟩ (fun y53 v53 H locs hw hI => ?_)
          obtain ⟨u53, eu53⟩ : ∃ z : CS, z = mu u42 (18 + a1.toNatClampNeg) v53 := ⟨_, rfl⟩
          have hw := hw u53 eu53
          replace hI : mI D (mT cs) A s.heap s (VT h r q cs u53) H locs := by rw [eu53]; exact hI
          refine lv_if_eq (tgt := 80) S.1 S.2.1 dX11_shift_56 (by decide) (fun c56 => ?_) (fun c56 => ?_)
          · have hw := hw.1 c56
            exact b80 u53 hw H locs ls hI (lv_sub hl [2] rfl)
          · have hw := hw.2 c56
            refine lv_aload S.1 S.2.1 dX11_shift_59 (lv_at hl 0 rfl) ?_
            refine m_vi (cf := fun v => VT h r q cs (mu u53 (18 + a3.toNatClampNeg) v)) (As := []) (rest := []) S (VT_cS h r q cs u53 hj29) hI (by rw [mu_self]) (c_X6_isRow l D (h (18 + a3.toNatClampNeg)) (r (18 + a3.toNatClampNeg)) cs (u53 (18 + a3.toNatClampNeg)) _ hw) (cwV 0 S.2.2.2.2 gX11_shift_X6_isRow rfl rfl rfl (by decide +kernel) ⟨Nat.le_of_ble_eq_true rfl, Nat.le_of_ble_eq_true rfl⟩) rfl rfl rfl hl.1 rfl (Nat.le_of_ble_eq_true rfl) dX11_shift_61 ⟨Nat.zero_le _, Nat.zero_le _⟩ (fun y61 v61 H locs hw hI => ?_)
            obtain ⟨u61, eu61⟩ : ∃ z : CS, z = mu u53 (18 + a3.toNatClampNeg) v61 := ⟨_, rfl⟩
            have hw := hw u61 eu61
            replace hI : mI D (mT cs) A s.heap s (VT h r q cs u61) H locs := by rw [eu61]; exact hI
            refine lv_if_eq (tgt := 80) S.1 S.2.1 dX11_shift_64 (by decide) (fun c64 => ?_) (fun c64 => ?_)
            · have hw := hw.1 c64
              exact b80 u61 hw H locs ls hI (lv_sub hl [2] rfl)
            · have hw := hw.2 c64
              refine lv_aload S.1 S.2.1 dX11_shift_67 (lv_at hl 1 rfl) ?_
              refine m_getN S hin6 hI (121 + 2 * a1.toNatClampNeg) (VT_oS h r q cs u61 hj21) rfl 2 (Nat.le_of_ble_eq_true rfl) nf_X11_329 rfl (Ff6_at2 _ _) dX11_shift_69 ?_
              refine lv_aload S.1 S.2.1 dX11_shift_72 (lv_at hl 0 rfl) ?_
              refine m_getN S hin6 hI (121 + 2 * a3.toNatClampNeg) (VT_oS h r q cs u61 hj29) rfl 2 (Nat.le_of_ble_eq_true rfl) nf_X11_329 rfl (Ff6_at2 _ _) dX11_shift_74 ?_
              refine lv_icmp_eq (tgt := 83) S.1 S.2.1 dX11_shift_77 (by decide) (fun c77 => ?_) (fun c77 => ?_)
              · have hw := hw.1 c77
                refine lv_aload S.1 S.2.1 dX11_shift_83 (lv_at hl 1 rfl) ?_
                refine lv_iload_n S.1 S.2.1 dX11_shift_85 rfl (lv_at hl 4 rfl) ?_
                refine lv_iload S.1 S.2.1 dX11_shift_86 (lv_at hl 7 rfl) ?_
                refine m_vi (cf := fun v => VT h r q cs (mu u61 (18 + a1.toNatClampNeg) v)) (As := [.int a2, .int a5]) (rest := []) S (VT_cS h r q cs u61 hj21) hI (by rw [mu_self]) (c_X6_hasPlaces l D (h (18 + a1.toNatClampNeg)) (r (18 + a1.toNatClampNeg)) cs a2 a5 (u61 (18 + a1.toNatClampNeg)) _ hw) (cwV 2 S.2.2.2.2 gX11_shift_X6_hasPlaces rfl rfl rfl (by decide +kernel) ⟨Nat.le_of_ble_eq_true rfl, Nat.le_of_ble_eq_true rfl⟩) rfl rfl rfl hl.1 rfl (Nat.le_of_ble_eq_true rfl) dX11_shift_88 ⟨Nat.zero_le _, Nat.zero_le _⟩ (fun y88 v88 H locs hw hI => ?_)
                obtain ⟨u88, eu88⟩ : ∃ z : CS, z = mu u61 (18 + a1.toNatClampNeg) v88 := ⟨_, rfl⟩
                have hw := hw u88 eu88
                replace hI : mI D (mT cs) A s.heap s (VT h r q cs u88) H locs := by rw [eu88]; exact hI
                refine lv_if_eq (tgt := 106) S.1 S.2.1 dX11_shift_91 (by decide) (fun c91 => ?_) (fun c91 => ?_)
                · have hw := hw.1 c91
                  exact b106 u88 hw H locs ls hI (lv_sub hl [2] rfl)
                · have hw := hw.2 c91
                  refine lv_aload S.1 S.2.1 dX11_shift_94 (lv_at hl 0 rfl) ?_
                  refine lv_iload S.1 S.2.1 dX11_shift_96 (lv_at hl 6 rfl) ?_
                  refine lv_iload S.1 S.2.1 dX11_shift_98 (lv_at hl 7 rfl) ?_
                  refine m_vi (cf := fun v => VT h r q cs (mu u88 (18 + a3.toNatClampNeg) v)) (As := [.int a4, .int a5]) (rest := []) S (VT_cS h r q cs u88 hj29) hI (by rw [mu_self]) (c_X6_hasPlaces l D (h (18 + a3.toNatClampNeg)) (r (18 + a3.toNatClampNeg)) cs a4 a5 (u88 (18 + a3.toNatClampNeg)) _ hw) (cwV 2 S.2.2.2.2 gX11_shift_X6_hasPlaces rfl rfl rfl (by decide +kernel) ⟨Nat.le_of_ble_eq_true rfl, Nat.le_of_ble_eq_true rfl⟩) rfl rfl rfl hl.1 rfl (Nat.le_of_ble_eq_true rfl) dX11_shift_100 ⟨Nat.zero_le _, Nat.zero_le _⟩ (fun y100 v100 H locs hw hI => ?_)
                  obtain ⟨u100, eu100⟩ : ∃ z : CS, z = mu u88 (18 + a3.toNatClampNeg) v100 := ⟨_, rfl⟩
                  have hw := hw u100 eu100
                  replace hI : mI D (mT cs) A s.heap s (VT h r q cs u100) H locs := by rw [eu100]; exact hI
                  refine lv_if_ne (tgt := 109) S.1 S.2.1 dX11_shift_103 (by decide) (fun c103 => ?_) (fun c103 => ?_)
                  · have hw := hw.1 c103
                    refine lv_aload S.1 S.2.1 dX11_shift_109 (lv_at hl 1 rfl) ?_
                    refine m_getN S hin6 hI (121 + 2 * a1.toNatClampNeg) (VT_oS h r q cs u100 hj21) rfl 0 (Nat.le_of_ble_eq_true rfl) nf_X11_335 rfl (Ff6_at0 _ _) dX11_shift_111 ?_
                    refine lv_iload_n S.1 S.2.1 dX11_shift_114 rfl (lv_at hl 4 rfl) ?_
                    refine lv_aload S.1 S.2.1 dX11_shift_115 (lv_at hl 0 rfl) ?_
                    refine m_getN S hin6 hI (121 + 2 * a3.toNatClampNeg) (VT_oS h r q cs u100 hj29) rfl 0 (Nat.le_of_ble_eq_true rfl) nf_X11_335 rfl (Ff6_at0 _ _) dX11_shift_117 ?_
                    refine lv_iload S.1 S.2.1 dX11_shift_120 (lv_at hl 6 rfl) ?_
                    refine lv_iload S.1 S.2.1 dX11_shift_122 (lv_at hl 7 rfl) ?_
                    obtain ⟨u124, eu124⟩ : ∃ z : CS, z = mu u100 (18 + a3.toNatClampNeg) (sJ (u100 (18 + a3.toNatClampNeg)) 0 (va_cpy (gJ (u100 (18 + a1.toNatClampNeg)) 0) (gJ (u100 (18 + a3.toNatClampNeg)) 0) a2.toNatClampNeg a4.toNatClampNeg a5.toNatClampNeg)) := ⟨_, rfl⟩
                    refine m_copyl S hl.1 hI (List.mem_of_getElem? (i := 2) rfl) (List.mem_of_getElem? (i := 3) rfl) (List.mem_of_getElem? (i := 4) rfl) (List.mem_of_getElem? (i := 5) rfl) (121 + 2 * a1.toNatClampNeg + 1) (121 + 2 * a3.toNatClampNeg + 1) 3 3 (VT_aS h r q cs u100 hj21) (VT_aS h r q cs u100 hj29) rfl rfl hw.1 (Nat.le_of_ble_eq_true rfl) (Nat.le_of_ble_eq_true rfl) (VT_sJS h r q cs u100 u124 hj29 _ eu124) dX11_shift_124 (fun H locs hI => ?_)
                    have hw := hw.2 u124 eu124
                    refine lv_iload S.1 S.2.1 dX11_shift_127 (lv_at hl 7 rfl) ?_
                    subst hZ
                    exact m_iret S hr hlocks hI hw dX11_shift_129
                  · have hw := hw.2 c103
                    exact b106 u100 hw H locs ls hI (lv_sub hl [2] rfl)
              · have hw := hw.2 c77
                exact b80 u61 hw H locs ls hI (lv_sub hl [2] rfl)
        · have hw := hw.2 c45
          exact b48 u42 hw H locs ls hI (lv_sub hl [2] rfl)
    · have hw := hw.2 c11
      exact b14 u hw H locs ls hI (lv_sub hl [0] rfl)

def wp_X11_taken_p14 (u : CS) (Q : Int32 → CS → Prop) : Prop :=
  Q ((-1) : Int32) u
def wp_X11_taken_p73 (t0 : Int32) (u : CS) (Q : Int32 → CS → Prop) : Prop :=
  Q t0 u
def wp_X11_taken_p55 (x2 : Int32) (t0 : Int32) (u : CS) (Q : Int32 → CS → Prop) : Prop :=
  (wp_X0_isUnder t0 x2 stz (fun y60 _ => ((y60 = 0 → wp_X11_taken_p73 ((-12) : Int32) u Q) ∧ (¬ y60 = 0 → wp_X11_taken_p73 t0 u Q))))
def wp_X11_taken (a1 : Int32) (a2 : Int32) (u : CS) (Q : Int32 → CS → Prop) : Prop :=
  (wp_X11_isShelf a1 (fun y1 => ((y1 = 0 → wp_X11_taken_p14 u Q) ∧ (¬ y1 = 0 → (wp_X0_isKind a2 (fun y8 => ((¬ y8 = 0 → (vp_in a1 6 ∧ (wp_X6_isEmpty (u (18 + a1.toNatClampNeg)) (fun y24 v24 => ∀ u24 : CS, u24 = mu u (18 + a1.toNatClampNeg) v24 → ((y24 = 0 → (wp_X6_isRow (u24 (18 + a1.toNatClampNeg)) (fun y34 v34 => ∀ u34 : CS, u34 = mu u24 (18 + a1.toNatClampNeg) v34 → ((y34 = 0 → (wp_X0_kindOf (gI (u34 (18 + a1.toNatClampNeg)) 1) (u34 17) (fun y52 v52 => ∀ u52 : CS, u52 = mu u34 17 v52 → wp_X11_taken_p55 a2 y52 u52 Q))) ∧ (¬ y34 = 0 → wp_X11_taken_p55 a2 ((-1) : Int32) u34 Q))))) ∧ (¬ y24 = 0 → Q ((-11) : Int32) u24)))))) ∧ (y8 = 0 → wp_X11_taken_p14 u Q))))))))
set_option maxHeartbeats 4000000 in
set_option maxRecDepth 100000 in
theorem c_X11_taken (l : Launch) (D : va_G) (h : Nat → Nat) (r : Nat → Nat → Nat) (q : Nat → Nat → Nat → Nat) (cs : Nat → ClassId) (a1 : Int32) (a2 : Int32) (u : CS) (Q : Int32 → CS → Prop) (hw : wp_X11_taken a1 a2 u Q) : mCi l yX11_taken wsX11_taken ({ frames := 3, cells := 0, slots := 0, locals := 65 } : Room) 0 0 D (mT cs) (VT h r q cs) [.ref (h 0), .int a1, .int a2] u Q := by
  unfold mCi
  refine m_enter (QQ := fun A => va_Qi Q (mPos D (mT cs) A (VT h r q cs)) A) (cc := cX11_taken) (maxL := 5) (ret := (some .int)) (by decide) rfl (Nat.le_of_ble_eq_true rfl) ?_
  intro p e s m args below meth c A ls S hr hlocks hname hl hI
  have S : CallFix p m c cX11_taken 5 s args wsX11_taken RX11 := S
  show W p l e ({ frames := 3, cells := 0, slots := 0, locals := 65 } : Room) s m args below meth c s.heap [] 0 0 (MQ below (va_Qi Q (mPos D (mT cs) A (VT h r q cs)) A) args s 0 0 A) (F0 m 0 ls [])
  generalize hZ : MQ below (va_Qi Q (mPos D (mT cs) A (VT h r q cs)) A) args s 0 0 A = Z
  have hin0 : ∀ w ∈ wsX00, w ∈ wsX11_taken := fun _ h => List.mem_cons_of_mem _ (List.mem_append_right _ h)
  have hin6 : ∀ w ∈ wsX60, w ∈ wsX11_taken := fun _ h => List.mem_cons_of_mem _ (List.mem_append_left _ (List.mem_append_right _ h))
  have hin11 : ∀ w ∈ wsX110, w ∈ wsX11_taken := fun _ h => List.mem_cons_of_mem _ (List.mem_append_left _ (List.mem_append_left _ (List.mem_append_right _ h)))
  have hl : lv_has ls 5 [(0, .ref (h 0)), (1, .int a1), (2, .int a2)] := hl
  have b14 : ∀ (u : CS), wp_X11_taken_p14 u Q → mGo p l e ({ frames := 3, cells := 0, slots := 0, locals := 65 } : Room) s m args below meth c A Z 5 D (mT cs) (VT h r q cs) 14 [(0, .ref (h 0))] [] u := by
    intro u hw H locs ls hI hl
    unfold wp_X11_taken_p14 at hw
    refine lv_iconst (v := (-1)) S.1 S.2.1 dX11_taken_14 (by decide) ?_
    subst hZ
    exact m_iret S hr hlocks hI hw dX11_taken_15
  have b73 : ∀ (t0 : Int32) (u : CS), wp_X11_taken_p73 t0 u Q → mGo p l e ({ frames := 3, cells := 0, slots := 0, locals := 65 } : Room) s m args below meth c A Z 5 D (mT cs) (VT h r q cs) 73 [(0, .ref (h 0))] [.int t0] u := by
    intro t0 u hw H locs ls hI hl
    unfold wp_X11_taken_p73 at hw
    subst hZ
    exact m_iret S hr hlocks hI hw dX11_taken_73
  have b55 : ∀ (x2 : Int32) (t0 : Int32) (u : CS), wp_X11_taken_p55 x2 t0 u Q → mGo p l e ({ frames := 3, cells := 0, slots := 0, locals := 65 } : Room) s m args below meth c A Z 5 D (mT cs) (VT h r q cs) 55 [(0, .ref (h 0)), (2, .int x2)] [.int t0] u := by
    intro x2 t0 u hw H locs ls hI hl
    unfold wp_X11_taken_p55 at hw
    refine lv_istore (lv' := [(4, .int t0), (0, .ref (h 0)), (2, .int x2)]) S.1 S.2.1 dX11_taken_55 hl (by decide) rfl (fun ls hl => ?_)
    refine lv_iload S.1 S.2.1 dX11_taken_57 (lv_at hl 0 rfl) ?_
    refine lv_iload_n S.1 S.2.1 dX11_taken_59 rfl (lv_at hl 2 rfl) ?_
    refine m_se (As := [.int t0, .int x2]) (rest := []) S hI (c_X0_isUnder l D cs t0 x2 stz _ hw) (va_cwS 2 S.2.2.2.2 gX11_taken_X0_isUnder rfl rfl rfl (by decide +kernel) ⟨Nat.le_of_ble_eq_true rfl, Nat.le_of_ble_eq_true rfl⟩) rfl hl.1 rfl (Nat.le_of_ble_eq_true rfl) dX11_taken_60 ⟨Nat.zero_le _, Nat.zero_le _⟩ (fun y60 _ H locs hw hI => ?_)
    refine lv_if_eq (tgt := 71) S.1 S.2.1 dX11_taken_63 (by decide) (fun c63 => ?_) (fun c63 => ?_)
    · have hw := hw.1 c63
      refine lv_bipush (v := (-12)) S.1 S.2.1 dX11_taken_71 (by decide) ?_
      exact b73 ((-12) : Int32) u hw H locs ls hI (lv_sub hl [1] rfl)
    · have hw := hw.2 c63
      refine lv_iload S.1 S.2.1 dX11_taken_66 (lv_at hl 0 rfl) ?_
      refine lv_goto (tgt := 73) S.1 S.2.1 dX11_taken_68 (by decide) ?_
      exact b73 t0 u hw H locs ls hI (lv_sub hl [1] rfl)
  unfold wp_X11_taken at hw
  obtain ⟨H, hH⟩ : ∃ z : Heap, z = s.heap := ⟨_, rfl⟩
  obtain ⟨locs, hL⟩ : ∃ z : List Loc, z = [] := ⟨_, rfl⟩
  rw [show W p l e ({ frames := 3, cells := 0, slots := 0, locals := 65 } : Room) s m args below meth c s.heap [] 0 0 Z (F0 m 0 ls []) = W p l e ({ frames := 3, cells := 0, slots := 0, locals := 65 } : Room) s m args below meth c H locs 0 0 Z (F0 m 0 ls []) by rw [hH, hL]]
  replace hI : mI D (mT cs) A s.heap s (VT h r q cs u) H locs := by rw [hH, hL]; exact hI
  refine lv_iload_n S.1 S.2.1 dX11_taken_0 rfl (lv_at hl 1 rfl) ?_
  refine m_si (As := [.int a1]) (rest := []) S hI.2.2.2.1.2.1 (c_X11_isShelf l a1 _ hw) (va_cwS 1 S.2.2.2.2 gX11_taken_X11_isShelf rfl rfl rfl (by decide +kernel) ⟨Nat.le_of_ble_eq_true rfl, Nat.le_of_ble_eq_true rfl⟩) rfl hl.1 rfl (Nat.le_of_ble_eq_true rfl) dX11_taken_1 ⟨Nat.zero_le _, Nat.zero_le _⟩ (fun y1 hw => ?_)
  refine lv_if_eq (tgt := 14) S.1 S.2.1 dX11_taken_4 (by decide) (fun c4 => ?_) (fun c4 => ?_)
  · have hw := hw.1 c4
    exact b14 u hw H locs ls hI (lv_sub hl [0] rfl)
  · have hw := hw.2 c4
    refine lv_iload_n S.1 S.2.1 dX11_taken_7 rfl (lv_at hl 2 rfl) ?_
    refine m_si (As := [.int a2]) (rest := []) S hI.2.2.2.1.2.1 (c_X0_isKind l a2 _ hw) (va_cwS 1 S.2.2.2.2 gX11_taken_X0_isKind rfl rfl rfl (by decide +kernel) ⟨Nat.le_of_ble_eq_true rfl, Nat.le_of_ble_eq_true rfl⟩) rfl hl.1 rfl (Nat.le_of_ble_eq_true rfl) dX11_taken_8 ⟨Nat.zero_le _, Nat.zero_le _⟩ (fun y8 hw => ?_)
    refine lv_if_ne (tgt := 16) S.1 S.2.1 dX11_taken_11 (by decide) (fun c11 => ?_) (fun c11 => ?_)
    · have hw := hw.1 c11
      refine lv_aload_n S.1 S.2.1 dX11_taken_16 rfl (lv_at hl 0 rfl) ?_
      refine m_get S hin11 hI 0 (VT_o0 h r q cs u) rfl 14 (Nat.le_of_ble_eq_true rfl) (List.mem_of_getElem? (i := 1) rfl) rfl (FO11_at14 _ _ _) dX11_taken_17 ?_
      refine lv_iload_n S.1 S.2.1 dX11_taken_20 rfl (lv_at hl 1 rfl) ?_
      have hj21 := mlt hw.1
      refine m_aals S hI 1 5 (VT_sh h r q cs u) rfl hw.1 dX11_taken_21 ?_
      have hw := hw.2
      rw [show h (0 + (18 + a1.toNatClampNeg)) = h (18 + a1.toNatClampNeg) from congrArg h (Nat.zero_add _)]
      refine lv_astore_n (lv' := [(3, .ref (h (18 + a1.toNatClampNeg))), (0, .ref (h 0)), (1, .int a1), (2, .int a2)]) S.1 S.2.1 dX11_taken_22 rfl hl (by decide) rfl (fun ls hl => ?_)
      refine lv_aload_n S.1 S.2.1 dX11_taken_23 rfl (lv_at hl 0 rfl) ?_
      refine m_vi (cf := fun v => VT h r q cs (mu u (18 + a1.toNatClampNeg) v)) (As := []) (rest := []) S (VT_cS h r q cs u hj21) hI (by rw [mu_self]) (c_X6_isEmpty l D (h (18 + a1.toNatClampNeg)) (r (18 + a1.toNatClampNeg)) cs (u (18 + a1.toNatClampNeg)) _ hw) (cwV 0 S.2.2.2.2 gX11_taken_X6_isEmpty rfl rfl rfl (by decide +kernel) ⟨Nat.le_of_ble_eq_true rfl, Nat.le_of_ble_eq_true rfl⟩) rfl rfl rfl hl.1 rfl (Nat.le_of_ble_eq_true rfl) dX11_taken_24 ⟨Nat.zero_le _, Nat.zero_le _⟩ (fun y24 v24 H locs hw hI => ?_)
      obtain ⟨u24, eu24⟩ : ∃ z : CS, z = mu u (18 + a1.toNatClampNeg) v24 := ⟨_, rfl⟩
      have hw := hw u24 eu24
      replace hI : mI D (mT cs) A s.heap s (VT h r q cs u24) H locs := by rw [eu24]; exact hI
      refine lv_if_eq (tgt := 33) S.1 S.2.1 dX11_taken_27 (by decide) (fun c27 => ?_) (fun c27 => ?_)
      · have hw := hw.1 c27
        refine lv_aload_n S.1 S.2.1 dX11_taken_33 rfl (lv_at hl 0 rfl) ?_
        refine m_vi (cf := fun v => VT h r q cs (mu u24 (18 + a1.toNatClampNeg) v)) (As := []) (rest := []) S (VT_cS h r q cs u24 hj21) hI (by rw [mu_self]) (c_X6_isRow l D (h (18 + a1.toNatClampNeg)) (r (18 + a1.toNatClampNeg)) cs (u24 (18 + a1.toNatClampNeg)) _ hw) (cwV 0 S.2.2.2.2 gX11_taken_X6_isRow rfl rfl rfl (by decide +kernel) ⟨Nat.le_of_ble_eq_true rfl, Nat.le_of_ble_eq_true rfl⟩) rfl rfl rfl hl.1 rfl (Nat.le_of_ble_eq_true rfl) dX11_taken_34 ⟨Nat.zero_le _, Nat.zero_le _⟩ (fun y34 v34 H locs hw hI => ?_)
        obtain ⟨u34, eu34⟩ : ∃ z : CS, z = mu u24 (18 + a1.toNatClampNeg) v34 := ⟨_, rfl⟩
        have hw := hw u34 eu34
        replace hI : mI D (mT cs) A s.heap s (VT h r q cs u34) H locs := by rw [eu34]; exact hI
        refine lv_if_eq (tgt := 44) S.1 S.2.1 dX11_taken_37 (by decide) (fun c37 => ?_) (fun c37 => ?_)
        · have hw := hw.1 c37
          refine lv_aload_n S.1 S.2.1 dX11_taken_44 rfl (lv_at hl 1 rfl) ?_
          refine m_get S hin11 hI 0 (VT_o0 h r q cs u34) rfl 13 (Nat.le_of_ble_eq_true rfl) (List.mem_of_getElem? (i := 2) rfl) rfl (FO11_at13 _ _ _) dX11_taken_45 ?_
          refine lv_aload_n S.1 S.2.1 dX11_taken_48 rfl (lv_at hl 0 rfl) ?_
          refine m_getN S hin6 hI (121 + 2 * a1.toNatClampNeg) (VT_oS h r q cs u34 hj21) rfl 1 (Nat.le_of_ble_eq_true rfl) nf_X11_345 rfl (Ff6_at1 _ _) dX11_taken_49 ?_
          refine m_vi (cf := fun v => VT h r q cs (mu u34 17 v)) (As := [.int (gI (u34 (18 + a1.toNatClampNeg)) 1)]) (rest := []) S (VT_c17 h r q cs u34) hI (by rw [mu_self]) (c_X0_kindOf l D (h 17) (r 17) cs (gI (u34 (18 + a1.toNatClampNeg)) 1) (u34 17) _ hw) (cwV 1 S.2.2.2.2 gX11_taken_X0_kindOf rfl rfl rfl (by decide +kernel) ⟨Nat.le_of_ble_eq_true rfl, Nat.le_of_ble_eq_true rfl⟩) rfl rfl rfl hl.1 rfl (Nat.le_of_ble_eq_true rfl) dX11_taken_52 ⟨Nat.zero_le _, Nat.zero_le _⟩ (fun y52 v52 H locs hw hI => ?_)
          obtain ⟨u52, eu52⟩ : ∃ z : CS, z = mu u34 17 v52 := ⟨_, rfl⟩
          have hw := hw u52 eu52
          replace hI : mI D (mT cs) A s.heap s (VT h r q cs u52) H locs := by rw [eu52]; exact hI
          exact b55 a2 y52 u52 hw H locs ls hI (lv_sub hl [1, 3] rfl)
        · have hw := hw.2 c37
          refine lv_iconst (v := (-1)) S.1 S.2.1 dX11_taken_40 (by decide) ?_
          refine lv_goto (tgt := 55) S.1 S.2.1 dX11_taken_41 (by decide) ?_
          exact b55 a2 ((-1) : Int32) u34 hw H locs ls hI (lv_sub hl [1, 3] rfl)
      · have hw := hw.2 c27
        refine lv_bipush (v := (-11)) S.1 S.2.1 dX11_taken_30 (by decide) ?_
        subst hZ
        exact m_iret S hr hlocks hI hw dX11_taken_32
    · have hw := hw.2 c11
      exact b14 u hw H locs ls hI (lv_sub hl [0] rfl)

theorem VT_o2 (h : Nat → Nat) (r : Nat → Nat → Nat) (q : Nat → Nat → Nat → Nat) (cs : Nat → ClassId) (U : CS) : (VT h r q cs U)[7]? = some (h 2, .inr (3, Ff3 (rE r (gI (U 24) 0) 2) (U 2))) := rfl
theorem VT_o1 (h : Nat → Nat) (r : Nat → Nat → Nat) (q : Nat → Nat → Nat → Nat) (cs : Nat → ClassId) (U : CS) : (VT h r q cs U)[2]? = some (h 1, .inr (8, Ff8 (r 1) (U 1))) := rfl
theorem VT_o17 (h : Nat → Nat) (r : Nat → Nat → Nat) (q : Nat → Nat → Nat → Nat) (cs : Nat → ClassId) (U : CS) : (VT h r q cs U)[118]? = some (h 17, .inr (0, Ff0 (r 17) (U 17))) := rfl
def wp_X11_count (a1 : Int32) (u : CS) (Q : Int32 → CS → Prop) : Prop :=
  ((a1 = 0 → Q (gI (u 2) 4) u) ∧ (¬ a1 = 0 → ((a1 = 1 → Q (gI (u 1) 4) u) ∧ (¬ a1 = 1 → ((a1 = 2 → Q (gI (u 17) 2) u) ∧ (¬ a1 = 2 → ((a1 = 3 → Q (gI (u 17) 3) u) ∧ (¬ a1 = 3 → Q ((-1) : Int32) u))))))))
set_option maxHeartbeats 4000000 in
set_option maxRecDepth 100000 in
theorem c_X11_count (l : Launch) (D : va_G) (h : Nat → Nat) (r : Nat → Nat → Nat) (q : Nat → Nat → Nat → Nat) (cs : Nat → ClassId) (a1 : Int32) (u : CS) (Q : Int32 → CS → Prop) (hw : wp_X11_count a1 u Q) : mCi l yX11_count wsX11_count ({ frames := 0, cells := 0, slots := 0, locals := 0 } : Room) 0 0 D (mT cs) (VT h r q cs) [.ref (h 0), .int a1] u Q := by
  unfold mCi
  refine m_enter (QQ := fun A => va_Qi Q (mPos D (mT cs) A (VT h r q cs)) A) (cc := cX11_count) (maxL := 2) (ret := (some .int)) (by decide) rfl (Nat.le_of_ble_eq_true rfl) ?_
  intro p e s m args below meth c A ls S hr hlocks hname hl hI
  have S : CallFix p m c cX11_count 2 s args wsX11_count RX11 := S
  show W p l e ({ frames := 0, cells := 0, slots := 0, locals := 0 } : Room) s m args below meth c s.heap [] 0 0 (MQ below (va_Qi Q (mPos D (mT cs) A (VT h r q cs)) A) args s 0 0 A) (F0 m 0 ls [])
  generalize hZ : MQ below (va_Qi Q (mPos D (mT cs) A (VT h r q cs)) A) args s 0 0 A = Z
  have hin0 : ∀ w ∈ wsX00, w ∈ wsX11_count := fun _ h => List.mem_cons_of_mem _ (List.mem_append_right _ h)
  have hin3 : ∀ w ∈ wsX30, w ∈ wsX11_count := fun _ h => List.mem_cons_of_mem _ (List.mem_append_left _ (List.mem_append_left _ (List.mem_append_right _ h)))
  have hin8 : ∀ w ∈ wsX80, w ∈ wsX11_count := fun _ h => List.mem_cons_of_mem _ (List.mem_append_left _ (List.mem_append_right _ h))
  have hin11 : ∀ w ∈ wsX110, w ∈ wsX11_count := fun _ h => List.mem_cons_of_mem _ (List.mem_append_left _ (List.mem_append_left _ (List.mem_append_left _ (List.mem_append_right _ h))))
  have hl : lv_has ls 2 [(0, .ref (h 0)), (1, .int a1)] := hl
  unfold wp_X11_count at hw
  obtain ⟨H, hH⟩ : ∃ z : Heap, z = s.heap := ⟨_, rfl⟩
  obtain ⟨locs, hL⟩ : ∃ z : List Loc, z = [] := ⟨_, rfl⟩
  rw [show W p l e ({ frames := 0, cells := 0, slots := 0, locals := 0 } : Room) s m args below meth c s.heap [] 0 0 Z (F0 m 0 ls []) = W p l e ({ frames := 0, cells := 0, slots := 0, locals := 0 } : Room) s m args below meth c H locs 0 0 Z (F0 m 0 ls []) by rw [hH, hL]]
  replace hI : mI D (mT cs) A s.heap s (VT h r q cs u) H locs := by rw [hH, hL]; exact hI
  refine lv_iload_n S.1 S.2.1 dX11_count_0 rfl (lv_at hl 1 rfl) ?_
  by_cases c1_0 : a1 = 0
  · have hw := hw.1 c1_0
    refine lv_tableIn (tgt := 32) S.1 S.2.1 dX11_count_1 (by rw [c1_0] <;> decide) (by rw [c1_0] <;> decide) (by rw [c1_0] <;> rfl) (by decide) ?_
    refine lv_aload_n S.1 S.2.1 dX11_count_32 rfl (lv_at hl 0 rfl) ?_
    refine m_get S hin11 hI 0 (VT_o0 h r q cs u) rfl 1 (Nat.le_of_ble_eq_true rfl) (List.mem_of_getElem? (i := 1) rfl) rfl (FO11_at1 _ _ _) dX11_count_33 ?_
    refine m_getN S hin3 hI 7 (VT_o2 h r q cs u) rfl 4 (Nat.le_of_ble_eq_true rfl) nf_X11_354 rfl (Ff3_at4 _ _) dX11_count_36 ?_
    subst hZ
    exact m_iret S hr hlocks hI hw dX11_count_39
  · have hw := hw.2 c1_0
    by_cases c1_1 : a1 = 1
    · have hw := hw.1 c1_1
      refine lv_tableIn (tgt := 40) S.1 S.2.1 dX11_count_1 (by rw [c1_1] <;> decide) (by rw [c1_1] <;> decide) (by rw [c1_1] <;> rfl) (by decide) ?_
      refine lv_aload_n S.1 S.2.1 dX11_count_40 rfl (lv_at hl 0 rfl) ?_
      refine m_get S hin11 hI 0 (VT_o0 h r q cs u) rfl 0 (Nat.le_of_ble_eq_true rfl) (List.mem_of_getElem? (i := 2) rfl) rfl (FO11_at0 _ _ _) dX11_count_41 ?_
      refine m_getN S hin8 hI 2 (VT_o1 h r q cs u) rfl 4 (Nat.le_of_ble_eq_true rfl) nf_X11_357 rfl (Ff8_at4 _ _) dX11_count_44 ?_
      subst hZ
      exact m_iret S hr hlocks hI hw dX11_count_47
    · have hw := hw.2 c1_1
      by_cases c1_2 : a1 = 2
      · have hw := hw.1 c1_2
        refine lv_tableIn (tgt := 48) S.1 S.2.1 dX11_count_1 (by rw [c1_2] <;> decide) (by rw [c1_2] <;> decide) (by rw [c1_2] <;> rfl) (by decide) ?_
        refine lv_aload_n S.1 S.2.1 dX11_count_48 rfl (lv_at hl 0 rfl) ?_
        refine m_get S hin11 hI 0 (VT_o0 h r q cs u) rfl 13 (Nat.le_of_ble_eq_true rfl) (List.mem_of_getElem? (i := 3) rfl) rfl (FO11_at13 _ _ _) dX11_count_49 ?_
        refine m_getN S hin0 hI 118 (VT_o17 h r q cs u) rfl 2 (Nat.le_of_ble_eq_true rfl) nf_X11_360 rfl (Ff0_at2 _ _) dX11_count_52 ?_
        subst hZ
        exact m_iret S hr hlocks hI hw dX11_count_55
      · have hw := hw.2 c1_2
        by_cases c1_3 : a1 = 3
        · have hw := hw.1 c1_3
          refine lv_tableIn (tgt := 56) S.1 S.2.1 dX11_count_1 (by rw [c1_3] <;> decide) (by rw [c1_3] <;> decide) (by rw [c1_3] <;> rfl) (by decide) ?_
          refine lv_aload_n S.1 S.2.1 dX11_count_56 rfl (lv_at hl 0 rfl) ?_
          refine m_get S hin11 hI 0 (VT_o0 h r q cs u) rfl 13 (Nat.le_of_ble_eq_true rfl) (List.mem_of_getElem? (i := 3) rfl) rfl (FO11_at13 _ _ _) dX11_count_57 ?_
          refine m_getN S hin0 hI 118 (VT_o17 h r q cs u) rfl 3 (Nat.le_of_ble_eq_true rfl) nf_X11_363 rfl (Ff0_at3 _ _) dX11_count_60 ?_
          subst hZ
          exact m_iret S hr hlocks hI hw dX11_count_63
        · have hw := hw.2 c1_3
          by_cases q1 : a1.toInt < 0 ∨ 3 < a1.toInt
          · refine lv_tableOut (tgt := 64) S.1 S.2.1 dX11_count_1 q1 (by decide) ?_
            refine lv_iconst (v := (-1)) S.1 S.2.1 dX11_count_64 (by decide) ?_
            subst hZ
            exact m_iret S hr hlocks hI hw dX11_count_65
          · have n1_0 := lv_neT c1_0 (a := 0) rfl
            have n1_1 := lv_neT c1_1 (a := 1) rfl
            have n1_2 := lv_neT c1_2 (a := 2) rfl
            have n1_3 := lv_neT c1_3 (a := 3) rfl
            omega

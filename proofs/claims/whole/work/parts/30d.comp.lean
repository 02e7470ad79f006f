/-! laid by program: X11_trodden, X11_price, X11_two, X11_ruled, X11_step, X11_shards, X11_judge, X11_left, X11_wise, X11_drawn, X11_hide, X11_drop, X11_drops -/
theorem VT_c7 (h : Nat → Nat) (r : Nat → Nat → Nat) (q : Nat → Nat → Nat → Nat) (cs : Nat → ClassId) (U : CS) : ∀ v : ST, (VT h r q cs (mu U 7 v)).Perm ([] ++ (W9 (h 7) (r 7) (q 7) cs v ++ [0, 1, 2, 3, 4, 5, 6, 8, 9, 10, 11, 12, 13, 14, 15, 16, 17, 18, 19, 20, 21, 22, 23, 24].flatMap (cTT h r q cs U))) := fun v => (front_perm (cTT h r q cs (mu U 7 v)) (l := [0, 1, 2, 3, 4, 5, 6, 7, 8, 9, 10, 11, 12, 13, 14, 15, 16, 17, 18, 19, 20, 21, 22, 23, 24]) (ks := [7]) (rest := [0, 1, 2, 3, 4, 5, 6, 8, 9, 10, 11, 12, 13, 14, 15, 16, 17, 18, 19, 20, 21, 22, 23, 24]) (by decide)).trans (List.Perm.of_eq (by rw [show [7].flatMap (cTT h r q cs (mu U 7 v)) = W9 (h 7) (r 7) (q 7) cs v from List.append_nil _]; rfl))
theorem VT_k_ts_7_9 (h : Nat → Nat) (r : Nat → Nat → Nat) (q : Nat → Nat → Nat → Nat) (cs : Nat → ClassId) (U : CS) : ∀ v : CS, (VT h r q cs (emb U [7, 9] v)).Perm ([] ++ (Vts (fun i => h ([7, 9].getD i 0)) (fun i => rE r (gI (U 24) 0) ([7, 9].getD i 0)) (fun i => q ([7, 9].getD i 0)) cs v ++ [0, 1, 2, 3, 4, 5, 6, 8, 10, 11, 12, 13, 14, 15, 16, 17, 18, 19, 20, 21, 22, 23, 24].flatMap (cTT h r q cs U))) := fun v => (front_perm (cTT h r q cs (emb U [7, 9] v)) (l := [0, 1, 2, 3, 4, 5, 6, 7, 8, 9, 10, 11, 12, 13, 14, 15, 16, 17, 18, 19, 20, 21, 22, 23, 24]) (ks := [7, 9]) (rest := [0, 1, 2, 3, 4, 5, 6, 8, 10, 11, 12, 13, 14, 15, 16, 17, 18, 19, 20, 21, 22, 23, 24]) (by decide)).trans (List.Perm.of_eq rfl)
def wp_X11_trodden_p43 (u : CS) (Q : Int32 → CS → Prop) : Prop :=
  Q ((-1) : Int32) u
def wp_X11_trodden_p135 (t0 : Int32) (u : CS) (Q : Int32 → CS → Prop) : Prop :=
  Q t0 u
def wp_X11_trodden_p80 (t0 : Int32) (u : CS) (Q : Int32 → CS → Prop) : Prop :=
  Q t0 u
def wp_X11_trodden (a1 : Int32) (a2 : Int32) (a3 : Int32) (u : CS) (Q : Int32 → CS → Prop) : Prop :=
  (¬ (10 : Int32) = 0 ∧ ∀ y3 : Int32, y3 = a2 / (10 : Int32) → ((a2 < 0 → wp_X11_trodden_p43 u Q) ∧ (¬ a2 < 0 → (wp_X8_steps (u 1) (fun y16 v16 => ∀ u16 : CS, u16 = mu u 1 v16 → ((y16 < y3 → wp_X11_trodden_p43 u16 Q) ∧ (¬ y16 < y3 → (¬ (10 : Int32) = 0 ∧ ∀ y27 : Int32, y27 = a2 - a2 / (10 : Int32) * (10 : Int32) → (wp_X11_asksSpan a1 y27 u16 (fun y28 u28 => ((y28 = 0 → wp_X11_trodden_p43 u28 Q) ∧ (¬ y28 = 0 → (wp_X11_within a3 (0 : Int32) (1 : Int32) (fun y37 => ((¬ y37 = 0 → (wp_X8_steps (u28 1) (fun y49 v49 => ∀ u49 : CS, u49 = mu u28 1 v49 → ((y49 ≤ (24 : Int32) → (wp_X7_isSure (u49 9) (fun y64 v64 => ∀ u64 : CS, u64 = mu u49 9 v64 → ((y64 = 0 → (wp_X9_prepare (u64 7) (fun v85 => ∀ u85 : CS, u85 = mu u64 7 v85 → (wp_X9_firstFrom y3 (fun i => u85 ([7, 9].getD i 0)) (fun y98 v98 => ∀ u98 : CS, u98 = emb u85 [7, 9] v98 → ((¬ y98 = 0 → ((¬ a3 = 0 → wp_X11_trodden_p135 y98 u98 Q) ∧ (a3 = 0 → (wp_X9_costFrom y3 y98 (fun i => u98 ([7, 9].getD i 0)) (fun y127 v127 => ∀ u127 : CS, u127 = emb u98 [7, 9] v127 → wp_X11_trodden_p135 y127 u127 Q))))) ∧ (y98 = 0 → Q ((-2) : Int32) u98))))))) ∧ (¬ y64 = 0 → ((¬ a3 = 0 → wp_X11_trodden_p80 ((-2) : Int32) u64 Q) ∧ (a3 = 0 → wp_X11_trodden_p80 (0 : Int32) u64 Q))))))) ∧ (¬ y49 ≤ (24 : Int32) → Q ((-5) : Int32) u49))))) ∧ (y37 = 0 → wp_X11_trodden_p43 u28 Q))))))))))))))))
set_option maxHeartbeats 4000000 in
set_option maxRecDepth 100000 in
theorem c_X11_trodden (l : Launch) (D : va_G) (h : Nat → Nat) (r : Nat → Nat → Nat) (q : Nat → Nat → Nat → Nat) (cs : Nat → ClassId) (a1 : Int32) (a2 : Int32) (a3 : Int32) (u : CS) (Q : Int32 → CS → Prop) (hw : wp_X11_trodden a1 a2 a3 u Q) : mCi l yX11_trodden wsX11_trodden ({ frames := 4, cells := 0, slots := 0, locals := 94 } : Room) 0 0 D (mT cs) (VT h r q cs) [.ref (h 0), .int a1, .int a2, .int a3] u Q := by
  unfold mCi
  refine m_enter (QQ := fun A => va_Qi Q (mPos D (mT cs) A (VT h r q cs)) A) (cc := cX11_trodden) (maxL := 6) (ret := (some .int)) (by decide) rfl (Nat.le_of_ble_eq_true rfl) ?_
  intro p e s m args below meth c A ls S hr hlocks hname hl hI
  have S : CallFix p m c cX11_trodden 6 s args wsX11_trodden RX11 := S
  show W p l e ({ frames := 4, cells := 0, slots := 0, locals := 94 } : Room) s m args below meth c s.heap [] 0 0 (MQ below (va_Qi Q (mPos D (mT cs) A (VT h r q cs)) A) args s 0 0 A) (F0 m 0 ls [])
  generalize hZ : MQ below (va_Qi Q (mPos D (mT cs) A (VT h r q cs)) A) args s 0 0 A = Z
  have hin7 : ∀ w ∈ wsX70, w ∈ wsX11_trodden := fun _ h => List.mem_cons_of_mem _ (List.mem_append_left _ (List.mem_append_right _ h))
  have hin8 : ∀ w ∈ wsX80, w ∈ wsX11_trodden := fun _ h => List.mem_cons_of_mem _ (List.mem_append_left _ (List.mem_append_left _ (List.mem_append_right _ h)))
  have hin9 : ∀ w ∈ wsX90, w ∈ wsX11_trodden := fun _ h => List.mem_cons_of_mem _ (List.mem_append_right _ h)
  have hin11 : ∀ w ∈ wsX110, w ∈ wsX11_trodden := fun _ h => List.mem_cons_of_mem _ (List.mem_append_left _ (List.mem_append_left _ (List.mem_append_left _ (List.mem_append_right _ h))))
  have hl : lv_has ls 6 [(0, .ref (h 0)), (1, .int a1), (2, .int a2), (3, .int a3)] := hl
  have b43 : ∀ (u : CS), wp_X11_trodden_p43 u Q → mGo p l e ({ frames := 4, cells := 0, slots := 0, locals := 94 } : Room) s m args below meth c A Z 6 D (mT cs) (VT h r q cs) 43 [(0, .ref (h 0))] [] u := by
    intro u hw H locs ls hI hl
    unfold wp_X11_trodden_p43 at hw
    refine lv_iconst (v := (-1)) S.1 S.2.1 dX11_trodden_43 (by decide) ?_
    subst hZ
    exact m_iret S hr hlocks hI hw dX11_trodden_44
  have b135 : ∀ (t0 : Int32) (u : CS), wp_X11_trodden_p135 t0 u Q → mGo p l e ({ frames := 4, cells := 0, slots := 0, locals := 94 } : Room) s m args below meth c A Z 6 D (mT cs) (VT h r q cs) 135 [(0, .ref (h 0))] [.int t0] u := by
    intro t0 u hw H locs ls hI hl
    unfold wp_X11_trodden_p135 at hw
    subst hZ
    exact m_iret S hr hlocks hI hw dX11_trodden_135
  have b80 : ∀ (t0 : Int32) (u : CS), wp_X11_trodden_p80 t0 u Q → mGo p l e ({ frames := 4, cells := 0, slots := 0, locals := 94 } : Room) s m args below meth c A Z 6 D (mT cs) (VT h r q cs) 80 [(0, .ref (h 0))] [.int t0] u := by
    intro t0 u hw H locs ls hI hl
    unfold wp_X11_trodden_p80 at hw
    subst hZ
    exact m_iret S hr hlocks hI hw dX11_trodden_80
  unfold wp_X11_trodden at hw
  obtain ⟨H, hH⟩ : ∃ z : Heap, z = s.heap := ⟨_, rfl⟩
  obtain ⟨locs, hL⟩ : ∃ z : List Loc, z = [] := ⟨_, rfl⟩
  rw [show W p l e ({ frames := 4, cells := 0, slots := 0, locals := 94 } : Room) s m args below meth c s.heap [] 0 0 Z (F0 m 0 ls []) = W p l e ({ frames := 4, cells := 0, slots := 0, locals := 94 } : Room) s m args below meth c H locs 0 0 Z (F0 m 0 ls []) by rw [hH, hL]]
  replace hI : mI D (mT cs) A s.heap s (VT h r q cs u) H locs := by rw [hH, hL]; exact hI
  refine lv_iload_n S.1 S.2.1 dX11_trodden_0 rfl (lv_at hl 2 rfl) ?_
  refine lv_bipush (v := 10) S.1 S.2.1 dX11_trodden_1 (by decide) ?_
  refine lv_idiv S.1 S.2.1 dX11_trodden_3 hw.1 ?_
  have hw := hw.2
  refine lv_topi (fun y3 ey3 => ?_)
  have hw := hw y3 ey3
  refine lv_istore (lv' := [(4, .int y3), (0, .ref (h 0)), (1, .int a1), (2, .int a2), (3, .int a3)]) S.1 S.2.1 dX11_trodden_4 hl (by decide) rfl (fun ls hl => ?_)
  refine lv_iload_n S.1 S.2.1 dX11_trodden_6 rfl (lv_at hl 3 rfl) ?_
  refine lv_if_lt (tgt := 43) S.1 S.2.1 dX11_trodden_7 (by decide) (fun c7 => ?_) (fun c7 => ?_)
  · have hw := hw.1 c7
    exact b43 u hw H locs ls hI (lv_sub hl [1] rfl)
  · have hw := hw.2 c7
    refine lv_iload S.1 S.2.1 dX11_trodden_10 (lv_at hl 0 rfl) ?_
    refine lv_aload_n S.1 S.2.1 dX11_trodden_12 rfl (lv_at hl 1 rfl) ?_
    refine m_get S hin11 hI 0 (VT_o0 h r q cs u) rfl 0 (Nat.le_of_ble_eq_true rfl) (List.mem_of_getElem? (i := 1) rfl) rfl (FO11_at0 _ _ _) dX11_trodden_13 ?_
    refine m_vi (cf := fun v => VT h r q cs (mu u 1 v)) (As := []) (rest := [.int y3]) S (VT_c1 h r q cs u) hI (by rw [mu_self]) (c_X8_steps l D (h 1) (r 1) cs (u 1) _ hw) (cwV 0 S.2.2.2.2 gX11_trodden_X8_steps rfl rfl rfl (by decide +kernel) ⟨Nat.le_of_ble_eq_true rfl, Nat.le_of_ble_eq_true rfl⟩) rfl rfl rfl hl.1 rfl (Nat.le_of_ble_eq_true rfl) dX11_trodden_16 ⟨Nat.zero_le _, Nat.zero_le _⟩ (fun y16 v16 H locs hw hI => ?_)
    obtain ⟨u16, eu16⟩ : ∃ z : CS, z = mu u 1 v16 := ⟨_, rfl⟩
    have hw := hw u16 eu16
    replace hI : mI D (mT cs) A s.heap s (VT h r q cs u16) H locs := by rw [eu16]; exact hI
    refine lv_icmp_gt (tgt := 43) S.1 S.2.1 dX11_trodden_19 (by decide) (fun c19 => ?_) (fun c19 => ?_)
    · have hw := hw.1 c19
      exact b43 u16 hw H locs ls hI (lv_sub hl [1] rfl)
    · have hw := hw.2 c19
      refine lv_aload_n S.1 S.2.1 dX11_trodden_22 rfl (lv_at hl 1 rfl) ?_
      refine lv_iload_n S.1 S.2.1 dX11_trodden_23 rfl (lv_at hl 2 rfl) ?_
      refine lv_iload_n S.1 S.2.1 dX11_trodden_24 rfl (lv_at hl 3 rfl) ?_
      refine lv_bipush (v := 10) S.1 S.2.1 dX11_trodden_25 (by decide) ?_
      refine lv_irem S.1 S.2.1 dX11_trodden_27 hw.1 ?_
      have hw := hw.2
      refine lv_topi (fun y27 ey27 => ?_)
      have hw := hw y27 ey27
      refine m_vi (As := [.int a1, .int y27]) (rest := []) S (VT_self h r q cs) hI rfl (c_X11_asksSpan l D h r q cs a1 y27 u16 _ hw) (cwV 2 S.2.2.2.2 gX11_trodden_X11_asksSpan rfl rfl rfl (by decide +kernel) ⟨Nat.le_of_ble_eq_true rfl, Nat.le_of_ble_eq_true rfl⟩) (VT_o0 h r q cs u16) rfl rfl hl.1 rfl (Nat.le_of_ble_eq_true rfl) dX11_trodden_28 ⟨Nat.zero_le _, Nat.zero_le _⟩ (fun y28 u28 H locs hw hI => ?_)
      refine lv_if_eq (tgt := 43) S.1 S.2.1 dX11_trodden_31 (by decide) (fun c31 => ?_) (fun c31 => ?_)
      · have hw := hw.1 c31
        exact b43 u28 hw H locs ls hI (lv_sub hl [1] rfl)
      · have hw := hw.2 c31
        refine lv_iload_n S.1 S.2.1 dX11_trodden_34 rfl (lv_at hl 4 rfl) ?_
        refine lv_iconst (v := 0) S.1 S.2.1 dX11_trodden_35 (by decide) ?_
        refine lv_iconst (v := 1) S.1 S.2.1 dX11_trodden_36 (by decide) ?_
        refine m_si (As := [.int a3, .int (0 : Int32), .int (1 : Int32)]) (rest := []) S hI.2.2.2.1.2.1 (c_X11_within l a3 (0 : Int32) (1 : Int32) _ hw) (va_cwS 3 S.2.2.2.2 gX11_trodden_X11_within rfl rfl rfl (by decide +kernel) ⟨Nat.le_of_ble_eq_true rfl, Nat.le_of_ble_eq_true rfl⟩) rfl hl.1 rfl (Nat.le_of_ble_eq_true rfl) dX11_trodden_37 ⟨Nat.zero_le _, Nat.zero_le _⟩ (fun y37 hw => ?_)
        refine lv_if_ne (tgt := 45) S.1 S.2.1 dX11_trodden_40 (by decide) (fun c40 => ?_) (fun c40 => ?_)
        · have hw := hw.1 c40
          refine lv_aload_n S.1 S.2.1 dX11_trodden_45 rfl (lv_at hl 1 rfl) ?_
          refine m_get S hin11 hI 0 (VT_o0 h r q cs u28) rfl 0 (Nat.le_of_ble_eq_true rfl) (List.mem_of_getElem? (i := 1) rfl) rfl (FO11_at0 _ _ _) dX11_trodden_46 ?_
          refine m_vi (cf := fun v => VT h r q cs (mu u28 1 v)) (As := []) (rest := []) S (VT_c1 h r q cs u28) hI (by rw [mu_self]) (c_X8_steps l D (h 1) (r 1) cs (u28 1) _ hw) (cwV 0 S.2.2.2.2 gX11_trodden_X8_steps rfl rfl rfl (by decide +kernel) ⟨Nat.le_of_ble_eq_true rfl, Nat.le_of_ble_eq_true rfl⟩) rfl rfl rfl hl.1 rfl (Nat.le_of_ble_eq_true rfl) dX11_trodden_49 ⟨Nat.zero_le _, Nat.zero_le _⟩ (fun y49 v49 H locs hw hI => ?_)
          obtain ⟨u49, eu49⟩ : ∃ z : CS, z = mu u28 1 v49 := ⟨_, rfl⟩
          have hw := hw u49 eu49
          replace hI : mI D (mT cs) A s.heap s (VT h r q cs u49) H locs := by rw [eu49]; exact hI
          refine lv_bipush (v := 24) S.1 S.2.1 dX11_trodden_52 (by decide) ?_
          refine lv_icmp_le (tgt := 60) S.1 S.2.1 dX11_trodden_54 (by decide) (fun c54 => ?_) (fun c54 => ?_)
          · have hw := hw.1 c54
            refine lv_aload_n S.1 S.2.1 dX11_trodden_60 rfl (lv_at hl 1 rfl) ?_
            refine m_get S hin11 hI 0 (VT_o0 h r q cs u49) rfl 8 (Nat.le_of_ble_eq_true rfl) (List.mem_of_getElem? (i := 2) rfl) rfl (FO11_at8 _ _ _) dX11_trodden_61 ?_
            refine m_vi (cf := fun v => VT h r q cs (mu u49 9 v)) (As := []) (rest := []) S (VT_c9 h r q cs u49) hI (by rw [mu_self]) (c_X7_isSure l D (h 9) (r 9) cs (u49 9) _ hw) (cwV 0 S.2.2.2.2 gX11_trodden_X7_isSure rfl rfl rfl (by decide +kernel) ⟨Nat.le_of_ble_eq_true rfl, Nat.le_of_ble_eq_true rfl⟩) rfl rfl rfl hl.1 rfl (Nat.le_of_ble_eq_true rfl) dX11_trodden_64 ⟨Nat.zero_le _, Nat.zero_le _⟩ (fun y64 v64 H locs hw hI => ?_)
            obtain ⟨u64, eu64⟩ : ∃ z : CS, z = mu u49 9 v64 := ⟨_, rfl⟩
            have hw := hw u64 eu64
            replace hI : mI D (mT cs) A s.heap s (VT h r q cs u64) H locs := by rw [eu64]; exact hI
            refine lv_if_eq (tgt := 81) S.1 S.2.1 dX11_trodden_67 (by decide) (fun c67 => ?_) (fun c67 => ?_)
            · have hw := hw.1 c67
              refine lv_aload_n S.1 S.2.1 dX11_trodden_81 rfl (lv_at hl 1 rfl) ?_
              refine m_get S hin11 hI 0 (VT_o0 h r q cs u64) rfl 6 (Nat.le_of_ble_eq_true rfl) (List.mem_of_getElem? (i := 3) rfl) rfl (FO11_at6 _ _ _) dX11_trodden_82 ?_
              refine m_vv (cf := fun v => VT h r q cs (mu u64 7 v)) (As := []) (rest := []) S (VT_c7 h r q cs u64) hI (by rw [mu_self]) (c_X9_prepare l D (h 7) (r 7) (q 7) cs (u64 7) _ hw) (cwV 0 S.2.2.2.2 gX11_trodden_X9_prepare rfl rfl rfl (by decide +kernel) ⟨Nat.le_of_ble_eq_true rfl, Nat.le_of_ble_eq_true rfl⟩) rfl rfl rfl hl.1 rfl (Nat.le_of_ble_eq_true rfl) dX11_trodden_85 ⟨Nat.zero_le _, Nat.zero_le _⟩ (fun v85 H locs hw hI => ?_)
              obtain ⟨u85, eu85⟩ : ∃ z : CS, z = mu u64 7 v85 := ⟨_, rfl⟩
              have hw := hw u85 eu85
              replace hI : mI D (mT cs) A s.heap s (VT h r q cs u85) H locs := by rw [eu85]; exact hI
              refine lv_aload_n S.1 S.2.1 dX11_trodden_88 rfl (lv_at hl 1 rfl) ?_
              refine m_get S hin11 hI 0 (VT_o0 h r q cs u85) rfl 6 (Nat.le_of_ble_eq_true rfl) (List.mem_of_getElem? (i := 3) rfl) rfl (FO11_at6 _ _ _) dX11_trodden_89 ?_
              refine lv_aload_n S.1 S.2.1 dX11_trodden_92 rfl (lv_at hl 1 rfl) ?_
              refine m_get S hin11 hI 0 (VT_o0 h r q cs u85) rfl 8 (Nat.le_of_ble_eq_true rfl) (List.mem_of_getElem? (i := 2) rfl) rfl (FO11_at8 _ _ _) dX11_trodden_93 ?_
              refine lv_iload S.1 S.2.1 dX11_trodden_96 (lv_at hl 0 rfl) ?_
              refine m_vi (cf := fun v => VT h r q cs (emb u85 [7, 9] v)) (As := [.ref (h 9), .int y3]) (rest := []) S (VT_k_ts_7_9 h r q cs u85) hI (by rw [emb_self]) (c_X9_firstFrom l D (fun i => h ([7, 9].getD i 0)) (fun i => rE r (gI (u85 24) 0) ([7, 9].getD i 0)) (fun i => q ([7, 9].getD i 0)) cs y3 (fun i => u85 ([7, 9].getD i 0)) _ hw) (cwV 2 S.2.2.2.2 gX11_trodden_X9_firstFrom rfl rfl rfl (by decide +kernel) ⟨Nat.le_of_ble_eq_true rfl, Nat.le_of_ble_eq_true rfl⟩) rfl rfl rfl hl.1 rfl (Nat.le_of_ble_eq_true rfl) dX11_trodden_98 ⟨Nat.zero_le _, Nat.zero_le _⟩ (fun y98 v98 H locs hw hI => ?_)
              obtain ⟨u98, eu98⟩ : ∃ z : CS, z = emb u85 [7, 9] v98 := ⟨_, rfl⟩
              have hw := hw u98 eu98
              replace hI : mI D (mT cs) A s.heap s (VT h r q cs u98) H locs := by rw [eu98]; exact hI
              refine lv_istore (lv' := [(5, .int y98), (4, .int y3), (0, .ref (h 0)), (1, .int a1), (2, .int a2), (3, .int a3)]) S.1 S.2.1 dX11_trodden_101 hl (by decide) rfl (fun ls hl => ?_)
              refine lv_iload S.1 S.2.1 dX11_trodden_103 (lv_at hl 0 rfl) ?_
              refine lv_if_ne (tgt := 111) S.1 S.2.1 dX11_trodden_105 (by decide) (fun c105 => ?_) (fun c105 => ?_)
              · have hw := hw.1 c105
                refine lv_iload_n S.1 S.2.1 dX11_trodden_111 rfl (lv_at hl 5 rfl) ?_
                refine lv_if_ne (tgt := 133) S.1 S.2.1 dX11_trodden_112 (by decide) (fun c112 => ?_) (fun c112 => ?_)
                · have hw := hw.1 c112
                  refine lv_iload S.1 S.2.1 dX11_trodden_133 (lv_at hl 0 rfl) ?_
                  exact b135 y98 u98 hw H locs ls hI (lv_sub hl [2] rfl)
                · have hw := hw.2 c112
                  refine lv_aload_n S.1 S.2.1 dX11_trodden_115 rfl (lv_at hl 2 rfl) ?_
                  refine m_get S hin11 hI 0 (VT_o0 h r q cs u98) rfl 6 (Nat.le_of_ble_eq_true rfl) (List.mem_of_getElem? (i := 3) rfl) rfl (FO11_at6 _ _ _) dX11_trodden_116 ?_
                  refine lv_aload_n S.1 S.2.1 dX11_trodden_119 rfl (lv_at hl 2 rfl) ?_
                  refine m_get S hin11 hI 0 (VT_o0 h r q cs u98) rfl 8 (Nat.le_of_ble_eq_true rfl) (List.mem_of_getElem? (i := 2) rfl) rfl (FO11_at8 _ _ _) dX11_trodden_120 ?_
                  refine lv_iload S.1 S.2.1 dX11_trodden_123 (lv_at hl 1 rfl) ?_
                  refine lv_iload S.1 S.2.1 dX11_trodden_125 (lv_at hl 0 rfl) ?_
                  refine m_vi (cf := fun v => VT h r q cs (emb u98 [7, 9] v)) (As := [.ref (h 9), .int y3, .int y98]) (rest := []) S (VT_k_ts_7_9 h r q cs u98) hI (by rw [emb_self]) (c_X9_costFrom l D (fun i => h ([7, 9].getD i 0)) (fun i => rE r (gI (u98 24) 0) ([7, 9].getD i 0)) (fun i => q ([7, 9].getD i 0)) cs y3 y98 (fun i => u98 ([7, 9].getD i 0)) _ hw) (cwV 3 S.2.2.2.2 gX11_trodden_X9_costFrom rfl rfl rfl (by decide +kernel) ⟨Nat.le_of_ble_eq_true rfl, Nat.le_of_ble_eq_true rfl⟩) rfl rfl rfl hl.1 rfl (Nat.le_of_ble_eq_true rfl) dX11_trodden_127 ⟨Nat.zero_le _, Nat.zero_le _⟩ (fun y127 v127 H locs hw hI => ?_)
                  obtain ⟨u127, eu127⟩ : ∃ z : CS, z = emb u98 [7, 9] v127 := ⟨_, rfl⟩
                  have hw := hw u127 eu127
                  replace hI : mI D (mT cs) A s.heap s (VT h r q cs u127) H locs := by rw [eu127]; exact hI
                  refine lv_goto (tgt := 135) S.1 S.2.1 dX11_trodden_130 (by decide) ?_
                  exact b135 y127 u127 hw H locs ls hI (lv_sub hl [2] rfl)
              · have hw := hw.2 c105
                refine lv_bipush (v := (-2)) S.1 S.2.1 dX11_trodden_108 (by decide) ?_
                subst hZ
                exact m_iret S hr hlocks hI hw dX11_trodden_110
            · have hw := hw.2 c67
              refine lv_iload_n S.1 S.2.1 dX11_trodden_70 rfl (lv_at hl 4 rfl) ?_
              refine lv_if_ne (tgt := 78) S.1 S.2.1 dX11_trodden_71 (by decide) (fun c71 => ?_) (fun c71 => ?_)
              · have hw := hw.1 c71
                refine lv_bipush (v := (-2)) S.1 S.2.1 dX11_trodden_78 (by decide) ?_
                exact b80 ((-2) : Int32) u64 hw H locs ls hI (lv_sub hl [1] rfl)
              · have hw := hw.2 c71
                refine lv_iconst (v := 0) S.1 S.2.1 dX11_trodden_74 (by decide) ?_
                refine lv_goto (tgt := 80) S.1 S.2.1 dX11_trodden_75 (by decide) ?_
                exact b80 (0 : Int32) u64 hw H locs ls hI (lv_sub hl [1] rfl)
          · have hw := hw.2 c54
            refine lv_bipush (v := (-5)) S.1 S.2.1 dX11_trodden_57 (by decide) ?_
            subst hZ
            exact m_iret S hr hlocks hI hw dX11_trodden_59
        · have hw := hw.2 c40
          exact b43 u28 hw H locs ls hI (lv_sub hl [1] rfl)

def wp_X11_price (a1 : Int32) (a2 : Int32) (u : CS) (Q : Int32 → CS → Prop) : Prop :=
  (wp_X8_value (2 : Int32) (u 1) (fun y9 v9 => ∀ u9 : CS, u9 = mu u 1 v9 → (wp_X8_value (3 : Int32) (u9 1) (fun y17 v17 => ∀ u17 : CS, u17 = mu u9 1 v17 → (wp_X2_prepare y9 y17 (u17 4) (fun v20 => ∀ u20 : CS, u20 = mu u17 4 v20 → (wp_X11_laddered_4 a1 a2 u20 (fun y30 u30 => Q y30 u30))))))))
set_option maxHeartbeats 4000000 in
set_option maxRecDepth 100000 in
theorem c_X11_price (l : Launch) (D : va_G) (h : Nat → Nat) (r : Nat → Nat → Nat) (q : Nat → Nat → Nat → Nat) (cs : Nat → ClassId) (a1 : Int32) (a2 : Int32) (u : CS) (Q : Int32 → CS → Prop) (hw : wp_X11_price a1 a2 u Q) : mCi l yX11_price wsX11_price ({ frames := 4, cells := 0, slots := 0, locals := 96 } : Room) 0 0 D (mT cs) (VT h r q cs) [.ref (h 0), .int a1, .int a2] u Q := by
  unfold mCi
  refine m_enter (QQ := fun A => va_Qi Q (mPos D (mT cs) A (VT h r q cs)) A) (cc := cX11_price) (maxL := 3) (ret := (some .int)) (by decide) rfl (Nat.le_of_ble_eq_true rfl) ?_
  intro p e s m args below meth c A ls S hr hlocks hname hl hI
  have S : CallFix p m c cX11_price 3 s args wsX11_price RX11 := S
  show W p l e ({ frames := 4, cells := 0, slots := 0, locals := 96 } : Room) s m args below meth c s.heap [] 0 0 (MQ below (va_Qi Q (mPos D (mT cs) A (VT h r q cs)) A) args s 0 0 A) (F0 m 0 ls [])
  generalize hZ : MQ below (va_Qi Q (mPos D (mT cs) A (VT h r q cs)) A) args s 0 0 A = Z
  have hin2 : ∀ w ∈ wsX20, w ∈ wsX11_price := fun _ h => List.mem_cons_of_mem _ (List.mem_append_right _ h)
  have hin8 : ∀ w ∈ wsX80, w ∈ wsX11_price := fun _ h => List.mem_cons_of_mem _ (List.mem_append_left _ (List.mem_append_right _ h))
  have hin11 : ∀ w ∈ wsX110, w ∈ wsX11_price := fun _ h => List.mem_cons_of_mem _ (List.mem_append_left _ (List.mem_append_left _ (List.mem_append_right _ h)))
  have hl : lv_has ls 3 [(0, .ref (h 0)), (1, .int a1), (2, .int a2)] := hl
  unfold wp_X11_price at hw
  obtain ⟨H, hH⟩ : ∃ z : Heap, z = s.heap := ⟨_, rfl⟩
  obtain ⟨locs, hL⟩ : ∃ z : List Loc, z = [] := ⟨_, rfl⟩
  rw [show W p l e ({ frames := 4, cells := 0, slots := 0, locals := 96 } : Room) s m args below meth c s.heap [] 0 0 Z (F0 m 0 ls []) = W p l e ({ frames := 4, cells := 0, slots := 0, locals := 96 } : Room) s m args below meth c H locs 0 0 Z (F0 m 0 ls []) by rw [hH, hL]]
  replace hI : mI D (mT cs) A s.heap s (VT h r q cs u) H locs := by rw [hH, hL]; exact hI
  refine lv_aload_n S.1 S.2.1 dX11_price_0 rfl (lv_at hl 0 rfl) ?_
  refine m_get S hin11 hI 0 (VT_o0 h r q cs u) rfl 3 (Nat.le_of_ble_eq_true rfl) (List.mem_of_getElem? (i := 1) rfl) rfl (FO11_at3 _ _ _) dX11_price_1 ?_
  refine lv_aload_n S.1 S.2.1 dX11_price_4 rfl (lv_at hl 0 rfl) ?_
  refine m_get S hin11 hI 0 (VT_o0 h r q cs u) rfl 0 (Nat.le_of_ble_eq_true rfl) (List.mem_of_getElem? (i := 2) rfl) rfl (FO11_at0 _ _ _) dX11_price_5 ?_
  refine lv_iconst (v := 2) S.1 S.2.1 dX11_price_8 (by decide) ?_
  refine m_vi (cf := fun v => VT h r q cs (mu u 1 v)) (As := [.int (2 : Int32)]) (rest := [.ref (h 4)]) S (VT_c1 h r q cs u) hI (by rw [mu_self]) (c_X8_value l D (h 1) (r 1) cs (2 : Int32) (u 1) _ hw) (cwV 1 S.2.2.2.2 gX11_price_X8_value rfl rfl rfl (by decide +kernel) ⟨Nat.le_of_ble_eq_true rfl, Nat.le_of_ble_eq_true rfl⟩) rfl rfl rfl hl.1 rfl (Nat.le_of_ble_eq_true rfl) dX11_price_9 ⟨Nat.zero_le _, Nat.zero_le _⟩ (fun y9 v9 H locs hw hI => ?_)
  obtain ⟨u9, eu9⟩ : ∃ z : CS, z = mu u 1 v9 := ⟨_, rfl⟩
  have hw := hw u9 eu9
  replace hI : mI D (mT cs) A s.heap s (VT h r q cs u9) H locs := by rw [eu9]; exact hI
  refine lv_aload_n S.1 S.2.1 dX11_price_12 rfl (lv_at hl 0 rfl) ?_
  refine m_get S hin11 hI 0 (VT_o0 h r q cs u9) rfl 0 (Nat.le_of_ble_eq_true rfl) (List.mem_of_getElem? (i := 2) rfl) rfl (FO11_at0 _ _ _) dX11_price_13 ?_
  refine lv_iconst (v := 3) S.1 S.2.1 dX11_price_16 (by decide) ?_
  refine m_vi (cf := fun v => VT h r q cs (mu u9 1 v)) (As := [.int (3 : Int32)]) (rest := [.int y9, .ref (h 4)]) S (VT_c1 h r q cs u9) hI (by rw [mu_self]) (c_X8_value l D (h 1) (r 1) cs (3 : Int32) (u9 1) _ hw) (cwV 1 S.2.2.2.2 gX11_price_X8_value rfl rfl rfl (by decide +kernel) ⟨Nat.le_of_ble_eq_true rfl, Nat.le_of_ble_eq_true rfl⟩) rfl rfl rfl hl.1 rfl (Nat.le_of_ble_eq_true rfl) dX11_price_17 ⟨Nat.zero_le _, Nat.zero_le _⟩ (fun y17 v17 H locs hw hI => ?_)
  obtain ⟨u17, eu17⟩ : ∃ z : CS, z = mu u9 1 v17 := ⟨_, rfl⟩
  have hw := hw u17 eu17
  replace hI : mI D (mT cs) A s.heap s (VT h r q cs u17) H locs := by rw [eu17]; exact hI
  refine m_vv (cf := fun v => VT h r q cs (mu u17 4 v)) (As := [.int y9, .int y17]) (rest := []) S (VT_c4 h r q cs u17) hI (by rw [mu_self]) (c_X2_prepare l D (h 4) (r 4) (q 4) cs y9 y17 (u17 4) _ hw) (cwV 2 S.2.2.2.2 gX11_price_X2_prepare rfl rfl rfl (by decide +kernel) ⟨Nat.le_of_ble_eq_true rfl, Nat.le_of_ble_eq_true rfl⟩) rfl rfl rfl hl.1 rfl (Nat.le_of_ble_eq_true rfl) dX11_price_20 ⟨Nat.zero_le _, Nat.zero_le _⟩ (fun v20 H locs hw hI => ?_)
  obtain ⟨u20, eu20⟩ : ∃ z : CS, z = mu u17 4 v20 := ⟨_, rfl⟩
  have hw := hw u20 eu20
  replace hI : mI D (mT cs) A s.heap s (VT h r q cs u20) H locs := by rw [eu20]; exact hI
  refine lv_aload_n S.1 S.2.1 dX11_price_23 rfl (lv_at hl 0 rfl) ?_
  refine lv_aload_n S.1 S.2.1 dX11_price_24 rfl (lv_at hl 0 rfl) ?_
  refine m_get S hin11 hI 0 (VT_o0 h r q cs u20) rfl 3 (Nat.le_of_ble_eq_true rfl) (List.mem_of_getElem? (i := 1) rfl) rfl (FO11_at3 _ _ _) dX11_price_25 ?_
  refine lv_iload_n S.1 S.2.1 dX11_price_28 rfl (lv_at hl 1 rfl) ?_
  refine lv_iload_n S.1 S.2.1 dX11_price_29 rfl (lv_at hl 2 rfl) ?_
  refine m_vi (As := [.ref (h 4), .int a1, .int a2]) (rest := []) S (VT_self h r q cs) hI rfl (c_X11_laddered_4 l D h r q cs a1 a2 u20 _ hw) (cwV 3 S.2.2.2.2 gX11_price_X11_laddered rfl rfl rfl (by decide +kernel) ⟨Nat.le_of_ble_eq_true rfl, Nat.le_of_ble_eq_true rfl⟩) (VT_o0 h r q cs u20) rfl rfl hl.1 rfl (Nat.le_of_ble_eq_true rfl) dX11_price_30 ⟨Nat.zero_le _, Nat.zero_le _⟩ (fun y30 u30 H locs hw hI => ?_)
  subst hZ
  exact m_iret S hr hlocks hI hw dX11_price_33

theorem VT_c8 (h : Nat → Nat) (r : Nat → Nat → Nat) (q : Nat → Nat → Nat → Nat) (cs : Nat → ClassId) (U : CS) : ∀ v : ST, (VT h r q cs (mu U 8 v)).Perm ([] ++ (W5 (h 8) (r 8) (q 8) cs v ++ [0, 1, 2, 3, 4, 5, 6, 7, 9, 10, 11, 12, 13, 14, 15, 16, 17, 18, 19, 20, 21, 22, 23, 24].flatMap (cTT h r q cs U))) := fun v => (front_perm (cTT h r q cs (mu U 8 v)) (l := [0, 1, 2, 3, 4, 5, 6, 7, 8, 9, 10, 11, 12, 13, 14, 15, 16, 17, 18, 19, 20, 21, 22, 23, 24]) (ks := [8]) (rest := [0, 1, 2, 3, 4, 5, 6, 7, 9, 10, 11, 12, 13, 14, 15, 16, 17, 18, 19, 20, 21, 22, 23, 24]) (by decide)).trans (List.Perm.of_eq (by rw [show [8].flatMap (cTT h r q cs (mu U 8 v)) = W5 (h 8) (r 8) (q 8) cs v from List.append_nil _]; rfl))
def wp_X11_two_p57 (u : CS) (Q : Int32 → CS → Prop) : Prop :=
  Q ((-1) : Int32) u
def wp_X11_two_p97 (u : CS) (Q : Int32 → CS → Prop) : Prop :=
  Q ((-2) : Int32) u
def wp_X11_two_p129 (t0 : Int32) (u : CS) (Q : Int32 → CS → Prop) : Prop :=
  Q t0 u
def wp_X11_two_p100 (x2 : Int32) (x3 : Int32) (x4 : Int32) (x5 : Int32) (x6 : Int32) (u : CS) (Q : Int32 → CS → Prop) : Prop :=
  ((¬ x3 = 0 → (wp_X5_bestIn x2 x4 x5 (u 8) (fun y116 v116 => ∀ u116 : CS, u116 = mu u 8 v116 → ((¬ y116 = x6 → wp_X11_two_p129 (1 : Int32) u116 Q) ∧ (y116 = x6 → wp_X11_two_p129 (0 : Int32) u116 Q))))) ∧ (x3 = 0 → Q x6 u))
def wp_X11_two (a1 : Int32) (a2 : Int32) (a3 : Int32) (u : CS) (Q : Int32 → CS → Prop) : Prop :=
  (¬ (100 : Int32) = 0 ∧ ∀ y3 : Int32, y3 = a1 / (100 : Int32) → (¬ (100 : Int32) = 0 ∧ ∀ y9 : Int32, y9 = a1 - a1 / (100 : Int32) * (100 : Int32) → ((a1 < 0 → wp_X11_two_p57 u Q) ∧ (¬ a1 < 0 → (wp_X11_within y3 (1 : Int32) (31 : Int32) (fun y21 => ((y21 = 0 → wp_X11_two_p57 u Q) ∧ (¬ y21 = 0 → (wp_X11_within y9 (1 : Int32) (31 : Int32) (fun y32 => ((y32 = 0 → wp_X11_two_p57 u Q) ∧ (¬ y32 = 0 → (wp_X11_within a2 (0 : Int32) (6 : Int32) (fun y42 => ((y42 = 0 → wp_X11_two_p57 u Q) ∧ (¬ y42 = 0 → (wp_X11_within a3 (0 : Int32) (1 : Int32) (fun y51 => ((¬ y51 = 0 → (wp_X5_prepare (u 8) (fun v63 => ∀ u63 : CS, u63 = mu u 8 v63 → (wp_X5_need a2 y3 y9 (u63 8) (fun y75 v75 => ∀ u75 : CS, u75 = mu u63 8 v75 → (((268435456 : Int32) ≤ y75 → wp_X11_two_p97 u75 Q) ∧ (¬ (268435456 : Int32) ≤ y75 → ((¬ a3 = (1 : Int32) → wp_X11_two_p100 a2 a3 y3 y9 y75 u75 Q) ∧ (a3 = (1 : Int32) → ((¬ y75 = 0 → wp_X11_two_p100 a2 a3 y3 y9 y75 u75 Q) ∧ (y75 = 0 → wp_X11_two_p97 u75 Q))))))))))) ∧ (y51 = 0 → wp_X11_two_p57 u Q))))))))))))))))))))
set_option maxHeartbeats 4000000 in
set_option maxRecDepth 100000 in
theorem c_X11_two (l : Launch) (D : va_G) (h : Nat → Nat) (r : Nat → Nat → Nat) (q : Nat → Nat → Nat → Nat) (cs : Nat → ClassId) (a1 : Int32) (a2 : Int32) (a3 : Int32) (u : CS) (Q : Int32 → CS → Prop) (hw : wp_X11_two a1 a2 a3 u Q) : mCi l yX11_two wsX11_two ({ frames := 5, cells := 0, slots := 0, locals := 119 } : Room) 0 0 D (mT cs) (VT h r q cs) [.ref (h 0), .int a1, .int a2, .int a3] u Q := by
  unfold mCi
  refine m_enter (QQ := fun A => va_Qi Q (mPos D (mT cs) A (VT h r q cs)) A) (cc := cX11_two) (maxL := 7) (ret := (some .int)) (by decide) rfl (Nat.le_of_ble_eq_true rfl) ?_
  intro p e s m args below meth c A ls S hr hlocks hname hl hI
  have S : CallFix p m c cX11_two 7 s args wsX11_two RX11 := S
  show W p l e ({ frames := 5, cells := 0, slots := 0, locals := 119 } : Room) s m args below meth c s.heap [] 0 0 (MQ below (va_Qi Q (mPos D (mT cs) A (VT h r q cs)) A) args s 0 0 A) (F0 m 0 ls [])
  generalize hZ : MQ below (va_Qi Q (mPos D (mT cs) A (VT h r q cs)) A) args s 0 0 A = Z
  have hin5 : ∀ w ∈ wsX50, w ∈ wsX11_two := fun _ h => List.mem_cons_of_mem _ (List.mem_append_right _ h)
  have hin11 : ∀ w ∈ wsX110, w ∈ wsX11_two := fun _ h => List.mem_cons_of_mem _ (List.mem_append_left _ (List.mem_append_right _ h))
  have hl : lv_has ls 7 [(0, .ref (h 0)), (1, .int a1), (2, .int a2), (3, .int a3)] := hl
  have b57 : ∀ (u : CS), wp_X11_two_p57 u Q → mGo p l e ({ frames := 5, cells := 0, slots := 0, locals := 119 } : Room) s m args below meth c A Z 7 D (mT cs) (VT h r q cs) 57 [(0, .ref (h 0))] [] u := by
    intro u hw H locs ls hI hl
    unfold wp_X11_two_p57 at hw
    refine lv_iconst (v := (-1)) S.1 S.2.1 dX11_two_57 (by decide) ?_
    subst hZ
    exact m_iret S hr hlocks hI hw dX11_two_58
  have b97 : ∀ (u : CS), wp_X11_two_p97 u Q → mGo p l e ({ frames := 5, cells := 0, slots := 0, locals := 119 } : Room) s m args below meth c A Z 7 D (mT cs) (VT h r q cs) 97 [(0, .ref (h 0))] [] u := by
    intro u hw H locs ls hI hl
    unfold wp_X11_two_p97 at hw
    refine lv_bipush (v := (-2)) S.1 S.2.1 dX11_two_97 (by decide) ?_
    subst hZ
    exact m_iret S hr hlocks hI hw dX11_two_99
  have b129 : ∀ (t0 : Int32) (u : CS), wp_X11_two_p129 t0 u Q → mGo p l e ({ frames := 5, cells := 0, slots := 0, locals := 119 } : Room) s m args below meth c A Z 7 D (mT cs) (VT h r q cs) 129 [(0, .ref (h 0))] [.int t0] u := by
    intro t0 u hw H locs ls hI hl
    unfold wp_X11_two_p129 at hw
    subst hZ
    exact m_iret S hr hlocks hI hw dX11_two_129
  have b100 : ∀ (x2 : Int32) (x3 : Int32) (x4 : Int32) (x5 : Int32) (x6 : Int32) (u : CS), wp_X11_two_p100 x2 x3 x4 x5 x6 u Q → mGo p l e ({ frames := 5, cells := 0, slots := 0, locals := 119 } : Room) s m args below meth c A Z 7 D (mT cs) (VT h r q cs) 100 [(0, .ref (h 0)), (2, .int x2), (3, .int x3), (4, .int x4), (5, .int x5), (6, .int x6)] [] u := by
    intro x2 x3 x4 x5 x6 u hw H locs ls hI hl
    unfold wp_X11_two_p100 at hw
    refine lv_iload_n S.1 S.2.1 dX11_two_100 rfl (lv_at hl 2 rfl) ?_
    refine lv_if_ne (tgt := 107) S.1 S.2.1 dX11_two_101 (by decide) (fun c101 => ?_) (fun c101 => ?_)
    · have hw := hw.1 c101
      refine lv_aload_n S.1 S.2.1 dX11_two_107 rfl (lv_at hl 0 rfl) ?_
      refine m_get S hin11 hI 0 (VT_o0 h r q cs u) rfl 7 (Nat.le_of_ble_eq_true rfl) (List.mem_of_getElem? (i := 1) rfl) rfl (FO11_at7 _ _ _) dX11_two_108 ?_
      refine lv_iload_n S.1 S.2.1 dX11_two_111 rfl (lv_at hl 1 rfl) ?_
      refine lv_iload S.1 S.2.1 dX11_two_112 (lv_at hl 3 rfl) ?_
      refine lv_iload S.1 S.2.1 dX11_two_114 (lv_at hl 4 rfl) ?_
      refine m_vi (cf := fun v => VT h r q cs (mu u 8 v)) (As := [.int x2, .int x4, .int x5]) (rest := []) S (VT_c8 h r q cs u) hI (by rw [mu_self]) (c_X5_bestIn l D (h 8) (r 8) (q 8) cs x2 x4 x5 (u 8) _ hw) (cwV 3 S.2.2.2.2 gX11_two_X5_bestIn rfl rfl rfl (by decide +kernel) ⟨Nat.le_of_ble_eq_true rfl, Nat.le_of_ble_eq_true rfl⟩) rfl rfl rfl hl.1 rfl (Nat.le_of_ble_eq_true rfl) dX11_two_116 ⟨Nat.zero_le _, Nat.zero_le _⟩ (fun y116 v116 H locs hw hI => ?_)
      obtain ⟨u116, eu116⟩ : ∃ z : CS, z = mu u 8 v116 := ⟨_, rfl⟩
      have hw := hw u116 eu116
      replace hI : mI D (mT cs) A s.heap s (VT h r q cs u116) H locs := by rw [eu116]; exact hI
      refine lv_iload S.1 S.2.1 dX11_two_119 (lv_at hl 5 rfl) ?_
      refine lv_icmp_ne (tgt := 128) S.1 S.2.1 dX11_two_121 (by decide) (fun c121 => ?_) (fun c121 => ?_)
      · have hw := hw.1 c121
        refine lv_iconst (v := 1) S.1 S.2.1 dX11_two_128 (by decide) ?_
        exact b129 (1 : Int32) u116 hw H locs ls hI (lv_sub hl [0] rfl)
      · have hw := hw.2 c121
        refine lv_iconst (v := 0) S.1 S.2.1 dX11_two_124 (by decide) ?_
        refine lv_goto (tgt := 129) S.1 S.2.1 dX11_two_125 (by decide) ?_
        exact b129 (0 : Int32) u116 hw H locs ls hI (lv_sub hl [0] rfl)
    · have hw := hw.2 c101
      refine lv_iload S.1 S.2.1 dX11_two_104 (lv_at hl 5 rfl) ?_
      subst hZ
      exact m_iret S hr hlocks hI hw dX11_two_106
  unfold wp_X11_two at hw
  obtain ⟨H, hH⟩ : ∃ z : Heap, z = s.heap := ⟨_, rfl⟩
  obtain ⟨locs, hL⟩ : ∃ z : List Loc, z = [] := ⟨_, rfl⟩
  rw [show W p l e ({ frames := 5, cells := 0, slots := 0, locals := 119 } : Room) s m args below meth c s.heap [] 0 0 Z (F0 m 0 ls []) = W p l e ({ frames := 5, cells := 0, slots := 0, locals := 119 } : Room) s m args below meth c H locs 0 0 Z (F0 m 0 ls []) by rw [hH, hL]]
  replace hI : mI D (mT cs) A s.heap s (VT h r q cs u) H locs := by rw [hH, hL]; exact hI
  refine lv_iload_n S.1 S.2.1 dX11_two_0 rfl (lv_at hl 1 rfl) ?_
  refine lv_bipush (v := 100) S.1 S.2.1 dX11_two_1 (by decide) ?_
  refine lv_idiv S.1 S.2.1 dX11_two_3 hw.1 ?_
  have hw := hw.2
  refine lv_topi (fun y3 ey3 => ?_)
  have hw := hw y3 ey3
  refine lv_istore (lv' := [(4, .int y3), (0, .ref (h 0)), (1, .int a1), (2, .int a2), (3, .int a3)]) S.1 S.2.1 dX11_two_4 hl (by decide) rfl (fun ls hl => ?_)
  refine lv_iload_n S.1 S.2.1 dX11_two_6 rfl (lv_at hl 2 rfl) ?_
  refine lv_bipush (v := 100) S.1 S.2.1 dX11_two_7 (by decide) ?_
  refine lv_irem S.1 S.2.1 dX11_two_9 hw.1 ?_
  have hw := hw.2
  refine lv_topi (fun y9 ey9 => ?_)
  have hw := hw y9 ey9
  refine lv_istore (lv' := [(5, .int y9), (4, .int y3), (0, .ref (h 0)), (1, .int a1), (2, .int a2), (3, .int a3)]) S.1 S.2.1 dX11_two_10 hl (by decide) rfl (fun ls hl => ?_)
  refine lv_iload_n S.1 S.2.1 dX11_two_12 rfl (lv_at hl 3 rfl) ?_
  refine lv_if_lt (tgt := 57) S.1 S.2.1 dX11_two_13 (by decide) (fun c13 => ?_) (fun c13 => ?_)
  · have hw := hw.1 c13
    exact b57 u hw H locs ls hI (lv_sub hl [2] rfl)
  · have hw := hw.2 c13
    refine lv_iload S.1 S.2.1 dX11_two_16 (lv_at hl 1 rfl) ?_
    refine lv_iconst (v := 1) S.1 S.2.1 dX11_two_18 (by decide) ?_
    refine lv_bipush (v := 31) S.1 S.2.1 dX11_two_19 (by decide) ?_
    refine m_si (As := [.int y3, .int (1 : Int32), .int (31 : Int32)]) (rest := []) S hI.2.2.2.1.2.1 (c_X11_within l y3 (1 : Int32) (31 : Int32) _ hw) (va_cwS 3 S.2.2.2.2 gX11_two_X11_within rfl rfl rfl (by decide +kernel) ⟨Nat.le_of_ble_eq_true rfl, Nat.le_of_ble_eq_true rfl⟩) rfl hl.1 rfl (Nat.le_of_ble_eq_true rfl) dX11_two_21 ⟨Nat.zero_le _, Nat.zero_le _⟩ (fun y21 hw => ?_)
    refine lv_if_eq (tgt := 57) S.1 S.2.1 dX11_two_24 (by decide) (fun c24 => ?_) (fun c24 => ?_)
    · have hw := hw.1 c24
      exact b57 u hw H locs ls hI (lv_sub hl [2] rfl)
    · have hw := hw.2 c24
      refine lv_iload S.1 S.2.1 dX11_two_27 (lv_at hl 0 rfl) ?_
      refine lv_iconst (v := 1) S.1 S.2.1 dX11_two_29 (by decide) ?_
      refine lv_bipush (v := 31) S.1 S.2.1 dX11_two_30 (by decide) ?_
      refine m_si (As := [.int y9, .int (1 : Int32), .int (31 : Int32)]) (rest := []) S hI.2.2.2.1.2.1 (c_X11_within l y9 (1 : Int32) (31 : Int32) _ hw) (va_cwS 3 S.2.2.2.2 gX11_two_X11_within rfl rfl rfl (by decide +kernel) ⟨Nat.le_of_ble_eq_true rfl, Nat.le_of_ble_eq_true rfl⟩) rfl hl.1 rfl (Nat.le_of_ble_eq_true rfl) dX11_two_32 ⟨Nat.zero_le _, Nat.zero_le _⟩ (fun y32 hw => ?_)
      refine lv_if_eq (tgt := 57) S.1 S.2.1 dX11_two_35 (by decide) (fun c35 => ?_) (fun c35 => ?_)
      · have hw := hw.1 c35
        exact b57 u hw H locs ls hI (lv_sub hl [2] rfl)
      · have hw := hw.2 c35
        refine lv_iload_n S.1 S.2.1 dX11_two_38 rfl (lv_at hl 4 rfl) ?_
        refine lv_iconst (v := 0) S.1 S.2.1 dX11_two_39 (by decide) ?_
        refine lv_bipush (v := 6) S.1 S.2.1 dX11_two_40 (by decide) ?_
        refine m_si (As := [.int a2, .int (0 : Int32), .int (6 : Int32)]) (rest := []) S hI.2.2.2.1.2.1 (c_X11_within l a2 (0 : Int32) (6 : Int32) _ hw) (va_cwS 3 S.2.2.2.2 gX11_two_X11_within rfl rfl rfl (by decide +kernel) ⟨Nat.le_of_ble_eq_true rfl, Nat.le_of_ble_eq_true rfl⟩) rfl hl.1 rfl (Nat.le_of_ble_eq_true rfl) dX11_two_42 ⟨Nat.zero_le _, Nat.zero_le _⟩ (fun y42 hw => ?_)
        refine lv_if_eq (tgt := 57) S.1 S.2.1 dX11_two_45 (by decide) (fun c45 => ?_) (fun c45 => ?_)
        · have hw := hw.1 c45
          exact b57 u hw H locs ls hI (lv_sub hl [2] rfl)
        · have hw := hw.2 c45
          refine lv_iload_n S.1 S.2.1 dX11_two_48 rfl (lv_at hl 5 rfl) ?_
          refine lv_iconst (v := 0) S.1 S.2.1 dX11_two_49 (by decide) ?_
          refine lv_iconst (v := 1) S.1 S.2.1 dX11_two_50 (by decide) ?_
          refine m_si (As := [.int a3, .int (0 : Int32), .int (1 : Int32)]) (rest := []) S hI.2.2.2.1.2.1 (c_X11_within l a3 (0 : Int32) (1 : Int32) _ hw) (va_cwS 3 S.2.2.2.2 gX11_two_X11_within rfl rfl rfl (by decide +kernel) ⟨Nat.le_of_ble_eq_true rfl, Nat.le_of_ble_eq_true rfl⟩) rfl hl.1 rfl (Nat.le_of_ble_eq_true rfl) dX11_two_51 ⟨Nat.zero_le _, Nat.zero_le _⟩ (fun y51 hw => ?_)
          refine lv_if_ne (tgt := 59) S.1 S.2.1 dX11_two_54 (by decide) (fun c54 => ?_) (fun c54 => ?_)
          · have hw := hw.1 c54
            refine lv_aload_n S.1 S.2.1 dX11_two_59 rfl (lv_at hl 2 rfl) ?_
            refine m_get S hin11 hI 0 (VT_o0 h r q cs u) rfl 7 (Nat.le_of_ble_eq_true rfl) (List.mem_of_getElem? (i := 1) rfl) rfl (FO11_at7 _ _ _) dX11_two_60 ?_
            refine m_vv (cf := fun v => VT h r q cs (mu u 8 v)) (As := []) (rest := []) S (VT_c8 h r q cs u) hI (by rw [mu_self]) (c_X5_prepare l D (h 8) (r 8) (q 8) cs (u 8) _ hw) (cwV 0 S.2.2.2.2 gX11_two_X5_prepare rfl rfl rfl (by decide +kernel) ⟨Nat.le_of_ble_eq_true rfl, Nat.le_of_ble_eq_true rfl⟩) rfl rfl rfl hl.1 rfl (Nat.le_of_ble_eq_true rfl) dX11_two_63 ⟨Nat.zero_le _, Nat.zero_le _⟩ (fun v63 H locs hw hI => ?_)
            obtain ⟨u63, eu63⟩ : ∃ z : CS, z = mu u 8 v63 := ⟨_, rfl⟩
            have hw := hw u63 eu63
            replace hI : mI D (mT cs) A s.heap s (VT h r q cs u63) H locs := by rw [eu63]; exact hI
            refine lv_aload_n S.1 S.2.1 dX11_two_66 rfl (lv_at hl 2 rfl) ?_
            refine m_get S hin11 hI 0 (VT_o0 h r q cs u63) rfl 7 (Nat.le_of_ble_eq_true rfl) (List.mem_of_getElem? (i := 1) rfl) rfl (FO11_at7 _ _ _) dX11_two_67 ?_
            refine lv_iload_n S.1 S.2.1 dX11_two_70 rfl (lv_at hl 4 rfl) ?_
            refine lv_iload S.1 S.2.1 dX11_two_71 (lv_at hl 1 rfl) ?_
            refine lv_iload S.1 S.2.1 dX11_two_73 (lv_at hl 0 rfl) ?_
            refine m_vi (cf := fun v => VT h r q cs (mu u63 8 v)) (As := [.int a2, .int y3, .int y9]) (rest := []) S (VT_c8 h r q cs u63) hI (by rw [mu_self]) (c_X5_need l D (h 8) (r 8) (q 8) cs a2 y3 y9 (u63 8) _ hw) (cwV 3 S.2.2.2.2 gX11_two_X5_need rfl rfl rfl (by decide +kernel) ⟨Nat.le_of_ble_eq_true rfl, Nat.le_of_ble_eq_true rfl⟩) rfl rfl rfl hl.1 rfl (Nat.le_of_ble_eq_true rfl) dX11_two_75 ⟨Nat.zero_le _, Nat.zero_le _⟩ (fun y75 v75 H locs hw hI => ?_)
            obtain ⟨u75, eu75⟩ : ∃ z : CS, z = mu u63 8 v75 := ⟨_, rfl⟩
            have hw := hw u75 eu75
            replace hI : mI D (mT cs) A s.heap s (VT h r q cs u75) H locs := by rw [eu75]; exact hI
            refine lv_istore (lv' := [(6, .int y75), (5, .int y9), (4, .int y3), (0, .ref (h 0)), (1, .int a1), (2, .int a2), (3, .int a3)]) S.1 S.2.1 dX11_two_78 hl (by decide) rfl (fun ls hl => ?_)
            refine lv_iload S.1 S.2.1 dX11_two_80 (lv_at hl 0 rfl) ?_
            refine lv_ldc S.1 S.2.1 S.2.2.2.1 (S.2.2.2.2 _ (List.mem_of_getElem? (i := 2) rfl)) dX11_two_82 ?_
            refine lv_icmp_ge (tgt := 97) S.1 S.2.1 dX11_two_84 (by decide) (fun c84 => ?_) (fun c84 => ?_)
            · have hw := hw.1 c84
              exact b97 u75 hw H locs ls hI (lv_sub hl [3] rfl)
            · have hw := hw.2 c84
              refine lv_iload_n S.1 S.2.1 dX11_two_87 rfl (lv_at hl 6 rfl) ?_
              refine lv_iconst (v := 1) S.1 S.2.1 dX11_two_88 (by decide) ?_
              refine lv_icmp_ne (tgt := 100) S.1 S.2.1 dX11_two_89 (by decide) (fun c89 => ?_) (fun c89 => ?_)
              · have hw := hw.1 c89
                exact b100 a2 a3 y3 y9 y75 u75 hw H locs ls hI (lv_sub hl [3, 5, 6, 2, 1, 0] rfl)
              · have hw := hw.2 c89
                refine lv_iload S.1 S.2.1 dX11_two_92 (lv_at hl 0 rfl) ?_
                refine lv_if_ne (tgt := 100) S.1 S.2.1 dX11_two_94 (by decide) (fun c94 => ?_) (fun c94 => ?_)
                · have hw := hw.1 c94
                  exact b100 a2 a3 y3 y9 y75 u75 hw H locs ls hI (lv_sub hl [3, 5, 6, 2, 1, 0] rfl)
                · have hw := hw.2 c94
                  exact b97 u75 hw H locs ls hI (lv_sub hl [3] rfl)
          · have hw := hw.2 c54
            exact b57 u hw H locs ls hI (lv_sub hl [2] rfl)

def wp_X11_ruled_p33 (u : CS) (Q : Int32 → CS → Prop) : Prop :=
  Q ((-1) : Int32) u
def wp_X11_ruled_p68 (t0 : Int32) (u : CS) (Q : Int32 → CS → Prop) : Prop :=
  Q t0 u
def wp_X11_ruled (a1 : Int32) (a2 : Int32) (a3 : Int32) (u : CS) (Q : Int32 → CS → Prop) : Prop :=
  (wp_X11_within a1 (0 : Int32) (1 : Int32) (fun y3 => ((y3 = 0 → wp_X11_ruled_p33 u Q) ∧ (¬ y3 = 0 → (wp_X8_steps (u 1) (fun y15 v15 => ∀ u15 : CS, u15 = mu u 1 v15 → (wp_X11_within a2 (0 : Int32) y15 (fun y18 => ((y18 = 0 → wp_X11_ruled_p33 u15 Q) ∧ (¬ y18 = 0 → (wp_X11_within a3 (0 : Int32) (1 : Int32) (fun y27 => ((¬ y27 = 0 → (wp_X11_walks a1 a2 u15 (fun y38 u38 => ((¬ y38 = 0 → ((¬ a3 = 0 → wp_X11_ruled_p68 (gI (u38 10) 3) u38 Q) ∧ (a3 = 0 → wp_X11_ruled_p68 (gI (u38 10) 2) u38 Q))) ∧ (y38 = 0 → Q ((-2) : Int32) u38))))) ∧ (y27 = 0 → wp_X11_ruled_p33 u15 Q))))))))))))))
set_option maxHeartbeats 4000000 in
set_option maxRecDepth 100000 in
theorem c_X11_ruled (l : Launch) (D : va_G) (h : Nat → Nat) (r : Nat → Nat → Nat) (q : Nat → Nat → Nat → Nat) (cs : Nat → ClassId) (a1 : Int32) (a2 : Int32) (a3 : Int32) (u : CS) (Q : Int32 → CS → Prop) (hw : wp_X11_ruled a1 a2 a3 u Q) : mCi l yX11_ruled wsX11_ruled ({ frames := 7, cells := 0, slots := 0, locals := 164 } : Room) 0 0 D (mT cs) (VT h r q cs) [.ref (h 0), .int a1, .int a2, .int a3] u Q := by
  unfold mCi
  refine m_enter (QQ := fun A => va_Qi Q (mPos D (mT cs) A (VT h r q cs)) A) (cc := cX11_ruled) (maxL := 4) (ret := (some .int)) (by decide) rfl (Nat.le_of_ble_eq_true rfl) ?_
  intro p e s m args below meth c A ls S hr hlocks hname hl hI
  have S : CallFix p m c cX11_ruled 4 s args wsX11_ruled RX11 := S
  show W p l e ({ frames := 7, cells := 0, slots := 0, locals := 164 } : Room) s m args below meth c s.heap [] 0 0 (MQ below (va_Qi Q (mPos D (mT cs) A (VT h r q cs)) A) args s 0 0 A) (F0 m 0 ls [])
  generalize hZ : MQ below (va_Qi Q (mPos D (mT cs) A (VT h r q cs)) A) args s 0 0 A = Z
  have hin2 : ∀ w ∈ wsX20, w ∈ wsX11_ruled := fun _ h => List.mem_cons_of_mem _ (List.mem_append_left _ (List.mem_append_left _ (List.mem_append_right _ h)))
  have hin3 : ∀ w ∈ wsX30, w ∈ wsX11_ruled := fun _ h => List.mem_cons_of_mem _ (List.mem_append_left _ (List.mem_append_right _ h))
  have hin4 : ∀ w ∈ wsX40, w ∈ wsX11_ruled := fun _ h => List.mem_cons_of_mem _ (List.mem_append_right _ h)
  have hin7 : ∀ w ∈ wsX70, w ∈ wsX11_ruled := fun _ h => List.mem_cons_of_mem _ (List.mem_append_left _ (List.mem_append_left _ (List.mem_append_left _ (List.mem_append_right _ h))))
  have hin8 : ∀ w ∈ wsX80, w ∈ wsX11_ruled := fun _ h => List.mem_cons_of_mem _ (List.mem_append_left _ (List.mem_append_left _ (List.mem_append_left _ (List.mem_append_left _ (List.mem_append_right _ h)))))
  have hin10 : ∀ w ∈ wsX100, w ∈ wsX11_ruled := fun _ h => List.mem_cons_of_mem _ (List.mem_append_left _ (List.mem_append_left _ (List.mem_append_left _ (List.mem_append_left _ (List.mem_append_left _ (List.mem_append_right _ h))))))
  have hin11 : ∀ w ∈ wsX110, w ∈ wsX11_ruled := fun _ h => List.mem_cons_of_mem _ (List.mem_append_left _ (List.mem_append_left _ (List.mem_append_left _ (List.mem_append_left _ (List.mem_append_left _ (List.mem_append_left _ (List.mem_append_right _ h)))))))
  have hl : lv_has ls 4 [(0, .ref (h 0)), (1, .int a1), (2, .int a2), (3, .int a3)] := hl
  have b33 : ∀ (u : CS), wp_X11_ruled_p33 u Q → mGo p l e ({ frames := 7, cells := 0, slots := 0, locals := 164 } : Room) s m args below meth c A Z 4 D (mT cs) (VT h r q cs) 33 [(0, .ref (h 0))] [] u := by
    intro u hw H locs ls hI hl
    unfold wp_X11_ruled_p33 at hw
    refine lv_iconst (v := (-1)) S.1 S.2.1 dX11_ruled_33 (by decide) ?_
    subst hZ
    exact m_iret S hr hlocks hI hw dX11_ruled_34
  have b68 : ∀ (t0 : Int32) (u : CS), wp_X11_ruled_p68 t0 u Q → mGo p l e ({ frames := 7, cells := 0, slots := 0, locals := 164 } : Room) s m args below meth c A Z 4 D (mT cs) (VT h r q cs) 68 [(0, .ref (h 0))] [.int t0] u := by
    intro t0 u hw H locs ls hI hl
    unfold wp_X11_ruled_p68 at hw
    subst hZ
    exact m_iret S hr hlocks hI hw dX11_ruled_68
  unfold wp_X11_ruled at hw
  obtain ⟨H, hH⟩ : ∃ z : Heap, z = s.heap := ⟨_, rfl⟩
  obtain ⟨locs, hL⟩ : ∃ z : List Loc, z = [] := ⟨_, rfl⟩
  rw [show W p l e ({ frames := 7, cells := 0, slots := 0, locals := 164 } : Room) s m args below meth c s.heap [] 0 0 Z (F0 m 0 ls []) = W p l e ({ frames := 7, cells := 0, slots := 0, locals := 164 } : Room) s m args below meth c H locs 0 0 Z (F0 m 0 ls []) by rw [hH, hL]]
  replace hI : mI D (mT cs) A s.heap s (VT h r q cs u) H locs := by rw [hH, hL]; exact hI
  refine lv_iload_n S.1 S.2.1 dX11_ruled_0 rfl (lv_at hl 1 rfl) ?_
  refine lv_iconst (v := 0) S.1 S.2.1 dX11_ruled_1 (by decide) ?_
  refine lv_iconst (v := 1) S.1 S.2.1 dX11_ruled_2 (by decide) ?_
  refine m_si (As := [.int a1, .int (0 : Int32), .int (1 : Int32)]) (rest := []) S hI.2.2.2.1.2.1 (c_X11_within l a1 (0 : Int32) (1 : Int32) _ hw) (va_cwS 3 S.2.2.2.2 gX11_ruled_X11_within rfl rfl rfl (by decide +kernel) ⟨Nat.le_of_ble_eq_true rfl, Nat.le_of_ble_eq_true rfl⟩) rfl hl.1 rfl (Nat.le_of_ble_eq_true rfl) dX11_ruled_3 ⟨Nat.zero_le _, Nat.zero_le _⟩ (fun y3 hw => ?_)
  refine lv_if_eq (tgt := 33) S.1 S.2.1 dX11_ruled_6 (by decide) (fun c6 => ?_) (fun c6 => ?_)
  · have hw := hw.1 c6
    exact b33 u hw H locs ls hI (lv_sub hl [0] rfl)
  · have hw := hw.2 c6
    refine lv_iload_n S.1 S.2.1 dX11_ruled_9 rfl (lv_at hl 2 rfl) ?_
    refine lv_iconst (v := 0) S.1 S.2.1 dX11_ruled_10 (by decide) ?_
    refine lv_aload_n S.1 S.2.1 dX11_ruled_11 rfl (lv_at hl 0 rfl) ?_
    refine m_get S hin11 hI 0 (VT_o0 h r q cs u) rfl 0 (Nat.le_of_ble_eq_true rfl) (List.mem_of_getElem? (i := 1) rfl) rfl (FO11_at0 _ _ _) dX11_ruled_12 ?_
    refine m_vi (cf := fun v => VT h r q cs (mu u 1 v)) (As := []) (rest := [.int (0 : Int32), .int a2]) S (VT_c1 h r q cs u) hI (by rw [mu_self]) (c_X8_steps l D (h 1) (r 1) cs (u 1) _ hw) (cwV 0 S.2.2.2.2 gX11_ruled_X8_steps rfl rfl rfl (by decide +kernel) ⟨Nat.le_of_ble_eq_true rfl, Nat.le_of_ble_eq_true rfl⟩) rfl rfl rfl hl.1 rfl (Nat.le_of_ble_eq_true rfl) dX11_ruled_15 ⟨Nat.zero_le _, Nat.zero_le _⟩ (fun y15 v15 H locs hw hI => ?_)
    obtain ⟨u15, eu15⟩ : ∃ z : CS, z = mu u 1 v15 := ⟨_, rfl⟩
    have hw := hw u15 eu15
    replace hI : mI D (mT cs) A s.heap s (VT h r q cs u15) H locs := by rw [eu15]; exact hI
    refine m_si (As := [.int a2, .int (0 : Int32), .int y15]) (rest := []) S hI.2.2.2.1.2.1 (c_X11_within l a2 (0 : Int32) y15 _ hw) (va_cwS 3 S.2.2.2.2 gX11_ruled_X11_within rfl rfl rfl (by decide +kernel) ⟨Nat.le_of_ble_eq_true rfl, Nat.le_of_ble_eq_true rfl⟩) rfl hl.1 rfl (Nat.le_of_ble_eq_true rfl) dX11_ruled_18 ⟨Nat.zero_le _, Nat.zero_le _⟩ (fun y18 hw => ?_)
    refine lv_if_eq (tgt := 33) S.1 S.2.1 dX11_ruled_21 (by decide) (fun c21 => ?_) (fun c21 => ?_)
    · have hw := hw.1 c21
      exact b33 u15 hw H locs ls hI (lv_sub hl [0] rfl)
    · have hw := hw.2 c21
      refine lv_iload_n S.1 S.2.1 dX11_ruled_24 rfl (lv_at hl 3 rfl) ?_
      refine lv_iconst (v := 0) S.1 S.2.1 dX11_ruled_25 (by decide) ?_
      refine lv_iconst (v := 1) S.1 S.2.1 dX11_ruled_26 (by decide) ?_
      refine m_si (As := [.int a3, .int (0 : Int32), .int (1 : Int32)]) (rest := []) S hI.2.2.2.1.2.1 (c_X11_within l a3 (0 : Int32) (1 : Int32) _ hw) (va_cwS 3 S.2.2.2.2 gX11_ruled_X11_within rfl rfl rfl (by decide +kernel) ⟨Nat.le_of_ble_eq_true rfl, Nat.le_of_ble_eq_true rfl⟩) rfl hl.1 rfl (Nat.le_of_ble_eq_true rfl) dX11_ruled_27 ⟨Nat.zero_le _, Nat.zero_le _⟩ (fun y27 hw => ?_)
      refine lv_if_ne (tgt := 35) S.1 S.2.1 dX11_ruled_30 (by decide) (fun c30 => ?_) (fun c30 => ?_)
      · have hw := hw.1 c30
        refine lv_aload_n S.1 S.2.1 dX11_ruled_35 rfl (lv_at hl 0 rfl) ?_
        refine lv_iload_n S.1 S.2.1 dX11_ruled_36 rfl (lv_at hl 1 rfl) ?_
        refine lv_iload_n S.1 S.2.1 dX11_ruled_37 rfl (lv_at hl 2 rfl) ?_
        refine m_vi (As := [.int a1, .int a2]) (rest := []) S (VT_self h r q cs) hI rfl (c_X11_walks l D h r q cs a1 a2 u15 _ hw) (cwV 2 S.2.2.2.2 gX11_ruled_X11_walks rfl rfl rfl (by decide +kernel) ⟨Nat.le_of_ble_eq_true rfl, Nat.le_of_ble_eq_true rfl⟩) (VT_o0 h r q cs u15) rfl rfl hl.1 rfl (Nat.le_of_ble_eq_true rfl) dX11_ruled_38 ⟨Nat.zero_le _, Nat.zero_le _⟩ (fun y38 u38 H locs hw hI => ?_)
        refine lv_if_ne (tgt := 47) S.1 S.2.1 dX11_ruled_41 (by decide) (fun c41 => ?_) (fun c41 => ?_)
        · have hw := hw.1 c41
          refine lv_iload_n S.1 S.2.1 dX11_ruled_47 rfl (lv_at hl 3 rfl) ?_
          refine lv_if_ne (tgt := 61) S.1 S.2.1 dX11_ruled_48 (by decide) (fun c48 => ?_) (fun c48 => ?_)
          · have hw := hw.1 c48
            refine lv_aload_n S.1 S.2.1 dX11_ruled_61 rfl (lv_at hl 0 rfl) ?_
            refine m_get S hin11 hI 0 (VT_o0 h r q cs u38) rfl 9 (Nat.le_of_ble_eq_true rfl) (List.mem_of_getElem? (i := 2) rfl) rfl (FO11_at9 _ _ _) dX11_ruled_62 ?_
            refine m_getN S hin10 hI 110 (VT_o10 h r q cs u38) rfl 3 (Nat.le_of_ble_eq_true rfl) nf_X11_202 rfl (FO10_at3 _ _ _) dX11_ruled_65 ?_
            exact b68 (gI (u38 10) 3) u38 hw H locs ls hI (lv_sub hl [0] rfl)
          · have hw := hw.2 c48
            refine lv_aload_n S.1 S.2.1 dX11_ruled_51 rfl (lv_at hl 0 rfl) ?_
            refine m_get S hin11 hI 0 (VT_o0 h r q cs u38) rfl 9 (Nat.le_of_ble_eq_true rfl) (List.mem_of_getElem? (i := 2) rfl) rfl (FO11_at9 _ _ _) dX11_ruled_52 ?_
            refine m_getN S hin10 hI 110 (VT_o10 h r q cs u38) rfl 2 (Nat.le_of_ble_eq_true rfl) nf_X11_199 rfl (FO10_at2 _ _ _) dX11_ruled_55 ?_
            refine lv_goto (tgt := 68) S.1 S.2.1 dX11_ruled_58 (by decide) ?_
            exact b68 (gI (u38 10) 2) u38 hw H locs ls hI (lv_sub hl [0] rfl)
        · have hw := hw.2 c41
          refine lv_bipush (v := (-2)) S.1 S.2.1 dX11_ruled_44 (by decide) ?_
          subst hZ
          exact m_iret S hr hlocks hI hw dX11_ruled_46
      · have hw := hw.2 c30
        exact b33 u15 hw H locs ls hI (lv_sub hl [0] rfl)

def wp_X11_step_p28 (u : CS) (Q : Int32 → CS → Prop) : Prop :=
  Q ((-1) : Int32) u
def wp_X11_step_p52 (t0 : Int32) (u : CS) (Q : Int32 → CS → Prop) : Prop :=
  Q t0 u
def wp_X11_step (a1 : Int32) (a2 : Int32) (a3 : Int32) (u : CS) (Q : Int32 → CS → Prop) : Prop :=
  (wp_X11_within a1 (0 : Int32) (1 : Int32) (fun y3 => ((y3 = 0 → wp_X11_step_p28 u Q) ∧ (¬ y3 = 0 → (wp_X8_steps (u 1) (fun y15 v15 => ∀ u15 : CS, u15 = mu u 1 v15 → (wp_X11_within a2 (0 : Int32) y15 (fun y18 => ((y18 = 0 → wp_X11_step_p28 u15 Q) ∧ (¬ y18 = 0 → ((0 ≤ a3 → (wp_X11_walks a1 a2 u15 (fun y33 u33 => ((y33 = 0 → wp_X11_step_p52 ((-2) : Int32) u33 Q) ∧ (¬ y33 = 0 → (wp_X10_stepAt a3 (fun i => u33 ([10, 11].getD i 0)) (fun y44 v44 => ∀ u44 : CS, u44 = emb u33 [10, 11] v44 → wp_X11_step_p52 y44 u44 Q))))))) ∧ (¬ 0 ≤ a3 → wp_X11_step_p28 u15 Q))))))))))))
set_option maxHeartbeats 4000000 in
set_option maxRecDepth 100000 in
theorem c_X11_step (l : Launch) (D : va_G) (h : Nat → Nat) (r : Nat → Nat → Nat) (q : Nat → Nat → Nat → Nat) (cs : Nat → ClassId) (a1 : Int32) (a2 : Int32) (a3 : Int32) (u : CS) (Q : Int32 → CS → Prop) (hw : wp_X11_step a1 a2 a3 u Q) : mCi l yX11_step wsX11_step ({ frames := 7, cells := 0, slots := 0, locals := 164 } : Room) 0 0 D (mT cs) (VT h r q cs) [.ref (h 0), .int a1, .int a2, .int a3] u Q := by
  unfold mCi
  refine m_enter (QQ := fun A => va_Qi Q (mPos D (mT cs) A (VT h r q cs)) A) (cc := cX11_step) (maxL := 4) (ret := (some .int)) (by decide) rfl (Nat.le_of_ble_eq_true rfl) ?_
  intro p e s m args below meth c A ls S hr hlocks hname hl hI
  have S : CallFix p m c cX11_step 4 s args wsX11_step RX11 := S
  show W p l e ({ frames := 7, cells := 0, slots := 0, locals := 164 } : Room) s m args below meth c s.heap [] 0 0 (MQ below (va_Qi Q (mPos D (mT cs) A (VT h r q cs)) A) args s 0 0 A) (F0 m 0 ls [])
  generalize hZ : MQ below (va_Qi Q (mPos D (mT cs) A (VT h r q cs)) A) args s 0 0 A = Z
  have hin2 : ∀ w ∈ wsX20, w ∈ wsX11_step := fun _ h => List.mem_cons_of_mem _ (List.mem_append_left _ (List.mem_append_left _ (List.mem_append_right _ h)))
  have hin3 : ∀ w ∈ wsX30, w ∈ wsX11_step := fun _ h => List.mem_cons_of_mem _ (List.mem_append_left _ (List.mem_append_right _ h))
  have hin4 : ∀ w ∈ wsX40, w ∈ wsX11_step := fun _ h => List.mem_cons_of_mem _ (List.mem_append_right _ h)
  have hin7 : ∀ w ∈ wsX70, w ∈ wsX11_step := fun _ h => List.mem_cons_of_mem _ (List.mem_append_left _ (List.mem_append_left _ (List.mem_append_left _ (List.mem_append_right _ h))))
  have hin8 : ∀ w ∈ wsX80, w ∈ wsX11_step := fun _ h => List.mem_cons_of_mem _ (List.mem_append_left _ (List.mem_append_left _ (List.mem_append_left _ (List.mem_append_left _ (List.mem_append_left _ (List.mem_append_right _ h))))))
  have hin10 : ∀ w ∈ wsX100, w ∈ wsX11_step := fun _ h => List.mem_cons_of_mem _ (List.mem_append_left _ (List.mem_append_left _ (List.mem_append_left _ (List.mem_append_left _ (List.mem_append_right _ h)))))
  have hin11 : ∀ w ∈ wsX110, w ∈ wsX11_step := fun _ h => List.mem_cons_of_mem _ (List.mem_append_left _ (List.mem_append_left _ (List.mem_append_left _ (List.mem_append_left _ (List.mem_append_left _ (List.mem_append_left _ (List.mem_append_right _ h)))))))
  have hl : lv_has ls 4 [(0, .ref (h 0)), (1, .int a1), (2, .int a2), (3, .int a3)] := hl
  have b28 : ∀ (u : CS), wp_X11_step_p28 u Q → mGo p l e ({ frames := 7, cells := 0, slots := 0, locals := 164 } : Room) s m args below meth c A Z 4 D (mT cs) (VT h r q cs) 28 [(0, .ref (h 0))] [] u := by
    intro u hw H locs ls hI hl
    unfold wp_X11_step_p28 at hw
    refine lv_iconst (v := (-1)) S.1 S.2.1 dX11_step_28 (by decide) ?_
    subst hZ
    exact m_iret S hr hlocks hI hw dX11_step_29
  have b52 : ∀ (t0 : Int32) (u : CS), wp_X11_step_p52 t0 u Q → mGo p l e ({ frames := 7, cells := 0, slots := 0, locals := 164 } : Room) s m args below meth c A Z 4 D (mT cs) (VT h r q cs) 52 [(0, .ref (h 0))] [.int t0] u := by
    intro t0 u hw H locs ls hI hl
    unfold wp_X11_step_p52 at hw
    subst hZ
    exact m_iret S hr hlocks hI hw dX11_step_52
  unfold wp_X11_step at hw
  obtain ⟨H, hH⟩ : ∃ z : Heap, z = s.heap := ⟨_, rfl⟩
  obtain ⟨locs, hL⟩ : ∃ z : List Loc, z = [] := ⟨_, rfl⟩
  rw [show W p l e ({ frames := 7, cells := 0, slots := 0, locals := 164 } : Room) s m args below meth c s.heap [] 0 0 Z (F0 m 0 ls []) = W p l e ({ frames := 7, cells := 0, slots := 0, locals := 164 } : Room) s m args below meth c H locs 0 0 Z (F0 m 0 ls []) by rw [hH, hL]]
  replace hI : mI D (mT cs) A s.heap s (VT h r q cs u) H locs := by rw [hH, hL]; exact hI
  refine lv_iload_n S.1 S.2.1 dX11_step_0 rfl (lv_at hl 1 rfl) ?_
  refine lv_iconst (v := 0) S.1 S.2.1 dX11_step_1 (by decide) ?_
  refine lv_iconst (v := 1) S.1 S.2.1 dX11_step_2 (by decide) ?_
  refine m_si (As := [.int a1, .int (0 : Int32), .int (1 : Int32)]) (rest := []) S hI.2.2.2.1.2.1 (c_X11_within l a1 (0 : Int32) (1 : Int32) _ hw) (va_cwS 3 S.2.2.2.2 gX11_step_X11_within rfl rfl rfl (by decide +kernel) ⟨Nat.le_of_ble_eq_true rfl, Nat.le_of_ble_eq_true rfl⟩) rfl hl.1 rfl (Nat.le_of_ble_eq_true rfl) dX11_step_3 ⟨Nat.zero_le _, Nat.zero_le _⟩ (fun y3 hw => ?_)
  refine lv_if_eq (tgt := 28) S.1 S.2.1 dX11_step_6 (by decide) (fun c6 => ?_) (fun c6 => ?_)
  · have hw := hw.1 c6
    exact b28 u hw H locs ls hI (lv_sub hl [0] rfl)
  · have hw := hw.2 c6
    refine lv_iload_n S.1 S.2.1 dX11_step_9 rfl (lv_at hl 2 rfl) ?_
    refine lv_iconst (v := 0) S.1 S.2.1 dX11_step_10 (by decide) ?_
    refine lv_aload_n S.1 S.2.1 dX11_step_11 rfl (lv_at hl 0 rfl) ?_
    refine m_get S hin11 hI 0 (VT_o0 h r q cs u) rfl 0 (Nat.le_of_ble_eq_true rfl) (List.mem_of_getElem? (i := 1) rfl) rfl (FO11_at0 _ _ _) dX11_step_12 ?_
    refine m_vi (cf := fun v => VT h r q cs (mu u 1 v)) (As := []) (rest := [.int (0 : Int32), .int a2]) S (VT_c1 h r q cs u) hI (by rw [mu_self]) (c_X8_steps l D (h 1) (r 1) cs (u 1) _ hw) (cwV 0 S.2.2.2.2 gX11_step_X8_steps rfl rfl rfl (by decide +kernel) ⟨Nat.le_of_ble_eq_true rfl, Nat.le_of_ble_eq_true rfl⟩) rfl rfl rfl hl.1 rfl (Nat.le_of_ble_eq_true rfl) dX11_step_15 ⟨Nat.zero_le _, Nat.zero_le _⟩ (fun y15 v15 H locs hw hI => ?_)
    obtain ⟨u15, eu15⟩ : ∃ z : CS, z = mu u 1 v15 := ⟨_, rfl⟩
    have hw := hw u15 eu15
    replace hI : mI D (mT cs) A s.heap s (VT h r q cs u15) H locs := by rw [eu15]; exact hI
    refine m_si (As := [.int a2, .int (0 : Int32), .int y15]) (rest := []) S hI.2.2.2.1.2.1 (c_X11_within l a2 (0 : Int32) y15 _ hw) (va_cwS 3 S.2.2.2.2 gX11_step_X11_within rfl rfl rfl (by decide +kernel) ⟨Nat.le_of_ble_eq_true rfl, Nat.le_of_ble_eq_true rfl⟩) rfl hl.1 rfl (Nat.le_of_ble_eq_true rfl) dX11_step_18 ⟨Nat.zero_le _, Nat.zero_le _⟩ (fun y18 hw => ?_)
    refine lv_if_eq (tgt := 28) S.1 S.2.1 dX11_step_21 (by decide) (fun c21 => ?_) (fun c21 => ?_)
    · have hw := hw.1 c21
      exact b28 u15 hw H locs ls hI (lv_sub hl [0] rfl)
    · have hw := hw.2 c21
      refine lv_iload_n S.1 S.2.1 dX11_step_24 rfl (lv_at hl 3 rfl) ?_
      refine lv_if_ge (tgt := 30) S.1 S.2.1 dX11_step_25 (by decide) (fun c25 => ?_) (fun c25 => ?_)
      · have hw := hw.1 c25
        refine lv_aload_n S.1 S.2.1 dX11_step_30 rfl (lv_at hl 0 rfl) ?_
        refine lv_iload_n S.1 S.2.1 dX11_step_31 rfl (lv_at hl 1 rfl) ?_
        refine lv_iload_n S.1 S.2.1 dX11_step_32 rfl (lv_at hl 2 rfl) ?_
        refine m_vi (As := [.int a1, .int a2]) (rest := []) S (VT_self h r q cs) hI rfl (c_X11_walks l D h r q cs a1 a2 u15 _ hw) (cwV 2 S.2.2.2.2 gX11_step_X11_walks rfl rfl rfl (by decide +kernel) ⟨Nat.le_of_ble_eq_true rfl, Nat.le_of_ble_eq_true rfl⟩) (VT_o0 h r q cs u15) rfl rfl hl.1 rfl (Nat.le_of_ble_eq_true rfl) dX11_step_33 ⟨Nat.zero_le _, Nat.zero_le _⟩ (fun y33 u33 H locs hw hI => ?_)
        refine lv_if_eq (tgt := 50) S.1 S.2.1 dX11_step_36 (by decide) (fun c36 => ?_) (fun c36 => ?_)
        · have hw := hw.1 c36
          refine lv_bipush (v := (-2)) S.1 S.2.1 dX11_step_50 (by decide) ?_
          exact b52 ((-2) : Int32) u33 hw H locs ls hI (lv_sub hl [0] rfl)
        · have hw := hw.2 c36
          refine lv_aload_n S.1 S.2.1 dX11_step_39 rfl (lv_at hl 0 rfl) ?_
          refine m_get S hin11 hI 0 (VT_o0 h r q cs u33) rfl 9 (Nat.le_of_ble_eq_true rfl) (List.mem_of_getElem? (i := 2) rfl) rfl (FO11_at9 _ _ _) dX11_step_40 ?_
          refine lv_iload_n S.1 S.2.1 dX11_step_43 rfl (lv_at hl 3 rfl) ?_
          refine m_vi (cf := fun v => VT h r q cs (emb u33 [10, 11] v)) (As := [.int a3]) (rest := []) S (VT_k_wk_10_11 h r q cs u33) hI (by rw [emb_self]) (c_X10_stepAt l D (fun i => h ([10, 11].getD i 0)) (fun i => rE r (gI (u33 24) 0) ([10, 11].getD i 0)) (fun i => q ([10, 11].getD i 0)) cs a3 (fun i => u33 ([10, 11].getD i 0)) _ hw) (cwV 1 S.2.2.2.2 gX11_step_X10_stepAt rfl rfl rfl (by decide +kernel) ⟨Nat.le_of_ble_eq_true rfl, Nat.le_of_ble_eq_true rfl⟩) rfl rfl rfl hl.1 rfl (Nat.le_of_ble_eq_true rfl) dX11_step_44 ⟨Nat.zero_le _, Nat.zero_le _⟩ (fun y44 v44 H locs hw hI => ?_)
          obtain ⟨u44, eu44⟩ : ∃ z : CS, z = emb u33 [10, 11] v44 := ⟨_, rfl⟩
          have hw := hw u44 eu44
          replace hI : mI D (mT cs) A s.heap s (VT h r q cs u44) H locs := by rw [eu44]; exact hI
          refine lv_goto (tgt := 52) S.1 S.2.1 dX11_step_47 (by decide) ?_
          exact b52 y44 u44 hw H locs ls hI (lv_sub hl [0] rfl)
      · have hw := hw.2 c25
        exact b28 u15 hw H locs ls hI (lv_sub hl [0] rfl)

def wp_X11_shards_p13 (u : CS) (Q : Int64 → CS → Prop) : Prop :=
  Q ((-9223372036854775808) : Int64) u
def wp_X11_shards_p83 (x1 : Int32) (x2 : Int32) (x3 : Int64) (x5 : Int32) (u : CS) (B22 : Int32 → Int32 → Int64 → Int32 → CS → Prop) (Q : Int64 → CS → Prop) : Prop :=
  (∀ y83 : Int32, y83 = x5 + 1 → B22 x1 x2 x3 y83 u)
def wp_X11_shards_p22b (x1 : Int32) (x2 : Int32) (x3 : Int64) (x5 : Int32) (u : CS) (B22 : Int32 → Int32 → Int64 → Int32 → CS → Prop) (Q : Int64 → CS → Prop) : Prop :=
  (wp_X8_steps (u 1) (fun y28 v28 => ∀ u28 : CS, u28 = mu u 1 v28 → ((y28 < x5 → Q x3 u28) ∧ (¬ y28 < x5 → (wp_X11_walks x1 x5 u28 (fun y38 u38 => ((¬ y38 = 0 → (¬ (10 : Int32) = 0 ∧ ∀ y58 : Int32, y58 = x2 / (10 : Int32) → ((¬ (gI (u38 10) 2) = y58 → wp_X11_shards_p83 x1 x2 x3 x5 u38 B22 Q) ∧ ((gI (u38 10) 2) = y58 → (¬ (10 : Int32) = 0 ∧ ∀ y72 : Int32, y72 = x2 - x2 / (10 : Int32) * (10 : Int32) → ((¬ (gI (u38 10) 3) = y72 → wp_X11_shards_p83 x1 x2 x3 x5 u38 B22 Q) ∧ ((gI (u38 10) 3) = y72 → (∀ y80 : Int64, y80 = (1 : Int64) <<< (x5.toInt64 &&& 63) → (∀ y81 : Int64, y81 = x3 ||| y80 → wp_X11_shards_p83 x1 x2 y81 x5 u38 B22 Q))))))))) ∧ (y38 = 0 → Q ((-2) : Int64) u38))))))))
def wp_X11_shards_p22 (x1 : Int32) (x2 : Int32) (x3 : Int64) (x5 : Int32) (u : CS) (Q : Int64 → CS → Prop) : Prop := ∃ (I : Int32 → Int32 → Int64 → Int32 → CS → Prop) (μ : Int32 → Int32 → Int64 → Int32 → CS → Nat), I x1 x2 x3 x5 u ∧ ∀ (x1 : Int32) (x2 : Int32) (x3 : Int64) (x5 : Int32) (u : CS), I x1 x2 x3 x5 u → wp_X11_shards_p22b x1 x2 x3 x5 u (fun yx1 yx2 yx3 yx5 yu => I yx1 yx2 yx3 yx5 yu ∧ μ yx1 yx2 yx3 yx5 yu < μ x1 x2 x3 x5 u) Q
def wp_X11_shards (a1 : Int32) (a2 : Int32) (u : CS) (Q : Int64 → CS → Prop) : Prop :=
  (wp_X11_within a1 (0 : Int32) (1 : Int32) (fun y3 => ((y3 = 0 → wp_X11_shards_p13 u Q) ∧ (¬ y3 = 0 → ((0 ≤ a2 → wp_X11_shards_p22 a1 a2 (0 : Int64) (0 : Int32) u Q) ∧ (¬ 0 ≤ a2 → wp_X11_shards_p13 u Q))))))
set_option maxHeartbeats 4000000 in
set_option maxRecDepth 100000 in
theorem c_X11_shards (l : Launch) (D : va_G) (h : Nat → Nat) (r : Nat → Nat → Nat) (q : Nat → Nat → Nat → Nat) (cs : Nat → ClassId) (a1 : Int32) (a2 : Int32) (u : CS) (Q : Int64 → CS → Prop) (hw : wp_X11_shards a1 a2 u Q) : mCl l yX11_shards wsX11_shards ({ frames := 7, cells := 0, slots := 0, locals := 164 } : Room) 0 0 D (mT cs) (VT h r q cs) [.ref (h 0), .int a1, .int a2] u Q := by
  unfold mCl
  refine m_enter (QQ := fun A => va_Ql Q (mPos D (mT cs) A (VT h r q cs)) A) (cc := cX11_shards) (maxL := 6) (ret := (some .long)) (by decide) rfl (Nat.le_of_ble_eq_true rfl) ?_
  intro p e s m args below meth c A ls S hr hlocks hname hl hI
  have S : CallFix p m c cX11_shards 6 s args wsX11_shards RX11 := S
  show W p l e ({ frames := 7, cells := 0, slots := 0, locals := 164 } : Room) s m args below meth c s.heap [] 0 0 (MQ below (va_Ql Q (mPos D (mT cs) A (VT h r q cs)) A) args s 0 0 A) (F0 m 0 ls [])
  generalize hZ : MQ below (va_Ql Q (mPos D (mT cs) A (VT h r q cs)) A) args s 0 0 A = Z
  have hin2 : ∀ w ∈ wsX20, w ∈ wsX11_shards := fun _ h => List.mem_cons_of_mem _ (List.mem_append_left _ (List.mem_append_left _ (List.mem_append_right _ h)))
  have hin3 : ∀ w ∈ wsX30, w ∈ wsX11_shards := fun _ h => List.mem_cons_of_mem _ (List.mem_append_left _ (List.mem_append_right _ h))
  have hin4 : ∀ w ∈ wsX40, w ∈ wsX11_shards := fun _ h => List.mem_cons_of_mem _ (List.mem_append_right _ h)
  have hin7 : ∀ w ∈ wsX70, w ∈ wsX11_shards := fun _ h => List.mem_cons_of_mem _ (List.mem_append_left _ (List.mem_append_left _ (List.mem_append_left _ (List.mem_append_right _ h))))
  have hin8 : ∀ w ∈ wsX80, w ∈ wsX11_shards := fun _ h => List.mem_cons_of_mem _ (List.mem_append_left _ (List.mem_append_left _ (List.mem_append_left _ (List.mem_append_left _ (List.mem_append_right _ h)))))
  have hin10 : ∀ w ∈ wsX100, w ∈ wsX11_shards := fun _ h => List.mem_cons_of_mem _ (List.mem_append_left _ (List.mem_append_left _ (List.mem_append_left _ (List.mem_append_left _ (List.mem_append_left _ (List.mem_append_right _ h))))))
  have hin11 : ∀ w ∈ wsX110, w ∈ wsX11_shards := fun _ h => List.mem_cons_of_mem _ (List.mem_append_left _ (List.mem_append_left _ (List.mem_append_left _ (List.mem_append_left _ (List.mem_append_left _ (List.mem_append_left _ (List.mem_append_right _ h)))))))
  have hl : lv_has ls 6 [(0, .ref (h 0)), (1, .int a1), (2, .int a2)] := hl
  have b13 : ∀ (u : CS), wp_X11_shards_p13 u Q → mGo p l e ({ frames := 7, cells := 0, slots := 0, locals := 164 } : Room) s m args below meth c A Z 6 D (mT cs) (VT h r q cs) 13 [(0, .ref (h 0))] [] u := by
    intro u hw H locs ls hI hl
    unfold wp_X11_shards_p13 at hw
    refine lv_ldc2 S.1 S.2.1 S.2.2.2.1 (S.2.2.2.2 _ (List.mem_of_getElem? (i := 1) rfl)) dX11_shards_13 ?_
    subst hZ
    exact m_lret S hr hlocks hI hw dX11_shards_16
  have b83 : ∀ (B22 : Int32 → Int32 → Int64 → Int32 → CS → Prop), (∀ (x1 : Int32) (x2 : Int32) (x3 : Int64) (x5 : Int32) (u : CS), B22 x1 x2 x3 x5 u → mGo p l e ({ frames := 7, cells := 0, slots := 0, locals := 164 } : Room) s m args below meth c A Z 6 D (mT cs) (VT h r q cs) 22 [(0, .ref (h 0)), (1, .int x1), (2, .int x2), (3, .long x3), (5, .int x5)] [] u) → ∀ (x1 : Int32) (x2 : Int32) (x3 : Int64) (x5 : Int32) (u : CS), wp_X11_shards_p83 x1 x2 x3 x5 u B22 Q → mGo p l e ({ frames := 7, cells := 0, slots := 0, locals := 164 } : Room) s m args below meth c A Z 6 D (mT cs) (VT h r q cs) 83 [(0, .ref (h 0)), (1, .int x1), (2, .int x2), (3, .long x3), (5, .int x5)] [] u := by
    intro B22 hB22 x1 x2 x3 x5 u hw H locs ls hI hl
    unfold wp_X11_shards_p83 at hw
    obtain ⟨y83, ey83⟩ : ∃ z : Int32, z = x5 + 1 := ⟨_, rfl⟩
    have hw := hw y83 ey83
    refine lv_iinc (v := y83) (lv' := [(5, .int y83), (0, .ref (h 0)), (1, .int x1), (2, .int x2), (3, .long x3)]) S.1 S.2.1 dX11_shards_83 hl (k := 4) rfl (by rw [ey83]; rfl) (by decide) rfl (fun ls hl => ?_)
    refine lv_goto (tgt := 22) S.1 S.2.1 dX11_shards_86 (by decide) ?_
    exact hB22 x1 x2 x3 y83 u hw H locs ls hI (lv_sub hl [1, 2, 3, 4, 0] rfl)
  have b22b : ∀ (B22 : Int32 → Int32 → Int64 → Int32 → CS → Prop), (∀ (x1 : Int32) (x2 : Int32) (x3 : Int64) (x5 : Int32) (u : CS), B22 x1 x2 x3 x5 u → mGo p l e ({ frames := 7, cells := 0, slots := 0, locals := 164 } : Room) s m args below meth c A Z 6 D (mT cs) (VT h r q cs) 22 [(0, .ref (h 0)), (1, .int x1), (2, .int x2), (3, .long x3), (5, .int x5)] [] u) → ∀ (x1 : Int32) (x2 : Int32) (x3 : Int64) (x5 : Int32) (u : CS), wp_X11_shards_p22b x1 x2 x3 x5 u B22 Q → mGo p l e ({ frames := 7, cells := 0, slots := 0, locals := 164 } : Room) s m args below meth c A Z 6 D (mT cs) (VT h r q cs) 22 [(0, .ref (h 0)), (1, .int x1), (2, .int x2), (3, .long x3), (5, .int x5)] [] u := by
    intro B22 hB22 x1 x2 x3 x5 u hw H locs ls hI hl
    unfold wp_X11_shards_p22b at hw
    refine lv_iload S.1 S.2.1 dX11_shards_22 (lv_at hl 4 rfl) ?_
    refine lv_aload_n S.1 S.2.1 dX11_shards_24 rfl (lv_at hl 0 rfl) ?_
    refine m_get S hin11 hI 0 (VT_o0 h r q cs u) rfl 0 (Nat.le_of_ble_eq_true rfl) (List.mem_of_getElem? (i := 2) rfl) rfl (FO11_at0 _ _ _) dX11_shards_25 ?_
    refine m_vi (cf := fun v => VT h r q cs (mu u 1 v)) (As := []) (rest := [.int x5]) S (VT_c1 h r q cs u) hI (by rw [mu_self]) (c_X8_steps l D (h 1) (r 1) cs (u 1) _ hw) (cwV 0 S.2.2.2.2 gX11_shards_X8_steps rfl rfl rfl (by decide +kernel) ⟨Nat.le_of_ble_eq_true rfl, Nat.le_of_ble_eq_true rfl⟩) rfl rfl rfl hl.1 rfl (Nat.le_of_ble_eq_true rfl) dX11_shards_28 ⟨Nat.zero_le _, Nat.zero_le _⟩ (fun y28 v28 H locs hw hI => ?_)
    obtain ⟨u28, eu28⟩ : ∃ z : CS, z = mu u 1 v28 := ⟨_, rfl⟩
    have hw := hw u28 eu28
    replace hI : mI D (mT cs) A s.heap s (VT h r q cs u28) H locs := by rw [eu28]; exact hI
    refine lv_icmp_gt (tgt := 89) S.1 S.2.1 dX11_shards_31 (by decide) (fun c31 => ?_) (fun c31 => ?_)
    · have hw := hw.1 c31
      refine lv_lload_n S.1 S.2.1 dX11_shards_89 rfl (lv_at hl 3 rfl) ?_
      subst hZ
      exact m_lret S hr hlocks hI hw dX11_shards_90
    · have hw := hw.2 c31
      refine lv_aload_n S.1 S.2.1 dX11_shards_34 rfl (lv_at hl 0 rfl) ?_
      refine lv_iload_n S.1 S.2.1 dX11_shards_35 rfl (lv_at hl 1 rfl) ?_
      refine lv_iload S.1 S.2.1 dX11_shards_36 (lv_at hl 4 rfl) ?_
      refine m_vi (As := [.int x1, .int x5]) (rest := []) S (VT_self h r q cs) hI rfl (c_X11_walks l D h r q cs x1 x5 u28 _ hw) (cwV 2 S.2.2.2.2 gX11_shards_X11_walks rfl rfl rfl (by decide +kernel) ⟨Nat.le_of_ble_eq_true rfl, Nat.le_of_ble_eq_true rfl⟩) (VT_o0 h r q cs u28) rfl rfl hl.1 rfl (Nat.le_of_ble_eq_true rfl) dX11_shards_38 ⟨Nat.zero_le _, Nat.zero_le _⟩ (fun y38 u38 H locs hw hI => ?_)
      refine lv_if_ne (tgt := 48) S.1 S.2.1 dX11_shards_41 (by decide) (fun c41 => ?_) (fun c41 => ?_)
      · have hw := hw.1 c41
        refine lv_aload_n S.1 S.2.1 dX11_shards_48 rfl (lv_at hl 0 rfl) ?_
        refine m_get S hin11 hI 0 (VT_o0 h r q cs u38) rfl 9 (Nat.le_of_ble_eq_true rfl) (List.mem_of_getElem? (i := 4) rfl) rfl (FO11_at9 _ _ _) dX11_shards_49 ?_
        refine m_getN S hin10 hI 110 (VT_o10 h r q cs u38) rfl 2 (Nat.le_of_ble_eq_true rfl) nf_X11_199 rfl (FO10_at2 _ _ _) dX11_shards_52 ?_
        refine lv_iload_n S.1 S.2.1 dX11_shards_55 rfl (lv_at hl 2 rfl) ?_
        refine lv_bipush (v := 10) S.1 S.2.1 dX11_shards_56 (by decide) ?_
        refine lv_idiv S.1 S.2.1 dX11_shards_58 hw.1 ?_
        have hw := hw.2
        refine lv_topi (fun y58 ey58 => ?_)
        have hw := hw y58 ey58
        refine lv_icmp_ne (tgt := 83) S.1 S.2.1 dX11_shards_59 (by decide) (fun c59 => ?_) (fun c59 => ?_)
        · have hw := hw.1 c59
          exact b83 B22 hB22 x1 x2 x3 x5 u38 hw H locs ls hI (lv_sub hl [0, 1, 2, 3, 4] rfl)
        · have hw := hw.2 c59
          refine lv_aload_n S.1 S.2.1 dX11_shards_62 rfl (lv_at hl 0 rfl) ?_
          refine m_get S hin11 hI 0 (VT_o0 h r q cs u38) rfl 9 (Nat.le_of_ble_eq_true rfl) (List.mem_of_getElem? (i := 4) rfl) rfl (FO11_at9 _ _ _) dX11_shards_63 ?_
          refine m_getN S hin10 hI 110 (VT_o10 h r q cs u38) rfl 3 (Nat.le_of_ble_eq_true rfl) nf_X11_202 rfl (FO10_at3 _ _ _) dX11_shards_66 ?_
          refine lv_iload_n S.1 S.2.1 dX11_shards_69 rfl (lv_at hl 2 rfl) ?_
          refine lv_bipush (v := 10) S.1 S.2.1 dX11_shards_70 (by decide) ?_
          refine lv_irem S.1 S.2.1 dX11_shards_72 hw.1 ?_
          have hw := hw.2
          refine lv_topi (fun y72 ey72 => ?_)
          have hw := hw y72 ey72
          refine lv_icmp_ne (tgt := 83) S.1 S.2.1 dX11_shards_73 (by decide) (fun c73 => ?_) (fun c73 => ?_)
          · have hw := hw.1 c73
            exact b83 B22 hB22 x1 x2 x3 x5 u38 hw H locs ls hI (lv_sub hl [0, 1, 2, 3, 4] rfl)
          · have hw := hw.2 c73
            refine lv_lload_n S.1 S.2.1 dX11_shards_76 rfl (lv_at hl 3 rfl) ?_
            refine lv_lconst (v := 1) S.1 S.2.1 dX11_shards_77 (by decide) ?_
            refine lv_iload S.1 S.2.1 dX11_shards_78 (lv_at hl 4 rfl) ?_
            refine lv_lshl S.1 S.2.1 dX11_shards_80 rfl ?_
            refine lv_topl (fun y80 ey80 => ?_)
            have hw := hw y80 ey80
            refine lv_lor S.1 S.2.1 dX11_shards_81 ?_
            refine lv_topl (fun y81 ey81 => ?_)
            have hw := hw y81 ey81
            refine lv_lstore_n (lv' := [(3, .long y81), (0, .ref (h 0)), (1, .int x1), (2, .int x2), (5, .int x5)]) S.1 S.2.1 dX11_shards_82 rfl hl (by decide) rfl (fun ls hl => ?_)
            exact b83 B22 hB22 x1 x2 y81 x5 u38 hw H locs ls hI (lv_sub hl [1, 2, 3, 0, 4] rfl)
      · have hw := hw.2 c41
        refine lv_ldc2 S.1 S.2.1 S.2.2.2.1 (S.2.2.2.2 _ (List.mem_of_getElem? (i := 3) rfl)) dX11_shards_44 ?_
        subst hZ
        exact m_lret S hr hlocks hI hw dX11_shards_47
  have b22 : ∀ (x1 : Int32) (x2 : Int32) (x3 : Int64) (x5 : Int32) (u : CS), wp_X11_shards_p22 x1 x2 x3 x5 u Q → mGo p l e ({ frames := 7, cells := 0, slots := 0, locals := 164 } : Room) s m args below meth c A Z 6 D (mT cs) (VT h r q cs) 22 [(0, .ref (h 0)), (1, .int x1), (2, .int x2), (3, .long x3), (5, .int x5)] [] u := by
    intro x1 x2 x3 x5 u hw
    obtain ⟨I, μ, h0, hs⟩ := hw
    have key : ∀ (n : Nat) (x1 : Int32) (x2 : Int32) (x3 : Int64) (x5 : Int32) (u : CS), μ x1 x2 x3 x5 u = n → I x1 x2 x3 x5 u → mGo p l e ({ frames := 7, cells := 0, slots := 0, locals := 164 } : Room) s m args below meth c A Z 6 D (mT cs) (VT h r q cs) 22 [(0, .ref (h 0)), (1, .int x1), (2, .int x2), (3, .long x3), (5, .int x5)] [] u := by
      intro n
      induction n using Nat.strongRecOn with
      | ind n ih =>
        intro x1 x2 x3 x5 u hn hi
        exact b22b (fun yx1 yx2 yx3 yx5 yu => I yx1 yx2 yx3 yx5 yu ∧ μ yx1 yx2 yx3 yx5 yu < μ x1 x2 x3 x5 u) (fun yx1 yx2 yx3 yx5 yu hb => ih _ (hn ▸ hb.2) yx1 yx2 yx3 yx5 yu rfl hb.1) x1 x2 x3 x5 u (hs x1 x2 x3 x5 u hi)
    exact key _ x1 x2 x3 x5 u rfl h0
  unfold wp_X11_shards at hw
  obtain ⟨H, hH⟩ : ∃ z : Heap, z = s.heap := ⟨_, rfl⟩
  obtain ⟨locs, hL⟩ : ∃ z : List Loc, z = [] := ⟨_, rfl⟩
  rw [show W p l e ({ frames := 7, cells := 0, slots := 0, locals := 164 } : Room) s m args below meth c s.heap [] 0 0 Z (F0 m 0 ls []) = W p l e ({ frames := 7, cells := 0, slots := 0, locals := 164 } : Room) s m args below meth c H locs 0 0 Z (F0 m 0 ls []) by rw [hH, hL]]
  replace hI : mI D (mT cs) A s.heap s (VT h r q cs u) H locs := by rw [hH, hL]; exact hI
  refine lv_iload_n S.1 S.2.1 dX11_shards_0 rfl (lv_at hl 1 rfl) ?_
  refine lv_iconst (v := 0) S.1 S.2.1 dX11_shards_1 (by decide) ?_
  refine lv_iconst (v := 1) S.1 S.2.1 dX11_shards_2 (by decide) ?_
  refine m_si (As := [.int a1, .int (0 : Int32), .int (1 : Int32)]) (rest := []) S hI.2.2.2.1.2.1 (c_X11_within l a1 (0 : Int32) (1 : Int32) _ hw) (va_cwS 3 S.2.2.2.2 gX11_shards_X11_within rfl rfl rfl (by decide +kernel) ⟨Nat.le_of_ble_eq_true rfl, Nat.le_of_ble_eq_true rfl⟩) rfl hl.1 rfl (Nat.le_of_ble_eq_true rfl) dX11_shards_3 ⟨Nat.zero_le _, Nat.zero_le _⟩ (fun y3 hw => ?_)
  refine lv_if_eq (tgt := 13) S.1 S.2.1 dX11_shards_6 (by decide) (fun c6 => ?_) (fun c6 => ?_)
  · have hw := hw.1 c6
    exact b13 u hw H locs ls hI (lv_sub hl [0] rfl)
  · have hw := hw.2 c6
    refine lv_iload_n S.1 S.2.1 dX11_shards_9 rfl (lv_at hl 2 rfl) ?_
    refine lv_if_ge (tgt := 17) S.1 S.2.1 dX11_shards_10 (by decide) (fun c10 => ?_) (fun c10 => ?_)
    · have hw := hw.1 c10
      refine lv_lconst (v := 0) S.1 S.2.1 dX11_shards_17 (by decide) ?_
      refine lv_lstore_n (lv' := [(3, .long (0 : Int64)), (0, .ref (h 0)), (1, .int a1), (2, .int a2)]) S.1 S.2.1 dX11_shards_18 rfl hl (by decide) rfl (fun ls hl => ?_)
      refine lv_iconst (v := 0) S.1 S.2.1 dX11_shards_19 (by decide) ?_
      refine lv_istore (lv' := [(5, .int (0 : Int32)), (3, .long (0 : Int64)), (0, .ref (h 0)), (1, .int a1), (2, .int a2)]) S.1 S.2.1 dX11_shards_20 hl (by decide) rfl (fun ls hl => ?_)
      exact b22 a1 a2 (0 : Int64) (0 : Int32) u hw H locs ls hI (lv_sub hl [2, 3, 4, 1, 0] rfl)
    · have hw := hw.2 c10
      exact b13 u hw H locs ls hI (lv_sub hl [0] rfl)

def wp_X11_judge_p24 (t0 : Int32) (u : CS) (Q : Int32 → CS → Prop) : Prop :=
  Q t0 u
def wp_X11_judge (a1 : Int32) (u : CS) (Q : Int32 → CS → Prop) : Prop :=
  (wp_X11_refusesBytes a1 u (fun y2 u2 => ((y2 = 0 → (vp_in a1 6 ∧ (wp_X11_listen_S a1.toNatClampNeg u2 (fun y21 u21 => wp_X11_judge_p24 y21 u21 Q)))) ∧ (¬ y2 = 0 → wp_X11_judge_p24 y2 u2 Q))))
set_option maxHeartbeats 4000000 in
set_option maxRecDepth 100000 in
theorem c_X11_judge (l : Launch) (D : va_G) (h : Nat → Nat) (r : Nat → Nat → Nat) (q : Nat → Nat → Nat → Nat) (cs : Nat → ClassId) (a1 : Int32) (u : CS) (Q : Int32 → CS → Prop) (hw : wp_X11_judge a1 u Q) : mCi l yX11_judge wsX11_judge ({ frames := 6, cells := 0, slots := 0, locals := 142 } : Room) 0 0 D (mT cs) (VT h r q cs) [.ref (h 0), .int a1] u Q := by
  unfold mCi
  refine m_enter (QQ := fun A => va_Qi Q (mPos D (mT cs) A (VT h r q cs)) A) (cc := cX11_judge) (maxL := 3) (ret := (some .int)) (by decide) rfl (Nat.le_of_ble_eq_true rfl) ?_
  intro p e s m args below meth c A ls S hr hlocks hname hl hI
  have S : CallFix p m c cX11_judge 3 s args wsX11_judge RX11 := S
  show W p l e ({ frames := 6, cells := 0, slots := 0, locals := 142 } : Room) s m args below meth c s.heap [] 0 0 (MQ below (va_Qi Q (mPos D (mT cs) A (VT h r q cs)) A) args s 0 0 A) (F0 m 0 ls [])
  generalize hZ : MQ below (va_Qi Q (mPos D (mT cs) A (VT h r q cs)) A) args s 0 0 A = Z
  have hin2 : ∀ w ∈ wsX20, w ∈ wsX11_judge := fun _ h => List.mem_cons_of_mem _ (List.mem_append_right _ h)
  have hin6 : ∀ w ∈ wsX60, w ∈ wsX11_judge := fun _ h => List.mem_cons_of_mem _ (List.mem_append_left _ (List.mem_append_left _ (List.mem_append_left _ (List.mem_append_right _ h))))
  have hin7 : ∀ w ∈ wsX70, w ∈ wsX11_judge := fun _ h => List.mem_cons_of_mem _ (List.mem_append_left _ (List.mem_append_right _ h))
  have hin8 : ∀ w ∈ wsX80, w ∈ wsX11_judge := fun _ h => List.mem_cons_of_mem _ (List.mem_append_left _ (List.mem_append_left _ (List.mem_append_right _ h)))
  have hin11 : ∀ w ∈ wsX110, w ∈ wsX11_judge := fun _ h => List.mem_cons_of_mem _ (List.mem_append_left _ (List.mem_append_left _ (List.mem_append_left _ (List.mem_append_left _ (List.mem_append_right _ h)))))
  have hl : lv_has ls 3 [(0, .ref (h 0)), (1, .int a1)] := hl
  have b24 : ∀ (t0 : Int32) (u : CS), wp_X11_judge_p24 t0 u Q → mGo p l e ({ frames := 6, cells := 0, slots := 0, locals := 142 } : Room) s m args below meth c A Z 3 D (mT cs) (VT h r q cs) 24 [(0, .ref (h 0))] [.int t0] u := by
    intro t0 u hw H locs ls hI hl
    unfold wp_X11_judge_p24 at hw
    subst hZ
    exact m_iret S hr hlocks hI hw dX11_judge_24
  unfold wp_X11_judge at hw
  obtain ⟨H, hH⟩ : ∃ z : Heap, z = s.heap := ⟨_, rfl⟩
  obtain ⟨locs, hL⟩ : ∃ z : List Loc, z = [] := ⟨_, rfl⟩
  rw [show W p l e ({ frames := 6, cells := 0, slots := 0, locals := 142 } : Room) s m args below meth c s.heap [] 0 0 Z (F0 m 0 ls []) = W p l e ({ frames := 6, cells := 0, slots := 0, locals := 142 } : Room) s m args below meth c H locs 0 0 Z (F0 m 0 ls []) by rw [hH, hL]]
  replace hI : mI D (mT cs) A s.heap s (VT h r q cs u) H locs := by rw [hH, hL]; exact hI
  refine lv_aload_n S.1 S.2.1 dX11_judge_0 rfl (lv_at hl 0 rfl) ?_
  refine lv_iload_n S.1 S.2.1 dX11_judge_1 rfl (lv_at hl 1 rfl) ?_
  refine m_vi (As := [.int a1]) (rest := []) S (VT_self h r q cs) hI rfl (c_X11_refusesBytes l D h r q cs a1 u _ hw) (cwV 1 S.2.2.2.2 gX11_judge_X11_refusesBytes rfl rfl rfl (by decide +kernel) ⟨Nat.le_of_ble_eq_true rfl, Nat.le_of_ble_eq_true rfl⟩) (VT_o0 h r q cs u) rfl rfl hl.1 rfl (Nat.le_of_ble_eq_true rfl) dX11_judge_2 ⟨Nat.zero_le _, Nat.zero_le _⟩ (fun y2 u2 H locs hw hI => ?_)
  refine lv_istore_n (lv' := [(2, .int y2), (0, .ref (h 0)), (1, .int a1)]) S.1 S.2.1 dX11_judge_5 rfl hl (by decide) rfl (fun ls hl => ?_)
  refine lv_iload_n S.1 S.2.1 dX11_judge_6 rfl (lv_at hl 0 rfl) ?_
  refine lv_if_eq (tgt := 14) S.1 S.2.1 dX11_judge_7 (by decide) (fun c7 => ?_) (fun c7 => ?_)
  · have hw := hw.1 c7
    refine lv_aload_n S.1 S.2.1 dX11_judge_14 rfl (lv_at hl 1 rfl) ?_
    refine lv_aload_n S.1 S.2.1 dX11_judge_15 rfl (lv_at hl 1 rfl) ?_
    refine m_get S hin11 hI 0 (VT_o0 h r q cs u2) rfl 14 (Nat.le_of_ble_eq_true rfl) (List.mem_of_getElem? (i := 1) rfl) rfl (FO11_at14 _ _ _) dX11_judge_16 ?_
    refine lv_iload_n S.1 S.2.1 dX11_judge_19 rfl (lv_at hl 2 rfl) ?_
    have hj20 := mlt hw.1
    refine m_aals S hI 1 5 (VT_sh h r q cs u2) rfl hw.1 dX11_judge_20 ?_
    have hw := hw.2
    rw [show h (0 + (18 + a1.toNatClampNeg)) = h (18 + a1.toNatClampNeg) from congrArg h (Nat.zero_add _)]
    refine m_vi (As := [.ref (h (18 + a1.toNatClampNeg))]) (rest := []) S (VT_self h r q cs) hI rfl (c_X11_listen_S l D h r q cs a1.toNatClampNeg hj20 u2 _ hw) (cwV 1 S.2.2.2.2 gX11_judge_X11_listen rfl rfl rfl (by decide +kernel) ⟨Nat.le_of_ble_eq_true rfl, Nat.le_of_ble_eq_true rfl⟩) (VT_o0 h r q cs u2) rfl rfl hl.1 rfl (Nat.le_of_ble_eq_true rfl) dX11_judge_21 ⟨Nat.zero_le _, Nat.zero_le _⟩ (fun y21 u21 H locs hw hI => ?_)
    exact b24 y21 u21 hw H locs ls hI (lv_sub hl [1] rfl)
  · have hw := hw.2 c7
    refine lv_iload_n S.1 S.2.1 dX11_judge_10 rfl (lv_at hl 0 rfl) ?_
    refine lv_goto (tgt := 24) S.1 S.2.1 dX11_judge_11 (by decide) ?_
    exact b24 y2 u2 hw H locs ls hI (lv_sub hl [1] rfl)

def wp_X11_left_p75 (t0 : Int32) (u : CS) (Q : Int32 → CS → Prop) : Prop :=
  Q t0 u
def wp_X11_left (a1 : Int32) (a2 : Int32) (u : CS) (Q : Int32 → CS → Prop) : Prop :=
  (wp_X11_within a2 (0 : Int32) (2 : Int32) (fun y3 => ((¬ y3 = 0 → (wp_X11_refusesBytes a1 u (fun y13 u13 => ((y13 = 0 → (vp_in a1 6 ∧ (wp_X11_listen_S a1.toNatClampNeg u13 (fun y30 u30 => ((y30 = ((-2) : Int32) → ((¬ a2 = 0 → ((¬ a2 = (1 : Int32) → wp_X11_left_p75 (gI (u30 12) 2) u30 Q) ∧ (a2 = (1 : Int32) → wp_X11_left_p75 (gI (u30 12) 1) u30 Q))) ∧ (a2 = 0 → Q (gI (u30 12) 0) u30))) ∧ (¬ y30 = ((-2) : Int32) → Q ((-5) : Int32) u30)))))) ∧ (¬ y13 = 0 → Q y13 u13))))) ∧ (y3 = 0 → Q ((-1) : Int32) u))))
set_option maxHeartbeats 4000000 in
set_option maxRecDepth 100000 in
theorem c_X11_left (l : Launch) (D : va_G) (h : Nat → Nat) (r : Nat → Nat → Nat) (q : Nat → Nat → Nat → Nat) (cs : Nat → ClassId) (a1 : Int32) (a2 : Int32) (u : CS) (Q : Int32 → CS → Prop) (hw : wp_X11_left a1 a2 u Q) : mCi l yX11_left wsX11_left ({ frames := 6, cells := 0, slots := 0, locals := 142 } : Room) 0 0 D (mT cs) (VT h r q cs) [.ref (h 0), .int a1, .int a2] u Q := by
  unfold mCi
  refine m_enter (QQ := fun A => va_Qi Q (mPos D (mT cs) A (VT h r q cs)) A) (cc := cX11_left) (maxL := 4) (ret := (some .int)) (by decide) rfl (Nat.le_of_ble_eq_true rfl) ?_
  intro p e s m args below meth c A ls S hr hlocks hname hl hI
  have S : CallFix p m c cX11_left 4 s args wsX11_left RX11 := S
  show W p l e ({ frames := 6, cells := 0, slots := 0, locals := 142 } : Room) s m args below meth c s.heap [] 0 0 (MQ below (va_Qi Q (mPos D (mT cs) A (VT h r q cs)) A) args s 0 0 A) (F0 m 0 ls [])
  generalize hZ : MQ below (va_Qi Q (mPos D (mT cs) A (VT h r q cs)) A) args s 0 0 A = Z
  have hin2 : ∀ w ∈ wsX20, w ∈ wsX11_left := fun _ h => List.mem_cons_of_mem _ (List.mem_append_right _ h)
  have hin6 : ∀ w ∈ wsX60, w ∈ wsX11_left := fun _ h => List.mem_cons_of_mem _ (List.mem_append_left _ (List.mem_append_left _ (List.mem_append_right _ h)))
  have hin7 : ∀ w ∈ wsX70, w ∈ wsX11_left := fun _ h => List.mem_cons_of_mem _ (List.mem_append_left _ (List.mem_append_left _ (List.mem_append_left _ (List.mem_append_right _ h))))
  have hin8 : ∀ w ∈ wsX80, w ∈ wsX11_left := fun _ h => List.mem_cons_of_mem _ (List.mem_append_left _ (List.mem_append_right _ h))
  have hin11 : ∀ w ∈ wsX110, w ∈ wsX11_left := fun _ h => List.mem_cons_of_mem _ (List.mem_append_left _ (List.mem_append_left _ (List.mem_append_left _ (List.mem_append_left _ (List.mem_append_right _ h)))))
  have hl : lv_has ls 4 [(0, .ref (h 0)), (1, .int a1), (2, .int a2)] := hl
  have b75 : ∀ (t0 : Int32) (u : CS), wp_X11_left_p75 t0 u Q → mGo p l e ({ frames := 6, cells := 0, slots := 0, locals := 142 } : Room) s m args below meth c A Z 4 D (mT cs) (VT h r q cs) 75 [(0, .ref (h 0))] [.int t0] u := by
    intro t0 u hw H locs ls hI hl
    unfold wp_X11_left_p75 at hw
    subst hZ
    exact m_iret S hr hlocks hI hw dX11_left_75
  unfold wp_X11_left at hw
  obtain ⟨H, hH⟩ : ∃ z : Heap, z = s.heap := ⟨_, rfl⟩
  obtain ⟨locs, hL⟩ : ∃ z : List Loc, z = [] := ⟨_, rfl⟩
  rw [show W p l e ({ frames := 6, cells := 0, slots := 0, locals := 142 } : Room) s m args below meth c s.heap [] 0 0 Z (F0 m 0 ls []) = W p l e ({ frames := 6, cells := 0, slots := 0, locals := 142 } : Room) s m args below meth c H locs 0 0 Z (F0 m 0 ls []) by rw [hH, hL]]
  replace hI : mI D (mT cs) A s.heap s (VT h r q cs u) H locs := by rw [hH, hL]; exact hI
  refine lv_iload_n S.1 S.2.1 dX11_left_0 rfl (lv_at hl 2 rfl) ?_
  refine lv_iconst (v := 0) S.1 S.2.1 dX11_left_1 (by decide) ?_
  refine lv_iconst (v := 2) S.1 S.2.1 dX11_left_2 (by decide) ?_
  refine m_si (As := [.int a2, .int (0 : Int32), .int (2 : Int32)]) (rest := []) S hI.2.2.2.1.2.1 (c_X11_within l a2 (0 : Int32) (2 : Int32) _ hw) (va_cwS 3 S.2.2.2.2 gX11_left_X11_within rfl rfl rfl (by decide +kernel) ⟨Nat.le_of_ble_eq_true rfl, Nat.le_of_ble_eq_true rfl⟩) rfl hl.1 rfl (Nat.le_of_ble_eq_true rfl) dX11_left_3 ⟨Nat.zero_le _, Nat.zero_le _⟩ (fun y3 hw => ?_)
  refine lv_if_ne (tgt := 11) S.1 S.2.1 dX11_left_6 (by decide) (fun c6 => ?_) (fun c6 => ?_)
  · have hw := hw.1 c6
    refine lv_aload_n S.1 S.2.1 dX11_left_11 rfl (lv_at hl 0 rfl) ?_
    refine lv_iload_n S.1 S.2.1 dX11_left_12 rfl (lv_at hl 1 rfl) ?_
    refine m_vi (As := [.int a1]) (rest := []) S (VT_self h r q cs) hI rfl (c_X11_refusesBytes l D h r q cs a1 u _ hw) (cwV 1 S.2.2.2.2 gX11_left_X11_refusesBytes rfl rfl rfl (by decide +kernel) ⟨Nat.le_of_ble_eq_true rfl, Nat.le_of_ble_eq_true rfl⟩) (VT_o0 h r q cs u) rfl rfl hl.1 rfl (Nat.le_of_ble_eq_true rfl) dX11_left_13 ⟨Nat.zero_le _, Nat.zero_le _⟩ (fun y13 u13 H locs hw hI => ?_)
    refine lv_istore_n (lv' := [(3, .int y13), (0, .ref (h 0)), (1, .int a1), (2, .int a2)]) S.1 S.2.1 dX11_left_16 rfl hl (by decide) rfl (fun ls hl => ?_)
    refine lv_iload_n S.1 S.2.1 dX11_left_17 rfl (lv_at hl 0 rfl) ?_
    refine lv_if_eq (tgt := 23) S.1 S.2.1 dX11_left_18 (by decide) (fun c18 => ?_) (fun c18 => ?_)
    · have hw := hw.1 c18
      refine lv_aload_n S.1 S.2.1 dX11_left_23 rfl (lv_at hl 1 rfl) ?_
      refine lv_aload_n S.1 S.2.1 dX11_left_24 rfl (lv_at hl 1 rfl) ?_
      refine m_get S hin11 hI 0 (VT_o0 h r q cs u13) rfl 14 (Nat.le_of_ble_eq_true rfl) (List.mem_of_getElem? (i := 1) rfl) rfl (FO11_at14 _ _ _) dX11_left_25 ?_
      refine lv_iload_n S.1 S.2.1 dX11_left_28 rfl (lv_at hl 2 rfl) ?_
      have hj29 := mlt hw.1
      refine m_aals S hI 1 5 (VT_sh h r q cs u13) rfl hw.1 dX11_left_29 ?_
      have hw := hw.2
      rw [show h (0 + (18 + a1.toNatClampNeg)) = h (18 + a1.toNatClampNeg) from congrArg h (Nat.zero_add _)]
      refine m_vi (As := [.ref (h (18 + a1.toNatClampNeg))]) (rest := []) S (VT_self h r q cs) hI rfl (c_X11_listen_S l D h r q cs a1.toNatClampNeg hj29 u13 _ hw) (cwV 1 S.2.2.2.2 gX11_left_X11_listen rfl rfl rfl (by decide +kernel) ⟨Nat.le_of_ble_eq_true rfl, Nat.le_of_ble_eq_true rfl⟩) (VT_o0 h r q cs u13) rfl rfl hl.1 rfl (Nat.le_of_ble_eq_true rfl) dX11_left_30 ⟨Nat.zero_le _, Nat.zero_le _⟩ (fun y30 u30 H locs hw hI => ?_)
      refine lv_bipush (v := (-2)) S.1 S.2.1 dX11_left_33 (by decide) ?_
      refine lv_icmp_eq (tgt := 41) S.1 S.2.1 dX11_left_35 (by decide) (fun c35 => ?_) (fun c35 => ?_)
      · have hw := hw.1 c35
        refine lv_iload_n S.1 S.2.1 dX11_left_41 rfl (lv_at hl 3 rfl) ?_
        refine lv_if_ne (tgt := 53) S.1 S.2.1 dX11_left_42 (by decide) (fun c42 => ?_) (fun c42 => ?_)
        · have hw := hw.1 c42
          refine lv_iload_n S.1 S.2.1 dX11_left_53 rfl (lv_at hl 3 rfl) ?_
          refine lv_iconst (v := 1) S.1 S.2.1 dX11_left_54 (by decide) ?_
          refine lv_icmp_ne (tgt := 68) S.1 S.2.1 dX11_left_55 (by decide) (fun c55 => ?_) (fun c55 => ?_)
          · have hw := hw.1 c55
            refine lv_aload_n S.1 S.2.1 dX11_left_68 rfl (lv_at hl 1 rfl) ?_
            refine m_get S hin11 hI 0 (VT_o0 h r q cs u30) rfl 10 (Nat.le_of_ble_eq_true rfl) (List.mem_of_getElem? (i := 2) rfl) rfl (FO11_at10 _ _ _) dX11_left_69 ?_
            refine m_getN S hin7 hI 113 (VT_o12 h r q cs u30) rfl 2 (Nat.le_of_ble_eq_true rfl) nf_X11_152 rfl (Ff7_at2 _ _) dX11_left_72 ?_
            exact b75 (gI (u30 12) 2) u30 hw H locs ls hI (lv_sub hl [1] rfl)
          · have hw := hw.2 c55
            refine lv_aload_n S.1 S.2.1 dX11_left_58 rfl (lv_at hl 1 rfl) ?_
            refine m_get S hin11 hI 0 (VT_o0 h r q cs u30) rfl 10 (Nat.le_of_ble_eq_true rfl) (List.mem_of_getElem? (i := 2) rfl) rfl (FO11_at10 _ _ _) dX11_left_59 ?_
            refine m_getN S hin7 hI 113 (VT_o12 h r q cs u30) rfl 1 (Nat.le_of_ble_eq_true rfl) nf_X11_224 rfl (Ff7_at1 _ _) dX11_left_62 ?_
            refine lv_goto (tgt := 75) S.1 S.2.1 dX11_left_65 (by decide) ?_
            exact b75 (gI (u30 12) 1) u30 hw H locs ls hI (lv_sub hl [1] rfl)
        · have hw := hw.2 c42
          refine lv_aload_n S.1 S.2.1 dX11_left_45 rfl (lv_at hl 1 rfl) ?_
          refine m_get S hin11 hI 0 (VT_o0 h r q cs u30) rfl 10 (Nat.le_of_ble_eq_true rfl) (List.mem_of_getElem? (i := 2) rfl) rfl (FO11_at10 _ _ _) dX11_left_46 ?_
          refine m_getN S hin7 hI 113 (VT_o12 h r q cs u30) rfl 0 (Nat.le_of_ble_eq_true rfl) nf_X11_221 rfl (Ff7_at0 _ _) dX11_left_49 ?_
          subst hZ
          exact m_iret S hr hlocks hI hw dX11_left_52
      · have hw := hw.2 c35
        refine lv_bipush (v := (-5)) S.1 S.2.1 dX11_left_38 (by decide) ?_
        subst hZ
        exact m_iret S hr hlocks hI hw dX11_left_40
    · have hw := hw.2 c18
      refine lv_iload_n S.1 S.2.1 dX11_left_21 rfl (lv_at hl 0 rfl) ?_
      subst hZ
      exact m_iret S hr hlocks hI hw dX11_left_22
  · have hw := hw.2 c6
    refine lv_iconst (v := (-1)) S.1 S.2.1 dX11_left_9 (by decide) ?_
    subst hZ
    exact m_iret S hr hlocks hI hw dX11_left_10

def wp_X11_wise_p36 (t0 : Int32) (u : CS) (Q : Int32 → CS → Prop) : Prop :=
  Q t0 u
def wp_X11_wise (a1 : Int32) (u : CS) (Q : Int32 → CS → Prop) : Prop :=
  (wp_X11_refusesBytes a1 u (fun y2 u2 => ((y2 = 0 → (vp_in a1 6 ∧ (wp_X11_listen_S a1.toNatClampNeg u2 (fun y19 u19 => ((¬ y19 = ((-2) : Int32) → wp_X11_wise_p36 ((-5) : Int32) u19 Q) ∧ (y19 = ((-2) : Int32) → wp_X11_wise_p36 (gI (u19 0) 15) u19 Q)))))) ∧ (¬ y2 = 0 → Q y2 u2))))
set_option maxHeartbeats 4000000 in
set_option maxRecDepth 100000 in
theorem c_X11_wise (l : Launch) (D : va_G) (h : Nat → Nat) (r : Nat → Nat → Nat) (q : Nat → Nat → Nat → Nat) (cs : Nat → ClassId) (a1 : Int32) (u : CS) (Q : Int32 → CS → Prop) (hw : wp_X11_wise a1 u Q) : mCi l yX11_wise wsX11_wise ({ frames := 6, cells := 0, slots := 0, locals := 142 } : Room) 0 0 D (mT cs) (VT h r q cs) [.ref (h 0), .int a1] u Q := by
  unfold mCi
  refine m_enter (QQ := fun A => va_Qi Q (mPos D (mT cs) A (VT h r q cs)) A) (cc := cX11_wise) (maxL := 3) (ret := (some .int)) (by decide) rfl (Nat.le_of_ble_eq_true rfl) ?_
  intro p e s m args below meth c A ls S hr hlocks hname hl hI
  have S : CallFix p m c cX11_wise 3 s args wsX11_wise RX11 := S
  show W p l e ({ frames := 6, cells := 0, slots := 0, locals := 142 } : Room) s m args below meth c s.heap [] 0 0 (MQ below (va_Qi Q (mPos D (mT cs) A (VT h r q cs)) A) args s 0 0 A) (F0 m 0 ls [])
  generalize hZ : MQ below (va_Qi Q (mPos D (mT cs) A (VT h r q cs)) A) args s 0 0 A = Z
  have hin2 : ∀ w ∈ wsX20, w ∈ wsX11_wise := fun _ h => List.mem_cons_of_mem _ (List.mem_append_right _ h)
  have hin6 : ∀ w ∈ wsX60, w ∈ wsX11_wise := fun _ h => List.mem_cons_of_mem _ (List.mem_append_left _ (List.mem_append_left _ (List.mem_append_left _ (List.mem_append_right _ h))))
  have hin7 : ∀ w ∈ wsX70, w ∈ wsX11_wise := fun _ h => List.mem_cons_of_mem _ (List.mem_append_left _ (List.mem_append_right _ h))
  have hin8 : ∀ w ∈ wsX80, w ∈ wsX11_wise := fun _ h => List.mem_cons_of_mem _ (List.mem_append_left _ (List.mem_append_left _ (List.mem_append_right _ h)))
  have hin11 : ∀ w ∈ wsX110, w ∈ wsX11_wise := fun _ h => List.mem_cons_of_mem _ (List.mem_append_left _ (List.mem_append_left _ (List.mem_append_left _ (List.mem_append_left _ (List.mem_append_right _ h)))))
  have hl : lv_has ls 3 [(0, .ref (h 0)), (1, .int a1)] := hl
  have b36 : ∀ (t0 : Int32) (u : CS), wp_X11_wise_p36 t0 u Q → mGo p l e ({ frames := 6, cells := 0, slots := 0, locals := 142 } : Room) s m args below meth c A Z 3 D (mT cs) (VT h r q cs) 36 [(0, .ref (h 0))] [.int t0] u := by
    intro t0 u hw H locs ls hI hl
    unfold wp_X11_wise_p36 at hw
    subst hZ
    exact m_iret S hr hlocks hI hw dX11_wise_36
  unfold wp_X11_wise at hw
  obtain ⟨H, hH⟩ : ∃ z : Heap, z = s.heap := ⟨_, rfl⟩
  obtain ⟨locs, hL⟩ : ∃ z : List Loc, z = [] := ⟨_, rfl⟩
  rw [show W p l e ({ frames := 6, cells := 0, slots := 0, locals := 142 } : Room) s m args below meth c s.heap [] 0 0 Z (F0 m 0 ls []) = W p l e ({ frames := 6, cells := 0, slots := 0, locals := 142 } : Room) s m args below meth c H locs 0 0 Z (F0 m 0 ls []) by rw [hH, hL]]
  replace hI : mI D (mT cs) A s.heap s (VT h r q cs u) H locs := by rw [hH, hL]; exact hI
  refine lv_aload_n S.1 S.2.1 dX11_wise_0 rfl (lv_at hl 0 rfl) ?_
  refine lv_iload_n S.1 S.2.1 dX11_wise_1 rfl (lv_at hl 1 rfl) ?_
  refine m_vi (As := [.int a1]) (rest := []) S (VT_self h r q cs) hI rfl (c_X11_refusesBytes l D h r q cs a1 u _ hw) (cwV 1 S.2.2.2.2 gX11_wise_X11_refusesBytes rfl rfl rfl (by decide +kernel) ⟨Nat.le_of_ble_eq_true rfl, Nat.le_of_ble_eq_true rfl⟩) (VT_o0 h r q cs u) rfl rfl hl.1 rfl (Nat.le_of_ble_eq_true rfl) dX11_wise_2 ⟨Nat.zero_le _, Nat.zero_le _⟩ (fun y2 u2 H locs hw hI => ?_)
  refine lv_istore_n (lv' := [(2, .int y2), (0, .ref (h 0)), (1, .int a1)]) S.1 S.2.1 dX11_wise_5 rfl hl (by decide) rfl (fun ls hl => ?_)
  refine lv_iload_n S.1 S.2.1 dX11_wise_6 rfl (lv_at hl 0 rfl) ?_
  refine lv_if_eq (tgt := 12) S.1 S.2.1 dX11_wise_7 (by decide) (fun c7 => ?_) (fun c7 => ?_)
  · have hw := hw.1 c7
    refine lv_aload_n S.1 S.2.1 dX11_wise_12 rfl (lv_at hl 1 rfl) ?_
    refine lv_aload_n S.1 S.2.1 dX11_wise_13 rfl (lv_at hl 1 rfl) ?_
    refine m_get S hin11 hI 0 (VT_o0 h r q cs u2) rfl 14 (Nat.le_of_ble_eq_true rfl) (List.mem_of_getElem? (i := 1) rfl) rfl (FO11_at14 _ _ _) dX11_wise_14 ?_
    refine lv_iload_n S.1 S.2.1 dX11_wise_17 rfl (lv_at hl 2 rfl) ?_
    have hj18 := mlt hw.1
    refine m_aals S hI 1 5 (VT_sh h r q cs u2) rfl hw.1 dX11_wise_18 ?_
    have hw := hw.2
    rw [show h (0 + (18 + a1.toNatClampNeg)) = h (18 + a1.toNatClampNeg) from congrArg h (Nat.zero_add _)]
    refine m_vi (As := [.ref (h (18 + a1.toNatClampNeg))]) (rest := []) S (VT_self h r q cs) hI rfl (c_X11_listen_S l D h r q cs a1.toNatClampNeg hj18 u2 _ hw) (cwV 1 S.2.2.2.2 gX11_wise_X11_listen rfl rfl rfl (by decide +kernel) ⟨Nat.le_of_ble_eq_true rfl, Nat.le_of_ble_eq_true rfl⟩) (VT_o0 h r q cs u2) rfl rfl hl.1 rfl (Nat.le_of_ble_eq_true rfl) dX11_wise_19 ⟨Nat.zero_le _, Nat.zero_le _⟩ (fun y19 u19 H locs hw hI => ?_)
    refine lv_bipush (v := (-2)) S.1 S.2.1 dX11_wise_22 (by decide) ?_
    refine lv_icmp_ne (tgt := 34) S.1 S.2.1 dX11_wise_24 (by decide) (fun c24 => ?_) (fun c24 => ?_)
    · have hw := hw.1 c24
      refine lv_bipush (v := (-5)) S.1 S.2.1 dX11_wise_34 (by decide) ?_
      exact b36 ((-5) : Int32) u19 hw H locs ls hI (lv_sub hl [1] rfl)
    · have hw := hw.2 c24
      refine lv_aload_n S.1 S.2.1 dX11_wise_27 rfl (lv_at hl 1 rfl) ?_
      refine m_get S hin11 hI 0 (VT_o0 h r q cs u19) rfl 15 (Nat.le_of_ble_eq_true rfl) (List.mem_of_getElem? (i := 2) rfl) rfl (FO11_at15 _ _ _) dX11_wise_28 ?_
      refine lv_goto (tgt := 36) S.1 S.2.1 dX11_wise_31 (by decide) ?_
      exact b36 (gI (u19 0) 15) u19 hw H locs ls hI (lv_sub hl [1] rfl)
  · have hw := hw.2 c7
    refine lv_iload_n S.1 S.2.1 dX11_wise_10 rfl (lv_at hl 0 rfl) ?_
    subst hZ
    exact m_iret S hr hlocks hI hw dX11_wise_11

def wp_X11_drawn_p42 (u : CS) (Q : Int32 → CS → Prop) : Prop :=
  Q ((-1) : Int32) u
def wp_X11_drawn_p123 (x3 : Int32) (x4 : Int32) (x5 : Int32) (x6 : Int32) (x8 : Int32) (t0 : Int32) (t1 : Int32) (u : CS) (B68 : Int32 → Int32 → Int32 → Int32 → Int32 → Int32 → CS → Prop) (Q : Int32 → CS → Prop) : Prop :=
  (∀ y123 : Int32, y123 = t0 + t1 → (∀ y126 : Int32, y126 = x8 + 1 → B68 x3 x4 x5 x6 y123 y126 u))
def wp_X11_drawn_p68b (x3 : Int32) (x4 : Int32) (x5 : Int32) (x6 : Int32) (x7 : Int32) (x8 : Int32) (u : CS) (B68 : Int32 → Int32 → Int32 → Int32 → Int32 → Int32 → CS → Prop) (Q : Int32 → CS → Prop) : Prop :=
  ((x5 ≤ x8 → Q x7 u) ∧ (¬ x5 ≤ x8 → (wp_X11_nextSeed x6 (fun y77 => (wp_X11_heightFor y77 u (fun y88 u88 => (wp_X11_walks x4 y88 u88 (fun y91 u91 => ((¬ y91 = 0 → ((¬ x3 = 0 → wp_X11_drawn_p123 x3 x4 x5 y77 x8 x7 (gI (u91 10) 3) u91 B68 Q) ∧ (x3 = 0 → wp_X11_drawn_p123 x3 x4 x5 y77 x8 x7 (gI (u91 10) 2) u91 B68 Q))) ∧ (y91 = 0 → Q ((-2) : Int32) u91))))))))))
def wp_X11_drawn_p68 (x3 : Int32) (x4 : Int32) (x5 : Int32) (x6 : Int32) (x7 : Int32) (x8 : Int32) (u : CS) (Q : Int32 → CS → Prop) : Prop := ∃ (I : Int32 → Int32 → Int32 → Int32 → Int32 → Int32 → CS → Prop) (μ : Int32 → Int32 → Int32 → Int32 → Int32 → Int32 → CS → Nat), I x3 x4 x5 x6 x7 x8 u ∧ ∀ (x3 : Int32) (x4 : Int32) (x5 : Int32) (x6 : Int32) (x7 : Int32) (x8 : Int32) (u : CS), I x3 x4 x5 x6 x7 x8 u → wp_X11_drawn_p68b x3 x4 x5 x6 x7 x8 u (fun yx3 yx4 yx5 yx6 yx7 yx8 yu => I yx3 yx4 yx5 yx6 yx7 yx8 yu ∧ μ yx3 yx4 yx5 yx6 yx7 yx8 yu < μ x3 x4 x5 x6 x7 x8 u) Q
def wp_X11_drawn (a1 : Int32) (a2 : Int32) (a3 : Int32) (u : CS) (Q : Int32 → CS → Prop) : Prop :=
  (¬ (100 : Int32) = 0 ∧ ∀ y3 : Int32, y3 = a2 / (100 : Int32) → (¬ (100 : Int32) = 0 ∧ ∀ y9 : Int32, y9 = a2 - a2 / (100 : Int32) * (100 : Int32) → ((a2 < 0 → wp_X11_drawn_p42 u Q) ∧ (¬ a2 < 0 → (((1 : Int32) < y3 → wp_X11_drawn_p42 u Q) ∧ (¬ (1 : Int32) < y3 → (wp_X11_within y9 (1 : Int32) (60 : Int32) (fun y27 => ((y27 = 0 → wp_X11_drawn_p42 u Q) ∧ (¬ y27 = 0 → (wp_X11_within a3 (0 : Int32) (1 : Int32) (fun y36 => ((¬ y36 = 0 → (wp_X4_weigh (fun i => u ([6, 2, 1].getD i 0)) (fun v56 => ∀ u56 : CS, u56 = emb u [6, 2, 1] v56 → wp_X11_drawn_p68 a3 y3 y9 a1 (0 : Int32) (0 : Int32) u56 Q))) ∧ (y36 = 0 → wp_X11_drawn_p42 u Q))))))))))))))
set_option maxHeartbeats 4000000 in
set_option maxRecDepth 100000 in
theorem c_X11_drawn (l : Launch) (D : va_G) (h : Nat → Nat) (r : Nat → Nat → Nat) (q : Nat → Nat → Nat → Nat) (cs : Nat → ClassId) (a1 : Int32) (a2 : Int32) (a3 : Int32) (u : CS) (Q : Int32 → CS → Prop) (hw : wp_X11_drawn a1 a2 a3 u Q) : mCi l yX11_drawn wsX11_drawn ({ frames := 7, cells := 0, slots := 0, locals := 164 } : Room) 0 0 D (mT cs) (VT h r q cs) [.ref (h 0), .int a1, .int a2, .int a3] u Q := by
  unfold mCi
  refine m_enter (QQ := fun A => va_Qi Q (mPos D (mT cs) A (VT h r q cs)) A) (cc := cX11_drawn) (maxL := 9) (ret := (some .int)) (by decide) rfl (Nat.le_of_ble_eq_true rfl) ?_
  intro p e s m args below meth c A ls S hr hlocks hname hl hI
  have S : CallFix p m c cX11_drawn 9 s args wsX11_drawn RX11 := S
  show W p l e ({ frames := 7, cells := 0, slots := 0, locals := 164 } : Room) s m args below meth c s.heap [] 0 0 (MQ below (va_Qi Q (mPos D (mT cs) A (VT h r q cs)) A) args s 0 0 A) (F0 m 0 ls [])
  generalize hZ : MQ below (va_Qi Q (mPos D (mT cs) A (VT h r q cs)) A) args s 0 0 A = Z
  have hin2 : ∀ w ∈ wsX20, w ∈ wsX11_drawn := fun _ h => List.mem_cons_of_mem _ (List.mem_append_right _ h)
  have hin3 : ∀ w ∈ wsX30, w ∈ wsX11_drawn := fun _ h => List.mem_cons_of_mem _ (List.mem_append_left _ (List.mem_append_left _ (List.mem_append_left _ (List.mem_append_left _ (List.mem_append_right _ h)))))
  have hin4 : ∀ w ∈ wsX40, w ∈ wsX11_drawn := fun _ h => List.mem_cons_of_mem _ (List.mem_append_left _ (List.mem_append_left _ (List.mem_append_left _ (List.mem_append_right _ h))))
  have hin7 : ∀ w ∈ wsX70, w ∈ wsX11_drawn := fun _ h => List.mem_cons_of_mem _ (List.mem_append_left _ (List.mem_append_right _ h))
  have hin8 : ∀ w ∈ wsX80, w ∈ wsX11_drawn := fun _ h => List.mem_cons_of_mem _ (List.mem_append_left _ (List.mem_append_left _ (List.mem_append_right _ h)))
  have hin10 : ∀ w ∈ wsX100, w ∈ wsX11_drawn := fun _ h => List.mem_cons_of_mem _ (List.mem_append_left _ (List.mem_append_left _ (List.mem_append_left _ (List.mem_append_left _ (List.mem_append_left _ (List.mem_append_right _ h))))))
  have hin11 : ∀ w ∈ wsX110, w ∈ wsX11_drawn := fun _ h => List.mem_cons_of_mem _ (List.mem_append_left _ (List.mem_append_left _ (List.mem_append_left _ (List.mem_append_left _ (List.mem_append_left _ (List.mem_append_left _ (List.mem_append_right _ h)))))))
  have hl : lv_has ls 9 [(0, .ref (h 0)), (1, .int a1), (2, .int a2), (3, .int a3)] := hl
  have b42 : ∀ (u : CS), wp_X11_drawn_p42 u Q → mGo p l e ({ frames := 7, cells := 0, slots := 0, locals := 164 } : Room) s m args below meth c A Z 9 D (mT cs) (VT h r q cs) 42 [(0, .ref (h 0))] [] u := by
    intro u hw H locs ls hI hl
    unfold wp_X11_drawn_p42 at hw
    refine lv_iconst (v := (-1)) S.1 S.2.1 dX11_drawn_42 (by decide) ?_
    subst hZ
    exact m_iret S hr hlocks hI hw dX11_drawn_43
  have b123 : ∀ (B68 : Int32 → Int32 → Int32 → Int32 → Int32 → Int32 → CS → Prop), (∀ (x3 : Int32) (x4 : Int32) (x5 : Int32) (x6 : Int32) (x7 : Int32) (x8 : Int32) (u : CS), B68 x3 x4 x5 x6 x7 x8 u → mGo p l e ({ frames := 7, cells := 0, slots := 0, locals := 164 } : Room) s m args below meth c A Z 9 D (mT cs) (VT h r q cs) 68 [(0, .ref (h 0)), (3, .int x3), (4, .int x4), (5, .int x5), (6, .int x6), (7, .int x7), (8, .int x8)] [] u) → ∀ (x3 : Int32) (x4 : Int32) (x5 : Int32) (x6 : Int32) (x8 : Int32) (t0 : Int32) (t1 : Int32) (u : CS), wp_X11_drawn_p123 x3 x4 x5 x6 x8 t0 t1 u B68 Q → mGo p l e ({ frames := 7, cells := 0, slots := 0, locals := 164 } : Room) s m args below meth c A Z 9 D (mT cs) (VT h r q cs) 123 [(0, .ref (h 0)), (3, .int x3), (4, .int x4), (5, .int x5), (6, .int x6), (8, .int x8)] [.int t1, .int t0] u := by
    intro B68 hB68 x3 x4 x5 x6 x8 t0 t1 u hw H locs ls hI hl
    unfold wp_X11_drawn_p123 at hw
    refine lv_iadd S.1 S.2.1 dX11_drawn_123 ?_
    refine lv_topi (fun y123 ey123 => ?_)
    have hw := hw y123 ey123
    refine lv_istore (lv' := [(7, .int y123), (0, .ref (h 0)), (3, .int x3), (4, .int x4), (5, .int x5), (6, .int x6), (8, .int x8)]) S.1 S.2.1 dX11_drawn_124 hl (by decide) rfl (fun ls hl => ?_)
    obtain ⟨y126, ey126⟩ : ∃ z : Int32, z = x8 + 1 := ⟨_, rfl⟩
    have hw := hw y126 ey126
    refine lv_iinc (v := y126) (lv' := [(8, .int y126), (7, .int y123), (0, .ref (h 0)), (3, .int x3), (4, .int x4), (5, .int x5), (6, .int x6)]) S.1 S.2.1 dX11_drawn_126 hl (k := 6) rfl (by rw [ey126]; rfl) (by decide) rfl (fun ls hl => ?_)
    refine lv_goto (tgt := 68) S.1 S.2.1 dX11_drawn_129 (by decide) ?_
    exact hB68 x3 x4 x5 x6 y123 y126 u hw H locs ls hI (lv_sub hl [2, 3, 4, 5, 6, 1, 0] rfl)
  have b68b : ∀ (B68 : Int32 → Int32 → Int32 → Int32 → Int32 → Int32 → CS → Prop), (∀ (x3 : Int32) (x4 : Int32) (x5 : Int32) (x6 : Int32) (x7 : Int32) (x8 : Int32) (u : CS), B68 x3 x4 x5 x6 x7 x8 u → mGo p l e ({ frames := 7, cells := 0, slots := 0, locals := 164 } : Room) s m args below meth c A Z 9 D (mT cs) (VT h r q cs) 68 [(0, .ref (h 0)), (3, .int x3), (4, .int x4), (5, .int x5), (6, .int x6), (7, .int x7), (8, .int x8)] [] u) → ∀ (x3 : Int32) (x4 : Int32) (x5 : Int32) (x6 : Int32) (x7 : Int32) (x8 : Int32) (u : CS), wp_X11_drawn_p68b x3 x4 x5 x6 x7 x8 u B68 Q → mGo p l e ({ frames := 7, cells := 0, slots := 0, locals := 164 } : Room) s m args below meth c A Z 9 D (mT cs) (VT h r q cs) 68 [(0, .ref (h 0)), (3, .int x3), (4, .int x4), (5, .int x5), (6, .int x6), (7, .int x7), (8, .int x8)] [] u := by
    intro B68 hB68 x3 x4 x5 x6 x7 x8 u hw H locs ls hI hl
    unfold wp_X11_drawn_p68b at hw
    refine lv_iload S.1 S.2.1 dX11_drawn_68 (lv_at hl 6 rfl) ?_
    refine lv_iload S.1 S.2.1 dX11_drawn_70 (lv_at hl 3 rfl) ?_
    refine lv_icmp_ge (tgt := 132) S.1 S.2.1 dX11_drawn_72 (by decide) (fun c72 => ?_) (fun c72 => ?_)
    · have hw := hw.1 c72
      refine lv_iload S.1 S.2.1 dX11_drawn_132 (lv_at hl 5 rfl) ?_
      subst hZ
      exact m_iret S hr hlocks hI hw dX11_drawn_134
    · have hw := hw.2 c72
      refine lv_iload S.1 S.2.1 dX11_drawn_75 (lv_at hl 4 rfl) ?_
      refine m_si (As := [.int x6]) (rest := []) S hI.2.2.2.1.2.1 (c_X11_nextSeed l x6 _ hw) (va_cwS 1 S.2.2.2.2 gX11_drawn_X11_nextSeed rfl rfl rfl (by decide +kernel) ⟨Nat.le_of_ble_eq_true rfl, Nat.le_of_ble_eq_true rfl⟩) rfl hl.1 rfl (Nat.le_of_ble_eq_true rfl) dX11_drawn_77 ⟨Nat.zero_le _, Nat.zero_le _⟩ (fun y77 hw => ?_)
      refine lv_istore (lv' := [(6, .int y77), (0, .ref (h 0)), (3, .int x3), (4, .int x4), (5, .int x5), (7, .int x7), (8, .int x8)]) S.1 S.2.1 dX11_drawn_80 hl (by decide) rfl (fun ls hl => ?_)
      refine lv_aload_n S.1 S.2.1 dX11_drawn_82 rfl (lv_at hl 1 rfl) ?_
      refine lv_iload S.1 S.2.1 dX11_drawn_83 (lv_at hl 3 rfl) ?_
      refine lv_aload_n S.1 S.2.1 dX11_drawn_85 rfl (lv_at hl 1 rfl) ?_
      refine lv_iload S.1 S.2.1 dX11_drawn_86 (lv_at hl 0 rfl) ?_
      refine m_vi (As := [.int y77]) (rest := [.int x4, .ref (h 0)]) S (VT_self h r q cs) hI rfl (c_X11_heightFor l D h r q cs y77 u _ hw) (cwV 1 S.2.2.2.2 gX11_drawn_X11_heightFor rfl rfl rfl (by decide +kernel) ⟨Nat.le_of_ble_eq_true rfl, Nat.le_of_ble_eq_true rfl⟩) (VT_o0 h r q cs u) rfl rfl hl.1 rfl (Nat.le_of_ble_eq_true rfl) dX11_drawn_88 ⟨Nat.zero_le _, Nat.zero_le _⟩ (fun y88 u88 H locs hw hI => ?_)
      refine m_vi (As := [.int x4, .int y88]) (rest := []) S (VT_self h r q cs) hI rfl (c_X11_walks l D h r q cs x4 y88 u88 _ hw) (cwV 2 S.2.2.2.2 gX11_drawn_X11_walks rfl rfl rfl (by decide +kernel) ⟨Nat.le_of_ble_eq_true rfl, Nat.le_of_ble_eq_true rfl⟩) (VT_o0 h r q cs u88) rfl rfl hl.1 rfl (Nat.le_of_ble_eq_true rfl) dX11_drawn_91 ⟨Nat.zero_le _, Nat.zero_le _⟩ (fun y91 u91 H locs hw hI => ?_)
      refine lv_if_ne (tgt := 100) S.1 S.2.1 dX11_drawn_94 (by decide) (fun c94 => ?_) (fun c94 => ?_)
      · have hw := hw.1 c94
        refine lv_iload S.1 S.2.1 dX11_drawn_100 (lv_at hl 5 rfl) ?_
        refine lv_iload_n S.1 S.2.1 dX11_drawn_102 rfl (lv_at hl 2 rfl) ?_
        refine lv_if_ne (tgt := 116) S.1 S.2.1 dX11_drawn_103 (by decide) (fun c103 => ?_) (fun c103 => ?_)
        · have hw := hw.1 c103
          refine lv_aload_n S.1 S.2.1 dX11_drawn_116 rfl (lv_at hl 1 rfl) ?_
          refine m_get S hin11 hI 0 (VT_o0 h r q cs u91) rfl 9 (Nat.le_of_ble_eq_true rfl) (List.mem_of_getElem? (i := 4) rfl) rfl (FO11_at9 _ _ _) dX11_drawn_117 ?_
          refine m_getN S hin10 hI 110 (VT_o10 h r q cs u91) rfl 3 (Nat.le_of_ble_eq_true rfl) nf_X11_202 rfl (FO10_at3 _ _ _) dX11_drawn_120 ?_
          exact b123 B68 hB68 x3 x4 x5 y77 x8 x7 (gI (u91 10) 3) u91 hw H locs ls hI (lv_sub hl [1, 2, 3, 4, 0, 6] rfl)
        · have hw := hw.2 c103
          refine lv_aload_n S.1 S.2.1 dX11_drawn_106 rfl (lv_at hl 1 rfl) ?_
          refine m_get S hin11 hI 0 (VT_o0 h r q cs u91) rfl 9 (Nat.le_of_ble_eq_true rfl) (List.mem_of_getElem? (i := 4) rfl) rfl (FO11_at9 _ _ _) dX11_drawn_107 ?_
          refine m_getN S hin10 hI 110 (VT_o10 h r q cs u91) rfl 2 (Nat.le_of_ble_eq_true rfl) nf_X11_199 rfl (FO10_at2 _ _ _) dX11_drawn_110 ?_
          refine lv_goto (tgt := 123) S.1 S.2.1 dX11_drawn_113 (by decide) ?_
          exact b123 B68 hB68 x3 x4 x5 y77 x8 x7 (gI (u91 10) 2) u91 hw H locs ls hI (lv_sub hl [1, 2, 3, 4, 0, 6] rfl)
      · have hw := hw.2 c94
        refine lv_bipush (v := (-2)) S.1 S.2.1 dX11_drawn_97 (by decide) ?_
        subst hZ
        exact m_iret S hr hlocks hI hw dX11_drawn_99
  have b68 : ∀ (x3 : Int32) (x4 : Int32) (x5 : Int32) (x6 : Int32) (x7 : Int32) (x8 : Int32) (u : CS), wp_X11_drawn_p68 x3 x4 x5 x6 x7 x8 u Q → mGo p l e ({ frames := 7, cells := 0, slots := 0, locals := 164 } : Room) s m args below meth c A Z 9 D (mT cs) (VT h r q cs) 68 [(0, .ref (h 0)), (3, .int x3), (4, .int x4), (5, .int x5), (6, .int x6), (7, .int x7), (8, .int x8)] [] u := by
    intro x3 x4 x5 x6 x7 x8 u hw
    obtain ⟨I, μ, h0, hs⟩ := hw
    have key : ∀ (n : Nat) (x3 : Int32) (x4 : Int32) (x5 : Int32) (x6 : Int32) (x7 : Int32) (x8 : Int32) (u : CS), μ x3 x4 x5 x6 x7 x8 u = n → I x3 x4 x5 x6 x7 x8 u → mGo p l e ({ frames := 7, cells := 0, slots := 0, locals := 164 } : Room) s m args below meth c A Z 9 D (mT cs) (VT h r q cs) 68 [(0, .ref (h 0)), (3, .int x3), (4, .int x4), (5, .int x5), (6, .int x6), (7, .int x7), (8, .int x8)] [] u := by
      intro n
      induction n using Nat.strongRecOn with
      | ind n ih =>
        intro x3 x4 x5 x6 x7 x8 u hn hi
        exact b68b (fun yx3 yx4 yx5 yx6 yx7 yx8 yu => I yx3 yx4 yx5 yx6 yx7 yx8 yu ∧ μ yx3 yx4 yx5 yx6 yx7 yx8 yu < μ x3 x4 x5 x6 x7 x8 u) (fun yx3 yx4 yx5 yx6 yx7 yx8 yu hb => ih _ (hn ▸ hb.2) yx3 yx4 yx5 yx6 yx7 yx8 yu rfl hb.1) x3 x4 x5 x6 x7 x8 u (hs x3 x4 x5 x6 x7 x8 u hi)
    exact key _ x3 x4 x5 x6 x7 x8 u rfl h0
  unfold wp_X11_drawn at hw
  obtain ⟨H, hH⟩ : ∃ z : Heap, z = s.heap := ⟨_, rfl⟩
  obtain ⟨locs, hL⟩ : ∃ z : List Loc, z = [] := ⟨_, rfl⟩
  rw [show W p l e ({ frames := 7, cells := 0, slots := 0, locals := 164 } : Room) s m args below meth c s.heap [] 0 0 Z (F0 m 0 ls []) = W p l e ({ frames := 7, cells := 0, slots := 0, locals := 164 } : Room) s m args below meth c H locs 0 0 Z (F0 m 0 ls []) by rw [hH, hL]]
  replace hI : mI D (mT cs) A s.heap s (VT h r q cs u) H locs := by rw [hH, hL]; exact hI
  refine lv_iload_n S.1 S.2.1 dX11_drawn_0 rfl (lv_at hl 2 rfl) ?_
  refine lv_bipush (v := 100) S.1 S.2.1 dX11_drawn_1 (by decide) ?_
  refine lv_idiv S.1 S.2.1 dX11_drawn_3 hw.1 ?_
  have hw := hw.2
  refine lv_topi (fun y3 ey3 => ?_)
  have hw := hw y3 ey3
  refine lv_istore (lv' := [(4, .int y3), (0, .ref (h 0)), (1, .int a1), (2, .int a2), (3, .int a3)]) S.1 S.2.1 dX11_drawn_4 hl (by decide) rfl (fun ls hl => ?_)
  refine lv_iload_n S.1 S.2.1 dX11_drawn_6 rfl (lv_at hl 3 rfl) ?_
  refine lv_bipush (v := 100) S.1 S.2.1 dX11_drawn_7 (by decide) ?_
  refine lv_irem S.1 S.2.1 dX11_drawn_9 hw.1 ?_
  have hw := hw.2
  refine lv_topi (fun y9 ey9 => ?_)
  have hw := hw y9 ey9
  refine lv_istore (lv' := [(5, .int y9), (4, .int y3), (0, .ref (h 0)), (1, .int a1), (2, .int a2), (3, .int a3)]) S.1 S.2.1 dX11_drawn_10 hl (by decide) rfl (fun ls hl => ?_)
  refine lv_iload_n S.1 S.2.1 dX11_drawn_12 rfl (lv_at hl 4 rfl) ?_
  refine lv_if_lt (tgt := 42) S.1 S.2.1 dX11_drawn_13 (by decide) (fun c13 => ?_) (fun c13 => ?_)
  · have hw := hw.1 c13
    exact b42 u hw H locs ls hI (lv_sub hl [2] rfl)
  · have hw := hw.2 c13
    refine lv_iload S.1 S.2.1 dX11_drawn_16 (lv_at hl 1 rfl) ?_
    refine lv_iconst (v := 1) S.1 S.2.1 dX11_drawn_18 (by decide) ?_
    refine lv_icmp_gt (tgt := 42) S.1 S.2.1 dX11_drawn_19 (by decide) (fun c19 => ?_) (fun c19 => ?_)
    · have hw := hw.1 c19
      exact b42 u hw H locs ls hI (lv_sub hl [2] rfl)
    · have hw := hw.2 c19
      refine lv_iload S.1 S.2.1 dX11_drawn_22 (lv_at hl 0 rfl) ?_
      refine lv_iconst (v := 1) S.1 S.2.1 dX11_drawn_24 (by decide) ?_
      refine lv_bipush (v := 60) S.1 S.2.1 dX11_drawn_25 (by decide) ?_
      refine m_si (As := [.int y9, .int (1 : Int32), .int (60 : Int32)]) (rest := []) S hI.2.2.2.1.2.1 (c_X11_within l y9 (1 : Int32) (60 : Int32) _ hw) (va_cwS 3 S.2.2.2.2 gX11_drawn_X11_within rfl rfl rfl (by decide +kernel) ⟨Nat.le_of_ble_eq_true rfl, Nat.le_of_ble_eq_true rfl⟩) rfl hl.1 rfl (Nat.le_of_ble_eq_true rfl) dX11_drawn_27 ⟨Nat.zero_le _, Nat.zero_le _⟩ (fun y27 hw => ?_)
      refine lv_if_eq (tgt := 42) S.1 S.2.1 dX11_drawn_30 (by decide) (fun c30 => ?_) (fun c30 => ?_)
      · have hw := hw.1 c30
        exact b42 u hw H locs ls hI (lv_sub hl [2] rfl)
      · have hw := hw.2 c30
        refine lv_iload_n S.1 S.2.1 dX11_drawn_33 rfl (lv_at hl 5 rfl) ?_
        refine lv_iconst (v := 0) S.1 S.2.1 dX11_drawn_34 (by decide) ?_
        refine lv_iconst (v := 1) S.1 S.2.1 dX11_drawn_35 (by decide) ?_
        refine m_si (As := [.int a3, .int (0 : Int32), .int (1 : Int32)]) (rest := []) S hI.2.2.2.1.2.1 (c_X11_within l a3 (0 : Int32) (1 : Int32) _ hw) (va_cwS 3 S.2.2.2.2 gX11_drawn_X11_within rfl rfl rfl (by decide +kernel) ⟨Nat.le_of_ble_eq_true rfl, Nat.le_of_ble_eq_true rfl⟩) rfl hl.1 rfl (Nat.le_of_ble_eq_true rfl) dX11_drawn_36 ⟨Nat.zero_le _, Nat.zero_le _⟩ (fun y36 hw => ?_)
        refine lv_if_ne (tgt := 44) S.1 S.2.1 dX11_drawn_39 (by decide) (fun c39 => ?_) (fun c39 => ?_)
        · have hw := hw.1 c39
          refine lv_aload_n S.1 S.2.1 dX11_drawn_44 rfl (lv_at hl 2 rfl) ?_
          refine m_get S hin11 hI 0 (VT_o0 h r q cs u) rfl 5 (Nat.le_of_ble_eq_true rfl) (List.mem_of_getElem? (i := 1) rfl) rfl (FO11_at5 _ _ _) dX11_drawn_45 ?_
          refine lv_aload_n S.1 S.2.1 dX11_drawn_48 rfl (lv_at hl 2 rfl) ?_
          refine m_get S hin11 hI 0 (VT_o0 h r q cs u) rfl 1 (Nat.le_of_ble_eq_true rfl) (List.mem_of_getElem? (i := 2) rfl) rfl (FO11_at1 _ _ _) dX11_drawn_49 ?_
          refine lv_aload_n S.1 S.2.1 dX11_drawn_52 rfl (lv_at hl 2 rfl) ?_
          refine m_get S hin11 hI 0 (VT_o0 h r q cs u) rfl 0 (Nat.le_of_ble_eq_true rfl) (List.mem_of_getElem? (i := 3) rfl) rfl (FO11_at0 _ _ _) dX11_drawn_53 ?_
          refine m_vv (cf := fun v => VT h r q cs (emb u [6, 2, 1] v)) (As := [.ref (h 2), .ref (h 1)]) (rest := []) S (VT_k_mw_6_2_1 h r q cs u) hI (by rw [emb_self]) (c_X4_weigh l D (fun i => h ([6, 2, 1].getD i 0)) (fun i => rE r (gI (u 24) 0) ([6, 2, 1].getD i 0)) (fun i => q ([6, 2, 1].getD i 0)) cs (fun i => u ([6, 2, 1].getD i 0)) _ hw) (cwV 2 S.2.2.2.2 gX11_drawn_X4_weigh rfl rfl rfl (by decide +kernel) ⟨Nat.le_of_ble_eq_true rfl, Nat.le_of_ble_eq_true rfl⟩) rfl rfl rfl hl.1 rfl (Nat.le_of_ble_eq_true rfl) dX11_drawn_56 ⟨Nat.zero_le _, Nat.zero_le _⟩ (fun v56 H locs hw hI => ?_)
          obtain ⟨u56, eu56⟩ : ∃ z : CS, z = emb u [6, 2, 1] v56 := ⟨_, rfl⟩
          have hw := hw u56 eu56
          replace hI : mI D (mT cs) A s.heap s (VT h r q cs u56) H locs := by rw [eu56]; exact hI
          refine lv_iload_n S.1 S.2.1 dX11_drawn_59 rfl (lv_at hl 3 rfl) ?_
          refine lv_istore (lv' := [(6, .int a1), (5, .int y9), (4, .int y3), (0, .ref (h 0)), (1, .int a1), (2, .int a2), (3, .int a3)]) S.1 S.2.1 dX11_drawn_60 hl (by decide) rfl (fun ls hl => ?_)
          refine lv_iconst (v := 0) S.1 S.2.1 dX11_drawn_62 (by decide) ?_
          refine lv_istore (lv' := [(7, .int (0 : Int32)), (6, .int a1), (5, .int y9), (4, .int y3), (0, .ref (h 0)), (1, .int a1), (2, .int a2), (3, .int a3)]) S.1 S.2.1 dX11_drawn_63 hl (by decide) rfl (fun ls hl => ?_)
          refine lv_iconst (v := 0) S.1 S.2.1 dX11_drawn_65 (by decide) ?_
          refine lv_istore (lv' := [(8, .int (0 : Int32)), (7, .int (0 : Int32)), (6, .int a1), (5, .int y9), (4, .int y3), (0, .ref (h 0)), (1, .int a1), (2, .int a2), (3, .int a3)]) S.1 S.2.1 dX11_drawn_66 hl (by decide) rfl (fun ls hl => ?_)
          exact b68 a3 y3 y9 a1 (0 : Int32) (0 : Int32) u56 hw H locs ls hI (lv_sub hl [5, 8, 4, 3, 2, 1, 0] rfl)
        · have hw := hw.2 c39
          exact b42 u hw H locs ls hI (lv_sub hl [2] rfl)

def wp_X11_hide (a1 : Int32) (u : CS) (Q : Int32 → CS → Prop) : Prop :=
  (wp_X4_weigh (fun i => u ([6, 2, 1].getD i 0)) (fun v12 => ∀ u12 : CS, u12 = emb u [6, 2, 1] v12 → (wp_X11_nextSeed a1 (fun y21 => (wp_X11_heightFor y21 u12 (fun y24 u24 => (wp_X8_steps (u24 1) (fun y31 v31 => ∀ u31 : CS, u31 = mu u24 1 v31 → (wp_X8_jars (u31 1) (fun y38 v38 => ∀ u38 : CS, u38 = mu u31 1 v38 → (wp_X1_begin y24 y31 y38 (fun i => u38 ([13, 14].getD i 0)) (fun v41 => ∀ u41 : CS, u41 = emb u38 [13, 14] v41 → (wp_X8_steps (u41 1) (fun y48 v48 => ∀ u48 : CS, u48 = mu u41 1 v48 → Q y48 u48))))))))))))))
set_option maxHeartbeats 4000000 in
set_option maxRecDepth 100000 in
theorem c_X11_hide (l : Launch) (D : va_G) (h : Nat → Nat) (r : Nat → Nat → Nat) (q : Nat → Nat → Nat → Nat) (cs : Nat → ClassId) (a1 : Int32) (u : CS) (Q : Int32 → CS → Prop) (hw : wp_X11_hide a1 u Q) : mCi l yX11_hide wsX11_hide ({ frames := 5, cells := 0, slots := 0, locals := 119 } : Room) 0 0 D (mT cs) (VT h r q cs) [.ref (h 0), .int a1] u Q := by
  unfold mCi
  refine m_enter (QQ := fun A => va_Qi Q (mPos D (mT cs) A (VT h r q cs)) A) (cc := cX11_hide) (maxL := 2) (ret := (some .int)) (by decide) rfl (Nat.le_of_ble_eq_true rfl) ?_
  intro p e s m args below meth c A ls S hr hlocks hname hl hI
  have S : CallFix p m c cX11_hide 2 s args wsX11_hide RX11 := S
  show W p l e ({ frames := 5, cells := 0, slots := 0, locals := 119 } : Room) s m args below meth c s.heap [] 0 0 (MQ below (va_Qi Q (mPos D (mT cs) A (VT h r q cs)) A) args s 0 0 A) (F0 m 0 ls [])
  generalize hZ : MQ below (va_Qi Q (mPos D (mT cs) A (VT h r q cs)) A) args s 0 0 A = Z
  have hin1 : ∀ w ∈ wsX10, w ∈ wsX11_hide := fun _ h => List.mem_cons_of_mem _ (List.mem_append_left _ (List.mem_append_right _ h))
  have hin3 : ∀ w ∈ wsX30, w ∈ wsX11_hide := fun _ h => List.mem_cons_of_mem _ (List.mem_append_left _ (List.mem_append_left _ (List.mem_append_left _ (List.mem_append_left _ (List.mem_append_right _ h)))))
  have hin4 : ∀ w ∈ wsX40, w ∈ wsX11_hide := fun _ h => List.mem_cons_of_mem _ (List.mem_append_left _ (List.mem_append_left _ (List.mem_append_left _ (List.mem_append_right _ h))))
  have hin7 : ∀ w ∈ wsX70, w ∈ wsX11_hide := fun _ h => List.mem_cons_of_mem _ (List.mem_append_right _ h)
  have hin8 : ∀ w ∈ wsX80, w ∈ wsX11_hide := fun _ h => List.mem_cons_of_mem _ (List.mem_append_left _ (List.mem_append_left _ (List.mem_append_right _ h)))
  have hin11 : ∀ w ∈ wsX110, w ∈ wsX11_hide := fun _ h => List.mem_cons_of_mem _ (List.mem_append_left _ (List.mem_append_left _ (List.mem_append_left _ (List.mem_append_left _ (List.mem_append_left _ (List.mem_append_right _ h))))))
  have hl : lv_has ls 2 [(0, .ref (h 0)), (1, .int a1)] := hl
  unfold wp_X11_hide at hw
  obtain ⟨H, hH⟩ : ∃ z : Heap, z = s.heap := ⟨_, rfl⟩
  obtain ⟨locs, hL⟩ : ∃ z : List Loc, z = [] := ⟨_, rfl⟩
  rw [show W p l e ({ frames := 5, cells := 0, slots := 0, locals := 119 } : Room) s m args below meth c s.heap [] 0 0 Z (F0 m 0 ls []) = W p l e ({ frames := 5, cells := 0, slots := 0, locals := 119 } : Room) s m args below meth c H locs 0 0 Z (F0 m 0 ls []) by rw [hH, hL]]
  replace hI : mI D (mT cs) A s.heap s (VT h r q cs u) H locs := by rw [hH, hL]; exact hI
  refine lv_aload_n S.1 S.2.1 dX11_hide_0 rfl (lv_at hl 0 rfl) ?_
  refine m_get S hin11 hI 0 (VT_o0 h r q cs u) rfl 5 (Nat.le_of_ble_eq_true rfl) (List.mem_of_getElem? (i := 1) rfl) rfl (FO11_at5 _ _ _) dX11_hide_1 ?_
  refine lv_aload_n S.1 S.2.1 dX11_hide_4 rfl (lv_at hl 0 rfl) ?_
  refine m_get S hin11 hI 0 (VT_o0 h r q cs u) rfl 1 (Nat.le_of_ble_eq_true rfl) (List.mem_of_getElem? (i := 2) rfl) rfl (FO11_at1 _ _ _) dX11_hide_5 ?_
  refine lv_aload_n S.1 S.2.1 dX11_hide_8 rfl (lv_at hl 0 rfl) ?_
  refine m_get S hin11 hI 0 (VT_o0 h r q cs u) rfl 0 (Nat.le_of_ble_eq_true rfl) (List.mem_of_getElem? (i := 3) rfl) rfl (FO11_at0 _ _ _) dX11_hide_9 ?_
  refine m_vv (cf := fun v => VT h r q cs (emb u [6, 2, 1] v)) (As := [.ref (h 2), .ref (h 1)]) (rest := []) S (VT_k_mw_6_2_1 h r q cs u) hI (by rw [emb_self]) (c_X4_weigh l D (fun i => h ([6, 2, 1].getD i 0)) (fun i => rE r (gI (u 24) 0) ([6, 2, 1].getD i 0)) (fun i => q ([6, 2, 1].getD i 0)) cs (fun i => u ([6, 2, 1].getD i 0)) _ hw) (cwV 2 S.2.2.2.2 gX11_hide_X4_weigh rfl rfl rfl (by decide +kernel) ⟨Nat.le_of_ble_eq_true rfl, Nat.le_of_ble_eq_true rfl⟩) rfl rfl rfl hl.1 rfl (Nat.le_of_ble_eq_true rfl) dX11_hide_12 ⟨Nat.zero_le _, Nat.zero_le _⟩ (fun v12 H locs hw hI => ?_)
  obtain ⟨u12, eu12⟩ : ∃ z : CS, z = emb u [6, 2, 1] v12 := ⟨_, rfl⟩
  have hw := hw u12 eu12
  replace hI : mI D (mT cs) A s.heap s (VT h r q cs u12) H locs := by rw [eu12]; exact hI
  refine lv_aload_n S.1 S.2.1 dX11_hide_15 rfl (lv_at hl 0 rfl) ?_
  refine m_get S hin11 hI 0 (VT_o0 h r q cs u12) rfl 11 (Nat.le_of_ble_eq_true rfl) (List.mem_of_getElem? (i := 4) rfl) rfl (FO11_at11 _ _ _) dX11_hide_16 ?_
  refine lv_aload_n S.1 S.2.1 dX11_hide_19 rfl (lv_at hl 0 rfl) ?_
  refine lv_iload_n S.1 S.2.1 dX11_hide_20 rfl (lv_at hl 1 rfl) ?_
  refine m_si (As := [.int a1]) (rest := [.ref (h 0), .ref (h 13)]) S hI.2.2.2.1.2.1 (c_X11_nextSeed l a1 _ hw) (va_cwS 1 S.2.2.2.2 gX11_hide_X11_nextSeed rfl rfl rfl (by decide +kernel) ⟨Nat.le_of_ble_eq_true rfl, Nat.le_of_ble_eq_true rfl⟩) rfl hl.1 rfl (Nat.le_of_ble_eq_true rfl) dX11_hide_21 ⟨Nat.zero_le _, Nat.zero_le _⟩ (fun y21 hw => ?_)
  refine m_vi (As := [.int y21]) (rest := [.ref (h 13)]) S (VT_self h r q cs) hI rfl (c_X11_heightFor l D h r q cs y21 u12 _ hw) (cwV 1 S.2.2.2.2 gX11_hide_X11_heightFor rfl rfl rfl (by decide +kernel) ⟨Nat.le_of_ble_eq_true rfl, Nat.le_of_ble_eq_true rfl⟩) (VT_o0 h r q cs u12) rfl rfl hl.1 rfl (Nat.le_of_ble_eq_true rfl) dX11_hide_24 ⟨Nat.zero_le _, Nat.zero_le _⟩ (fun y24 u24 H locs hw hI => ?_)
  refine lv_aload_n S.1 S.2.1 dX11_hide_27 rfl (lv_at hl 0 rfl) ?_
  refine m_get S hin11 hI 0 (VT_o0 h r q cs u24) rfl 0 (Nat.le_of_ble_eq_true rfl) (List.mem_of_getElem? (i := 3) rfl) rfl (FO11_at0 _ _ _) dX11_hide_28 ?_
  refine m_vi (cf := fun v => VT h r q cs (mu u24 1 v)) (As := []) (rest := [.int y24, .ref (h 13)]) S (VT_c1 h r q cs u24) hI (by rw [mu_self]) (c_X8_steps l D (h 1) (r 1) cs (u24 1) _ hw) (cwV 0 S.2.2.2.2 gX11_hide_X8_steps rfl rfl rfl (by decide +kernel) ⟨Nat.le_of_ble_eq_true rfl, Nat.le_of_ble_eq_true rfl⟩) rfl rfl rfl hl.1 rfl (Nat.le_of_ble_eq_true rfl) dX11_hide_31 ⟨Nat.zero_le _, Nat.zero_le _⟩ (fun y31 v31 H locs hw hI => ?_)
  obtain ⟨u31, eu31⟩ : ∃ z : CS, z = mu u24 1 v31 := ⟨_, rfl⟩
  have hw := hw u31 eu31
  replace hI : mI D (mT cs) A s.heap s (VT h r q cs u31) H locs := by rw [eu31]; exact hI
  refine lv_aload_n S.1 S.2.1 dX11_hide_34 rfl (lv_at hl 0 rfl) ?_
  refine m_get S hin11 hI 0 (VT_o0 h r q cs u31) rfl 0 (Nat.le_of_ble_eq_true rfl) (List.mem_of_getElem? (i := 3) rfl) rfl (FO11_at0 _ _ _) dX11_hide_35 ?_
  refine m_vi (cf := fun v => VT h r q cs (mu u31 1 v)) (As := []) (rest := [.int y31, .int y24, .ref (h 13)]) S (VT_c1 h r q cs u31) hI (by rw [mu_self]) (c_X8_jars l D (h 1) (r 1) cs (u31 1) _ hw) (cwV 0 S.2.2.2.2 gX11_hide_X8_jars rfl rfl rfl (by decide +kernel) ⟨Nat.le_of_ble_eq_true rfl, Nat.le_of_ble_eq_true rfl⟩) rfl rfl rfl hl.1 rfl (Nat.le_of_ble_eq_true rfl) dX11_hide_38 ⟨Nat.zero_le _, Nat.zero_le _⟩ (fun y38 v38 H locs hw hI => ?_)
  obtain ⟨u38, eu38⟩ : ∃ z : CS, z = mu u31 1 v38 := ⟨_, rfl⟩
  have hw := hw u38 eu38
  replace hI : mI D (mT cs) A s.heap s (VT h r q cs u38) H locs := by rw [eu38]; exact hI
  refine m_vv (cf := fun v => VT h r q cs (emb u38 [13, 14] v)) (As := [.int y24, .int y31, .int y38]) (rest := []) S (VT_k_hd_13_14 h r q cs u38) hI (by rw [emb_self]) (c_X1_begin l D (fun i => h ([13, 14].getD i 0)) (fun i => rE r (gI (u38 24) 0) ([13, 14].getD i 0)) (fun i => q ([13, 14].getD i 0)) cs y24 y31 y38 (fun i => u38 ([13, 14].getD i 0)) _ hw) (cwV 3 S.2.2.2.2 gX11_hide_X1_begin rfl rfl rfl (by decide +kernel) ⟨Nat.le_of_ble_eq_true rfl, Nat.le_of_ble_eq_true rfl⟩) rfl rfl rfl hl.1 rfl (Nat.le_of_ble_eq_true rfl) dX11_hide_41 ⟨Nat.zero_le _, Nat.zero_le _⟩ (fun v41 H locs hw hI => ?_)
  obtain ⟨u41, eu41⟩ : ∃ z : CS, z = emb u38 [13, 14] v41 := ⟨_, rfl⟩
  have hw := hw u41 eu41
  replace hI : mI D (mT cs) A s.heap s (VT h r q cs u41) H locs := by rw [eu41]; exact hI
  refine lv_aload_n S.1 S.2.1 dX11_hide_44 rfl (lv_at hl 0 rfl) ?_
  refine m_get S hin11 hI 0 (VT_o0 h r q cs u41) rfl 0 (Nat.le_of_ble_eq_true rfl) (List.mem_of_getElem? (i := 3) rfl) rfl (FO11_at0 _ _ _) dX11_hide_45 ?_
  refine m_vi (cf := fun v => VT h r q cs (mu u41 1 v)) (As := []) (rest := []) S (VT_c1 h r q cs u41) hI (by rw [mu_self]) (c_X8_steps l D (h 1) (r 1) cs (u41 1) _ hw) (cwV 0 S.2.2.2.2 gX11_hide_X8_steps rfl rfl rfl (by decide +kernel) ⟨Nat.le_of_ble_eq_true rfl, Nat.le_of_ble_eq_true rfl⟩) rfl rfl rfl hl.1 rfl (Nat.le_of_ble_eq_true rfl) dX11_hide_48 ⟨Nat.zero_le _, Nat.zero_le _⟩ (fun y48 v48 H locs hw hI => ?_)
  obtain ⟨u48, eu48⟩ : ∃ z : CS, z = mu u41 1 v48 := ⟨_, rfl⟩
  have hw := hw u48 eu48
  replace hI : mI D (mT cs) A s.heap s (VT h r q cs u48) H locs := by rw [eu48]; exact hI
  subst hZ
  exact m_iret S hr hlocks hI hw dX11_hide_51

def wp_X11_drop_p37 (u : CS) (Q : Int32 → CS → Prop) : Prop :=
  Q ((-5) : Int32) u
def wp_X11_drop_p56 (t0 : Int32) (u : CS) (Q : Int32 → CS → Prop) : Prop :=
  Q t0 u
def wp_X11_drop (a1 : Int32) (u : CS) (Q : Int32 → CS → Prop) : Prop :=
  (wp_X11_stepsInDeed u (fun y3 u3 => (wp_X11_within a1 (1 : Int32) y3 (fun y6 => ((¬ y6 = 0 → (((gI (u3 13) 1) = 0 → wp_X11_drop_p37 u3 Q) ∧ (¬ (gI (u3 13) 1) = 0 → ((¬ (gI (u3 14) 2) = 0 → (wp_X1_dropFrom a1 (fun i => u3 ([13, 14].getD i 0)) (fun y45 v45 => ∀ u45 : CS, u45 = emb u3 [13, 14] v45 → ((y45 = 0 → wp_X11_drop_p56 (0 : Int32) u45 Q) ∧ (¬ y45 = 0 → wp_X11_drop_p56 (1 : Int32) u45 Q))))) ∧ ((gI (u3 14) 2) = 0 → wp_X11_drop_p37 u3 Q))))) ∧ (y6 = 0 → Q ((-1) : Int32) u3))))))
set_option maxHeartbeats 4000000 in
set_option maxRecDepth 100000 in
theorem c_X11_drop (l : Launch) (D : va_G) (h : Nat → Nat) (r : Nat → Nat → Nat) (q : Nat → Nat → Nat → Nat) (cs : Nat → ClassId) (a1 : Int32) (u : CS) (Q : Int32 → CS → Prop) (hw : wp_X11_drop a1 u Q) : mCi l yX11_drop wsX11_drop ({ frames := 3, cells := 0, slots := 0, locals := 58 } : Room) 0 0 D (mT cs) (VT h r q cs) [.ref (h 0), .int a1] u Q := by
  unfold mCi
  refine m_enter (QQ := fun A => va_Qi Q (mPos D (mT cs) A (VT h r q cs)) A) (cc := cX11_drop) (maxL := 2) (ret := (some .int)) (by decide) rfl (Nat.le_of_ble_eq_true rfl) ?_
  intro p e s m args below meth c A ls S hr hlocks hname hl hI
  have S : CallFix p m c cX11_drop 2 s args wsX11_drop RX11 := S
  show W p l e ({ frames := 3, cells := 0, slots := 0, locals := 58 } : Room) s m args below meth c s.heap [] 0 0 (MQ below (va_Qi Q (mPos D (mT cs) A (VT h r q cs)) A) args s 0 0 A) (F0 m 0 ls [])
  generalize hZ : MQ below (va_Qi Q (mPos D (mT cs) A (VT h r q cs)) A) args s 0 0 A = Z
  have hin1 : ∀ w ∈ wsX10, w ∈ wsX11_drop := fun _ h => List.mem_cons_of_mem _ (List.mem_append_left _ (List.mem_append_left _ (List.mem_append_right _ h)))
  have hin7 : ∀ w ∈ wsX70, w ∈ wsX11_drop := fun _ h => List.mem_cons_of_mem _ (List.mem_append_left _ (List.mem_append_right _ h))
  have hin8 : ∀ w ∈ wsX80, w ∈ wsX11_drop := fun _ h => List.mem_cons_of_mem _ (List.mem_append_right _ h)
  have hin11 : ∀ w ∈ wsX110, w ∈ wsX11_drop := fun _ h => List.mem_cons_of_mem _ (List.mem_append_left _ (List.mem_append_left _ (List.mem_append_left _ (List.mem_append_right _ h))))
  have hl : lv_has ls 2 [(0, .ref (h 0)), (1, .int a1)] := hl
  have b37 : ∀ (u : CS), wp_X11_drop_p37 u Q → mGo p l e ({ frames := 3, cells := 0, slots := 0, locals := 58 } : Room) s m args below meth c A Z 2 D (mT cs) (VT h r q cs) 37 [(0, .ref (h 0))] [] u := by
    intro u hw H locs ls hI hl
    unfold wp_X11_drop_p37 at hw
    refine lv_bipush (v := (-5)) S.1 S.2.1 dX11_drop_37 (by decide) ?_
    subst hZ
    exact m_iret S hr hlocks hI hw dX11_drop_39
  have b56 : ∀ (t0 : Int32) (u : CS), wp_X11_drop_p56 t0 u Q → mGo p l e ({ frames := 3, cells := 0, slots := 0, locals := 58 } : Room) s m args below meth c A Z 2 D (mT cs) (VT h r q cs) 56 [(0, .ref (h 0))] [.int t0] u := by
    intro t0 u hw H locs ls hI hl
    unfold wp_X11_drop_p56 at hw
    subst hZ
    exact m_iret S hr hlocks hI hw dX11_drop_56
  unfold wp_X11_drop at hw
  obtain ⟨H, hH⟩ : ∃ z : Heap, z = s.heap := ⟨_, rfl⟩
  obtain ⟨locs, hL⟩ : ∃ z : List Loc, z = [] := ⟨_, rfl⟩
  rw [show W p l e ({ frames := 3, cells := 0, slots := 0, locals := 58 } : Room) s m args below meth c s.heap [] 0 0 Z (F0 m 0 ls []) = W p l e ({ frames := 3, cells := 0, slots := 0, locals := 58 } : Room) s m args below meth c H locs 0 0 Z (F0 m 0 ls []) by rw [hH, hL]]
  replace hI : mI D (mT cs) A s.heap s (VT h r q cs u) H locs := by rw [hH, hL]; exact hI
  refine lv_iload_n S.1 S.2.1 dX11_drop_0 rfl (lv_at hl 1 rfl) ?_
  refine lv_iconst (v := 1) S.1 S.2.1 dX11_drop_1 (by decide) ?_
  refine lv_aload_n S.1 S.2.1 dX11_drop_2 rfl (lv_at hl 0 rfl) ?_
  refine m_vi (As := []) (rest := [.int (1 : Int32), .int a1]) S (VT_self h r q cs) hI rfl (c_X11_stepsInDeed l D h r q cs u _ hw) (cwV 0 S.2.2.2.2 gX11_drop_X11_stepsInDeed rfl rfl rfl (by decide +kernel) ⟨Nat.le_of_ble_eq_true rfl, Nat.le_of_ble_eq_true rfl⟩) (VT_o0 h r q cs u) rfl rfl hl.1 rfl (Nat.le_of_ble_eq_true rfl) dX11_drop_3 ⟨Nat.zero_le _, Nat.zero_le _⟩ (fun y3 u3 H locs hw hI => ?_)
  refine m_si (As := [.int a1, .int (1 : Int32), .int y3]) (rest := []) S hI.2.2.2.1.2.1 (c_X11_within l a1 (1 : Int32) y3 _ hw) (va_cwS 3 S.2.2.2.2 gX11_drop_X11_within rfl rfl rfl (by decide +kernel) ⟨Nat.le_of_ble_eq_true rfl, Nat.le_of_ble_eq_true rfl⟩) rfl hl.1 rfl (Nat.le_of_ble_eq_true rfl) dX11_drop_6 ⟨Nat.zero_le _, Nat.zero_le _⟩ (fun y6 hw => ?_)
  refine lv_if_ne (tgt := 14) S.1 S.2.1 dX11_drop_9 (by decide) (fun c9 => ?_) (fun c9 => ?_)
  · have hw := hw.1 c9
    refine lv_aload_n S.1 S.2.1 dX11_drop_14 rfl (lv_at hl 0 rfl) ?_
    refine m_get S hin11 hI 0 (VT_o0 h r q cs u3) rfl 11 (Nat.le_of_ble_eq_true rfl) (List.mem_of_getElem? (i := 1) rfl) rfl (FO11_at11 _ _ _) dX11_drop_15 ?_
    refine m_getN S hin1 hI 114 (VT_o13 h r q cs u3) rfl 1 (Nat.le_of_ble_eq_true rfl) nf_X11_243 rfl (FO1_at1 _ _ _) dX11_drop_18 ?_
    refine lv_if_eq (tgt := 37) S.1 S.2.1 dX11_drop_21 (by decide) (fun c21 => ?_) (fun c21 => ?_)
    · have hw := hw.1 c21
      exact b37 u3 hw H locs ls hI (lv_sub hl [0] rfl)
    · have hw := hw.2 c21
      refine lv_aload_n S.1 S.2.1 dX11_drop_24 rfl (lv_at hl 0 rfl) ?_
      refine m_get S hin11 hI 0 (VT_o0 h r q cs u3) rfl 11 (Nat.le_of_ble_eq_true rfl) (List.mem_of_getElem? (i := 1) rfl) rfl (FO11_at11 _ _ _) dX11_drop_25 ?_
      refine m_getN S hin1 hI 114 (VT_o13 h r q cs u3) rfl 0 (Nat.le_of_ble_eq_true rfl) nf_X11_247 rfl (FO1_at0 _ _ _) dX11_drop_28 ?_
      refine m_getN S hin7 hI 115 (VT_o14 h r q cs u3) rfl 2 (Nat.le_of_ble_eq_true rfl) nf_X11_152 rfl (Ff7_at2 _ _) dX11_drop_31 ?_
      refine lv_if_ne (tgt := 40) S.1 S.2.1 dX11_drop_34 (by decide) (fun c34 => ?_) (fun c34 => ?_)
      · have hw := hw.1 c34
        refine lv_aload_n S.1 S.2.1 dX11_drop_40 rfl (lv_at hl 0 rfl) ?_
        refine m_get S hin11 hI 0 (VT_o0 h r q cs u3) rfl 11 (Nat.le_of_ble_eq_true rfl) (List.mem_of_getElem? (i := 1) rfl) rfl (FO11_at11 _ _ _) dX11_drop_41 ?_
        refine lv_iload_n S.1 S.2.1 dX11_drop_44 rfl (lv_at hl 1 rfl) ?_
        refine m_vi (cf := fun v => VT h r q cs (emb u3 [13, 14] v)) (As := [.int a1]) (rest := []) S (VT_k_hd_13_14 h r q cs u3) hI (by rw [emb_self]) (c_X1_dropFrom l D (fun i => h ([13, 14].getD i 0)) (fun i => rE r (gI (u3 24) 0) ([13, 14].getD i 0)) (fun i => q ([13, 14].getD i 0)) cs a1 (fun i => u3 ([13, 14].getD i 0)) _ hw) (cwV 1 S.2.2.2.2 gX11_drop_X1_dropFrom rfl rfl rfl (by decide +kernel) ⟨Nat.le_of_ble_eq_true rfl, Nat.le_of_ble_eq_true rfl⟩) rfl rfl rfl hl.1 rfl (Nat.le_of_ble_eq_true rfl) dX11_drop_45 ⟨Nat.zero_le _, Nat.zero_le _⟩ (fun y45 v45 H locs hw hI => ?_)
        obtain ⟨u45, eu45⟩ : ∃ z : CS, z = emb u3 [13, 14] v45 := ⟨_, rfl⟩
        have hw := hw u45 eu45
        replace hI : mI D (mT cs) A s.heap s (VT h r q cs u45) H locs := by rw [eu45]; exact hI
        refine lv_if_eq (tgt := 55) S.1 S.2.1 dX11_drop_48 (by decide) (fun c48 => ?_) (fun c48 => ?_)
        · have hw := hw.1 c48
          refine lv_iconst (v := 0) S.1 S.2.1 dX11_drop_55 (by decide) ?_
          exact b56 (0 : Int32) u45 hw H locs ls hI (lv_sub hl [0] rfl)
        · have hw := hw.2 c48
          refine lv_iconst (v := 1) S.1 S.2.1 dX11_drop_51 (by decide) ?_
          refine lv_goto (tgt := 56) S.1 S.2.1 dX11_drop_52 (by decide) ?_
          exact b56 (1 : Int32) u45 hw H locs ls hI (lv_sub hl [0] rfl)
      · have hw := hw.2 c34
        exact b37 u3 hw H locs ls hI (lv_sub hl [0] rfl)
  · have hw := hw.2 c9
    refine lv_iconst (v := (-1)) S.1 S.2.1 dX11_drop_12 (by decide) ?_
    subst hZ
    exact m_iret S hr hlocks hI hw dX11_drop_13

def wp_X11_drops_p17 (u : CS) (Q : Int32 → CS → Prop) : Prop :=
  Q ((-1) : Int32) u
def wp_X11_drops_p72 (t0 : Int32) (u : CS) (Q : Int32 → CS → Prop) : Prop :=
  Q t0 u
def wp_X11_drops (a1 : Int32) (a2 : Int32) (a3 : Int32) (u : CS) (Q : Int32 → CS → Prop) : Prop :=
  (wp_X11_isShelf a1 (fun y1 => ((y1 = 0 → wp_X11_drops_p17 u Q) ∧ (¬ y1 = 0 → (wp_X11_within a3 (1 : Int32) (20 : Int32) (fun y11 => ((¬ y11 = 0 → (wp_X11_refusesBytes a1 u (fun y21 u21 => ((¬ y21 = ((-12) : Int32) → ((¬ (gI (u21 13) 1) = 0 → ((¬ y21 = ((-11) : Int32) → (vp_in a1 6 ∧ (wp_X11_dropAll_S a1.toNatClampNeg a2 a3 u21 (fun y69 u69 => wp_X11_drops_p72 y69 u69 Q)))) ∧ (y21 = ((-11) : Int32) → wp_X11_drops_p72 (0 : Int32) u21 Q))) ∧ ((gI (u21 13) 1) = 0 → Q ((-5) : Int32) u21))) ∧ (y21 = ((-12) : Int32) → Q ((-12) : Int32) u21))))) ∧ (y11 = 0 → wp_X11_drops_p17 u Q))))))))
set_option maxHeartbeats 4000000 in
set_option maxRecDepth 100000 in
theorem c_X11_drops (l : Launch) (D : va_G) (h : Nat → Nat) (r : Nat → Nat → Nat) (q : Nat → Nat → Nat → Nat) (cs : Nat → ClassId) (a1 : Int32) (a2 : Int32) (a3 : Int32) (u : CS) (Q : Int32 → CS → Prop) (hw : wp_X11_drops a1 a2 a3 u Q) : mCi l yX11_drops wsX11_drops ({ frames := 4, cells := 0, slots := 0, locals := 84 } : Room) 0 0 D (mT cs) (VT h r q cs) [.ref (h 0), .int a1, .int a2, .int a3] u Q := by
  unfold mCi
  refine m_enter (QQ := fun A => va_Qi Q (mPos D (mT cs) A (VT h r q cs)) A) (cc := cX11_drops) (maxL := 5) (ret := (some .int)) (by decide) rfl (Nat.le_of_ble_eq_true rfl) ?_
  intro p e s m args below meth c A ls S hr hlocks hname hl hI
  have S : CallFix p m c cX11_drops 5 s args wsX11_drops RX11 := S
  show W p l e ({ frames := 4, cells := 0, slots := 0, locals := 84 } : Room) s m args below meth c s.heap [] 0 0 (MQ below (va_Qi Q (mPos D (mT cs) A (VT h r q cs)) A) args s 0 0 A) (F0 m 0 ls [])
  generalize hZ : MQ below (va_Qi Q (mPos D (mT cs) A (VT h r q cs)) A) args s 0 0 A = Z
  have hin1 : ∀ w ∈ wsX10, w ∈ wsX11_drops := fun _ h => List.mem_cons_of_mem _ (List.mem_append_left _ (List.mem_append_left _ (List.mem_append_right _ h)))
  have hin6 : ∀ w ∈ wsX60, w ∈ wsX11_drops := fun _ h => List.mem_cons_of_mem _ (List.mem_append_left _ (List.mem_append_right _ h))
  have hin7 : ∀ w ∈ wsX70, w ∈ wsX11_drops := fun _ h => List.mem_cons_of_mem _ (List.mem_append_right _ h)
  have hin11 : ∀ w ∈ wsX110, w ∈ wsX11_drops := fun _ h => List.mem_cons_of_mem _ (List.mem_append_left _ (List.mem_append_left _ (List.mem_append_left _ (List.mem_append_right _ h))))
  have hl : lv_has ls 5 [(0, .ref (h 0)), (1, .int a1), (2, .int a2), (3, .int a3)] := hl
  have b17 : ∀ (u : CS), wp_X11_drops_p17 u Q → mGo p l e ({ frames := 4, cells := 0, slots := 0, locals := 84 } : Room) s m args below meth c A Z 5 D (mT cs) (VT h r q cs) 17 [(0, .ref (h 0))] [] u := by
    intro u hw H locs ls hI hl
    unfold wp_X11_drops_p17 at hw
    refine lv_iconst (v := (-1)) S.1 S.2.1 dX11_drops_17 (by decide) ?_
    subst hZ
    exact m_iret S hr hlocks hI hw dX11_drops_18
  have b72 : ∀ (t0 : Int32) (u : CS), wp_X11_drops_p72 t0 u Q → mGo p l e ({ frames := 4, cells := 0, slots := 0, locals := 84 } : Room) s m args below meth c A Z 5 D (mT cs) (VT h r q cs) 72 [(0, .ref (h 0))] [.int t0] u := by
    intro t0 u hw H locs ls hI hl
    unfold wp_X11_drops_p72 at hw
    subst hZ
    exact m_iret S hr hlocks hI hw dX11_drops_72
  unfold wp_X11_drops at hw
  obtain ⟨H, hH⟩ : ∃ z : Heap, z = s.heap := ⟨_, rfl⟩
  obtain ⟨locs, hL⟩ : ∃ z : List Loc, z = [] := ⟨_, rfl⟩
  rw [show W p l e ({ frames := 4, cells := 0, slots := 0, locals := 84 } : Room) s m args below meth c s.heap [] 0 0 Z (F0 m 0 ls []) = W p l e ({ frames := 4, cells := 0, slots := 0, locals := 84 } : Room) s m args below meth c H locs 0 0 Z (F0 m 0 ls []) by rw [hH, hL]]
  replace hI : mI D (mT cs) A s.heap s (VT h r q cs u) H locs := by rw [hH, hL]; exact hI
  refine lv_iload_n S.1 S.2.1 dX11_drops_0 rfl (lv_at hl 1 rfl) ?_
  refine m_si (As := [.int a1]) (rest := []) S hI.2.2.2.1.2.1 (c_X11_isShelf l a1 _ hw) (va_cwS 1 S.2.2.2.2 gX11_drops_X11_isShelf rfl rfl rfl (by decide +kernel) ⟨Nat.le_of_ble_eq_true rfl, Nat.le_of_ble_eq_true rfl⟩) rfl hl.1 rfl (Nat.le_of_ble_eq_true rfl) dX11_drops_1 ⟨Nat.zero_le _, Nat.zero_le _⟩ (fun y1 hw => ?_)
  refine lv_if_eq (tgt := 17) S.1 S.2.1 dX11_drops_4 (by decide) (fun c4 => ?_) (fun c4 => ?_)
  · have hw := hw.1 c4
    exact b17 u hw H locs ls hI (lv_sub hl [0] rfl)
  · have hw := hw.2 c4
    refine lv_iload_n S.1 S.2.1 dX11_drops_7 rfl (lv_at hl 3 rfl) ?_
    refine lv_iconst (v := 1) S.1 S.2.1 dX11_drops_8 (by decide) ?_
    refine lv_bipush (v := 20) S.1 S.2.1 dX11_drops_9 (by decide) ?_
    refine m_si (As := [.int a3, .int (1 : Int32), .int (20 : Int32)]) (rest := []) S hI.2.2.2.1.2.1 (c_X11_within l a3 (1 : Int32) (20 : Int32) _ hw) (va_cwS 3 S.2.2.2.2 gX11_drops_X11_within rfl rfl rfl (by decide +kernel) ⟨Nat.le_of_ble_eq_true rfl, Nat.le_of_ble_eq_true rfl⟩) rfl hl.1 rfl (Nat.le_of_ble_eq_true rfl) dX11_drops_11 ⟨Nat.zero_le _, Nat.zero_le _⟩ (fun y11 hw => ?_)
    refine lv_if_ne (tgt := 19) S.1 S.2.1 dX11_drops_14 (by decide) (fun c14 => ?_) (fun c14 => ?_)
    · have hw := hw.1 c14
      refine lv_aload_n S.1 S.2.1 dX11_drops_19 rfl (lv_at hl 0 rfl) ?_
      refine lv_iload_n S.1 S.2.1 dX11_drops_20 rfl (lv_at hl 1 rfl) ?_
      refine m_vi (As := [.int a1]) (rest := []) S (VT_self h r q cs) hI rfl (c_X11_refusesBytes l D h r q cs a1 u _ hw) (cwV 1 S.2.2.2.2 gX11_drops_X11_refusesBytes rfl rfl rfl (by decide +kernel) ⟨Nat.le_of_ble_eq_true rfl, Nat.le_of_ble_eq_true rfl⟩) (VT_o0 h r q cs u) rfl rfl hl.1 rfl (Nat.le_of_ble_eq_true rfl) dX11_drops_21 ⟨Nat.zero_le _, Nat.zero_le _⟩ (fun y21 u21 H locs hw hI => ?_)
      refine lv_istore (lv' := [(4, .int y21), (0, .ref (h 0)), (1, .int a1), (2, .int a2), (3, .int a3)]) S.1 S.2.1 dX11_drops_24 hl (by decide) rfl (fun ls hl => ?_)
      refine lv_iload S.1 S.2.1 dX11_drops_26 (lv_at hl 0 rfl) ?_
      refine lv_bipush (v := (-12)) S.1 S.2.1 dX11_drops_28 (by decide) ?_
      refine lv_icmp_ne (tgt := 36) S.1 S.2.1 dX11_drops_30 (by decide) (fun c30 => ?_) (fun c30 => ?_)
      · have hw := hw.1 c30
        refine lv_aload_n S.1 S.2.1 dX11_drops_36 rfl (lv_at hl 1 rfl) ?_
        refine m_get S hin11 hI 0 (VT_o0 h r q cs u21) rfl 11 (Nat.le_of_ble_eq_true rfl) (List.mem_of_getElem? (i := 1) rfl) rfl (FO11_at11 _ _ _) dX11_drops_37 ?_
        refine m_getN S hin1 hI 114 (VT_o13 h r q cs u21) rfl 1 (Nat.le_of_ble_eq_true rfl) nf_X11_243 rfl (FO1_at1 _ _ _) dX11_drops_40 ?_
        refine lv_if_ne (tgt := 49) S.1 S.2.1 dX11_drops_43 (by decide) (fun c43 => ?_) (fun c43 => ?_)
        · have hw := hw.1 c43
          refine lv_iload S.1 S.2.1 dX11_drops_49 (lv_at hl 0 rfl) ?_
          refine lv_bipush (v := (-11)) S.1 S.2.1 dX11_drops_51 (by decide) ?_
          refine lv_icmp_ne (tgt := 60) S.1 S.2.1 dX11_drops_53 (by decide) (fun c53 => ?_) (fun c53 => ?_)
          · have hw := hw.1 c53
            refine lv_aload_n S.1 S.2.1 dX11_drops_60 rfl (lv_at hl 1 rfl) ?_
            refine lv_aload_n S.1 S.2.1 dX11_drops_61 rfl (lv_at hl 1 rfl) ?_
            refine m_get S hin11 hI 0 (VT_o0 h r q cs u21) rfl 14 (Nat.le_of_ble_eq_true rfl) (List.mem_of_getElem? (i := 2) rfl) rfl (FO11_at14 _ _ _) dX11_drops_62 ?_
            refine lv_iload_n S.1 S.2.1 dX11_drops_65 rfl (lv_at hl 2 rfl) ?_
            have hj66 := mlt hw.1
            refine m_aals S hI 1 5 (VT_sh h r q cs u21) rfl hw.1 dX11_drops_66 ?_
            have hw := hw.2
            rw [show h (0 + (18 + a1.toNatClampNeg)) = h (18 + a1.toNatClampNeg) from congrArg h (Nat.zero_add _)]
            refine lv_iload_n S.1 S.2.1 dX11_drops_67 rfl (lv_at hl 3 rfl) ?_
            refine lv_iload_n S.1 S.2.1 dX11_drops_68 rfl (lv_at hl 4 rfl) ?_
            refine m_vi (As := [.ref (h (18 + a1.toNatClampNeg)), .int a2, .int a3]) (rest := []) S (VT_self h r q cs) hI rfl (c_X11_dropAll_S l D h r q cs a1.toNatClampNeg hj66 a2 a3 u21 _ hw) (cwV 3 S.2.2.2.2 gX11_drops_X11_dropAll rfl rfl rfl (by decide +kernel) ⟨Nat.le_of_ble_eq_true rfl, Nat.le_of_ble_eq_true rfl⟩) (VT_o0 h r q cs u21) rfl rfl hl.1 rfl (Nat.le_of_ble_eq_true rfl) dX11_drops_69 ⟨Nat.zero_le _, Nat.zero_le _⟩ (fun y69 u69 H locs hw hI => ?_)
            exact b72 y69 u69 hw H locs ls hI (lv_sub hl [1] rfl)
          · have hw := hw.2 c53
            refine lv_iconst (v := 0) S.1 S.2.1 dX11_drops_56 (by decide) ?_
            refine lv_goto (tgt := 72) S.1 S.2.1 dX11_drops_57 (by decide) ?_
            exact b72 (0 : Int32) u21 hw H locs ls hI (lv_sub hl [1] rfl)
        · have hw := hw.2 c43
          refine lv_bipush (v := (-5)) S.1 S.2.1 dX11_drops_46 (by decide) ?_
          subst hZ
          exact m_iret S hr hlocks hI hw dX11_drops_48
      · have hw := hw.2 c30
        refine lv_bipush (v := (-12)) S.1 S.2.1 dX11_drops_33 (by decide) ?_
        subst hZ
        exact m_iret S hr hlocks hI hw dX11_drops_35
    · have hw := hw.2 c14
      exact b17 u hw H locs ls hI (lv_sub hl [0] rfl)

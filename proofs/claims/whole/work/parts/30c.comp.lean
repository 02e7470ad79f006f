/-! laid by program: X11_listen_S, X11_heightFor, X11_stepsInDeed, X11_dropsInDeed, X11_dropAll_S, X11_mend, X11_of, X11_feed, X11_law, X11_weight, X11_worst, X11_reach, X11_mean, X11_meanFirst -/
theorem VT_sI0_15 (h : Nat → Nat) (r : Nat → Nat → Nat) (q : Nat → Nat → Nat → Nat) (cs : Nat → ClassId) (U u9 : CS) (x : Int32) (e : u9 = mu U 0 (sI (U 0) 15 x)) : (VT h r q cs U).set 0 (h 0, .inr (11, (FO11 (fun i => h (0 + i)) (r 0) (U 0)).set 15 (.int x))) = VT h r q cs u9 := by subst e; rfl
def wp_X11_listen_S_p69 (s9 : Nat) (x2 : Int32) (u : CS) (Q : Int32 → CS → Prop) : Prop :=
  (¬ (2 : Int32) = 0 ∧ ∀ y71 : Int32, y71 = x2 / (2 : Int32) → Q y71 u)
def wp_X11_listen_S_p117 (s9 : Nat) (x2 : Int32) (t1 : Int32) (t2 : Int32) (u : CS) (B29 : Int32 → CS → Prop) (Q : Int32 → CS → Prop) : Prop :=
  (wp_X7_part t1 t2 (u 12) (fun v117 => ∀ u117 : CS, u117 = mu u 12 v117 → (∀ y120 : Int32, y120 = x2 + 2 → B29 y120 u117)))
def wp_X11_listen_S_p95 (s9 : Nat) (x2 : Int32) (x3 : Int32) (u : CS) (B29 : Int32 → CS → Prop) (Q : Int32 → CS → Prop) : Prop :=
  (∀ y103 : Int32, y103 = x2 + (1 : Int32) → (wp_X6_get y103 (u (18 + s9)) (fun y104 v104 => ∀ u104 : CS, u104 = mu u (18 + s9) v104 → (∀ y108 : Int32, y108 = lg_cmp y104 (1 : Int64) → ((¬ y108 = 0 → wp_X11_listen_S_p117 s9 x2 x3 (0 : Int32) u104 B29 Q) ∧ (y108 = 0 → wp_X11_listen_S_p117 s9 x2 x3 (1 : Int32) u104 B29 Q))))))
def wp_X11_listen_S_p29b (s9 : Nat) (x2 : Int32) (u : CS) (B29 : Int32 → CS → Prop) (Q : Int32 → CS → Prop) : Prop :=
  (((gI (u (18 + s9)) 3) ≤ x2 → Q ((-2) : Int32) u) ∧ (¬ (gI (u (18 + s9)) 3) ≤ x2 → (wp_X6_get x2 (u (18 + s9)) (fun y39 v39 => ∀ u39 : CS, u39 = mu u (18 + s9) v39 → (∀ y42 : Int32, y42 = y39.toInt32 → (∀ y46 : Int32, y46 = x2 + (1 : Int32) → (((gI (u39 (18 + s9)) 3) ≤ y46 → wp_X11_listen_S_p69 s9 x2 u39 Q) ∧ (¬ (gI (u39 (18 + s9)) 3) ≤ y46 → (∀ y59 : Int32, y59 = x2 + (1 : Int32) → (wp_X6_get y59 (u39 (18 + s9)) (fun y60 v60 => ∀ u60 : CS, u60 = mu u39 (18 + s9) v60 → (wp_X11_canBe y42 y60 u60 (fun y63 u63 => ((¬ y63 = 0 → (wp_X11_isWise_12 y42 u63 (fun y79 u79 => ((y79 = 0 → wp_X11_listen_S_p95 s9 x2 y42 u79 B29 Q) ∧ (¬ y79 = 0 → (∀ y91 : Int32, y91 = (gI (u79 0) 15) + (1 : Int32) → (∀ u92 : CS, u92 = mu u79 0 (sI (u79 0) 15 y91) → wp_X11_listen_S_p95 s9 x2 y42 u92 B29 Q))))))) ∧ (y63 = 0 → wp_X11_listen_S_p69 s9 x2 u63 Q)))))))))))))))
def wp_X11_listen_S_p29 (s9 : Nat) (x2 : Int32) (u : CS) (Q : Int32 → CS → Prop) : Prop := ∃ (I : Int32 → CS → Prop) (μ : Int32 → CS → Nat), I x2 u ∧ ∀ (x2 : Int32) (u : CS), I x2 u → wp_X11_listen_S_p29b s9 x2 u (fun yx2 yu => I yx2 yu ∧ μ yx2 yu < μ x2 u) Q
def wp_X11_listen_S (s9 : Nat) (u : CS) (Q : Int32 → CS → Prop) : Prop :=
  (wp_X8_steps (u 1) (fun y9 v9 => ∀ u9 : CS, u9 = mu u 1 v9 → (wp_X8_jars (u9 1) (fun y16 v16 => ∀ u16 : CS, u16 = mu u9 1 v16 → (wp_X7_become (0 : Int32) y9 y16 (u16 12) (fun v19 => ∀ u19 : CS, u19 = mu u16 12 v19 → (∀ u24 : CS, u24 = mu u19 0 (sI (u19 0) 15 (0 : Int32)) → wp_X11_listen_S_p29 s9 (0 : Int32) u24 Q)))))))
set_option maxHeartbeats 4000000 in
set_option maxRecDepth 100000 in
theorem c_X11_listen_S (l : Launch) (D : va_G) (h : Nat → Nat) (r : Nat → Nat → Nat) (q : Nat → Nat → Nat → Nat) (cs : Nat → ClassId) (s9 : Nat) (hs9 : s9 < 6) (u : CS) (Q : Int32 → CS → Prop) (hw : wp_X11_listen_S s9 u Q) : mCi l yX11_listen wsX11_listen ({ frames := 5, cells := 0, slots := 0, locals := 119 } : Room) 0 0 D (mT cs) (VT h r q cs) [.ref (h 0), .ref (h (18 + s9))] u Q := by
  unfold mCi
  refine m_enter (QQ := fun A => va_Qi Q (mPos D (mT cs) A (VT h r q cs)) A) (cc := cX11_listen) (maxL := 4) (ret := (some .int)) (by decide) rfl (Nat.le_of_ble_eq_true rfl) ?_
  intro p e s m args below meth c A ls S hr hlocks hname hl hI
  have S : CallFix p m c cX11_listen 4 s args wsX11_listen RX11 := S
  show W p l e ({ frames := 5, cells := 0, slots := 0, locals := 119 } : Room) s m args below meth c s.heap [] 0 0 (MQ below (va_Qi Q (mPos D (mT cs) A (VT h r q cs)) A) args s 0 0 A) (F0 m 0 ls [])
  generalize hZ : MQ below (va_Qi Q (mPos D (mT cs) A (VT h r q cs)) A) args s 0 0 A = Z
  have hin2 : ∀ w ∈ wsX20, w ∈ wsX11_listen := fun _ h => List.mem_cons_of_mem _ (List.mem_append_right _ h)
  have hin6 : ∀ w ∈ wsX60, w ∈ wsX11_listen := fun _ h => List.mem_cons_of_mem _ (List.mem_append_left _ (List.mem_append_left _ (List.mem_append_left _ (List.mem_append_right _ h))))
  have hin7 : ∀ w ∈ wsX70, w ∈ wsX11_listen := fun _ h => List.mem_cons_of_mem _ (List.mem_append_left _ (List.mem_append_right _ h))
  have hin8 : ∀ w ∈ wsX80, w ∈ wsX11_listen := fun _ h => List.mem_cons_of_mem _ (List.mem_append_left _ (List.mem_append_left _ (List.mem_append_right _ h)))
  have hin11 : ∀ w ∈ wsX110, w ∈ wsX11_listen := fun _ h => List.mem_cons_of_mem _ (List.mem_append_left _ (List.mem_append_left _ (List.mem_append_left _ (List.mem_append_left _ (List.mem_append_right _ h)))))
  have hl : lv_has ls 4 [(0, .ref (h 0)), (1, .ref (h (18 + s9)))] := hl
  have b69 : ∀ (x2 : Int32) (u : CS), wp_X11_listen_S_p69 s9 x2 u Q → mGo p l e ({ frames := 5, cells := 0, slots := 0, locals := 119 } : Room) s m args below meth c A Z 4 D (mT cs) (VT h r q cs) 69 [(0, .ref (h 0)), (2, .int x2)] [] u := by
    intro x2 u hw H locs ls hI hl
    unfold wp_X11_listen_S_p69 at hw
    refine lv_iload_n S.1 S.2.1 dX11_listen_69 rfl (lv_at hl 1 rfl) ?_
    refine lv_iconst (v := 2) S.1 S.2.1 dX11_listen_70 (by decide) ?_
    refine lv_idiv S.1 S.2.1 dX11_listen_71 hw.1 ?_
    have hw := hw.2
    refine lv_topi (fun y71 ey71 => ?_)
    have hw := hw y71 ey71
    subst hZ
    exact m_iret S hr hlocks hI hw dX11_listen_72
  have b117 : ∀ (B29 : Int32 → CS → Prop), (∀ (x2 : Int32) (u : CS), B29 x2 u → mGo p l e ({ frames := 5, cells := 0, slots := 0, locals := 119 } : Room) s m args below meth c A Z 4 D (mT cs) (VT h r q cs) 29 [(0, .ref (h 0)), (1, .ref (h (18 + s9))), (2, .int x2)] [] u) → ∀ (x2 : Int32) (t1 : Int32) (t2 : Int32) (u : CS), s9 < 6 → wp_X11_listen_S_p117 s9 x2 t1 t2 u B29 Q → mGo p l e ({ frames := 5, cells := 0, slots := 0, locals := 119 } : Room) s m args below meth c A Z 4 D (mT cs) (VT h r q cs) 117 [(0, .ref (h 0)), (1, .ref (h (18 + s9))), (2, .int x2)] [.int t2, .int t1, .ref (h 12)] u := by
    intro B29 hB29 x2 t1 t2 u hq1 hw H locs ls hI hl
    unfold wp_X11_listen_S_p117 at hw
    refine m_vv (cf := fun v => VT h r q cs (mu u 12 v)) (As := [.int t1, .int t2]) (rest := []) S (VT_c12 h r q cs u) hI (by rw [mu_self]) (c_X7_part l D (h 12) (r 12) cs t1 t2 (u 12) _ hw) (cwV 2 S.2.2.2.2 gX11_listen_X7_part rfl rfl rfl (by decide +kernel) ⟨Nat.le_of_ble_eq_true rfl, Nat.le_of_ble_eq_true rfl⟩) rfl rfl rfl hl.1 rfl (Nat.le_of_ble_eq_true rfl) dX11_listen_117 ⟨Nat.zero_le _, Nat.zero_le _⟩ (fun v117 H locs hw hI => ?_)
    obtain ⟨u117, eu117⟩ : ∃ z : CS, z = mu u 12 v117 := ⟨_, rfl⟩
    have hw := hw u117 eu117
    replace hI : mI D (mT cs) A s.heap s (VT h r q cs u117) H locs := by rw [eu117]; exact hI
    obtain ⟨y120, ey120⟩ : ∃ z : Int32, z = x2 + 2 := ⟨_, rfl⟩
    have hw := hw y120 ey120
    refine lv_iinc (v := y120) (lv' := [(2, .int y120), (0, .ref (h 0)), (1, .ref (h (18 + s9)))]) S.1 S.2.1 dX11_listen_120 hl (k := 2) rfl (by rw [ey120]; rfl) (by decide) rfl (fun ls hl => ?_)
    refine lv_goto (tgt := 29) S.1 S.2.1 dX11_listen_123 (by decide) ?_
    exact hB29 y120 u117 hw H locs ls hI (lv_sub hl [1, 2, 0] rfl)
  have b95 : ∀ (B29 : Int32 → CS → Prop), (∀ (x2 : Int32) (u : CS), B29 x2 u → mGo p l e ({ frames := 5, cells := 0, slots := 0, locals := 119 } : Room) s m args below meth c A Z 4 D (mT cs) (VT h r q cs) 29 [(0, .ref (h 0)), (1, .ref (h (18 + s9))), (2, .int x2)] [] u) → ∀ (x2 : Int32) (x3 : Int32) (u : CS), s9 < 6 → wp_X11_listen_S_p95 s9 x2 x3 u B29 Q → mGo p l e ({ frames := 5, cells := 0, slots := 0, locals := 119 } : Room) s m args below meth c A Z 4 D (mT cs) (VT h r q cs) 95 [(0, .ref (h 0)), (1, .ref (h (18 + s9))), (2, .int x2), (3, .int x3)] [] u := by
    intro B29 hB29 x2 x3 u hq1 hw H locs ls hI hl
    unfold wp_X11_listen_S_p95 at hw
    refine lv_aload_n S.1 S.2.1 dX11_listen_95 rfl (lv_at hl 0 rfl) ?_
    refine m_get S hin11 hI 0 (VT_o0 h r q cs u) rfl 10 (Nat.le_of_ble_eq_true rfl) (List.mem_of_getElem? (i := 1) rfl) rfl (FO11_at10 _ _ _) dX11_listen_96 ?_
    refine lv_iload_n S.1 S.2.1 dX11_listen_99 rfl (lv_at hl 3 rfl) ?_
    refine lv_aload_n S.1 S.2.1 dX11_listen_100 rfl (lv_at hl 1 rfl) ?_
    refine lv_iload_n S.1 S.2.1 dX11_listen_101 rfl (lv_at hl 2 rfl) ?_
    refine lv_iconst (v := 1) S.1 S.2.1 dX11_listen_102 (by decide) ?_
    refine lv_iadd S.1 S.2.1 dX11_listen_103 ?_
    refine lv_topi (fun y103 ey103 => ?_)
    have hw := hw y103 ey103
    refine m_vl (cf := fun v => VT h r q cs (mu u (18 + s9) v)) (As := [.int y103]) (rest := [.int x3, .ref (h 12)]) S (VT_cS h r q cs u hq1) hI (by rw [mu_self]) (c_X6_get l D (h (18 + s9)) (r (18 + s9)) cs y103 (u (18 + s9)) _ hw) (cwV 1 S.2.2.2.2 gX11_listen_X6_get rfl rfl rfl (by decide +kernel) ⟨Nat.le_of_ble_eq_true rfl, Nat.le_of_ble_eq_true rfl⟩) rfl rfl rfl hl.1 rfl (Nat.le_of_ble_eq_true rfl) dX11_listen_104 ⟨Nat.zero_le _, Nat.zero_le _⟩ (fun y104 v104 H locs hw hI => ?_)
    obtain ⟨u104, eu104⟩ : ∃ z : CS, z = mu u (18 + s9) v104 := ⟨_, rfl⟩
    have hw := hw u104 eu104
    replace hI : mI D (mT cs) A s.heap s (VT h r q cs u104) H locs := by rw [eu104]; exact hI
    refine lv_lconst (v := 1) S.1 S.2.1 dX11_listen_107 (by decide) ?_
    refine W.lcmp S.1 S.2.1 dX11_listen_108 ?_
    refine lv_topi (fun y108 ey108 => ?_)
    have hw := hw y108 ey108
    refine lv_if_ne (tgt := 116) S.1 S.2.1 dX11_listen_109 (by decide) (fun c109 => ?_) (fun c109 => ?_)
    · have hw := hw.1 c109
      refine lv_iconst (v := 0) S.1 S.2.1 dX11_listen_116 (by decide) ?_
      exact b117 B29 hB29 x2 x3 (0 : Int32) u104 hq1 hw H locs ls hI (lv_sub hl [0, 1, 2] rfl)
    · have hw := hw.2 c109
      refine lv_iconst (v := 1) S.1 S.2.1 dX11_listen_112 (by decide) ?_
      refine lv_goto (tgt := 117) S.1 S.2.1 dX11_listen_113 (by decide) ?_
      exact b117 B29 hB29 x2 x3 (1 : Int32) u104 hq1 hw H locs ls hI (lv_sub hl [0, 1, 2] rfl)
  have b29b : ∀ (B29 : Int32 → CS → Prop), (∀ (x2 : Int32) (u : CS), B29 x2 u → mGo p l e ({ frames := 5, cells := 0, slots := 0, locals := 119 } : Room) s m args below meth c A Z 4 D (mT cs) (VT h r q cs) 29 [(0, .ref (h 0)), (1, .ref (h (18 + s9))), (2, .int x2)] [] u) → ∀ (x2 : Int32) (u : CS), s9 < 6 → wp_X11_listen_S_p29b s9 x2 u B29 Q → mGo p l e ({ frames := 5, cells := 0, slots := 0, locals := 119 } : Room) s m args below meth c A Z 4 D (mT cs) (VT h r q cs) 29 [(0, .ref (h 0)), (1, .ref (h (18 + s9))), (2, .int x2)] [] u := by
    intro B29 hB29 x2 u hq1 hw H locs ls hI hl
    unfold wp_X11_listen_S_p29b at hw
    refine lv_iload_n S.1 S.2.1 dX11_listen_29 rfl (lv_at hl 2 rfl) ?_
    refine lv_aload_n S.1 S.2.1 dX11_listen_30 rfl (lv_at hl 1 rfl) ?_
    refine m_getN S hin6 hI (121 + 2 * s9) (VT_oS h r q cs u hq1) rfl 3 (Nat.le_of_ble_eq_true rfl) nf_X11_378 rfl (Ff6_at3 _ _) dX11_listen_31 ?_
    refine lv_icmp_ge (tgt := 126) S.1 S.2.1 dX11_listen_34 (by decide) (fun c34 => ?_) (fun c34 => ?_)
    · have hw := hw.1 c34
      refine lv_bipush (v := (-2)) S.1 S.2.1 dX11_listen_126 (by decide) ?_
      subst hZ
      exact m_iret S hr hlocks hI hw dX11_listen_128
    · have hw := hw.2 c34
      refine lv_aload_n S.1 S.2.1 dX11_listen_37 rfl (lv_at hl 1 rfl) ?_
      refine lv_iload_n S.1 S.2.1 dX11_listen_38 rfl (lv_at hl 2 rfl) ?_
      refine m_vl (cf := fun v => VT h r q cs (mu u (18 + s9) v)) (As := [.int x2]) (rest := []) S (VT_cS h r q cs u hq1) hI (by rw [mu_self]) (c_X6_get l D (h (18 + s9)) (r (18 + s9)) cs x2 (u (18 + s9)) _ hw) (cwV 1 S.2.2.2.2 gX11_listen_X6_get rfl rfl rfl (by decide +kernel) ⟨Nat.le_of_ble_eq_true rfl, Nat.le_of_ble_eq_true rfl⟩) rfl rfl rfl hl.1 rfl (Nat.le_of_ble_eq_true rfl) dX11_listen_39 ⟨Nat.zero_le _, Nat.zero_le _⟩ (fun y39 v39 H locs hw hI => ?_)
      obtain ⟨u39, eu39⟩ : ∃ z : CS, z = mu u (18 + s9) v39 := ⟨_, rfl⟩
      have hw := hw u39 eu39
      replace hI : mI D (mT cs) A s.heap s (VT h r q cs u39) H locs := by rw [eu39]; exact hI
      refine lv_l2i S.1 S.2.1 dX11_listen_42 rfl ?_
      refine lv_topi (fun y42 ey42 => ?_)
      have hw := hw y42 ey42
      refine lv_istore_n (lv' := [(3, .int y42), (0, .ref (h 0)), (1, .ref (h (18 + s9))), (2, .int x2)]) S.1 S.2.1 dX11_listen_43 rfl hl (by decide) rfl (fun ls hl => ?_)
      refine lv_iload_n S.1 S.2.1 dX11_listen_44 rfl (lv_at hl 3 rfl) ?_
      refine lv_iconst (v := 1) S.1 S.2.1 dX11_listen_45 (by decide) ?_
      refine lv_iadd S.1 S.2.1 dX11_listen_46 ?_
      refine lv_topi (fun y46 ey46 => ?_)
      have hw := hw y46 ey46
      refine lv_aload_n S.1 S.2.1 dX11_listen_47 rfl (lv_at hl 2 rfl) ?_
      refine m_getN S hin6 hI (121 + 2 * s9) (VT_oS h r q cs u39 hq1) rfl 3 (Nat.le_of_ble_eq_true rfl) nf_X11_378 rfl (Ff6_at3 _ _) dX11_listen_48 ?_
      refine lv_icmp_ge (tgt := 69) S.1 S.2.1 dX11_listen_51 (by decide) (fun c51 => ?_) (fun c51 => ?_)
      · have hw := hw.1 c51
        exact b69 x2 u39 hw H locs ls hI (lv_sub hl [1, 3] rfl)
      · have hw := hw.2 c51
        refine lv_aload_n S.1 S.2.1 dX11_listen_54 rfl (lv_at hl 1 rfl) ?_
        refine lv_iload_n S.1 S.2.1 dX11_listen_55 rfl (lv_at hl 0 rfl) ?_
        refine lv_aload_n S.1 S.2.1 dX11_listen_56 rfl (lv_at hl 2 rfl) ?_
        refine lv_iload_n S.1 S.2.1 dX11_listen_57 rfl (lv_at hl 3 rfl) ?_
        refine lv_iconst (v := 1) S.1 S.2.1 dX11_listen_58 (by decide) ?_
        refine lv_iadd S.1 S.2.1 dX11_listen_59 ?_
        refine lv_topi (fun y59 ey59 => ?_)
        have hw := hw y59 ey59
        refine m_vl (cf := fun v => VT h r q cs (mu u39 (18 + s9) v)) (As := [.int y59]) (rest := [.int y42, .ref (h 0)]) S (VT_cS h r q cs u39 hq1) hI (by rw [mu_self]) (c_X6_get l D (h (18 + s9)) (r (18 + s9)) cs y59 (u39 (18 + s9)) _ hw) (cwV 1 S.2.2.2.2 gX11_listen_X6_get rfl rfl rfl (by decide +kernel) ⟨Nat.le_of_ble_eq_true rfl, Nat.le_of_ble_eq_true rfl⟩) rfl rfl rfl hl.1 rfl (Nat.le_of_ble_eq_true rfl) dX11_listen_60 ⟨Nat.zero_le _, Nat.zero_le _⟩ (fun y60 v60 H locs hw hI => ?_)
        obtain ⟨u60, eu60⟩ : ∃ z : CS, z = mu u39 (18 + s9) v60 := ⟨_, rfl⟩
        have hw := hw u60 eu60
        replace hI : mI D (mT cs) A s.heap s (VT h r q cs u60) H locs := by rw [eu60]; exact hI
        refine m_vi (As := [.int y42, .long y60]) (rest := []) S (VT_self h r q cs) hI rfl (c_X11_canBe l D h r q cs y42 y60 u60 _ hw) (cwV 2 S.2.2.2.2 gX11_listen_X11_canBe rfl rfl rfl (by decide +kernel) ⟨Nat.le_of_ble_eq_true rfl, Nat.le_of_ble_eq_true rfl⟩) (VT_o0 h r q cs u60) rfl rfl hl.1 rfl (Nat.le_of_ble_eq_true rfl) dX11_listen_63 ⟨Nat.zero_le _, Nat.zero_le _⟩ (fun y63 u63 H locs hw hI => ?_)
        refine lv_if_ne (tgt := 73) S.1 S.2.1 dX11_listen_66 (by decide) (fun c66 => ?_) (fun c66 => ?_)
        · have hw := hw.1 c66
          refine lv_aload_n S.1 S.2.1 dX11_listen_73 rfl (lv_at hl 1 rfl) ?_
          refine lv_aload_n S.1 S.2.1 dX11_listen_74 rfl (lv_at hl 1 rfl) ?_
          refine m_get S hin11 hI 0 (VT_o0 h r q cs u63) rfl 10 (Nat.le_of_ble_eq_true rfl) (List.mem_of_getElem? (i := 1) rfl) rfl (FO11_at10 _ _ _) dX11_listen_75 ?_
          refine lv_iload_n S.1 S.2.1 dX11_listen_78 rfl (lv_at hl 0 rfl) ?_
          refine m_vi (As := [.ref (h 12), .int y42]) (rest := []) S (VT_self h r q cs) hI rfl (c_X11_isWise_12 l D h r q cs y42 u63 _ hw) (cwV 2 S.2.2.2.2 gX11_listen_X11_isWise rfl rfl rfl (by decide +kernel) ⟨Nat.le_of_ble_eq_true rfl, Nat.le_of_ble_eq_true rfl⟩) (VT_o0 h r q cs u63) rfl rfl hl.1 rfl (Nat.le_of_ble_eq_true rfl) dX11_listen_79 ⟨Nat.zero_le _, Nat.zero_le _⟩ (fun y79 u79 H locs hw hI => ?_)
          refine lv_if_eq (tgt := 95) S.1 S.2.1 dX11_listen_82 (by decide) (fun c82 => ?_) (fun c82 => ?_)
          · have hw := hw.1 c82
            exact b95 B29 hB29 x2 y42 u79 hq1 hw H locs ls hI (lv_sub hl [1, 2, 3, 0] rfl)
          · have hw := hw.2 c82
            refine lv_aload_n S.1 S.2.1 dX11_listen_85 rfl (lv_at hl 1 rfl) ?_
            refine lv_dup S.1 S.2.1 dX11_listen_86 rfl ?_
            refine m_get S hin11 hI 0 (VT_o0 h r q cs u79) rfl 15 (Nat.le_of_ble_eq_true rfl) (List.mem_of_getElem? (i := 3) rfl) rfl (FO11_at15 _ _ _) dX11_listen_87 ?_
            refine lv_iconst (v := 1) S.1 S.2.1 dX11_listen_90 (by decide) ?_
            refine lv_iadd S.1 S.2.1 dX11_listen_91 ?_
            refine lv_topi (fun y91 ey91 => ?_)
            have hw := hw y91 ey91
            obtain ⟨u92, eu92⟩ : ∃ z : CS, z = mu u79 0 (sI (u79 0) 15 y91) := ⟨_, rfl⟩
            have hw := hw u92 eu92
            refine m_put S hin11 tyX11_ok nmX11 hI 0 (VT_o0 h r q cs u79) rfl 15 (Nat.le_of_ble_eq_true rfl) (List.mem_of_getElem? (i := 3) rfl) rfl rfl rfl rfl (Nat.le_of_ble_eq_true rfl) (VT_sI0_15 h r q cs u79 u92 y91 eu92) dX11_listen_92 (fun H locs hI => ?_)
            exact b95 B29 hB29 x2 y42 u92 hq1 hw H locs ls hI (lv_sub hl [1, 2, 3, 0] rfl)
        · have hw := hw.2 c66
          exact b69 x2 u63 hw H locs ls hI (lv_sub hl [1, 3] rfl)
  have b29 : ∀ (x2 : Int32) (u : CS), s9 < 6 → wp_X11_listen_S_p29 s9 x2 u Q → mGo p l e ({ frames := 5, cells := 0, slots := 0, locals := 119 } : Room) s m args below meth c A Z 4 D (mT cs) (VT h r q cs) 29 [(0, .ref (h 0)), (1, .ref (h (18 + s9))), (2, .int x2)] [] u := by
    intro x2 u hq1 hw
    obtain ⟨I, μ, h0, hs⟩ := hw
    have key : ∀ (n : Nat) (x2 : Int32) (u : CS), μ x2 u = n → I x2 u → mGo p l e ({ frames := 5, cells := 0, slots := 0, locals := 119 } : Room) s m args below meth c A Z 4 D (mT cs) (VT h r q cs) 29 [(0, .ref (h 0)), (1, .ref (h (18 + s9))), (2, .int x2)] [] u := by
      intro n
      induction n using Nat.strongRecOn with
      | ind n ih =>
        intro x2 u hn hi
        exact b29b (fun yx2 yu => I yx2 yu ∧ μ yx2 yu < μ x2 u) (fun yx2 yu hb => ih _ (hn ▸ hb.2) yx2 yu rfl hb.1) x2 u hq1 (hs x2 u hi)
    exact key _ x2 u rfl h0
  unfold wp_X11_listen_S at hw
  obtain ⟨H, hH⟩ : ∃ z : Heap, z = s.heap := ⟨_, rfl⟩
  obtain ⟨locs, hL⟩ : ∃ z : List Loc, z = [] := ⟨_, rfl⟩
  rw [show W p l e ({ frames := 5, cells := 0, slots := 0, locals := 119 } : Room) s m args below meth c s.heap [] 0 0 Z (F0 m 0 ls []) = W p l e ({ frames := 5, cells := 0, slots := 0, locals := 119 } : Room) s m args below meth c H locs 0 0 Z (F0 m 0 ls []) by rw [hH, hL]]
  replace hI : mI D (mT cs) A s.heap s (VT h r q cs u) H locs := by rw [hH, hL]; exact hI
  refine lv_aload_n S.1 S.2.1 dX11_listen_0 rfl (lv_at hl 0 rfl) ?_
  refine m_get S hin11 hI 0 (VT_o0 h r q cs u) rfl 10 (Nat.le_of_ble_eq_true rfl) (List.mem_of_getElem? (i := 1) rfl) rfl (FO11_at10 _ _ _) dX11_listen_1 ?_
  refine lv_iconst (v := 0) S.1 S.2.1 dX11_listen_4 (by decide) ?_
  refine lv_aload_n S.1 S.2.1 dX11_listen_5 rfl (lv_at hl 0 rfl) ?_
  refine m_get S hin11 hI 0 (VT_o0 h r q cs u) rfl 0 (Nat.le_of_ble_eq_true rfl) (List.mem_of_getElem? (i := 2) rfl) rfl (FO11_at0 _ _ _) dX11_listen_6 ?_
  refine m_vi (cf := fun v => VT h r q cs (mu u 1 v)) (As := []) (rest := [.int (0 : Int32), .ref (h 12)]) S (VT_c1 h r q cs u) hI (by rw [mu_self]) (c_X8_steps l D (h 1) (r 1) cs (u 1) _ hw) (cwV 0 S.2.2.2.2 gX11_listen_X8_steps rfl rfl rfl (by decide +kernel) ⟨Nat.le_of_ble_eq_true rfl, Nat.le_of_ble_eq_true rfl⟩) rfl rfl rfl hl.1 rfl (Nat.le_of_ble_eq_true rfl) dX11_listen_9 ⟨Nat.zero_le _, Nat.zero_le _⟩ (fun y9 v9 H locs hw hI => ?_)
  obtain ⟨u9, eu9⟩ : ∃ z : CS, z = mu u 1 v9 := ⟨_, rfl⟩
  have hw := hw u9 eu9
  replace hI : mI D (mT cs) A s.heap s (VT h r q cs u9) H locs := by rw [eu9]; exact hI
  refine lv_aload_n S.1 S.2.1 dX11_listen_12 rfl (lv_at hl 0 rfl) ?_
  refine m_get S hin11 hI 0 (VT_o0 h r q cs u9) rfl 0 (Nat.le_of_ble_eq_true rfl) (List.mem_of_getElem? (i := 2) rfl) rfl (FO11_at0 _ _ _) dX11_listen_13 ?_
  refine m_vi (cf := fun v => VT h r q cs (mu u9 1 v)) (As := []) (rest := [.int y9, .int (0 : Int32), .ref (h 12)]) S (VT_c1 h r q cs u9) hI (by rw [mu_self]) (c_X8_jars l D (h 1) (r 1) cs (u9 1) _ hw) (cwV 0 S.2.2.2.2 gX11_listen_X8_jars rfl rfl rfl (by decide +kernel) ⟨Nat.le_of_ble_eq_true rfl, Nat.le_of_ble_eq_true rfl⟩) rfl rfl rfl hl.1 rfl (Nat.le_of_ble_eq_true rfl) dX11_listen_16 ⟨Nat.zero_le _, Nat.zero_le _⟩ (fun y16 v16 H locs hw hI => ?_)
  obtain ⟨u16, eu16⟩ : ∃ z : CS, z = mu u9 1 v16 := ⟨_, rfl⟩
  have hw := hw u16 eu16
  replace hI : mI D (mT cs) A s.heap s (VT h r q cs u16) H locs := by rw [eu16]; exact hI
  refine m_vv (cf := fun v => VT h r q cs (mu u16 12 v)) (As := [.int (0 : Int32), .int y9, .int y16]) (rest := []) S (VT_c12 h r q cs u16) hI (by rw [mu_self]) (c_X7_become l D (h 12) (r 12) cs (0 : Int32) y9 y16 (u16 12) _ hw) (cwV 3 S.2.2.2.2 gX11_listen_X7_become rfl rfl rfl (by decide +kernel) ⟨Nat.le_of_ble_eq_true rfl, Nat.le_of_ble_eq_true rfl⟩) rfl rfl rfl hl.1 rfl (Nat.le_of_ble_eq_true rfl) dX11_listen_19 ⟨Nat.zero_le _, Nat.zero_le _⟩ (fun v19 H locs hw hI => ?_)
  obtain ⟨u19, eu19⟩ : ∃ z : CS, z = mu u16 12 v19 := ⟨_, rfl⟩
  have hw := hw u19 eu19
  replace hI : mI D (mT cs) A s.heap s (VT h r q cs u19) H locs := by rw [eu19]; exact hI
  refine lv_aload_n S.1 S.2.1 dX11_listen_22 rfl (lv_at hl 0 rfl) ?_
  refine lv_iconst (v := 0) S.1 S.2.1 dX11_listen_23 (by decide) ?_
  obtain ⟨u24, eu24⟩ : ∃ z : CS, z = mu u19 0 (sI (u19 0) 15 (0 : Int32)) := ⟨_, rfl⟩
  have hw := hw u24 eu24
  refine m_put S hin11 tyX11_ok nmX11 hI 0 (VT_o0 h r q cs u19) rfl 15 (Nat.le_of_ble_eq_true rfl) (List.mem_of_getElem? (i := 3) rfl) rfl rfl rfl rfl (Nat.le_of_ble_eq_true rfl) (VT_sI0_15 h r q cs u19 u24 (0 : Int32) eu24) dX11_listen_24 (fun H locs hI => ?_)
  refine lv_iconst (v := 0) S.1 S.2.1 dX11_listen_27 (by decide) ?_
  refine lv_istore_n (lv' := [(2, .int (0 : Int32)), (0, .ref (h 0)), (1, .ref (h (18 + s9)))]) S.1 S.2.1 dX11_listen_28 rfl hl (by decide) rfl (fun ls hl => ?_)
  exact b29 (0 : Int32) u24 hs9 hw H locs ls hI (lv_sub hl [1, 2, 0] rfl)

theorem VT_c6 (h : Nat → Nat) (r : Nat → Nat → Nat) (q : Nat → Nat → Nat → Nat) (cs : Nat → ClassId) (U : CS) : ∀ v : ST, (VT h r q cs (mu U 6 v)).Perm ([] ++ (W4 (h 6) (r 6) (q 6) cs v ++ [0, 1, 2, 3, 4, 5, 7, 8, 9, 10, 11, 12, 13, 14, 15, 16, 17, 18, 19, 20, 21, 22, 23, 24].flatMap (cTT h r q cs U))) := fun v => (front_perm (cTT h r q cs (mu U 6 v)) (l := [0, 1, 2, 3, 4, 5, 6, 7, 8, 9, 10, 11, 12, 13, 14, 15, 16, 17, 18, 19, 20, 21, 22, 23, 24]) (ks := [6]) (rest := [0, 1, 2, 3, 4, 5, 7, 8, 9, 10, 11, 12, 13, 14, 15, 16, 17, 18, 19, 20, 21, 22, 23, 24]) (by decide)).trans (List.Perm.of_eq (by rw [show [6].flatMap (cTT h r q cs (mu U 6 v)) = W4 (h 6) (r 6) (q 6) cs v from List.append_nil _]; rfl))
def wp_X11_heightFor_p41b (x2 : Int32) (x4 : Int32) (x5 : Int32) (u : CS) (B41 : Int32 → Int32 → Int32 → CS → Prop) (Q : Int32 → CS → Prop) : Prop :=
  ((x2 ≤ x5 → Q x2 u) ∧ (¬ x2 ≤ x5 → (wp_X4_weightAt x5 (u 6) (fun y55 v55 => ∀ u55 : CS, u55 = mu u 6 v55 → (∀ y58 : Int32, y58 = x4 - y55 → ((0 ≤ y58 → (∀ y69 : Int32, y69 = x5 + 1 → B41 x2 y58 y69 u55)) ∧ (¬ 0 ≤ y58 → Q x5 u55)))))))
def wp_X11_heightFor_p41 (x2 : Int32) (x4 : Int32) (x5 : Int32) (u : CS) (Q : Int32 → CS → Prop) : Prop := ∃ (I : Int32 → Int32 → Int32 → CS → Prop) (μ : Int32 → Int32 → Int32 → CS → Nat), I x2 x4 x5 u ∧ ∀ (x2 : Int32) (x4 : Int32) (x5 : Int32) (u : CS), I x2 x4 x5 u → wp_X11_heightFor_p41b x2 x4 x5 u (fun yx2 yx4 yx5 yu => I yx2 yx4 yx5 yu ∧ μ yx2 yx4 yx5 yu < μ x2 x4 x5 u) Q
def wp_X11_heightFor (a1 : Int32) (u : CS) (Q : Int32 → CS → Prop) : Prop :=
  (wp_X8_steps (u 1) (fun y4 v4 => ∀ u4 : CS, u4 = mu u 1 v4 → (wp_X4_weightTo y4 (u4 6) (fun y13 v13 => ∀ u13 : CS, u13 = mu u4 6 v13 → ((0 < y13 → (∀ y33 : Int32, y33 = (a1.toUInt32 >>> ((8 : Int32).toUInt32 &&& Int32.toUInt32 31)).toInt32 → (¬ y13 = 0 ∧ ∀ y35 : Int32, y35 = y33 - y33 / y13 * y13 → wp_X11_heightFor_p41 y4 y35 (0 : Int32) u13 Q))) ∧ (¬ 0 < y13 → (∀ y24 : Int32, y24 = (a1.toUInt32 >>> ((8 : Int32).toUInt32 &&& Int32.toUInt32 31)).toInt32 → (∀ y27 : Int32, y27 = y4 + (1 : Int32) → (¬ y27 = 0 ∧ ∀ y28 : Int32, y28 = y24 - y24 / y27 * y27 → Q y28 u13)))))))))
set_option maxHeartbeats 4000000 in
set_option maxRecDepth 100000 in
theorem c_X11_heightFor (l : Launch) (D : va_G) (h : Nat → Nat) (r : Nat → Nat → Nat) (q : Nat → Nat → Nat → Nat) (cs : Nat → ClassId) (a1 : Int32) (u : CS) (Q : Int32 → CS → Prop) (hw : wp_X11_heightFor a1 u Q) : mCi l yX11_heightFor wsX11_heightFor ({ frames := 2, cells := 0, slots := 0, locals := 43 } : Room) 0 0 D (mT cs) (VT h r q cs) [.ref (h 0), .int a1] u Q := by
  unfold mCi
  refine m_enter (QQ := fun A => va_Qi Q (mPos D (mT cs) A (VT h r q cs)) A) (cc := cX11_heightFor) (maxL := 6) (ret := (some .int)) (by decide) rfl (Nat.le_of_ble_eq_true rfl) ?_
  intro p e s m args below meth c A ls S hr hlocks hname hl hI
  have S : CallFix p m c cX11_heightFor 6 s args wsX11_heightFor RX11 := S
  show W p l e ({ frames := 2, cells := 0, slots := 0, locals := 43 } : Room) s m args below meth c s.heap [] 0 0 (MQ below (va_Qi Q (mPos D (mT cs) A (VT h r q cs)) A) args s 0 0 A) (F0 m 0 ls [])
  generalize hZ : MQ below (va_Qi Q (mPos D (mT cs) A (VT h r q cs)) A) args s 0 0 A = Z
  have hin4 : ∀ w ∈ wsX40, w ∈ wsX11_heightFor := fun _ h => List.mem_cons_of_mem _ (List.mem_append_right _ h)
  have hin8 : ∀ w ∈ wsX80, w ∈ wsX11_heightFor := fun _ h => List.mem_cons_of_mem _ (List.mem_append_left _ (List.mem_append_right _ h))
  have hin11 : ∀ w ∈ wsX110, w ∈ wsX11_heightFor := fun _ h => List.mem_cons_of_mem _ (List.mem_append_left _ (List.mem_append_left _ (List.mem_append_right _ h)))
  have hl : lv_has ls 6 [(0, .ref (h 0)), (1, .int a1)] := hl
  have b41b : ∀ (B41 : Int32 → Int32 → Int32 → CS → Prop), (∀ (x2 : Int32) (x4 : Int32) (x5 : Int32) (u : CS), B41 x2 x4 x5 u → mGo p l e ({ frames := 2, cells := 0, slots := 0, locals := 43 } : Room) s m args below meth c A Z 6 D (mT cs) (VT h r q cs) 41 [(0, .ref (h 0)), (2, .int x2), (4, .int x4), (5, .int x5)] [] u) → ∀ (x2 : Int32) (x4 : Int32) (x5 : Int32) (u : CS), wp_X11_heightFor_p41b x2 x4 x5 u B41 Q → mGo p l e ({ frames := 2, cells := 0, slots := 0, locals := 43 } : Room) s m args below meth c A Z 6 D (mT cs) (VT h r q cs) 41 [(0, .ref (h 0)), (2, .int x2), (4, .int x4), (5, .int x5)] [] u := by
    intro B41 hB41 x2 x4 x5 u hw H locs ls hI hl
    unfold wp_X11_heightFor_p41b at hw
    refine lv_iload S.1 S.2.1 dX11_heightFor_41 (lv_at hl 3 rfl) ?_
    refine lv_iload_n S.1 S.2.1 dX11_heightFor_43 rfl (lv_at hl 1 rfl) ?_
    refine lv_icmp_ge (tgt := 75) S.1 S.2.1 dX11_heightFor_44 (by decide) (fun c44 => ?_) (fun c44 => ?_)
    · have hw := hw.1 c44
      refine lv_iload_n S.1 S.2.1 dX11_heightFor_75 rfl (lv_at hl 1 rfl) ?_
      subst hZ
      exact m_iret S hr hlocks hI hw dX11_heightFor_76
    · have hw := hw.2 c44
      refine lv_iload S.1 S.2.1 dX11_heightFor_47 (lv_at hl 2 rfl) ?_
      refine lv_aload_n S.1 S.2.1 dX11_heightFor_49 rfl (lv_at hl 0 rfl) ?_
      refine m_get S hin11 hI 0 (VT_o0 h r q cs u) rfl 5 (Nat.le_of_ble_eq_true rfl) (List.mem_of_getElem? (i := 2) rfl) rfl (FO11_at5 _ _ _) dX11_heightFor_50 ?_
      refine lv_iload S.1 S.2.1 dX11_heightFor_53 (lv_at hl 3 rfl) ?_
      refine m_vi (cf := fun v => VT h r q cs (mu u 6 v)) (As := [.int x5]) (rest := [.int x4]) S (VT_c6 h r q cs u) hI (by rw [mu_self]) (c_X4_weightAt l D (h 6) (r 6) (q 6) cs x5 (u 6) _ hw) (cwV 1 S.2.2.2.2 gX11_heightFor_X4_weightAt rfl rfl rfl (by decide +kernel) ⟨Nat.le_of_ble_eq_true rfl, Nat.le_of_ble_eq_true rfl⟩) rfl rfl rfl hl.1 rfl (Nat.le_of_ble_eq_true rfl) dX11_heightFor_55 ⟨Nat.zero_le _, Nat.zero_le _⟩ (fun y55 v55 H locs hw hI => ?_)
      obtain ⟨u55, eu55⟩ : ∃ z : CS, z = mu u 6 v55 := ⟨_, rfl⟩
      have hw := hw u55 eu55
      replace hI : mI D (mT cs) A s.heap s (VT h r q cs u55) H locs := by rw [eu55]; exact hI
      refine lv_isub S.1 S.2.1 dX11_heightFor_58 ?_
      refine lv_topi (fun y58 ey58 => ?_)
      have hw := hw y58 ey58
      refine lv_istore (lv' := [(4, .int y58), (0, .ref (h 0)), (2, .int x2), (5, .int x5)]) S.1 S.2.1 dX11_heightFor_59 hl (by decide) rfl (fun ls hl => ?_)
      refine lv_iload S.1 S.2.1 dX11_heightFor_61 (lv_at hl 0 rfl) ?_
      refine lv_if_ge (tgt := 69) S.1 S.2.1 dX11_heightFor_63 (by decide) (fun c63 => ?_) (fun c63 => ?_)
      · have hw := hw.1 c63
        obtain ⟨y69, ey69⟩ : ∃ z : Int32, z = x5 + 1 := ⟨_, rfl⟩
        have hw := hw y69 ey69
        refine lv_iinc (v := y69) (lv' := [(5, .int y69), (4, .int y58), (0, .ref (h 0)), (2, .int x2)]) S.1 S.2.1 dX11_heightFor_69 hl (k := 3) rfl (by rw [ey69]; rfl) (by decide) rfl (fun ls hl => ?_)
        refine lv_goto (tgt := 41) S.1 S.2.1 dX11_heightFor_72 (by decide) ?_
        exact hB41 x2 y58 y69 u55 hw H locs ls hI (lv_sub hl [2, 3, 1, 0] rfl)
      · have hw := hw.2 c63
        refine lv_iload S.1 S.2.1 dX11_heightFor_66 (lv_at hl 3 rfl) ?_
        subst hZ
        exact m_iret S hr hlocks hI hw dX11_heightFor_68
  have b41 : ∀ (x2 : Int32) (x4 : Int32) (x5 : Int32) (u : CS), wp_X11_heightFor_p41 x2 x4 x5 u Q → mGo p l e ({ frames := 2, cells := 0, slots := 0, locals := 43 } : Room) s m args below meth c A Z 6 D (mT cs) (VT h r q cs) 41 [(0, .ref (h 0)), (2, .int x2), (4, .int x4), (5, .int x5)] [] u := by
    intro x2 x4 x5 u hw
    obtain ⟨I, μ, h0, hs⟩ := hw
    have key : ∀ (n : Nat) (x2 : Int32) (x4 : Int32) (x5 : Int32) (u : CS), μ x2 x4 x5 u = n → I x2 x4 x5 u → mGo p l e ({ frames := 2, cells := 0, slots := 0, locals := 43 } : Room) s m args below meth c A Z 6 D (mT cs) (VT h r q cs) 41 [(0, .ref (h 0)), (2, .int x2), (4, .int x4), (5, .int x5)] [] u := by
      intro n
      induction n using Nat.strongRecOn with
      | ind n ih =>
        intro x2 x4 x5 u hn hi
        exact b41b (fun yx2 yx4 yx5 yu => I yx2 yx4 yx5 yu ∧ μ yx2 yx4 yx5 yu < μ x2 x4 x5 u) (fun yx2 yx4 yx5 yu hb => ih _ (hn ▸ hb.2) yx2 yx4 yx5 yu rfl hb.1) x2 x4 x5 u (hs x2 x4 x5 u hi)
    exact key _ x2 x4 x5 u rfl h0
  unfold wp_X11_heightFor at hw
  obtain ⟨H, hH⟩ : ∃ z : Heap, z = s.heap := ⟨_, rfl⟩
  obtain ⟨locs, hL⟩ : ∃ z : List Loc, z = [] := ⟨_, rfl⟩
  rw [show W p l e ({ frames := 2, cells := 0, slots := 0, locals := 43 } : Room) s m args below meth c s.heap [] 0 0 Z (F0 m 0 ls []) = W p l e ({ frames := 2, cells := 0, slots := 0, locals := 43 } : Room) s m args below meth c H locs 0 0 Z (F0 m 0 ls []) by rw [hH, hL]]
  replace hI : mI D (mT cs) A s.heap s (VT h r q cs u) H locs := by rw [hH, hL]; exact hI
  refine lv_aload_n S.1 S.2.1 dX11_heightFor_0 rfl (lv_at hl 0 rfl) ?_
  refine m_get S hin11 hI 0 (VT_o0 h r q cs u) rfl 0 (Nat.le_of_ble_eq_true rfl) (List.mem_of_getElem? (i := 1) rfl) rfl (FO11_at0 _ _ _) dX11_heightFor_1 ?_
  refine m_vi (cf := fun v => VT h r q cs (mu u 1 v)) (As := []) (rest := []) S (VT_c1 h r q cs u) hI (by rw [mu_self]) (c_X8_steps l D (h 1) (r 1) cs (u 1) _ hw) (cwV 0 S.2.2.2.2 gX11_heightFor_X8_steps rfl rfl rfl (by decide +kernel) ⟨Nat.le_of_ble_eq_true rfl, Nat.le_of_ble_eq_true rfl⟩) rfl rfl rfl hl.1 rfl (Nat.le_of_ble_eq_true rfl) dX11_heightFor_4 ⟨Nat.zero_le _, Nat.zero_le _⟩ (fun y4 v4 H locs hw hI => ?_)
  obtain ⟨u4, eu4⟩ : ∃ z : CS, z = mu u 1 v4 := ⟨_, rfl⟩
  have hw := hw u4 eu4
  replace hI : mI D (mT cs) A s.heap s (VT h r q cs u4) H locs := by rw [eu4]; exact hI
  refine lv_istore_n (lv' := [(2, .int y4), (0, .ref (h 0)), (1, .int a1)]) S.1 S.2.1 dX11_heightFor_7 rfl hl (by decide) rfl (fun ls hl => ?_)
  refine lv_aload_n S.1 S.2.1 dX11_heightFor_8 rfl (lv_at hl 1 rfl) ?_
  refine m_get S hin11 hI 0 (VT_o0 h r q cs u4) rfl 5 (Nat.le_of_ble_eq_true rfl) (List.mem_of_getElem? (i := 2) rfl) rfl (FO11_at5 _ _ _) dX11_heightFor_9 ?_
  refine lv_iload_n S.1 S.2.1 dX11_heightFor_12 rfl (lv_at hl 0 rfl) ?_
  refine m_vi (cf := fun v => VT h r q cs (mu u4 6 v)) (As := [.int y4]) (rest := []) S (VT_c6 h r q cs u4) hI (by rw [mu_self]) (c_X4_weightTo l D (h 6) (r 6) (q 6) cs y4 (u4 6) _ hw) (cwV 1 S.2.2.2.2 gX11_heightFor_X4_weightTo rfl rfl rfl (by decide +kernel) ⟨Nat.le_of_ble_eq_true rfl, Nat.le_of_ble_eq_true rfl⟩) rfl rfl rfl hl.1 rfl (Nat.le_of_ble_eq_true rfl) dX11_heightFor_13 ⟨Nat.zero_le _, Nat.zero_le _⟩ (fun y13 v13 H locs hw hI => ?_)
  obtain ⟨u13, eu13⟩ : ∃ z : CS, z = mu u4 6 v13 := ⟨_, rfl⟩
  have hw := hw u13 eu13
  replace hI : mI D (mT cs) A s.heap s (VT h r q cs u13) H locs := by rw [eu13]; exact hI
  refine lv_istore_n (lv' := [(3, .int y13), (2, .int y4), (0, .ref (h 0)), (1, .int a1)]) S.1 S.2.1 dX11_heightFor_16 rfl hl (by decide) rfl (fun ls hl => ?_)
  refine lv_iload_n S.1 S.2.1 dX11_heightFor_17 rfl (lv_at hl 0 rfl) ?_
  refine lv_if_gt (tgt := 30) S.1 S.2.1 dX11_heightFor_18 (by decide) (fun c18 => ?_) (fun c18 => ?_)
  · have hw := hw.1 c18
    refine lv_iload_n S.1 S.2.1 dX11_heightFor_30 rfl (lv_at hl 3 rfl) ?_
    refine lv_bipush (v := 8) S.1 S.2.1 dX11_heightFor_31 (by decide) ?_
    refine lv_iushr S.1 S.2.1 dX11_heightFor_33 rfl ?_
    refine lv_topi (fun y33 ey33 => ?_)
    have hw := hw y33 ey33
    refine lv_iload_n S.1 S.2.1 dX11_heightFor_34 rfl (lv_at hl 0 rfl) ?_
    refine lv_irem S.1 S.2.1 dX11_heightFor_35 hw.1 ?_
    have hw := hw.2
    refine lv_topi (fun y35 ey35 => ?_)
    have hw := hw y35 ey35
    refine lv_istore (lv' := [(4, .int y35), (3, .int y13), (2, .int y4), (0, .ref (h 0)), (1, .int a1)]) S.1 S.2.1 dX11_heightFor_36 hl (by decide) rfl (fun ls hl => ?_)
    refine lv_iconst (v := 0) S.1 S.2.1 dX11_heightFor_38 (by decide) ?_
    refine lv_istore (lv' := [(5, .int (0 : Int32)), (4, .int y35), (3, .int y13), (2, .int y4), (0, .ref (h 0)), (1, .int a1)]) S.1 S.2.1 dX11_heightFor_39 hl (by decide) rfl (fun ls hl => ?_)
    exact b41 y4 y35 (0 : Int32) u13 hw H locs ls hI (lv_sub hl [4, 3, 1, 0] rfl)
  · have hw := hw.2 c18
    refine lv_iload_n S.1 S.2.1 dX11_heightFor_21 rfl (lv_at hl 3 rfl) ?_
    refine lv_bipush (v := 8) S.1 S.2.1 dX11_heightFor_22 (by decide) ?_
    refine lv_iushr S.1 S.2.1 dX11_heightFor_24 rfl ?_
    refine lv_topi (fun y24 ey24 => ?_)
    have hw := hw y24 ey24
    refine lv_iload_n S.1 S.2.1 dX11_heightFor_25 rfl (lv_at hl 1 rfl) ?_
    refine lv_iconst (v := 1) S.1 S.2.1 dX11_heightFor_26 (by decide) ?_
    refine lv_iadd S.1 S.2.1 dX11_heightFor_27 ?_
    refine lv_topi (fun y27 ey27 => ?_)
    have hw := hw y27 ey27
    refine lv_irem S.1 S.2.1 dX11_heightFor_28 hw.1 ?_
    have hw := hw.2
    refine lv_topi (fun y28 ey28 => ?_)
    have hw := hw y28 ey28
    subst hZ
    exact m_iret S hr hlocks hI hw dX11_heightFor_29

theorem VT_o13 (h : Nat → Nat) (r : Nat → Nat → Nat) (q : Nat → Nat → Nat → Nat) (cs : Nat → ClassId) (U : CS) : (VT h r q cs U)[114]? = some (h 13, .inr (1, FO1 (fun i => h (13 + i)) (r 13) (U 13))) := rfl
def wp_X11_stepsInDeed_p27 (t0 : Int32) (u : CS) (Q : Int32 → CS → Prop) : Prop :=
  Q t0 u
def wp_X11_stepsInDeed (u : CS) (Q : Int32 → CS → Prop) : Prop :=
  (((gI (u 13) 1) = 0 → (wp_X8_steps (u 1) (fun y24 v24 => ∀ u24 : CS, u24 = mu u 1 v24 → wp_X11_stepsInDeed_p27 y24 u24 Q))) ∧ (¬ (gI (u 13) 1) = 0 → wp_X11_stepsInDeed_p27 (gI (u 13) 3) u Q))
set_option maxHeartbeats 4000000 in
set_option maxRecDepth 100000 in
theorem c_X11_stepsInDeed (l : Launch) (D : va_G) (h : Nat → Nat) (r : Nat → Nat → Nat) (q : Nat → Nat → Nat → Nat) (cs : Nat → ClassId) (u : CS) (Q : Int32 → CS → Prop) (hw : wp_X11_stepsInDeed u Q) : mCi l yX11_stepsInDeed wsX11_stepsInDeed ({ frames := 1, cells := 0, slots := 0, locals := 20 } : Room) 0 0 D (mT cs) (VT h r q cs) [.ref (h 0)] u Q := by
  unfold mCi
  refine m_enter (QQ := fun A => va_Qi Q (mPos D (mT cs) A (VT h r q cs)) A) (cc := cX11_stepsInDeed) (maxL := 1) (ret := (some .int)) (by decide) rfl (Nat.le_of_ble_eq_true rfl) ?_
  intro p e s m args below meth c A ls S hr hlocks hname hl hI
  have S : CallFix p m c cX11_stepsInDeed 1 s args wsX11_stepsInDeed RX11 := S
  show W p l e ({ frames := 1, cells := 0, slots := 0, locals := 20 } : Room) s m args below meth c s.heap [] 0 0 (MQ below (va_Qi Q (mPos D (mT cs) A (VT h r q cs)) A) args s 0 0 A) (F0 m 0 ls [])
  generalize hZ : MQ below (va_Qi Q (mPos D (mT cs) A (VT h r q cs)) A) args s 0 0 A = Z
  have hin1 : ∀ w ∈ wsX10, w ∈ wsX11_stepsInDeed := fun _ h => List.mem_cons_of_mem _ (List.mem_append_left _ (List.mem_append_right _ h))
  have hin8 : ∀ w ∈ wsX80, w ∈ wsX11_stepsInDeed := fun _ h => List.mem_cons_of_mem _ (List.mem_append_right _ h)
  have hin11 : ∀ w ∈ wsX110, w ∈ wsX11_stepsInDeed := fun _ h => List.mem_cons_of_mem _ (List.mem_append_left _ (List.mem_append_left _ (List.mem_append_right _ h)))
  have hl : lv_has ls 1 [(0, .ref (h 0))] := hl
  have b27 : ∀ (t0 : Int32) (u : CS), wp_X11_stepsInDeed_p27 t0 u Q → mGo p l e ({ frames := 1, cells := 0, slots := 0, locals := 20 } : Room) s m args below meth c A Z 1 D (mT cs) (VT h r q cs) 27 [(0, .ref (h 0))] [.int t0] u := by
    intro t0 u hw H locs ls hI hl
    unfold wp_X11_stepsInDeed_p27 at hw
    subst hZ
    exact m_iret S hr hlocks hI hw dX11_stepsInDeed_27
  unfold wp_X11_stepsInDeed at hw
  obtain ⟨H, hH⟩ : ∃ z : Heap, z = s.heap := ⟨_, rfl⟩
  obtain ⟨locs, hL⟩ : ∃ z : List Loc, z = [] := ⟨_, rfl⟩
  rw [show W p l e ({ frames := 1, cells := 0, slots := 0, locals := 20 } : Room) s m args below meth c s.heap [] 0 0 Z (F0 m 0 ls []) = W p l e ({ frames := 1, cells := 0, slots := 0, locals := 20 } : Room) s m args below meth c H locs 0 0 Z (F0 m 0 ls []) by rw [hH, hL]]
  replace hI : mI D (mT cs) A s.heap s (VT h r q cs u) H locs := by rw [hH, hL]; exact hI
  refine lv_aload_n S.1 S.2.1 dX11_stepsInDeed_0 rfl (lv_at hl 0 rfl) ?_
  refine m_get S hin11 hI 0 (VT_o0 h r q cs u) rfl 11 (Nat.le_of_ble_eq_true rfl) (List.mem_of_getElem? (i := 1) rfl) rfl (FO11_at11 _ _ _) dX11_stepsInDeed_1 ?_
  refine m_getN S hin1 hI 114 (VT_o13 h r q cs u) rfl 1 (Nat.le_of_ble_eq_true rfl) nf_X11_243 rfl (FO1_at1 _ _ _) dX11_stepsInDeed_4 ?_
  refine lv_if_eq (tgt := 20) S.1 S.2.1 dX11_stepsInDeed_7 (by decide) (fun c7 => ?_) (fun c7 => ?_)
  · have hw := hw.1 c7
    refine lv_aload_n S.1 S.2.1 dX11_stepsInDeed_20 rfl (lv_at hl 0 rfl) ?_
    refine m_get S hin11 hI 0 (VT_o0 h r q cs u) rfl 0 (Nat.le_of_ble_eq_true rfl) (List.mem_of_getElem? (i := 2) rfl) rfl (FO11_at0 _ _ _) dX11_stepsInDeed_21 ?_
    refine m_vi (cf := fun v => VT h r q cs (mu u 1 v)) (As := []) (rest := []) S (VT_c1 h r q cs u) hI (by rw [mu_self]) (c_X8_steps l D (h 1) (r 1) cs (u 1) _ hw) (cwV 0 S.2.2.2.2 gX11_stepsInDeed_X8_steps rfl rfl rfl (by decide +kernel) ⟨Nat.le_of_ble_eq_true rfl, Nat.le_of_ble_eq_true rfl⟩) rfl rfl rfl hl.1 rfl (Nat.le_of_ble_eq_true rfl) dX11_stepsInDeed_24 ⟨Nat.zero_le _, Nat.zero_le _⟩ (fun y24 v24 H locs hw hI => ?_)
    obtain ⟨u24, eu24⟩ : ∃ z : CS, z = mu u 1 v24 := ⟨_, rfl⟩
    have hw := hw u24 eu24
    replace hI : mI D (mT cs) A s.heap s (VT h r q cs u24) H locs := by rw [eu24]; exact hI
    exact b27 y24 u24 hw H locs ls hI (lv_sub hl [0] rfl)
  · have hw := hw.2 c7
    refine lv_aload_n S.1 S.2.1 dX11_stepsInDeed_10 rfl (lv_at hl 0 rfl) ?_
    refine m_get S hin11 hI 0 (VT_o0 h r q cs u) rfl 11 (Nat.le_of_ble_eq_true rfl) (List.mem_of_getElem? (i := 1) rfl) rfl (FO11_at11 _ _ _) dX11_stepsInDeed_11 ?_
    refine m_getN S hin1 hI 114 (VT_o13 h r q cs u) rfl 3 (Nat.le_of_ble_eq_true rfl) nf_X11_401 rfl (FO1_at3 _ _ _) dX11_stepsInDeed_14 ?_
    refine lv_goto (tgt := 27) S.1 S.2.1 dX11_stepsInDeed_17 (by decide) ?_
    exact b27 (gI (u 13) 3) u hw H locs ls hI (lv_sub hl [0] rfl)

def wp_X11_dropsInDeed_p21 (t0 : Int32) (u : CS) (Q : Int32 → CS → Prop) : Prop :=
  Q t0 u
def wp_X11_dropsInDeed (u : CS) (Q : Int32 → CS → Prop) : Prop :=
  (((gI (u 13) 1) = 0 → wp_X11_dropsInDeed_p21 (0 : Int32) u Q) ∧ (¬ (gI (u 13) 1) = 0 → wp_X11_dropsInDeed_p21 (gI (u 13) 4) u Q))
set_option maxHeartbeats 4000000 in
set_option maxRecDepth 100000 in
theorem c_X11_dropsInDeed (l : Launch) (D : va_G) (h : Nat → Nat) (r : Nat → Nat → Nat) (q : Nat → Nat → Nat → Nat) (cs : Nat → ClassId) (u : CS) (Q : Int32 → CS → Prop) (hw : wp_X11_dropsInDeed u Q) : mCi l yX11_dropsInDeed wsX11_dropsInDeed ({ frames := 0, cells := 0, slots := 0, locals := 0 } : Room) 0 0 D (mT cs) (VT h r q cs) [.ref (h 0)] u Q := by
  unfold mCi
  refine m_enter (QQ := fun A => va_Qi Q (mPos D (mT cs) A (VT h r q cs)) A) (cc := cX11_dropsInDeed) (maxL := 1) (ret := (some .int)) (by decide) rfl (Nat.le_of_ble_eq_true rfl) ?_
  intro p e s m args below meth c A ls S hr hlocks hname hl hI
  have S : CallFix p m c cX11_dropsInDeed 1 s args wsX11_dropsInDeed RX11 := S
  show W p l e ({ frames := 0, cells := 0, slots := 0, locals := 0 } : Room) s m args below meth c s.heap [] 0 0 (MQ below (va_Qi Q (mPos D (mT cs) A (VT h r q cs)) A) args s 0 0 A) (F0 m 0 ls [])
  generalize hZ : MQ below (va_Qi Q (mPos D (mT cs) A (VT h r q cs)) A) args s 0 0 A = Z
  have hin1 : ∀ w ∈ wsX10, w ∈ wsX11_dropsInDeed := fun _ h => List.mem_cons_of_mem _ (List.mem_append_right _ h)
  have hin11 : ∀ w ∈ wsX110, w ∈ wsX11_dropsInDeed := fun _ h => List.mem_cons_of_mem _ (List.mem_append_left _ (List.mem_append_right _ h))
  have hl : lv_has ls 1 [(0, .ref (h 0))] := hl
  have b21 : ∀ (t0 : Int32) (u : CS), wp_X11_dropsInDeed_p21 t0 u Q → mGo p l e ({ frames := 0, cells := 0, slots := 0, locals := 0 } : Room) s m args below meth c A Z 1 D (mT cs) (VT h r q cs) 21 [(0, .ref (h 0))] [.int t0] u := by
    intro t0 u hw H locs ls hI hl
    unfold wp_X11_dropsInDeed_p21 at hw
    subst hZ
    exact m_iret S hr hlocks hI hw dX11_dropsInDeed_21
  unfold wp_X11_dropsInDeed at hw
  obtain ⟨H, hH⟩ : ∃ z : Heap, z = s.heap := ⟨_, rfl⟩
  obtain ⟨locs, hL⟩ : ∃ z : List Loc, z = [] := ⟨_, rfl⟩
  rw [show W p l e ({ frames := 0, cells := 0, slots := 0, locals := 0 } : Room) s m args below meth c s.heap [] 0 0 Z (F0 m 0 ls []) = W p l e ({ frames := 0, cells := 0, slots := 0, locals := 0 } : Room) s m args below meth c H locs 0 0 Z (F0 m 0 ls []) by rw [hH, hL]]
  replace hI : mI D (mT cs) A s.heap s (VT h r q cs u) H locs := by rw [hH, hL]; exact hI
  refine lv_aload_n S.1 S.2.1 dX11_dropsInDeed_0 rfl (lv_at hl 0 rfl) ?_
  refine m_get S hin11 hI 0 (VT_o0 h r q cs u) rfl 11 (Nat.le_of_ble_eq_true rfl) (List.mem_of_getElem? (i := 1) rfl) rfl (FO11_at11 _ _ _) dX11_dropsInDeed_1 ?_
  refine m_getN S hin1 hI 114 (VT_o13 h r q cs u) rfl 1 (Nat.le_of_ble_eq_true rfl) nf_X11_243 rfl (FO1_at1 _ _ _) dX11_dropsInDeed_4 ?_
  refine lv_if_eq (tgt := 20) S.1 S.2.1 dX11_dropsInDeed_7 (by decide) (fun c7 => ?_) (fun c7 => ?_)
  · have hw := hw.1 c7
    refine lv_iconst (v := 0) S.1 S.2.1 dX11_dropsInDeed_20 (by decide) ?_
    exact b21 (0 : Int32) u hw H locs ls hI (lv_sub hl [0] rfl)
  · have hw := hw.2 c7
    refine lv_aload_n S.1 S.2.1 dX11_dropsInDeed_10 rfl (lv_at hl 0 rfl) ?_
    refine m_get S hin11 hI 0 (VT_o0 h r q cs u) rfl 11 (Nat.le_of_ble_eq_true rfl) (List.mem_of_getElem? (i := 1) rfl) rfl (FO11_at11 _ _ _) dX11_dropsInDeed_11 ?_
    refine m_getN S hin1 hI 114 (VT_o13 h r q cs u) rfl 4 (Nat.le_of_ble_eq_true rfl) nf_X11_264 rfl (FO1_at4 _ _ _) dX11_dropsInDeed_14 ?_
    refine lv_goto (tgt := 21) S.1 S.2.1 dX11_dropsInDeed_17 (by decide) ?_
    exact b21 (gI (u 13) 4) u hw H locs ls hI (lv_sub hl [0] rfl)

theorem VT_o14 (h : Nat → Nat) (r : Nat → Nat → Nat) (q : Nat → Nat → Nat → Nat) (cs : Nat → ClassId) (U : CS) : (VT h r q cs U)[115]? = some (h 14, .inr (7, Ff7 (r 14) (U 14))) := rfl
theorem VT_c14 (h : Nat → Nat) (r : Nat → Nat → Nat) (q : Nat → Nat → Nat → Nat) (cs : Nat → ClassId) (U : CS) : ∀ v : ST, (VT h r q cs (mu U 14 v)).Perm ([] ++ (W7 (h 14) (r 14) cs v ++ [0, 1, 2, 3, 4, 5, 6, 7, 8, 9, 10, 11, 12, 13, 15, 16, 17, 18, 19, 20, 21, 22, 23, 24].flatMap (cTT h r q cs U))) := fun v => (front_perm (cTT h r q cs (mu U 14 v)) (l := [0, 1, 2, 3, 4, 5, 6, 7, 8, 9, 10, 11, 12, 13, 14, 15, 16, 17, 18, 19, 20, 21, 22, 23, 24]) (ks := [14]) (rest := [0, 1, 2, 3, 4, 5, 6, 7, 8, 9, 10, 11, 12, 13, 15, 16, 17, 18, 19, 20, 21, 22, 23, 24]) (by decide)).trans (List.Perm.of_eq (by rw [show [14].flatMap (cTT h r q cs (mu U 14 v)) = W7 (h 14) (r 14) cs v from List.append_nil _]; rfl))
theorem VT_k_hd_13_14 (h : Nat → Nat) (r : Nat → Nat → Nat) (q : Nat → Nat → Nat → Nat) (cs : Nat → ClassId) (U : CS) : ∀ v : CS, (VT h r q cs (emb U [13, 14] v)).Perm ([] ++ (Vhd (fun i => h ([13, 14].getD i 0)) (fun i => rE r (gI (U 24) 0) ([13, 14].getD i 0)) (fun i => q ([13, 14].getD i 0)) cs v ++ [0, 1, 2, 3, 4, 5, 6, 7, 8, 9, 10, 11, 12, 15, 16, 17, 18, 19, 20, 21, 22, 23, 24].flatMap (cTT h r q cs U))) := fun v => (front_perm (cTT h r q cs (emb U [13, 14] v)) (l := [0, 1, 2, 3, 4, 5, 6, 7, 8, 9, 10, 11, 12, 13, 14, 15, 16, 17, 18, 19, 20, 21, 22, 23, 24]) (ks := [13, 14]) (rest := [0, 1, 2, 3, 4, 5, 6, 7, 8, 9, 10, 11, 12, 15, 16, 17, 18, 19, 20, 21, 22, 23, 24]) (by decide)).trans (List.Perm.of_eq rfl)
def wp_X11_dropAll_S_p53 (s9 : Nat) (x4 : Int32) (u : CS) (Q : Int32 → CS → Prop) : Prop :=
  Q x4 u
def wp_X11_dropAll_S_p6b (s9 : Nat) (x2 : Int32) (x3 : Int32) (x4 : Int32) (x5 : Int32) (u : CS) (B6 : Int32 → Int32 → Int32 → Int32 → CS → Prop) (Q : Int32 → CS → Prop) : Prop :=
  ((x3 ≤ x5 → Q x4 u) ∧ (¬ x3 ≤ x5 → ((x2 < 0 → wp_X11_dropAll_S_p53 s9 x4 u Q) ∧ (¬ x2 < 0 → (∀ y23 : Int32, y23 = (gI (u (18 + s9)) 3) - x5 → ((y23 ≤ x2 → wp_X11_dropAll_S_p53 s9 x4 u Q) ∧ (¬ y23 ≤ x2 → (((gI (u 14) 2) = 0 → wp_X11_dropAll_S_p53 s9 x4 u Q) ∧ (¬ (gI (u 14) 2) = 0 → (wp_X7_isSure (u 14) (fun y47 v47 => ∀ u47 : CS, u47 = mu u 14 v47 → ((y47 = 0 → (∀ y60 : Int32, y60 = x2 + x5 → (wp_X6_get y60 (u47 (18 + s9)) (fun y61 v61 => ∀ u61 : CS, u61 = mu u47 (18 + s9) v61 → (∀ y64 : Int32, y64 = y61.toInt32 → (wp_X11_within y64 (1 : Int32) (gI (u61 13) 3) (fun y77 => ((¬ y77 = 0 → (wp_X1_dropFrom y64 (fun i => u61 ([13, 14].getD i 0)) (fun y92 v92 => ∀ u92 : CS, u92 = emb u61 [13, 14] v92 → (∀ y96 : Int32, y96 = x4 + 1 → (∀ y99 : Int32, y99 = x5 + 1 → B6 x2 x3 y96 y99 u92))))) ∧ (y77 = 0 → Q x4 u61))))))))) ∧ (¬ y47 = 0 → wp_X11_dropAll_S_p53 s9 x4 u47 Q)))))))))))))
def wp_X11_dropAll_S_p6 (s9 : Nat) (x2 : Int32) (x3 : Int32) (x4 : Int32) (x5 : Int32) (u : CS) (Q : Int32 → CS → Prop) : Prop := ∃ (I : Int32 → Int32 → Int32 → Int32 → CS → Prop) (μ : Int32 → Int32 → Int32 → Int32 → CS → Nat), I x2 x3 x4 x5 u ∧ ∀ (x2 : Int32) (x3 : Int32) (x4 : Int32) (x5 : Int32) (u : CS), I x2 x3 x4 x5 u → wp_X11_dropAll_S_p6b s9 x2 x3 x4 x5 u (fun yx2 yx3 yx4 yx5 yu => I yx2 yx3 yx4 yx5 yu ∧ μ yx2 yx3 yx4 yx5 yu < μ x2 x3 x4 x5 u) Q
def wp_X11_dropAll_S (s9 : Nat) (a2 : Int32) (a3 : Int32) (u : CS) (Q : Int32 → CS → Prop) : Prop :=
  wp_X11_dropAll_S_p6 s9 a2 a3 (0 : Int32) (0 : Int32) u Q
set_option maxHeartbeats 4000000 in
set_option maxRecDepth 100000 in
theorem c_X11_dropAll_S (l : Launch) (D : va_G) (h : Nat → Nat) (r : Nat → Nat → Nat) (q : Nat → Nat → Nat → Nat) (cs : Nat → ClassId) (s9 : Nat) (hs9 : s9 < 6) (a2 : Int32) (a3 : Int32) (u : CS) (Q : Int32 → CS → Prop) (hw : wp_X11_dropAll_S s9 a2 a3 u Q) : mCi l yX11_dropAll wsX11_dropAll ({ frames := 3, cells := 0, slots := 0, locals := 58 } : Room) 0 0 D (mT cs) (VT h r q cs) [.ref (h 0), .ref (h (18 + s9)), .int a2, .int a3] u Q := by
  unfold mCi
  refine m_enter (QQ := fun A => va_Qi Q (mPos D (mT cs) A (VT h r q cs)) A) (cc := cX11_dropAll) (maxL := 7) (ret := (some .int)) (by decide) rfl (Nat.le_of_ble_eq_true rfl) ?_
  intro p e s m args below meth c A ls S hr hlocks hname hl hI
  have S : CallFix p m c cX11_dropAll 7 s args wsX11_dropAll RX11 := S
  show W p l e ({ frames := 3, cells := 0, slots := 0, locals := 58 } : Room) s m args below meth c s.heap [] 0 0 (MQ below (va_Qi Q (mPos D (mT cs) A (VT h r q cs)) A) args s 0 0 A) (F0 m 0 ls [])
  generalize hZ : MQ below (va_Qi Q (mPos D (mT cs) A (VT h r q cs)) A) args s 0 0 A = Z
  have hin1 : ∀ w ∈ wsX10, w ∈ wsX11_dropAll := fun _ h => List.mem_cons_of_mem _ (List.mem_append_left _ (List.mem_append_right _ h))
  have hin6 : ∀ w ∈ wsX60, w ∈ wsX11_dropAll := fun _ h => List.mem_cons_of_mem _ (List.mem_append_left _ (List.mem_append_left _ (List.mem_append_left _ (List.mem_append_right _ h))))
  have hin7 : ∀ w ∈ wsX70, w ∈ wsX11_dropAll := fun _ h => List.mem_cons_of_mem _ (List.mem_append_right _ h)
  have hin11 : ∀ w ∈ wsX110, w ∈ wsX11_dropAll := fun _ h => List.mem_cons_of_mem _ (List.mem_append_left _ (List.mem_append_left _ (List.mem_append_right _ h)))
  have hl : lv_has ls 7 [(0, .ref (h 0)), (1, .ref (h (18 + s9))), (2, .int a2), (3, .int a3)] := hl
  have b53 : ∀ (x4 : Int32) (u : CS), wp_X11_dropAll_S_p53 s9 x4 u Q → mGo p l e ({ frames := 3, cells := 0, slots := 0, locals := 58 } : Room) s m args below meth c A Z 7 D (mT cs) (VT h r q cs) 53 [(0, .ref (h 0)), (4, .int x4)] [] u := by
    intro x4 u hw H locs ls hI hl
    unfold wp_X11_dropAll_S_p53 at hw
    refine lv_iload S.1 S.2.1 dX11_dropAll_53 (lv_at hl 1 rfl) ?_
    subst hZ
    exact m_iret S hr hlocks hI hw dX11_dropAll_55
  have b6b : ∀ (B6 : Int32 → Int32 → Int32 → Int32 → CS → Prop), (∀ (x2 : Int32) (x3 : Int32) (x4 : Int32) (x5 : Int32) (u : CS), B6 x2 x3 x4 x5 u → mGo p l e ({ frames := 3, cells := 0, slots := 0, locals := 58 } : Room) s m args below meth c A Z 7 D (mT cs) (VT h r q cs) 6 [(0, .ref (h 0)), (1, .ref (h (18 + s9))), (2, .int x2), (3, .int x3), (4, .int x4), (5, .int x5)] [] u) → ∀ (x2 : Int32) (x3 : Int32) (x4 : Int32) (x5 : Int32) (u : CS), s9 < 6 → wp_X11_dropAll_S_p6b s9 x2 x3 x4 x5 u B6 Q → mGo p l e ({ frames := 3, cells := 0, slots := 0, locals := 58 } : Room) s m args below meth c A Z 7 D (mT cs) (VT h r q cs) 6 [(0, .ref (h 0)), (1, .ref (h (18 + s9))), (2, .int x2), (3, .int x3), (4, .int x4), (5, .int x5)] [] u := by
    intro B6 hB6 x2 x3 x4 x5 u hq1 hw H locs ls hI hl
    unfold wp_X11_dropAll_S_p6b at hw
    refine lv_iload S.1 S.2.1 dX11_dropAll_6 (lv_at hl 5 rfl) ?_
    refine lv_iload_n S.1 S.2.1 dX11_dropAll_8 rfl (lv_at hl 3 rfl) ?_
    refine lv_icmp_ge (tgt := 105) S.1 S.2.1 dX11_dropAll_9 (by decide) (fun c9 => ?_) (fun c9 => ?_)
    · have hw := hw.1 c9
      refine lv_iload S.1 S.2.1 dX11_dropAll_105 (lv_at hl 4 rfl) ?_
      subst hZ
      exact m_iret S hr hlocks hI hw dX11_dropAll_107
    · have hw := hw.2 c9
      refine lv_iload_n S.1 S.2.1 dX11_dropAll_12 rfl (lv_at hl 2 rfl) ?_
      refine lv_if_lt (tgt := 53) S.1 S.2.1 dX11_dropAll_13 (by decide) (fun c13 => ?_) (fun c13 => ?_)
      · have hw := hw.1 c13
        exact b53 x4 u hw H locs ls hI (lv_sub hl [0, 4] rfl)
      · have hw := hw.2 c13
        refine lv_iload_n S.1 S.2.1 dX11_dropAll_16 rfl (lv_at hl 2 rfl) ?_
        refine lv_aload_n S.1 S.2.1 dX11_dropAll_17 rfl (lv_at hl 1 rfl) ?_
        refine m_getN S hin6 hI (121 + 2 * s9) (VT_oS h r q cs u hq1) rfl 3 (Nat.le_of_ble_eq_true rfl) nf_X11_378 rfl (Ff6_at3 _ _) dX11_dropAll_18 ?_
        refine lv_iload S.1 S.2.1 dX11_dropAll_21 (lv_at hl 5 rfl) ?_
        refine lv_isub S.1 S.2.1 dX11_dropAll_23 ?_
        refine lv_topi (fun y23 ey23 => ?_)
        have hw := hw y23 ey23
        refine lv_icmp_ge (tgt := 53) S.1 S.2.1 dX11_dropAll_24 (by decide) (fun c24 => ?_) (fun c24 => ?_)
        · have hw := hw.1 c24
          exact b53 x4 u hw H locs ls hI (lv_sub hl [0, 4] rfl)
        · have hw := hw.2 c24
          refine lv_aload_n S.1 S.2.1 dX11_dropAll_27 rfl (lv_at hl 0 rfl) ?_
          refine m_get S hin11 hI 0 (VT_o0 h r q cs u) rfl 11 (Nat.le_of_ble_eq_true rfl) (List.mem_of_getElem? (i := 1) rfl) rfl (FO11_at11 _ _ _) dX11_dropAll_28 ?_
          refine m_getN S hin1 hI 114 (VT_o13 h r q cs u) rfl 0 (Nat.le_of_ble_eq_true rfl) nf_X11_247 rfl (FO1_at0 _ _ _) dX11_dropAll_31 ?_
          refine m_getN S hin7 hI 115 (VT_o14 h r q cs u) rfl 2 (Nat.le_of_ble_eq_true rfl) nf_X11_152 rfl (Ff7_at2 _ _) dX11_dropAll_34 ?_
          refine lv_if_eq (tgt := 53) S.1 S.2.1 dX11_dropAll_37 (by decide) (fun c37 => ?_) (fun c37 => ?_)
          · have hw := hw.1 c37
            exact b53 x4 u hw H locs ls hI (lv_sub hl [0, 4] rfl)
          · have hw := hw.2 c37
            refine lv_aload_n S.1 S.2.1 dX11_dropAll_40 rfl (lv_at hl 0 rfl) ?_
            refine m_get S hin11 hI 0 (VT_o0 h r q cs u) rfl 11 (Nat.le_of_ble_eq_true rfl) (List.mem_of_getElem? (i := 1) rfl) rfl (FO11_at11 _ _ _) dX11_dropAll_41 ?_
            refine m_getN S hin1 hI 114 (VT_o13 h r q cs u) rfl 0 (Nat.le_of_ble_eq_true rfl) nf_X11_247 rfl (FO1_at0 _ _ _) dX11_dropAll_44 ?_
            refine m_vi (cf := fun v => VT h r q cs (mu u 14 v)) (As := []) (rest := []) S (VT_c14 h r q cs u) hI (by rw [mu_self]) (c_X7_isSure l D (h 14) (r 14) cs (u 14) _ hw) (cwV 0 S.2.2.2.2 gX11_dropAll_X7_isSure rfl rfl rfl (by decide +kernel) ⟨Nat.le_of_ble_eq_true rfl, Nat.le_of_ble_eq_true rfl⟩) rfl rfl rfl hl.1 rfl (Nat.le_of_ble_eq_true rfl) dX11_dropAll_47 ⟨Nat.zero_le _, Nat.zero_le _⟩ (fun y47 v47 H locs hw hI => ?_)
            obtain ⟨u47, eu47⟩ : ∃ z : CS, z = mu u 14 v47 := ⟨_, rfl⟩
            have hw := hw u47 eu47
            replace hI : mI D (mT cs) A s.heap s (VT h r q cs u47) H locs := by rw [eu47]; exact hI
            refine lv_if_eq (tgt := 56) S.1 S.2.1 dX11_dropAll_50 (by decide) (fun c50 => ?_) (fun c50 => ?_)
            · have hw := hw.1 c50
              refine lv_aload_n S.1 S.2.1 dX11_dropAll_56 rfl (lv_at hl 1 rfl) ?_
              refine lv_iload_n S.1 S.2.1 dX11_dropAll_57 rfl (lv_at hl 2 rfl) ?_
              refine lv_iload S.1 S.2.1 dX11_dropAll_58 (lv_at hl 5 rfl) ?_
              refine lv_iadd S.1 S.2.1 dX11_dropAll_60 ?_
              refine lv_topi (fun y60 ey60 => ?_)
              have hw := hw y60 ey60
              refine m_vl (cf := fun v => VT h r q cs (mu u47 (18 + s9) v)) (As := [.int y60]) (rest := []) S (VT_cS h r q cs u47 hq1) hI (by rw [mu_self]) (c_X6_get l D (h (18 + s9)) (r (18 + s9)) cs y60 (u47 (18 + s9)) _ hw) (cwV 1 S.2.2.2.2 gX11_dropAll_X6_get rfl rfl rfl (by decide +kernel) ⟨Nat.le_of_ble_eq_true rfl, Nat.le_of_ble_eq_true rfl⟩) rfl rfl rfl hl.1 rfl (Nat.le_of_ble_eq_true rfl) dX11_dropAll_61 ⟨Nat.zero_le _, Nat.zero_le _⟩ (fun y61 v61 H locs hw hI => ?_)
              obtain ⟨u61, eu61⟩ : ∃ z : CS, z = mu u47 (18 + s9) v61 := ⟨_, rfl⟩
              have hw := hw u61 eu61
              replace hI : mI D (mT cs) A s.heap s (VT h r q cs u61) H locs := by rw [eu61]; exact hI
              refine lv_l2i S.1 S.2.1 dX11_dropAll_64 rfl ?_
              refine lv_topi (fun y64 ey64 => ?_)
              have hw := hw y64 ey64
              refine lv_istore (lv' := [(6, .int y64), (0, .ref (h 0)), (1, .ref (h (18 + s9))), (2, .int x2), (3, .int x3), (4, .int x4), (5, .int x5)]) S.1 S.2.1 dX11_dropAll_65 hl (by decide) rfl (fun ls hl => ?_)
              refine lv_iload S.1 S.2.1 dX11_dropAll_67 (lv_at hl 0 rfl) ?_
              refine lv_iconst (v := 1) S.1 S.2.1 dX11_dropAll_69 (by decide) ?_
              refine lv_aload_n S.1 S.2.1 dX11_dropAll_70 rfl (lv_at hl 1 rfl) ?_
              refine m_get S hin11 hI 0 (VT_o0 h r q cs u61) rfl 11 (Nat.le_of_ble_eq_true rfl) (List.mem_of_getElem? (i := 1) rfl) rfl (FO11_at11 _ _ _) dX11_dropAll_71 ?_
              refine m_getN S hin1 hI 114 (VT_o13 h r q cs u61) rfl 3 (Nat.le_of_ble_eq_true rfl) nf_X11_401 rfl (FO1_at3 _ _ _) dX11_dropAll_74 ?_
              refine m_si (As := [.int y64, .int (1 : Int32), .int (gI (u61 13) 3)]) (rest := []) S hI.2.2.2.1.2.1 (c_X11_within l y64 (1 : Int32) (gI (u61 13) 3) _ hw) (va_cwS 3 S.2.2.2.2 gX11_dropAll_X11_within rfl rfl rfl (by decide +kernel) ⟨Nat.le_of_ble_eq_true rfl, Nat.le_of_ble_eq_true rfl⟩) rfl hl.1 rfl (Nat.le_of_ble_eq_true rfl) dX11_dropAll_77 ⟨Nat.zero_le _, Nat.zero_le _⟩ (fun y77 hw => ?_)
              refine lv_if_ne (tgt := 86) S.1 S.2.1 dX11_dropAll_80 (by decide) (fun c80 => ?_) (fun c80 => ?_)
              · have hw := hw.1 c80
                refine lv_aload_n S.1 S.2.1 dX11_dropAll_86 rfl (lv_at hl 1 rfl) ?_
                refine m_get S hin11 hI 0 (VT_o0 h r q cs u61) rfl 11 (Nat.le_of_ble_eq_true rfl) (List.mem_of_getElem? (i := 1) rfl) rfl (FO11_at11 _ _ _) dX11_dropAll_87 ?_
                refine lv_iload S.1 S.2.1 dX11_dropAll_90 (lv_at hl 0 rfl) ?_
                refine m_vi (cf := fun v => VT h r q cs (emb u61 [13, 14] v)) (As := [.int y64]) (rest := []) S (VT_k_hd_13_14 h r q cs u61) hI (by rw [emb_self]) (c_X1_dropFrom l D (fun i => h ([13, 14].getD i 0)) (fun i => rE r (gI (u61 24) 0) ([13, 14].getD i 0)) (fun i => q ([13, 14].getD i 0)) cs y64 (fun i => u61 ([13, 14].getD i 0)) _ hw) (cwV 1 S.2.2.2.2 gX11_dropAll_X1_dropFrom rfl rfl rfl (by decide +kernel) ⟨Nat.le_of_ble_eq_true rfl, Nat.le_of_ble_eq_true rfl⟩) rfl rfl rfl hl.1 rfl (Nat.le_of_ble_eq_true rfl) dX11_dropAll_92 ⟨Nat.zero_le _, Nat.zero_le _⟩ (fun y92 v92 H locs hw hI => ?_)
                obtain ⟨u92, eu92⟩ : ∃ z : CS, z = emb u61 [13, 14] v92 := ⟨_, rfl⟩
                have hw := hw u92 eu92
                replace hI : mI D (mT cs) A s.heap s (VT h r q cs u92) H locs := by rw [eu92]; exact hI
                refine lv_pop S.1 S.2.1 dX11_dropAll_95 rfl ?_
                obtain ⟨y96, ey96⟩ : ∃ z : Int32, z = x4 + 1 := ⟨_, rfl⟩
                have hw := hw y96 ey96
                refine lv_iinc (v := y96) (lv' := [(4, .int y96), (6, .int y64), (0, .ref (h 0)), (1, .ref (h (18 + s9))), (2, .int x2), (3, .int x3), (5, .int x5)]) S.1 S.2.1 dX11_dropAll_96 hl (k := 5) rfl (by rw [ey96]; rfl) (by decide) rfl (fun ls hl => ?_)
                obtain ⟨y99, ey99⟩ : ∃ z : Int32, z = x5 + 1 := ⟨_, rfl⟩
                have hw := hw y99 ey99
                refine lv_iinc (v := y99) (lv' := [(5, .int y99), (4, .int y96), (6, .int y64), (0, .ref (h 0)), (1, .ref (h (18 + s9))), (2, .int x2), (3, .int x3)]) S.1 S.2.1 dX11_dropAll_99 hl (k := 6) rfl (by rw [ey99]; rfl) (by decide) rfl (fun ls hl => ?_)
                refine lv_goto (tgt := 6) S.1 S.2.1 dX11_dropAll_102 (by decide) ?_
                exact hB6 x2 x3 y96 y99 u92 hw H locs ls hI (lv_sub hl [3, 4, 5, 6, 1, 0] rfl)
              · have hw := hw.2 c80
                refine lv_iload S.1 S.2.1 dX11_dropAll_83 (lv_at hl 5 rfl) ?_
                subst hZ
                exact m_iret S hr hlocks hI hw dX11_dropAll_85
            · have hw := hw.2 c50
              exact b53 x4 u47 hw H locs ls hI (lv_sub hl [0, 4] rfl)
  have b6 : ∀ (x2 : Int32) (x3 : Int32) (x4 : Int32) (x5 : Int32) (u : CS), s9 < 6 → wp_X11_dropAll_S_p6 s9 x2 x3 x4 x5 u Q → mGo p l e ({ frames := 3, cells := 0, slots := 0, locals := 58 } : Room) s m args below meth c A Z 7 D (mT cs) (VT h r q cs) 6 [(0, .ref (h 0)), (1, .ref (h (18 + s9))), (2, .int x2), (3, .int x3), (4, .int x4), (5, .int x5)] [] u := by
    intro x2 x3 x4 x5 u hq1 hw
    obtain ⟨I, μ, h0, hs⟩ := hw
    have key : ∀ (n : Nat) (x2 : Int32) (x3 : Int32) (x4 : Int32) (x5 : Int32) (u : CS), μ x2 x3 x4 x5 u = n → I x2 x3 x4 x5 u → mGo p l e ({ frames := 3, cells := 0, slots := 0, locals := 58 } : Room) s m args below meth c A Z 7 D (mT cs) (VT h r q cs) 6 [(0, .ref (h 0)), (1, .ref (h (18 + s9))), (2, .int x2), (3, .int x3), (4, .int x4), (5, .int x5)] [] u := by
      intro n
      induction n using Nat.strongRecOn with
      | ind n ih =>
        intro x2 x3 x4 x5 u hn hi
        exact b6b (fun yx2 yx3 yx4 yx5 yu => I yx2 yx3 yx4 yx5 yu ∧ μ yx2 yx3 yx4 yx5 yu < μ x2 x3 x4 x5 u) (fun yx2 yx3 yx4 yx5 yu hb => ih _ (hn ▸ hb.2) yx2 yx3 yx4 yx5 yu rfl hb.1) x2 x3 x4 x5 u hq1 (hs x2 x3 x4 x5 u hi)
    exact key _ x2 x3 x4 x5 u rfl h0
  unfold wp_X11_dropAll_S at hw
  obtain ⟨H, hH⟩ : ∃ z : Heap, z = s.heap := ⟨_, rfl⟩
  obtain ⟨locs, hL⟩ : ∃ z : List Loc, z = [] := ⟨_, rfl⟩
  rw [show W p l e ({ frames := 3, cells := 0, slots := 0, locals := 58 } : Room) s m args below meth c s.heap [] 0 0 Z (F0 m 0 ls []) = W p l e ({ frames := 3, cells := 0, slots := 0, locals := 58 } : Room) s m args below meth c H locs 0 0 Z (F0 m 0 ls []) by rw [hH, hL]]
  replace hI : mI D (mT cs) A s.heap s (VT h r q cs u) H locs := by rw [hH, hL]; exact hI
  refine lv_iconst (v := 0) S.1 S.2.1 dX11_dropAll_0 (by decide) ?_
  refine lv_istore (lv' := [(4, .int (0 : Int32)), (0, .ref (h 0)), (1, .ref (h (18 + s9))), (2, .int a2), (3, .int a3)]) S.1 S.2.1 dX11_dropAll_1 hl (by decide) rfl (fun ls hl => ?_)
  refine lv_iconst (v := 0) S.1 S.2.1 dX11_dropAll_3 (by decide) ?_
  refine lv_istore (lv' := [(5, .int (0 : Int32)), (4, .int (0 : Int32)), (0, .ref (h 0)), (1, .ref (h (18 + s9))), (2, .int a2), (3, .int a3)]) S.1 S.2.1 dX11_dropAll_4 hl (by decide) rfl (fun ls hl => ?_)
  exact b6 a2 a3 (0 : Int32) (0 : Int32) u hs9 hw H locs ls hI (lv_sub hl [2, 3, 4, 5, 1, 0] rfl)

def wp_X11_mend_p21 (t0 : Int32) (u : CS) (Q : Int32 → CS → Prop) : Prop :=
  Q t0 u
def wp_X11_mend (a1 : Int32) (a2 : Int32) (u : CS) (Q : Int32 → CS → Prop) : Prop :=
  (wp_X8_fits a1 a2 stz (fun y2 _ => ((y2 = 0 → wp_X11_mend_p21 ((-1) : Int32) u Q) ∧ (¬ y2 = 0 → (wp_X8_change a1 a2 (u 1) (fun y14 v14 => ∀ u14 : CS, u14 = mu u 1 v14 → wp_X11_mend_p21 y14 u14 Q))))))
set_option maxHeartbeats 4000000 in
set_option maxRecDepth 100000 in
theorem c_X11_mend (l : Launch) (D : va_G) (h : Nat → Nat) (r : Nat → Nat → Nat) (q : Nat → Nat → Nat → Nat) (cs : Nat → ClassId) (a1 : Int32) (a2 : Int32) (u : CS) (Q : Int32 → CS → Prop) (hw : wp_X11_mend a1 a2 u Q) : mCi l yX11_mend wsX11_mend ({ frames := 3, cells := 0, slots := 0, locals := 67 } : Room) 0 0 D (mT cs) (VT h r q cs) [.ref (h 0), .int a1, .int a2] u Q := by
  unfold mCi
  refine m_enter (QQ := fun A => va_Qi Q (mPos D (mT cs) A (VT h r q cs)) A) (cc := cX11_mend) (maxL := 3) (ret := (some .int)) (by decide) rfl (Nat.le_of_ble_eq_true rfl) ?_
  intro p e s m args below meth c A ls S hr hlocks hname hl hI
  have S : CallFix p m c cX11_mend 3 s args wsX11_mend RX11 := S
  show W p l e ({ frames := 3, cells := 0, slots := 0, locals := 67 } : Room) s m args below meth c s.heap [] 0 0 (MQ below (va_Qi Q (mPos D (mT cs) A (VT h r q cs)) A) args s 0 0 A) (F0 m 0 ls [])
  generalize hZ : MQ below (va_Qi Q (mPos D (mT cs) A (VT h r q cs)) A) args s 0 0 A = Z
  have hin8 : ∀ w ∈ wsX80, w ∈ wsX11_mend := fun _ h => List.mem_cons_of_mem _ (List.mem_append_right _ h)
  have hin11 : ∀ w ∈ wsX110, w ∈ wsX11_mend := fun _ h => List.mem_cons_of_mem _ (List.mem_append_left _ (List.mem_append_right _ h))
  have hl : lv_has ls 3 [(0, .ref (h 0)), (1, .int a1), (2, .int a2)] := hl
  have b21 : ∀ (t0 : Int32) (u : CS), wp_X11_mend_p21 t0 u Q → mGo p l e ({ frames := 3, cells := 0, slots := 0, locals := 67 } : Room) s m args below meth c A Z 3 D (mT cs) (VT h r q cs) 21 [(0, .ref (h 0))] [.int t0] u := by
    intro t0 u hw H locs ls hI hl
    unfold wp_X11_mend_p21 at hw
    subst hZ
    exact m_iret S hr hlocks hI hw dX11_mend_21
  unfold wp_X11_mend at hw
  obtain ⟨H, hH⟩ : ∃ z : Heap, z = s.heap := ⟨_, rfl⟩
  obtain ⟨locs, hL⟩ : ∃ z : List Loc, z = [] := ⟨_, rfl⟩
  rw [show W p l e ({ frames := 3, cells := 0, slots := 0, locals := 67 } : Room) s m args below meth c s.heap [] 0 0 Z (F0 m 0 ls []) = W p l e ({ frames := 3, cells := 0, slots := 0, locals := 67 } : Room) s m args below meth c H locs 0 0 Z (F0 m 0 ls []) by rw [hH, hL]]
  replace hI : mI D (mT cs) A s.heap s (VT h r q cs u) H locs := by rw [hH, hL]; exact hI
  refine lv_iload_n S.1 S.2.1 dX11_mend_0 rfl (lv_at hl 1 rfl) ?_
  refine lv_iload_n S.1 S.2.1 dX11_mend_1 rfl (lv_at hl 2 rfl) ?_
  refine m_se (As := [.int a1, .int a2]) (rest := []) S hI (c_X8_fits l D cs a1 a2 stz _ hw) (va_cwS 2 S.2.2.2.2 gX11_mend_X8_fits rfl rfl rfl (by decide +kernel) ⟨Nat.le_of_ble_eq_true rfl, Nat.le_of_ble_eq_true rfl⟩) rfl hl.1 rfl (Nat.le_of_ble_eq_true rfl) dX11_mend_2 ⟨Nat.zero_le _, Nat.zero_le _⟩ (fun y2 _ H locs hw hI => ?_)
  refine lv_if_eq (tgt := 20) S.1 S.2.1 dX11_mend_5 (by decide) (fun c5 => ?_) (fun c5 => ?_)
  · have hw := hw.1 c5
    refine lv_iconst (v := (-1)) S.1 S.2.1 dX11_mend_20 (by decide) ?_
    exact b21 ((-1) : Int32) u hw H locs ls hI (lv_sub hl [0] rfl)
  · have hw := hw.2 c5
    refine lv_aload_n S.1 S.2.1 dX11_mend_8 rfl (lv_at hl 0 rfl) ?_
    refine m_get S hin11 hI 0 (VT_o0 h r q cs u) rfl 0 (Nat.le_of_ble_eq_true rfl) (List.mem_of_getElem? (i := 1) rfl) rfl (FO11_at0 _ _ _) dX11_mend_9 ?_
    refine lv_iload_n S.1 S.2.1 dX11_mend_12 rfl (lv_at hl 1 rfl) ?_
    refine lv_iload_n S.1 S.2.1 dX11_mend_13 rfl (lv_at hl 2 rfl) ?_
    refine m_vi (cf := fun v => VT h r q cs (mu u 1 v)) (As := [.int a1, .int a2]) (rest := []) S (VT_c1 h r q cs u) hI (by rw [mu_self]) (c_X8_change l D (h 1) (r 1) cs a1 a2 (u 1) _ hw) (cwV 2 S.2.2.2.2 gX11_mend_X8_change rfl rfl rfl (by decide +kernel) ⟨Nat.le_of_ble_eq_true rfl, Nat.le_of_ble_eq_true rfl⟩) rfl rfl rfl hl.1 rfl (Nat.le_of_ble_eq_true rfl) dX11_mend_14 ⟨Nat.zero_le _, Nat.zero_le _⟩ (fun y14 v14 H locs hw hI => ?_)
    obtain ⟨u14, eu14⟩ : ∃ z : CS, z = mu u 1 v14 := ⟨_, rfl⟩
    have hw := hw u14 eu14
    replace hI : mI D (mT cs) A s.heap s (VT h r q cs u14) H locs := by rw [eu14]; exact hI
    refine lv_goto (tgt := 21) S.1 S.2.1 dX11_mend_17 (by decide) ?_
    exact b21 y14 u14 hw H locs ls hI (lv_sub hl [0] rfl)

def wp_X11_of (a1 : Int32) (u : CS) (Q : Int32 → CS → Prop) : Prop :=
  (wp_X8_value a1 (u 1) (fun y5 v5 => ∀ u5 : CS, u5 = mu u 1 v5 → Q y5 u5))
set_option maxHeartbeats 4000000 in
set_option maxRecDepth 100000 in
theorem c_X11_of (l : Launch) (D : va_G) (h : Nat → Nat) (r : Nat → Nat → Nat) (q : Nat → Nat → Nat → Nat) (cs : Nat → ClassId) (a1 : Int32) (u : CS) (Q : Int32 → CS → Prop) (hw : wp_X11_of a1 u Q) : mCi l yX11_of wsX11_of ({ frames := 2, cells := 0, slots := 0, locals := 43 } : Room) 0 0 D (mT cs) (VT h r q cs) [.ref (h 0), .int a1] u Q := by
  unfold mCi
  refine m_enter (QQ := fun A => va_Qi Q (mPos D (mT cs) A (VT h r q cs)) A) (cc := cX11_of) (maxL := 2) (ret := (some .int)) (by decide) rfl (Nat.le_of_ble_eq_true rfl) ?_
  intro p e s m args below meth c A ls S hr hlocks hname hl hI
  have S : CallFix p m c cX11_of 2 s args wsX11_of RX11 := S
  show W p l e ({ frames := 2, cells := 0, slots := 0, locals := 43 } : Room) s m args below meth c s.heap [] 0 0 (MQ below (va_Qi Q (mPos D (mT cs) A (VT h r q cs)) A) args s 0 0 A) (F0 m 0 ls [])
  generalize hZ : MQ below (va_Qi Q (mPos D (mT cs) A (VT h r q cs)) A) args s 0 0 A = Z
  have hin8 : ∀ w ∈ wsX80, w ∈ wsX11_of := fun _ h => List.mem_cons_of_mem _ (List.mem_append_right _ h)
  have hin11 : ∀ w ∈ wsX110, w ∈ wsX11_of := fun _ h => List.mem_cons_of_mem _ (List.mem_append_left _ (List.mem_append_right _ h))
  have hl : lv_has ls 2 [(0, .ref (h 0)), (1, .int a1)] := hl
  unfold wp_X11_of at hw
  obtain ⟨H, hH⟩ : ∃ z : Heap, z = s.heap := ⟨_, rfl⟩
  obtain ⟨locs, hL⟩ : ∃ z : List Loc, z = [] := ⟨_, rfl⟩
  rw [show W p l e ({ frames := 2, cells := 0, slots := 0, locals := 43 } : Room) s m args below meth c s.heap [] 0 0 Z (F0 m 0 ls []) = W p l e ({ frames := 2, cells := 0, slots := 0, locals := 43 } : Room) s m args below meth c H locs 0 0 Z (F0 m 0 ls []) by rw [hH, hL]]
  replace hI : mI D (mT cs) A s.heap s (VT h r q cs u) H locs := by rw [hH, hL]; exact hI
  refine lv_aload_n S.1 S.2.1 dX11_of_0 rfl (lv_at hl 0 rfl) ?_
  refine m_get S hin11 hI 0 (VT_o0 h r q cs u) rfl 0 (Nat.le_of_ble_eq_true rfl) (List.mem_of_getElem? (i := 1) rfl) rfl (FO11_at0 _ _ _) dX11_of_1 ?_
  refine lv_iload_n S.1 S.2.1 dX11_of_4 rfl (lv_at hl 1 rfl) ?_
  refine m_vi (cf := fun v => VT h r q cs (mu u 1 v)) (As := [.int a1]) (rest := []) S (VT_c1 h r q cs u) hI (by rw [mu_self]) (c_X8_value l D (h 1) (r 1) cs a1 (u 1) _ hw) (cwV 1 S.2.2.2.2 gX11_of_X8_value rfl rfl rfl (by decide +kernel) ⟨Nat.le_of_ble_eq_true rfl, Nat.le_of_ble_eq_true rfl⟩) rfl rfl rfl hl.1 rfl (Nat.le_of_ble_eq_true rfl) dX11_of_5 ⟨Nat.zero_le _, Nat.zero_le _⟩ (fun y5 v5 H locs hw hI => ?_)
  obtain ⟨u5, eu5⟩ : ∃ z : CS, z = mu u 1 v5 := ⟨_, rfl⟩
  have hw := hw u5 eu5
  replace hI : mI D (mT cs) A s.heap s (VT h r q cs u5) H locs := by rw [eu5]; exact hI
  subst hZ
  exact m_iret S hr hlocks hI hw dX11_of_8

theorem VT_c2 (h : Nat → Nat) (r : Nat → Nat → Nat) (q : Nat → Nat → Nat → Nat) (cs : Nat → ClassId) (U : CS) : ∀ v : ST, (VT h r q cs (mu U 2 v)).Perm ([] ++ (W3 (h 2) (rE r (gI (U 24) 0) 2) cs v ++ [0, 1, 3, 4, 5, 6, 7, 8, 9, 10, 11, 12, 13, 14, 15, 16, 17, 18, 19, 20, 21, 22, 23, 24].flatMap (cTT h r q cs U))) := fun v => (front_perm (cTT h r q cs (mu U 2 v)) (l := [0, 1, 2, 3, 4, 5, 6, 7, 8, 9, 10, 11, 12, 13, 14, 15, 16, 17, 18, 19, 20, 21, 22, 23, 24]) (ks := [2]) (rest := [0, 1, 3, 4, 5, 6, 7, 8, 9, 10, 11, 12, 13, 14, 15, 16, 17, 18, 19, 20, 21, 22, 23, 24]) (by decide)).trans (List.Perm.of_eq (by rw [show [2].flatMap (cTT h r q cs (mu U 2 v)) = W3 (h 2) (rE r (gI (U 24) 0) 2) cs v from List.append_nil _]; rfl))
def wp_X11_feed_p23 (t0 : Int32) (u : CS) (Q : Int32 → CS → Prop) : Prop :=
  Q t0 u
def wp_X11_feed_p11 (u : CS) (Q : Int32 → CS → Prop) : Prop :=
  wp_X11_feed_p23 ((-1) : Int32) u Q
def wp_X11_feed (a1 : Int32) (u : CS) (Q : Int32 → CS → Prop) : Prop :=
  ((a1 < 0 → wp_X11_feed_p11 u Q) ∧ (¬ a1 < 0 → ((a1 ≤ (255 : Int32) → (wp_X3_take a1 (u 2) (fun y20 v20 => ∀ u20 : CS, u20 = mu u 2 v20 → wp_X11_feed_p23 y20 u20 Q))) ∧ (¬ a1 ≤ (255 : Int32) → wp_X11_feed_p11 u Q))))
set_option maxHeartbeats 4000000 in
set_option maxRecDepth 100000 in
theorem c_X11_feed (l : Launch) (D : va_G) (h : Nat → Nat) (r : Nat → Nat → Nat) (q : Nat → Nat → Nat → Nat) (cs : Nat → ClassId) (a1 : Int32) (u : CS) (Q : Int32 → CS → Prop) (hw : wp_X11_feed a1 u Q) : mCi l yX11_feed wsX11_feed ({ frames := 1, cells := 0, slots := 0, locals := 21 } : Room) 0 0 D (mT cs) (VT h r q cs) [.ref (h 0), .int a1] u Q := by
  unfold mCi
  refine m_enter (QQ := fun A => va_Qi Q (mPos D (mT cs) A (VT h r q cs)) A) (cc := cX11_feed) (maxL := 2) (ret := (some .int)) (by decide) rfl (Nat.le_of_ble_eq_true rfl) ?_
  intro p e s m args below meth c A ls S hr hlocks hname hl hI
  have S : CallFix p m c cX11_feed 2 s args wsX11_feed RX11 := S
  show W p l e ({ frames := 1, cells := 0, slots := 0, locals := 21 } : Room) s m args below meth c s.heap [] 0 0 (MQ below (va_Qi Q (mPos D (mT cs) A (VT h r q cs)) A) args s 0 0 A) (F0 m 0 ls [])
  generalize hZ : MQ below (va_Qi Q (mPos D (mT cs) A (VT h r q cs)) A) args s 0 0 A = Z
  have hin3 : ∀ w ∈ wsX30, w ∈ wsX11_feed := fun _ h => List.mem_cons_of_mem _ (List.mem_append_right _ h)
  have hin11 : ∀ w ∈ wsX110, w ∈ wsX11_feed := fun _ h => List.mem_cons_of_mem _ (List.mem_append_left _ (List.mem_append_right _ h))
  have hl : lv_has ls 2 [(0, .ref (h 0)), (1, .int a1)] := hl
  have b23 : ∀ (t0 : Int32) (u : CS), wp_X11_feed_p23 t0 u Q → mGo p l e ({ frames := 1, cells := 0, slots := 0, locals := 21 } : Room) s m args below meth c A Z 2 D (mT cs) (VT h r q cs) 23 [(0, .ref (h 0))] [.int t0] u := by
    intro t0 u hw H locs ls hI hl
    unfold wp_X11_feed_p23 at hw
    subst hZ
    exact m_iret S hr hlocks hI hw dX11_feed_23
  have b11 : ∀ (u : CS), wp_X11_feed_p11 u Q → mGo p l e ({ frames := 1, cells := 0, slots := 0, locals := 21 } : Room) s m args below meth c A Z 2 D (mT cs) (VT h r q cs) 11 [(0, .ref (h 0))] [] u := by
    intro u hw H locs ls hI hl
    unfold wp_X11_feed_p11 at hw
    refine lv_iconst (v := (-1)) S.1 S.2.1 dX11_feed_11 (by decide) ?_
    refine lv_goto (tgt := 23) S.1 S.2.1 dX11_feed_12 (by decide) ?_
    exact b23 ((-1) : Int32) u hw H locs ls hI (lv_sub hl [0] rfl)
  unfold wp_X11_feed at hw
  obtain ⟨H, hH⟩ : ∃ z : Heap, z = s.heap := ⟨_, rfl⟩
  obtain ⟨locs, hL⟩ : ∃ z : List Loc, z = [] := ⟨_, rfl⟩
  rw [show W p l e ({ frames := 1, cells := 0, slots := 0, locals := 21 } : Room) s m args below meth c s.heap [] 0 0 Z (F0 m 0 ls []) = W p l e ({ frames := 1, cells := 0, slots := 0, locals := 21 } : Room) s m args below meth c H locs 0 0 Z (F0 m 0 ls []) by rw [hH, hL]]
  replace hI : mI D (mT cs) A s.heap s (VT h r q cs u) H locs := by rw [hH, hL]; exact hI
  refine lv_iload_n S.1 S.2.1 dX11_feed_0 rfl (lv_at hl 1 rfl) ?_
  refine lv_if_lt (tgt := 11) S.1 S.2.1 dX11_feed_1 (by decide) (fun c1 => ?_) (fun c1 => ?_)
  · have hw := hw.1 c1
    exact b11 u hw H locs ls hI (lv_sub hl [0] rfl)
  · have hw := hw.2 c1
    refine lv_iload_n S.1 S.2.1 dX11_feed_4 rfl (lv_at hl 1 rfl) ?_
    refine lv_sipush (v := 255) S.1 S.2.1 dX11_feed_5 (by decide) ?_
    refine lv_icmp_le (tgt := 15) S.1 S.2.1 dX11_feed_8 (by decide) (fun c8 => ?_) (fun c8 => ?_)
    · have hw := hw.1 c8
      refine lv_aload_n S.1 S.2.1 dX11_feed_15 rfl (lv_at hl 0 rfl) ?_
      refine m_get S hin11 hI 0 (VT_o0 h r q cs u) rfl 1 (Nat.le_of_ble_eq_true rfl) (List.mem_of_getElem? (i := 1) rfl) rfl (FO11_at1 _ _ _) dX11_feed_16 ?_
      refine lv_iload_n S.1 S.2.1 dX11_feed_19 rfl (lv_at hl 1 rfl) ?_
      refine m_vi (cf := fun v => VT h r q cs (mu u 2 v)) (As := [.int a1]) (rest := []) S (VT_c2 h r q cs u) hI (by rw [mu_self]) (c_X3_take l D (h 2) (rE r (gI (u 24) 0) 2) cs a1 (u 2) _ hw) (cwV 1 S.2.2.2.2 gX11_feed_X3_take rfl rfl rfl (by decide +kernel) ⟨Nat.le_of_ble_eq_true rfl, Nat.le_of_ble_eq_true rfl⟩) rfl rfl rfl hl.1 rfl (Nat.le_of_ble_eq_true rfl) dX11_feed_20 ⟨Nat.zero_le _, Nat.zero_le _⟩ (fun y20 v20 H locs hw hI => ?_)
      obtain ⟨u20, eu20⟩ : ∃ z : CS, z = mu u 2 v20 := ⟨_, rfl⟩
      have hw := hw u20 eu20
      replace hI : mI D (mT cs) A s.heap s (VT h r q cs u20) H locs := by rw [eu20]; exact hI
      exact b23 y20 u20 hw H locs ls hI (lv_sub hl [0] rfl)
    · have hw := hw.2 c8
      exact b11 u hw H locs ls hI (lv_sub hl [0] rfl)

theorem VT_k_lb_2_24 (h : Nat → Nat) (r : Nat → Nat → Nat) (q : Nat → Nat → Nat → Nat) (cs : Nat → ClassId) (U : CS) : ∀ v : CS, (VT h r q cs (emb U [2, 24] v)).Perm ([] ++ (Vlb (fun i => h ([2, 24].getD i 0)) (fun i => r ([2, 24].getD i 0)) (fun i => q ([2, 24].getD i 0)) cs v ++ [0, 1, 3, 4, 5, 6, 7, 8, 9, 10, 11, 12, 13, 14, 15, 16, 17, 18, 19, 20, 21, 22, 23].flatMap (cTT h r q cs U))) := fun v => (front_perm (cTT h r q cs (emb U [2, 24] v)) (l := [0, 1, 2, 3, 4, 5, 6, 7, 8, 9, 10, 11, 12, 13, 14, 15, 16, 17, 18, 19, 20, 21, 22, 23, 24]) (ks := [2, 24]) (rest := [0, 1, 3, 4, 5, 6, 7, 8, 9, 10, 11, 12, 13, 14, 15, 16, 17, 18, 19, 20, 21, 22, 23]) (by decide)).trans (List.Perm.of_eq rfl)
def wp_X11_law (u : CS) (Q : Int32 → CS → Prop) : Prop :=
  (wp_X3_become (fun i => u ([2, 24].getD i 0)) (fun y4 v4 => ∀ u4 : CS, u4 = emb u [2, 24] v4 → Q y4 u4))
set_option maxHeartbeats 4000000 in
set_option maxRecDepth 100000 in
theorem c_X11_law (l : Launch) (D : va_G) (h : Nat → Nat) (r : Nat → Nat → Nat) (q : Nat → Nat → Nat → Nat) (cs : Nat → ClassId) (u : CS) (Q : Int32 → CS → Prop) (hw : wp_X11_law u Q) : mCi l yX11_law wsX11_law ({ frames := 87, cells := 0, slots := 0, locals := 2229 } : Room) 0 0 D (mT cs) (VT h r q cs) [.ref (h 0)] u Q := by
  unfold mCi
  refine m_enter (QQ := fun A => va_Qi Q (mPos D (mT cs) A (VT h r q cs)) A) (cc := cX11_law) (maxL := 1) (ret := (some .int)) (by decide) rfl (Nat.le_of_ble_eq_true rfl) ?_
  intro p e s m args below meth c A ls S hr hlocks hname hl hI
  have S : CallFix p m c cX11_law 1 s args wsX11_law RX11 := S
  show W p l e ({ frames := 87, cells := 0, slots := 0, locals := 2229 } : Room) s m args below meth c s.heap [] 0 0 (MQ below (va_Qi Q (mPos D (mT cs) A (VT h r q cs)) A) args s 0 0 A) (F0 m 0 ls [])
  generalize hZ : MQ below (va_Qi Q (mPos D (mT cs) A (VT h r q cs)) A) args s 0 0 A = Z
  have hin3 : ∀ w ∈ wsX30, w ∈ wsX11_law := fun _ h => List.mem_cons_of_mem _ (List.mem_append_right _ h)
  have hin11 : ∀ w ∈ wsX110, w ∈ wsX11_law := fun _ h => List.mem_cons_of_mem _ (List.mem_append_left _ (List.mem_append_right _ h))
  have hl : lv_has ls 1 [(0, .ref (h 0))] := hl
  unfold wp_X11_law at hw
  obtain ⟨H, hH⟩ : ∃ z : Heap, z = s.heap := ⟨_, rfl⟩
  obtain ⟨locs, hL⟩ : ∃ z : List Loc, z = [] := ⟨_, rfl⟩
  rw [show W p l e ({ frames := 87, cells := 0, slots := 0, locals := 2229 } : Room) s m args below meth c s.heap [] 0 0 Z (F0 m 0 ls []) = W p l e ({ frames := 87, cells := 0, slots := 0, locals := 2229 } : Room) s m args below meth c H locs 0 0 Z (F0 m 0 ls []) by rw [hH, hL]]
  replace hI : mI D (mT cs) A s.heap s (VT h r q cs u) H locs := by rw [hH, hL]; exact hI
  refine lv_aload_n S.1 S.2.1 dX11_law_0 rfl (lv_at hl 0 rfl) ?_
  refine m_get S hin11 hI 0 (VT_o0 h r q cs u) rfl 1 (Nat.le_of_ble_eq_true rfl) (List.mem_of_getElem? (i := 1) rfl) rfl (FO11_at1 _ _ _) dX11_law_1 ?_
  refine m_vi (cf := fun v => VT h r q cs (emb u [2, 24] v)) (As := []) (rest := []) S (VT_k_lb_2_24 h r q cs u) hI (by rw [emb_self]) (c_X3_become l D (fun i => h ([2, 24].getD i 0)) (fun i => r ([2, 24].getD i 0)) (fun i => q ([2, 24].getD i 0)) cs (fun i => u ([2, 24].getD i 0)) _ hw) (cwV 0 S.2.2.2.2 gX11_law_X3_become rfl rfl rfl (by decide +kernel) ⟨Nat.le_of_ble_eq_true rfl, Nat.le_of_ble_eq_true rfl⟩) rfl rfl rfl hl.1 rfl (Nat.le_of_ble_eq_true rfl) dX11_law_4 ⟨Nat.zero_le _, Nat.zero_le _⟩ (fun y4 v4 H locs hw hI => ?_)
  obtain ⟨u4, eu4⟩ : ∃ z : CS, z = emb u [2, 24] v4 := ⟨_, rfl⟩
  have hw := hw u4 eu4
  replace hI : mI D (mT cs) A s.heap s (VT h r q cs u4) H locs := by rw [eu4]; exact hI
  subst hZ
  exact m_iret S hr hlocks hI hw dX11_law_7

def wp_X11_weight (a1 : Int32) (u : CS) (Q : Int32 → CS → Prop) : Prop :=
  (wp_X8_steps (u 1) (fun y6 v6 => ∀ u6 : CS, u6 = mu u 1 v6 → (wp_X11_within a1 (0 : Int32) y6 (fun y9 => ((¬ y9 = 0 → (wp_X8_steps (u6 1) (fun y26 v26 => ∀ u26 : CS, u26 = mu u6 1 v26 → (wp_X8_jars (u26 1) (fun y33 v33 => ∀ u33 : CS, u33 = mu u26 1 v33 → (wp_X3_weightFor a1 y26 y33 (u33 2) (fun y36 v36 => ∀ u36 : CS, u36 = mu u33 2 v36 → Q y36 u36))))))) ∧ (y9 = 0 → Q ((-1) : Int32) u6))))))
set_option maxHeartbeats 4000000 in
set_option maxRecDepth 100000 in
theorem c_X11_weight (l : Launch) (D : va_G) (h : Nat → Nat) (r : Nat → Nat → Nat) (q : Nat → Nat → Nat → Nat) (cs : Nat → ClassId) (a1 : Int32) (u : CS) (Q : Int32 → CS → Prop) (hw : wp_X11_weight a1 u Q) : mCi l yX11_weight wsX11_weight ({ frames := 4, cells := 0, slots := 0, locals := 93 } : Room) 0 0 D (mT cs) (VT h r q cs) [.ref (h 0), .int a1] u Q := by
  unfold mCi
  refine m_enter (QQ := fun A => va_Qi Q (mPos D (mT cs) A (VT h r q cs)) A) (cc := cX11_weight) (maxL := 2) (ret := (some .int)) (by decide) rfl (Nat.le_of_ble_eq_true rfl) ?_
  intro p e s m args below meth c A ls S hr hlocks hname hl hI
  have S : CallFix p m c cX11_weight 2 s args wsX11_weight RX11 := S
  show W p l e ({ frames := 4, cells := 0, slots := 0, locals := 93 } : Room) s m args below meth c s.heap [] 0 0 (MQ below (va_Qi Q (mPos D (mT cs) A (VT h r q cs)) A) args s 0 0 A) (F0 m 0 ls [])
  generalize hZ : MQ below (va_Qi Q (mPos D (mT cs) A (VT h r q cs)) A) args s 0 0 A = Z
  have hin3 : ∀ w ∈ wsX30, w ∈ wsX11_weight := fun _ h => List.mem_cons_of_mem _ (List.mem_append_right _ h)
  have hin8 : ∀ w ∈ wsX80, w ∈ wsX11_weight := fun _ h => List.mem_cons_of_mem _ (List.mem_append_left _ (List.mem_append_right _ h))
  have hin11 : ∀ w ∈ wsX110, w ∈ wsX11_weight := fun _ h => List.mem_cons_of_mem _ (List.mem_append_left _ (List.mem_append_left _ (List.mem_append_right _ h)))
  have hl : lv_has ls 2 [(0, .ref (h 0)), (1, .int a1)] := hl
  unfold wp_X11_weight at hw
  obtain ⟨H, hH⟩ : ∃ z : Heap, z = s.heap := ⟨_, rfl⟩
  obtain ⟨locs, hL⟩ : ∃ z : List Loc, z = [] := ⟨_, rfl⟩
  rw [show W p l e ({ frames := 4, cells := 0, slots := 0, locals := 93 } : Room) s m args below meth c s.heap [] 0 0 Z (F0 m 0 ls []) = W p l e ({ frames := 4, cells := 0, slots := 0, locals := 93 } : Room) s m args below meth c H locs 0 0 Z (F0 m 0 ls []) by rw [hH, hL]]
  replace hI : mI D (mT cs) A s.heap s (VT h r q cs u) H locs := by rw [hH, hL]; exact hI
  refine lv_iload_n S.1 S.2.1 dX11_weight_0 rfl (lv_at hl 1 rfl) ?_
  refine lv_iconst (v := 0) S.1 S.2.1 dX11_weight_1 (by decide) ?_
  refine lv_aload_n S.1 S.2.1 dX11_weight_2 rfl (lv_at hl 0 rfl) ?_
  refine m_get S hin11 hI 0 (VT_o0 h r q cs u) rfl 0 (Nat.le_of_ble_eq_true rfl) (List.mem_of_getElem? (i := 1) rfl) rfl (FO11_at0 _ _ _) dX11_weight_3 ?_
  refine m_vi (cf := fun v => VT h r q cs (mu u 1 v)) (As := []) (rest := [.int (0 : Int32), .int a1]) S (VT_c1 h r q cs u) hI (by rw [mu_self]) (c_X8_steps l D (h 1) (r 1) cs (u 1) _ hw) (cwV 0 S.2.2.2.2 gX11_weight_X8_steps rfl rfl rfl (by decide +kernel) ⟨Nat.le_of_ble_eq_true rfl, Nat.le_of_ble_eq_true rfl⟩) rfl rfl rfl hl.1 rfl (Nat.le_of_ble_eq_true rfl) dX11_weight_6 ⟨Nat.zero_le _, Nat.zero_le _⟩ (fun y6 v6 H locs hw hI => ?_)
  obtain ⟨u6, eu6⟩ : ∃ z : CS, z = mu u 1 v6 := ⟨_, rfl⟩
  have hw := hw u6 eu6
  replace hI : mI D (mT cs) A s.heap s (VT h r q cs u6) H locs := by rw [eu6]; exact hI
  refine m_si (As := [.int a1, .int (0 : Int32), .int y6]) (rest := []) S hI.2.2.2.1.2.1 (c_X11_within l a1 (0 : Int32) y6 _ hw) (va_cwS 3 S.2.2.2.2 gX11_weight_X11_within rfl rfl rfl (by decide +kernel) ⟨Nat.le_of_ble_eq_true rfl, Nat.le_of_ble_eq_true rfl⟩) rfl hl.1 rfl (Nat.le_of_ble_eq_true rfl) dX11_weight_9 ⟨Nat.zero_le _, Nat.zero_le _⟩ (fun y9 hw => ?_)
  refine lv_if_ne (tgt := 17) S.1 S.2.1 dX11_weight_12 (by decide) (fun c12 => ?_) (fun c12 => ?_)
  · have hw := hw.1 c12
    refine lv_aload_n S.1 S.2.1 dX11_weight_17 rfl (lv_at hl 0 rfl) ?_
    refine m_get S hin11 hI 0 (VT_o0 h r q cs u6) rfl 1 (Nat.le_of_ble_eq_true rfl) (List.mem_of_getElem? (i := 2) rfl) rfl (FO11_at1 _ _ _) dX11_weight_18 ?_
    refine lv_iload_n S.1 S.2.1 dX11_weight_21 rfl (lv_at hl 1 rfl) ?_
    refine lv_aload_n S.1 S.2.1 dX11_weight_22 rfl (lv_at hl 0 rfl) ?_
    refine m_get S hin11 hI 0 (VT_o0 h r q cs u6) rfl 0 (Nat.le_of_ble_eq_true rfl) (List.mem_of_getElem? (i := 1) rfl) rfl (FO11_at0 _ _ _) dX11_weight_23 ?_
    refine m_vi (cf := fun v => VT h r q cs (mu u6 1 v)) (As := []) (rest := [.int a1, .ref (h 2)]) S (VT_c1 h r q cs u6) hI (by rw [mu_self]) (c_X8_steps l D (h 1) (r 1) cs (u6 1) _ hw) (cwV 0 S.2.2.2.2 gX11_weight_X8_steps rfl rfl rfl (by decide +kernel) ⟨Nat.le_of_ble_eq_true rfl, Nat.le_of_ble_eq_true rfl⟩) rfl rfl rfl hl.1 rfl (Nat.le_of_ble_eq_true rfl) dX11_weight_26 ⟨Nat.zero_le _, Nat.zero_le _⟩ (fun y26 v26 H locs hw hI => ?_)
    obtain ⟨u26, eu26⟩ : ∃ z : CS, z = mu u6 1 v26 := ⟨_, rfl⟩
    have hw := hw u26 eu26
    replace hI : mI D (mT cs) A s.heap s (VT h r q cs u26) H locs := by rw [eu26]; exact hI
    refine lv_aload_n S.1 S.2.1 dX11_weight_29 rfl (lv_at hl 0 rfl) ?_
    refine m_get S hin11 hI 0 (VT_o0 h r q cs u26) rfl 0 (Nat.le_of_ble_eq_true rfl) (List.mem_of_getElem? (i := 1) rfl) rfl (FO11_at0 _ _ _) dX11_weight_30 ?_
    refine m_vi (cf := fun v => VT h r q cs (mu u26 1 v)) (As := []) (rest := [.int y26, .int a1, .ref (h 2)]) S (VT_c1 h r q cs u26) hI (by rw [mu_self]) (c_X8_jars l D (h 1) (r 1) cs (u26 1) _ hw) (cwV 0 S.2.2.2.2 gX11_weight_X8_jars rfl rfl rfl (by decide +kernel) ⟨Nat.le_of_ble_eq_true rfl, Nat.le_of_ble_eq_true rfl⟩) rfl rfl rfl hl.1 rfl (Nat.le_of_ble_eq_true rfl) dX11_weight_33 ⟨Nat.zero_le _, Nat.zero_le _⟩ (fun y33 v33 H locs hw hI => ?_)
    obtain ⟨u33, eu33⟩ : ∃ z : CS, z = mu u26 1 v33 := ⟨_, rfl⟩
    have hw := hw u33 eu33
    replace hI : mI D (mT cs) A s.heap s (VT h r q cs u33) H locs := by rw [eu33]; exact hI
    refine m_vi (cf := fun v => VT h r q cs (mu u33 2 v)) (As := [.int a1, .int y26, .int y33]) (rest := []) S (VT_c2 h r q cs u33) hI (by rw [mu_self]) (c_X3_weightFor l D (h 2) (rE r (gI (u33 24) 0) 2) cs a1 y26 y33 (u33 2) _ hw) (cwV 3 S.2.2.2.2 gX11_weight_X3_weightFor rfl rfl rfl (by decide +kernel) ⟨Nat.le_of_ble_eq_true rfl, Nat.le_of_ble_eq_true rfl⟩) rfl rfl rfl hl.1 rfl (Nat.le_of_ble_eq_true rfl) dX11_weight_36 ⟨Nat.zero_le _, Nat.zero_le _⟩ (fun y36 v36 H locs hw hI => ?_)
    obtain ⟨u36, eu36⟩ : ∃ z : CS, z = mu u33 2 v36 := ⟨_, rfl⟩
    have hw := hw u36 eu36
    replace hI : mI D (mT cs) A s.heap s (VT h r q cs u36) H locs := by rw [eu36]; exact hI
    subst hZ
    exact m_iret S hr hlocks hI hw dX11_weight_39
  · have hw := hw.2 c12
    refine lv_iconst (v := (-1)) S.1 S.2.1 dX11_weight_15 (by decide) ?_
    subst hZ
    exact m_iret S hr hlocks hI hw dX11_weight_16

def wp_X11_worst (a1 : Int32) (a2 : Int32) (u : CS) (Q : Int32 → CS → Prop) : Prop :=
  (wp_X2_prepare (1 : Int32) (0 : Int32) (u 3) (fun v6 => ∀ u6 : CS, u6 = mu u 3 v6 → (wp_X11_laddered_3 a1 a2 u6 (fun y16 u16 => Q y16 u16))))
set_option maxHeartbeats 4000000 in
set_option maxRecDepth 100000 in
theorem c_X11_worst (l : Launch) (D : va_G) (h : Nat → Nat) (r : Nat → Nat → Nat) (q : Nat → Nat → Nat → Nat) (cs : Nat → ClassId) (a1 : Int32) (a2 : Int32) (u : CS) (Q : Int32 → CS → Prop) (hw : wp_X11_worst a1 a2 u Q) : mCi l yX11_worst wsX11_worst ({ frames := 4, cells := 0, slots := 0, locals := 96 } : Room) 0 0 D (mT cs) (VT h r q cs) [.ref (h 0), .int a1, .int a2] u Q := by
  unfold mCi
  refine m_enter (QQ := fun A => va_Qi Q (mPos D (mT cs) A (VT h r q cs)) A) (cc := cX11_worst) (maxL := 3) (ret := (some .int)) (by decide) rfl (Nat.le_of_ble_eq_true rfl) ?_
  intro p e s m args below meth c A ls S hr hlocks hname hl hI
  have S : CallFix p m c cX11_worst 3 s args wsX11_worst RX11 := S
  show W p l e ({ frames := 4, cells := 0, slots := 0, locals := 96 } : Room) s m args below meth c s.heap [] 0 0 (MQ below (va_Qi Q (mPos D (mT cs) A (VT h r q cs)) A) args s 0 0 A) (F0 m 0 ls [])
  generalize hZ : MQ below (va_Qi Q (mPos D (mT cs) A (VT h r q cs)) A) args s 0 0 A = Z
  have hin2 : ∀ w ∈ wsX20, w ∈ wsX11_worst := fun _ h => List.mem_cons_of_mem _ (List.mem_append_right _ h)
  have hin11 : ∀ w ∈ wsX110, w ∈ wsX11_worst := fun _ h => List.mem_cons_of_mem _ (List.mem_append_left _ (List.mem_append_right _ h))
  have hl : lv_has ls 3 [(0, .ref (h 0)), (1, .int a1), (2, .int a2)] := hl
  unfold wp_X11_worst at hw
  obtain ⟨H, hH⟩ : ∃ z : Heap, z = s.heap := ⟨_, rfl⟩
  obtain ⟨locs, hL⟩ : ∃ z : List Loc, z = [] := ⟨_, rfl⟩
  rw [show W p l e ({ frames := 4, cells := 0, slots := 0, locals := 96 } : Room) s m args below meth c s.heap [] 0 0 Z (F0 m 0 ls []) = W p l e ({ frames := 4, cells := 0, slots := 0, locals := 96 } : Room) s m args below meth c H locs 0 0 Z (F0 m 0 ls []) by rw [hH, hL]]
  replace hI : mI D (mT cs) A s.heap s (VT h r q cs u) H locs := by rw [hH, hL]; exact hI
  refine lv_aload_n S.1 S.2.1 dX11_worst_0 rfl (lv_at hl 0 rfl) ?_
  refine m_get S hin11 hI 0 (VT_o0 h r q cs u) rfl 2 (Nat.le_of_ble_eq_true rfl) (List.mem_of_getElem? (i := 1) rfl) rfl (FO11_at2 _ _ _) dX11_worst_1 ?_
  refine lv_iconst (v := 1) S.1 S.2.1 dX11_worst_4 (by decide) ?_
  refine lv_iconst (v := 0) S.1 S.2.1 dX11_worst_5 (by decide) ?_
  refine m_vv (cf := fun v => VT h r q cs (mu u 3 v)) (As := [.int (1 : Int32), .int (0 : Int32)]) (rest := []) S (VT_c3 h r q cs u) hI (by rw [mu_self]) (c_X2_prepare l D (h 3) (r 3) (q 3) cs (1 : Int32) (0 : Int32) (u 3) _ hw) (cwV 2 S.2.2.2.2 gX11_worst_X2_prepare rfl rfl rfl (by decide +kernel) ⟨Nat.le_of_ble_eq_true rfl, Nat.le_of_ble_eq_true rfl⟩) rfl rfl rfl hl.1 rfl (Nat.le_of_ble_eq_true rfl) dX11_worst_6 ⟨Nat.zero_le _, Nat.zero_le _⟩ (fun v6 H locs hw hI => ?_)
  obtain ⟨u6, eu6⟩ : ∃ z : CS, z = mu u 3 v6 := ⟨_, rfl⟩
  have hw := hw u6 eu6
  replace hI : mI D (mT cs) A s.heap s (VT h r q cs u6) H locs := by rw [eu6]; exact hI
  refine lv_aload_n S.1 S.2.1 dX11_worst_9 rfl (lv_at hl 0 rfl) ?_
  refine lv_aload_n S.1 S.2.1 dX11_worst_10 rfl (lv_at hl 0 rfl) ?_
  refine m_get S hin11 hI 0 (VT_o0 h r q cs u6) rfl 2 (Nat.le_of_ble_eq_true rfl) (List.mem_of_getElem? (i := 1) rfl) rfl (FO11_at2 _ _ _) dX11_worst_11 ?_
  refine lv_iload_n S.1 S.2.1 dX11_worst_14 rfl (lv_at hl 1 rfl) ?_
  refine lv_iload_n S.1 S.2.1 dX11_worst_15 rfl (lv_at hl 2 rfl) ?_
  refine m_vi (As := [.ref (h 3), .int a1, .int a2]) (rest := []) S (VT_self h r q cs) hI rfl (c_X11_laddered_3 l D h r q cs a1 a2 u6 _ hw) (cwV 3 S.2.2.2.2 gX11_worst_X11_laddered rfl rfl rfl (by decide +kernel) ⟨Nat.le_of_ble_eq_true rfl, Nat.le_of_ble_eq_true rfl⟩) (VT_o0 h r q cs u6) rfl rfl hl.1 rfl (Nat.le_of_ble_eq_true rfl) dX11_worst_16 ⟨Nat.zero_le _, Nat.zero_le _⟩ (fun y16 u16 H locs hw hI => ?_)
  subst hZ
  exact m_iret S hr hlocks hI hw dX11_worst_19

def wp_X11_reach_p26 (u : CS) (Q : Int32 → CS → Prop) : Prop :=
  Q ((-1) : Int32) u
def wp_X11_reach_p37b (x2 : Int32) (x3 : Int32) (x4 : Int32) (x5 : Int32) (x6 : Int32) (u : CS) (B37 : Int32 → Int32 → Int32 → Int32 → Int32 → CS → Prop) (Q : Int32 → CS → Prop) : Prop :=
  ((x3 < x6 → Q x5 u) ∧ (¬ x3 < x6 → (∀ y48 : Int32, y48 = x2 - x6 → (∀ y50 : Int32, y50 = y48 + (1 : Int32) → (∀ y51 : Int32, y51 = x4 * y50 → (¬ x6 = 0 ∧ ∀ y54 : Int32, y54 = y51 / x6 → (∀ y61 : Int32, y61 = x5 + y54 → (∀ y64 : Int32, y64 = x6 + 1 → B37 x2 x3 y54 y61 y64 u))))))))
def wp_X11_reach_p37 (x2 : Int32) (x3 : Int32) (x4 : Int32) (x5 : Int32) (x6 : Int32) (u : CS) (Q : Int32 → CS → Prop) : Prop := ∃ (I : Int32 → Int32 → Int32 → Int32 → Int32 → CS → Prop) (μ : Int32 → Int32 → Int32 → Int32 → Int32 → CS → Nat), I x2 x3 x4 x5 x6 u ∧ ∀ (x2 : Int32) (x3 : Int32) (x4 : Int32) (x5 : Int32) (x6 : Int32) (u : CS), I x2 x3 x4 x5 x6 u → wp_X11_reach_p37b x2 x3 x4 x5 x6 u (fun yx2 yx3 yx4 yx5 yx6 yu => I yx2 yx3 yx4 yx5 yx6 yu ∧ μ yx2 yx3 yx4 yx5 yx6 yu < μ x2 x3 x4 x5 x6 u) Q
def wp_X11_reach (a1 : Int32) (u : CS) (Q : Int32 → CS → Prop) : Prop :=
  (¬ (10 : Int32) = 0 ∧ ∀ y3 : Int32, y3 = a1 / (10 : Int32) → (¬ (10 : Int32) = 0 ∧ ∀ y8 : Int32, y8 = a1 - a1 / (10 : Int32) * (10 : Int32) → ((a1 < 0 → wp_X11_reach_p26 u Q) ∧ (¬ a1 < 0 → (((20 : Int32) < y3 → wp_X11_reach_p26 u Q) ∧ (¬ (20 : Int32) < y3 → ((y8 ≤ (6 : Int32) → wp_X11_reach_p37 y3 y8 (1 : Int32) (1 : Int32) (1 : Int32) u Q) ∧ (¬ y8 ≤ (6 : Int32) → wp_X11_reach_p26 u Q))))))))
set_option maxHeartbeats 4000000 in
set_option maxRecDepth 100000 in
theorem c_X11_reach (l : Launch) (D : va_G) (h : Nat → Nat) (r : Nat → Nat → Nat) (q : Nat → Nat → Nat → Nat) (cs : Nat → ClassId) (a1 : Int32) (u : CS) (Q : Int32 → CS → Prop) (hw : wp_X11_reach a1 u Q) : mCi l yX11_reach wsX11_reach ({ frames := 0, cells := 0, slots := 0, locals := 0 } : Room) 0 0 D (mT cs) (VT h r q cs) [.ref (h 0), .int a1] u Q := by
  unfold mCi
  refine m_enter (QQ := fun A => va_Qi Q (mPos D (mT cs) A (VT h r q cs)) A) (cc := cX11_reach) (maxL := 7) (ret := (some .int)) (by decide) rfl (Nat.le_of_ble_eq_true rfl) ?_
  intro p e s m args below meth c A ls S hr hlocks hname hl hI
  have S : CallFix p m c cX11_reach 7 s args wsX11_reach RX11 := S
  show W p l e ({ frames := 0, cells := 0, slots := 0, locals := 0 } : Room) s m args below meth c s.heap [] 0 0 (MQ below (va_Qi Q (mPos D (mT cs) A (VT h r q cs)) A) args s 0 0 A) (F0 m 0 ls [])
  generalize hZ : MQ below (va_Qi Q (mPos D (mT cs) A (VT h r q cs)) A) args s 0 0 A = Z
  have hl : lv_has ls 7 [(0, .ref (h 0)), (1, .int a1)] := hl
  have b26 : ∀ (u : CS), wp_X11_reach_p26 u Q → mGo p l e ({ frames := 0, cells := 0, slots := 0, locals := 0 } : Room) s m args below meth c A Z 7 D (mT cs) (VT h r q cs) 26 [(0, .ref (h 0))] [] u := by
    intro u hw H locs ls hI hl
    unfold wp_X11_reach_p26 at hw
    refine lv_iconst (v := (-1)) S.1 S.2.1 dX11_reach_26 (by decide) ?_
    subst hZ
    exact m_iret S hr hlocks hI hw dX11_reach_27
  have b37b : ∀ (B37 : Int32 → Int32 → Int32 → Int32 → Int32 → CS → Prop), (∀ (x2 : Int32) (x3 : Int32) (x4 : Int32) (x5 : Int32) (x6 : Int32) (u : CS), B37 x2 x3 x4 x5 x6 u → mGo p l e ({ frames := 0, cells := 0, slots := 0, locals := 0 } : Room) s m args below meth c A Z 7 D (mT cs) (VT h r q cs) 37 [(0, .ref (h 0)), (2, .int x2), (3, .int x3), (4, .int x4), (5, .int x5), (6, .int x6)] [] u) → ∀ (x2 : Int32) (x3 : Int32) (x4 : Int32) (x5 : Int32) (x6 : Int32) (u : CS), wp_X11_reach_p37b x2 x3 x4 x5 x6 u B37 Q → mGo p l e ({ frames := 0, cells := 0, slots := 0, locals := 0 } : Room) s m args below meth c A Z 7 D (mT cs) (VT h r q cs) 37 [(0, .ref (h 0)), (2, .int x2), (3, .int x3), (4, .int x4), (5, .int x5), (6, .int x6)] [] u := by
    intro B37 hB37 x2 x3 x4 x5 x6 u hw H locs ls hI hl
    unfold wp_X11_reach_p37b at hw
    refine lv_iload S.1 S.2.1 dX11_reach_37 (lv_at hl 5 rfl) ?_
    refine lv_iload_n S.1 S.2.1 dX11_reach_39 rfl (lv_at hl 2 rfl) ?_
    refine lv_icmp_gt (tgt := 70) S.1 S.2.1 dX11_reach_40 (by decide) (fun c40 => ?_) (fun c40 => ?_)
    · have hw := hw.1 c40
      refine lv_iload S.1 S.2.1 dX11_reach_70 (lv_at hl 4 rfl) ?_
      subst hZ
      exact m_iret S hr hlocks hI hw dX11_reach_72
    · have hw := hw.2 c40
      refine lv_iload S.1 S.2.1 dX11_reach_43 (lv_at hl 3 rfl) ?_
      refine lv_iload_n S.1 S.2.1 dX11_reach_45 rfl (lv_at hl 1 rfl) ?_
      refine lv_iload S.1 S.2.1 dX11_reach_46 (lv_at hl 5 rfl) ?_
      refine lv_isub S.1 S.2.1 dX11_reach_48 ?_
      refine lv_topi (fun y48 ey48 => ?_)
      have hw := hw y48 ey48
      refine lv_iconst (v := 1) S.1 S.2.1 dX11_reach_49 (by decide) ?_
      refine lv_iadd S.1 S.2.1 dX11_reach_50 ?_
      refine lv_topi (fun y50 ey50 => ?_)
      have hw := hw y50 ey50
      refine lv_imul S.1 S.2.1 dX11_reach_51 ?_
      refine lv_topi (fun y51 ey51 => ?_)
      have hw := hw y51 ey51
      refine lv_iload S.1 S.2.1 dX11_reach_52 (lv_at hl 5 rfl) ?_
      refine lv_idiv S.1 S.2.1 dX11_reach_54 hw.1 ?_
      have hw := hw.2
      refine lv_topi (fun y54 ey54 => ?_)
      have hw := hw y54 ey54
      refine lv_istore (lv' := [(4, .int y54), (0, .ref (h 0)), (2, .int x2), (3, .int x3), (5, .int x5), (6, .int x6)]) S.1 S.2.1 dX11_reach_55 hl (by decide) rfl (fun ls hl => ?_)
      refine lv_iload S.1 S.2.1 dX11_reach_57 (lv_at hl 4 rfl) ?_
      refine lv_iload S.1 S.2.1 dX11_reach_59 (lv_at hl 0 rfl) ?_
      refine lv_iadd S.1 S.2.1 dX11_reach_61 ?_
      refine lv_topi (fun y61 ey61 => ?_)
      have hw := hw y61 ey61
      refine lv_istore (lv' := [(5, .int y61), (4, .int y54), (0, .ref (h 0)), (2, .int x2), (3, .int x3), (6, .int x6)]) S.1 S.2.1 dX11_reach_62 hl (by decide) rfl (fun ls hl => ?_)
      obtain ⟨y64, ey64⟩ : ∃ z : Int32, z = x6 + 1 := ⟨_, rfl⟩
      have hw := hw y64 ey64
      refine lv_iinc (v := y64) (lv' := [(6, .int y64), (5, .int y61), (4, .int y54), (0, .ref (h 0)), (2, .int x2), (3, .int x3)]) S.1 S.2.1 dX11_reach_64 hl (k := 5) rfl (by rw [ey64]; rfl) (by decide) rfl (fun ls hl => ?_)
      refine lv_goto (tgt := 37) S.1 S.2.1 dX11_reach_67 (by decide) ?_
      exact hB37 x2 x3 y54 y61 y64 u hw H locs ls hI (lv_sub hl [3, 4, 5, 2, 1, 0] rfl)
  have b37 : ∀ (x2 : Int32) (x3 : Int32) (x4 : Int32) (x5 : Int32) (x6 : Int32) (u : CS), wp_X11_reach_p37 x2 x3 x4 x5 x6 u Q → mGo p l e ({ frames := 0, cells := 0, slots := 0, locals := 0 } : Room) s m args below meth c A Z 7 D (mT cs) (VT h r q cs) 37 [(0, .ref (h 0)), (2, .int x2), (3, .int x3), (4, .int x4), (5, .int x5), (6, .int x6)] [] u := by
    intro x2 x3 x4 x5 x6 u hw
    obtain ⟨I, μ, h0, hs⟩ := hw
    have key : ∀ (n : Nat) (x2 : Int32) (x3 : Int32) (x4 : Int32) (x5 : Int32) (x6 : Int32) (u : CS), μ x2 x3 x4 x5 x6 u = n → I x2 x3 x4 x5 x6 u → mGo p l e ({ frames := 0, cells := 0, slots := 0, locals := 0 } : Room) s m args below meth c A Z 7 D (mT cs) (VT h r q cs) 37 [(0, .ref (h 0)), (2, .int x2), (3, .int x3), (4, .int x4), (5, .int x5), (6, .int x6)] [] u := by
      intro n
      induction n using Nat.strongRecOn with
      | ind n ih =>
        intro x2 x3 x4 x5 x6 u hn hi
        exact b37b (fun yx2 yx3 yx4 yx5 yx6 yu => I yx2 yx3 yx4 yx5 yx6 yu ∧ μ yx2 yx3 yx4 yx5 yx6 yu < μ x2 x3 x4 x5 x6 u) (fun yx2 yx3 yx4 yx5 yx6 yu hb => ih _ (hn ▸ hb.2) yx2 yx3 yx4 yx5 yx6 yu rfl hb.1) x2 x3 x4 x5 x6 u (hs x2 x3 x4 x5 x6 u hi)
    exact key _ x2 x3 x4 x5 x6 u rfl h0
  unfold wp_X11_reach at hw
  obtain ⟨H, hH⟩ : ∃ z : Heap, z = s.heap := ⟨_, rfl⟩
  obtain ⟨locs, hL⟩ : ∃ z : List Loc, z = [] := ⟨_, rfl⟩
  rw [show W p l e ({ frames := 0, cells := 0, slots := 0, locals := 0 } : Room) s m args below meth c s.heap [] 0 0 Z (F0 m 0 ls []) = W p l e ({ frames := 0, cells := 0, slots := 0, locals := 0 } : Room) s m args below meth c H locs 0 0 Z (F0 m 0 ls []) by rw [hH, hL]]
  replace hI : mI D (mT cs) A s.heap s (VT h r q cs u) H locs := by rw [hH, hL]; exact hI
  refine lv_iload_n S.1 S.2.1 dX11_reach_0 rfl (lv_at hl 1 rfl) ?_
  refine lv_bipush (v := 10) S.1 S.2.1 dX11_reach_1 (by decide) ?_
  refine lv_idiv S.1 S.2.1 dX11_reach_3 hw.1 ?_
  have hw := hw.2
  refine lv_topi (fun y3 ey3 => ?_)
  have hw := hw y3 ey3
  refine lv_istore_n (lv' := [(2, .int y3), (0, .ref (h 0)), (1, .int a1)]) S.1 S.2.1 dX11_reach_4 rfl hl (by decide) rfl (fun ls hl => ?_)
  refine lv_iload_n S.1 S.2.1 dX11_reach_5 rfl (lv_at hl 2 rfl) ?_
  refine lv_bipush (v := 10) S.1 S.2.1 dX11_reach_6 (by decide) ?_
  refine lv_irem S.1 S.2.1 dX11_reach_8 hw.1 ?_
  have hw := hw.2
  refine lv_topi (fun y8 ey8 => ?_)
  have hw := hw y8 ey8
  refine lv_istore_n (lv' := [(3, .int y8), (2, .int y3), (0, .ref (h 0)), (1, .int a1)]) S.1 S.2.1 dX11_reach_9 rfl hl (by decide) rfl (fun ls hl => ?_)
  refine lv_iload_n S.1 S.2.1 dX11_reach_10 rfl (lv_at hl 3 rfl) ?_
  refine lv_if_lt (tgt := 26) S.1 S.2.1 dX11_reach_11 (by decide) (fun c11 => ?_) (fun c11 => ?_)
  · have hw := hw.1 c11
    exact b26 u hw H locs ls hI (lv_sub hl [2] rfl)
  · have hw := hw.2 c11
    refine lv_iload_n S.1 S.2.1 dX11_reach_14 rfl (lv_at hl 1 rfl) ?_
    refine lv_bipush (v := 20) S.1 S.2.1 dX11_reach_15 (by decide) ?_
    refine lv_icmp_gt (tgt := 26) S.1 S.2.1 dX11_reach_17 (by decide) (fun c17 => ?_) (fun c17 => ?_)
    · have hw := hw.1 c17
      exact b26 u hw H locs ls hI (lv_sub hl [2] rfl)
    · have hw := hw.2 c17
      refine lv_iload_n S.1 S.2.1 dX11_reach_20 rfl (lv_at hl 0 rfl) ?_
      refine lv_bipush (v := 6) S.1 S.2.1 dX11_reach_21 (by decide) ?_
      refine lv_icmp_le (tgt := 28) S.1 S.2.1 dX11_reach_23 (by decide) (fun c23 => ?_) (fun c23 => ?_)
      · have hw := hw.1 c23
        refine lv_iconst (v := 1) S.1 S.2.1 dX11_reach_28 (by decide) ?_
        refine lv_istore (lv' := [(4, .int (1 : Int32)), (3, .int y8), (2, .int y3), (0, .ref (h 0)), (1, .int a1)]) S.1 S.2.1 dX11_reach_29 hl (by decide) rfl (fun ls hl => ?_)
        refine lv_iconst (v := 1) S.1 S.2.1 dX11_reach_31 (by decide) ?_
        refine lv_istore (lv' := [(5, .int (1 : Int32)), (4, .int (1 : Int32)), (3, .int y8), (2, .int y3), (0, .ref (h 0)), (1, .int a1)]) S.1 S.2.1 dX11_reach_32 hl (by decide) rfl (fun ls hl => ?_)
        refine lv_iconst (v := 1) S.1 S.2.1 dX11_reach_34 (by decide) ?_
        refine lv_istore (lv' := [(6, .int (1 : Int32)), (5, .int (1 : Int32)), (4, .int (1 : Int32)), (3, .int y8), (2, .int y3), (0, .ref (h 0)), (1, .int a1)]) S.1 S.2.1 dX11_reach_35 hl (by decide) rfl (fun ls hl => ?_)
        exact b37 y3 y8 (1 : Int32) (1 : Int32) (1 : Int32) u hw H locs ls hI (lv_sub hl [5, 4, 3, 2, 1, 0] rfl)
      · have hw := hw.2 c23
        exact b26 u hw H locs ls hI (lv_sub hl [2] rfl)

def wp_X11_mean_p18 (u : CS) (Q : Int32 → CS → Prop) : Prop :=
  Q ((-1) : Int32) u
def wp_X11_mean_p175 (t0 : Int32) (u : CS) (Q : Int32 → CS → Prop) : Prop :=
  Q t0 u
def wp_X11_mean_p143 (x3 : Int32) (x5 : Int32) (t0 : Int32) (u : CS) (Q : Int32 → CS → Prop) : Prop :=
  (wp_X11_commonDivisor x5 t0 (fun y150 => (∀ y153 : Int32, y153 = (if (1 : Int32) < y150 then y150 else (1 : Int32)) → ((¬ x3 = 0 → (¬ y153 = 0 ∧ ∀ y174 : Int32, y174 = t0 / y153 → wp_X11_mean_p175 y174 u Q)) ∧ (x3 = 0 → (¬ y153 = 0 ∧ ∀ y166 : Int32, y166 = x5 / y153 → wp_X11_mean_p175 y166 u Q))))))
def wp_X11_mean_p105 (x3 : Int32) (x4 : Int32) (t0 : Int32) (u : CS) (Q : Int32 → CS → Prop) : Prop :=
  ((t0 < (268435456 : Int32) → ((x4 = 0 → (wp_X4_weightOf (fun i => u ([6, 9].getD i 0)) (fun y140 v140 => ∀ u140 : CS, u140 = emb u [6, 9] v140 → wp_X11_mean_p143 x3 t0 y140 u140 Q))) ∧ (¬ x4 = 0 → (wp_X7_heights (u 9) (fun y126 v126 => ∀ u126 : CS, u126 = mu u 9 v126 → wp_X11_mean_p143 x3 t0 y126 u126 Q))))) ∧ (¬ t0 < (268435456 : Int32) → Q ((-2) : Int32) u))
def wp_X11_mean_p54 (x3 : Int32) (t0 : Int32) (u : CS) (Q : Int32 → CS → Prop) : Prop :=
  (wp_X2_prepare (1 : Int32) (0 : Int32) (u 5) (fun v62 => ∀ u62 : CS, u62 = mu u 5 v62 → ((t0 = 0 → (wp_X4_cost (fun i => u62 ([6, 9].getD i 0)) (fun y102 v102 => ∀ u102 : CS, u102 = emb u62 [6, 9] v102 → wp_X11_mean_p105 x3 t0 y102 u102 Q))) ∧ (¬ t0 = 0 → (wp_X7_heights (u62 9) (fun y85 v85 => ∀ u85 : CS, u85 = mu u62 9 v85 → (wp_X2_cost (gI (u62 9) 2) y85 (u85 5) (fun y88 v88 => ∀ u88 : CS, u88 = mu u85 5 v88 → wp_X11_mean_p105 x3 t0 y88 u88 Q))))))))
def wp_X11_mean (a1 : Int32) (a2 : Int32) (a3 : Int32) (u : CS) (Q : Int32 → CS → Prop) : Prop :=
  (wp_X11_asksSpan a1 a2 u (fun y3 u3 => ((y3 = 0 → wp_X11_mean_p18 u3 Q) ∧ (¬ y3 = 0 → (wp_X11_within a3 (0 : Int32) (1 : Int32) (fun y12 => ((¬ y12 = 0 → (wp_X4_weigh (fun i => u3 ([6, 2, 1].getD i 0)) (fun v32 => ∀ u32 : CS, u32 = emb u3 [6, 2, 1] v32 → (wp_X4_weightOf (fun i => u32 ([6, 9].getD i 0)) (fun y43 v43 => ∀ u43 : CS, u43 = emb u32 [6, 9] v43 → ((¬ y43 = 0 → wp_X11_mean_p54 a3 (0 : Int32) u43 Q) ∧ (y43 = 0 → wp_X11_mean_p54 a3 (1 : Int32) u43 Q))))))) ∧ (y12 = 0 → wp_X11_mean_p18 u3 Q))))))))
set_option maxHeartbeats 4000000 in
set_option maxRecDepth 100000 in
theorem c_X11_mean (l : Launch) (D : va_G) (h : Nat → Nat) (r : Nat → Nat → Nat) (q : Nat → Nat → Nat → Nat) (cs : Nat → ClassId) (a1 : Int32) (a2 : Int32) (a3 : Int32) (u : CS) (Q : Int32 → CS → Prop) (hw : wp_X11_mean a1 a2 a3 u Q) : mCi l yX11_mean wsX11_mean ({ frames := 5, cells := 0, slots := 0, locals := 119 } : Room) 0 0 D (mT cs) (VT h r q cs) [.ref (h 0), .int a1, .int a2, .int a3] u Q := by
  unfold mCi
  refine m_enter (QQ := fun A => va_Qi Q (mPos D (mT cs) A (VT h r q cs)) A) (cc := cX11_mean) (maxL := 8) (ret := (some .int)) (by decide) rfl (Nat.le_of_ble_eq_true rfl) ?_
  intro p e s m args below meth c A ls S hr hlocks hname hl hI
  have S : CallFix p m c cX11_mean 8 s args wsX11_mean RX11 := S
  show W p l e ({ frames := 5, cells := 0, slots := 0, locals := 119 } : Room) s m args below meth c s.heap [] 0 0 (MQ below (va_Qi Q (mPos D (mT cs) A (VT h r q cs)) A) args s 0 0 A) (F0 m 0 ls [])
  generalize hZ : MQ below (va_Qi Q (mPos D (mT cs) A (VT h r q cs)) A) args s 0 0 A = Z
  have hin2 : ∀ w ∈ wsX20, w ∈ wsX11_mean := fun _ h => List.mem_cons_of_mem _ (List.mem_append_right _ h)
  have hin3 : ∀ w ∈ wsX30, w ∈ wsX11_mean := fun _ h => List.mem_cons_of_mem _ (List.mem_append_left _ (List.mem_append_left _ (List.mem_append_right _ h)))
  have hin4 : ∀ w ∈ wsX40, w ∈ wsX11_mean := fun _ h => List.mem_cons_of_mem _ (List.mem_append_left _ (List.mem_append_right _ h))
  have hin7 : ∀ w ∈ wsX70, w ∈ wsX11_mean := fun _ h => List.mem_cons_of_mem _ (List.mem_append_left _ (List.mem_append_left _ (List.mem_append_left _ (List.mem_append_left _ (List.mem_append_right _ h)))))
  have hin8 : ∀ w ∈ wsX80, w ∈ wsX11_mean := fun _ h => List.mem_cons_of_mem _ (List.mem_append_left _ (List.mem_append_left _ (List.mem_append_left _ (List.mem_append_right _ h))))
  have hin11 : ∀ w ∈ wsX110, w ∈ wsX11_mean := fun _ h => List.mem_cons_of_mem _ (List.mem_append_left _ (List.mem_append_left _ (List.mem_append_left _ (List.mem_append_left _ (List.mem_append_left _ (List.mem_append_right _ h))))))
  have hl : lv_has ls 8 [(0, .ref (h 0)), (1, .int a1), (2, .int a2), (3, .int a3)] := hl
  have b18 : ∀ (u : CS), wp_X11_mean_p18 u Q → mGo p l e ({ frames := 5, cells := 0, slots := 0, locals := 119 } : Room) s m args below meth c A Z 8 D (mT cs) (VT h r q cs) 18 [(0, .ref (h 0))] [] u := by
    intro u hw H locs ls hI hl
    unfold wp_X11_mean_p18 at hw
    refine lv_iconst (v := (-1)) S.1 S.2.1 dX11_mean_18 (by decide) ?_
    subst hZ
    exact m_iret S hr hlocks hI hw dX11_mean_19
  have b175 : ∀ (t0 : Int32) (u : CS), wp_X11_mean_p175 t0 u Q → mGo p l e ({ frames := 5, cells := 0, slots := 0, locals := 119 } : Room) s m args below meth c A Z 8 D (mT cs) (VT h r q cs) 175 [(0, .ref (h 0))] [.int t0] u := by
    intro t0 u hw H locs ls hI hl
    unfold wp_X11_mean_p175 at hw
    subst hZ
    exact m_iret S hr hlocks hI hw dX11_mean_175
  have b143 : ∀ (x3 : Int32) (x5 : Int32) (t0 : Int32) (u : CS), wp_X11_mean_p143 x3 x5 t0 u Q → mGo p l e ({ frames := 5, cells := 0, slots := 0, locals := 119 } : Room) s m args below meth c A Z 8 D (mT cs) (VT h r q cs) 143 [(0, .ref (h 0)), (3, .int x3), (5, .int x5)] [.int t0] u := by
    intro x3 x5 t0 u hw H locs ls hI hl
    unfold wp_X11_mean_p143 at hw
    refine lv_istore (lv' := [(6, .int t0), (0, .ref (h 0)), (3, .int x3), (5, .int x5)]) S.1 S.2.1 dX11_mean_143 hl (by decide) rfl (fun ls hl => ?_)
    refine lv_iconst (v := 1) S.1 S.2.1 dX11_mean_145 (by decide) ?_
    refine lv_iload S.1 S.2.1 dX11_mean_146 (lv_at hl 3 rfl) ?_
    refine lv_iload S.1 S.2.1 dX11_mean_148 (lv_at hl 0 rfl) ?_
    refine m_si (As := [.int x5, .int t0]) (rest := [.int (1 : Int32)]) S hI.2.2.2.1.2.1 (c_X11_commonDivisor l x5 t0 _ hw) (va_cwS 2 S.2.2.2.2 gX11_mean_X11_commonDivisor rfl rfl rfl (by decide +kernel) ⟨Nat.le_of_ble_eq_true rfl, Nat.le_of_ble_eq_true rfl⟩) rfl hl.1 rfl (Nat.le_of_ble_eq_true rfl) dX11_mean_150 ⟨Nat.zero_le _, Nat.zero_le _⟩ (fun y150 hw => ?_)
    refine va_mmax S.1 S.2.1 (S.2.2.1.trans hl.1.symm) S.2.2.2.1 (S.2.2.2.2 _ (List.mem_of_getElem? (i := 7) rfl)) (S.2.2.2.2 _ (List.mem_of_getElem? (i := 8) rfl)) (S.2.2.2.2 _ (List.mem_of_getElem? (i := 9) rfl)) (S.2.2.2.2 _ (List.mem_of_getElem? (i := 10) rfl)) (Nat.le_of_ble_eq_true rfl) (Nat.le_of_ble_eq_true rfl) (Nat.zero_le _) (Nat.zero_le _) dX11_mean_153 ?_
    refine lv_topi (fun y153 ey153 => ?_)
    have hw := hw y153 ey153
    refine lv_istore (lv' := [(7, .int y153), (6, .int t0), (0, .ref (h 0)), (3, .int x3), (5, .int x5)]) S.1 S.2.1 dX11_mean_156 hl (by decide) rfl (fun ls hl => ?_)
    refine lv_iload_n S.1 S.2.1 dX11_mean_158 rfl (lv_at hl 3 rfl) ?_
    refine lv_if_ne (tgt := 170) S.1 S.2.1 dX11_mean_159 (by decide) (fun c159 => ?_) (fun c159 => ?_)
    · have hw := hw.1 c159
      refine lv_iload S.1 S.2.1 dX11_mean_170 (lv_at hl 1 rfl) ?_
      refine lv_iload S.1 S.2.1 dX11_mean_172 (lv_at hl 0 rfl) ?_
      refine lv_idiv S.1 S.2.1 dX11_mean_174 hw.1 ?_
      have hw := hw.2
      refine lv_topi (fun y174 ey174 => ?_)
      have hw := hw y174 ey174
      exact b175 y174 u hw H locs ls hI (lv_sub hl [2] rfl)
    · have hw := hw.2 c159
      refine lv_iload S.1 S.2.1 dX11_mean_162 (lv_at hl 4 rfl) ?_
      refine lv_iload S.1 S.2.1 dX11_mean_164 (lv_at hl 0 rfl) ?_
      refine lv_idiv S.1 S.2.1 dX11_mean_166 hw.1 ?_
      have hw := hw.2
      refine lv_topi (fun y166 ey166 => ?_)
      have hw := hw y166 ey166
      refine lv_goto (tgt := 175) S.1 S.2.1 dX11_mean_167 (by decide) ?_
      exact b175 y166 u hw H locs ls hI (lv_sub hl [2] rfl)
  have b105 : ∀ (x3 : Int32) (x4 : Int32) (t0 : Int32) (u : CS), wp_X11_mean_p105 x3 x4 t0 u Q → mGo p l e ({ frames := 5, cells := 0, slots := 0, locals := 119 } : Room) s m args below meth c A Z 8 D (mT cs) (VT h r q cs) 105 [(0, .ref (h 0)), (3, .int x3), (4, .int x4)] [.int t0] u := by
    intro x3 x4 t0 u hw H locs ls hI hl
    unfold wp_X11_mean_p105 at hw
    refine lv_istore (lv' := [(5, .int t0), (0, .ref (h 0)), (3, .int x3), (4, .int x4)]) S.1 S.2.1 dX11_mean_105 hl (by decide) rfl (fun ls hl => ?_)
    refine lv_iload S.1 S.2.1 dX11_mean_107 (lv_at hl 0 rfl) ?_
    refine lv_ldc S.1 S.2.1 S.2.2.2.1 (S.2.2.2.2 _ (List.mem_of_getElem? (i := 6) rfl)) dX11_mean_109 ?_
    refine lv_icmp_lt (tgt := 117) S.1 S.2.1 dX11_mean_111 (by decide) (fun c111 => ?_) (fun c111 => ?_)
    · have hw := hw.1 c111
      refine lv_iload S.1 S.2.1 dX11_mean_117 (lv_at hl 3 rfl) ?_
      refine lv_if_eq (tgt := 132) S.1 S.2.1 dX11_mean_119 (by decide) (fun c119 => ?_) (fun c119 => ?_)
      · have hw := hw.1 c119
        refine lv_aload_n S.1 S.2.1 dX11_mean_132 rfl (lv_at hl 1 rfl) ?_
        refine m_get S hin11 hI 0 (VT_o0 h r q cs u) rfl 5 (Nat.le_of_ble_eq_true rfl) (List.mem_of_getElem? (i := 1) rfl) rfl (FO11_at5 _ _ _) dX11_mean_133 ?_
        refine lv_aload_n S.1 S.2.1 dX11_mean_136 rfl (lv_at hl 1 rfl) ?_
        refine m_get S hin11 hI 0 (VT_o0 h r q cs u) rfl 8 (Nat.le_of_ble_eq_true rfl) (List.mem_of_getElem? (i := 4) rfl) rfl (FO11_at8 _ _ _) dX11_mean_137 ?_
        refine m_vi (cf := fun v => VT h r q cs (emb u [6, 9] v)) (As := [.ref (h 9)]) (rest := []) S (VT_k_ms_6_9 h r q cs u) hI (by rw [emb_self]) (c_X4_weightOf l D (fun i => h ([6, 9].getD i 0)) (fun i => rE r (gI (u 24) 0) ([6, 9].getD i 0)) (fun i => q ([6, 9].getD i 0)) cs (fun i => u ([6, 9].getD i 0)) _ hw) (cwV 1 S.2.2.2.2 gX11_mean_X4_weightOf rfl rfl rfl (by decide +kernel) ⟨Nat.le_of_ble_eq_true rfl, Nat.le_of_ble_eq_true rfl⟩) rfl rfl rfl hl.1 rfl (Nat.le_of_ble_eq_true rfl) dX11_mean_140 ⟨Nat.zero_le _, Nat.zero_le _⟩ (fun y140 v140 H locs hw hI => ?_)
        obtain ⟨u140, eu140⟩ : ∃ z : CS, z = emb u [6, 9] v140 := ⟨_, rfl⟩
        have hw := hw u140 eu140
        replace hI : mI D (mT cs) A s.heap s (VT h r q cs u140) H locs := by rw [eu140]; exact hI
        exact b143 x3 t0 y140 u140 hw H locs ls hI (lv_sub hl [1, 2, 0] rfl)
      · have hw := hw.2 c119
        refine lv_aload_n S.1 S.2.1 dX11_mean_122 rfl (lv_at hl 1 rfl) ?_
        refine m_get S hin11 hI 0 (VT_o0 h r q cs u) rfl 8 (Nat.le_of_ble_eq_true rfl) (List.mem_of_getElem? (i := 4) rfl) rfl (FO11_at8 _ _ _) dX11_mean_123 ?_
        refine m_vi (cf := fun v => VT h r q cs (mu u 9 v)) (As := []) (rest := []) S (VT_c9 h r q cs u) hI (by rw [mu_self]) (c_X7_heights l D (h 9) (r 9) cs (u 9) _ hw) (cwV 0 S.2.2.2.2 gX11_mean_X7_heights rfl rfl rfl (by decide +kernel) ⟨Nat.le_of_ble_eq_true rfl, Nat.le_of_ble_eq_true rfl⟩) rfl rfl rfl hl.1 rfl (Nat.le_of_ble_eq_true rfl) dX11_mean_126 ⟨Nat.zero_le _, Nat.zero_le _⟩ (fun y126 v126 H locs hw hI => ?_)
        obtain ⟨u126, eu126⟩ : ∃ z : CS, z = mu u 9 v126 := ⟨_, rfl⟩
        have hw := hw u126 eu126
        replace hI : mI D (mT cs) A s.heap s (VT h r q cs u126) H locs := by rw [eu126]; exact hI
        refine lv_goto (tgt := 143) S.1 S.2.1 dX11_mean_129 (by decide) ?_
        exact b143 x3 t0 y126 u126 hw H locs ls hI (lv_sub hl [1, 2, 0] rfl)
    · have hw := hw.2 c111
      refine lv_bipush (v := (-2)) S.1 S.2.1 dX11_mean_114 (by decide) ?_
      subst hZ
      exact m_iret S hr hlocks hI hw dX11_mean_116
  have b54 : ∀ (x3 : Int32) (t0 : Int32) (u : CS), wp_X11_mean_p54 x3 t0 u Q → mGo p l e ({ frames := 5, cells := 0, slots := 0, locals := 119 } : Room) s m args below meth c A Z 8 D (mT cs) (VT h r q cs) 54 [(0, .ref (h 0)), (3, .int x3)] [.int t0] u := by
    intro x3 t0 u hw H locs ls hI hl
    unfold wp_X11_mean_p54 at hw
    refine lv_istore (lv' := [(4, .int t0), (0, .ref (h 0)), (3, .int x3)]) S.1 S.2.1 dX11_mean_54 hl (by decide) rfl (fun ls hl => ?_)
    refine lv_aload_n S.1 S.2.1 dX11_mean_56 rfl (lv_at hl 1 rfl) ?_
    refine m_get S hin11 hI 0 (VT_o0 h r q cs u) rfl 4 (Nat.le_of_ble_eq_true rfl) (List.mem_of_getElem? (i := 5) rfl) rfl (FO11_at4 _ _ _) dX11_mean_57 ?_
    refine lv_iconst (v := 1) S.1 S.2.1 dX11_mean_60 (by decide) ?_
    refine lv_iconst (v := 0) S.1 S.2.1 dX11_mean_61 (by decide) ?_
    refine m_vv (cf := fun v => VT h r q cs (mu u 5 v)) (As := [.int (1 : Int32), .int (0 : Int32)]) (rest := []) S (VT_c5 h r q cs u) hI (by rw [mu_self]) (c_X2_prepare l D (h 5) (r 5) (q 5) cs (1 : Int32) (0 : Int32) (u 5) _ hw) (cwV 2 S.2.2.2.2 gX11_mean_X2_prepare rfl rfl rfl (by decide +kernel) ⟨Nat.le_of_ble_eq_true rfl, Nat.le_of_ble_eq_true rfl⟩) rfl rfl rfl hl.1 rfl (Nat.le_of_ble_eq_true rfl) dX11_mean_62 ⟨Nat.zero_le _, Nat.zero_le _⟩ (fun v62 H locs hw hI => ?_)
    obtain ⟨u62, eu62⟩ : ∃ z : CS, z = mu u 5 v62 := ⟨_, rfl⟩
    have hw := hw u62 eu62
    replace hI : mI D (mT cs) A s.heap s (VT h r q cs u62) H locs := by rw [eu62]; exact hI
    refine lv_iload S.1 S.2.1 dX11_mean_65 (lv_at hl 0 rfl) ?_
    refine lv_if_eq (tgt := 94) S.1 S.2.1 dX11_mean_67 (by decide) (fun c67 => ?_) (fun c67 => ?_)
    · have hw := hw.1 c67
      refine lv_aload_n S.1 S.2.1 dX11_mean_94 rfl (lv_at hl 1 rfl) ?_
      refine m_get S hin11 hI 0 (VT_o0 h r q cs u62) rfl 5 (Nat.le_of_ble_eq_true rfl) (List.mem_of_getElem? (i := 1) rfl) rfl (FO11_at5 _ _ _) dX11_mean_95 ?_
      refine lv_aload_n S.1 S.2.1 dX11_mean_98 rfl (lv_at hl 1 rfl) ?_
      refine m_get S hin11 hI 0 (VT_o0 h r q cs u62) rfl 8 (Nat.le_of_ble_eq_true rfl) (List.mem_of_getElem? (i := 4) rfl) rfl (FO11_at8 _ _ _) dX11_mean_99 ?_
      refine m_vi (cf := fun v => VT h r q cs (emb u62 [6, 9] v)) (As := [.ref (h 9)]) (rest := []) S (VT_k_ms_6_9 h r q cs u62) hI (by rw [emb_self]) (c_X4_cost l D (fun i => h ([6, 9].getD i 0)) (fun i => rE r (gI (u62 24) 0) ([6, 9].getD i 0)) (fun i => q ([6, 9].getD i 0)) cs (fun i => u62 ([6, 9].getD i 0)) _ hw) (cwV 1 S.2.2.2.2 gX11_mean_X4_cost rfl rfl rfl (by decide +kernel) ⟨Nat.le_of_ble_eq_true rfl, Nat.le_of_ble_eq_true rfl⟩) rfl rfl rfl hl.1 rfl (Nat.le_of_ble_eq_true rfl) dX11_mean_102 ⟨Nat.zero_le _, Nat.zero_le _⟩ (fun y102 v102 H locs hw hI => ?_)
      obtain ⟨u102, eu102⟩ : ∃ z : CS, z = emb u62 [6, 9] v102 := ⟨_, rfl⟩
      have hw := hw u102 eu102
      replace hI : mI D (mT cs) A s.heap s (VT h r q cs u102) H locs := by rw [eu102]; exact hI
      exact b105 x3 t0 y102 u102 hw H locs ls hI (lv_sub hl [1, 2, 0] rfl)
    · have hw := hw.2 c67
      refine lv_aload_n S.1 S.2.1 dX11_mean_70 rfl (lv_at hl 1 rfl) ?_
      refine m_get S hin11 hI 0 (VT_o0 h r q cs u62) rfl 4 (Nat.le_of_ble_eq_true rfl) (List.mem_of_getElem? (i := 5) rfl) rfl (FO11_at4 _ _ _) dX11_mean_71 ?_
      refine lv_aload_n S.1 S.2.1 dX11_mean_74 rfl (lv_at hl 1 rfl) ?_
      refine m_get S hin11 hI 0 (VT_o0 h r q cs u62) rfl 8 (Nat.le_of_ble_eq_true rfl) (List.mem_of_getElem? (i := 4) rfl) rfl (FO11_at8 _ _ _) dX11_mean_75 ?_
      refine m_getN S hin7 hI 109 (VT_o9 h r q cs u62) rfl 2 (Nat.le_of_ble_eq_true rfl) nf_X11_152 rfl (Ff7_at2 _ _) dX11_mean_78 ?_
      refine lv_aload_n S.1 S.2.1 dX11_mean_81 rfl (lv_at hl 1 rfl) ?_
      refine m_get S hin11 hI 0 (VT_o0 h r q cs u62) rfl 8 (Nat.le_of_ble_eq_true rfl) (List.mem_of_getElem? (i := 4) rfl) rfl (FO11_at8 _ _ _) dX11_mean_82 ?_
      refine m_vi (cf := fun v => VT h r q cs (mu u62 9 v)) (As := []) (rest := [.int (gI (u62 9) 2), .ref (h 5)]) S (VT_c9 h r q cs u62) hI (by rw [mu_self]) (c_X7_heights l D (h 9) (r 9) cs (u62 9) _ hw) (cwV 0 S.2.2.2.2 gX11_mean_X7_heights rfl rfl rfl (by decide +kernel) ⟨Nat.le_of_ble_eq_true rfl, Nat.le_of_ble_eq_true rfl⟩) rfl rfl rfl hl.1 rfl (Nat.le_of_ble_eq_true rfl) dX11_mean_85 ⟨Nat.zero_le _, Nat.zero_le _⟩ (fun y85 v85 H locs hw hI => ?_)
      obtain ⟨u85, eu85⟩ : ∃ z : CS, z = mu u62 9 v85 := ⟨_, rfl⟩
      have hw := hw u85 eu85
      replace hI : mI D (mT cs) A s.heap s (VT h r q cs u85) H locs := by rw [eu85]; exact hI
      refine m_vi (cf := fun v => VT h r q cs (mu u85 5 v)) (As := [.int (gI (u62 9) 2), .int y85]) (rest := []) S (VT_c5 h r q cs u85) hI (by rw [mu_self]) (c_X2_cost l D (h 5) (r 5) (q 5) cs (gI (u62 9) 2) y85 (u85 5) _ hw) (cwV 2 S.2.2.2.2 gX11_mean_X2_cost rfl rfl rfl (by decide +kernel) ⟨Nat.le_of_ble_eq_true rfl, Nat.le_of_ble_eq_true rfl⟩) rfl rfl rfl hl.1 rfl (Nat.le_of_ble_eq_true rfl) dX11_mean_88 ⟨Nat.zero_le _, Nat.zero_le _⟩ (fun y88 v88 H locs hw hI => ?_)
      obtain ⟨u88, eu88⟩ : ∃ z : CS, z = mu u85 5 v88 := ⟨_, rfl⟩
      have hw := hw u88 eu88
      replace hI : mI D (mT cs) A s.heap s (VT h r q cs u88) H locs := by rw [eu88]; exact hI
      refine lv_goto (tgt := 105) S.1 S.2.1 dX11_mean_91 (by decide) ?_
      exact b105 x3 t0 y88 u88 hw H locs ls hI (lv_sub hl [1, 2, 0] rfl)
  unfold wp_X11_mean at hw
  obtain ⟨H, hH⟩ : ∃ z : Heap, z = s.heap := ⟨_, rfl⟩
  obtain ⟨locs, hL⟩ : ∃ z : List Loc, z = [] := ⟨_, rfl⟩
  rw [show W p l e ({ frames := 5, cells := 0, slots := 0, locals := 119 } : Room) s m args below meth c s.heap [] 0 0 Z (F0 m 0 ls []) = W p l e ({ frames := 5, cells := 0, slots := 0, locals := 119 } : Room) s m args below meth c H locs 0 0 Z (F0 m 0 ls []) by rw [hH, hL]]
  replace hI : mI D (mT cs) A s.heap s (VT h r q cs u) H locs := by rw [hH, hL]; exact hI
  refine lv_aload_n S.1 S.2.1 dX11_mean_0 rfl (lv_at hl 0 rfl) ?_
  refine lv_iload_n S.1 S.2.1 dX11_mean_1 rfl (lv_at hl 1 rfl) ?_
  refine lv_iload_n S.1 S.2.1 dX11_mean_2 rfl (lv_at hl 2 rfl) ?_
  refine m_vi (As := [.int a1, .int a2]) (rest := []) S (VT_self h r q cs) hI rfl (c_X11_asksSpan l D h r q cs a1 a2 u _ hw) (cwV 2 S.2.2.2.2 gX11_mean_X11_asksSpan rfl rfl rfl (by decide +kernel) ⟨Nat.le_of_ble_eq_true rfl, Nat.le_of_ble_eq_true rfl⟩) (VT_o0 h r q cs u) rfl rfl hl.1 rfl (Nat.le_of_ble_eq_true rfl) dX11_mean_3 ⟨Nat.zero_le _, Nat.zero_le _⟩ (fun y3 u3 H locs hw hI => ?_)
  refine lv_if_eq (tgt := 18) S.1 S.2.1 dX11_mean_6 (by decide) (fun c6 => ?_) (fun c6 => ?_)
  · have hw := hw.1 c6
    exact b18 u3 hw H locs ls hI (lv_sub hl [0] rfl)
  · have hw := hw.2 c6
    refine lv_iload_n S.1 S.2.1 dX11_mean_9 rfl (lv_at hl 3 rfl) ?_
    refine lv_iconst (v := 0) S.1 S.2.1 dX11_mean_10 (by decide) ?_
    refine lv_iconst (v := 1) S.1 S.2.1 dX11_mean_11 (by decide) ?_
    refine m_si (As := [.int a3, .int (0 : Int32), .int (1 : Int32)]) (rest := []) S hI.2.2.2.1.2.1 (c_X11_within l a3 (0 : Int32) (1 : Int32) _ hw) (va_cwS 3 S.2.2.2.2 gX11_mean_X11_within rfl rfl rfl (by decide +kernel) ⟨Nat.le_of_ble_eq_true rfl, Nat.le_of_ble_eq_true rfl⟩) rfl hl.1 rfl (Nat.le_of_ble_eq_true rfl) dX11_mean_12 ⟨Nat.zero_le _, Nat.zero_le _⟩ (fun y12 hw => ?_)
    refine lv_if_ne (tgt := 20) S.1 S.2.1 dX11_mean_15 (by decide) (fun c15 => ?_) (fun c15 => ?_)
    · have hw := hw.1 c15
      refine lv_aload_n S.1 S.2.1 dX11_mean_20 rfl (lv_at hl 0 rfl) ?_
      refine m_get S hin11 hI 0 (VT_o0 h r q cs u3) rfl 5 (Nat.le_of_ble_eq_true rfl) (List.mem_of_getElem? (i := 1) rfl) rfl (FO11_at5 _ _ _) dX11_mean_21 ?_
      refine lv_aload_n S.1 S.2.1 dX11_mean_24 rfl (lv_at hl 0 rfl) ?_
      refine m_get S hin11 hI 0 (VT_o0 h r q cs u3) rfl 1 (Nat.le_of_ble_eq_true rfl) (List.mem_of_getElem? (i := 2) rfl) rfl (FO11_at1 _ _ _) dX11_mean_25 ?_
      refine lv_aload_n S.1 S.2.1 dX11_mean_28 rfl (lv_at hl 0 rfl) ?_
      refine m_get S hin11 hI 0 (VT_o0 h r q cs u3) rfl 0 (Nat.le_of_ble_eq_true rfl) (List.mem_of_getElem? (i := 3) rfl) rfl (FO11_at0 _ _ _) dX11_mean_29 ?_
      refine m_vv (cf := fun v => VT h r q cs (emb u3 [6, 2, 1] v)) (As := [.ref (h 2), .ref (h 1)]) (rest := []) S (VT_k_mw_6_2_1 h r q cs u3) hI (by rw [emb_self]) (c_X4_weigh l D (fun i => h ([6, 2, 1].getD i 0)) (fun i => rE r (gI (u3 24) 0) ([6, 2, 1].getD i 0)) (fun i => q ([6, 2, 1].getD i 0)) cs (fun i => u3 ([6, 2, 1].getD i 0)) _ hw) (cwV 2 S.2.2.2.2 gX11_mean_X4_weigh rfl rfl rfl (by decide +kernel) ⟨Nat.le_of_ble_eq_true rfl, Nat.le_of_ble_eq_true rfl⟩) rfl rfl rfl hl.1 rfl (Nat.le_of_ble_eq_true rfl) dX11_mean_32 ⟨Nat.zero_le _, Nat.zero_le _⟩ (fun v32 H locs hw hI => ?_)
      obtain ⟨u32, eu32⟩ : ∃ z : CS, z = emb u3 [6, 2, 1] v32 := ⟨_, rfl⟩
      have hw := hw u32 eu32
      replace hI : mI D (mT cs) A s.heap s (VT h r q cs u32) H locs := by rw [eu32]; exact hI
      refine lv_aload_n S.1 S.2.1 dX11_mean_35 rfl (lv_at hl 0 rfl) ?_
      refine m_get S hin11 hI 0 (VT_o0 h r q cs u32) rfl 5 (Nat.le_of_ble_eq_true rfl) (List.mem_of_getElem? (i := 1) rfl) rfl (FO11_at5 _ _ _) dX11_mean_36 ?_
      refine lv_aload_n S.1 S.2.1 dX11_mean_39 rfl (lv_at hl 0 rfl) ?_
      refine m_get S hin11 hI 0 (VT_o0 h r q cs u32) rfl 8 (Nat.le_of_ble_eq_true rfl) (List.mem_of_getElem? (i := 4) rfl) rfl (FO11_at8 _ _ _) dX11_mean_40 ?_
      refine m_vi (cf := fun v => VT h r q cs (emb u32 [6, 9] v)) (As := [.ref (h 9)]) (rest := []) S (VT_k_ms_6_9 h r q cs u32) hI (by rw [emb_self]) (c_X4_weightOf l D (fun i => h ([6, 9].getD i 0)) (fun i => rE r (gI (u32 24) 0) ([6, 9].getD i 0)) (fun i => q ([6, 9].getD i 0)) cs (fun i => u32 ([6, 9].getD i 0)) _ hw) (cwV 1 S.2.2.2.2 gX11_mean_X4_weightOf rfl rfl rfl (by decide +kernel) ⟨Nat.le_of_ble_eq_true rfl, Nat.le_of_ble_eq_true rfl⟩) rfl rfl rfl hl.1 rfl (Nat.le_of_ble_eq_true rfl) dX11_mean_43 ⟨Nat.zero_le _, Nat.zero_le _⟩ (fun y43 v43 H locs hw hI => ?_)
      obtain ⟨u43, eu43⟩ : ∃ z : CS, z = emb u32 [6, 9] v43 := ⟨_, rfl⟩
      have hw := hw u43 eu43
      replace hI : mI D (mT cs) A s.heap s (VT h r q cs u43) H locs := by rw [eu43]; exact hI
      refine lv_if_ne (tgt := 53) S.1 S.2.1 dX11_mean_46 (by decide) (fun c46 => ?_) (fun c46 => ?_)
      · have hw := hw.1 c46
        refine lv_iconst (v := 0) S.1 S.2.1 dX11_mean_53 (by decide) ?_
        exact b54 a3 (0 : Int32) u43 hw H locs ls hI (lv_sub hl [0, 3] rfl)
      · have hw := hw.2 c46
        refine lv_iconst (v := 1) S.1 S.2.1 dX11_mean_49 (by decide) ?_
        refine lv_goto (tgt := 54) S.1 S.2.1 dX11_mean_50 (by decide) ?_
        exact b54 a3 (1 : Int32) u43 hw H locs ls hI (lv_sub hl [0, 3] rfl)
    · have hw := hw.2 c15
      exact b18 u3 hw H locs ls hI (lv_sub hl [0] rfl)

def wp_X11_meanFirst_p31 (u : CS) (Q : Int32 → CS → Prop) : Prop :=
  Q ((-2) : Int32) u
def wp_X11_meanFirst (a1 : Int32) (a2 : Int32) (u : CS) (Q : Int32 → CS → Prop) : Prop :=
  (wp_X11_asksSpan a1 a2 u (fun y3 u3 => ((¬ y3 = 0 → (wp_X7_isSure (u3 9) (fun y15 v15 => ∀ u15 : CS, u15 = mu u3 9 v15 → ((¬ y15 = 0 → wp_X11_meanFirst_p31 u15 Q) ∧ (y15 = 0 → ((¬ (gI (u15 9) 2) = 0 → (wp_X4_weigh (fun i => u15 ([6, 2, 1].getD i 0)) (fun v46 => ∀ u46 : CS, u46 = emb u15 [6, 2, 1] v46 → (wp_X11_firstByMean_9 u46 (fun y54 u54 => Q y54 u54))))) ∧ ((gI (u15 9) 2) = 0 → wp_X11_meanFirst_p31 u15 Q))))))) ∧ (y3 = 0 → Q ((-1) : Int32) u3))))
set_option maxHeartbeats 4000000 in
set_option maxRecDepth 100000 in
theorem c_X11_meanFirst (l : Launch) (D : va_G) (h : Nat → Nat) (r : Nat → Nat → Nat) (q : Nat → Nat → Nat → Nat) (cs : Nat → ClassId) (a1 : Int32) (a2 : Int32) (u : CS) (Q : Int32 → CS → Prop) (hw : wp_X11_meanFirst a1 a2 u Q) : mCi l yX11_meanFirst wsX11_meanFirst ({ frames := 6, cells := 0, slots := 0, locals := 139 } : Room) 0 0 D (mT cs) (VT h r q cs) [.ref (h 0), .int a1, .int a2] u Q := by
  unfold mCi
  refine m_enter (QQ := fun A => va_Qi Q (mPos D (mT cs) A (VT h r q cs)) A) (cc := cX11_meanFirst) (maxL := 3) (ret := (some .int)) (by decide) rfl (Nat.le_of_ble_eq_true rfl) ?_
  intro p e s m args below meth c A ls S hr hlocks hname hl hI
  have S : CallFix p m c cX11_meanFirst 3 s args wsX11_meanFirst RX11 := S
  show W p l e ({ frames := 6, cells := 0, slots := 0, locals := 139 } : Room) s m args below meth c s.heap [] 0 0 (MQ below (va_Qi Q (mPos D (mT cs) A (VT h r q cs)) A) args s 0 0 A) (F0 m 0 ls [])
  generalize hZ : MQ below (va_Qi Q (mPos D (mT cs) A (VT h r q cs)) A) args s 0 0 A = Z
  have hin2 : ∀ w ∈ wsX20, w ∈ wsX11_meanFirst := fun _ h => List.mem_cons_of_mem _ (List.mem_append_right _ h)
  have hin3 : ∀ w ∈ wsX30, w ∈ wsX11_meanFirst := fun _ h => List.mem_cons_of_mem _ (List.mem_append_left _ (List.mem_append_left _ (List.mem_append_right _ h)))
  have hin4 : ∀ w ∈ wsX40, w ∈ wsX11_meanFirst := fun _ h => List.mem_cons_of_mem _ (List.mem_append_left _ (List.mem_append_right _ h))
  have hin7 : ∀ w ∈ wsX70, w ∈ wsX11_meanFirst := fun _ h => List.mem_cons_of_mem _ (List.mem_append_left _ (List.mem_append_left _ (List.mem_append_left _ (List.mem_append_left _ (List.mem_append_right _ h)))))
  have hin8 : ∀ w ∈ wsX80, w ∈ wsX11_meanFirst := fun _ h => List.mem_cons_of_mem _ (List.mem_append_left _ (List.mem_append_left _ (List.mem_append_left _ (List.mem_append_right _ h))))
  have hin11 : ∀ w ∈ wsX110, w ∈ wsX11_meanFirst := fun _ h => List.mem_cons_of_mem _ (List.mem_append_left _ (List.mem_append_left _ (List.mem_append_left _ (List.mem_append_left _ (List.mem_append_left _ (List.mem_append_right _ h))))))
  have hl : lv_has ls 3 [(0, .ref (h 0)), (1, .int a1), (2, .int a2)] := hl
  have b31 : ∀ (u : CS), wp_X11_meanFirst_p31 u Q → mGo p l e ({ frames := 6, cells := 0, slots := 0, locals := 139 } : Room) s m args below meth c A Z 3 D (mT cs) (VT h r q cs) 31 [(0, .ref (h 0))] [] u := by
    intro u hw H locs ls hI hl
    unfold wp_X11_meanFirst_p31 at hw
    refine lv_bipush (v := (-2)) S.1 S.2.1 dX11_meanFirst_31 (by decide) ?_
    subst hZ
    exact m_iret S hr hlocks hI hw dX11_meanFirst_33
  unfold wp_X11_meanFirst at hw
  obtain ⟨H, hH⟩ : ∃ z : Heap, z = s.heap := ⟨_, rfl⟩
  obtain ⟨locs, hL⟩ : ∃ z : List Loc, z = [] := ⟨_, rfl⟩
  rw [show W p l e ({ frames := 6, cells := 0, slots := 0, locals := 139 } : Room) s m args below meth c s.heap [] 0 0 Z (F0 m 0 ls []) = W p l e ({ frames := 6, cells := 0, slots := 0, locals := 139 } : Room) s m args below meth c H locs 0 0 Z (F0 m 0 ls []) by rw [hH, hL]]
  replace hI : mI D (mT cs) A s.heap s (VT h r q cs u) H locs := by rw [hH, hL]; exact hI
  refine lv_aload_n S.1 S.2.1 dX11_meanFirst_0 rfl (lv_at hl 0 rfl) ?_
  refine lv_iload_n S.1 S.2.1 dX11_meanFirst_1 rfl (lv_at hl 1 rfl) ?_
  refine lv_iload_n S.1 S.2.1 dX11_meanFirst_2 rfl (lv_at hl 2 rfl) ?_
  refine m_vi (As := [.int a1, .int a2]) (rest := []) S (VT_self h r q cs) hI rfl (c_X11_asksSpan l D h r q cs a1 a2 u _ hw) (cwV 2 S.2.2.2.2 gX11_meanFirst_X11_asksSpan rfl rfl rfl (by decide +kernel) ⟨Nat.le_of_ble_eq_true rfl, Nat.le_of_ble_eq_true rfl⟩) (VT_o0 h r q cs u) rfl rfl hl.1 rfl (Nat.le_of_ble_eq_true rfl) dX11_meanFirst_3 ⟨Nat.zero_le _, Nat.zero_le _⟩ (fun y3 u3 H locs hw hI => ?_)
  refine lv_if_ne (tgt := 11) S.1 S.2.1 dX11_meanFirst_6 (by decide) (fun c6 => ?_) (fun c6 => ?_)
  · have hw := hw.1 c6
    refine lv_aload_n S.1 S.2.1 dX11_meanFirst_11 rfl (lv_at hl 0 rfl) ?_
    refine m_get S hin11 hI 0 (VT_o0 h r q cs u3) rfl 8 (Nat.le_of_ble_eq_true rfl) (List.mem_of_getElem? (i := 1) rfl) rfl (FO11_at8 _ _ _) dX11_meanFirst_12 ?_
    refine m_vi (cf := fun v => VT h r q cs (mu u3 9 v)) (As := []) (rest := []) S (VT_c9 h r q cs u3) hI (by rw [mu_self]) (c_X7_isSure l D (h 9) (r 9) cs (u3 9) _ hw) (cwV 0 S.2.2.2.2 gX11_meanFirst_X7_isSure rfl rfl rfl (by decide +kernel) ⟨Nat.le_of_ble_eq_true rfl, Nat.le_of_ble_eq_true rfl⟩) rfl rfl rfl hl.1 rfl (Nat.le_of_ble_eq_true rfl) dX11_meanFirst_15 ⟨Nat.zero_le _, Nat.zero_le _⟩ (fun y15 v15 H locs hw hI => ?_)
    obtain ⟨u15, eu15⟩ : ∃ z : CS, z = mu u3 9 v15 := ⟨_, rfl⟩
    have hw := hw u15 eu15
    replace hI : mI D (mT cs) A s.heap s (VT h r q cs u15) H locs := by rw [eu15]; exact hI
    refine lv_if_ne (tgt := 31) S.1 S.2.1 dX11_meanFirst_18 (by decide) (fun c18 => ?_) (fun c18 => ?_)
    · have hw := hw.1 c18
      exact b31 u15 hw H locs ls hI (lv_sub hl [0] rfl)
    · have hw := hw.2 c18
      refine lv_aload_n S.1 S.2.1 dX11_meanFirst_21 rfl (lv_at hl 0 rfl) ?_
      refine m_get S hin11 hI 0 (VT_o0 h r q cs u15) rfl 8 (Nat.le_of_ble_eq_true rfl) (List.mem_of_getElem? (i := 1) rfl) rfl (FO11_at8 _ _ _) dX11_meanFirst_22 ?_
      refine m_getN S hin7 hI 109 (VT_o9 h r q cs u15) rfl 2 (Nat.le_of_ble_eq_true rfl) nf_X11_152 rfl (Ff7_at2 _ _) dX11_meanFirst_25 ?_
      refine lv_if_ne (tgt := 34) S.1 S.2.1 dX11_meanFirst_28 (by decide) (fun c28 => ?_) (fun c28 => ?_)
      · have hw := hw.1 c28
        refine lv_aload_n S.1 S.2.1 dX11_meanFirst_34 rfl (lv_at hl 0 rfl) ?_
        refine m_get S hin11 hI 0 (VT_o0 h r q cs u15) rfl 5 (Nat.le_of_ble_eq_true rfl) (List.mem_of_getElem? (i := 2) rfl) rfl (FO11_at5 _ _ _) dX11_meanFirst_35 ?_
        refine lv_aload_n S.1 S.2.1 dX11_meanFirst_38 rfl (lv_at hl 0 rfl) ?_
        refine m_get S hin11 hI 0 (VT_o0 h r q cs u15) rfl 1 (Nat.le_of_ble_eq_true rfl) (List.mem_of_getElem? (i := 3) rfl) rfl (FO11_at1 _ _ _) dX11_meanFirst_39 ?_
        refine lv_aload_n S.1 S.2.1 dX11_meanFirst_42 rfl (lv_at hl 0 rfl) ?_
        refine m_get S hin11 hI 0 (VT_o0 h r q cs u15) rfl 0 (Nat.le_of_ble_eq_true rfl) (List.mem_of_getElem? (i := 4) rfl) rfl (FO11_at0 _ _ _) dX11_meanFirst_43 ?_
        refine m_vv (cf := fun v => VT h r q cs (emb u15 [6, 2, 1] v)) (As := [.ref (h 2), .ref (h 1)]) (rest := []) S (VT_k_mw_6_2_1 h r q cs u15) hI (by rw [emb_self]) (c_X4_weigh l D (fun i => h ([6, 2, 1].getD i 0)) (fun i => rE r (gI (u15 24) 0) ([6, 2, 1].getD i 0)) (fun i => q ([6, 2, 1].getD i 0)) cs (fun i => u15 ([6, 2, 1].getD i 0)) _ hw) (cwV 2 S.2.2.2.2 gX11_meanFirst_X4_weigh rfl rfl rfl (by decide +kernel) ⟨Nat.le_of_ble_eq_true rfl, Nat.le_of_ble_eq_true rfl⟩) rfl rfl rfl hl.1 rfl (Nat.le_of_ble_eq_true rfl) dX11_meanFirst_46 ⟨Nat.zero_le _, Nat.zero_le _⟩ (fun v46 H locs hw hI => ?_)
        obtain ⟨u46, eu46⟩ : ∃ z : CS, z = emb u15 [6, 2, 1] v46 := ⟨_, rfl⟩
        have hw := hw u46 eu46
        replace hI : mI D (mT cs) A s.heap s (VT h r q cs u46) H locs := by rw [eu46]; exact hI
        refine lv_aload_n S.1 S.2.1 dX11_meanFirst_49 rfl (lv_at hl 0 rfl) ?_
        refine lv_aload_n S.1 S.2.1 dX11_meanFirst_50 rfl (lv_at hl 0 rfl) ?_
        refine m_get S hin11 hI 0 (VT_o0 h r q cs u46) rfl 8 (Nat.le_of_ble_eq_true rfl) (List.mem_of_getElem? (i := 1) rfl) rfl (FO11_at8 _ _ _) dX11_meanFirst_51 ?_
        refine m_vi (As := [.ref (h 9)]) (rest := []) S (VT_self h r q cs) hI rfl (c_X11_firstByMean_9 l D h r q cs u46 _ hw) (cwV 1 S.2.2.2.2 gX11_meanFirst_X11_firstByMean rfl rfl rfl (by decide +kernel) ⟨Nat.le_of_ble_eq_true rfl, Nat.le_of_ble_eq_true rfl⟩) (VT_o0 h r q cs u46) rfl rfl hl.1 rfl (Nat.le_of_ble_eq_true rfl) dX11_meanFirst_54 ⟨Nat.zero_le _, Nat.zero_le _⟩ (fun y54 u54 H locs hw hI => ?_)
        subst hZ
        exact m_iret S hr hlocks hI hw dX11_meanFirst_57
      · have hw := hw.2 c28
        exact b31 u15 hw H locs ls hI (lv_sub hl [0] rfl)
  · have hw := hw.2 c6
    refine lv_iconst (v := (-1)) S.1 S.2.1 dX11_meanFirst_9 (by decide) ?_
    subst hZ
    exact m_iret S hr hlocks hI hw dX11_meanFirst_10

/-! laid by program: X3_become, T, X11_laddered_3, X11_laddered_4, X11_firstByMean_9, X11_firstByMean_11, X11_asksSpan, X11_walks, X11_refusesBytes, X11_refusesPlace, X11_canBe, X11_isWise_12 -/
theorem Vlb_c0 (h : Nat → Nat) (r : Nat → Nat → Nat) (q : Nat → Nat → Nat → Nat) (cs : Nat → ClassId) (U : CS) : ∀ v : ST, (Vlb h r q cs (mu U 0 v)).Perm ([] ++ (W3 (h 0) (lr (r 0) (gI (U 1) 0)) cs v ++ [1].flatMap (cTlb h r q cs U))) := fun v => List.Perm.of_eq rfl
theorem Vlb_o0 (h : Nat → Nat) (r : Nat → Nat → Nat) (q : Nat → Nat → Nat → Nat) (cs : Nat → ClassId) (U : CS) : (Vlb h r q cs U)[0]? = some (h 0, .inr (3, Ff3 (lr (r 0) (gI (U 1) 0)) (U 0))) := rfl
theorem Vlb_sI0_4 (h : Nat → Nat) (r : Nat → Nat → Nat) (q : Nat → Nat → Nat → Nat) (cs : Nat → ClassId) (U u9 : CS) (x : Int32) (e : u9 = mu U 0 (sI (U 0) 4 x)) : (Vlb h r q cs U).set 0 (h 0, .inr (3, (Ff3 (lr (r 0) (gI (U 1) 0)) (U 0)).set 4 (.int x))) = Vlb h r q cs u9 := by subst e; rfl
theorem Vlb_sI0_5 (h : Nat → Nat) (r : Nat → Nat → Nat) (q : Nat → Nat → Nat → Nat) (cs : Nat → ClassId) (U u9 : CS) (x : Int32) (e : u9 = mu U 0 (sI (U 0) 5 x)) : (Vlb h r q cs U).set 0 (h 0, .inr (3, (Ff3 (lr (r 0) (gI (U 1) 0)) (U 0)).set 5 (.int x))) = Vlb h r q cs u9 := by subst e; rfl
theorem Vlb_sI0_9 (h : Nat → Nat) (r : Nat → Nat → Nat) (q : Nat → Nat → Nat → Nat) (cs : Nat → ClassId) (U u9 : CS) (x : Int32) (e : u9 = mu U 0 (sI (U 0) 9 x)) : (Vlb h r q cs U).set 0 (h 0, .inr (3, (Ff3 (lr (r 0) (gI (U 1) 0)) (U 0)).set 9 (.int x))) = Vlb h r q cs u9 := by subst e; rfl
def wp_X3_become_p61 (x2 : Int32) (u : CS) (Q : Int32 → CS → Prop) : Prop :=
  (∀ u63 : CS, u63 = mu u 0 (sI (u 0) 4 (0 : Int32)) → Q x2 u63)
def wp_X3_become_p20 (x1 : Int32) (t0 : Int32) (u : CS) (Q : Int32 → CS → Prop) : Prop :=
  ((x1 = 0 → wp_X3_become_p61 t0 u Q) ∧ (¬ x1 = 0 → (∀ u40 : CS, u40 = swS u → (∀ u48 : CS, u48 = mu u40 0 (sI (u40 0) 5 (gI (u40 0) 6)) → (∀ y57 : Int32, y57 = (gI (u48 0) 9) + (1 : Int32) → (∀ u58 : CS, u58 = mu u48 0 (sI (u48 0) 9 y57) → wp_X3_become_p61 t0 u58 Q))))))
def wp_X3_become (u : CS) (Q : Int32 → CS → Prop) : Prop :=
  (wp_X3_readText (u 0) (fun y1 v1 => ∀ u1 : CS, u1 = mu u 0 v1 → ((y1 = 0 → (∀ y19 : Int32, y19 = ((-100) : Int32) - (gI (u1 0) 7) → wp_X3_become_p20 y1 y19 u1 Q)) ∧ (¬ y1 = 0 → wp_X3_become_p20 y1 (1 : Int32) u1 Q))))
set_option maxHeartbeats 4000000 in
set_option maxRecDepth 100000 in
theorem c_X3_become (l : Launch) (D : va_G) (h : Nat → Nat) (r : Nat → Nat → Nat) (q : Nat → Nat → Nat → Nat) (cs : Nat → ClassId) (u : CS) (Q : Int32 → CS → Prop) (hw : wp_X3_become u Q) : mCi l yX3_become wsX3_become ({ frames := 86, cells := 0, slots := 0, locals := 2206 } : Room) 0 0 D (mT cs) (Vlb h r q cs) [.ref (h 0)] u Q := by
  unfold mCi
  refine m_enter (QQ := fun A => va_Qi Q (mPos D (mT cs) A (Vlb h r q cs)) A) (cc := cX3_become) (maxL := 4) (ret := (some .int)) (by decide) rfl (Nat.le_of_ble_eq_true rfl) ?_
  intro p e s m args below meth c A ls S hr hlocks hname hl hI
  have S : CallFix p m c cX3_become 4 s args wsX3_become RX3 := S
  show W p l e ({ frames := 86, cells := 0, slots := 0, locals := 2206 } : Room) s m args below meth c s.heap [] 0 0 (MQ below (va_Qi Q (mPos D (mT cs) A (Vlb h r q cs)) A) args s 0 0 A) (F0 m 0 ls [])
  generalize hZ : MQ below (va_Qi Q (mPos D (mT cs) A (Vlb h r q cs)) A) args s 0 0 A = Z
  have hin3 : ∀ w ∈ wsX30, w ∈ wsX3_become := fun _ h => List.mem_cons_of_mem _ (List.mem_append_right _ h)
  have hl : lv_has ls 4 [(0, .ref (h 0))] := hl
  have b61 : ∀ (x2 : Int32) (u : CS), wp_X3_become_p61 x2 u Q → mGo p l e ({ frames := 86, cells := 0, slots := 0, locals := 2206 } : Room) s m args below meth c A Z 4 D (mT cs) (Vlb h r q cs) 61 [(0, .ref (h 0)), (2, .int x2)] [] u := by
    intro x2 u hw H locs ls hI hl
    unfold wp_X3_become_p61 at hw
    refine lv_aload_n S.1 S.2.1 dX3_become_61 rfl (lv_at hl 0 rfl) ?_
    refine lv_iconst (v := 0) S.1 S.2.1 dX3_become_62 (by decide) ?_
    obtain ⟨u63, eu63⟩ : ∃ z : CS, z = mu u 0 (sI (u 0) 4 (0 : Int32)) := ⟨_, rfl⟩
    have hw := hw u63 eu63
    refine m_put S hin3 tyX3_ok nmX3 hI 0 (Vlb_o0 h r q cs u) rfl 4 (Nat.le_of_ble_eq_true rfl) (List.mem_of_getElem? (i := 7) rfl) rfl rfl rfl rfl (Nat.le_of_ble_eq_true rfl) (Vlb_sI0_4 h r q cs u u63 (0 : Int32) eu63) dX3_become_63 (fun H locs hI => ?_)
    refine lv_iload_n S.1 S.2.1 dX3_become_66 rfl (lv_at hl 1 rfl) ?_
    subst hZ
    exact m_iret S hr hlocks hI hw dX3_become_67
  have b20 : ∀ (x1 : Int32) (t0 : Int32) (u : CS), wp_X3_become_p20 x1 t0 u Q → mGo p l e ({ frames := 86, cells := 0, slots := 0, locals := 2206 } : Room) s m args below meth c A Z 4 D (mT cs) (Vlb h r q cs) 20 [(0, .ref (h 0)), (1, .int x1)] [.int t0] u := by
    intro x1 t0 u hw H locs ls hI hl
    unfold wp_X3_become_p20 at hw
    refine lv_istore_n (lv' := [(2, .int t0), (0, .ref (h 0)), (1, .int x1)]) S.1 S.2.1 dX3_become_20 rfl hl (by decide) rfl (fun ls hl => ?_)
    refine lv_iload_n S.1 S.2.1 dX3_become_21 rfl (lv_at hl 2 rfl) ?_
    refine lv_if_eq (tgt := 61) S.1 S.2.1 dX3_become_22 (by decide) (fun c22 => ?_) (fun c22 => ?_)
    · have hw := hw.1 c22
      exact b61 t0 u hw H locs ls hI (lv_sub hl [1, 0] rfl)
    · have hw := hw.2 c22
      refine lv_aload_n S.1 S.2.1 dX3_become_25 rfl (lv_at hl 1 rfl) ?_
      refine m_get S hin3 hI 0 (Vlb_o0 h r q cs u) rfl 2 (Nat.le_of_ble_eq_true rfl) (List.mem_of_getElem? (i := 2) rfl) rfl (Ff3_at2 _ _) dX3_become_26 ?_
      refine lv_astore_n (lv' := [(3, .ref ((lr (r 0) (gI (u 1) 0)) 2)), (2, .int t0), (0, .ref (h 0)), (1, .int x1)]) S.1 S.2.1 dX3_become_29 rfl hl (by decide) rfl (fun ls hl => ?_)
      refine lv_aload_n S.1 S.2.1 dX3_become_30 rfl (lv_at hl 2 rfl) ?_
      refine lv_aload_n S.1 S.2.1 dX3_become_31 rfl (lv_at hl 2 rfl) ?_
      refine m_get S hin3 hI 0 (Vlb_o0 h r q cs u) rfl 3 (Nat.le_of_ble_eq_true rfl) (List.mem_of_getElem? (i := 3) rfl) rfl (Ff3_at3 _ _) dX3_become_32 ?_
      refine m_put S hin3 tyX3_ok nmX3 hI 0 (Vlb_o0 h r q cs u) rfl 2 (Nat.le_of_ble_eq_true rfl) (List.mem_of_getElem? (i := 2) rfl) rfl rfl rfl rfl (Nat.le_of_ble_eq_true rfl) rfl dX3_become_35 (fun H locs hI => ?_)
      refine lv_aload_n S.1 S.2.1 dX3_become_38 rfl (lv_at hl 2 rfl) ?_
      refine lv_aload_n S.1 S.2.1 dX3_become_39 rfl (lv_at hl 0 rfl) ?_
      refine m_put S hin3 tyX3_ok nmX3 hI 0 rfl rfl 3 (Nat.le_of_ble_eq_true rfl) (List.mem_of_getElem? (i := 3) rfl) rfl rfl rfl rfl (Nat.le_of_ble_eq_true rfl) rfl dX3_become_40 (fun H locs hI => ?_)
      obtain ⟨u40, eu40⟩ : ∃ z : CS, z = swS u := ⟨_, rfl⟩
      have hw := hw u40 eu40
      replace hI : mI D (mT cs) A s.heap s (Vlb h r q cs u40) H locs := mI_perm (lb_swap h r q cs u u40 eu40) hI
      refine lv_aload_n S.1 S.2.1 dX3_become_43 rfl (lv_at hl 2 rfl) ?_
      refine lv_aload_n S.1 S.2.1 dX3_become_44 rfl (lv_at hl 2 rfl) ?_
      refine m_get S hin3 hI 0 (Vlb_o0 h r q cs u40) rfl 6 (Nat.le_of_ble_eq_true rfl) (List.mem_of_getElem? (i := 4) rfl) rfl (Ff3_at6 _ _) dX3_become_45 ?_
      obtain ⟨u48, eu48⟩ : ∃ z : CS, z = mu u40 0 (sI (u40 0) 5 (gI (u40 0) 6)) := ⟨_, rfl⟩
      have hw := hw u48 eu48
      refine m_put S hin3 tyX3_ok nmX3 hI 0 (Vlb_o0 h r q cs u40) rfl 5 (Nat.le_of_ble_eq_true rfl) (List.mem_of_getElem? (i := 5) rfl) rfl rfl rfl rfl (Nat.le_of_ble_eq_true rfl) (Vlb_sI0_5 h r q cs u40 u48 (gI (u40 0) 6) eu48) dX3_become_48 (fun H locs hI => ?_)
      refine lv_aload_n S.1 S.2.1 dX3_become_51 rfl (lv_at hl 2 rfl) ?_
      refine lv_dup S.1 S.2.1 dX3_become_52 rfl ?_
      refine m_get S hin3 hI 0 (Vlb_o0 h r q cs u48) rfl 9 (Nat.le_of_ble_eq_true rfl) (List.mem_of_getElem? (i := 6) rfl) rfl (Ff3_at9 _ _) dX3_become_53 ?_
      refine lv_iconst (v := 1) S.1 S.2.1 dX3_become_56 (by decide) ?_
      refine lv_iadd S.1 S.2.1 dX3_become_57 ?_
      refine lv_topi (fun y57 ey57 => ?_)
      have hw := hw y57 ey57
      obtain ⟨u58, eu58⟩ : ∃ z : CS, z = mu u48 0 (sI (u48 0) 9 y57) := ⟨_, rfl⟩
      have hw := hw u58 eu58
      refine m_put S hin3 tyX3_ok nmX3 hI 0 (Vlb_o0 h r q cs u48) rfl 9 (Nat.le_of_ble_eq_true rfl) (List.mem_of_getElem? (i := 6) rfl) rfl rfl rfl rfl (Nat.le_of_ble_eq_true rfl) (Vlb_sI0_9 h r q cs u48 u58 y57 eu58) dX3_become_58 (fun H locs hI => ?_)
      exact b61 t0 u58 hw H locs ls hI (lv_sub hl [2, 1] rfl)
  unfold wp_X3_become at hw
  obtain ⟨H, hH⟩ : ∃ z : Heap, z = s.heap := ⟨_, rfl⟩
  obtain ⟨locs, hL⟩ : ∃ z : List Loc, z = [] := ⟨_, rfl⟩
  rw [show W p l e ({ frames := 86, cells := 0, slots := 0, locals := 2206 } : Room) s m args below meth c s.heap [] 0 0 Z (F0 m 0 ls []) = W p l e ({ frames := 86, cells := 0, slots := 0, locals := 2206 } : Room) s m args below meth c H locs 0 0 Z (F0 m 0 ls []) by rw [hH, hL]]
  replace hI : mI D (mT cs) A s.heap s (Vlb h r q cs u) H locs := by rw [hH, hL]; exact hI
  refine lv_aload_n S.1 S.2.1 dX3_become_0 rfl (lv_at hl 0 rfl) ?_
  refine m_vi (cf := fun v => Vlb h r q cs (mu u 0 v)) (As := []) (rest := []) S (Vlb_c0 h r q cs u) hI (by rw [mu_self]) (c_X3_readText l D (h 0) (lr (r 0) (gI (u 1) 0)) cs (u 0) _ hw) (cwV 0 S.2.2.2.2 gX3_become_X3_readText rfl rfl rfl (by decide +kernel) ⟨Nat.le_of_ble_eq_true rfl, Nat.le_of_ble_eq_true rfl⟩) rfl rfl rfl hl.1 rfl (Nat.le_of_ble_eq_true rfl) dX3_become_1 ⟨Nat.zero_le _, Nat.zero_le _⟩ (fun y1 v1 H locs hw hI => ?_)
  obtain ⟨u1, eu1⟩ : ∃ z : CS, z = mu u 0 v1 := ⟨_, rfl⟩
  have hw := hw u1 eu1
  replace hI : mI D (mT cs) A s.heap s (Vlb h r q cs u1) H locs := by rw [eu1]; exact hI
  refine lv_istore_n (lv' := [(1, .int y1), (0, .ref (h 0))]) S.1 S.2.1 dX3_become_4 rfl hl (by decide) rfl (fun ls hl => ?_)
  refine lv_iload_n S.1 S.2.1 dX3_become_5 rfl (lv_at hl 0 rfl) ?_
  refine lv_if_eq (tgt := 13) S.1 S.2.1 dX3_become_6 (by decide) (fun c6 => ?_) (fun c6 => ?_)
  · have hw := hw.1 c6
    refine lv_bipush (v := (-100)) S.1 S.2.1 dX3_become_13 (by decide) ?_
    refine lv_aload_n S.1 S.2.1 dX3_become_15 rfl (lv_at hl 1 rfl) ?_
    refine m_get S hin3 hI 0 (Vlb_o0 h r q cs u1) rfl 7 (Nat.le_of_ble_eq_true rfl) (List.mem_of_getElem? (i := 1) rfl) rfl (Ff3_at7 _ _) dX3_become_16 ?_
    refine lv_isub S.1 S.2.1 dX3_become_19 ?_
    refine lv_topi (fun y19 ey19 => ?_)
    have hw := hw y19 ey19
    exact b20 y1 y19 u1 hw H locs ls hI (lv_sub hl [1, 0] rfl)
  · have hw := hw.2 c6
    refine lv_iconst (v := 1) S.1 S.2.1 dX3_become_9 (by decide) ?_
    refine lv_goto (tgt := 20) S.1 S.2.1 dX3_become_10 (by decide) ?_
    exact b20 y1 (1 : Int32) u1 hw H locs ls hI (lv_sub hl [1, 0] rfl)

def cTT (h : Nat → Nat) (r : Nat → Nat → Nat) (q : Nat → Nat → Nat → Nat) (cs : Nat → ClassId) (U : CS) : Nat → va_W
  | 0 => WO11 (fun i => h (0 + i)) (r 0) cs (U 0)
  | 1 => W8 (h 1) (r 1) cs (U 1)
  | 2 => W3 (h 2) (rE r (gI (U 24) 0) 2) cs (U 2)
  | 3 => W2 (h 3) (r 3) (q 3) cs (U 3)
  | 4 => W2 (h 4) (r 4) (q 4) cs (U 4)
  | 5 => W2 (h 5) (r 5) (q 5) cs (U 5)
  | 6 => W4 (h 6) (r 6) (q 6) cs (U 6)
  | 7 => W9 (h 7) (r 7) (q 7) cs (U 7)
  | 8 => W5 (h 8) (r 8) (q 8) cs (U 8)
  | 9 => W7 (h 9) (r 9) cs (U 9)
  | 10 => WO10 (fun i => h (10 + i)) (r 10) cs (U 10)
  | 11 => W7 (h 11) (r 11) cs (U 11)
  | 12 => W7 (h 12) (r 12) cs (U 12)
  | 13 => WO1 (fun i => h (13 + i)) (r 13) cs (U 13)
  | 14 => W7 (h 14) (r 14) cs (U 14)
  | 15 => WO1 (fun i => h (15 + i)) (r 15) cs (U 15)
  | 16 => W7 (h 16) (r 16) cs (U 16)
  | 17 => W0 (h 17) (r 17) cs (U 17)
  | 18 => W6 (h 18) (r 18) cs (U 18)
  | 19 => W6 (h 19) (r 19) cs (U 19)
  | 20 => W6 (h 20) (r 20) cs (U 20)
  | 21 => W6 (h 21) (r 21) cs (U 21)
  | 22 => W6 (h 22) (r 22) cs (U 22)
  | 23 => W6 (h 23) (r 23) cs (U 23)
  | 24 => []
  | _ => []
def VT (h : Nat → Nat) (r : Nat → Nat → Nat) (q : Nat → Nat → Nat → Nat) (cs : Nat → ClassId) (U : CS) : va_W := [0, 1, 2, 3, 4, 5, 6, 7, 8, 9, 10, 11, 12, 13, 14, 15, 16, 17, 18, 19, 20, 21, 22, 23, 24].flatMap (cTT h r q cs U)

theorem VT_c3 (h : Nat → Nat) (r : Nat → Nat → Nat) (q : Nat → Nat → Nat → Nat) (cs : Nat → ClassId) (U : CS) : ∀ v : ST, (VT h r q cs (mu U 3 v)).Perm ([] ++ (W2 (h 3) (r 3) (q 3) cs v ++ [0, 1, 2, 4, 5, 6, 7, 8, 9, 10, 11, 12, 13, 14, 15, 16, 17, 18, 19, 20, 21, 22, 23, 24].flatMap (cTT h r q cs U))) := fun v => (front_perm (cTT h r q cs (mu U 3 v)) (l := [0, 1, 2, 3, 4, 5, 6, 7, 8, 9, 10, 11, 12, 13, 14, 15, 16, 17, 18, 19, 20, 21, 22, 23, 24]) (ks := [3]) (rest := [0, 1, 2, 4, 5, 6, 7, 8, 9, 10, 11, 12, 13, 14, 15, 16, 17, 18, 19, 20, 21, 22, 23, 24]) (by decide)).trans (List.Perm.of_eq (by rw [show [3].flatMap (cTT h r q cs (mu U 3 v)) = W2 (h 3) (r 3) (q 3) cs v from List.append_nil _]; rfl))
def wp_X11_laddered_3_p43 (u : CS) (Q : Int32 → CS → Prop) : Prop :=
  Q ((-1) : Int32) u
def wp_X11_laddered_3_p73 (u : CS) (Q : Int32 → CS → Prop) : Prop :=
  Q ((-2) : Int32) u
def wp_X11_laddered_3_p93 (t0 : Int32) (u : CS) (Q : Int32 → CS → Prop) : Prop :=
  Q t0 u
def wp_X11_laddered_3_p76 (x3 : Int32) (x4 : Int32) (x5 : Int32) (x6 : Int32) (u : CS) (Q : Int32 → CS → Prop) : Prop :=
  ((¬ x3 = 0 → (wp_X2_first x5 x4 (u 3) (fun y90 v90 => ∀ u90 : CS, u90 = mu u 3 v90 → wp_X11_laddered_3_p93 y90 u90 Q))) ∧ (x3 = 0 → wp_X11_laddered_3_p93 x6 u Q))
def wp_X11_laddered_3 (a2 : Int32) (a3 : Int32) (u : CS) (Q : Int32 → CS → Prop) : Prop :=
  (¬ (10 : Int32) = 0 ∧ ∀ y3 : Int32, y3 = a2 / (10 : Int32) → (¬ (10 : Int32) = 0 ∧ ∀ y9 : Int32, y9 = a2 - a2 / (10 : Int32) * (10 : Int32) → ((a2 < 0 → wp_X11_laddered_3_p43 u Q) ∧ (¬ a2 < 0 → (wp_X11_within y3 (1 : Int32) (61 : Int32) (fun y21 => ((y21 = 0 → wp_X11_laddered_3_p43 u Q) ∧ (¬ y21 = 0 → (((6 : Int32) < y9 → wp_X11_laddered_3_p43 u Q) ∧ (¬ (6 : Int32) < y9 → (wp_X11_within a3 (0 : Int32) (1 : Int32) (fun y37 => ((¬ y37 = 0 → (wp_X2_cost y9 y3 (u 3) (fun y50 v50 => ∀ u50 : CS, u50 = mu u 3 v50 → (((268435456 : Int32) ≤ y50 → wp_X11_laddered_3_p73 u50 Q) ∧ (¬ (268435456 : Int32) ≤ y50 → ((¬ a3 = (1 : Int32) → wp_X11_laddered_3_p76 a3 y3 y9 y50 u50 Q) ∧ (a3 = (1 : Int32) → ((¬ y3 = (1 : Int32) → wp_X11_laddered_3_p76 a3 y3 y9 y50 u50 Q) ∧ (y3 = (1 : Int32) → wp_X11_laddered_3_p73 u50 Q))))))))) ∧ (y37 = 0 → wp_X11_laddered_3_p43 u Q))))))))))))))
set_option maxHeartbeats 4000000 in
set_option maxRecDepth 100000 in
theorem c_X11_laddered_3 (l : Launch) (D : va_G) (h : Nat → Nat) (r : Nat → Nat → Nat) (q : Nat → Nat → Nat → Nat) (cs : Nat → ClassId) (a2 : Int32) (a3 : Int32) (u : CS) (Q : Int32 → CS → Prop) (hw : wp_X11_laddered_3 a2 a3 u Q) : mCi l yX11_laddered wsX11_laddered ({ frames := 2, cells := 0, slots := 0, locals := 43 } : Room) 0 0 D (mT cs) (VT h r q cs) [.ref (h 0), .ref (h 3), .int a2, .int a3] u Q := by
  unfold mCi
  refine m_enter (QQ := fun A => va_Qi Q (mPos D (mT cs) A (VT h r q cs)) A) (cc := cX11_laddered) (maxL := 7) (ret := (some .int)) (by decide) rfl (Nat.le_of_ble_eq_true rfl) ?_
  intro p e s m args below meth c A ls S hr hlocks hname hl hI
  have S : CallFix p m c cX11_laddered 7 s args wsX11_laddered RX11 := S
  show W p l e ({ frames := 2, cells := 0, slots := 0, locals := 43 } : Room) s m args below meth c s.heap [] 0 0 (MQ below (va_Qi Q (mPos D (mT cs) A (VT h r q cs)) A) args s 0 0 A) (F0 m 0 ls [])
  generalize hZ : MQ below (va_Qi Q (mPos D (mT cs) A (VT h r q cs)) A) args s 0 0 A = Z
  have hin2 : ∀ w ∈ wsX20, w ∈ wsX11_laddered := fun _ h => List.mem_cons_of_mem _ (List.mem_append_right _ h)
  have hl : lv_has ls 7 [(0, .ref (h 0)), (1, .ref (h 3)), (2, .int a2), (3, .int a3)] := hl
  have b43 : ∀ (u : CS), wp_X11_laddered_3_p43 u Q → mGo p l e ({ frames := 2, cells := 0, slots := 0, locals := 43 } : Room) s m args below meth c A Z 7 D (mT cs) (VT h r q cs) 43 [(0, .ref (h 0))] [] u := by
    intro u hw H locs ls hI hl
    unfold wp_X11_laddered_3_p43 at hw
    refine lv_iconst (v := (-1)) S.1 S.2.1 dX11_laddered_43 (by decide) ?_
    subst hZ
    exact m_iret S hr hlocks hI hw dX11_laddered_44
  have b73 : ∀ (u : CS), wp_X11_laddered_3_p73 u Q → mGo p l e ({ frames := 2, cells := 0, slots := 0, locals := 43 } : Room) s m args below meth c A Z 7 D (mT cs) (VT h r q cs) 73 [(0, .ref (h 0))] [] u := by
    intro u hw H locs ls hI hl
    unfold wp_X11_laddered_3_p73 at hw
    refine lv_bipush (v := (-2)) S.1 S.2.1 dX11_laddered_73 (by decide) ?_
    subst hZ
    exact m_iret S hr hlocks hI hw dX11_laddered_75
  have b93 : ∀ (t0 : Int32) (u : CS), wp_X11_laddered_3_p93 t0 u Q → mGo p l e ({ frames := 2, cells := 0, slots := 0, locals := 43 } : Room) s m args below meth c A Z 7 D (mT cs) (VT h r q cs) 93 [(0, .ref (h 0))] [.int t0] u := by
    intro t0 u hw H locs ls hI hl
    unfold wp_X11_laddered_3_p93 at hw
    subst hZ
    exact m_iret S hr hlocks hI hw dX11_laddered_93
  have b76 : ∀ (x3 : Int32) (x4 : Int32) (x5 : Int32) (x6 : Int32) (u : CS), wp_X11_laddered_3_p76 x3 x4 x5 x6 u Q → mGo p l e ({ frames := 2, cells := 0, slots := 0, locals := 43 } : Room) s m args below meth c A Z 7 D (mT cs) (VT h r q cs) 76 [(0, .ref (h 0)), (1, .ref (h 3)), (3, .int x3), (4, .int x4), (5, .int x5), (6, .int x6)] [] u := by
    intro x3 x4 x5 x6 u hw H locs ls hI hl
    unfold wp_X11_laddered_3_p76 at hw
    refine lv_iload_n S.1 S.2.1 dX11_laddered_76 rfl (lv_at hl 2 rfl) ?_
    refine lv_if_ne (tgt := 85) S.1 S.2.1 dX11_laddered_77 (by decide) (fun c77 => ?_) (fun c77 => ?_)
    · have hw := hw.1 c77
      refine lv_aload_n S.1 S.2.1 dX11_laddered_85 rfl (lv_at hl 1 rfl) ?_
      refine lv_iload S.1 S.2.1 dX11_laddered_86 (lv_at hl 4 rfl) ?_
      refine lv_iload S.1 S.2.1 dX11_laddered_88 (lv_at hl 3 rfl) ?_
      refine m_vi (cf := fun v => VT h r q cs (mu u 3 v)) (As := [.int x5, .int x4]) (rest := []) S (VT_c3 h r q cs u) hI (by rw [mu_self]) (c_X2_first l D (h 3) (r 3) (q 3) cs x5 x4 (u 3) _ hw) (cwV 2 S.2.2.2.2 gX11_laddered_X2_first rfl rfl rfl (by decide +kernel) ⟨Nat.le_of_ble_eq_true rfl, Nat.le_of_ble_eq_true rfl⟩) rfl rfl rfl hl.1 rfl (Nat.le_of_ble_eq_true rfl) dX11_laddered_90 ⟨Nat.zero_le _, Nat.zero_le _⟩ (fun y90 v90 H locs hw hI => ?_)
      obtain ⟨u90, eu90⟩ : ∃ z : CS, z = mu u 3 v90 := ⟨_, rfl⟩
      have hw := hw u90 eu90
      replace hI : mI D (mT cs) A s.heap s (VT h r q cs u90) H locs := by rw [eu90]; exact hI
      exact b93 y90 u90 hw H locs ls hI (lv_sub hl [0] rfl)
    · have hw := hw.2 c77
      refine lv_iload S.1 S.2.1 dX11_laddered_80 (lv_at hl 5 rfl) ?_
      refine lv_goto (tgt := 93) S.1 S.2.1 dX11_laddered_82 (by decide) ?_
      exact b93 x6 u hw H locs ls hI (lv_sub hl [0] rfl)
  unfold wp_X11_laddered_3 at hw
  obtain ⟨H, hH⟩ : ∃ z : Heap, z = s.heap := ⟨_, rfl⟩
  obtain ⟨locs, hL⟩ : ∃ z : List Loc, z = [] := ⟨_, rfl⟩
  rw [show W p l e ({ frames := 2, cells := 0, slots := 0, locals := 43 } : Room) s m args below meth c s.heap [] 0 0 Z (F0 m 0 ls []) = W p l e ({ frames := 2, cells := 0, slots := 0, locals := 43 } : Room) s m args below meth c H locs 0 0 Z (F0 m 0 ls []) by rw [hH, hL]]
  replace hI : mI D (mT cs) A s.heap s (VT h r q cs u) H locs := by rw [hH, hL]; exact hI
  refine lv_iload_n S.1 S.2.1 dX11_laddered_0 rfl (lv_at hl 2 rfl) ?_
  refine lv_bipush (v := 10) S.1 S.2.1 dX11_laddered_1 (by decide) ?_
  refine lv_idiv S.1 S.2.1 dX11_laddered_3 hw.1 ?_
  have hw := hw.2
  refine lv_topi (fun y3 ey3 => ?_)
  have hw := hw y3 ey3
  refine lv_istore (lv' := [(4, .int y3), (0, .ref (h 0)), (1, .ref (h 3)), (2, .int a2), (3, .int a3)]) S.1 S.2.1 dX11_laddered_4 hl (by decide) rfl (fun ls hl => ?_)
  refine lv_iload_n S.1 S.2.1 dX11_laddered_6 rfl (lv_at hl 3 rfl) ?_
  refine lv_bipush (v := 10) S.1 S.2.1 dX11_laddered_7 (by decide) ?_
  refine lv_irem S.1 S.2.1 dX11_laddered_9 hw.1 ?_
  have hw := hw.2
  refine lv_topi (fun y9 ey9 => ?_)
  have hw := hw y9 ey9
  refine lv_istore (lv' := [(5, .int y9), (4, .int y3), (0, .ref (h 0)), (1, .ref (h 3)), (2, .int a2), (3, .int a3)]) S.1 S.2.1 dX11_laddered_10 hl (by decide) rfl (fun ls hl => ?_)
  refine lv_iload_n S.1 S.2.1 dX11_laddered_12 rfl (lv_at hl 4 rfl) ?_
  refine lv_if_lt (tgt := 43) S.1 S.2.1 dX11_laddered_13 (by decide) (fun c13 => ?_) (fun c13 => ?_)
  · have hw := hw.1 c13
    exact b43 u hw H locs ls hI (lv_sub hl [2] rfl)
  · have hw := hw.2 c13
    refine lv_iload S.1 S.2.1 dX11_laddered_16 (lv_at hl 1 rfl) ?_
    refine lv_iconst (v := 1) S.1 S.2.1 dX11_laddered_18 (by decide) ?_
    refine lv_bipush (v := 61) S.1 S.2.1 dX11_laddered_19 (by decide) ?_
    refine m_si (As := [.int y3, .int (1 : Int32), .int (61 : Int32)]) (rest := []) S hI.2.2.2.1.2.1 (c_X11_within l y3 (1 : Int32) (61 : Int32) _ hw) (va_cwS 3 S.2.2.2.2 gX11_laddered_X11_within rfl rfl rfl (by decide +kernel) ⟨Nat.le_of_ble_eq_true rfl, Nat.le_of_ble_eq_true rfl⟩) rfl hl.1 rfl (Nat.le_of_ble_eq_true rfl) dX11_laddered_21 ⟨Nat.zero_le _, Nat.zero_le _⟩ (fun y21 hw => ?_)
    refine lv_if_eq (tgt := 43) S.1 S.2.1 dX11_laddered_24 (by decide) (fun c24 => ?_) (fun c24 => ?_)
    · have hw := hw.1 c24
      exact b43 u hw H locs ls hI (lv_sub hl [2] rfl)
    · have hw := hw.2 c24
      refine lv_iload S.1 S.2.1 dX11_laddered_27 (lv_at hl 0 rfl) ?_
      refine lv_bipush (v := 6) S.1 S.2.1 dX11_laddered_29 (by decide) ?_
      refine lv_icmp_gt (tgt := 43) S.1 S.2.1 dX11_laddered_31 (by decide) (fun c31 => ?_) (fun c31 => ?_)
      · have hw := hw.1 c31
        exact b43 u hw H locs ls hI (lv_sub hl [2] rfl)
      · have hw := hw.2 c31
        refine lv_iload_n S.1 S.2.1 dX11_laddered_34 rfl (lv_at hl 5 rfl) ?_
        refine lv_iconst (v := 0) S.1 S.2.1 dX11_laddered_35 (by decide) ?_
        refine lv_iconst (v := 1) S.1 S.2.1 dX11_laddered_36 (by decide) ?_
        refine m_si (As := [.int a3, .int (0 : Int32), .int (1 : Int32)]) (rest := []) S hI.2.2.2.1.2.1 (c_X11_within l a3 (0 : Int32) (1 : Int32) _ hw) (va_cwS 3 S.2.2.2.2 gX11_laddered_X11_within rfl rfl rfl (by decide +kernel) ⟨Nat.le_of_ble_eq_true rfl, Nat.le_of_ble_eq_true rfl⟩) rfl hl.1 rfl (Nat.le_of_ble_eq_true rfl) dX11_laddered_37 ⟨Nat.zero_le _, Nat.zero_le _⟩ (fun y37 hw => ?_)
        refine lv_if_ne (tgt := 45) S.1 S.2.1 dX11_laddered_40 (by decide) (fun c40 => ?_) (fun c40 => ?_)
        · have hw := hw.1 c40
          refine lv_aload_n S.1 S.2.1 dX11_laddered_45 rfl (lv_at hl 3 rfl) ?_
          refine lv_iload S.1 S.2.1 dX11_laddered_46 (lv_at hl 0 rfl) ?_
          refine lv_iload S.1 S.2.1 dX11_laddered_48 (lv_at hl 1 rfl) ?_
          refine m_vi (cf := fun v => VT h r q cs (mu u 3 v)) (As := [.int y9, .int y3]) (rest := []) S (VT_c3 h r q cs u) hI (by rw [mu_self]) (c_X2_cost l D (h 3) (r 3) (q 3) cs y9 y3 (u 3) _ hw) (cwV 2 S.2.2.2.2 gX11_laddered_X2_cost rfl rfl rfl (by decide +kernel) ⟨Nat.le_of_ble_eq_true rfl, Nat.le_of_ble_eq_true rfl⟩) rfl rfl rfl hl.1 rfl (Nat.le_of_ble_eq_true rfl) dX11_laddered_50 ⟨Nat.zero_le _, Nat.zero_le _⟩ (fun y50 v50 H locs hw hI => ?_)
          obtain ⟨u50, eu50⟩ : ∃ z : CS, z = mu u 3 v50 := ⟨_, rfl⟩
          have hw := hw u50 eu50
          replace hI : mI D (mT cs) A s.heap s (VT h r q cs u50) H locs := by rw [eu50]; exact hI
          refine lv_istore (lv' := [(6, .int y50), (5, .int y9), (4, .int y3), (0, .ref (h 0)), (1, .ref (h 3)), (2, .int a2), (3, .int a3)]) S.1 S.2.1 dX11_laddered_53 hl (by decide) rfl (fun ls hl => ?_)
          refine lv_iload S.1 S.2.1 dX11_laddered_55 (lv_at hl 0 rfl) ?_
          refine lv_ldc S.1 S.2.1 S.2.2.2.1 (S.2.2.2.2 _ (List.mem_of_getElem? (i := 1) rfl)) dX11_laddered_57 ?_
          refine lv_icmp_ge (tgt := 73) S.1 S.2.1 dX11_laddered_59 (by decide) (fun c59 => ?_) (fun c59 => ?_)
          · have hw := hw.1 c59
            exact b73 u50 hw H locs ls hI (lv_sub hl [3] rfl)
          · have hw := hw.2 c59
            refine lv_iload_n S.1 S.2.1 dX11_laddered_62 rfl (lv_at hl 6 rfl) ?_
            refine lv_iconst (v := 1) S.1 S.2.1 dX11_laddered_63 (by decide) ?_
            refine lv_icmp_ne (tgt := 76) S.1 S.2.1 dX11_laddered_64 (by decide) (fun c64 => ?_) (fun c64 => ?_)
            · have hw := hw.1 c64
              exact b76 a3 y3 y9 y50 u50 hw H locs ls hI (lv_sub hl [3, 4, 6, 2, 1, 0] rfl)
            · have hw := hw.2 c64
              refine lv_iload S.1 S.2.1 dX11_laddered_67 (lv_at hl 2 rfl) ?_
              refine lv_iconst (v := 1) S.1 S.2.1 dX11_laddered_69 (by decide) ?_
              refine lv_icmp_ne (tgt := 76) S.1 S.2.1 dX11_laddered_70 (by decide) (fun c70 => ?_) (fun c70 => ?_)
              · have hw := hw.1 c70
                exact b76 a3 y3 y9 y50 u50 hw H locs ls hI (lv_sub hl [3, 4, 6, 2, 1, 0] rfl)
              · have hw := hw.2 c70
                exact b73 u50 hw H locs ls hI (lv_sub hl [3] rfl)
        · have hw := hw.2 c40
          exact b43 u hw H locs ls hI (lv_sub hl [2] rfl)

theorem VT_c4 (h : Nat → Nat) (r : Nat → Nat → Nat) (q : Nat → Nat → Nat → Nat) (cs : Nat → ClassId) (U : CS) : ∀ v : ST, (VT h r q cs (mu U 4 v)).Perm ([] ++ (W2 (h 4) (r 4) (q 4) cs v ++ [0, 1, 2, 3, 5, 6, 7, 8, 9, 10, 11, 12, 13, 14, 15, 16, 17, 18, 19, 20, 21, 22, 23, 24].flatMap (cTT h r q cs U))) := fun v => (front_perm (cTT h r q cs (mu U 4 v)) (l := [0, 1, 2, 3, 4, 5, 6, 7, 8, 9, 10, 11, 12, 13, 14, 15, 16, 17, 18, 19, 20, 21, 22, 23, 24]) (ks := [4]) (rest := [0, 1, 2, 3, 5, 6, 7, 8, 9, 10, 11, 12, 13, 14, 15, 16, 17, 18, 19, 20, 21, 22, 23, 24]) (by decide)).trans (List.Perm.of_eq (by rw [show [4].flatMap (cTT h r q cs (mu U 4 v)) = W2 (h 4) (r 4) (q 4) cs v from List.append_nil _]; rfl))
def wp_X11_laddered_4_p43 (u : CS) (Q : Int32 → CS → Prop) : Prop :=
  Q ((-1) : Int32) u
def wp_X11_laddered_4_p73 (u : CS) (Q : Int32 → CS → Prop) : Prop :=
  Q ((-2) : Int32) u
def wp_X11_laddered_4_p93 (t0 : Int32) (u : CS) (Q : Int32 → CS → Prop) : Prop :=
  Q t0 u
def wp_X11_laddered_4_p76 (x3 : Int32) (x4 : Int32) (x5 : Int32) (x6 : Int32) (u : CS) (Q : Int32 → CS → Prop) : Prop :=
  ((¬ x3 = 0 → (wp_X2_first x5 x4 (u 4) (fun y90 v90 => ∀ u90 : CS, u90 = mu u 4 v90 → wp_X11_laddered_4_p93 y90 u90 Q))) ∧ (x3 = 0 → wp_X11_laddered_4_p93 x6 u Q))
def wp_X11_laddered_4 (a2 : Int32) (a3 : Int32) (u : CS) (Q : Int32 → CS → Prop) : Prop :=
  (¬ (10 : Int32) = 0 ∧ ∀ y3 : Int32, y3 = a2 / (10 : Int32) → (¬ (10 : Int32) = 0 ∧ ∀ y9 : Int32, y9 = a2 - a2 / (10 : Int32) * (10 : Int32) → ((a2 < 0 → wp_X11_laddered_4_p43 u Q) ∧ (¬ a2 < 0 → (wp_X11_within y3 (1 : Int32) (61 : Int32) (fun y21 => ((y21 = 0 → wp_X11_laddered_4_p43 u Q) ∧ (¬ y21 = 0 → (((6 : Int32) < y9 → wp_X11_laddered_4_p43 u Q) ∧ (¬ (6 : Int32) < y9 → (wp_X11_within a3 (0 : Int32) (1 : Int32) (fun y37 => ((¬ y37 = 0 → (wp_X2_cost y9 y3 (u 4) (fun y50 v50 => ∀ u50 : CS, u50 = mu u 4 v50 → (((268435456 : Int32) ≤ y50 → wp_X11_laddered_4_p73 u50 Q) ∧ (¬ (268435456 : Int32) ≤ y50 → ((¬ a3 = (1 : Int32) → wp_X11_laddered_4_p76 a3 y3 y9 y50 u50 Q) ∧ (a3 = (1 : Int32) → ((¬ y3 = (1 : Int32) → wp_X11_laddered_4_p76 a3 y3 y9 y50 u50 Q) ∧ (y3 = (1 : Int32) → wp_X11_laddered_4_p73 u50 Q))))))))) ∧ (y37 = 0 → wp_X11_laddered_4_p43 u Q))))))))))))))
set_option maxHeartbeats 4000000 in
set_option maxRecDepth 100000 in
theorem c_X11_laddered_4 (l : Launch) (D : va_G) (h : Nat → Nat) (r : Nat → Nat → Nat) (q : Nat → Nat → Nat → Nat) (cs : Nat → ClassId) (a2 : Int32) (a3 : Int32) (u : CS) (Q : Int32 → CS → Prop) (hw : wp_X11_laddered_4 a2 a3 u Q) : mCi l yX11_laddered wsX11_laddered ({ frames := 2, cells := 0, slots := 0, locals := 43 } : Room) 0 0 D (mT cs) (VT h r q cs) [.ref (h 0), .ref (h 4), .int a2, .int a3] u Q := by
  unfold mCi
  refine m_enter (QQ := fun A => va_Qi Q (mPos D (mT cs) A (VT h r q cs)) A) (cc := cX11_laddered) (maxL := 7) (ret := (some .int)) (by decide) rfl (Nat.le_of_ble_eq_true rfl) ?_
  intro p e s m args below meth c A ls S hr hlocks hname hl hI
  have S : CallFix p m c cX11_laddered 7 s args wsX11_laddered RX11 := S
  show W p l e ({ frames := 2, cells := 0, slots := 0, locals := 43 } : Room) s m args below meth c s.heap [] 0 0 (MQ below (va_Qi Q (mPos D (mT cs) A (VT h r q cs)) A) args s 0 0 A) (F0 m 0 ls [])
  generalize hZ : MQ below (va_Qi Q (mPos D (mT cs) A (VT h r q cs)) A) args s 0 0 A = Z
  have hin2 : ∀ w ∈ wsX20, w ∈ wsX11_laddered := fun _ h => List.mem_cons_of_mem _ (List.mem_append_right _ h)
  have hl : lv_has ls 7 [(0, .ref (h 0)), (1, .ref (h 4)), (2, .int a2), (3, .int a3)] := hl
  have b43 : ∀ (u : CS), wp_X11_laddered_4_p43 u Q → mGo p l e ({ frames := 2, cells := 0, slots := 0, locals := 43 } : Room) s m args below meth c A Z 7 D (mT cs) (VT h r q cs) 43 [(0, .ref (h 0))] [] u := by
    intro u hw H locs ls hI hl
    unfold wp_X11_laddered_4_p43 at hw
    refine lv_iconst (v := (-1)) S.1 S.2.1 dX11_laddered_43 (by decide) ?_
    subst hZ
    exact m_iret S hr hlocks hI hw dX11_laddered_44
  have b73 : ∀ (u : CS), wp_X11_laddered_4_p73 u Q → mGo p l e ({ frames := 2, cells := 0, slots := 0, locals := 43 } : Room) s m args below meth c A Z 7 D (mT cs) (VT h r q cs) 73 [(0, .ref (h 0))] [] u := by
    intro u hw H locs ls hI hl
    unfold wp_X11_laddered_4_p73 at hw
    refine lv_bipush (v := (-2)) S.1 S.2.1 dX11_laddered_73 (by decide) ?_
    subst hZ
    exact m_iret S hr hlocks hI hw dX11_laddered_75
  have b93 : ∀ (t0 : Int32) (u : CS), wp_X11_laddered_4_p93 t0 u Q → mGo p l e ({ frames := 2, cells := 0, slots := 0, locals := 43 } : Room) s m args below meth c A Z 7 D (mT cs) (VT h r q cs) 93 [(0, .ref (h 0))] [.int t0] u := by
    intro t0 u hw H locs ls hI hl
    unfold wp_X11_laddered_4_p93 at hw
    subst hZ
    exact m_iret S hr hlocks hI hw dX11_laddered_93
  have b76 : ∀ (x3 : Int32) (x4 : Int32) (x5 : Int32) (x6 : Int32) (u : CS), wp_X11_laddered_4_p76 x3 x4 x5 x6 u Q → mGo p l e ({ frames := 2, cells := 0, slots := 0, locals := 43 } : Room) s m args below meth c A Z 7 D (mT cs) (VT h r q cs) 76 [(0, .ref (h 0)), (1, .ref (h 4)), (3, .int x3), (4, .int x4), (5, .int x5), (6, .int x6)] [] u := by
    intro x3 x4 x5 x6 u hw H locs ls hI hl
    unfold wp_X11_laddered_4_p76 at hw
    refine lv_iload_n S.1 S.2.1 dX11_laddered_76 rfl (lv_at hl 2 rfl) ?_
    refine lv_if_ne (tgt := 85) S.1 S.2.1 dX11_laddered_77 (by decide) (fun c77 => ?_) (fun c77 => ?_)
    · have hw := hw.1 c77
      refine lv_aload_n S.1 S.2.1 dX11_laddered_85 rfl (lv_at hl 1 rfl) ?_
      refine lv_iload S.1 S.2.1 dX11_laddered_86 (lv_at hl 4 rfl) ?_
      refine lv_iload S.1 S.2.1 dX11_laddered_88 (lv_at hl 3 rfl) ?_
      refine m_vi (cf := fun v => VT h r q cs (mu u 4 v)) (As := [.int x5, .int x4]) (rest := []) S (VT_c4 h r q cs u) hI (by rw [mu_self]) (c_X2_first l D (h 4) (r 4) (q 4) cs x5 x4 (u 4) _ hw) (cwV 2 S.2.2.2.2 gX11_laddered_X2_first rfl rfl rfl (by decide +kernel) ⟨Nat.le_of_ble_eq_true rfl, Nat.le_of_ble_eq_true rfl⟩) rfl rfl rfl hl.1 rfl (Nat.le_of_ble_eq_true rfl) dX11_laddered_90 ⟨Nat.zero_le _, Nat.zero_le _⟩ (fun y90 v90 H locs hw hI => ?_)
      obtain ⟨u90, eu90⟩ : ∃ z : CS, z = mu u 4 v90 := ⟨_, rfl⟩
      have hw := hw u90 eu90
      replace hI : mI D (mT cs) A s.heap s (VT h r q cs u90) H locs := by rw [eu90]; exact hI
      exact b93 y90 u90 hw H locs ls hI (lv_sub hl [0] rfl)
    · have hw := hw.2 c77
      refine lv_iload S.1 S.2.1 dX11_laddered_80 (lv_at hl 5 rfl) ?_
      refine lv_goto (tgt := 93) S.1 S.2.1 dX11_laddered_82 (by decide) ?_
      exact b93 x6 u hw H locs ls hI (lv_sub hl [0] rfl)
  unfold wp_X11_laddered_4 at hw
  obtain ⟨H, hH⟩ : ∃ z : Heap, z = s.heap := ⟨_, rfl⟩
  obtain ⟨locs, hL⟩ : ∃ z : List Loc, z = [] := ⟨_, rfl⟩
  rw [show W p l e ({ frames := 2, cells := 0, slots := 0, locals := 43 } : Room) s m args below meth c s.heap [] 0 0 Z (F0 m 0 ls []) = W p l e ({ frames := 2, cells := 0, slots := 0, locals := 43 } : Room) s m args below meth c H locs 0 0 Z (F0 m 0 ls []) by rw [hH, hL]]
  replace hI : mI D (mT cs) A s.heap s (VT h r q cs u) H locs := by rw [hH, hL]; exact hI
  refine lv_iload_n S.1 S.2.1 dX11_laddered_0 rfl (lv_at hl 2 rfl) ?_
  refine lv_bipush (v := 10) S.1 S.2.1 dX11_laddered_1 (by decide) ?_
  refine lv_idiv S.1 S.2.1 dX11_laddered_3 hw.1 ?_
  have hw := hw.2
  refine lv_topi (fun y3 ey3 => ?_)
  have hw := hw y3 ey3
  refine lv_istore (lv' := [(4, .int y3), (0, .ref (h 0)), (1, .ref (h 4)), (2, .int a2), (3, .int a3)]) S.1 S.2.1 dX11_laddered_4 hl (by decide) rfl (fun ls hl => ?_)
  refine lv_iload_n S.1 S.2.1 dX11_laddered_6 rfl (lv_at hl 3 rfl) ?_
  refine lv_bipush (v := 10) S.1 S.2.1 dX11_laddered_7 (by decide) ?_
  refine lv_irem S.1 S.2.1 dX11_laddered_9 hw.1 ?_
  have hw := hw.2
  refine lv_topi (fun y9 ey9 => ?_)
  have hw := hw y9 ey9
  refine lv_istore (lv' := [(5, .int y9), (4, .int y3), (0, .ref (h 0)), (1, .ref (h 4)), (2, .int a2), (3, .int a3)]) S.1 S.2.1 dX11_laddered_10 hl (by decide) rfl (fun ls hl => ?_)
  refine lv_iload_n S.1 S.2.1 dX11_laddered_12 rfl (lv_at hl 4 rfl) ?_
  refine lv_if_lt (tgt := 43) S.1 S.2.1 dX11_laddered_13 (by decide) (fun c13 => ?_) (fun c13 => ?_)
  · have hw := hw.1 c13
    exact b43 u hw H locs ls hI (lv_sub hl [2] rfl)
  · have hw := hw.2 c13
    refine lv_iload S.1 S.2.1 dX11_laddered_16 (lv_at hl 1 rfl) ?_
    refine lv_iconst (v := 1) S.1 S.2.1 dX11_laddered_18 (by decide) ?_
    refine lv_bipush (v := 61) S.1 S.2.1 dX11_laddered_19 (by decide) ?_
    refine m_si (As := [.int y3, .int (1 : Int32), .int (61 : Int32)]) (rest := []) S hI.2.2.2.1.2.1 (c_X11_within l y3 (1 : Int32) (61 : Int32) _ hw) (va_cwS 3 S.2.2.2.2 gX11_laddered_X11_within rfl rfl rfl (by decide +kernel) ⟨Nat.le_of_ble_eq_true rfl, Nat.le_of_ble_eq_true rfl⟩) rfl hl.1 rfl (Nat.le_of_ble_eq_true rfl) dX11_laddered_21 ⟨Nat.zero_le _, Nat.zero_le _⟩ (fun y21 hw => ?_)
    refine lv_if_eq (tgt := 43) S.1 S.2.1 dX11_laddered_24 (by decide) (fun c24 => ?_) (fun c24 => ?_)
    · have hw := hw.1 c24
      exact b43 u hw H locs ls hI (lv_sub hl [2] rfl)
    · have hw := hw.2 c24
      refine lv_iload S.1 S.2.1 dX11_laddered_27 (lv_at hl 0 rfl) ?_
      refine lv_bipush (v := 6) S.1 S.2.1 dX11_laddered_29 (by decide) ?_
      refine lv_icmp_gt (tgt := 43) S.1 S.2.1 dX11_laddered_31 (by decide) (fun c31 => ?_) (fun c31 => ?_)
      · have hw := hw.1 c31
        exact b43 u hw H locs ls hI (lv_sub hl [2] rfl)
      · have hw := hw.2 c31
        refine lv_iload_n S.1 S.2.1 dX11_laddered_34 rfl (lv_at hl 5 rfl) ?_
        refine lv_iconst (v := 0) S.1 S.2.1 dX11_laddered_35 (by decide) ?_
        refine lv_iconst (v := 1) S.1 S.2.1 dX11_laddered_36 (by decide) ?_
        refine m_si (As := [.int a3, .int (0 : Int32), .int (1 : Int32)]) (rest := []) S hI.2.2.2.1.2.1 (c_X11_within l a3 (0 : Int32) (1 : Int32) _ hw) (va_cwS 3 S.2.2.2.2 gX11_laddered_X11_within rfl rfl rfl (by decide +kernel) ⟨Nat.le_of_ble_eq_true rfl, Nat.le_of_ble_eq_true rfl⟩) rfl hl.1 rfl (Nat.le_of_ble_eq_true rfl) dX11_laddered_37 ⟨Nat.zero_le _, Nat.zero_le _⟩ (fun y37 hw => ?_)
        refine lv_if_ne (tgt := 45) S.1 S.2.1 dX11_laddered_40 (by decide) (fun c40 => ?_) (fun c40 => ?_)
        · have hw := hw.1 c40
          refine lv_aload_n S.1 S.2.1 dX11_laddered_45 rfl (lv_at hl 3 rfl) ?_
          refine lv_iload S.1 S.2.1 dX11_laddered_46 (lv_at hl 0 rfl) ?_
          refine lv_iload S.1 S.2.1 dX11_laddered_48 (lv_at hl 1 rfl) ?_
          refine m_vi (cf := fun v => VT h r q cs (mu u 4 v)) (As := [.int y9, .int y3]) (rest := []) S (VT_c4 h r q cs u) hI (by rw [mu_self]) (c_X2_cost l D (h 4) (r 4) (q 4) cs y9 y3 (u 4) _ hw) (cwV 2 S.2.2.2.2 gX11_laddered_X2_cost rfl rfl rfl (by decide +kernel) ⟨Nat.le_of_ble_eq_true rfl, Nat.le_of_ble_eq_true rfl⟩) rfl rfl rfl hl.1 rfl (Nat.le_of_ble_eq_true rfl) dX11_laddered_50 ⟨Nat.zero_le _, Nat.zero_le _⟩ (fun y50 v50 H locs hw hI => ?_)
          obtain ⟨u50, eu50⟩ : ∃ z : CS, z = mu u 4 v50 := ⟨_, rfl⟩
          have hw := hw u50 eu50
          replace hI : mI D (mT cs) A s.heap s (VT h r q cs u50) H locs := by rw [eu50]; exact hI
          refine lv_istore (lv' := [(6, .int y50), (5, .int y9), (4, .int y3), (0, .ref (h 0)), (1, .ref (h 4)), (2, .int a2), (3, .int a3)]) S.1 S.2.1 dX11_laddered_53 hl (by decide) rfl (fun ls hl => ?_)
          refine lv_iload S.1 S.2.1 dX11_laddered_55 (lv_at hl 0 rfl) ?_
          refine lv_ldc S.1 S.2.1 S.2.2.2.1 (S.2.2.2.2 _ (List.mem_of_getElem? (i := 1) rfl)) dX11_laddered_57 ?_
          refine lv_icmp_ge (tgt := 73) S.1 S.2.1 dX11_laddered_59 (by decide) (fun c59 => ?_) (fun c59 => ?_)
          · have hw := hw.1 c59
            exact b73 u50 hw H locs ls hI (lv_sub hl [3] rfl)
          · have hw := hw.2 c59
            refine lv_iload_n S.1 S.2.1 dX11_laddered_62 rfl (lv_at hl 6 rfl) ?_
            refine lv_iconst (v := 1) S.1 S.2.1 dX11_laddered_63 (by decide) ?_
            refine lv_icmp_ne (tgt := 76) S.1 S.2.1 dX11_laddered_64 (by decide) (fun c64 => ?_) (fun c64 => ?_)
            · have hw := hw.1 c64
              exact b76 a3 y3 y9 y50 u50 hw H locs ls hI (lv_sub hl [3, 4, 6, 2, 1, 0] rfl)
            · have hw := hw.2 c64
              refine lv_iload S.1 S.2.1 dX11_laddered_67 (lv_at hl 2 rfl) ?_
              refine lv_iconst (v := 1) S.1 S.2.1 dX11_laddered_69 (by decide) ?_
              refine lv_icmp_ne (tgt := 76) S.1 S.2.1 dX11_laddered_70 (by decide) (fun c70 => ?_) (fun c70 => ?_)
              · have hw := hw.1 c70
                exact b76 a3 y3 y9 y50 u50 hw H locs ls hI (lv_sub hl [3, 4, 6, 2, 1, 0] rfl)
              · have hw := hw.2 c70
                exact b73 u50 hw H locs ls hI (lv_sub hl [3] rfl)
        · have hw := hw.2 c40
          exact b43 u hw H locs ls hI (lv_sub hl [2] rfl)

theorem VT_o0 (h : Nat → Nat) (r : Nat → Nat → Nat) (q : Nat → Nat → Nat → Nat) (cs : Nat → ClassId) (U : CS) : (VT h r q cs U)[0]? = some (h 0, .inr (11, FO11 (fun i => h (0 + i)) (r 0) (U 0))) := rfl
theorem VT_k_ms_6_9 (h : Nat → Nat) (r : Nat → Nat → Nat) (q : Nat → Nat → Nat → Nat) (cs : Nat → ClassId) (U : CS) : ∀ v : CS, (VT h r q cs (emb U [6, 9] v)).Perm ([] ++ (Vms (fun i => h ([6, 9].getD i 0)) (fun i => rE r (gI (U 24) 0) ([6, 9].getD i 0)) (fun i => q ([6, 9].getD i 0)) cs v ++ [0, 1, 2, 3, 4, 5, 7, 8, 10, 11, 12, 13, 14, 15, 16, 17, 18, 19, 20, 21, 22, 23, 24].flatMap (cTT h r q cs U))) := fun v => (front_perm (cTT h r q cs (emb U [6, 9] v)) (l := [0, 1, 2, 3, 4, 5, 6, 7, 8, 9, 10, 11, 12, 13, 14, 15, 16, 17, 18, 19, 20, 21, 22, 23, 24]) (ks := [6, 9]) (rest := [0, 1, 2, 3, 4, 5, 7, 8, 10, 11, 12, 13, 14, 15, 16, 17, 18, 19, 20, 21, 22, 23, 24]) (by decide)).trans (List.Perm.of_eq rfl)
theorem VT_c5 (h : Nat → Nat) (r : Nat → Nat → Nat) (q : Nat → Nat → Nat → Nat) (cs : Nat → ClassId) (U : CS) : ∀ v : ST, (VT h r q cs (mu U 5 v)).Perm ([] ++ (W2 (h 5) (r 5) (q 5) cs v ++ [0, 1, 2, 3, 4, 6, 7, 8, 9, 10, 11, 12, 13, 14, 15, 16, 17, 18, 19, 20, 21, 22, 23, 24].flatMap (cTT h r q cs U))) := fun v => (front_perm (cTT h r q cs (mu U 5 v)) (l := [0, 1, 2, 3, 4, 5, 6, 7, 8, 9, 10, 11, 12, 13, 14, 15, 16, 17, 18, 19, 20, 21, 22, 23, 24]) (ks := [5]) (rest := [0, 1, 2, 3, 4, 6, 7, 8, 9, 10, 11, 12, 13, 14, 15, 16, 17, 18, 19, 20, 21, 22, 23, 24]) (by decide)).trans (List.Perm.of_eq (by rw [show [5].flatMap (cTT h r q cs (mu U 5 v)) = W2 (h 5) (r 5) (q 5) cs v from List.append_nil _]; rfl))
theorem VT_o9 (h : Nat → Nat) (r : Nat → Nat → Nat) (q : Nat → Nat → Nat → Nat) (cs : Nat → ClassId) (U : CS) : (VT h r q cs U)[109]? = some (h 9, .inr (7, Ff7 (r 9) (U 9))) := rfl
theorem VT_c9 (h : Nat → Nat) (r : Nat → Nat → Nat) (q : Nat → Nat → Nat → Nat) (cs : Nat → ClassId) (U : CS) : ∀ v : ST, (VT h r q cs (mu U 9 v)).Perm ([] ++ (W7 (h 9) (r 9) cs v ++ [0, 1, 2, 3, 4, 5, 6, 7, 8, 10, 11, 12, 13, 14, 15, 16, 17, 18, 19, 20, 21, 22, 23, 24].flatMap (cTT h r q cs U))) := fun v => (front_perm (cTT h r q cs (mu U 9 v)) (l := [0, 1, 2, 3, 4, 5, 6, 7, 8, 9, 10, 11, 12, 13, 14, 15, 16, 17, 18, 19, 20, 21, 22, 23, 24]) (ks := [9]) (rest := [0, 1, 2, 3, 4, 5, 6, 7, 8, 10, 11, 12, 13, 14, 15, 16, 17, 18, 19, 20, 21, 22, 23, 24]) (by decide)).trans (List.Perm.of_eq (by rw [show [9].flatMap (cTT h r q cs (mu U 9 v)) = W7 (h 9) (r 9) cs v from List.append_nil _]; rfl))
def wp_X11_firstByMean_9 (u : CS) (Q : Int32 → CS → Prop) : Prop :=
  (wp_X4_weightOf (fun i => u ([6, 9].getD i 0)) (fun y5 v5 => ∀ u5 : CS, u5 = emb u [6, 9] v5 → ((¬ y5 = 0 → (wp_X4_first (fun i => u5 ([6, 9].getD i 0)) (fun y46 v46 => ∀ u46 : CS, u46 = emb u5 [6, 9] v46 → Q y46 u46))) ∧ (y5 = 0 → (wp_X2_prepare (1 : Int32) (0 : Int32) (u5 5) (fun v17 => ∀ u17 : CS, u17 = mu u5 5 v17 → (wp_X7_heights (u17 9) (fun y33 v33 => ∀ u33 : CS, u33 = mu u17 9 v33 → (wp_X2_first (gI (u17 9) 2) y33 (u33 5) (fun y36 v36 => ∀ u36 : CS, u36 = mu u33 5 v36 → (∀ y39 : Int32, y39 = (gI (u17 9) 0) + y36 → Q y39 u36)))))))))))
set_option maxHeartbeats 4000000 in
set_option maxRecDepth 100000 in
theorem c_X11_firstByMean_9 (l : Launch) (D : va_G) (h : Nat → Nat) (r : Nat → Nat → Nat) (q : Nat → Nat → Nat → Nat) (cs : Nat → ClassId) (u : CS) (Q : Int32 → CS → Prop) (hw : wp_X11_firstByMean_9 u Q) : mCi l yX11_firstByMean wsX11_firstByMean ({ frames := 5, cells := 0, slots := 0, locals := 118 } : Room) 0 0 D (mT cs) (VT h r q cs) [.ref (h 0), .ref (h 9)] u Q := by
  unfold mCi
  refine m_enter (QQ := fun A => va_Qi Q (mPos D (mT cs) A (VT h r q cs)) A) (cc := cX11_firstByMean) (maxL := 2) (ret := (some .int)) (by decide) rfl (Nat.le_of_ble_eq_true rfl) ?_
  intro p e s m args below meth c A ls S hr hlocks hname hl hI
  have S : CallFix p m c cX11_firstByMean 2 s args wsX11_firstByMean RX11 := S
  show W p l e ({ frames := 5, cells := 0, slots := 0, locals := 118 } : Room) s m args below meth c s.heap [] 0 0 (MQ below (va_Qi Q (mPos D (mT cs) A (VT h r q cs)) A) args s 0 0 A) (F0 m 0 ls [])
  generalize hZ : MQ below (va_Qi Q (mPos D (mT cs) A (VT h r q cs)) A) args s 0 0 A = Z
  have hin2 : ∀ w ∈ wsX20, w ∈ wsX11_firstByMean := fun _ h => List.mem_cons_of_mem _ (List.mem_append_right _ h)
  have hin4 : ∀ w ∈ wsX40, w ∈ wsX11_firstByMean := fun _ h => List.mem_cons_of_mem _ (List.mem_append_left _ (List.mem_append_right _ h))
  have hin7 : ∀ w ∈ wsX70, w ∈ wsX11_firstByMean := fun _ h => List.mem_cons_of_mem _ (List.mem_append_left _ (List.mem_append_left _ (List.mem_append_right _ h)))
  have hin11 : ∀ w ∈ wsX110, w ∈ wsX11_firstByMean := fun _ h => List.mem_cons_of_mem _ (List.mem_append_left _ (List.mem_append_left _ (List.mem_append_left _ (List.mem_append_right _ h))))
  have hl : lv_has ls 2 [(0, .ref (h 0)), (1, .ref (h 9))] := hl
  unfold wp_X11_firstByMean_9 at hw
  obtain ⟨H, hH⟩ : ∃ z : Heap, z = s.heap := ⟨_, rfl⟩
  obtain ⟨locs, hL⟩ : ∃ z : List Loc, z = [] := ⟨_, rfl⟩
  rw [show W p l e ({ frames := 5, cells := 0, slots := 0, locals := 118 } : Room) s m args below meth c s.heap [] 0 0 Z (F0 m 0 ls []) = W p l e ({ frames := 5, cells := 0, slots := 0, locals := 118 } : Room) s m args below meth c H locs 0 0 Z (F0 m 0 ls []) by rw [hH, hL]]
  replace hI : mI D (mT cs) A s.heap s (VT h r q cs u) H locs := by rw [hH, hL]; exact hI
  refine lv_aload_n S.1 S.2.1 dX11_firstByMean_0 rfl (lv_at hl 0 rfl) ?_
  refine m_get S hin11 hI 0 (VT_o0 h r q cs u) rfl 5 (Nat.le_of_ble_eq_true rfl) (List.mem_of_getElem? (i := 1) rfl) rfl (FO11_at5 _ _ _) dX11_firstByMean_1 ?_
  refine lv_aload_n S.1 S.2.1 dX11_firstByMean_4 rfl (lv_at hl 1 rfl) ?_
  refine m_vi (cf := fun v => VT h r q cs (emb u [6, 9] v)) (As := [.ref (h 9)]) (rest := []) S (VT_k_ms_6_9 h r q cs u) hI (by rw [emb_self]) (c_X4_weightOf l D (fun i => h ([6, 9].getD i 0)) (fun i => rE r (gI (u 24) 0) ([6, 9].getD i 0)) (fun i => q ([6, 9].getD i 0)) cs (fun i => u ([6, 9].getD i 0)) _ hw) (cwV 1 S.2.2.2.2 gX11_firstByMean_X4_weightOf rfl rfl rfl (by decide +kernel) ⟨Nat.le_of_ble_eq_true rfl, Nat.le_of_ble_eq_true rfl⟩) rfl rfl rfl hl.1 rfl (Nat.le_of_ble_eq_true rfl) dX11_firstByMean_5 ⟨Nat.zero_le _, Nat.zero_le _⟩ (fun y5 v5 H locs hw hI => ?_)
  obtain ⟨u5, eu5⟩ : ∃ z : CS, z = emb u [6, 9] v5 := ⟨_, rfl⟩
  have hw := hw u5 eu5
  replace hI : mI D (mT cs) A s.heap s (VT h r q cs u5) H locs := by rw [eu5]; exact hI
  refine lv_if_ne (tgt := 41) S.1 S.2.1 dX11_firstByMean_8 (by decide) (fun c8 => ?_) (fun c8 => ?_)
  · have hw := hw.1 c8
    refine lv_aload_n S.1 S.2.1 dX11_firstByMean_41 rfl (lv_at hl 0 rfl) ?_
    refine m_get S hin11 hI 0 (VT_o0 h r q cs u5) rfl 5 (Nat.le_of_ble_eq_true rfl) (List.mem_of_getElem? (i := 1) rfl) rfl (FO11_at5 _ _ _) dX11_firstByMean_42 ?_
    refine lv_aload_n S.1 S.2.1 dX11_firstByMean_45 rfl (lv_at hl 1 rfl) ?_
    refine m_vi (cf := fun v => VT h r q cs (emb u5 [6, 9] v)) (As := [.ref (h 9)]) (rest := []) S (VT_k_ms_6_9 h r q cs u5) hI (by rw [emb_self]) (c_X4_first l D (fun i => h ([6, 9].getD i 0)) (fun i => rE r (gI (u5 24) 0) ([6, 9].getD i 0)) (fun i => q ([6, 9].getD i 0)) cs (fun i => u5 ([6, 9].getD i 0)) _ hw) (cwV 1 S.2.2.2.2 gX11_firstByMean_X4_first rfl rfl rfl (by decide +kernel) ⟨Nat.le_of_ble_eq_true rfl, Nat.le_of_ble_eq_true rfl⟩) rfl rfl rfl hl.1 rfl (Nat.le_of_ble_eq_true rfl) dX11_firstByMean_46 ⟨Nat.zero_le _, Nat.zero_le _⟩ (fun y46 v46 H locs hw hI => ?_)
    obtain ⟨u46, eu46⟩ : ∃ z : CS, z = emb u5 [6, 9] v46 := ⟨_, rfl⟩
    have hw := hw u46 eu46
    replace hI : mI D (mT cs) A s.heap s (VT h r q cs u46) H locs := by rw [eu46]; exact hI
    subst hZ
    exact m_iret S hr hlocks hI hw dX11_firstByMean_49
  · have hw := hw.2 c8
    refine lv_aload_n S.1 S.2.1 dX11_firstByMean_11 rfl (lv_at hl 0 rfl) ?_
    refine m_get S hin11 hI 0 (VT_o0 h r q cs u5) rfl 4 (Nat.le_of_ble_eq_true rfl) (List.mem_of_getElem? (i := 2) rfl) rfl (FO11_at4 _ _ _) dX11_firstByMean_12 ?_
    refine lv_iconst (v := 1) S.1 S.2.1 dX11_firstByMean_15 (by decide) ?_
    refine lv_iconst (v := 0) S.1 S.2.1 dX11_firstByMean_16 (by decide) ?_
    refine m_vv (cf := fun v => VT h r q cs (mu u5 5 v)) (As := [.int (1 : Int32), .int (0 : Int32)]) (rest := []) S (VT_c5 h r q cs u5) hI (by rw [mu_self]) (c_X2_prepare l D (h 5) (r 5) (q 5) cs (1 : Int32) (0 : Int32) (u5 5) _ hw) (cwV 2 S.2.2.2.2 gX11_firstByMean_X2_prepare rfl rfl rfl (by decide +kernel) ⟨Nat.le_of_ble_eq_true rfl, Nat.le_of_ble_eq_true rfl⟩) rfl rfl rfl hl.1 rfl (Nat.le_of_ble_eq_true rfl) dX11_firstByMean_17 ⟨Nat.zero_le _, Nat.zero_le _⟩ (fun v17 H locs hw hI => ?_)
    obtain ⟨u17, eu17⟩ : ∃ z : CS, z = mu u5 5 v17 := ⟨_, rfl⟩
    have hw := hw u17 eu17
    replace hI : mI D (mT cs) A s.heap s (VT h r q cs u17) H locs := by rw [eu17]; exact hI
    refine lv_aload_n S.1 S.2.1 dX11_firstByMean_20 rfl (lv_at hl 1 rfl) ?_
    refine m_getN S hin7 hI 109 (VT_o9 h r q cs u17) rfl 0 (Nat.le_of_ble_eq_true rfl) nf_X11_221 rfl (Ff7_at0 _ _) dX11_firstByMean_21 ?_
    refine lv_aload_n S.1 S.2.1 dX11_firstByMean_24 rfl (lv_at hl 0 rfl) ?_
    refine m_get S hin11 hI 0 (VT_o0 h r q cs u17) rfl 4 (Nat.le_of_ble_eq_true rfl) (List.mem_of_getElem? (i := 2) rfl) rfl (FO11_at4 _ _ _) dX11_firstByMean_25 ?_
    refine lv_aload_n S.1 S.2.1 dX11_firstByMean_28 rfl (lv_at hl 1 rfl) ?_
    refine m_getN S hin7 hI 109 (VT_o9 h r q cs u17) rfl 2 (Nat.le_of_ble_eq_true rfl) nf_X11_152 rfl (Ff7_at2 _ _) dX11_firstByMean_29 ?_
    refine lv_aload_n S.1 S.2.1 dX11_firstByMean_32 rfl (lv_at hl 1 rfl) ?_
    refine m_vi (cf := fun v => VT h r q cs (mu u17 9 v)) (As := []) (rest := [.int (gI (u17 9) 2), .ref (h 5), .int (gI (u17 9) 0)]) S (VT_c9 h r q cs u17) hI (by rw [mu_self]) (c_X7_heights l D (h 9) (r 9) cs (u17 9) _ hw) (cwV 0 S.2.2.2.2 gX11_firstByMean_X7_heights rfl rfl rfl (by decide +kernel) ⟨Nat.le_of_ble_eq_true rfl, Nat.le_of_ble_eq_true rfl⟩) rfl rfl rfl hl.1 rfl (Nat.le_of_ble_eq_true rfl) dX11_firstByMean_33 ⟨Nat.zero_le _, Nat.zero_le _⟩ (fun y33 v33 H locs hw hI => ?_)
    obtain ⟨u33, eu33⟩ : ∃ z : CS, z = mu u17 9 v33 := ⟨_, rfl⟩
    have hw := hw u33 eu33
    replace hI : mI D (mT cs) A s.heap s (VT h r q cs u33) H locs := by rw [eu33]; exact hI
    refine m_vi (cf := fun v => VT h r q cs (mu u33 5 v)) (As := [.int (gI (u17 9) 2), .int y33]) (rest := [.int (gI (u17 9) 0)]) S (VT_c5 h r q cs u33) hI (by rw [mu_self]) (c_X2_first l D (h 5) (r 5) (q 5) cs (gI (u17 9) 2) y33 (u33 5) _ hw) (cwV 2 S.2.2.2.2 gX11_firstByMean_X2_first rfl rfl rfl (by decide +kernel) ⟨Nat.le_of_ble_eq_true rfl, Nat.le_of_ble_eq_true rfl⟩) rfl rfl rfl hl.1 rfl (Nat.le_of_ble_eq_true rfl) dX11_firstByMean_36 ⟨Nat.zero_le _, Nat.zero_le _⟩ (fun y36 v36 H locs hw hI => ?_)
    obtain ⟨u36, eu36⟩ : ∃ z : CS, z = mu u33 5 v36 := ⟨_, rfl⟩
    have hw := hw u36 eu36
    replace hI : mI D (mT cs) A s.heap s (VT h r q cs u36) H locs := by rw [eu36]; exact hI
    refine lv_iadd S.1 S.2.1 dX11_firstByMean_39 ?_
    refine lv_topi (fun y39 ey39 => ?_)
    have hw := hw y39 ey39
    subst hZ
    exact m_iret S hr hlocks hI hw dX11_firstByMean_40

theorem VT_k_ms_6_11 (h : Nat → Nat) (r : Nat → Nat → Nat) (q : Nat → Nat → Nat → Nat) (cs : Nat → ClassId) (U : CS) : ∀ v : CS, (VT h r q cs (emb U [6, 11] v)).Perm ([] ++ (Vms (fun i => h ([6, 11].getD i 0)) (fun i => rE r (gI (U 24) 0) ([6, 11].getD i 0)) (fun i => q ([6, 11].getD i 0)) cs v ++ [0, 1, 2, 3, 4, 5, 7, 8, 9, 10, 12, 13, 14, 15, 16, 17, 18, 19, 20, 21, 22, 23, 24].flatMap (cTT h r q cs U))) := fun v => (front_perm (cTT h r q cs (emb U [6, 11] v)) (l := [0, 1, 2, 3, 4, 5, 6, 7, 8, 9, 10, 11, 12, 13, 14, 15, 16, 17, 18, 19, 20, 21, 22, 23, 24]) (ks := [6, 11]) (rest := [0, 1, 2, 3, 4, 5, 7, 8, 9, 10, 12, 13, 14, 15, 16, 17, 18, 19, 20, 21, 22, 23, 24]) (by decide)).trans (List.Perm.of_eq rfl)
theorem VT_o11 (h : Nat → Nat) (r : Nat → Nat → Nat) (q : Nat → Nat → Nat → Nat) (cs : Nat → ClassId) (U : CS) : (VT h r q cs U)[112]? = some (h 11, .inr (7, Ff7 (r 11) (U 11))) := rfl
theorem VT_c11 (h : Nat → Nat) (r : Nat → Nat → Nat) (q : Nat → Nat → Nat → Nat) (cs : Nat → ClassId) (U : CS) : ∀ v : ST, (VT h r q cs (mu U 11 v)).Perm ([] ++ (W7 (h 11) (r 11) cs v ++ [0, 1, 2, 3, 4, 5, 6, 7, 8, 9, 10, 12, 13, 14, 15, 16, 17, 18, 19, 20, 21, 22, 23, 24].flatMap (cTT h r q cs U))) := fun v => (front_perm (cTT h r q cs (mu U 11 v)) (l := [0, 1, 2, 3, 4, 5, 6, 7, 8, 9, 10, 11, 12, 13, 14, 15, 16, 17, 18, 19, 20, 21, 22, 23, 24]) (ks := [11]) (rest := [0, 1, 2, 3, 4, 5, 6, 7, 8, 9, 10, 12, 13, 14, 15, 16, 17, 18, 19, 20, 21, 22, 23, 24]) (by decide)).trans (List.Perm.of_eq (by rw [show [11].flatMap (cTT h r q cs (mu U 11 v)) = W7 (h 11) (r 11) cs v from List.append_nil _]; rfl))
def wp_X11_firstByMean_11 (u : CS) (Q : Int32 → CS → Prop) : Prop :=
  (wp_X4_weightOf (fun i => u ([6, 11].getD i 0)) (fun y5 v5 => ∀ u5 : CS, u5 = emb u [6, 11] v5 → ((¬ y5 = 0 → (wp_X4_first (fun i => u5 ([6, 11].getD i 0)) (fun y46 v46 => ∀ u46 : CS, u46 = emb u5 [6, 11] v46 → Q y46 u46))) ∧ (y5 = 0 → (wp_X2_prepare (1 : Int32) (0 : Int32) (u5 5) (fun v17 => ∀ u17 : CS, u17 = mu u5 5 v17 → (wp_X7_heights (u17 11) (fun y33 v33 => ∀ u33 : CS, u33 = mu u17 11 v33 → (wp_X2_first (gI (u17 11) 2) y33 (u33 5) (fun y36 v36 => ∀ u36 : CS, u36 = mu u33 5 v36 → (∀ y39 : Int32, y39 = (gI (u17 11) 0) + y36 → Q y39 u36)))))))))))
set_option maxHeartbeats 4000000 in
set_option maxRecDepth 100000 in
theorem c_X11_firstByMean_11 (l : Launch) (D : va_G) (h : Nat → Nat) (r : Nat → Nat → Nat) (q : Nat → Nat → Nat → Nat) (cs : Nat → ClassId) (u : CS) (Q : Int32 → CS → Prop) (hw : wp_X11_firstByMean_11 u Q) : mCi l yX11_firstByMean wsX11_firstByMean ({ frames := 5, cells := 0, slots := 0, locals := 118 } : Room) 0 0 D (mT cs) (VT h r q cs) [.ref (h 0), .ref (h 11)] u Q := by
  unfold mCi
  refine m_enter (QQ := fun A => va_Qi Q (mPos D (mT cs) A (VT h r q cs)) A) (cc := cX11_firstByMean) (maxL := 2) (ret := (some .int)) (by decide) rfl (Nat.le_of_ble_eq_true rfl) ?_
  intro p e s m args below meth c A ls S hr hlocks hname hl hI
  have S : CallFix p m c cX11_firstByMean 2 s args wsX11_firstByMean RX11 := S
  show W p l e ({ frames := 5, cells := 0, slots := 0, locals := 118 } : Room) s m args below meth c s.heap [] 0 0 (MQ below (va_Qi Q (mPos D (mT cs) A (VT h r q cs)) A) args s 0 0 A) (F0 m 0 ls [])
  generalize hZ : MQ below (va_Qi Q (mPos D (mT cs) A (VT h r q cs)) A) args s 0 0 A = Z
  have hin2 : ∀ w ∈ wsX20, w ∈ wsX11_firstByMean := fun _ h => List.mem_cons_of_mem _ (List.mem_append_right _ h)
  have hin4 : ∀ w ∈ wsX40, w ∈ wsX11_firstByMean := fun _ h => List.mem_cons_of_mem _ (List.mem_append_left _ (List.mem_append_right _ h))
  have hin7 : ∀ w ∈ wsX70, w ∈ wsX11_firstByMean := fun _ h => List.mem_cons_of_mem _ (List.mem_append_left _ (List.mem_append_left _ (List.mem_append_right _ h)))
  have hin11 : ∀ w ∈ wsX110, w ∈ wsX11_firstByMean := fun _ h => List.mem_cons_of_mem _ (List.mem_append_left _ (List.mem_append_left _ (List.mem_append_left _ (List.mem_append_right _ h))))
  have hl : lv_has ls 2 [(0, .ref (h 0)), (1, .ref (h 11))] := hl
  unfold wp_X11_firstByMean_11 at hw
  obtain ⟨H, hH⟩ : ∃ z : Heap, z = s.heap := ⟨_, rfl⟩
  obtain ⟨locs, hL⟩ : ∃ z : List Loc, z = [] := ⟨_, rfl⟩
  rw [show W p l e ({ frames := 5, cells := 0, slots := 0, locals := 118 } : Room) s m args below meth c s.heap [] 0 0 Z (F0 m 0 ls []) = W p l e ({ frames := 5, cells := 0, slots := 0, locals := 118 } : Room) s m args below meth c H locs 0 0 Z (F0 m 0 ls []) by rw [hH, hL]]
  replace hI : mI D (mT cs) A s.heap s (VT h r q cs u) H locs := by rw [hH, hL]; exact hI
  refine lv_aload_n S.1 S.2.1 dX11_firstByMean_0 rfl (lv_at hl 0 rfl) ?_
  refine m_get S hin11 hI 0 (VT_o0 h r q cs u) rfl 5 (Nat.le_of_ble_eq_true rfl) (List.mem_of_getElem? (i := 1) rfl) rfl (FO11_at5 _ _ _) dX11_firstByMean_1 ?_
  refine lv_aload_n S.1 S.2.1 dX11_firstByMean_4 rfl (lv_at hl 1 rfl) ?_
  refine m_vi (cf := fun v => VT h r q cs (emb u [6, 11] v)) (As := [.ref (h 11)]) (rest := []) S (VT_k_ms_6_11 h r q cs u) hI (by rw [emb_self]) (c_X4_weightOf l D (fun i => h ([6, 11].getD i 0)) (fun i => rE r (gI (u 24) 0) ([6, 11].getD i 0)) (fun i => q ([6, 11].getD i 0)) cs (fun i => u ([6, 11].getD i 0)) _ hw) (cwV 1 S.2.2.2.2 gX11_firstByMean_X4_weightOf rfl rfl rfl (by decide +kernel) ⟨Nat.le_of_ble_eq_true rfl, Nat.le_of_ble_eq_true rfl⟩) rfl rfl rfl hl.1 rfl (Nat.le_of_ble_eq_true rfl) dX11_firstByMean_5 ⟨Nat.zero_le _, Nat.zero_le _⟩ (fun y5 v5 H locs hw hI => ?_)
  obtain ⟨u5, eu5⟩ : ∃ z : CS, z = emb u [6, 11] v5 := ⟨_, rfl⟩
  have hw := hw u5 eu5
  replace hI : mI D (mT cs) A s.heap s (VT h r q cs u5) H locs := by rw [eu5]; exact hI
  refine lv_if_ne (tgt := 41) S.1 S.2.1 dX11_firstByMean_8 (by decide) (fun c8 => ?_) (fun c8 => ?_)
  · have hw := hw.1 c8
    refine lv_aload_n S.1 S.2.1 dX11_firstByMean_41 rfl (lv_at hl 0 rfl) ?_
    refine m_get S hin11 hI 0 (VT_o0 h r q cs u5) rfl 5 (Nat.le_of_ble_eq_true rfl) (List.mem_of_getElem? (i := 1) rfl) rfl (FO11_at5 _ _ _) dX11_firstByMean_42 ?_
    refine lv_aload_n S.1 S.2.1 dX11_firstByMean_45 rfl (lv_at hl 1 rfl) ?_
    refine m_vi (cf := fun v => VT h r q cs (emb u5 [6, 11] v)) (As := [.ref (h 11)]) (rest := []) S (VT_k_ms_6_11 h r q cs u5) hI (by rw [emb_self]) (c_X4_first l D (fun i => h ([6, 11].getD i 0)) (fun i => rE r (gI (u5 24) 0) ([6, 11].getD i 0)) (fun i => q ([6, 11].getD i 0)) cs (fun i => u5 ([6, 11].getD i 0)) _ hw) (cwV 1 S.2.2.2.2 gX11_firstByMean_X4_first rfl rfl rfl (by decide +kernel) ⟨Nat.le_of_ble_eq_true rfl, Nat.le_of_ble_eq_true rfl⟩) rfl rfl rfl hl.1 rfl (Nat.le_of_ble_eq_true rfl) dX11_firstByMean_46 ⟨Nat.zero_le _, Nat.zero_le _⟩ (fun y46 v46 H locs hw hI => ?_)
    obtain ⟨u46, eu46⟩ : ∃ z : CS, z = emb u5 [6, 11] v46 := ⟨_, rfl⟩
    have hw := hw u46 eu46
    replace hI : mI D (mT cs) A s.heap s (VT h r q cs u46) H locs := by rw [eu46]; exact hI
    subst hZ
    exact m_iret S hr hlocks hI hw dX11_firstByMean_49
  · have hw := hw.2 c8
    refine lv_aload_n S.1 S.2.1 dX11_firstByMean_11 rfl (lv_at hl 0 rfl) ?_
    refine m_get S hin11 hI 0 (VT_o0 h r q cs u5) rfl 4 (Nat.le_of_ble_eq_true rfl) (List.mem_of_getElem? (i := 2) rfl) rfl (FO11_at4 _ _ _) dX11_firstByMean_12 ?_
    refine lv_iconst (v := 1) S.1 S.2.1 dX11_firstByMean_15 (by decide) ?_
    refine lv_iconst (v := 0) S.1 S.2.1 dX11_firstByMean_16 (by decide) ?_
    refine m_vv (cf := fun v => VT h r q cs (mu u5 5 v)) (As := [.int (1 : Int32), .int (0 : Int32)]) (rest := []) S (VT_c5 h r q cs u5) hI (by rw [mu_self]) (c_X2_prepare l D (h 5) (r 5) (q 5) cs (1 : Int32) (0 : Int32) (u5 5) _ hw) (cwV 2 S.2.2.2.2 gX11_firstByMean_X2_prepare rfl rfl rfl (by decide +kernel) ⟨Nat.le_of_ble_eq_true rfl, Nat.le_of_ble_eq_true rfl⟩) rfl rfl rfl hl.1 rfl (Nat.le_of_ble_eq_true rfl) dX11_firstByMean_17 ⟨Nat.zero_le _, Nat.zero_le _⟩ (fun v17 H locs hw hI => ?_)
    obtain ⟨u17, eu17⟩ : ∃ z : CS, z = mu u5 5 v17 := ⟨_, rfl⟩
    have hw := hw u17 eu17
    replace hI : mI D (mT cs) A s.heap s (VT h r q cs u17) H locs := by rw [eu17]; exact hI
    refine lv_aload_n S.1 S.2.1 dX11_firstByMean_20 rfl (lv_at hl 1 rfl) ?_
    refine m_getN S hin7 hI 112 (VT_o11 h r q cs u17) rfl 0 (Nat.le_of_ble_eq_true rfl) nf_X11_221 rfl (Ff7_at0 _ _) dX11_firstByMean_21 ?_
    refine lv_aload_n S.1 S.2.1 dX11_firstByMean_24 rfl (lv_at hl 0 rfl) ?_
    refine m_get S hin11 hI 0 (VT_o0 h r q cs u17) rfl 4 (Nat.le_of_ble_eq_true rfl) (List.mem_of_getElem? (i := 2) rfl) rfl (FO11_at4 _ _ _) dX11_firstByMean_25 ?_
    refine lv_aload_n S.1 S.2.1 dX11_firstByMean_28 rfl (lv_at hl 1 rfl) ?_
    refine m_getN S hin7 hI 112 (VT_o11 h r q cs u17) rfl 2 (Nat.le_of_ble_eq_true rfl) nf_X11_152 rfl (Ff7_at2 _ _) dX11_firstByMean_29 ?_
    refine lv_aload_n S.1 S.2.1 dX11_firstByMean_32 rfl (lv_at hl 1 rfl) ?_
    refine m_vi (cf := fun v => VT h r q cs (mu u17 11 v)) (As := []) (rest := [.int (gI (u17 11) 2), .ref (h 5), .int (gI (u17 11) 0)]) S (VT_c11 h r q cs u17) hI (by rw [mu_self]) (c_X7_heights l D (h 11) (r 11) cs (u17 11) _ hw) (cwV 0 S.2.2.2.2 gX11_firstByMean_X7_heights rfl rfl rfl (by decide +kernel) ⟨Nat.le_of_ble_eq_true rfl, Nat.le_of_ble_eq_true rfl⟩) rfl rfl rfl hl.1 rfl (Nat.le_of_ble_eq_true rfl) dX11_firstByMean_33 ⟨Nat.zero_le _, Nat.zero_le _⟩ (fun y33 v33 H locs hw hI => ?_)
    obtain ⟨u33, eu33⟩ : ∃ z : CS, z = mu u17 11 v33 := ⟨_, rfl⟩
    have hw := hw u33 eu33
    replace hI : mI D (mT cs) A s.heap s (VT h r q cs u33) H locs := by rw [eu33]; exact hI
    refine m_vi (cf := fun v => VT h r q cs (mu u33 5 v)) (As := [.int (gI (u17 11) 2), .int y33]) (rest := [.int (gI (u17 11) 0)]) S (VT_c5 h r q cs u33) hI (by rw [mu_self]) (c_X2_first l D (h 5) (r 5) (q 5) cs (gI (u17 11) 2) y33 (u33 5) _ hw) (cwV 2 S.2.2.2.2 gX11_firstByMean_X2_first rfl rfl rfl (by decide +kernel) ⟨Nat.le_of_ble_eq_true rfl, Nat.le_of_ble_eq_true rfl⟩) rfl rfl rfl hl.1 rfl (Nat.le_of_ble_eq_true rfl) dX11_firstByMean_36 ⟨Nat.zero_le _, Nat.zero_le _⟩ (fun y36 v36 H locs hw hI => ?_)
    obtain ⟨u36, eu36⟩ : ∃ z : CS, z = mu u33 5 v36 := ⟨_, rfl⟩
    have hw := hw u36 eu36
    replace hI : mI D (mT cs) A s.heap s (VT h r q cs u36) H locs := by rw [eu36]; exact hI
    refine lv_iadd S.1 S.2.1 dX11_firstByMean_39 ?_
    refine lv_topi (fun y39 ey39 => ?_)
    have hw := hw y39 ey39
    subst hZ
    exact m_iret S hr hlocks hI hw dX11_firstByMean_40

theorem VT_c1 (h : Nat → Nat) (r : Nat → Nat → Nat) (q : Nat → Nat → Nat → Nat) (cs : Nat → ClassId) (U : CS) : ∀ v : ST, (VT h r q cs (mu U 1 v)).Perm ([] ++ (W8 (h 1) (r 1) cs v ++ [0, 2, 3, 4, 5, 6, 7, 8, 9, 10, 11, 12, 13, 14, 15, 16, 17, 18, 19, 20, 21, 22, 23, 24].flatMap (cTT h r q cs U))) := fun v => (front_perm (cTT h r q cs (mu U 1 v)) (l := [0, 1, 2, 3, 4, 5, 6, 7, 8, 9, 10, 11, 12, 13, 14, 15, 16, 17, 18, 19, 20, 21, 22, 23, 24]) (ks := [1]) (rest := [0, 2, 3, 4, 5, 6, 7, 8, 9, 10, 11, 12, 13, 14, 15, 16, 17, 18, 19, 20, 21, 22, 23, 24]) (by decide)).trans (List.Perm.of_eq (by rw [show [1].flatMap (cTT h r q cs (mu U 1 v)) = W8 (h 1) (r 1) cs v from List.append_nil _]; rfl))
def wp_X11_asksSpan_p43 (u : CS) (Q : Int32 → CS → Prop) : Prop :=
  ((0 : Int32) &&& 1 = (0 : Int32) ∧ Q (0 : Int32) u)
def wp_X11_asksSpan (a1 : Int32) (a2 : Int32) (u : CS) (Q : Int32 → CS → Prop) : Prop :=
  (¬ (100 : Int32) = 0 ∧ ∀ y3 : Int32, y3 = a1 / (100 : Int32) → (¬ (100 : Int32) = 0 ∧ ∀ y8 : Int32, y8 = a1 - a1 / (100 : Int32) * (100 : Int32) → ((a1 < 0 → wp_X11_asksSpan_p43 u Q) ∧ (¬ a1 < 0 → ((y8 < y3 → wp_X11_asksSpan_p43 u Q) ∧ (¬ y8 < y3 → (wp_X8_steps (u 1) (fun y27 v27 => ∀ u27 : CS, u27 = mu u 1 v27 → ((y27 < y8 → wp_X11_asksSpan_p43 u27 Q) ∧ (¬ y27 < y8 → (wp_X11_within a2 (0 : Int32) (6 : Int32) (fun y37 => ((¬ y37 = 0 → (wp_X7_become y3 y8 a2 (u27 9) (fun v53 => ∀ u53 : CS, u53 = mu u27 9 v53 → ((1 : Int32) &&& 1 = (1 : Int32) ∧ Q (1 : Int32) u53)))) ∧ (y37 = 0 → wp_X11_asksSpan_p43 u27 Q))))))))))))))
set_option maxHeartbeats 4000000 in
set_option maxRecDepth 100000 in
theorem c_X11_asksSpan (l : Launch) (D : va_G) (h : Nat → Nat) (r : Nat → Nat → Nat) (q : Nat → Nat → Nat → Nat) (cs : Nat → ClassId) (a1 : Int32) (a2 : Int32) (u : CS) (Q : Int32 → CS → Prop) (hw : wp_X11_asksSpan a1 a2 u Q) : mCi l yX11_asksSpan wsX11_asksSpan ({ frames := 1, cells := 0, slots := 0, locals := 23 } : Room) 0 0 D (mT cs) (VT h r q cs) [.ref (h 0), .int a1, .int a2] u Q := by
  unfold mCi
  refine m_enter (QQ := fun A => va_Qi Q (mPos D (mT cs) A (VT h r q cs)) A) (cc := cX11_asksSpan) (maxL := 5) (ret := (some .boolean)) (by decide) rfl (Nat.le_of_ble_eq_true rfl) ?_
  intro p e s m args below meth c A ls S hr hlocks hname hl hI
  have S : CallFix p m c cX11_asksSpan 5 s args wsX11_asksSpan RX11 := S
  show W p l e ({ frames := 1, cells := 0, slots := 0, locals := 23 } : Room) s m args below meth c s.heap [] 0 0 (MQ below (va_Qi Q (mPos D (mT cs) A (VT h r q cs)) A) args s 0 0 A) (F0 m 0 ls [])
  generalize hZ : MQ below (va_Qi Q (mPos D (mT cs) A (VT h r q cs)) A) args s 0 0 A = Z
  have hin7 : ∀ w ∈ wsX70, w ∈ wsX11_asksSpan := fun _ h => List.mem_cons_of_mem _ (List.mem_append_right _ h)
  have hin8 : ∀ w ∈ wsX80, w ∈ wsX11_asksSpan := fun _ h => List.mem_cons_of_mem _ (List.mem_append_left _ (List.mem_append_right _ h))
  have hin11 : ∀ w ∈ wsX110, w ∈ wsX11_asksSpan := fun _ h => List.mem_cons_of_mem _ (List.mem_append_left _ (List.mem_append_left _ (List.mem_append_right _ h)))
  have hl : lv_has ls 5 [(0, .ref (h 0)), (1, .int a1), (2, .int a2)] := hl
  have b43 : ∀ (u : CS), wp_X11_asksSpan_p43 u Q → mGo p l e ({ frames := 1, cells := 0, slots := 0, locals := 23 } : Room) s m args below meth c A Z 5 D (mT cs) (VT h r q cs) 43 [(0, .ref (h 0))] [] u := by
    intro u hw H locs ls hI hl
    unfold wp_X11_asksSpan_p43 at hw
    refine lv_iconst (v := 0) S.1 S.2.1 dX11_asksSpan_43 (by decide) ?_
    subst hZ
    exact m_zret S hr hlocks hI hw.1 hw.2 dX11_asksSpan_44
  unfold wp_X11_asksSpan at hw
  obtain ⟨H, hH⟩ : ∃ z : Heap, z = s.heap := ⟨_, rfl⟩
  obtain ⟨locs, hL⟩ : ∃ z : List Loc, z = [] := ⟨_, rfl⟩
  rw [show W p l e ({ frames := 1, cells := 0, slots := 0, locals := 23 } : Room) s m args below meth c s.heap [] 0 0 Z (F0 m 0 ls []) = W p l e ({ frames := 1, cells := 0, slots := 0, locals := 23 } : Room) s m args below meth c H locs 0 0 Z (F0 m 0 ls []) by rw [hH, hL]]
  replace hI : mI D (mT cs) A s.heap s (VT h r q cs u) H locs := by rw [hH, hL]; exact hI
  refine lv_iload_n S.1 S.2.1 dX11_asksSpan_0 rfl (lv_at hl 1 rfl) ?_
  refine lv_bipush (v := 100) S.1 S.2.1 dX11_asksSpan_1 (by decide) ?_
  refine lv_idiv S.1 S.2.1 dX11_asksSpan_3 hw.1 ?_
  have hw := hw.2
  refine lv_topi (fun y3 ey3 => ?_)
  have hw := hw y3 ey3
  refine lv_istore_n (lv' := [(3, .int y3), (0, .ref (h 0)), (1, .int a1), (2, .int a2)]) S.1 S.2.1 dX11_asksSpan_4 rfl hl (by decide) rfl (fun ls hl => ?_)
  refine lv_iload_n S.1 S.2.1 dX11_asksSpan_5 rfl (lv_at hl 2 rfl) ?_
  refine lv_bipush (v := 100) S.1 S.2.1 dX11_asksSpan_6 (by decide) ?_
  refine lv_irem S.1 S.2.1 dX11_asksSpan_8 hw.1 ?_
  have hw := hw.2
  refine lv_topi (fun y8 ey8 => ?_)
  have hw := hw y8 ey8
  refine lv_istore (lv' := [(4, .int y8), (3, .int y3), (0, .ref (h 0)), (1, .int a1), (2, .int a2)]) S.1 S.2.1 dX11_asksSpan_9 hl (by decide) rfl (fun ls hl => ?_)
  refine lv_iload_n S.1 S.2.1 dX11_asksSpan_11 rfl (lv_at hl 3 rfl) ?_
  refine lv_if_lt (tgt := 43) S.1 S.2.1 dX11_asksSpan_12 (by decide) (fun c12 => ?_) (fun c12 => ?_)
  · have hw := hw.1 c12
    exact b43 u hw H locs ls hI (lv_sub hl [2] rfl)
  · have hw := hw.2 c12
    refine lv_iload_n S.1 S.2.1 dX11_asksSpan_15 rfl (lv_at hl 1 rfl) ?_
    refine lv_iload S.1 S.2.1 dX11_asksSpan_16 (lv_at hl 0 rfl) ?_
    refine lv_icmp_gt (tgt := 43) S.1 S.2.1 dX11_asksSpan_18 (by decide) (fun c18 => ?_) (fun c18 => ?_)
    · have hw := hw.1 c18
      exact b43 u hw H locs ls hI (lv_sub hl [2] rfl)
    · have hw := hw.2 c18
      refine lv_iload S.1 S.2.1 dX11_asksSpan_21 (lv_at hl 0 rfl) ?_
      refine lv_aload_n S.1 S.2.1 dX11_asksSpan_23 rfl (lv_at hl 2 rfl) ?_
      refine m_get S hin11 hI 0 (VT_o0 h r q cs u) rfl 0 (Nat.le_of_ble_eq_true rfl) (List.mem_of_getElem? (i := 1) rfl) rfl (FO11_at0 _ _ _) dX11_asksSpan_24 ?_
      refine m_vi (cf := fun v => VT h r q cs (mu u 1 v)) (As := []) (rest := [.int y8]) S (VT_c1 h r q cs u) hI (by rw [mu_self]) (c_X8_steps l D (h 1) (r 1) cs (u 1) _ hw) (cwV 0 S.2.2.2.2 gX11_asksSpan_X8_steps rfl rfl rfl (by decide +kernel) ⟨Nat.le_of_ble_eq_true rfl, Nat.le_of_ble_eq_true rfl⟩) rfl rfl rfl hl.1 rfl (Nat.le_of_ble_eq_true rfl) dX11_asksSpan_27 ⟨Nat.zero_le _, Nat.zero_le _⟩ (fun y27 v27 H locs hw hI => ?_)
      obtain ⟨u27, eu27⟩ : ∃ z : CS, z = mu u 1 v27 := ⟨_, rfl⟩
      have hw := hw u27 eu27
      replace hI : mI D (mT cs) A s.heap s (VT h r q cs u27) H locs := by rw [eu27]; exact hI
      refine lv_icmp_gt (tgt := 43) S.1 S.2.1 dX11_asksSpan_30 (by decide) (fun c30 => ?_) (fun c30 => ?_)
      · have hw := hw.1 c30
        exact b43 u27 hw H locs ls hI (lv_sub hl [2] rfl)
      · have hw := hw.2 c30
        refine lv_iload_n S.1 S.2.1 dX11_asksSpan_33 rfl (lv_at hl 4 rfl) ?_
        refine lv_iconst (v := 0) S.1 S.2.1 dX11_asksSpan_34 (by decide) ?_
        refine lv_bipush (v := 6) S.1 S.2.1 dX11_asksSpan_35 (by decide) ?_
        refine m_si (As := [.int a2, .int (0 : Int32), .int (6 : Int32)]) (rest := []) S hI.2.2.2.1.2.1 (c_X11_within l a2 (0 : Int32) (6 : Int32) _ hw) (va_cwS 3 S.2.2.2.2 gX11_asksSpan_X11_within rfl rfl rfl (by decide +kernel) ⟨Nat.le_of_ble_eq_true rfl, Nat.le_of_ble_eq_true rfl⟩) rfl hl.1 rfl (Nat.le_of_ble_eq_true rfl) dX11_asksSpan_37 ⟨Nat.zero_le _, Nat.zero_le _⟩ (fun y37 hw => ?_)
        refine lv_if_ne (tgt := 45) S.1 S.2.1 dX11_asksSpan_40 (by decide) (fun c40 => ?_) (fun c40 => ?_)
        · have hw := hw.1 c40
          refine lv_aload_n S.1 S.2.1 dX11_asksSpan_45 rfl (lv_at hl 2 rfl) ?_
          refine m_get S hin11 hI 0 (VT_o0 h r q cs u27) rfl 8 (Nat.le_of_ble_eq_true rfl) (List.mem_of_getElem? (i := 2) rfl) rfl (FO11_at8 _ _ _) dX11_asksSpan_46 ?_
          refine lv_iload_n S.1 S.2.1 dX11_asksSpan_49 rfl (lv_at hl 1 rfl) ?_
          refine lv_iload S.1 S.2.1 dX11_asksSpan_50 (lv_at hl 0 rfl) ?_
          refine lv_iload_n S.1 S.2.1 dX11_asksSpan_52 rfl (lv_at hl 4 rfl) ?_
          refine m_vv (cf := fun v => VT h r q cs (mu u27 9 v)) (As := [.int y3, .int y8, .int a2]) (rest := []) S (VT_c9 h r q cs u27) hI (by rw [mu_self]) (c_X7_become l D (h 9) (r 9) cs y3 y8 a2 (u27 9) _ hw) (cwV 3 S.2.2.2.2 gX11_asksSpan_X7_become rfl rfl rfl (by decide +kernel) ⟨Nat.le_of_ble_eq_true rfl, Nat.le_of_ble_eq_true rfl⟩) rfl rfl rfl hl.1 rfl (Nat.le_of_ble_eq_true rfl) dX11_asksSpan_53 ⟨Nat.zero_le _, Nat.zero_le _⟩ (fun v53 H locs hw hI => ?_)
          obtain ⟨u53, eu53⟩ : ∃ z : CS, z = mu u27 9 v53 := ⟨_, rfl⟩
          have hw := hw u53 eu53
          replace hI : mI D (mT cs) A s.heap s (VT h r q cs u53) H locs := by rw [eu53]; exact hI
          refine lv_iconst (v := 1) S.1 S.2.1 dX11_asksSpan_56 (by decide) ?_
          subst hZ
          exact m_zret S hr hlocks hI hw.1 hw.2 dX11_asksSpan_57
        · have hw := hw.2 c40
          exact b43 u27 hw H locs ls hI (lv_sub hl [2] rfl)

theorem VT_k_mw_6_2_1 (h : Nat → Nat) (r : Nat → Nat → Nat) (q : Nat → Nat → Nat → Nat) (cs : Nat → ClassId) (U : CS) : ∀ v : CS, (VT h r q cs (emb U [6, 2, 1] v)).Perm ([] ++ (Vmw (fun i => h ([6, 2, 1].getD i 0)) (fun i => rE r (gI (U 24) 0) ([6, 2, 1].getD i 0)) (fun i => q ([6, 2, 1].getD i 0)) cs v ++ [0, 3, 4, 5, 7, 8, 9, 10, 11, 12, 13, 14, 15, 16, 17, 18, 19, 20, 21, 22, 23, 24].flatMap (cTT h r q cs U))) := fun v => (front_perm (cTT h r q cs (emb U [6, 2, 1] v)) (l := [0, 1, 2, 3, 4, 5, 6, 7, 8, 9, 10, 11, 12, 13, 14, 15, 16, 17, 18, 19, 20, 21, 22, 23, 24]) (ks := [6, 2, 1]) (rest := [0, 3, 4, 5, 7, 8, 9, 10, 11, 12, 13, 14, 15, 16, 17, 18, 19, 20, 21, 22, 23, 24]) (by decide)).trans (List.Perm.of_eq rfl)
theorem VT_o10 (h : Nat → Nat) (r : Nat → Nat → Nat) (q : Nat → Nat → Nat → Nat) (cs : Nat → ClassId) (U : CS) : (VT h r q cs U)[110]? = some (h 10, .inr (10, FO10 (fun i => h (10 + i)) (r 10) (U 10))) := rfl
theorem VT_k_wk_10_11 (h : Nat → Nat) (r : Nat → Nat → Nat) (q : Nat → Nat → Nat → Nat) (cs : Nat → ClassId) (U : CS) : ∀ v : CS, (VT h r q cs (emb U [10, 11] v)).Perm ([] ++ (Vwk (fun i => h ([10, 11].getD i 0)) (fun i => rE r (gI (U 24) 0) ([10, 11].getD i 0)) (fun i => q ([10, 11].getD i 0)) cs v ++ [0, 1, 2, 3, 4, 5, 6, 7, 8, 9, 12, 13, 14, 15, 16, 17, 18, 19, 20, 21, 22, 23, 24].flatMap (cTT h r q cs U))) := fun v => (front_perm (cTT h r q cs (emb U [10, 11] v)) (l := [0, 1, 2, 3, 4, 5, 6, 7, 8, 9, 10, 11, 12, 13, 14, 15, 16, 17, 18, 19, 20, 21, 22, 23, 24]) (ks := [10, 11]) (rest := [0, 1, 2, 3, 4, 5, 6, 7, 8, 9, 12, 13, 14, 15, 16, 17, 18, 19, 20, 21, 22, 23, 24]) (by decide)).trans (List.Perm.of_eq rfl)
theorem VT_self (h : Nat → Nat) (r : Nat → Nat → Nat) (q : Nat → Nat → Nat → Nat) (cs : Nat → ClassId) : ∀ v, (VT h r q cs v).Perm ([] ++ (VT h r q cs v ++ [])) := fun v => by rw [List.append_nil, List.nil_append]
def wp_X11_walks_p129 (u : CS) (Q : Int32 → CS → Prop) : Prop :=
  (wp_X7_isSure (u 11) (fun y130 v130 => ∀ u130 : CS, u130 = mu u 11 v130 → (y130 &&& 1 = y130 ∧ Q y130 u130)))
def wp_X11_walks_p111 (x1 : Int32) (x2 : Int32) (x4 : Int32) (t0 : Int32) (u : CS) (B56 : Int32 → Int32 → Int32 → CS → Prop) (Q : Int32 → CS → Prop) : Prop :=
  (wp_X10_add t0 x2 (fun i => u ([10, 11].getD i 0)) (fun v120 => ∀ u120 : CS, u120 = emb u [10, 11] v120 → (∀ y123 : Int32, y123 = x4 + 1 → B56 x1 x2 y123 u120)))
def wp_X11_walks_p56b (x1 : Int32) (x2 : Int32) (x4 : Int32) (u : CS) (B56 : Int32 → Int32 → Int32 → CS → Prop) (Q : Int32 → CS → Prop) : Prop :=
  (((60 : Int32) ≤ x4 → wp_X11_walks_p129 u Q) ∧ (¬ (60 : Int32) ≤ x4 → (wp_X7_isSure (u 11) (fun y64 v64 => ∀ u64 : CS, u64 = mu u 11 v64 → ((¬ y64 = 0 → wp_X11_walks_p129 u64 Q) ∧ (y64 = 0 → ((¬ (gI (u64 11) 2) = 0 → ((¬ x1 = 0 → (wp_X11_firstByMean_11 u64 (fun y108 u108 => wp_X11_walks_p111 x1 x2 x4 y108 u108 B56 Q))) ∧ (x1 = 0 → (wp_X7_heights (u64 11) (fun y96 v96 => ∀ u96 : CS, u96 = mu u64 11 v96 → (wp_X2_first (gI (u64 11) 2) y96 (u96 3) (fun y99 v99 => ∀ u99 : CS, u99 = mu u96 3 v99 → (∀ y102 : Int32, y102 = (gI (u64 11) 0) + y99 → wp_X11_walks_p111 x1 x2 x4 y102 u99 B56 Q)))))))) ∧ ((gI (u64 11) 2) = 0 → ((0 : Int32) &&& 1 = (0 : Int32) ∧ Q (0 : Int32) u64)))))))))
def wp_X11_walks_p56 (x1 : Int32) (x2 : Int32) (x4 : Int32) (u : CS) (Q : Int32 → CS → Prop) : Prop := ∃ (I : Int32 → Int32 → Int32 → CS → Prop) (μ : Int32 → Int32 → Int32 → CS → Nat), I x1 x2 x4 u ∧ ∀ (x1 : Int32) (x2 : Int32) (x4 : Int32) (u : CS), I x1 x2 x4 u → wp_X11_walks_p56b x1 x2 x4 u (fun yx1 yx2 yx4 yu => I yx1 yx2 yx4 yu ∧ μ yx1 yx2 yx4 yu < μ x1 x2 x4 u) Q
def wp_X11_walks (a1 : Int32) (a2 : Int32) (u : CS) (Q : Int32 → CS → Prop) : Prop :=
  (wp_X2_prepare (1 : Int32) (0 : Int32) (u 3) (fun v6 => ∀ u6 : CS, u6 = mu u 3 v6 → (wp_X4_weigh (fun i => u6 ([6, 2, 1].getD i 0)) (fun v21 => ∀ u21 : CS, u21 = emb u6 [6, 2, 1] v21 → (wp_X8_steps (u21 1) (fun y40 v40 => ∀ u40 : CS, u40 = mu u21 1 v40 → (wp_X8_jars (u40 1) (fun y47 v47 => ∀ u47 : CS, u47 = mu u40 1 v47 → (wp_X10_begin y40 y47 (fun i => u47 ([10, 11].getD i 0)) (fun v50 => ∀ u50 : CS, u50 = emb u47 [10, 11] v50 → wp_X11_walks_p56 a1 a2 (0 : Int32) u50 Q))))))))))
set_option maxHeartbeats 4000000 in
set_option maxRecDepth 100000 in
theorem c_X11_walks (l : Launch) (D : va_G) (h : Nat → Nat) (r : Nat → Nat → Nat) (q : Nat → Nat → Nat → Nat) (cs : Nat → ClassId) (a1 : Int32) (a2 : Int32) (u : CS) (Q : Int32 → CS → Prop) (hw : wp_X11_walks a1 a2 u Q) : mCi l yX11_walks wsX11_walks ({ frames := 6, cells := 0, slots := 0, locals := 139 } : Room) 0 0 D (mT cs) (VT h r q cs) [.ref (h 0), .int a1, .int a2] u Q := by
  unfold mCi
  refine m_enter (QQ := fun A => va_Qi Q (mPos D (mT cs) A (VT h r q cs)) A) (cc := cX11_walks) (maxL := 6) (ret := (some .boolean)) (by decide) rfl (Nat.le_of_ble_eq_true rfl) ?_
  intro p e s m args below meth c A ls S hr hlocks hname hl hI
  have S : CallFix p m c cX11_walks 6 s args wsX11_walks RX11 := S
  show W p l e ({ frames := 6, cells := 0, slots := 0, locals := 139 } : Room) s m args below meth c s.heap [] 0 0 (MQ below (va_Qi Q (mPos D (mT cs) A (VT h r q cs)) A) args s 0 0 A) (F0 m 0 ls [])
  generalize hZ : MQ below (va_Qi Q (mPos D (mT cs) A (VT h r q cs)) A) args s 0 0 A = Z
  have hin2 : ∀ w ∈ wsX20, w ∈ wsX11_walks := fun _ h => List.mem_cons_of_mem _ (List.mem_append_left _ (List.mem_append_left _ (List.mem_append_left _ (List.mem_append_right _ h))))
  have hin3 : ∀ w ∈ wsX30, w ∈ wsX11_walks := fun _ h => List.mem_cons_of_mem _ (List.mem_append_left _ (List.mem_append_left _ (List.mem_append_right _ h)))
  have hin4 : ∀ w ∈ wsX40, w ∈ wsX11_walks := fun _ h => List.mem_cons_of_mem _ (List.mem_append_left _ (List.mem_append_right _ h))
  have hin7 : ∀ w ∈ wsX70, w ∈ wsX11_walks := fun _ h => List.mem_cons_of_mem _ (List.mem_append_left _ (List.mem_append_left _ (List.mem_append_left _ (List.mem_append_left _ (List.mem_append_right _ h)))))
  have hin8 : ∀ w ∈ wsX80, w ∈ wsX11_walks := fun _ h => List.mem_cons_of_mem _ (List.mem_append_right _ h)
  have hin10 : ∀ w ∈ wsX100, w ∈ wsX11_walks := fun _ h => List.mem_cons_of_mem _ (List.mem_append_left _ (List.mem_append_left _ (List.mem_append_left _ (List.mem_append_left _ (List.mem_append_left _ (List.mem_append_right _ h))))))
  have hin11 : ∀ w ∈ wsX110, w ∈ wsX11_walks := fun _ h => List.mem_cons_of_mem _ (List.mem_append_left _ (List.mem_append_left _ (List.mem_append_left _ (List.mem_append_left _ (List.mem_append_left _ (List.mem_append_left _ (List.mem_append_right _ h)))))))
  have hl : lv_has ls 6 [(0, .ref (h 0)), (1, .int a1), (2, .int a2)] := hl
  have b129 : ∀ (u : CS), wp_X11_walks_p129 u Q → mGo p l e ({ frames := 6, cells := 0, slots := 0, locals := 139 } : Room) s m args below meth c A Z 6 D (mT cs) (VT h r q cs) 129 [(0, .ref (h 0)), (3, .ref (h 11))] [] u := by
    intro u hw H locs ls hI hl
    unfold wp_X11_walks_p129 at hw
    refine lv_aload_n S.1 S.2.1 dX11_walks_129 rfl (lv_at hl 1 rfl) ?_
    refine m_vi (cf := fun v => VT h r q cs (mu u 11 v)) (As := []) (rest := []) S (VT_c11 h r q cs u) hI (by rw [mu_self]) (c_X7_isSure l D (h 11) (r 11) cs (u 11) _ hw) (cwV 0 S.2.2.2.2 gX11_walks_X7_isSure rfl rfl rfl (by decide +kernel) ⟨Nat.le_of_ble_eq_true rfl, Nat.le_of_ble_eq_true rfl⟩) rfl rfl rfl hl.1 rfl (Nat.le_of_ble_eq_true rfl) dX11_walks_130 ⟨Nat.zero_le _, Nat.zero_le _⟩ (fun y130 v130 H locs hw hI => ?_)
    obtain ⟨u130, eu130⟩ : ∃ z : CS, z = mu u 11 v130 := ⟨_, rfl⟩
    have hw := hw u130 eu130
    replace hI : mI D (mT cs) A s.heap s (VT h r q cs u130) H locs := by rw [eu130]; exact hI
    subst hZ
    exact m_zret S hr hlocks hI hw.1 hw.2 dX11_walks_133
  have b111 : ∀ (B56 : Int32 → Int32 → Int32 → CS → Prop), (∀ (x1 : Int32) (x2 : Int32) (x4 : Int32) (u : CS), B56 x1 x2 x4 u → mGo p l e ({ frames := 6, cells := 0, slots := 0, locals := 139 } : Room) s m args below meth c A Z 6 D (mT cs) (VT h r q cs) 56 [(0, .ref (h 0)), (1, .int x1), (2, .int x2), (3, .ref (h 11)), (4, .int x4)] [] u) → ∀ (x1 : Int32) (x2 : Int32) (x4 : Int32) (t0 : Int32) (u : CS), wp_X11_walks_p111 x1 x2 x4 t0 u B56 Q → mGo p l e ({ frames := 6, cells := 0, slots := 0, locals := 139 } : Room) s m args below meth c A Z 6 D (mT cs) (VT h r q cs) 111 [(0, .ref (h 0)), (1, .int x1), (2, .int x2), (3, .ref (h 11)), (4, .int x4)] [.int t0] u := by
    intro B56 hB56 x1 x2 x4 t0 u hw H locs ls hI hl
    unfold wp_X11_walks_p111 at hw
    refine lv_istore (lv' := [(5, .int t0), (0, .ref (h 0)), (1, .int x1), (2, .int x2), (3, .ref (h 11)), (4, .int x4)]) S.1 S.2.1 dX11_walks_111 hl (by decide) rfl (fun ls hl => ?_)
    refine lv_aload_n S.1 S.2.1 dX11_walks_113 rfl (lv_at hl 1 rfl) ?_
    refine m_get S hin11 hI 0 (VT_o0 h r q cs u) rfl 9 (Nat.le_of_ble_eq_true rfl) (List.mem_of_getElem? (i := 5) rfl) rfl (FO11_at9 _ _ _) dX11_walks_114 ?_
    refine lv_iload S.1 S.2.1 dX11_walks_117 (lv_at hl 0 rfl) ?_
    refine lv_iload_n S.1 S.2.1 dX11_walks_119 rfl (lv_at hl 3 rfl) ?_
    refine m_vv (cf := fun v => VT h r q cs (emb u [10, 11] v)) (As := [.int t0, .int x2]) (rest := []) S (VT_k_wk_10_11 h r q cs u) hI (by rw [emb_self]) (c_X10_add l D (fun i => h ([10, 11].getD i 0)) (fun i => rE r (gI (u 24) 0) ([10, 11].getD i 0)) (fun i => q ([10, 11].getD i 0)) cs t0 x2 (fun i => u ([10, 11].getD i 0)) _ hw) (cwV 2 S.2.2.2.2 gX11_walks_X10_add rfl rfl rfl (by decide +kernel) ⟨Nat.le_of_ble_eq_true rfl, Nat.le_of_ble_eq_true rfl⟩) rfl rfl rfl hl.1 rfl (Nat.le_of_ble_eq_true rfl) dX11_walks_120 ⟨Nat.zero_le _, Nat.zero_le _⟩ (fun v120 H locs hw hI => ?_)
    obtain ⟨u120, eu120⟩ : ∃ z : CS, z = emb u [10, 11] v120 := ⟨_, rfl⟩
    have hw := hw u120 eu120
    replace hI : mI D (mT cs) A s.heap s (VT h r q cs u120) H locs := by rw [eu120]; exact hI
    obtain ⟨y123, ey123⟩ : ∃ z : Int32, z = x4 + 1 := ⟨_, rfl⟩
    have hw := hw y123 ey123
    refine lv_iinc (v := y123) (lv' := [(4, .int y123), (5, .int t0), (0, .ref (h 0)), (1, .int x1), (2, .int x2), (3, .ref (h 11))]) S.1 S.2.1 dX11_walks_123 hl (k := 5) rfl (by rw [ey123]; rfl) (by decide) rfl (fun ls hl => ?_)
    refine lv_goto (tgt := 56) S.1 S.2.1 dX11_walks_126 (by decide) ?_
    exact hB56 x1 x2 y123 u120 hw H locs ls hI (lv_sub hl [2, 3, 4, 5, 0] rfl)
  have b56b : ∀ (B56 : Int32 → Int32 → Int32 → CS → Prop), (∀ (x1 : Int32) (x2 : Int32) (x4 : Int32) (u : CS), B56 x1 x2 x4 u → mGo p l e ({ frames := 6, cells := 0, slots := 0, locals := 139 } : Room) s m args below meth c A Z 6 D (mT cs) (VT h r q cs) 56 [(0, .ref (h 0)), (1, .int x1), (2, .int x2), (3, .ref (h 11)), (4, .int x4)] [] u) → ∀ (x1 : Int32) (x2 : Int32) (x4 : Int32) (u : CS), wp_X11_walks_p56b x1 x2 x4 u B56 Q → mGo p l e ({ frames := 6, cells := 0, slots := 0, locals := 139 } : Room) s m args below meth c A Z 6 D (mT cs) (VT h r q cs) 56 [(0, .ref (h 0)), (1, .int x1), (2, .int x2), (3, .ref (h 11)), (4, .int x4)] [] u := by
    intro B56 hB56 x1 x2 x4 u hw H locs ls hI hl
    unfold wp_X11_walks_p56b at hw
    refine lv_iload S.1 S.2.1 dX11_walks_56 (lv_at hl 4 rfl) ?_
    refine lv_bipush (v := 60) S.1 S.2.1 dX11_walks_58 (by decide) ?_
    refine lv_icmp_ge (tgt := 129) S.1 S.2.1 dX11_walks_60 (by decide) (fun c60 => ?_) (fun c60 => ?_)
    · have hw := hw.1 c60
      exact b129 u hw H locs ls hI (lv_sub hl [0, 3] rfl)
    · have hw := hw.2 c60
      refine lv_aload_n S.1 S.2.1 dX11_walks_63 rfl (lv_at hl 3 rfl) ?_
      refine m_vi (cf := fun v => VT h r q cs (mu u 11 v)) (As := []) (rest := []) S (VT_c11 h r q cs u) hI (by rw [mu_self]) (c_X7_isSure l D (h 11) (r 11) cs (u 11) _ hw) (cwV 0 S.2.2.2.2 gX11_walks_X7_isSure rfl rfl rfl (by decide +kernel) ⟨Nat.le_of_ble_eq_true rfl, Nat.le_of_ble_eq_true rfl⟩) rfl rfl rfl hl.1 rfl (Nat.le_of_ble_eq_true rfl) dX11_walks_64 ⟨Nat.zero_le _, Nat.zero_le _⟩ (fun y64 v64 H locs hw hI => ?_)
      obtain ⟨u64, eu64⟩ : ∃ z : CS, z = mu u 11 v64 := ⟨_, rfl⟩
      have hw := hw u64 eu64
      replace hI : mI D (mT cs) A s.heap s (VT h r q cs u64) H locs := by rw [eu64]; exact hI
      refine lv_if_ne (tgt := 129) S.1 S.2.1 dX11_walks_67 (by decide) (fun c67 => ?_) (fun c67 => ?_)
      · have hw := hw.1 c67
        exact b129 u64 hw H locs ls hI (lv_sub hl [0, 3] rfl)
      · have hw := hw.2 c67
        refine lv_aload_n S.1 S.2.1 dX11_walks_70 rfl (lv_at hl 3 rfl) ?_
        refine m_getN S hin7 hI 112 (VT_o11 h r q cs u64) rfl 2 (Nat.le_of_ble_eq_true rfl) nf_X11_152 rfl (Ff7_at2 _ _) dX11_walks_71 ?_
        refine lv_if_ne (tgt := 79) S.1 S.2.1 dX11_walks_74 (by decide) (fun c74 => ?_) (fun c74 => ?_)
        · have hw := hw.1 c74
          refine lv_iload_n S.1 S.2.1 dX11_walks_79 rfl (lv_at hl 1 rfl) ?_
          refine lv_if_ne (tgt := 106) S.1 S.2.1 dX11_walks_80 (by decide) (fun c80 => ?_) (fun c80 => ?_)
          · have hw := hw.1 c80
            refine lv_aload_n S.1 S.2.1 dX11_walks_106 rfl (lv_at hl 0 rfl) ?_
            refine lv_aload_n S.1 S.2.1 dX11_walks_107 rfl (lv_at hl 3 rfl) ?_
            refine m_vi (As := [.ref (h 11)]) (rest := []) S (VT_self h r q cs) hI rfl (c_X11_firstByMean_11 l D h r q cs u64 _ hw) (cwV 1 S.2.2.2.2 gX11_walks_X11_firstByMean rfl rfl rfl (by decide +kernel) ⟨Nat.le_of_ble_eq_true rfl, Nat.le_of_ble_eq_true rfl⟩) (VT_o0 h r q cs u64) rfl rfl hl.1 rfl (Nat.le_of_ble_eq_true rfl) dX11_walks_108 ⟨Nat.zero_le _, Nat.zero_le _⟩ (fun y108 u108 H locs hw hI => ?_)
            exact b111 B56 hB56 x1 x2 x4 y108 u108 hw H locs ls hI (lv_sub hl [0, 1, 2, 3, 4] rfl)
          · have hw := hw.2 c80
            refine lv_aload_n S.1 S.2.1 dX11_walks_83 rfl (lv_at hl 3 rfl) ?_
            refine m_getN S hin7 hI 112 (VT_o11 h r q cs u64) rfl 0 (Nat.le_of_ble_eq_true rfl) nf_X11_221 rfl (Ff7_at0 _ _) dX11_walks_84 ?_
            refine lv_aload_n S.1 S.2.1 dX11_walks_87 rfl (lv_at hl 0 rfl) ?_
            refine m_get S hin11 hI 0 (VT_o0 h r q cs u64) rfl 2 (Nat.le_of_ble_eq_true rfl) (List.mem_of_getElem? (i := 1) rfl) rfl (FO11_at2 _ _ _) dX11_walks_88 ?_
            refine lv_aload_n S.1 S.2.1 dX11_walks_91 rfl (lv_at hl 3 rfl) ?_
            refine m_getN S hin7 hI 112 (VT_o11 h r q cs u64) rfl 2 (Nat.le_of_ble_eq_true rfl) nf_X11_152 rfl (Ff7_at2 _ _) dX11_walks_92 ?_
            refine lv_aload_n S.1 S.2.1 dX11_walks_95 rfl (lv_at hl 3 rfl) ?_
            refine m_vi (cf := fun v => VT h r q cs (mu u64 11 v)) (As := []) (rest := [.int (gI (u64 11) 2), .ref (h 3), .int (gI (u64 11) 0)]) S (VT_c11 h r q cs u64) hI (by rw [mu_self]) (c_X7_heights l D (h 11) (r 11) cs (u64 11) _ hw) (cwV 0 S.2.2.2.2 gX11_walks_X7_heights rfl rfl rfl (by decide +kernel) ⟨Nat.le_of_ble_eq_true rfl, Nat.le_of_ble_eq_true rfl⟩) rfl rfl rfl hl.1 rfl (Nat.le_of_ble_eq_true rfl) dX11_walks_96 ⟨Nat.zero_le _, Nat.zero_le _⟩ (fun y96 v96 H locs hw hI => ?_)
            obtain ⟨u96, eu96⟩ : ∃ z : CS, z = mu u64 11 v96 := ⟨_, rfl⟩
            have hw := hw u96 eu96
            replace hI : mI D (mT cs) A s.heap s (VT h r q cs u96) H locs := by rw [eu96]; exact hI
            refine m_vi (cf := fun v => VT h r q cs (mu u96 3 v)) (As := [.int (gI (u64 11) 2), .int y96]) (rest := [.int (gI (u64 11) 0)]) S (VT_c3 h r q cs u96) hI (by rw [mu_self]) (c_X2_first l D (h 3) (r 3) (q 3) cs (gI (u64 11) 2) y96 (u96 3) _ hw) (cwV 2 S.2.2.2.2 gX11_walks_X2_first rfl rfl rfl (by decide +kernel) ⟨Nat.le_of_ble_eq_true rfl, Nat.le_of_ble_eq_true rfl⟩) rfl rfl rfl hl.1 rfl (Nat.le_of_ble_eq_true rfl) dX11_walks_99 ⟨Nat.zero_le _, Nat.zero_le _⟩ (fun y99 v99 H locs hw hI => ?_)
            obtain ⟨u99, eu99⟩ : ∃ z : CS, z = mu u96 3 v99 := ⟨_, rfl⟩
            have hw := hw u99 eu99
            replace hI : mI D (mT cs) A s.heap s (VT h r q cs u99) H locs := by rw [eu99]; exact hI
            refine lv_iadd S.1 S.2.1 dX11_walks_102 ?_
            refine lv_topi (fun y102 ey102 => ?_)
            have hw := hw y102 ey102
            refine lv_goto (tgt := 111) S.1 S.2.1 dX11_walks_103 (by decide) ?_
            exact b111 B56 hB56 x1 x2 x4 y102 u99 hw H locs ls hI (lv_sub hl [0, 1, 2, 3, 4] rfl)
        · have hw := hw.2 c74
          refine lv_iconst (v := 0) S.1 S.2.1 dX11_walks_77 (by decide) ?_
          subst hZ
          exact m_zret S hr hlocks hI hw.1 hw.2 dX11_walks_78
  have b56 : ∀ (x1 : Int32) (x2 : Int32) (x4 : Int32) (u : CS), wp_X11_walks_p56 x1 x2 x4 u Q → mGo p l e ({ frames := 6, cells := 0, slots := 0, locals := 139 } : Room) s m args below meth c A Z 6 D (mT cs) (VT h r q cs) 56 [(0, .ref (h 0)), (1, .int x1), (2, .int x2), (3, .ref (h 11)), (4, .int x4)] [] u := by
    intro x1 x2 x4 u hw
    obtain ⟨I, μ, h0, hs⟩ := hw
    have key : ∀ (n : Nat) (x1 : Int32) (x2 : Int32) (x4 : Int32) (u : CS), μ x1 x2 x4 u = n → I x1 x2 x4 u → mGo p l e ({ frames := 6, cells := 0, slots := 0, locals := 139 } : Room) s m args below meth c A Z 6 D (mT cs) (VT h r q cs) 56 [(0, .ref (h 0)), (1, .int x1), (2, .int x2), (3, .ref (h 11)), (4, .int x4)] [] u := by
      intro n
      induction n using Nat.strongRecOn with
      | ind n ih =>
        intro x1 x2 x4 u hn hi
        exact b56b (fun yx1 yx2 yx4 yu => I yx1 yx2 yx4 yu ∧ μ yx1 yx2 yx4 yu < μ x1 x2 x4 u) (fun yx1 yx2 yx4 yu hb => ih _ (hn ▸ hb.2) yx1 yx2 yx4 yu rfl hb.1) x1 x2 x4 u (hs x1 x2 x4 u hi)
    exact key _ x1 x2 x4 u rfl h0
  unfold wp_X11_walks at hw
  obtain ⟨H, hH⟩ : ∃ z : Heap, z = s.heap := ⟨_, rfl⟩
  obtain ⟨locs, hL⟩ : ∃ z : List Loc, z = [] := ⟨_, rfl⟩
  rw [show W p l e ({ frames := 6, cells := 0, slots := 0, locals := 139 } : Room) s m args below meth c s.heap [] 0 0 Z (F0 m 0 ls []) = W p l e ({ frames := 6, cells := 0, slots := 0, locals := 139 } : Room) s m args below meth c H locs 0 0 Z (F0 m 0 ls []) by rw [hH, hL]]
  replace hI : mI D (mT cs) A s.heap s (VT h r q cs u) H locs := by rw [hH, hL]; exact hI
  refine lv_aload_n S.1 S.2.1 dX11_walks_0 rfl (lv_at hl 0 rfl) ?_
  refine m_get S hin11 hI 0 (VT_o0 h r q cs u) rfl 2 (Nat.le_of_ble_eq_true rfl) (List.mem_of_getElem? (i := 1) rfl) rfl (FO11_at2 _ _ _) dX11_walks_1 ?_
  refine lv_iconst (v := 1) S.1 S.2.1 dX11_walks_4 (by decide) ?_
  refine lv_iconst (v := 0) S.1 S.2.1 dX11_walks_5 (by decide) ?_
  refine m_vv (cf := fun v => VT h r q cs (mu u 3 v)) (As := [.int (1 : Int32), .int (0 : Int32)]) (rest := []) S (VT_c3 h r q cs u) hI (by rw [mu_self]) (c_X2_prepare l D (h 3) (r 3) (q 3) cs (1 : Int32) (0 : Int32) (u 3) _ hw) (cwV 2 S.2.2.2.2 gX11_walks_X2_prepare rfl rfl rfl (by decide +kernel) ⟨Nat.le_of_ble_eq_true rfl, Nat.le_of_ble_eq_true rfl⟩) rfl rfl rfl hl.1 rfl (Nat.le_of_ble_eq_true rfl) dX11_walks_6 ⟨Nat.zero_le _, Nat.zero_le _⟩ (fun v6 H locs hw hI => ?_)
  obtain ⟨u6, eu6⟩ : ∃ z : CS, z = mu u 3 v6 := ⟨_, rfl⟩
  have hw := hw u6 eu6
  replace hI : mI D (mT cs) A s.heap s (VT h r q cs u6) H locs := by rw [eu6]; exact hI
  refine lv_aload_n S.1 S.2.1 dX11_walks_9 rfl (lv_at hl 0 rfl) ?_
  refine m_get S hin11 hI 0 (VT_o0 h r q cs u6) rfl 5 (Nat.le_of_ble_eq_true rfl) (List.mem_of_getElem? (i := 2) rfl) rfl (FO11_at5 _ _ _) dX11_walks_10 ?_
  refine lv_aload_n S.1 S.2.1 dX11_walks_13 rfl (lv_at hl 0 rfl) ?_
  refine m_get S hin11 hI 0 (VT_o0 h r q cs u6) rfl 1 (Nat.le_of_ble_eq_true rfl) (List.mem_of_getElem? (i := 3) rfl) rfl (FO11_at1 _ _ _) dX11_walks_14 ?_
  refine lv_aload_n S.1 S.2.1 dX11_walks_17 rfl (lv_at hl 0 rfl) ?_
  refine m_get S hin11 hI 0 (VT_o0 h r q cs u6) rfl 0 (Nat.le_of_ble_eq_true rfl) (List.mem_of_getElem? (i := 4) rfl) rfl (FO11_at0 _ _ _) dX11_walks_18 ?_
  refine m_vv (cf := fun v => VT h r q cs (emb u6 [6, 2, 1] v)) (As := [.ref (h 2), .ref (h 1)]) (rest := []) S (VT_k_mw_6_2_1 h r q cs u6) hI (by rw [emb_self]) (c_X4_weigh l D (fun i => h ([6, 2, 1].getD i 0)) (fun i => rE r (gI (u6 24) 0) ([6, 2, 1].getD i 0)) (fun i => q ([6, 2, 1].getD i 0)) cs (fun i => u6 ([6, 2, 1].getD i 0)) _ hw) (cwV 2 S.2.2.2.2 gX11_walks_X4_weigh rfl rfl rfl (by decide +kernel) ⟨Nat.le_of_ble_eq_true rfl, Nat.le_of_ble_eq_true rfl⟩) rfl rfl rfl hl.1 rfl (Nat.le_of_ble_eq_true rfl) dX11_walks_21 ⟨Nat.zero_le _, Nat.zero_le _⟩ (fun v21 H locs hw hI => ?_)
  obtain ⟨u21, eu21⟩ : ∃ z : CS, z = emb u6 [6, 2, 1] v21 := ⟨_, rfl⟩
  have hw := hw u21 eu21
  replace hI : mI D (mT cs) A s.heap s (VT h r q cs u21) H locs := by rw [eu21]; exact hI
  refine lv_aload_n S.1 S.2.1 dX11_walks_24 rfl (lv_at hl 0 rfl) ?_
  refine m_get S hin11 hI 0 (VT_o0 h r q cs u21) rfl 9 (Nat.le_of_ble_eq_true rfl) (List.mem_of_getElem? (i := 5) rfl) rfl (FO11_at9 _ _ _) dX11_walks_25 ?_
  refine m_getN S hin10 hI 110 (VT_o10 h r q cs u21) rfl 1 (Nat.le_of_ble_eq_true rfl) nf_X11_373 rfl (FO10_at1 _ _ _) dX11_walks_28 ?_
  refine lv_astore_n (lv' := [(3, .ref (h 11)), (0, .ref (h 0)), (1, .int a1), (2, .int a2)]) S.1 S.2.1 dX11_walks_31 rfl hl (by decide) rfl (fun ls hl => ?_)
  refine lv_aload_n S.1 S.2.1 dX11_walks_32 rfl (lv_at hl 1 rfl) ?_
  refine m_get S hin11 hI 0 (VT_o0 h r q cs u21) rfl 9 (Nat.le_of_ble_eq_true rfl) (List.mem_of_getElem? (i := 5) rfl) rfl (FO11_at9 _ _ _) dX11_walks_33 ?_
  refine lv_aload_n S.1 S.2.1 dX11_walks_36 rfl (lv_at hl 1 rfl) ?_
  refine m_get S hin11 hI 0 (VT_o0 h r q cs u21) rfl 0 (Nat.le_of_ble_eq_true rfl) (List.mem_of_getElem? (i := 4) rfl) rfl (FO11_at0 _ _ _) dX11_walks_37 ?_
  refine m_vi (cf := fun v => VT h r q cs (mu u21 1 v)) (As := []) (rest := [.ref (h 10)]) S (VT_c1 h r q cs u21) hI (by rw [mu_self]) (c_X8_steps l D (h 1) (r 1) cs (u21 1) _ hw) (cwV 0 S.2.2.2.2 gX11_walks_X8_steps rfl rfl rfl (by decide +kernel) ⟨Nat.le_of_ble_eq_true rfl, Nat.le_of_ble_eq_true rfl⟩) rfl rfl rfl hl.1 rfl (Nat.le_of_ble_eq_true rfl) dX11_walks_40 ⟨Nat.zero_le _, Nat.zero_le _⟩ (fun y40 v40 H locs hw hI => ?_)
  obtain ⟨u40, eu40⟩ : ∃ z : CS, z = mu u21 1 v40 := ⟨_, rfl⟩
  have hw := hw u40 eu40
  replace hI : mI D (mT cs) A s.heap s (VT h r q cs u40) H locs := by rw [eu40]; exact hI
  refine lv_aload_n S.1 S.2.1 dX11_walks_43 rfl (lv_at hl 1 rfl) ?_
  refine m_get S hin11 hI 0 (VT_o0 h r q cs u40) rfl 0 (Nat.le_of_ble_eq_true rfl) (List.mem_of_getElem? (i := 4) rfl) rfl (FO11_at0 _ _ _) dX11_walks_44 ?_
  refine m_vi (cf := fun v => VT h r q cs (mu u40 1 v)) (As := []) (rest := [.int y40, .ref (h 10)]) S (VT_c1 h r q cs u40) hI (by rw [mu_self]) (c_X8_jars l D (h 1) (r 1) cs (u40 1) _ hw) (cwV 0 S.2.2.2.2 gX11_walks_X8_jars rfl rfl rfl (by decide +kernel) ⟨Nat.le_of_ble_eq_true rfl, Nat.le_of_ble_eq_true rfl⟩) rfl rfl rfl hl.1 rfl (Nat.le_of_ble_eq_true rfl) dX11_walks_47 ⟨Nat.zero_le _, Nat.zero_le _⟩ (fun y47 v47 H locs hw hI => ?_)
  obtain ⟨u47, eu47⟩ : ∃ z : CS, z = mu u40 1 v47 := ⟨_, rfl⟩
  have hw := hw u47 eu47
  replace hI : mI D (mT cs) A s.heap s (VT h r q cs u47) H locs := by rw [eu47]; exact hI
  refine m_vv (cf := fun v => VT h r q cs (emb u47 [10, 11] v)) (As := [.int y40, .int y47]) (rest := []) S (VT_k_wk_10_11 h r q cs u47) hI (by rw [emb_self]) (c_X10_begin l D (fun i => h ([10, 11].getD i 0)) (fun i => rE r (gI (u47 24) 0) ([10, 11].getD i 0)) (fun i => q ([10, 11].getD i 0)) cs y40 y47 (fun i => u47 ([10, 11].getD i 0)) _ hw) (cwV 2 S.2.2.2.2 gX11_walks_X10_begin rfl rfl rfl (by decide +kernel) ⟨Nat.le_of_ble_eq_true rfl, Nat.le_of_ble_eq_true rfl⟩) rfl rfl rfl hl.1 rfl (Nat.le_of_ble_eq_true rfl) dX11_walks_50 ⟨Nat.zero_le _, Nat.zero_le _⟩ (fun v50 H locs hw hI => ?_)
  obtain ⟨u50, eu50⟩ : ∃ z : CS, z = emb u47 [10, 11] v50 := ⟨_, rfl⟩
  have hw := hw u50 eu50
  replace hI : mI D (mT cs) A s.heap s (VT h r q cs u50) H locs := by rw [eu50]; exact hI
  refine lv_iconst (v := 0) S.1 S.2.1 dX11_walks_53 (by decide) ?_
  refine lv_istore (lv' := [(4, .int (0 : Int32)), (3, .ref (h 11)), (0, .ref (h 0)), (1, .int a1), (2, .int a2)]) S.1 S.2.1 dX11_walks_54 hl (by decide) rfl (fun ls hl => ?_)
  exact b56 a1 a2 (0 : Int32) u50 hw H locs ls hI (lv_sub hl [2, 3, 4, 1, 0] rfl)

theorem VT_sh (h : Nat → Nat) (r : Nat → Nat → Nat) (q : Nat → Nat → Nat → Nat) (cs : Nat → ClassId) (U : CS) : (VT h r q cs U)[1]? = some (r 0 14, .inl (cs 5, 6, .inr (.inr (.inr (.inr (srow (fun i => h (0 + (18 + i)))))))))  := rfl
theorem VT_oS (h : Nat → Nat) (r : Nat → Nat → Nat) (q : Nat → Nat → Nat → Nat) (cs : Nat → ClassId) (U : CS) {s : Nat} (hs : s < 6) : (VT h r q cs U)[121 + 2 * s]? = some (h (18 + s), .inr (6, Ff6 (r (18 + s)) (U (18 + s)))) := by
  match s, hs with
  | 0, _ => rfl
  | 1, _ => rfl
  | 2, _ => rfl
  | 3, _ => rfl
  | 4, _ => rfl
  | 5, _ => rfl
theorem VT_cS (h : Nat → Nat) (r : Nat → Nat → Nat) (q : Nat → Nat → Nat → Nat) (cs : Nat → ClassId) (U : CS) {s : Nat} (hs : s < 6) : ∀ v : ST, (VT h r q cs (mu U (18 + s) v)).Perm ([] ++ (W6 (h (18 + s)) (r (18 + s)) cs v ++ ([0, 1, 2, 3, 4, 5, 6, 7, 8, 9, 10, 11, 12, 13, 14, 15, 16, 17, 18, 19, 20, 21, 22, 23, 24].filter (fun k => k != 18 + s)).flatMap (cTT h r q cs U))) := by
  intro v
  match s, hs with
  | 0, _ => exact (front_perm (cTT h r q cs (mu U 18 v)) (l := [0, 1, 2, 3, 4, 5, 6, 7, 8, 9, 10, 11, 12, 13, 14, 15, 16, 17, 18, 19, 20, 21, 22, 23, 24]) (ks := [18]) (rest := [0, 1, 2, 3, 4, 5, 6, 7, 8, 9, 10, 11, 12, 13, 14, 15, 16, 17, 19, 20, 21, 22, 23, 24]) (by decide)).trans (List.Perm.of_eq (by rw [show [18].flatMap (cTT h r q cs (mu U 18 v)) = W6 (h 18) (r 18) cs v from List.append_nil _]; rfl))
  | 1, _ => exact (front_perm (cTT h r q cs (mu U 19 v)) (l := [0, 1, 2, 3, 4, 5, 6, 7, 8, 9, 10, 11, 12, 13, 14, 15, 16, 17, 18, 19, 20, 21, 22, 23, 24]) (ks := [19]) (rest := [0, 1, 2, 3, 4, 5, 6, 7, 8, 9, 10, 11, 12, 13, 14, 15, 16, 17, 18, 20, 21, 22, 23, 24]) (by decide)).trans (List.Perm.of_eq (by rw [show [19].flatMap (cTT h r q cs (mu U 19 v)) = W6 (h 19) (r 19) cs v from List.append_nil _]; rfl))
  | 2, _ => exact (front_perm (cTT h r q cs (mu U 20 v)) (l := [0, 1, 2, 3, 4, 5, 6, 7, 8, 9, 10, 11, 12, 13, 14, 15, 16, 17, 18, 19, 20, 21, 22, 23, 24]) (ks := [20]) (rest := [0, 1, 2, 3, 4, 5, 6, 7, 8, 9, 10, 11, 12, 13, 14, 15, 16, 17, 18, 19, 21, 22, 23, 24]) (by decide)).trans (List.Perm.of_eq (by rw [show [20].flatMap (cTT h r q cs (mu U 20 v)) = W6 (h 20) (r 20) cs v from List.append_nil _]; rfl))
  | 3, _ => exact (front_perm (cTT h r q cs (mu U 21 v)) (l := [0, 1, 2, 3, 4, 5, 6, 7, 8, 9, 10, 11, 12, 13, 14, 15, 16, 17, 18, 19, 20, 21, 22, 23, 24]) (ks := [21]) (rest := [0, 1, 2, 3, 4, 5, 6, 7, 8, 9, 10, 11, 12, 13, 14, 15, 16, 17, 18, 19, 20, 22, 23, 24]) (by decide)).trans (List.Perm.of_eq (by rw [show [21].flatMap (cTT h r q cs (mu U 21 v)) = W6 (h 21) (r 21) cs v from List.append_nil _]; rfl))
  | 4, _ => exact (front_perm (cTT h r q cs (mu U 22 v)) (l := [0, 1, 2, 3, 4, 5, 6, 7, 8, 9, 10, 11, 12, 13, 14, 15, 16, 17, 18, 19, 20, 21, 22, 23, 24]) (ks := [22]) (rest := [0, 1, 2, 3, 4, 5, 6, 7, 8, 9, 10, 11, 12, 13, 14, 15, 16, 17, 18, 19, 20, 21, 23, 24]) (by decide)).trans (List.Perm.of_eq (by rw [show [22].flatMap (cTT h r q cs (mu U 22 v)) = W6 (h 22) (r 22) cs v from List.append_nil _]; rfl))
  | 5, _ => exact (front_perm (cTT h r q cs (mu U 23 v)) (l := [0, 1, 2, 3, 4, 5, 6, 7, 8, 9, 10, 11, 12, 13, 14, 15, 16, 17, 18, 19, 20, 21, 22, 23, 24]) (ks := [23]) (rest := [0, 1, 2, 3, 4, 5, 6, 7, 8, 9, 10, 11, 12, 13, 14, 15, 16, 17, 18, 19, 20, 21, 22, 24]) (by decide)).trans (List.Perm.of_eq (by rw [show [23].flatMap (cTT h r q cs (mu U 23 v)) = W6 (h 23) (r 23) cs v from List.append_nil _]; rfl))
def wp_X11_refusesBytes_p54 (t0 : Int32) (u : CS) (Q : Int32 → CS → Prop) : Prop :=
  Q t0 u
def wp_X11_refusesBytes_p52 (u : CS) (Q : Int32 → CS → Prop) : Prop :=
  wp_X11_refusesBytes_p54 ((-12) : Int32) u Q
def wp_X11_refusesBytes (a1 : Int32) (u : CS) (Q : Int32 → CS → Prop) : Prop :=
  (wp_X11_isShelf a1 (fun y1 => ((¬ y1 = 0 → (vp_in a1 6 ∧ (wp_X6_isEmpty (u (18 + a1.toNatClampNeg)) (fun y15 v15 => ∀ u15 : CS, u15 = mu u (18 + a1.toNatClampNeg) v15 → ((y15 = 0 → (vp_in a1 6 ∧ (wp_X6_isRow (u15 (18 + a1.toNatClampNeg)) (fun y30 v30 => ∀ u30 : CS, u30 = mu u15 (18 + a1.toNatClampNeg) v30 → ((y30 = 0 → wp_X11_refusesBytes_p52 u30 Q) ∧ (¬ y30 = 0 → (vp_in a1 6 ∧ ((¬ (gI (u30 (18 + a1.toNatClampNeg)) 2) = 0 → wp_X11_refusesBytes_p52 u30 Q) ∧ ((gI (u30 (18 + a1.toNatClampNeg)) 2) = 0 → wp_X11_refusesBytes_p54 (0 : Int32) u30 Q))))))))) ∧ (¬ y15 = 0 → Q ((-11) : Int32) u15)))))) ∧ (y1 = 0 → Q ((-1) : Int32) u))))
set_option maxHeartbeats 4000000 in
set_option maxRecDepth 100000 in
theorem c_X11_refusesBytes (l : Launch) (D : va_G) (h : Nat → Nat) (r : Nat → Nat → Nat) (q : Nat → Nat → Nat → Nat) (cs : Nat → ClassId) (a1 : Int32) (u : CS) (Q : Int32 → CS → Prop) (hw : wp_X11_refusesBytes a1 u Q) : mCi l yX11_refusesBytes wsX11_refusesBytes ({ frames := 2, cells := 0, slots := 0, locals := 42 } : Room) 0 0 D (mT cs) (VT h r q cs) [.ref (h 0), .int a1] u Q := by
  unfold mCi
  refine m_enter (QQ := fun A => va_Qi Q (mPos D (mT cs) A (VT h r q cs)) A) (cc := cX11_refusesBytes) (maxL := 2) (ret := (some .int)) (by decide) rfl (Nat.le_of_ble_eq_true rfl) ?_
  intro p e s m args below meth c A ls S hr hlocks hname hl hI
  have S : CallFix p m c cX11_refusesBytes 2 s args wsX11_refusesBytes RX11 := S
  show W p l e ({ frames := 2, cells := 0, slots := 0, locals := 42 } : Room) s m args below meth c s.heap [] 0 0 (MQ below (va_Qi Q (mPos D (mT cs) A (VT h r q cs)) A) args s 0 0 A) (F0 m 0 ls [])
  generalize hZ : MQ below (va_Qi Q (mPos D (mT cs) A (VT h r q cs)) A) args s 0 0 A = Z
  have hin6 : ∀ w ∈ wsX60, w ∈ wsX11_refusesBytes := fun _ h => List.mem_cons_of_mem _ (List.mem_append_right _ h)
  have hin11 : ∀ w ∈ wsX110, w ∈ wsX11_refusesBytes := fun _ h => List.mem_cons_of_mem _ (List.mem_append_left _ (List.mem_append_right _ h))
  have hl : lv_has ls 2 [(0, .ref (h 0)), (1, .int a1)] := hl
  have b54 : ∀ (t0 : Int32) (u : CS), wp_X11_refusesBytes_p54 t0 u Q → mGo p l e ({ frames := 2, cells := 0, slots := 0, locals := 42 } : Room) s m args below meth c A Z 2 D (mT cs) (VT h r q cs) 54 [(0, .ref (h 0))] [.int t0] u := by
    intro t0 u hw H locs ls hI hl
    unfold wp_X11_refusesBytes_p54 at hw
    subst hZ
    exact m_iret S hr hlocks hI hw dX11_refusesBytes_54
  have b52 : ∀ (u : CS), wp_X11_refusesBytes_p52 u Q → mGo p l e ({ frames := 2, cells := 0, slots := 0, locals := 42 } : Room) s m args below meth c A Z 2 D (mT cs) (VT h r q cs) 52 [(0, .ref (h 0))] [] u := by
    intro u hw H locs ls hI hl
    unfold wp_X11_refusesBytes_p52 at hw
    refine lv_bipush (v := (-12)) S.1 S.2.1 dX11_refusesBytes_52 (by decide) ?_
    exact b54 ((-12) : Int32) u hw H locs ls hI (lv_sub hl [0] rfl)
  unfold wp_X11_refusesBytes at hw
  obtain ⟨H, hH⟩ : ∃ z : Heap, z = s.heap := ⟨_, rfl⟩
  obtain ⟨locs, hL⟩ : ∃ z : List Loc, z = [] := ⟨_, rfl⟩
  rw [show W p l e ({ frames := 2, cells := 0, slots := 0, locals := 42 } : Room) s m args below meth c s.heap [] 0 0 Z (F0 m 0 ls []) = W p l e ({ frames := 2, cells := 0, slots := 0, locals := 42 } : Room) s m args below meth c H locs 0 0 Z (F0 m 0 ls []) by rw [hH, hL]]
  replace hI : mI D (mT cs) A s.heap s (VT h r q cs u) H locs := by rw [hH, hL]; exact hI
  refine lv_iload_n S.1 S.2.1 dX11_refusesBytes_0 rfl (lv_at hl 1 rfl) ?_
  refine m_si (As := [.int a1]) (rest := []) S hI.2.2.2.1.2.1 (c_X11_isShelf l a1 _ hw) (va_cwS 1 S.2.2.2.2 gX11_refusesBytes_X11_isShelf rfl rfl rfl (by decide +kernel) ⟨Nat.le_of_ble_eq_true rfl, Nat.le_of_ble_eq_true rfl⟩) rfl hl.1 rfl (Nat.le_of_ble_eq_true rfl) dX11_refusesBytes_1 ⟨Nat.zero_le _, Nat.zero_le _⟩ (fun y1 hw => ?_)
  refine lv_if_ne (tgt := 9) S.1 S.2.1 dX11_refusesBytes_4 (by decide) (fun c4 => ?_) (fun c4 => ?_)
  · have hw := hw.1 c4
    refine lv_aload_n S.1 S.2.1 dX11_refusesBytes_9 rfl (lv_at hl 0 rfl) ?_
    refine m_get S hin11 hI 0 (VT_o0 h r q cs u) rfl 14 (Nat.le_of_ble_eq_true rfl) (List.mem_of_getElem? (i := 1) rfl) rfl (FO11_at14 _ _ _) dX11_refusesBytes_10 ?_
    refine lv_iload_n S.1 S.2.1 dX11_refusesBytes_13 rfl (lv_at hl 1 rfl) ?_
    have hj14 := mlt hw.1
    refine m_aals S hI 1 5 (VT_sh h r q cs u) rfl hw.1 dX11_refusesBytes_14 ?_
    have hw := hw.2
    rw [show h (0 + (18 + a1.toNatClampNeg)) = h (18 + a1.toNatClampNeg) from congrArg h (Nat.zero_add _)]
    refine m_vi (cf := fun v => VT h r q cs (mu u (18 + a1.toNatClampNeg) v)) (As := []) (rest := []) S (VT_cS h r q cs u hj14) hI (by rw [mu_self]) (c_X6_isEmpty l D (h (18 + a1.toNatClampNeg)) (r (18 + a1.toNatClampNeg)) cs (u (18 + a1.toNatClampNeg)) _ hw) (cwV 0 S.2.2.2.2 gX11_refusesBytes_X6_isEmpty rfl rfl rfl (by decide +kernel) ⟨Nat.le_of_ble_eq_true rfl, Nat.le_of_ble_eq_true rfl⟩) rfl rfl rfl hl.1 rfl (Nat.le_of_ble_eq_true rfl) dX11_refusesBytes_15 ⟨Nat.zero_le _, Nat.zero_le _⟩ (fun y15 v15 H locs hw hI => ?_)
    obtain ⟨u15, eu15⟩ : ∃ z : CS, z = mu u (18 + a1.toNatClampNeg) v15 := ⟨_, rfl⟩
    have hw := hw u15 eu15
    replace hI : mI D (mT cs) A s.heap s (VT h r q cs u15) H locs := by rw [eu15]; exact hI
    refine lv_if_eq (tgt := 24) S.1 S.2.1 dX11_refusesBytes_18 (by decide) (fun c18 => ?_) (fun c18 => ?_)
    · have hw := hw.1 c18
      refine lv_aload_n S.1 S.2.1 dX11_refusesBytes_24 rfl (lv_at hl 0 rfl) ?_
      refine m_get S hin11 hI 0 (VT_o0 h r q cs u15) rfl 14 (Nat.le_of_ble_eq_true rfl) (List.mem_of_getElem? (i := 1) rfl) rfl (FO11_at14 _ _ _) dX11_refusesBytes_25 ?_
      refine lv_iload_n S.1 S.2.1 dX11_refusesBytes_28 rfl (lv_at hl 1 rfl) ?_
      have hj29 := mlt hw.1
      refine m_aals S hI 1 5 (VT_sh h r q cs u15) rfl hw.1 dX11_refusesBytes_29 ?_
      have hw := hw.2
      rw [show h (0 + (18 + a1.toNatClampNeg)) = h (18 + a1.toNatClampNeg) from congrArg h (Nat.zero_add _)]
      refine m_vi (cf := fun v => VT h r q cs (mu u15 (18 + a1.toNatClampNeg) v)) (As := []) (rest := []) S (VT_cS h r q cs u15 hj29) hI (by rw [mu_self]) (c_X6_isRow l D (h (18 + a1.toNatClampNeg)) (r (18 + a1.toNatClampNeg)) cs (u15 (18 + a1.toNatClampNeg)) _ hw) (cwV 0 S.2.2.2.2 gX11_refusesBytes_X6_isRow rfl rfl rfl (by decide +kernel) ⟨Nat.le_of_ble_eq_true rfl, Nat.le_of_ble_eq_true rfl⟩) rfl rfl rfl hl.1 rfl (Nat.le_of_ble_eq_true rfl) dX11_refusesBytes_30 ⟨Nat.zero_le _, Nat.zero_le _⟩ (fun y30 v30 H locs hw hI => ?_)
      obtain ⟨u30, eu30⟩ : ∃ z : CS, z = mu u15 (18 + a1.toNatClampNeg) v30 := ⟨_, rfl⟩
      have hw := hw u30 eu30
      replace hI : mI D (mT cs) A s.heap s (VT h r q cs u30) H locs := by rw [eu30]; exact hI
      refine lv_if_eq (tgt := 52) S.1 S.2.1 dX11_refusesBytes_33 (by decide) (fun c33 => ?_) (fun c33 => ?_)
      · have hw := hw.1 c33
        exact b52 u30 hw H locs ls hI (lv_sub hl [0] rfl)
      · have hw := hw.2 c33
        refine lv_aload_n S.1 S.2.1 dX11_refusesBytes_36 rfl (lv_at hl 0 rfl) ?_
        refine m_get S hin11 hI 0 (VT_o0 h r q cs u30) rfl 14 (Nat.le_of_ble_eq_true rfl) (List.mem_of_getElem? (i := 1) rfl) rfl (FO11_at14 _ _ _) dX11_refusesBytes_37 ?_
        refine lv_iload_n S.1 S.2.1 dX11_refusesBytes_40 rfl (lv_at hl 1 rfl) ?_
        have hj41 := mlt hw.1
        refine m_aals S hI 1 5 (VT_sh h r q cs u30) rfl hw.1 dX11_refusesBytes_41 ?_
        have hw := hw.2
        rw [show h (0 + (18 + a1.toNatClampNeg)) = h (18 + a1.toNatClampNeg) from congrArg h (Nat.zero_add _)]
        refine m_getN S hin6 hI (121 + 2 * a1.toNatClampNeg) (VT_oS h r q cs u30 hj41) rfl 2 (Nat.le_of_ble_eq_true rfl) nf_X11_329 rfl (Ff6_at2 _ _) dX11_refusesBytes_42 ?_
        refine lv_if_ne (tgt := 52) S.1 S.2.1 dX11_refusesBytes_45 (by decide) (fun c45 => ?_) (fun c45 => ?_)
        · have hw := hw.1 c45
          exact b52 u30 hw H locs ls hI (lv_sub hl [0] rfl)
        · have hw := hw.2 c45
          refine lv_iconst (v := 0) S.1 S.2.1 dX11_refusesBytes_48 (by decide) ?_
          refine lv_goto (tgt := 54) S.1 S.2.1 dX11_refusesBytes_49 (by decide) ?_
          exact b54 (0 : Int32) u30 hw H locs ls hI (lv_sub hl [0] rfl)
    · have hw := hw.2 c18
      refine lv_bipush (v := (-11)) S.1 S.2.1 dX11_refusesBytes_21 (by decide) ?_
      subst hZ
      exact m_iret S hr hlocks hI hw dX11_refusesBytes_23
  · have hw := hw.2 c4
    refine lv_iconst (v := (-1)) S.1 S.2.1 dX11_refusesBytes_7 (by decide) ?_
    subst hZ
    exact m_iret S hr hlocks hI hw dX11_refusesBytes_8

def wp_X11_refusesPlace_p59 (t0 : Int32) (u : CS) (Q : Int32 → CS → Prop) : Prop :=
  Q t0 u
def wp_X11_refusesPlace (a1 : Int32) (a2 : Int32) (u : CS) (Q : Int32 → CS → Prop) : Prop :=
  (wp_X11_isShelf a1 (fun y1 => ((¬ y1 = 0 → (vp_in a1 6 ∧ (wp_X6_isEmpty (u (18 + a1.toNatClampNeg)) (fun y15 v15 => ∀ u15 : CS, u15 = mu u (18 + a1.toNatClampNeg) v15 → ((y15 = 0 → (vp_in a1 6 ∧ (wp_X6_isRow (u15 (18 + a1.toNatClampNeg)) (fun y30 v30 => ∀ u30 : CS, u30 = mu u15 (18 + a1.toNatClampNeg) v30 → ((¬ y30 = 0 → (vp_in a1 6 ∧ (wp_X6_hasPlaces a2 (1 : Int32) (u30 (18 + a1.toNatClampNeg)) (fun y47 v47 => ∀ u47 : CS, u47 = mu u30 (18 + a1.toNatClampNeg) v47 → ((y47 = 0 → wp_X11_refusesPlace_p59 ((-13) : Int32) u47 Q) ∧ (¬ y47 = 0 → wp_X11_refusesPlace_p59 (0 : Int32) u47 Q)))))) ∧ (y30 = 0 → Q ((-12) : Int32) u30)))))) ∧ (¬ y15 = 0 → Q ((-11) : Int32) u15)))))) ∧ (y1 = 0 → Q ((-1) : Int32) u))))
set_option maxHeartbeats 4000000 in
set_option maxRecDepth 100000 in
theorem c_X11_refusesPlace (l : Launch) (D : va_G) (h : Nat → Nat) (r : Nat → Nat → Nat) (q : Nat → Nat → Nat → Nat) (cs : Nat → ClassId) (a1 : Int32) (a2 : Int32) (u : CS) (Q : Int32 → CS → Prop) (hw : wp_X11_refusesPlace a1 a2 u Q) : mCi l yX11_refusesPlace wsX11_refusesPlace ({ frames := 2, cells := 0, slots := 0, locals := 42 } : Room) 0 0 D (mT cs) (VT h r q cs) [.ref (h 0), .int a1, .int a2] u Q := by
  unfold mCi
  refine m_enter (QQ := fun A => va_Qi Q (mPos D (mT cs) A (VT h r q cs)) A) (cc := cX11_refusesPlace) (maxL := 3) (ret := (some .int)) (by decide) rfl (Nat.le_of_ble_eq_true rfl) ?_
  intro p e s m args below meth c A ls S hr hlocks hname hl hI
  have S : CallFix p m c cX11_refusesPlace 3 s args wsX11_refusesPlace RX11 := S
  show W p l e ({ frames := 2, cells := 0, slots := 0, locals := 42 } : Room) s m args below meth c s.heap [] 0 0 (MQ below (va_Qi Q (mPos D (mT cs) A (VT h r q cs)) A) args s 0 0 A) (F0 m 0 ls [])
  generalize hZ : MQ below (va_Qi Q (mPos D (mT cs) A (VT h r q cs)) A) args s 0 0 A = Z
  have hin6 : ∀ w ∈ wsX60, w ∈ wsX11_refusesPlace := fun _ h => List.mem_cons_of_mem _ (List.mem_append_right _ h)
  have hin11 : ∀ w ∈ wsX110, w ∈ wsX11_refusesPlace := fun _ h => List.mem_cons_of_mem _ (List.mem_append_left _ (List.mem_append_right _ h))
  have hl : lv_has ls 3 [(0, .ref (h 0)), (1, .int a1), (2, .int a2)] := hl
  have b59 : ∀ (t0 : Int32) (u : CS), wp_X11_refusesPlace_p59 t0 u Q → mGo p l e ({ frames := 2, cells := 0, slots := 0, locals := 42 } : Room) s m args below meth c A Z 3 D (mT cs) (VT h r q cs) 59 [(0, .ref (h 0))] [.int t0] u := by
    intro t0 u hw H locs ls hI hl
    unfold wp_X11_refusesPlace_p59 at hw
    subst hZ
    exact m_iret S hr hlocks hI hw dX11_refusesPlace_59
  unfold wp_X11_refusesPlace at hw
  obtain ⟨H, hH⟩ : ∃ z : Heap, z = s.heap := ⟨_, rfl⟩
  obtain ⟨locs, hL⟩ : ∃ z : List Loc, z = [] := ⟨_, rfl⟩
  rw [show W p l e ({ frames := 2, cells := 0, slots := 0, locals := 42 } : Room) s m args below meth c s.heap [] 0 0 Z (F0 m 0 ls []) = W p l e ({ frames := 2, cells := 0, slots := 0, locals := 42 } : Room) s m args below meth c H locs 0 0 Z (F0 m 0 ls []) by rw [hH, hL]]
  replace hI : mI D (mT cs) A s.heap s (VT h r q cs u) H locs := by rw [hH, hL]; exact hI
  refine lv_iload_n S.1 S.2.1 dX11_refusesPlace_0 rfl (lv_at hl 1 rfl) ?_
  refine m_si (As := [.int a1]) (rest := []) S hI.2.2.2.1.2.1 (c_X11_isShelf l a1 _ hw) (va_cwS 1 S.2.2.2.2 gX11_refusesPlace_X11_isShelf rfl rfl rfl (by decide +kernel) ⟨Nat.le_of_ble_eq_true rfl, Nat.le_of_ble_eq_true rfl⟩) rfl hl.1 rfl (Nat.le_of_ble_eq_true rfl) dX11_refusesPlace_1 ⟨Nat.zero_le _, Nat.zero_le _⟩ (fun y1 hw => ?_)
  refine lv_if_ne (tgt := 9) S.1 S.2.1 dX11_refusesPlace_4 (by decide) (fun c4 => ?_) (fun c4 => ?_)
  · have hw := hw.1 c4
    refine lv_aload_n S.1 S.2.1 dX11_refusesPlace_9 rfl (lv_at hl 0 rfl) ?_
    refine m_get S hin11 hI 0 (VT_o0 h r q cs u) rfl 14 (Nat.le_of_ble_eq_true rfl) (List.mem_of_getElem? (i := 1) rfl) rfl (FO11_at14 _ _ _) dX11_refusesPlace_10 ?_
    refine lv_iload_n S.1 S.2.1 dX11_refusesPlace_13 rfl (lv_at hl 1 rfl) ?_
    have hj14 := mlt hw.1
    refine m_aals S hI 1 5 (VT_sh h r q cs u) rfl hw.1 dX11_refusesPlace_14 ?_
    have hw := hw.2
    rw [show h (0 + (18 + a1.toNatClampNeg)) = h (18 + a1.toNatClampNeg) from congrArg h (Nat.zero_add _)]
    refine m_vi (cf := fun v => VT h r q cs (mu u (18 + a1.toNatClampNeg) v)) (As := []) (rest := []) S (VT_cS h r q cs u hj14) hI (by rw [mu_self]) (c_X6_isEmpty l D (h (18 + a1.toNatClampNeg)) (r (18 + a1.toNatClampNeg)) cs (u (18 + a1.toNatClampNeg)) _ hw) (cwV 0 S.2.2.2.2 gX11_refusesPlace_X6_isEmpty rfl rfl rfl (by decide +kernel) ⟨Nat.le_of_ble_eq_true rfl, Nat.le_of_ble_eq_true rfl⟩) rfl rfl rfl hl.1 rfl (Nat.le_of_ble_eq_true rfl) dX11_refusesPlace_15 ⟨Nat.zero_le _, Nat.zero_le _⟩ (fun y15 v15 H locs hw hI => ?_)
    obtain ⟨u15, eu15⟩ : ∃ z : CS, z = mu u (18 + a1.toNatClampNeg) v15 := ⟨_, rfl⟩
    have hw := hw u15 eu15
    replace hI : mI D (mT cs) A s.heap s (VT h r q cs u15) H locs := by rw [eu15]; exact hI
    refine lv_if_eq (tgt := 24) S.1 S.2.1 dX11_refusesPlace_18 (by decide) (fun c18 => ?_) (fun c18 => ?_)
    · have hw := hw.1 c18
      refine lv_aload_n S.1 S.2.1 dX11_refusesPlace_24 rfl (lv_at hl 0 rfl) ?_
      refine m_get S hin11 hI 0 (VT_o0 h r q cs u15) rfl 14 (Nat.le_of_ble_eq_true rfl) (List.mem_of_getElem? (i := 1) rfl) rfl (FO11_at14 _ _ _) dX11_refusesPlace_25 ?_
      refine lv_iload_n S.1 S.2.1 dX11_refusesPlace_28 rfl (lv_at hl 1 rfl) ?_
      have hj29 := mlt hw.1
      refine m_aals S hI 1 5 (VT_sh h r q cs u15) rfl hw.1 dX11_refusesPlace_29 ?_
      have hw := hw.2
      rw [show h (0 + (18 + a1.toNatClampNeg)) = h (18 + a1.toNatClampNeg) from congrArg h (Nat.zero_add _)]
      refine m_vi (cf := fun v => VT h r q cs (mu u15 (18 + a1.toNatClampNeg) v)) (As := []) (rest := []) S (VT_cS h r q cs u15 hj29) hI (by rw [mu_self]) (c_X6_isRow l D (h (18 + a1.toNatClampNeg)) (r (18 + a1.toNatClampNeg)) cs (u15 (18 + a1.toNatClampNeg)) _ hw) (cwV 0 S.2.2.2.2 gX11_refusesPlace_X6_isRow rfl rfl rfl (by decide +kernel) ⟨Nat.le_of_ble_eq_true rfl, Nat.le_of_ble_eq_true rfl⟩) rfl rfl rfl hl.1 rfl (Nat.le_of_ble_eq_true rfl) dX11_refusesPlace_30 ⟨Nat.zero_le _, Nat.zero_le _⟩ (fun y30 v30 H locs hw hI => ?_)
      obtain ⟨u30, eu30⟩ : ∃ z : CS, z = mu u15 (18 + a1.toNatClampNeg) v30 := ⟨_, rfl⟩
      have hw := hw u30 eu30
      replace hI : mI D (mT cs) A s.heap s (VT h r q cs u30) H locs := by rw [eu30]; exact hI
      refine lv_if_ne (tgt := 39) S.1 S.2.1 dX11_refusesPlace_33 (by decide) (fun c33 => ?_) (fun c33 => ?_)
      · have hw := hw.1 c33
        refine lv_aload_n S.1 S.2.1 dX11_refusesPlace_39 rfl (lv_at hl 0 rfl) ?_
        refine m_get S hin11 hI 0 (VT_o0 h r q cs u30) rfl 14 (Nat.le_of_ble_eq_true rfl) (List.mem_of_getElem? (i := 1) rfl) rfl (FO11_at14 _ _ _) dX11_refusesPlace_40 ?_
        refine lv_iload_n S.1 S.2.1 dX11_refusesPlace_43 rfl (lv_at hl 1 rfl) ?_
        have hj44 := mlt hw.1
        refine m_aals S hI 1 5 (VT_sh h r q cs u30) rfl hw.1 dX11_refusesPlace_44 ?_
        have hw := hw.2
        rw [show h (0 + (18 + a1.toNatClampNeg)) = h (18 + a1.toNatClampNeg) from congrArg h (Nat.zero_add _)]
        refine lv_iload_n S.1 S.2.1 dX11_refusesPlace_45 rfl (lv_at hl 2 rfl) ?_
        refine lv_iconst (v := 1) S.1 S.2.1 dX11_refusesPlace_46 (by decide) ?_
        refine m_vi (cf := fun v => VT h r q cs (mu u30 (18 + a1.toNatClampNeg) v)) (As := [.int a2, .int (1 : Int32)]) (rest := []) S (VT_cS h r q cs u30 hj44) hI (by rw [mu_self]) (c_X6_hasPlaces l D (h (18 + a1.toNatClampNeg)) (r (18 + a1.toNatClampNeg)) cs a2 (1 : Int32) (u30 (18 + a1.toNatClampNeg)) _ hw) (cwV 2 S.2.2.2.2 gX11_refusesPlace_X6_hasPlaces rfl rfl rfl (by decide +kernel) ⟨Nat.le_of_ble_eq_true rfl, Nat.le_of_ble_eq_true rfl⟩) rfl rfl rfl hl.1 rfl (Nat.le_of_ble_eq_true rfl) dX11_refusesPlace_47 ⟨Nat.zero_le _, Nat.zero_le _⟩ (fun y47 v47 H locs hw hI => ?_)
        obtain ⟨u47, eu47⟩ : ∃ z : CS, z = mu u30 (18 + a1.toNatClampNeg) v47 := ⟨_, rfl⟩
        have hw := hw u47 eu47
        replace hI : mI D (mT cs) A s.heap s (VT h r q cs u47) H locs := by rw [eu47]; exact hI
        refine lv_if_eq (tgt := 57) S.1 S.2.1 dX11_refusesPlace_50 (by decide) (fun c50 => ?_) (fun c50 => ?_)
        · have hw := hw.1 c50
          refine lv_bipush (v := (-13)) S.1 S.2.1 dX11_refusesPlace_57 (by decide) ?_
          exact b59 ((-13) : Int32) u47 hw H locs ls hI (lv_sub hl [0] rfl)
        · have hw := hw.2 c50
          refine lv_iconst (v := 0) S.1 S.2.1 dX11_refusesPlace_53 (by decide) ?_
          refine lv_goto (tgt := 59) S.1 S.2.1 dX11_refusesPlace_54 (by decide) ?_
          exact b59 (0 : Int32) u47 hw H locs ls hI (lv_sub hl [0] rfl)
      · have hw := hw.2 c33
        refine lv_bipush (v := (-12)) S.1 S.2.1 dX11_refusesPlace_36 (by decide) ?_
        subst hZ
        exact m_iret S hr hlocks hI hw dX11_refusesPlace_38
    · have hw := hw.2 c18
      refine lv_bipush (v := (-11)) S.1 S.2.1 dX11_refusesPlace_21 (by decide) ?_
      subst hZ
      exact m_iret S hr hlocks hI hw dX11_refusesPlace_23
  · have hw := hw.2 c4
    refine lv_iconst (v := (-1)) S.1 S.2.1 dX11_refusesPlace_7 (by decide) ?_
    subst hZ
    exact m_iret S hr hlocks hI hw dX11_refusesPlace_8

theorem VT_o12 (h : Nat → Nat) (r : Nat → Nat → Nat) (q : Nat → Nat → Nat → Nat) (cs : Nat → ClassId) (U : CS) : (VT h r q cs U)[113]? = some (h 12, .inr (7, Ff7 (r 12) (U 12))) := rfl
def wp_X11_canBe_p25 (u : CS) (Q : Int32 → CS → Prop) : Prop :=
  ((0 : Int32) &&& 1 = (0 : Int32) ∧ Q (0 : Int32) u)
def wp_X11_canBe_p72 (t0 : Int32) (u : CS) (Q : Int32 → CS → Prop) : Prop :=
  (t0 &&& 1 = t0 ∧ Q t0 u)
def wp_X11_canBe_p71 (u : CS) (Q : Int32 → CS → Prop) : Prop :=
  wp_X11_canBe_p72 (0 : Int32) u Q
def wp_X11_canBe_p49 (t0 : Int32) (u : CS) (Q : Int32 → CS → Prop) : Prop :=
  (t0 &&& 1 = t0 ∧ Q t0 u)
def wp_X11_canBe (a1 : Int32) (a2 : Int64) (u : CS) (Q : Int32 → CS → Prop) : Prop :=
  (wp_X8_steps (u 1) (fun y6 v6 => ∀ u6 : CS, u6 = mu u 1 v6 → (wp_X11_within a1 (1 : Int32) y6 (fun y9 => ((y9 = 0 → wp_X11_canBe_p25 u6 Q) ∧ (¬ y9 = 0 → ((¬ (gI (u6 12) 2) = 0 → (∀ y29 : Int32, y29 = lg_cmp a2 (1 : Int64) → ((¬ y29 = 0 → (∀ y52 : Int32, y52 = lg_cmp a2 (0 : Int64) → ((¬ y52 = 0 → wp_X11_canBe_p71 u6 Q) ∧ (y52 = 0 → (((gI (u6 12) 1) < a1 → wp_X11_canBe_p71 u6 Q) ∧ (¬ (gI (u6 12) 1) < a1 → wp_X11_canBe_p72 (1 : Int32) u6 Q)))))) ∧ (y29 = 0 → ((a1 ≤ (gI (u6 12) 0) → wp_X11_canBe_p49 (0 : Int32) u6 Q) ∧ (¬ a1 ≤ (gI (u6 12) 0) → wp_X11_canBe_p49 (1 : Int32) u6 Q)))))) ∧ ((gI (u6 12) 2) = 0 → wp_X11_canBe_p25 u6 Q))))))))
set_option maxHeartbeats 4000000 in
set_option maxRecDepth 100000 in
theorem c_X11_canBe (l : Launch) (D : va_G) (h : Nat → Nat) (r : Nat → Nat → Nat) (q : Nat → Nat → Nat → Nat) (cs : Nat → ClassId) (a1 : Int32) (a2 : Int64) (u : CS) (Q : Int32 → CS → Prop) (hw : wp_X11_canBe a1 a2 u Q) : mCi l yX11_canBe wsX11_canBe ({ frames := 1, cells := 0, slots := 0, locals := 22 } : Room) 0 0 D (mT cs) (VT h r q cs) [.ref (h 0), .int a1, .long a2] u Q := by
  unfold mCi
  refine m_enter (QQ := fun A => va_Qi Q (mPos D (mT cs) A (VT h r q cs)) A) (cc := cX11_canBe) (maxL := 4) (ret := (some .boolean)) (by decide) rfl (Nat.le_of_ble_eq_true rfl) ?_
  intro p e s m args below meth c A ls S hr hlocks hname hl hI
  have S : CallFix p m c cX11_canBe 4 s args wsX11_canBe RX11 := S
  show W p l e ({ frames := 1, cells := 0, slots := 0, locals := 22 } : Room) s m args below meth c s.heap [] 0 0 (MQ below (va_Qi Q (mPos D (mT cs) A (VT h r q cs)) A) args s 0 0 A) (F0 m 0 ls [])
  generalize hZ : MQ below (va_Qi Q (mPos D (mT cs) A (VT h r q cs)) A) args s 0 0 A = Z
  have hin7 : ∀ w ∈ wsX70, w ∈ wsX11_canBe := fun _ h => List.mem_cons_of_mem _ (List.mem_append_left _ (List.mem_append_right _ h))
  have hin8 : ∀ w ∈ wsX80, w ∈ wsX11_canBe := fun _ h => List.mem_cons_of_mem _ (List.mem_append_right _ h)
  have hin11 : ∀ w ∈ wsX110, w ∈ wsX11_canBe := fun _ h => List.mem_cons_of_mem _ (List.mem_append_left _ (List.mem_append_left _ (List.mem_append_right _ h)))
  have hl : lv_has ls 4 [(0, .ref (h 0)), (1, .int a1), (2, .long a2)] := hl
  have b25 : ∀ (u : CS), wp_X11_canBe_p25 u Q → mGo p l e ({ frames := 1, cells := 0, slots := 0, locals := 22 } : Room) s m args below meth c A Z 4 D (mT cs) (VT h r q cs) 25 [(0, .ref (h 0))] [] u := by
    intro u hw H locs ls hI hl
    unfold wp_X11_canBe_p25 at hw
    refine lv_iconst (v := 0) S.1 S.2.1 dX11_canBe_25 (by decide) ?_
    subst hZ
    exact m_zret S hr hlocks hI hw.1 hw.2 dX11_canBe_26
  have b72 : ∀ (t0 : Int32) (u : CS), wp_X11_canBe_p72 t0 u Q → mGo p l e ({ frames := 1, cells := 0, slots := 0, locals := 22 } : Room) s m args below meth c A Z 4 D (mT cs) (VT h r q cs) 72 [(0, .ref (h 0))] [.int t0] u := by
    intro t0 u hw H locs ls hI hl
    unfold wp_X11_canBe_p72 at hw
    subst hZ
    exact m_zret S hr hlocks hI hw.1 hw.2 dX11_canBe_72
  have b71 : ∀ (u : CS), wp_X11_canBe_p71 u Q → mGo p l e ({ frames := 1, cells := 0, slots := 0, locals := 22 } : Room) s m args below meth c A Z 4 D (mT cs) (VT h r q cs) 71 [(0, .ref (h 0))] [] u := by
    intro u hw H locs ls hI hl
    unfold wp_X11_canBe_p71 at hw
    refine lv_iconst (v := 0) S.1 S.2.1 dX11_canBe_71 (by decide) ?_
    exact b72 (0 : Int32) u hw H locs ls hI (lv_sub hl [0] rfl)
  have b49 : ∀ (t0 : Int32) (u : CS), wp_X11_canBe_p49 t0 u Q → mGo p l e ({ frames := 1, cells := 0, slots := 0, locals := 22 } : Room) s m args below meth c A Z 4 D (mT cs) (VT h r q cs) 49 [(0, .ref (h 0))] [.int t0] u := by
    intro t0 u hw H locs ls hI hl
    unfold wp_X11_canBe_p49 at hw
    subst hZ
    exact m_zret S hr hlocks hI hw.1 hw.2 dX11_canBe_49
  unfold wp_X11_canBe at hw
  obtain ⟨H, hH⟩ : ∃ z : Heap, z = s.heap := ⟨_, rfl⟩
  obtain ⟨locs, hL⟩ : ∃ z : List Loc, z = [] := ⟨_, rfl⟩
  rw [show W p l e ({ frames := 1, cells := 0, slots := 0, locals := 22 } : Room) s m args below meth c s.heap [] 0 0 Z (F0 m 0 ls []) = W p l e ({ frames := 1, cells := 0, slots := 0, locals := 22 } : Room) s m args below meth c H locs 0 0 Z (F0 m 0 ls []) by rw [hH, hL]]
  replace hI : mI D (mT cs) A s.heap s (VT h r q cs u) H locs := by rw [hH, hL]; exact hI
  refine lv_iload_n S.1 S.2.1 dX11_canBe_0 rfl (lv_at hl 1 rfl) ?_
  refine lv_iconst (v := 1) S.1 S.2.1 dX11_canBe_1 (by decide) ?_
  refine lv_aload_n S.1 S.2.1 dX11_canBe_2 rfl (lv_at hl 0 rfl) ?_
  refine m_get S hin11 hI 0 (VT_o0 h r q cs u) rfl 0 (Nat.le_of_ble_eq_true rfl) (List.mem_of_getElem? (i := 1) rfl) rfl (FO11_at0 _ _ _) dX11_canBe_3 ?_
  refine m_vi (cf := fun v => VT h r q cs (mu u 1 v)) (As := []) (rest := [.int (1 : Int32), .int a1]) S (VT_c1 h r q cs u) hI (by rw [mu_self]) (c_X8_steps l D (h 1) (r 1) cs (u 1) _ hw) (cwV 0 S.2.2.2.2 gX11_canBe_X8_steps rfl rfl rfl (by decide +kernel) ⟨Nat.le_of_ble_eq_true rfl, Nat.le_of_ble_eq_true rfl⟩) rfl rfl rfl hl.1 rfl (Nat.le_of_ble_eq_true rfl) dX11_canBe_6 ⟨Nat.zero_le _, Nat.zero_le _⟩ (fun y6 v6 H locs hw hI => ?_)
  obtain ⟨u6, eu6⟩ : ∃ z : CS, z = mu u 1 v6 := ⟨_, rfl⟩
  have hw := hw u6 eu6
  replace hI : mI D (mT cs) A s.heap s (VT h r q cs u6) H locs := by rw [eu6]; exact hI
  refine m_si (As := [.int a1, .int (1 : Int32), .int y6]) (rest := []) S hI.2.2.2.1.2.1 (c_X11_within l a1 (1 : Int32) y6 _ hw) (va_cwS 3 S.2.2.2.2 gX11_canBe_X11_within rfl rfl rfl (by decide +kernel) ⟨Nat.le_of_ble_eq_true rfl, Nat.le_of_ble_eq_true rfl⟩) rfl hl.1 rfl (Nat.le_of_ble_eq_true rfl) dX11_canBe_9 ⟨Nat.zero_le _, Nat.zero_le _⟩ (fun y9 hw => ?_)
  refine lv_if_eq (tgt := 25) S.1 S.2.1 dX11_canBe_12 (by decide) (fun c12 => ?_) (fun c12 => ?_)
  · have hw := hw.1 c12
    exact b25 u6 hw H locs ls hI (lv_sub hl [0] rfl)
  · have hw := hw.2 c12
    refine lv_aload_n S.1 S.2.1 dX11_canBe_15 rfl (lv_at hl 0 rfl) ?_
    refine m_get S hin11 hI 0 (VT_o0 h r q cs u6) rfl 10 (Nat.le_of_ble_eq_true rfl) (List.mem_of_getElem? (i := 2) rfl) rfl (FO11_at10 _ _ _) dX11_canBe_16 ?_
    refine m_getN S hin7 hI 113 (VT_o12 h r q cs u6) rfl 2 (Nat.le_of_ble_eq_true rfl) nf_X11_152 rfl (Ff7_at2 _ _) dX11_canBe_19 ?_
    refine lv_if_ne (tgt := 27) S.1 S.2.1 dX11_canBe_22 (by decide) (fun c22 => ?_) (fun c22 => ?_)
    · have hw := hw.1 c22
      refine lv_lload_n S.1 S.2.1 dX11_canBe_27 rfl (lv_at hl 2 rfl) ?_
      refine lv_lconst (v := 1) S.1 S.2.1 dX11_canBe_28 (by decide) ?_
      refine W.lcmp S.1 S.2.1 dX11_canBe_29 ?_
      refine lv_topi (fun y29 ey29 => ?_)
      have hw := hw y29 ey29
      refine lv_if_ne (tgt := 50) S.1 S.2.1 dX11_canBe_30 (by decide) (fun c30 => ?_) (fun c30 => ?_)
      · have hw := hw.1 c30
        refine lv_lload_n S.1 S.2.1 dX11_canBe_50 rfl (lv_at hl 2 rfl) ?_
        refine lv_lconst (v := 0) S.1 S.2.1 dX11_canBe_51 (by decide) ?_
        refine W.lcmp S.1 S.2.1 dX11_canBe_52 ?_
        refine lv_topi (fun y52 ey52 => ?_)
        have hw := hw y52 ey52
        refine lv_if_ne (tgt := 71) S.1 S.2.1 dX11_canBe_53 (by decide) (fun c53 => ?_) (fun c53 => ?_)
        · have hw := hw.1 c53
          exact b71 u6 hw H locs ls hI (lv_sub hl [0] rfl)
        · have hw := hw.2 c53
          refine lv_iload_n S.1 S.2.1 dX11_canBe_56 rfl (lv_at hl 1 rfl) ?_
          refine lv_aload_n S.1 S.2.1 dX11_canBe_57 rfl (lv_at hl 0 rfl) ?_
          refine m_get S hin11 hI 0 (VT_o0 h r q cs u6) rfl 10 (Nat.le_of_ble_eq_true rfl) (List.mem_of_getElem? (i := 2) rfl) rfl (FO11_at10 _ _ _) dX11_canBe_58 ?_
          refine m_getN S hin7 hI 113 (VT_o12 h r q cs u6) rfl 1 (Nat.le_of_ble_eq_true rfl) nf_X11_224 rfl (Ff7_at1 _ _) dX11_canBe_61 ?_
          refine lv_icmp_gt (tgt := 71) S.1 S.2.1 dX11_canBe_64 (by decide) (fun c64 => ?_) (fun c64 => ?_)
          · have hw := hw.1 c64
            exact b71 u6 hw H locs ls hI (lv_sub hl [0] rfl)
          · have hw := hw.2 c64
            refine lv_iconst (v := 1) S.1 S.2.1 dX11_canBe_67 (by decide) ?_
            refine lv_goto (tgt := 72) S.1 S.2.1 dX11_canBe_68 (by decide) ?_
            exact b72 (1 : Int32) u6 hw H locs ls hI (lv_sub hl [0] rfl)
      · have hw := hw.2 c30
        refine lv_iload_n S.1 S.2.1 dX11_canBe_33 rfl (lv_at hl 1 rfl) ?_
        refine lv_aload_n S.1 S.2.1 dX11_canBe_34 rfl (lv_at hl 0 rfl) ?_
        refine m_get S hin11 hI 0 (VT_o0 h r q cs u6) rfl 10 (Nat.le_of_ble_eq_true rfl) (List.mem_of_getElem? (i := 2) rfl) rfl (FO11_at10 _ _ _) dX11_canBe_35 ?_
        refine m_getN S hin7 hI 113 (VT_o12 h r q cs u6) rfl 0 (Nat.le_of_ble_eq_true rfl) nf_X11_221 rfl (Ff7_at0 _ _) dX11_canBe_38 ?_
        refine lv_icmp_le (tgt := 48) S.1 S.2.1 dX11_canBe_41 (by decide) (fun c41 => ?_) (fun c41 => ?_)
        · have hw := hw.1 c41
          refine lv_iconst (v := 0) S.1 S.2.1 dX11_canBe_48 (by decide) ?_
          exact b49 (0 : Int32) u6 hw H locs ls hI (lv_sub hl [0] rfl)
        · have hw := hw.2 c41
          refine lv_iconst (v := 1) S.1 S.2.1 dX11_canBe_44 (by decide) ?_
          refine lv_goto (tgt := 49) S.1 S.2.1 dX11_canBe_45 (by decide) ?_
          exact b49 (1 : Int32) u6 hw H locs ls hI (lv_sub hl [0] rfl)
    · have hw := hw.2 c22
      exact b25 u6 hw H locs ls hI (lv_sub hl [0] rfl)

theorem VT_c12 (h : Nat → Nat) (r : Nat → Nat → Nat) (q : Nat → Nat → Nat → Nat) (cs : Nat → ClassId) (U : CS) : ∀ v : ST, (VT h r q cs (mu U 12 v)).Perm ([] ++ (W7 (h 12) (r 12) cs v ++ [0, 1, 2, 3, 4, 5, 6, 7, 8, 9, 10, 11, 13, 14, 15, 16, 17, 18, 19, 20, 21, 22, 23, 24].flatMap (cTT h r q cs U))) := fun v => (front_perm (cTT h r q cs (mu U 12 v)) (l := [0, 1, 2, 3, 4, 5, 6, 7, 8, 9, 10, 11, 12, 13, 14, 15, 16, 17, 18, 19, 20, 21, 22, 23, 24]) (ks := [12]) (rest := [0, 1, 2, 3, 4, 5, 6, 7, 8, 9, 10, 11, 13, 14, 15, 16, 17, 18, 19, 20, 21, 22, 23, 24]) (by decide)).trans (List.Perm.of_eq (by rw [show [12].flatMap (cTT h r q cs (mu U 12 v)) = W7 (h 12) (r 12) cs v from List.append_nil _]; rfl))
def wp_X11_isWise_12_p61 (t0 : Int32) (u : CS) (Q : Int32 → CS → Prop) : Prop :=
  (t0 &&& 1 = t0 ∧ Q t0 u)
def wp_X11_isWise_12_p60 (u : CS) (Q : Int32 → CS → Prop) : Prop :=
  wp_X11_isWise_12_p61 (0 : Int32) u Q
def wp_X11_isWise_12 (a2 : Int32) (u : CS) (Q : Int32 → CS → Prop) : Prop :=
  (wp_X2_prepare (1 : Int32) (0 : Int32) (u 3) (fun v6 => ∀ u6 : CS, u6 = mu u 3 v6 → (wp_X7_heights (u6 12) (fun y18 v18 => ∀ u18 : CS, u18 = mu u6 12 v18 → (∀ y26 : Int32, y26 = a2 - (gI (u18 12) 0) → (wp_X2_after (gI (u6 12) 2) y18 y26 (u18 3) (fun y27 v27 => ∀ u27 : CS, u27 = mu u18 3 v27 → (((268435456 : Int32) ≤ y27 → wp_X11_isWise_12_p60 u27 Q) ∧ (¬ (268435456 : Int32) ≤ y27 → (wp_X7_heights (u27 12) (fun y47 v47 => ∀ u47 : CS, u47 = mu u27 12 v47 → (wp_X2_cost (gI (u27 12) 2) y47 (u47 3) (fun y50 v50 => ∀ u50 : CS, u50 = mu u47 3 v50 → ((¬ y27 = y50 → wp_X11_isWise_12_p60 u50 Q) ∧ (y27 = y50 → wp_X11_isWise_12_p61 (1 : Int32) u50 Q)))))))))))))))
set_option maxHeartbeats 4000000 in
set_option maxRecDepth 100000 in
theorem c_X11_isWise_12 (l : Launch) (D : va_G) (h : Nat → Nat) (r : Nat → Nat → Nat) (q : Nat → Nat → Nat → Nat) (cs : Nat → ClassId) (a2 : Int32) (u : CS) (Q : Int32 → CS → Prop) (hw : wp_X11_isWise_12 a2 u Q) : mCi l yX11_isWise wsX11_isWise ({ frames := 4, cells := 0, slots := 0, locals := 96 } : Room) 0 0 D (mT cs) (VT h r q cs) [.ref (h 0), .ref (h 12), .int a2] u Q := by
  unfold mCi
  refine m_enter (QQ := fun A => va_Qi Q (mPos D (mT cs) A (VT h r q cs)) A) (cc := cX11_isWise) (maxL := 4) (ret := (some .boolean)) (by decide) rfl (Nat.le_of_ble_eq_true rfl) ?_
  intro p e s m args below meth c A ls S hr hlocks hname hl hI
  have S : CallFix p m c cX11_isWise 4 s args wsX11_isWise RX11 := S
  show W p l e ({ frames := 4, cells := 0, slots := 0, locals := 96 } : Room) s m args below meth c s.heap [] 0 0 (MQ below (va_Qi Q (mPos D (mT cs) A (VT h r q cs)) A) args s 0 0 A) (F0 m 0 ls [])
  generalize hZ : MQ below (va_Qi Q (mPos D (mT cs) A (VT h r q cs)) A) args s 0 0 A = Z
  have hin2 : ∀ w ∈ wsX20, w ∈ wsX11_isWise := fun _ h => List.mem_cons_of_mem _ (List.mem_append_right _ h)
  have hin7 : ∀ w ∈ wsX70, w ∈ wsX11_isWise := fun _ h => List.mem_cons_of_mem _ (List.mem_append_left _ (List.mem_append_right _ h))
  have hin11 : ∀ w ∈ wsX110, w ∈ wsX11_isWise := fun _ h => List.mem_cons_of_mem _ (List.mem_append_left _ (List.mem_append_left _ (List.mem_append_right _ h)))
  have hl : lv_has ls 4 [(0, .ref (h 0)), (1, .ref (h 12)), (2, .int a2)] := hl
  have b61 : ∀ (t0 : Int32) (u : CS), wp_X11_isWise_12_p61 t0 u Q → mGo p l e ({ frames := 4, cells := 0, slots := 0, locals := 96 } : Room) s m args below meth c A Z 4 D (mT cs) (VT h r q cs) 61 [(0, .ref (h 0))] [.int t0] u := by
    intro t0 u hw H locs ls hI hl
    unfold wp_X11_isWise_12_p61 at hw
    subst hZ
    exact m_zret S hr hlocks hI hw.1 hw.2 dX11_isWise_61
  have b60 : ∀ (u : CS), wp_X11_isWise_12_p60 u Q → mGo p l e ({ frames := 4, cells := 0, slots := 0, locals := 96 } : Room) s m args below meth c A Z 4 D (mT cs) (VT h r q cs) 60 [(0, .ref (h 0))] [] u := by
    intro u hw H locs ls hI hl
    unfold wp_X11_isWise_12_p60 at hw
    refine lv_iconst (v := 0) S.1 S.2.1 dX11_isWise_60 (by decide) ?_
    exact b61 (0 : Int32) u hw H locs ls hI (lv_sub hl [0] rfl)
  unfold wp_X11_isWise_12 at hw
  obtain ⟨H, hH⟩ : ∃ z : Heap, z = s.heap := ⟨_, rfl⟩
  obtain ⟨locs, hL⟩ : ∃ z : List Loc, z = [] := ⟨_, rfl⟩
  rw [show W p l e ({ frames := 4, cells := 0, slots := 0, locals := 96 } : Room) s m args below meth c s.heap [] 0 0 Z (F0 m 0 ls []) = W p l e ({ frames := 4, cells := 0, slots := 0, locals := 96 } : Room) s m args below meth c H locs 0 0 Z (F0 m 0 ls []) by rw [hH, hL]]
  replace hI : mI D (mT cs) A s.heap s (VT h r q cs u) H locs := by rw [hH, hL]; exact hI
  refine lv_aload_n S.1 S.2.1 dX11_isWise_0 rfl (lv_at hl 0 rfl) ?_
  refine m_get S hin11 hI 0 (VT_o0 h r q cs u) rfl 2 (Nat.le_of_ble_eq_true rfl) (List.mem_of_getElem? (i := 1) rfl) rfl (FO11_at2 _ _ _) dX11_isWise_1 ?_
  refine lv_iconst (v := 1) S.1 S.2.1 dX11_isWise_4 (by decide) ?_
  refine lv_iconst (v := 0) S.1 S.2.1 dX11_isWise_5 (by decide) ?_
  refine m_vv (cf := fun v => VT h r q cs (mu u 3 v)) (As := [.int (1 : Int32), .int (0 : Int32)]) (rest := []) S (VT_c3 h r q cs u) hI (by rw [mu_self]) (c_X2_prepare l D (h 3) (r 3) (q 3) cs (1 : Int32) (0 : Int32) (u 3) _ hw) (cwV 2 S.2.2.2.2 gX11_isWise_X2_prepare rfl rfl rfl (by decide +kernel) ⟨Nat.le_of_ble_eq_true rfl, Nat.le_of_ble_eq_true rfl⟩) rfl rfl rfl hl.1 rfl (Nat.le_of_ble_eq_true rfl) dX11_isWise_6 ⟨Nat.zero_le _, Nat.zero_le _⟩ (fun v6 H locs hw hI => ?_)
  obtain ⟨u6, eu6⟩ : ∃ z : CS, z = mu u 3 v6 := ⟨_, rfl⟩
  have hw := hw u6 eu6
  replace hI : mI D (mT cs) A s.heap s (VT h r q cs u6) H locs := by rw [eu6]; exact hI
  refine lv_aload_n S.1 S.2.1 dX11_isWise_9 rfl (lv_at hl 0 rfl) ?_
  refine m_get S hin11 hI 0 (VT_o0 h r q cs u6) rfl 2 (Nat.le_of_ble_eq_true rfl) (List.mem_of_getElem? (i := 1) rfl) rfl (FO11_at2 _ _ _) dX11_isWise_10 ?_
  refine lv_aload_n S.1 S.2.1 dX11_isWise_13 rfl (lv_at hl 1 rfl) ?_
  refine m_getN S hin7 hI 113 (VT_o12 h r q cs u6) rfl 2 (Nat.le_of_ble_eq_true rfl) nf_X11_152 rfl (Ff7_at2 _ _) dX11_isWise_14 ?_
  refine lv_aload_n S.1 S.2.1 dX11_isWise_17 rfl (lv_at hl 1 rfl) ?_
  refine m_vi (cf := fun v => VT h r q cs (mu u6 12 v)) (As := []) (rest := [.int (gI (u6 12) 2), .ref (h 3)]) S (VT_c12 h r q cs u6) hI (by rw [mu_self]) (c_X7_heights l D (h 12) (r 12) cs (u6 12) _ hw) (cwV 0 S.2.2.2.2 gX11_isWise_X7_heights rfl rfl rfl (by decide +kernel) ⟨Nat.le_of_ble_eq_true rfl, Nat.le_of_ble_eq_true rfl⟩) rfl rfl rfl hl.1 rfl (Nat.le_of_ble_eq_true rfl) dX11_isWise_18 ⟨Nat.zero_le _, Nat.zero_le _⟩ (fun y18 v18 H locs hw hI => ?_)
  obtain ⟨u18, eu18⟩ : ∃ z : CS, z = mu u6 12 v18 := ⟨_, rfl⟩
  have hw := hw u18 eu18
  replace hI : mI D (mT cs) A s.heap s (VT h r q cs u18) H locs := by rw [eu18]; exact hI
  refine lv_iload_n S.1 S.2.1 dX11_isWise_21 rfl (lv_at hl 2 rfl) ?_
  refine lv_aload_n S.1 S.2.1 dX11_isWise_22 rfl (lv_at hl 1 rfl) ?_
  refine m_getN S hin7 hI 113 (VT_o12 h r q cs u18) rfl 0 (Nat.le_of_ble_eq_true rfl) nf_X11_221 rfl (Ff7_at0 _ _) dX11_isWise_23 ?_
  refine lv_isub S.1 S.2.1 dX11_isWise_26 ?_
  refine lv_topi (fun y26 ey26 => ?_)
  have hw := hw y26 ey26
  refine m_vi (cf := fun v => VT h r q cs (mu u18 3 v)) (As := [.int (gI (u6 12) 2), .int y18, .int y26]) (rest := []) S (VT_c3 h r q cs u18) hI (by rw [mu_self]) (c_X2_after l D (h 3) (r 3) (q 3) cs (gI (u6 12) 2) y18 y26 (u18 3) _ hw) (cwV 3 S.2.2.2.2 gX11_isWise_X2_after rfl rfl rfl (by decide +kernel) ⟨Nat.le_of_ble_eq_true rfl, Nat.le_of_ble_eq_true rfl⟩) rfl rfl rfl hl.1 rfl (Nat.le_of_ble_eq_true rfl) dX11_isWise_27 ⟨Nat.zero_le _, Nat.zero_le _⟩ (fun y27 v27 H locs hw hI => ?_)
  obtain ⟨u27, eu27⟩ : ∃ z : CS, z = mu u18 3 v27 := ⟨_, rfl⟩
  have hw := hw u27 eu27
  replace hI : mI D (mT cs) A s.heap s (VT h r q cs u27) H locs := by rw [eu27]; exact hI
  refine lv_istore_n (lv' := [(3, .int y27), (0, .ref (h 0)), (1, .ref (h 12)), (2, .int a2)]) S.1 S.2.1 dX11_isWise_30 rfl hl (by decide) rfl (fun ls hl => ?_)
  refine lv_iload_n S.1 S.2.1 dX11_isWise_31 rfl (lv_at hl 0 rfl) ?_
  refine lv_ldc S.1 S.2.1 S.2.2.2.1 (S.2.2.2.2 _ (List.mem_of_getElem? (i := 2) rfl)) dX11_isWise_32 ?_
  refine lv_icmp_ge (tgt := 60) S.1 S.2.1 dX11_isWise_34 (by decide) (fun c34 => ?_) (fun c34 => ?_)
  · have hw := hw.1 c34
    exact b60 u27 hw H locs ls hI (lv_sub hl [1] rfl)
  · have hw := hw.2 c34
    refine lv_iload_n S.1 S.2.1 dX11_isWise_37 rfl (lv_at hl 0 rfl) ?_
    refine lv_aload_n S.1 S.2.1 dX11_isWise_38 rfl (lv_at hl 1 rfl) ?_
    refine m_get S hin11 hI 0 (VT_o0 h r q cs u27) rfl 2 (Nat.le_of_ble_eq_true rfl) (List.mem_of_getElem? (i := 1) rfl) rfl (FO11_at2 _ _ _) dX11_isWise_39 ?_
    refine lv_aload_n S.1 S.2.1 dX11_isWise_42 rfl (lv_at hl 2 rfl) ?_
    refine m_getN S hin7 hI 113 (VT_o12 h r q cs u27) rfl 2 (Nat.le_of_ble_eq_true rfl) nf_X11_152 rfl (Ff7_at2 _ _) dX11_isWise_43 ?_
    refine lv_aload_n S.1 S.2.1 dX11_isWise_46 rfl (lv_at hl 2 rfl) ?_
    refine m_vi (cf := fun v => VT h r q cs (mu u27 12 v)) (As := []) (rest := [.int (gI (u27 12) 2), .ref (h 3), .int y27]) S (VT_c12 h r q cs u27) hI (by rw [mu_self]) (c_X7_heights l D (h 12) (r 12) cs (u27 12) _ hw) (cwV 0 S.2.2.2.2 gX11_isWise_X7_heights rfl rfl rfl (by decide +kernel) ⟨Nat.le_of_ble_eq_true rfl, Nat.le_of_ble_eq_true rfl⟩) rfl rfl rfl hl.1 rfl (Nat.le_of_ble_eq_true rfl) dX11_isWise_47 ⟨Nat.zero_le _, Nat.zero_le _⟩ (fun y47 v47 H locs hw hI => ?_)
    obtain ⟨u47, eu47⟩ : ∃ z : CS, z = mu u27 12 v47 := ⟨_, rfl⟩
    have hw := hw u47 eu47
    replace hI : mI D (mT cs) A s.heap s (VT h r q cs u47) H locs := by rw [eu47]; exact hI
    refine m_vi (cf := fun v => VT h r q cs (mu u47 3 v)) (As := [.int (gI (u27 12) 2), .int y47]) (rest := [.int y27]) S (VT_c3 h r q cs u47) hI (by rw [mu_self]) (c_X2_cost l D (h 3) (r 3) (q 3) cs (gI (u27 12) 2) y47 (u47 3) _ hw) (cwV 2 S.2.2.2.2 gX11_isWise_X2_cost rfl rfl rfl (by decide +kernel) ⟨Nat.le_of_ble_eq_true rfl, Nat.le_of_ble_eq_true rfl⟩) rfl rfl rfl hl.1 rfl (Nat.le_of_ble_eq_true rfl) dX11_isWise_50 ⟨Nat.zero_le _, Nat.zero_le _⟩ (fun y50 v50 H locs hw hI => ?_)
    obtain ⟨u50, eu50⟩ : ∃ z : CS, z = mu u47 3 v50 := ⟨_, rfl⟩
    have hw := hw u50 eu50
    replace hI : mI D (mT cs) A s.heap s (VT h r q cs u50) H locs := by rw [eu50]; exact hI
    refine lv_icmp_ne (tgt := 60) S.1 S.2.1 dX11_isWise_53 (by decide) (fun c53 => ?_) (fun c53 => ?_)
    · have hw := hw.1 c53
      exact b60 u50 hw H locs ls hI (lv_sub hl [1] rfl)
    · have hw := hw.2 c53
      refine lv_iconst (v := 1) S.1 S.2.1 dX11_isWise_56 (by decide) ?_
      refine lv_goto (tgt := 61) S.1 S.2.1 dX11_isWise_57 (by decide) ?_
      exact b61 (1 : Int32) u50 hw H locs ls hI (lv_sub hl [1] rfl)

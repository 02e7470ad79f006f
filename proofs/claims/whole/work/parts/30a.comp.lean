/-! laid by program: words, wk, hd, hc, mw, ms, ts, X10_begin, X10_add, X10_stepAt, X1_begin, X1_dropFrom, X1_isGuessed, X1_copy, X4_weigh, X4_weightOf, X4_makesReady, X4_cost, X4_first, X9_costFrom, X9_firstFrom, lb -/
def FO10 (h r : Nat → Nat) (u : ST) : List Value := [.ref (r 0), .ref (h 1), .int (gI u 2), .int (gI u 3)]
def WO10 (h r : Nat → Nat) (cs : Nat → ClassId) (u : ST) : va_W := [(h 0, .inr (10, FO10 h r u)), (r 0, .inl (cs 0, 60, .inl (gA u 0)))]
theorem FO10_at0 (h r : Nat → Nat) (u : ST) : (FO10 h r u)[0]? = some (.ref (r 0)) := rfl
theorem FO10_at1 (h r : Nat → Nat) (u : ST) : (FO10 h r u)[1]? = some (.ref (h 1)) := rfl
theorem FO10_at2 (h r : Nat → Nat) (u : ST) : (FO10 h r u)[2]? = some (.int (gI u 2)) := rfl
theorem FO10_at3 (h r : Nat → Nat) (u : ST) : (FO10 h r u)[3]? = some (.int (gI u 3)) := rfl

def FO1 (h r : Nat → Nat) (u : ST) : List Value := [.ref (h 1), .int (gI u 1), .int (gI u 2), .int (gI u 3), .int (gI u 4), .int (gI u 5), .int (gI u 6), .int (gI u 7)]
def WO1 (h r : Nat → Nat) (cs : Nat → ClassId) (u : ST) : va_W := [(h 0, .inr (1, FO1 h r u))]
theorem FO1_at0 (h r : Nat → Nat) (u : ST) : (FO1 h r u)[0]? = some (.ref (h 1)) := rfl
theorem FO1_at1 (h r : Nat → Nat) (u : ST) : (FO1 h r u)[1]? = some (.int (gI u 1)) := rfl
theorem FO1_at2 (h r : Nat → Nat) (u : ST) : (FO1 h r u)[2]? = some (.int (gI u 2)) := rfl
theorem FO1_at3 (h r : Nat → Nat) (u : ST) : (FO1 h r u)[3]? = some (.int (gI u 3)) := rfl
theorem FO1_at4 (h r : Nat → Nat) (u : ST) : (FO1 h r u)[4]? = some (.int (gI u 4)) := rfl
theorem FO1_at5 (h r : Nat → Nat) (u : ST) : (FO1 h r u)[5]? = some (.int (gI u 5)) := rfl
theorem FO1_at6 (h r : Nat → Nat) (u : ST) : (FO1 h r u)[6]? = some (.int (gI u 6)) := rfl
theorem FO1_at7 (h r : Nat → Nat) (u : ST) : (FO1 h r u)[7]? = some (.int (gI u 7)) := rfl

def FO11 (h r : Nat → Nat) (u : ST) : List Value := [.ref (h 1), .ref (h 2), .ref (h 3), .ref (h 4), .ref (h 5), .ref (h 6), .ref (h 7), .ref (h 8), .ref (h 9), .ref (h 10), .ref (h 12), .ref (h 13), .ref (h 15), .ref (h 17), .ref (r 14), .int (gI u 15), .int (gI u 16)]
def WO11 (h r : Nat → Nat) (cs : Nat → ClassId) (u : ST) : va_W := [(h 0, .inr (11, FO11 h r u)), (r 14, .inl (cs 5, 6, .inr (.inr (.inr (.inr (srow (fun i => h (18 + i))))))))]
theorem FO11_at0 (h r : Nat → Nat) (u : ST) : (FO11 h r u)[0]? = some (.ref (h 1)) := rfl
theorem FO11_at1 (h r : Nat → Nat) (u : ST) : (FO11 h r u)[1]? = some (.ref (h 2)) := rfl
theorem FO11_at2 (h r : Nat → Nat) (u : ST) : (FO11 h r u)[2]? = some (.ref (h 3)) := rfl
theorem FO11_at3 (h r : Nat → Nat) (u : ST) : (FO11 h r u)[3]? = some (.ref (h 4)) := rfl
theorem FO11_at4 (h r : Nat → Nat) (u : ST) : (FO11 h r u)[4]? = some (.ref (h 5)) := rfl
theorem FO11_at5 (h r : Nat → Nat) (u : ST) : (FO11 h r u)[5]? = some (.ref (h 6)) := rfl
theorem FO11_at6 (h r : Nat → Nat) (u : ST) : (FO11 h r u)[6]? = some (.ref (h 7)) := rfl
theorem FO11_at7 (h r : Nat → Nat) (u : ST) : (FO11 h r u)[7]? = some (.ref (h 8)) := rfl
theorem FO11_at8 (h r : Nat → Nat) (u : ST) : (FO11 h r u)[8]? = some (.ref (h 9)) := rfl
theorem FO11_at9 (h r : Nat → Nat) (u : ST) : (FO11 h r u)[9]? = some (.ref (h 10)) := rfl
theorem FO11_at10 (h r : Nat → Nat) (u : ST) : (FO11 h r u)[10]? = some (.ref (h 12)) := rfl
theorem FO11_at11 (h r : Nat → Nat) (u : ST) : (FO11 h r u)[11]? = some (.ref (h 13)) := rfl
theorem FO11_at12 (h r : Nat → Nat) (u : ST) : (FO11 h r u)[12]? = some (.ref (h 15)) := rfl
theorem FO11_at13 (h r : Nat → Nat) (u : ST) : (FO11 h r u)[13]? = some (.ref (h 17)) := rfl
theorem FO11_at14 (h r : Nat → Nat) (u : ST) : (FO11 h r u)[14]? = some (.ref (r 14)) := rfl
theorem FO11_at15 (h r : Nat → Nat) (u : ST) : (FO11 h r u)[15]? = some (.int (gI u 15)) := rfl
theorem FO11_at16 (h r : Nat → Nat) (u : ST) : (FO11 h r u)[16]? = some (.int (gI u 16)) := rfl

def cTwk (h : Nat → Nat) (r : Nat → Nat → Nat) (q : Nat → Nat → Nat → Nat) (cs : Nat → ClassId) (U : CS) : Nat → va_W
  | 0 => WO10 (fun i => h (0 + i)) (r 0) cs (U 0)
  | 1 => W7 (h 1) (r 1) cs (U 1)
  | _ => []
def Vwk (h : Nat → Nat) (r : Nat → Nat → Nat) (q : Nat → Nat → Nat → Nat) (cs : Nat → ClassId) (U : CS) : va_W := [0, 1].flatMap (cTwk h r q cs U)

def cThd (h : Nat → Nat) (r : Nat → Nat → Nat) (q : Nat → Nat → Nat → Nat) (cs : Nat → ClassId) (U : CS) : Nat → va_W
  | 0 => WO1 (fun i => h (0 + i)) (r 0) cs (U 0)
  | 1 => W7 (h 1) (r 1) cs (U 1)
  | _ => []
def Vhd (h : Nat → Nat) (r : Nat → Nat → Nat) (q : Nat → Nat → Nat → Nat) (cs : Nat → ClassId) (U : CS) : va_W := [0, 1].flatMap (cThd h r q cs U)

def cThc (h : Nat → Nat) (r : Nat → Nat → Nat) (q : Nat → Nat → Nat → Nat) (cs : Nat → ClassId) (U : CS) : Nat → va_W
  | 0 => WO1 (fun i => h (0 + i)) (r 0) cs (U 0)
  | 1 => W7 (h 1) (r 1) cs (U 1)
  | 2 => WO1 (fun i => h (2 + i)) (r 2) cs (U 2)
  | 3 => W7 (h 3) (r 3) cs (U 3)
  | _ => []
def Vhc (h : Nat → Nat) (r : Nat → Nat → Nat) (q : Nat → Nat → Nat → Nat) (cs : Nat → ClassId) (U : CS) : va_W := [0, 1, 2, 3].flatMap (cThc h r q cs U)

def cTmw (h : Nat → Nat) (r : Nat → Nat → Nat) (q : Nat → Nat → Nat → Nat) (cs : Nat → ClassId) (U : CS) : Nat → va_W
  | 0 => W4 (h 0) (r 0) (q 0) cs (U 0)
  | 1 => W3 (h 1) (r 1) cs (U 1)
  | 2 => W8 (h 2) (r 2) cs (U 2)
  | _ => []
def Vmw (h : Nat → Nat) (r : Nat → Nat → Nat) (q : Nat → Nat → Nat → Nat) (cs : Nat → ClassId) (U : CS) : va_W := [0, 1, 2].flatMap (cTmw h r q cs U)

def cTms (h : Nat → Nat) (r : Nat → Nat → Nat) (q : Nat → Nat → Nat → Nat) (cs : Nat → ClassId) (U : CS) : Nat → va_W
  | 0 => W4 (h 0) (r 0) (q 0) cs (U 0)
  | 1 => W7 (h 1) (r 1) cs (U 1)
  | _ => []
def Vms (h : Nat → Nat) (r : Nat → Nat → Nat) (q : Nat → Nat → Nat → Nat) (cs : Nat → ClassId) (U : CS) : va_W := [0, 1].flatMap (cTms h r q cs U)

def cTts (h : Nat → Nat) (r : Nat → Nat → Nat) (q : Nat → Nat → Nat → Nat) (cs : Nat → ClassId) (U : CS) : Nat → va_W
  | 0 => W9 (h 0) (r 0) (q 0) cs (U 0)
  | 1 => W7 (h 1) (r 1) cs (U 1)
  | _ => []
def Vts (h : Nat → Nat) (r : Nat → Nat → Nat) (q : Nat → Nat → Nat → Nat) (cs : Nat → ClassId) (U : CS) : va_W := [0, 1].flatMap (cTts h r q cs U)

theorem Vwk_o0 (h : Nat → Nat) (r : Nat → Nat → Nat) (q : Nat → Nat → Nat → Nat) (cs : Nat → ClassId) (U : CS) : (Vwk h r q cs U)[0]? = some (h 0, .inr (10, FO10 (fun i => h (0 + i)) (r 0) (U 0))) := rfl
theorem Vwk_c1 (h : Nat → Nat) (r : Nat → Nat → Nat) (q : Nat → Nat → Nat → Nat) (cs : Nat → ClassId) (U : CS) : ∀ v : ST, (Vwk h r q cs (mu U 1 v)).Perm ([] ++ (W7 (h 1) (r 1) cs v ++ [0].flatMap (cTwk h r q cs U))) := fun v => (front_perm (cTwk h r q cs (mu U 1 v)) (l := [0, 1]) (ks := [1]) (rest := [0]) (by decide)).trans (List.Perm.of_eq (by rw [show [1].flatMap (cTwk h r q cs (mu U 1 v)) = W7 (h 1) (r 1) cs v from List.append_nil _]; rfl))
theorem Vwk_sI0_2 (h : Nat → Nat) (r : Nat → Nat → Nat) (q : Nat → Nat → Nat → Nat) (cs : Nat → ClassId) (U u9 : CS) (x : Int32) (e : u9 = mu U 0 (sI (U 0) 2 x)) : (Vwk h r q cs U).set 0 (h 0, .inr (10, (FO10 (fun i => h (0 + i)) (r 0) (U 0)).set 2 (.int x))) = Vwk h r q cs u9 := by subst e; rfl
theorem Vwk_sI0_3 (h : Nat → Nat) (r : Nat → Nat → Nat) (q : Nat → Nat → Nat → Nat) (cs : Nat → ClassId) (U u9 : CS) (x : Int32) (e : u9 = mu U 0 (sI (U 0) 3 x)) : (Vwk h r q cs U).set 0 (h 0, .inr (10, (FO10 (fun i => h (0 + i)) (r 0) (U 0)).set 3 (.int x))) = Vwk h r q cs u9 := by subst e; rfl
def wp_X10_begin (a1 : Int32) (a2 : Int32) (u : CS) (Q : CS → Prop) : Prop :=
  (wp_X7_become (0 : Int32) a1 a2 (u 1) (fun v7 => ∀ u7 : CS, u7 = mu u 1 v7 → (∀ u12 : CS, u12 = mu u7 0 (sI (u7 0) 2 (0 : Int32)) → (∀ u17 : CS, u17 = mu u12 0 (sI (u12 0) 3 (0 : Int32)) → Q u17))))
set_option maxHeartbeats 4000000 in
set_option maxRecDepth 100000 in
theorem c_X10_begin (l : Launch) (D : va_G) (h : Nat → Nat) (r : Nat → Nat → Nat) (q : Nat → Nat → Nat → Nat) (cs : Nat → ClassId) (a1 : Int32) (a2 : Int32) (u : CS) (Q : CS → Prop) (hw : wp_X10_begin a1 a2 u Q) : mCv l yX10_begin wsX10_begin ({ frames := 1, cells := 0, slots := 0, locals := 23 } : Room) 0 0 D (mT cs) (Vwk h r q cs) [.ref (h 0), .int a1, .int a2] u Q := by
  unfold mCv
  refine m_enter (QQ := fun A => va_Qv Q (mPos D (mT cs) A (Vwk h r q cs)) A) (cc := cX10_begin) (maxL := 3) (ret := none) (by decide) rfl (Nat.le_of_ble_eq_true rfl) ?_
  intro p e s m args below meth c A ls S hr hlocks hname hl hI
  have S : CallFix p m c cX10_begin 3 s args wsX10_begin RX10 := S
  show W p l e ({ frames := 1, cells := 0, slots := 0, locals := 23 } : Room) s m args below meth c s.heap [] 0 0 (MQ below (va_Qv Q (mPos D (mT cs) A (Vwk h r q cs)) A) args s 0 0 A) (F0 m 0 ls [])
  generalize hZ : MQ below (va_Qv Q (mPos D (mT cs) A (Vwk h r q cs)) A) args s 0 0 A = Z
  have hin7 : ∀ w ∈ wsX70, w ∈ wsX10_begin := fun _ h => List.mem_cons_of_mem _ (List.mem_append_right _ h)
  have hin10 : ∀ w ∈ wsX100, w ∈ wsX10_begin := fun _ h => List.mem_cons_of_mem _ (List.mem_append_left _ (List.mem_append_right _ h))
  have hl : lv_has ls 3 [(0, .ref (h 0)), (1, .int a1), (2, .int a2)] := hl
  unfold wp_X10_begin at hw
  obtain ⟨H, hH⟩ : ∃ z : Heap, z = s.heap := ⟨_, rfl⟩
  obtain ⟨locs, hL⟩ : ∃ z : List Loc, z = [] := ⟨_, rfl⟩
  rw [show W p l e ({ frames := 1, cells := 0, slots := 0, locals := 23 } : Room) s m args below meth c s.heap [] 0 0 Z (F0 m 0 ls []) = W p l e ({ frames := 1, cells := 0, slots := 0, locals := 23 } : Room) s m args below meth c H locs 0 0 Z (F0 m 0 ls []) by rw [hH, hL]]
  replace hI : mI D (mT cs) A s.heap s (Vwk h r q cs u) H locs := by rw [hH, hL]; exact hI
  refine lv_aload_n S.1 S.2.1 dX10_begin_0 rfl (lv_at hl 0 rfl) ?_
  refine m_get S hin10 hI 0 (Vwk_o0 h r q cs u) rfl 1 (Nat.le_of_ble_eq_true rfl) (List.mem_of_getElem? (i := 1) rfl) rfl (FO10_at1 _ _ _) dX10_begin_1 ?_
  refine lv_iconst (v := 0) S.1 S.2.1 dX10_begin_4 (by decide) ?_
  refine lv_iload_n S.1 S.2.1 dX10_begin_5 rfl (lv_at hl 1 rfl) ?_
  refine lv_iload_n S.1 S.2.1 dX10_begin_6 rfl (lv_at hl 2 rfl) ?_
  refine m_vv (cf := fun v => Vwk h r q cs (mu u 1 v)) (As := [.int (0 : Int32), .int a1, .int a2]) (rest := []) S (Vwk_c1 h r q cs u) hI (by rw [mu_self]) (c_X7_become l D (h 1) (r 1) cs (0 : Int32) a1 a2 (u 1) _ hw) (cwV 3 S.2.2.2.2 gX10_begin_X7_become rfl rfl rfl (by decide +kernel) ⟨Nat.le_of_ble_eq_true rfl, Nat.le_of_ble_eq_true rfl⟩) rfl rfl rfl hl.1 rfl (Nat.le_of_ble_eq_true rfl) dX10_begin_7 ⟨Nat.zero_le _, Nat.zero_le _⟩ (fun v7 H locs hw hI => ?_)
  obtain ⟨u7, eu7⟩ : ∃ z : CS, z = mu u 1 v7 := ⟨_, rfl⟩
  have hw := hw u7 eu7
  replace hI : mI D (mT cs) A s.heap s (Vwk h r q cs u7) H locs := by rw [eu7]; exact hI
  refine lv_aload_n S.1 S.2.1 dX10_begin_10 rfl (lv_at hl 0 rfl) ?_
  refine lv_iconst (v := 0) S.1 S.2.1 dX10_begin_11 (by decide) ?_
  obtain ⟨u12, eu12⟩ : ∃ z : CS, z = mu u7 0 (sI (u7 0) 2 (0 : Int32)) := ⟨_, rfl⟩
  have hw := hw u12 eu12
  refine m_put S hin10 tyX10_ok nmX10 hI 0 (Vwk_o0 h r q cs u7) rfl 2 (Nat.le_of_ble_eq_true rfl) (List.mem_of_getElem? (i := 2) rfl) rfl rfl rfl rfl (Nat.le_of_ble_eq_true rfl) (Vwk_sI0_2 h r q cs u7 u12 (0 : Int32) eu12) dX10_begin_12 (fun H locs hI => ?_)
  refine lv_aload_n S.1 S.2.1 dX10_begin_15 rfl (lv_at hl 0 rfl) ?_
  refine lv_iconst (v := 0) S.1 S.2.1 dX10_begin_16 (by decide) ?_
  obtain ⟨u17, eu17⟩ : ∃ z : CS, z = mu u12 0 (sI (u12 0) 3 (0 : Int32)) := ⟨_, rfl⟩
  have hw := hw u17 eu17
  refine m_put S hin10 tyX10_ok nmX10 hI 0 (Vwk_o0 h r q cs u12) rfl 3 (Nat.le_of_ble_eq_true rfl) (List.mem_of_getElem? (i := 3) rfl) rfl rfl rfl rfl (Nat.le_of_ble_eq_true rfl) (Vwk_sI0_3 h r q cs u12 u17 (0 : Int32) eu17) dX10_begin_17 (fun H locs hI => ?_)
  subst hZ
  exact m_vret S hr hlocks hI hw dX10_begin_20

theorem Vwk_a0_0 (h : Nat → Nat) (r : Nat → Nat → Nat) (q : Nat → Nat → Nat → Nat) (cs : Nat → ClassId) (U : CS) : (Vwk h r q cs U)[1]? = some (r 0 0, .inl (cs 0, 60, .inl (gA (U 0) 0))) := rfl
theorem Vwk_sA0_0 (h : Nat → Nat) (r : Nat → Nat → Nat) (q : Nat → Nat → Nat → Nat) (cs : Nat → ClassId) (U u9 : CS) (f : Nat → Int32) (e : u9 = mu U 0 (sA (U 0) 0 f)) : (Vwk h r q cs U).set 1 (r 0 0, .inl (cs 0, 60, .inl f)) = Vwk h r q cs u9 := by subst e; rfl
def wp_X10_add_p55 (x1 : Int32) (x3 : Int32) (u : CS) (Q : CS → Prop) : Prop :=
  (wp_X7_part x1 x3 (u 1) (fun v61 => ∀ u61 : CS, u61 = mu u 1 v61 → Q u61))
def wp_X10_add_p40 (x1 : Int32) (t0 : Int32) (u : CS) (Q : CS → Prop) : Prop :=
  ((t0 = 0 → wp_X10_add_p55 x1 t0 u Q) ∧ (¬ t0 = 0 → (∀ y51 : Int32, y51 = (gI (u 0) 3) + (1 : Int32) → (∀ u52 : CS, u52 = mu u 0 (sI (u 0) 3 y51) → wp_X10_add_p55 x1 t0 u52 Q))))
def wp_X10_add (a1 : Int32) (a2 : Int32) (u : CS) (Q : CS → Prop) : Prop :=
  (((gI (u 0) 2) < (60 : Int32) → (vp_in (gI (u 0) 2) 60 ∧ ∀ u19 : CS, u19 = mu u 0 (sA (u 0) 0 (upd (gA (u 0) 0) (gI (u 0) 2).toNatClampNeg a1)) → (∀ y26 : Int32, y26 = (gI (u19 0) 2) + (1 : Int32) → (∀ u27 : CS, u27 = mu u19 0 (sI (u19 0) 2 y26) → ((a1 ≤ a2 → wp_X10_add_p40 a1 (0 : Int32) u27 Q) ∧ (¬ a1 ≤ a2 → wp_X10_add_p40 a1 (1 : Int32) u27 Q)))))) ∧ (¬ (gI (u 0) 2) < (60 : Int32) → Q u))
set_option maxHeartbeats 4000000 in
set_option maxRecDepth 100000 in
theorem c_X10_add (l : Launch) (D : va_G) (h : Nat → Nat) (r : Nat → Nat → Nat) (q : Nat → Nat → Nat → Nat) (cs : Nat → ClassId) (a1 : Int32) (a2 : Int32) (u : CS) (Q : CS → Prop) (hw : wp_X10_add a1 a2 u Q) : mCv l yX10_add wsX10_add ({ frames := 2, cells := 0, slots := 0, locals := 36 } : Room) 0 0 D (mT cs) (Vwk h r q cs) [.ref (h 0), .int a1, .int a2] u Q := by
  unfold mCv
  refine m_enter (QQ := fun A => va_Qv Q (mPos D (mT cs) A (Vwk h r q cs)) A) (cc := cX10_add) (maxL := 4) (ret := none) (by decide) rfl (Nat.le_of_ble_eq_true rfl) ?_
  intro p e s m args below meth c A ls S hr hlocks hname hl hI
  have S : CallFix p m c cX10_add 4 s args wsX10_add RX10 := S
  show W p l e ({ frames := 2, cells := 0, slots := 0, locals := 36 } : Room) s m args below meth c s.heap [] 0 0 (MQ below (va_Qv Q (mPos D (mT cs) A (Vwk h r q cs)) A) args s 0 0 A) (F0 m 0 ls [])
  generalize hZ : MQ below (va_Qv Q (mPos D (mT cs) A (Vwk h r q cs)) A) args s 0 0 A = Z
  have hin7 : ∀ w ∈ wsX70, w ∈ wsX10_add := fun _ h => List.mem_cons_of_mem _ (List.mem_append_right _ h)
  have hin10 : ∀ w ∈ wsX100, w ∈ wsX10_add := fun _ h => List.mem_cons_of_mem _ (List.mem_append_left _ (List.mem_append_right _ h))
  have hl : lv_has ls 4 [(0, .ref (h 0)), (1, .int a1), (2, .int a2)] := hl
  have b55 : ∀ (x1 : Int32) (x3 : Int32) (u : CS), wp_X10_add_p55 x1 x3 u Q → mGo p l e ({ frames := 2, cells := 0, slots := 0, locals := 36 } : Room) s m args below meth c A Z 4 D (mT cs) (Vwk h r q cs) 55 [(0, .ref (h 0)), (1, .int x1), (3, .int x3)] [] u := by
    intro x1 x3 u hw H locs ls hI hl
    unfold wp_X10_add_p55 at hw
    refine lv_aload_n S.1 S.2.1 dX10_add_55 rfl (lv_at hl 0 rfl) ?_
    refine m_get S hin10 hI 0 (Vwk_o0 h r q cs u) rfl 1 (Nat.le_of_ble_eq_true rfl) (List.mem_of_getElem? (i := 4) rfl) rfl (FO10_at1 _ _ _) dX10_add_56 ?_
    refine lv_iload_n S.1 S.2.1 dX10_add_59 rfl (lv_at hl 1 rfl) ?_
    refine lv_iload_n S.1 S.2.1 dX10_add_60 rfl (lv_at hl 2 rfl) ?_
    refine m_vv (cf := fun v => Vwk h r q cs (mu u 1 v)) (As := [.int x1, .int x3]) (rest := []) S (Vwk_c1 h r q cs u) hI (by rw [mu_self]) (c_X7_part l D (h 1) (r 1) cs x1 x3 (u 1) _ hw) (cwV 2 S.2.2.2.2 gX10_add_X7_part rfl rfl rfl (by decide +kernel) ⟨Nat.le_of_ble_eq_true rfl, Nat.le_of_ble_eq_true rfl⟩) rfl rfl rfl hl.1 rfl (Nat.le_of_ble_eq_true rfl) dX10_add_61 ⟨Nat.zero_le _, Nat.zero_le _⟩ (fun v61 H locs hw hI => ?_)
    obtain ⟨u61, eu61⟩ : ∃ z : CS, z = mu u 1 v61 := ⟨_, rfl⟩
    have hw := hw u61 eu61
    replace hI : mI D (mT cs) A s.heap s (Vwk h r q cs u61) H locs := by rw [eu61]; exact hI
    subst hZ
    exact m_vret S hr hlocks hI hw dX10_add_64
  have b40 : ∀ (x1 : Int32) (t0 : Int32) (u : CS), wp_X10_add_p40 x1 t0 u Q → mGo p l e ({ frames := 2, cells := 0, slots := 0, locals := 36 } : Room) s m args below meth c A Z 4 D (mT cs) (Vwk h r q cs) 40 [(0, .ref (h 0)), (1, .int x1)] [.int t0] u := by
    intro x1 t0 u hw H locs ls hI hl
    unfold wp_X10_add_p40 at hw
    refine lv_istore_n (lv' := [(3, .int t0), (0, .ref (h 0)), (1, .int x1)]) S.1 S.2.1 dX10_add_40 rfl hl (by decide) rfl (fun ls hl => ?_)
    refine lv_iload_n S.1 S.2.1 dX10_add_41 rfl (lv_at hl 0 rfl) ?_
    refine lv_if_eq (tgt := 55) S.1 S.2.1 dX10_add_42 (by decide) (fun c42 => ?_) (fun c42 => ?_)
    · have hw := hw.1 c42
      exact b55 x1 t0 u hw H locs ls hI (lv_sub hl [1, 2, 0] rfl)
    · have hw := hw.2 c42
      refine lv_aload_n S.1 S.2.1 dX10_add_45 rfl (lv_at hl 1 rfl) ?_
      refine lv_dup S.1 S.2.1 dX10_add_46 rfl ?_
      refine m_get S hin10 hI 0 (Vwk_o0 h r q cs u) rfl 3 (Nat.le_of_ble_eq_true rfl) (List.mem_of_getElem? (i := 3) rfl) rfl (FO10_at3 _ _ _) dX10_add_47 ?_
      refine lv_iconst (v := 1) S.1 S.2.1 dX10_add_50 (by decide) ?_
      refine lv_iadd S.1 S.2.1 dX10_add_51 ?_
      refine lv_topi (fun y51 ey51 => ?_)
      have hw := hw y51 ey51
      obtain ⟨u52, eu52⟩ : ∃ z : CS, z = mu u 0 (sI (u 0) 3 y51) := ⟨_, rfl⟩
      have hw := hw u52 eu52
      refine m_put S hin10 tyX10_ok nmX10 hI 0 (Vwk_o0 h r q cs u) rfl 3 (Nat.le_of_ble_eq_true rfl) (List.mem_of_getElem? (i := 3) rfl) rfl rfl rfl rfl (Nat.le_of_ble_eq_true rfl) (Vwk_sI0_3 h r q cs u u52 y51 eu52) dX10_add_52 (fun H locs hI => ?_)
      exact b55 x1 t0 u52 hw H locs ls hI (lv_sub hl [1, 2, 0] rfl)
  unfold wp_X10_add at hw
  obtain ⟨H, hH⟩ : ∃ z : Heap, z = s.heap := ⟨_, rfl⟩
  obtain ⟨locs, hL⟩ : ∃ z : List Loc, z = [] := ⟨_, rfl⟩
  rw [show W p l e ({ frames := 2, cells := 0, slots := 0, locals := 36 } : Room) s m args below meth c s.heap [] 0 0 Z (F0 m 0 ls []) = W p l e ({ frames := 2, cells := 0, slots := 0, locals := 36 } : Room) s m args below meth c H locs 0 0 Z (F0 m 0 ls []) by rw [hH, hL]]
  replace hI : mI D (mT cs) A s.heap s (Vwk h r q cs u) H locs := by rw [hH, hL]; exact hI
  refine lv_aload_n S.1 S.2.1 dX10_add_0 rfl (lv_at hl 0 rfl) ?_
  refine m_get S hin10 hI 0 (Vwk_o0 h r q cs u) rfl 2 (Nat.le_of_ble_eq_true rfl) (List.mem_of_getElem? (i := 1) rfl) rfl (FO10_at2 _ _ _) dX10_add_1 ?_
  refine lv_bipush (v := 60) S.1 S.2.1 dX10_add_4 (by decide) ?_
  refine lv_icmp_lt (tgt := 10) S.1 S.2.1 dX10_add_6 (by decide) (fun c6 => ?_) (fun c6 => ?_)
  · have hw := hw.1 c6
    refine lv_aload_n S.1 S.2.1 dX10_add_10 rfl (lv_at hl 0 rfl) ?_
    refine m_get S hin10 hI 0 (Vwk_o0 h r q cs u) rfl 0 (Nat.le_of_ble_eq_true rfl) (List.mem_of_getElem? (i := 2) rfl) rfl (FO10_at0 _ _ _) dX10_add_11 ?_
    refine lv_aload_n S.1 S.2.1 dX10_add_14 rfl (lv_at hl 0 rfl) ?_
    refine m_get S hin10 hI 0 (Vwk_o0 h r q cs u) rfl 2 (Nat.le_of_ble_eq_true rfl) (List.mem_of_getElem? (i := 1) rfl) rfl (FO10_at2 _ _ _) dX10_add_15 ?_
    refine lv_iload_n S.1 S.2.1 dX10_add_18 rfl (lv_at hl 1 rfl) ?_
    obtain ⟨u19, eu19⟩ : ∃ z : CS, z = mu u 0 (sA (u 0) 0 (upd (gA (u 0) 0) (gI (u 0) 2).toNatClampNeg a1)) := ⟨_, rfl⟩
    refine m_iast S hI 1 0 (Vwk_a0_0 h r q cs u) rfl hw.1 (Vwk_sA0_0 h r q cs u u19 _ eu19) dX10_add_19 (fun H locs hI => ?_)
    have hw := hw.2 u19 eu19
    refine lv_aload_n S.1 S.2.1 dX10_add_20 rfl (lv_at hl 0 rfl) ?_
    refine lv_dup S.1 S.2.1 dX10_add_21 rfl ?_
    refine m_get S hin10 hI 0 (Vwk_o0 h r q cs u19) rfl 2 (Nat.le_of_ble_eq_true rfl) (List.mem_of_getElem? (i := 1) rfl) rfl (FO10_at2 _ _ _) dX10_add_22 ?_
    refine lv_iconst (v := 1) S.1 S.2.1 dX10_add_25 (by decide) ?_
    refine lv_iadd S.1 S.2.1 dX10_add_26 ?_
    refine lv_topi (fun y26 ey26 => ?_)
    have hw := hw y26 ey26
    obtain ⟨u27, eu27⟩ : ∃ z : CS, z = mu u19 0 (sI (u19 0) 2 y26) := ⟨_, rfl⟩
    have hw := hw u27 eu27
    refine m_put S hin10 tyX10_ok nmX10 hI 0 (Vwk_o0 h r q cs u19) rfl 2 (Nat.le_of_ble_eq_true rfl) (List.mem_of_getElem? (i := 1) rfl) rfl rfl rfl rfl (Nat.le_of_ble_eq_true rfl) (Vwk_sI0_2 h r q cs u19 u27 y26 eu27) dX10_add_27 (fun H locs hI => ?_)
    refine lv_iload_n S.1 S.2.1 dX10_add_30 rfl (lv_at hl 2 rfl) ?_
    refine lv_iload_n S.1 S.2.1 dX10_add_31 rfl (lv_at hl 1 rfl) ?_
    refine lv_icmp_ge (tgt := 39) S.1 S.2.1 dX10_add_32 (by decide) (fun c32 => ?_) (fun c32 => ?_)
    · have hw := hw.1 c32
      refine lv_iconst (v := 0) S.1 S.2.1 dX10_add_39 (by decide) ?_
      exact b40 a1 (0 : Int32) u27 hw H locs ls hI (lv_sub hl [0, 1] rfl)
    · have hw := hw.2 c32
      refine lv_iconst (v := 1) S.1 S.2.1 dX10_add_35 (by decide) ?_
      refine lv_goto (tgt := 40) S.1 S.2.1 dX10_add_36 (by decide) ?_
      exact b40 a1 (1 : Int32) u27 hw H locs ls hI (lv_sub hl [0, 1] rfl)
  · have hw := hw.2 c6
    subst hZ
    exact m_vret S hr hlocks hI hw dX10_add_9

def wp_X10_stepAt_p23 (t0 : Int32) (u : CS) (Q : Int32 → CS → Prop) : Prop :=
  Q t0 u
def wp_X10_stepAt_p21 (u : CS) (Q : Int32 → CS → Prop) : Prop :=
  wp_X10_stepAt_p23 ((-2) : Int32) u Q
def wp_X10_stepAt (a1 : Int32) (u : CS) (Q : Int32 → CS → Prop) : Prop :=
  ((a1 < 0 → wp_X10_stepAt_p21 u Q) ∧ (¬ a1 < 0 → (((gI (u 0) 2) ≤ a1 → wp_X10_stepAt_p21 u Q) ∧ (¬ (gI (u 0) 2) ≤ a1 → (vp_in a1 60 ∧ ∀ y17 : Int32, y17 = gA (u 0) 0 a1.toNatClampNeg → wp_X10_stepAt_p23 y17 u Q)))))
set_option maxHeartbeats 4000000 in
set_option maxRecDepth 100000 in
theorem c_X10_stepAt (l : Launch) (D : va_G) (h : Nat → Nat) (r : Nat → Nat → Nat) (q : Nat → Nat → Nat → Nat) (cs : Nat → ClassId) (a1 : Int32) (u : CS) (Q : Int32 → CS → Prop) (hw : wp_X10_stepAt a1 u Q) : mCi l yX10_stepAt wsX10_stepAt ({ frames := 0, cells := 0, slots := 0, locals := 0 } : Room) 0 0 D (mT cs) (Vwk h r q cs) [.ref (h 0), .int a1] u Q := by
  unfold mCi
  refine m_enter (QQ := fun A => va_Qi Q (mPos D (mT cs) A (Vwk h r q cs)) A) (cc := cX10_stepAt) (maxL := 2) (ret := (some .int)) (by decide) rfl (Nat.le_of_ble_eq_true rfl) ?_
  intro p e s m args below meth c A ls S hr hlocks hname hl hI
  have S : CallFix p m c cX10_stepAt 2 s args wsX10_stepAt RX10 := S
  show W p l e ({ frames := 0, cells := 0, slots := 0, locals := 0 } : Room) s m args below meth c s.heap [] 0 0 (MQ below (va_Qi Q (mPos D (mT cs) A (Vwk h r q cs)) A) args s 0 0 A) (F0 m 0 ls [])
  generalize hZ : MQ below (va_Qi Q (mPos D (mT cs) A (Vwk h r q cs)) A) args s 0 0 A = Z
  have hin10 : ∀ w ∈ wsX100, w ∈ wsX10_stepAt := fun _ h => List.mem_cons_of_mem _ (List.mem_append_right _ h)
  have hl : lv_has ls 2 [(0, .ref (h 0)), (1, .int a1)] := hl
  have b23 : ∀ (t0 : Int32) (u : CS), wp_X10_stepAt_p23 t0 u Q → mGo p l e ({ frames := 0, cells := 0, slots := 0, locals := 0 } : Room) s m args below meth c A Z 2 D (mT cs) (Vwk h r q cs) 23 [(0, .ref (h 0))] [.int t0] u := by
    intro t0 u hw H locs ls hI hl
    unfold wp_X10_stepAt_p23 at hw
    subst hZ
    exact m_iret S hr hlocks hI hw dX10_stepAt_23
  have b21 : ∀ (u : CS), wp_X10_stepAt_p21 u Q → mGo p l e ({ frames := 0, cells := 0, slots := 0, locals := 0 } : Room) s m args below meth c A Z 2 D (mT cs) (Vwk h r q cs) 21 [(0, .ref (h 0))] [] u := by
    intro u hw H locs ls hI hl
    unfold wp_X10_stepAt_p21 at hw
    refine lv_bipush (v := (-2)) S.1 S.2.1 dX10_stepAt_21 (by decide) ?_
    exact b23 ((-2) : Int32) u hw H locs ls hI (lv_sub hl [0] rfl)
  unfold wp_X10_stepAt at hw
  obtain ⟨H, hH⟩ : ∃ z : Heap, z = s.heap := ⟨_, rfl⟩
  obtain ⟨locs, hL⟩ : ∃ z : List Loc, z = [] := ⟨_, rfl⟩
  rw [show W p l e ({ frames := 0, cells := 0, slots := 0, locals := 0 } : Room) s m args below meth c s.heap [] 0 0 Z (F0 m 0 ls []) = W p l e ({ frames := 0, cells := 0, slots := 0, locals := 0 } : Room) s m args below meth c H locs 0 0 Z (F0 m 0 ls []) by rw [hH, hL]]
  replace hI : mI D (mT cs) A s.heap s (Vwk h r q cs u) H locs := by rw [hH, hL]; exact hI
  refine lv_iload_n S.1 S.2.1 dX10_stepAt_0 rfl (lv_at hl 1 rfl) ?_
  refine lv_if_lt (tgt := 21) S.1 S.2.1 dX10_stepAt_1 (by decide) (fun c1 => ?_) (fun c1 => ?_)
  · have hw := hw.1 c1
    exact b21 u hw H locs ls hI (lv_sub hl [0] rfl)
  · have hw := hw.2 c1
    refine lv_iload_n S.1 S.2.1 dX10_stepAt_4 rfl (lv_at hl 1 rfl) ?_
    refine lv_aload_n S.1 S.2.1 dX10_stepAt_5 rfl (lv_at hl 0 rfl) ?_
    refine m_get S hin10 hI 0 (Vwk_o0 h r q cs u) rfl 2 (Nat.le_of_ble_eq_true rfl) (List.mem_of_getElem? (i := 1) rfl) rfl (FO10_at2 _ _ _) dX10_stepAt_6 ?_
    refine lv_icmp_ge (tgt := 21) S.1 S.2.1 dX10_stepAt_9 (by decide) (fun c9 => ?_) (fun c9 => ?_)
    · have hw := hw.1 c9
      exact b21 u hw H locs ls hI (lv_sub hl [0] rfl)
    · have hw := hw.2 c9
      refine lv_aload_n S.1 S.2.1 dX10_stepAt_12 rfl (lv_at hl 0 rfl) ?_
      refine m_get S hin10 hI 0 (Vwk_o0 h r q cs u) rfl 0 (Nat.le_of_ble_eq_true rfl) (List.mem_of_getElem? (i := 2) rfl) rfl (FO10_at0 _ _ _) dX10_stepAt_13 ?_
      refine lv_iload_n S.1 S.2.1 dX10_stepAt_16 rfl (lv_at hl 1 rfl) ?_
      refine m_iald S hI 1 0 (Vwk_a0_0 h r q cs u) rfl hw.1 dX10_stepAt_17 ?_
      refine lv_topi (fun y17 ey17 => ?_)
      have hw := hw.2 y17 ey17
      refine lv_goto (tgt := 23) S.1 S.2.1 dX10_stepAt_18 (by decide) ?_
      exact b23 y17 u hw H locs ls hI (lv_sub hl [0] rfl)

theorem Vhd_sI0_1 (h : Nat → Nat) (r : Nat → Nat → Nat) (q : Nat → Nat → Nat → Nat) (cs : Nat → ClassId) (U u9 : CS) (x : Int32) (e : u9 = mu U 0 (sI (U 0) 1 x)) : (Vhd h r q cs U).set 0 (h 0, .inr (1, (FO1 (fun i => h (0 + i)) (r 0) (U 0)).set 1 (.int x))) = Vhd h r q cs u9 := by subst e; rfl
theorem Vhd_o0 (h : Nat → Nat) (r : Nat → Nat → Nat) (q : Nat → Nat → Nat → Nat) (cs : Nat → ClassId) (U : CS) : (Vhd h r q cs U)[0]? = some (h 0, .inr (1, FO1 (fun i => h (0 + i)) (r 0) (U 0))) := rfl
theorem Vhd_sI0_2 (h : Nat → Nat) (r : Nat → Nat → Nat) (q : Nat → Nat → Nat → Nat) (cs : Nat → ClassId) (U u9 : CS) (x : Int32) (e : u9 = mu U 0 (sI (U 0) 2 x)) : (Vhd h r q cs U).set 0 (h 0, .inr (1, (FO1 (fun i => h (0 + i)) (r 0) (U 0)).set 2 (.int x))) = Vhd h r q cs u9 := by subst e; rfl
theorem Vhd_sI0_3 (h : Nat → Nat) (r : Nat → Nat → Nat) (q : Nat → Nat → Nat → Nat) (cs : Nat → ClassId) (U u9 : CS) (x : Int32) (e : u9 = mu U 0 (sI (U 0) 3 x)) : (Vhd h r q cs U).set 0 (h 0, .inr (1, (FO1 (fun i => h (0 + i)) (r 0) (U 0)).set 3 (.int x))) = Vhd h r q cs u9 := by subst e; rfl
theorem Vhd_sI0_4 (h : Nat → Nat) (r : Nat → Nat → Nat) (q : Nat → Nat → Nat → Nat) (cs : Nat → ClassId) (U u9 : CS) (x : Int32) (e : u9 = mu U 0 (sI (U 0) 4 x)) : (Vhd h r q cs U).set 0 (h 0, .inr (1, (FO1 (fun i => h (0 + i)) (r 0) (U 0)).set 4 (.int x))) = Vhd h r q cs u9 := by subst e; rfl
theorem Vhd_sI0_5 (h : Nat → Nat) (r : Nat → Nat → Nat) (q : Nat → Nat → Nat → Nat) (cs : Nat → ClassId) (U u9 : CS) (x : Int32) (e : u9 = mu U 0 (sI (U 0) 5 x)) : (Vhd h r q cs U).set 0 (h 0, .inr (1, (FO1 (fun i => h (0 + i)) (r 0) (U 0)).set 5 (.int x))) = Vhd h r q cs u9 := by subst e; rfl
theorem Vhd_c1 (h : Nat → Nat) (r : Nat → Nat → Nat) (q : Nat → Nat → Nat → Nat) (cs : Nat → ClassId) (U : CS) : ∀ v : ST, (Vhd h r q cs (mu U 1 v)).Perm ([] ++ (W7 (h 1) (r 1) cs v ++ [0].flatMap (cThd h r q cs U))) := fun v => (front_perm (cThd h r q cs (mu U 1 v)) (l := [0, 1]) (ks := [1]) (rest := [0]) (by decide)).trans (List.Perm.of_eq (by rw [show [1].flatMap (cThd h r q cs (mu U 1 v)) = W7 (h 1) (r 1) cs v from List.append_nil _]; rfl))
def wp_X1_begin (a1 : Int32) (a2 : Int32) (a3 : Int32) (u : CS) (Q : CS → Prop) : Prop :=
  (∀ u2 : CS, u2 = mu u 0 (sI (u 0) 1 (1 : Int32)) → (∀ u7 : CS, u7 = mu u2 0 (sI (u2 0) 2 a1) → (∀ u12 : CS, u12 = mu u7 0 (sI (u7 0) 3 a2) → (∀ u17 : CS, u17 = mu u12 0 (sI (u12 0) 4 (0 : Int32)) → (∀ u22 : CS, u22 = mu u17 0 (sI (u17 0) 5 (0 : Int32)) → (wp_X7_become (0 : Int32) a2 a3 (u22 1) (fun v32 => ∀ u32 : CS, u32 = mu u22 1 v32 → Q u32)))))))
set_option maxHeartbeats 4000000 in
set_option maxRecDepth 100000 in
theorem c_X1_begin (l : Launch) (D : va_G) (h : Nat → Nat) (r : Nat → Nat → Nat) (q : Nat → Nat → Nat → Nat) (cs : Nat → ClassId) (a1 : Int32) (a2 : Int32) (a3 : Int32) (u : CS) (Q : CS → Prop) (hw : wp_X1_begin a1 a2 a3 u Q) : mCv l yX1_begin wsX1_begin ({ frames := 1, cells := 0, slots := 0, locals := 23 } : Room) 0 0 D (mT cs) (Vhd h r q cs) [.ref (h 0), .int a1, .int a2, .int a3] u Q := by
  unfold mCv
  refine m_enter (QQ := fun A => va_Qv Q (mPos D (mT cs) A (Vhd h r q cs)) A) (cc := cX1_begin) (maxL := 4) (ret := none) (by decide) rfl (Nat.le_of_ble_eq_true rfl) ?_
  intro p e s m args below meth c A ls S hr hlocks hname hl hI
  have S : CallFix p m c cX1_begin 4 s args wsX1_begin RX1 := S
  show W p l e ({ frames := 1, cells := 0, slots := 0, locals := 23 } : Room) s m args below meth c s.heap [] 0 0 (MQ below (va_Qv Q (mPos D (mT cs) A (Vhd h r q cs)) A) args s 0 0 A) (F0 m 0 ls [])
  generalize hZ : MQ below (va_Qv Q (mPos D (mT cs) A (Vhd h r q cs)) A) args s 0 0 A = Z
  have hin1 : ∀ w ∈ wsX10, w ∈ wsX1_begin := fun _ h => List.mem_cons_of_mem _ (List.mem_append_left _ (List.mem_append_right _ h))
  have hin7 : ∀ w ∈ wsX70, w ∈ wsX1_begin := fun _ h => List.mem_cons_of_mem _ (List.mem_append_right _ h)
  have hl : lv_has ls 4 [(0, .ref (h 0)), (1, .int a1), (2, .int a2), (3, .int a3)] := hl
  unfold wp_X1_begin at hw
  obtain ⟨H, hH⟩ : ∃ z : Heap, z = s.heap := ⟨_, rfl⟩
  obtain ⟨locs, hL⟩ : ∃ z : List Loc, z = [] := ⟨_, rfl⟩
  rw [show W p l e ({ frames := 1, cells := 0, slots := 0, locals := 23 } : Room) s m args below meth c s.heap [] 0 0 Z (F0 m 0 ls []) = W p l e ({ frames := 1, cells := 0, slots := 0, locals := 23 } : Room) s m args below meth c H locs 0 0 Z (F0 m 0 ls []) by rw [hH, hL]]
  replace hI : mI D (mT cs) A s.heap s (Vhd h r q cs u) H locs := by rw [hH, hL]; exact hI
  refine lv_aload_n S.1 S.2.1 dX1_begin_0 rfl (lv_at hl 0 rfl) ?_
  refine lv_iconst (v := 1) S.1 S.2.1 dX1_begin_1 (by decide) ?_
  obtain ⟨u2, eu2⟩ : ∃ z : CS, z = mu u 0 (sI (u 0) 1 (1 : Int32)) := ⟨_, rfl⟩
  have hw := hw u2 eu2
  refine m_put S hin1 tyX1_ok nmX1 hI 0 (Vhd_o0 h r q cs u) rfl 1 (Nat.le_of_ble_eq_true rfl) (List.mem_of_getElem? (i := 1) rfl) rfl rfl (by show Value.int ((1 : Int32) &&& 1) = _; rfl) rfl (Nat.le_of_ble_eq_true rfl) (Vhd_sI0_1 h r q cs u u2 (1 : Int32) eu2) dX1_begin_2 (fun H locs hI => ?_)
  refine lv_aload_n S.1 S.2.1 dX1_begin_5 rfl (lv_at hl 0 rfl) ?_
  refine lv_iload_n S.1 S.2.1 dX1_begin_6 rfl (lv_at hl 1 rfl) ?_
  obtain ⟨u7, eu7⟩ : ∃ z : CS, z = mu u2 0 (sI (u2 0) 2 a1) := ⟨_, rfl⟩
  have hw := hw u7 eu7
  refine m_put S hin1 tyX1_ok nmX1 hI 0 (Vhd_o0 h r q cs u2) rfl 2 (Nat.le_of_ble_eq_true rfl) (List.mem_of_getElem? (i := 2) rfl) rfl rfl rfl rfl (Nat.le_of_ble_eq_true rfl) (Vhd_sI0_2 h r q cs u2 u7 a1 eu7) dX1_begin_7 (fun H locs hI => ?_)
  refine lv_aload_n S.1 S.2.1 dX1_begin_10 rfl (lv_at hl 0 rfl) ?_
  refine lv_iload_n S.1 S.2.1 dX1_begin_11 rfl (lv_at hl 2 rfl) ?_
  obtain ⟨u12, eu12⟩ : ∃ z : CS, z = mu u7 0 (sI (u7 0) 3 a2) := ⟨_, rfl⟩
  have hw := hw u12 eu12
  refine m_put S hin1 tyX1_ok nmX1 hI 0 (Vhd_o0 h r q cs u7) rfl 3 (Nat.le_of_ble_eq_true rfl) (List.mem_of_getElem? (i := 3) rfl) rfl rfl rfl rfl (Nat.le_of_ble_eq_true rfl) (Vhd_sI0_3 h r q cs u7 u12 a2 eu12) dX1_begin_12 (fun H locs hI => ?_)
  refine lv_aload_n S.1 S.2.1 dX1_begin_15 rfl (lv_at hl 0 rfl) ?_
  refine lv_iconst (v := 0) S.1 S.2.1 dX1_begin_16 (by decide) ?_
  obtain ⟨u17, eu17⟩ : ∃ z : CS, z = mu u12 0 (sI (u12 0) 4 (0 : Int32)) := ⟨_, rfl⟩
  have hw := hw u17 eu17
  refine m_put S hin1 tyX1_ok nmX1 hI 0 (Vhd_o0 h r q cs u12) rfl 4 (Nat.le_of_ble_eq_true rfl) (List.mem_of_getElem? (i := 4) rfl) rfl rfl rfl rfl (Nat.le_of_ble_eq_true rfl) (Vhd_sI0_4 h r q cs u12 u17 (0 : Int32) eu17) dX1_begin_17 (fun H locs hI => ?_)
  refine lv_aload_n S.1 S.2.1 dX1_begin_20 rfl (lv_at hl 0 rfl) ?_
  refine lv_iconst (v := 0) S.1 S.2.1 dX1_begin_21 (by decide) ?_
  obtain ⟨u22, eu22⟩ : ∃ z : CS, z = mu u17 0 (sI (u17 0) 5 (0 : Int32)) := ⟨_, rfl⟩
  have hw := hw u22 eu22
  refine m_put S hin1 tyX1_ok nmX1 hI 0 (Vhd_o0 h r q cs u17) rfl 5 (Nat.le_of_ble_eq_true rfl) (List.mem_of_getElem? (i := 5) rfl) rfl rfl rfl rfl (Nat.le_of_ble_eq_true rfl) (Vhd_sI0_5 h r q cs u17 u22 (0 : Int32) eu22) dX1_begin_22 (fun H locs hI => ?_)
  refine lv_aload_n S.1 S.2.1 dX1_begin_25 rfl (lv_at hl 0 rfl) ?_
  refine m_get S hin1 hI 0 (Vhd_o0 h r q cs u22) rfl 0 (Nat.le_of_ble_eq_true rfl) (List.mem_of_getElem? (i := 6) rfl) rfl (FO1_at0 _ _ _) dX1_begin_26 ?_
  refine lv_iconst (v := 0) S.1 S.2.1 dX1_begin_29 (by decide) ?_
  refine lv_iload_n S.1 S.2.1 dX1_begin_30 rfl (lv_at hl 2 rfl) ?_
  refine lv_iload_n S.1 S.2.1 dX1_begin_31 rfl (lv_at hl 3 rfl) ?_
  refine m_vv (cf := fun v => Vhd h r q cs (mu u22 1 v)) (As := [.int (0 : Int32), .int a2, .int a3]) (rest := []) S (Vhd_c1 h r q cs u22) hI (by rw [mu_self]) (c_X7_become l D (h 1) (r 1) cs (0 : Int32) a2 a3 (u22 1) _ hw) (cwV 3 S.2.2.2.2 gX1_begin_X7_become rfl rfl rfl (by decide +kernel) ⟨Nat.le_of_ble_eq_true rfl, Nat.le_of_ble_eq_true rfl⟩) rfl rfl rfl hl.1 rfl (Nat.le_of_ble_eq_true rfl) dX1_begin_32 ⟨Nat.zero_le _, Nat.zero_le _⟩ (fun v32 H locs hw hI => ?_)
  obtain ⟨u32, eu32⟩ : ∃ z : CS, z = mu u22 1 v32 := ⟨_, rfl⟩
  have hw := hw u32 eu32
  replace hI : mI D (mT cs) A s.heap s (Vhd h r q cs u32) H locs := by rw [eu32]; exact hI
  subst hZ
  exact m_vret S hr hlocks hI hw dX1_begin_35

def wp_X1_dropFrom_p38 (x1 : Int32) (x2 : Int32) (u : CS) (Q : Int32 → CS → Prop) : Prop :=
  (wp_X7_part x1 x2 (u 1) (fun v44 => ∀ u44 : CS, u44 = mu u 1 v44 → (x2 &&& 1 = x2 ∧ Q x2 u44)))
def wp_X1_dropFrom_p13 (x1 : Int32) (t0 : Int32) (u : CS) (Q : Int32 → CS → Prop) : Prop :=
  (∀ y20 : Int32, y20 = (gI (u 0) 4) + (1 : Int32) → (∀ u21 : CS, u21 = mu u 0 (sI (u 0) 4 y20) → ((t0 = 0 → wp_X1_dropFrom_p38 x1 t0 u21 Q) ∧ (¬ t0 = 0 → (∀ y34 : Int32, y34 = (gI (u21 0) 5) + (1 : Int32) → (∀ u35 : CS, u35 = mu u21 0 (sI (u21 0) 5 y34) → wp_X1_dropFrom_p38 x1 t0 u35 Q))))))
def wp_X1_dropFrom (a1 : Int32) (u : CS) (Q : Int32 → CS → Prop) : Prop :=
  ((a1 ≤ (gI (u 0) 2) → wp_X1_dropFrom_p13 a1 (0 : Int32) u Q) ∧ (¬ a1 ≤ (gI (u 0) 2) → wp_X1_dropFrom_p13 a1 (1 : Int32) u Q))
set_option maxHeartbeats 4000000 in
set_option maxRecDepth 100000 in
theorem c_X1_dropFrom (l : Launch) (D : va_G) (h : Nat → Nat) (r : Nat → Nat → Nat) (q : Nat → Nat → Nat → Nat) (cs : Nat → ClassId) (a1 : Int32) (u : CS) (Q : Int32 → CS → Prop) (hw : wp_X1_dropFrom a1 u Q) : mCi l yX1_dropFrom wsX1_dropFrom ({ frames := 2, cells := 0, slots := 0, locals := 36 } : Room) 0 0 D (mT cs) (Vhd h r q cs) [.ref (h 0), .int a1] u Q := by
  unfold mCi
  refine m_enter (QQ := fun A => va_Qi Q (mPos D (mT cs) A (Vhd h r q cs)) A) (cc := cX1_dropFrom) (maxL := 3) (ret := (some .boolean)) (by decide) rfl (Nat.le_of_ble_eq_true rfl) ?_
  intro p e s m args below meth c A ls S hr hlocks hname hl hI
  have S : CallFix p m c cX1_dropFrom 3 s args wsX1_dropFrom RX1 := S
  show W p l e ({ frames := 2, cells := 0, slots := 0, locals := 36 } : Room) s m args below meth c s.heap [] 0 0 (MQ below (va_Qi Q (mPos D (mT cs) A (Vhd h r q cs)) A) args s 0 0 A) (F0 m 0 ls [])
  generalize hZ : MQ below (va_Qi Q (mPos D (mT cs) A (Vhd h r q cs)) A) args s 0 0 A = Z
  have hin1 : ∀ w ∈ wsX10, w ∈ wsX1_dropFrom := fun _ h => List.mem_cons_of_mem _ (List.mem_append_left _ (List.mem_append_right _ h))
  have hin7 : ∀ w ∈ wsX70, w ∈ wsX1_dropFrom := fun _ h => List.mem_cons_of_mem _ (List.mem_append_right _ h)
  have hl : lv_has ls 3 [(0, .ref (h 0)), (1, .int a1)] := hl
  have b38 : ∀ (x1 : Int32) (x2 : Int32) (u : CS), wp_X1_dropFrom_p38 x1 x2 u Q → mGo p l e ({ frames := 2, cells := 0, slots := 0, locals := 36 } : Room) s m args below meth c A Z 3 D (mT cs) (Vhd h r q cs) 38 [(0, .ref (h 0)), (1, .int x1), (2, .int x2)] [] u := by
    intro x1 x2 u hw H locs ls hI hl
    unfold wp_X1_dropFrom_p38 at hw
    refine lv_aload_n S.1 S.2.1 dX1_dropFrom_38 rfl (lv_at hl 0 rfl) ?_
    refine m_get S hin1 hI 0 (Vhd_o0 h r q cs u) rfl 0 (Nat.le_of_ble_eq_true rfl) (List.mem_of_getElem? (i := 4) rfl) rfl (FO1_at0 _ _ _) dX1_dropFrom_39 ?_
    refine lv_iload_n S.1 S.2.1 dX1_dropFrom_42 rfl (lv_at hl 1 rfl) ?_
    refine lv_iload_n S.1 S.2.1 dX1_dropFrom_43 rfl (lv_at hl 2 rfl) ?_
    refine m_vv (cf := fun v => Vhd h r q cs (mu u 1 v)) (As := [.int x1, .int x2]) (rest := []) S (Vhd_c1 h r q cs u) hI (by rw [mu_self]) (c_X7_part l D (h 1) (r 1) cs x1 x2 (u 1) _ hw) (cwV 2 S.2.2.2.2 gX1_dropFrom_X7_part rfl rfl rfl (by decide +kernel) ⟨Nat.le_of_ble_eq_true rfl, Nat.le_of_ble_eq_true rfl⟩) rfl rfl rfl hl.1 rfl (Nat.le_of_ble_eq_true rfl) dX1_dropFrom_44 ⟨Nat.zero_le _, Nat.zero_le _⟩ (fun v44 H locs hw hI => ?_)
    obtain ⟨u44, eu44⟩ : ∃ z : CS, z = mu u 1 v44 := ⟨_, rfl⟩
    have hw := hw u44 eu44
    replace hI : mI D (mT cs) A s.heap s (Vhd h r q cs u44) H locs := by rw [eu44]; exact hI
    refine lv_iload_n S.1 S.2.1 dX1_dropFrom_47 rfl (lv_at hl 2 rfl) ?_
    subst hZ
    exact m_zret S hr hlocks hI hw.1 hw.2 dX1_dropFrom_48
  have b13 : ∀ (x1 : Int32) (t0 : Int32) (u : CS), wp_X1_dropFrom_p13 x1 t0 u Q → mGo p l e ({ frames := 2, cells := 0, slots := 0, locals := 36 } : Room) s m args below meth c A Z 3 D (mT cs) (Vhd h r q cs) 13 [(0, .ref (h 0)), (1, .int x1)] [.int t0] u := by
    intro x1 t0 u hw H locs ls hI hl
    unfold wp_X1_dropFrom_p13 at hw
    refine lv_istore_n (lv' := [(2, .int t0), (0, .ref (h 0)), (1, .int x1)]) S.1 S.2.1 dX1_dropFrom_13 rfl hl (by decide) rfl (fun ls hl => ?_)
    refine lv_aload_n S.1 S.2.1 dX1_dropFrom_14 rfl (lv_at hl 1 rfl) ?_
    refine lv_dup S.1 S.2.1 dX1_dropFrom_15 rfl ?_
    refine m_get S hin1 hI 0 (Vhd_o0 h r q cs u) rfl 4 (Nat.le_of_ble_eq_true rfl) (List.mem_of_getElem? (i := 2) rfl) rfl (FO1_at4 _ _ _) dX1_dropFrom_16 ?_
    refine lv_iconst (v := 1) S.1 S.2.1 dX1_dropFrom_19 (by decide) ?_
    refine lv_iadd S.1 S.2.1 dX1_dropFrom_20 ?_
    refine lv_topi (fun y20 ey20 => ?_)
    have hw := hw y20 ey20
    obtain ⟨u21, eu21⟩ : ∃ z : CS, z = mu u 0 (sI (u 0) 4 y20) := ⟨_, rfl⟩
    have hw := hw u21 eu21
    refine m_put S hin1 tyX1_ok nmX1 hI 0 (Vhd_o0 h r q cs u) rfl 4 (Nat.le_of_ble_eq_true rfl) (List.mem_of_getElem? (i := 2) rfl) rfl rfl rfl rfl (Nat.le_of_ble_eq_true rfl) (Vhd_sI0_4 h r q cs u u21 y20 eu21) dX1_dropFrom_21 (fun H locs hI => ?_)
    refine lv_iload_n S.1 S.2.1 dX1_dropFrom_24 rfl (lv_at hl 0 rfl) ?_
    refine lv_if_eq (tgt := 38) S.1 S.2.1 dX1_dropFrom_25 (by decide) (fun c25 => ?_) (fun c25 => ?_)
    · have hw := hw.1 c25
      exact b38 x1 t0 u21 hw H locs ls hI (lv_sub hl [1, 2, 0] rfl)
    · have hw := hw.2 c25
      refine lv_aload_n S.1 S.2.1 dX1_dropFrom_28 rfl (lv_at hl 1 rfl) ?_
      refine lv_dup S.1 S.2.1 dX1_dropFrom_29 rfl ?_
      refine m_get S hin1 hI 0 (Vhd_o0 h r q cs u21) rfl 5 (Nat.le_of_ble_eq_true rfl) (List.mem_of_getElem? (i := 3) rfl) rfl (FO1_at5 _ _ _) dX1_dropFrom_30 ?_
      refine lv_iconst (v := 1) S.1 S.2.1 dX1_dropFrom_33 (by decide) ?_
      refine lv_iadd S.1 S.2.1 dX1_dropFrom_34 ?_
      refine lv_topi (fun y34 ey34 => ?_)
      have hw := hw y34 ey34
      obtain ⟨u35, eu35⟩ : ∃ z : CS, z = mu u21 0 (sI (u21 0) 5 y34) := ⟨_, rfl⟩
      have hw := hw u35 eu35
      refine m_put S hin1 tyX1_ok nmX1 hI 0 (Vhd_o0 h r q cs u21) rfl 5 (Nat.le_of_ble_eq_true rfl) (List.mem_of_getElem? (i := 3) rfl) rfl rfl rfl rfl (Nat.le_of_ble_eq_true rfl) (Vhd_sI0_5 h r q cs u21 u35 y34 eu35) dX1_dropFrom_35 (fun H locs hI => ?_)
      exact b38 x1 t0 u35 hw H locs ls hI (lv_sub hl [1, 2, 0] rfl)
  unfold wp_X1_dropFrom at hw
  obtain ⟨H, hH⟩ : ∃ z : Heap, z = s.heap := ⟨_, rfl⟩
  obtain ⟨locs, hL⟩ : ∃ z : List Loc, z = [] := ⟨_, rfl⟩
  rw [show W p l e ({ frames := 2, cells := 0, slots := 0, locals := 36 } : Room) s m args below meth c s.heap [] 0 0 Z (F0 m 0 ls []) = W p l e ({ frames := 2, cells := 0, slots := 0, locals := 36 } : Room) s m args below meth c H locs 0 0 Z (F0 m 0 ls []) by rw [hH, hL]]
  replace hI : mI D (mT cs) A s.heap s (Vhd h r q cs u) H locs := by rw [hH, hL]; exact hI
  refine lv_aload_n S.1 S.2.1 dX1_dropFrom_0 rfl (lv_at hl 0 rfl) ?_
  refine m_get S hin1 hI 0 (Vhd_o0 h r q cs u) rfl 2 (Nat.le_of_ble_eq_true rfl) (List.mem_of_getElem? (i := 1) rfl) rfl (FO1_at2 _ _ _) dX1_dropFrom_1 ?_
  refine lv_iload_n S.1 S.2.1 dX1_dropFrom_4 rfl (lv_at hl 1 rfl) ?_
  refine lv_icmp_ge (tgt := 12) S.1 S.2.1 dX1_dropFrom_5 (by decide) (fun c5 => ?_) (fun c5 => ?_)
  · have hw := hw.1 c5
    refine lv_iconst (v := 0) S.1 S.2.1 dX1_dropFrom_12 (by decide) ?_
    exact b13 a1 (0 : Int32) u hw H locs ls hI (lv_sub hl [0, 1] rfl)
  · have hw := hw.2 c5
    refine lv_iconst (v := 1) S.1 S.2.1 dX1_dropFrom_8 (by decide) ?_
    refine lv_goto (tgt := 13) S.1 S.2.1 dX1_dropFrom_9 (by decide) ?_
    exact b13 a1 (1 : Int32) u hw H locs ls hI (lv_sub hl [0, 1] rfl)

theorem Vhd_sI0_7 (h : Nat → Nat) (r : Nat → Nat → Nat) (q : Nat → Nat → Nat → Nat) (cs : Nat → ClassId) (U u9 : CS) (x : Int32) (e : u9 = mu U 0 (sI (U 0) 7 x)) : (Vhd h r q cs U).set 0 (h 0, .inr (1, (FO1 (fun i => h (0 + i)) (r 0) (U 0)).set 7 (.int x))) = Vhd h r q cs u9 := by subst e; rfl
theorem Vhd_sI0_6 (h : Nat → Nat) (r : Nat → Nat → Nat) (q : Nat → Nat → Nat → Nat) (cs : Nat → ClassId) (U u9 : CS) (x : Int32) (e : u9 = mu U 0 (sI (U 0) 6 x)) : (Vhd h r q cs U).set 0 (h 0, .inr (1, (FO1 (fun i => h (0 + i)) (r 0) (U 0)).set 6 (.int x))) = Vhd h r q cs u9 := by subst e; rfl
def wp_X1_isGuessed_p46 (t0 : Int32) (u : CS) (Q : Int32 → CS → Prop) : Prop :=
  (t0 &&& 1 = t0 ∧ Q t0 u)
def wp_X1_isGuessed_p33 (x1 : Int32) (u : CS) (Q : Int32 → CS → Prop) : Prop :=
  ((¬ x1 = (gI (u 0) 2) → wp_X1_isGuessed_p46 (0 : Int32) u Q) ∧ (x1 = (gI (u 0) 2) → wp_X1_isGuessed_p46 (1 : Int32) u Q))
def wp_X1_isGuessed (a1 : Int32) (u : CS) (Q : Int32 → CS → Prop) : Prop :=
  (∀ u2 : CS, u2 = mu u 0 (sI (u 0) 1 (0 : Int32)) → (∀ y11 : Int32, y11 = (gI (u2 0) 7) + (1 : Int32) → (∀ u12 : CS, u12 = mu u2 0 (sI (u2 0) 7 y11) → ((¬ a1 = (gI (u12 0) 2) → wp_X1_isGuessed_p33 a1 u12 Q) ∧ (a1 = (gI (u12 0) 2) → (∀ y29 : Int32, y29 = (gI (u12 0) 6) + (1 : Int32) → (∀ u30 : CS, u30 = mu u12 0 (sI (u12 0) 6 y29) → wp_X1_isGuessed_p33 a1 u30 Q)))))))
set_option maxHeartbeats 4000000 in
set_option maxRecDepth 100000 in
theorem c_X1_isGuessed (l : Launch) (D : va_G) (h : Nat → Nat) (r : Nat → Nat → Nat) (q : Nat → Nat → Nat → Nat) (cs : Nat → ClassId) (a1 : Int32) (u : CS) (Q : Int32 → CS → Prop) (hw : wp_X1_isGuessed a1 u Q) : mCi l yX1_isGuessed wsX1_isGuessed ({ frames := 0, cells := 0, slots := 0, locals := 0 } : Room) 0 0 D (mT cs) (Vhd h r q cs) [.ref (h 0), .int a1] u Q := by
  unfold mCi
  refine m_enter (QQ := fun A => va_Qi Q (mPos D (mT cs) A (Vhd h r q cs)) A) (cc := cX1_isGuessed) (maxL := 2) (ret := (some .boolean)) (by decide) rfl (Nat.le_of_ble_eq_true rfl) ?_
  intro p e s m args below meth c A ls S hr hlocks hname hl hI
  have S : CallFix p m c cX1_isGuessed 2 s args wsX1_isGuessed RX1 := S
  show W p l e ({ frames := 0, cells := 0, slots := 0, locals := 0 } : Room) s m args below meth c s.heap [] 0 0 (MQ below (va_Qi Q (mPos D (mT cs) A (Vhd h r q cs)) A) args s 0 0 A) (F0 m 0 ls [])
  generalize hZ : MQ below (va_Qi Q (mPos D (mT cs) A (Vhd h r q cs)) A) args s 0 0 A = Z
  have hin1 : ∀ w ∈ wsX10, w ∈ wsX1_isGuessed := fun _ h => List.mem_cons_of_mem _ (List.mem_append_right _ h)
  have hl : lv_has ls 2 [(0, .ref (h 0)), (1, .int a1)] := hl
  have b46 : ∀ (t0 : Int32) (u : CS), wp_X1_isGuessed_p46 t0 u Q → mGo p l e ({ frames := 0, cells := 0, slots := 0, locals := 0 } : Room) s m args below meth c A Z 2 D (mT cs) (Vhd h r q cs) 46 [(0, .ref (h 0))] [.int t0] u := by
    intro t0 u hw H locs ls hI hl
    unfold wp_X1_isGuessed_p46 at hw
    subst hZ
    exact m_zret S hr hlocks hI hw.1 hw.2 dX1_isGuessed_46
  have b33 : ∀ (x1 : Int32) (u : CS), wp_X1_isGuessed_p33 x1 u Q → mGo p l e ({ frames := 0, cells := 0, slots := 0, locals := 0 } : Room) s m args below meth c A Z 2 D (mT cs) (Vhd h r q cs) 33 [(0, .ref (h 0)), (1, .int x1)] [] u := by
    intro x1 u hw H locs ls hI hl
    unfold wp_X1_isGuessed_p33 at hw
    refine lv_iload_n S.1 S.2.1 dX1_isGuessed_33 rfl (lv_at hl 1 rfl) ?_
    refine lv_aload_n S.1 S.2.1 dX1_isGuessed_34 rfl (lv_at hl 0 rfl) ?_
    refine m_get S hin1 hI 0 (Vhd_o0 h r q cs u) rfl 2 (Nat.le_of_ble_eq_true rfl) (List.mem_of_getElem? (i := 3) rfl) rfl (FO1_at2 _ _ _) dX1_isGuessed_35 ?_
    refine lv_icmp_ne (tgt := 45) S.1 S.2.1 dX1_isGuessed_38 (by decide) (fun c38 => ?_) (fun c38 => ?_)
    · have hw := hw.1 c38
      refine lv_iconst (v := 0) S.1 S.2.1 dX1_isGuessed_45 (by decide) ?_
      exact b46 (0 : Int32) u hw H locs ls hI (lv_sub hl [0] rfl)
    · have hw := hw.2 c38
      refine lv_iconst (v := 1) S.1 S.2.1 dX1_isGuessed_41 (by decide) ?_
      refine lv_goto (tgt := 46) S.1 S.2.1 dX1_isGuessed_42 (by decide) ?_
      exact b46 (1 : Int32) u hw H locs ls hI (lv_sub hl [0] rfl)
  unfold wp_X1_isGuessed at hw
  obtain ⟨H, hH⟩ : ∃ z : Heap, z = s.heap := ⟨_, rfl⟩
  obtain ⟨locs, hL⟩ : ∃ z : List Loc, z = [] := ⟨_, rfl⟩
  rw [show W p l e ({ frames := 0, cells := 0, slots := 0, locals := 0 } : Room) s m args below meth c s.heap [] 0 0 Z (F0 m 0 ls []) = W p l e ({ frames := 0, cells := 0, slots := 0, locals := 0 } : Room) s m args below meth c H locs 0 0 Z (F0 m 0 ls []) by rw [hH, hL]]
  replace hI : mI D (mT cs) A s.heap s (Vhd h r q cs u) H locs := by rw [hH, hL]; exact hI
  refine lv_aload_n S.1 S.2.1 dX1_isGuessed_0 rfl (lv_at hl 0 rfl) ?_
  refine lv_iconst (v := 0) S.1 S.2.1 dX1_isGuessed_1 (by decide) ?_
  obtain ⟨u2, eu2⟩ : ∃ z : CS, z = mu u 0 (sI (u 0) 1 (0 : Int32)) := ⟨_, rfl⟩
  have hw := hw u2 eu2
  refine m_put S hin1 tyX1_ok nmX1 hI 0 (Vhd_o0 h r q cs u) rfl 1 (Nat.le_of_ble_eq_true rfl) (List.mem_of_getElem? (i := 1) rfl) rfl rfl (by show Value.int ((0 : Int32) &&& 1) = _; rfl) rfl (Nat.le_of_ble_eq_true rfl) (Vhd_sI0_1 h r q cs u u2 (0 : Int32) eu2) dX1_isGuessed_2 (fun H locs hI => ?_)
  refine lv_aload_n S.1 S.2.1 dX1_isGuessed_5 rfl (lv_at hl 0 rfl) ?_
  refine lv_dup S.1 S.2.1 dX1_isGuessed_6 rfl ?_
  refine m_get S hin1 hI 0 (Vhd_o0 h r q cs u2) rfl 7 (Nat.le_of_ble_eq_true rfl) (List.mem_of_getElem? (i := 2) rfl) rfl (FO1_at7 _ _ _) dX1_isGuessed_7 ?_
  refine lv_iconst (v := 1) S.1 S.2.1 dX1_isGuessed_10 (by decide) ?_
  refine lv_iadd S.1 S.2.1 dX1_isGuessed_11 ?_
  refine lv_topi (fun y11 ey11 => ?_)
  have hw := hw y11 ey11
  obtain ⟨u12, eu12⟩ : ∃ z : CS, z = mu u2 0 (sI (u2 0) 7 y11) := ⟨_, rfl⟩
  have hw := hw u12 eu12
  refine m_put S hin1 tyX1_ok nmX1 hI 0 (Vhd_o0 h r q cs u2) rfl 7 (Nat.le_of_ble_eq_true rfl) (List.mem_of_getElem? (i := 2) rfl) rfl rfl rfl rfl (Nat.le_of_ble_eq_true rfl) (Vhd_sI0_7 h r q cs u2 u12 y11 eu12) dX1_isGuessed_12 (fun H locs hI => ?_)
  refine lv_iload_n S.1 S.2.1 dX1_isGuessed_15 rfl (lv_at hl 1 rfl) ?_
  refine lv_aload_n S.1 S.2.1 dX1_isGuessed_16 rfl (lv_at hl 0 rfl) ?_
  refine m_get S hin1 hI 0 (Vhd_o0 h r q cs u12) rfl 2 (Nat.le_of_ble_eq_true rfl) (List.mem_of_getElem? (i := 3) rfl) rfl (FO1_at2 _ _ _) dX1_isGuessed_17 ?_
  refine lv_icmp_ne (tgt := 33) S.1 S.2.1 dX1_isGuessed_20 (by decide) (fun c20 => ?_) (fun c20 => ?_)
  · have hw := hw.1 c20
    exact b33 a1 u12 hw H locs ls hI (lv_sub hl [0, 1] rfl)
  · have hw := hw.2 c20
    refine lv_aload_n S.1 S.2.1 dX1_isGuessed_23 rfl (lv_at hl 0 rfl) ?_
    refine lv_dup S.1 S.2.1 dX1_isGuessed_24 rfl ?_
    refine m_get S hin1 hI 0 (Vhd_o0 h r q cs u12) rfl 6 (Nat.le_of_ble_eq_true rfl) (List.mem_of_getElem? (i := 4) rfl) rfl (FO1_at6 _ _ _) dX1_isGuessed_25 ?_
    refine lv_iconst (v := 1) S.1 S.2.1 dX1_isGuessed_28 (by decide) ?_
    refine lv_iadd S.1 S.2.1 dX1_isGuessed_29 ?_
    refine lv_topi (fun y29 ey29 => ?_)
    have hw := hw y29 ey29
    obtain ⟨u30, eu30⟩ : ∃ z : CS, z = mu u12 0 (sI (u12 0) 6 y29) := ⟨_, rfl⟩
    have hw := hw u30 eu30
    refine m_put S hin1 tyX1_ok nmX1 hI 0 (Vhd_o0 h r q cs u12) rfl 6 (Nat.le_of_ble_eq_true rfl) (List.mem_of_getElem? (i := 4) rfl) rfl rfl rfl rfl (Nat.le_of_ble_eq_true rfl) (Vhd_sI0_6 h r q cs u12 u30 y29 eu30) dX1_isGuessed_30 (fun H locs hI => ?_)
    exact b33 a1 u30 hw H locs ls hI (lv_sub hl [0, 1] rfl)

theorem Vhc_o0 (h : Nat → Nat) (r : Nat → Nat → Nat) (q : Nat → Nat → Nat → Nat) (cs : Nat → ClassId) (U : CS) : (Vhc h r q cs U)[0]? = some (h 0, .inr (1, FO1 (fun i => h (0 + i)) (r 0) (U 0))) := rfl
theorem Vhc_o2 (h : Nat → Nat) (r : Nat → Nat → Nat) (q : Nat → Nat → Nat → Nat) (cs : Nat → ClassId) (U : CS) : (Vhc h r q cs U)[2]? = some (h 2, .inr (1, FO1 (fun i => h (2 + i)) (r 2) (U 2))) := rfl
theorem Vhc_o3 (h : Nat → Nat) (r : Nat → Nat → Nat) (q : Nat → Nat → Nat → Nat) (cs : Nat → ClassId) (U : CS) : (Vhc h r q cs U)[3]? = some (h 3, .inr (7, Ff7 (r 3) (U 3))) := rfl
theorem Vhc_c1 (h : Nat → Nat) (r : Nat → Nat → Nat) (q : Nat → Nat → Nat → Nat) (cs : Nat → ClassId) (U : CS) : ∀ v : ST, (Vhc h r q cs (mu U 1 v)).Perm ([] ++ (W7 (h 1) (r 1) cs v ++ [0, 2, 3].flatMap (cThc h r q cs U))) := fun v => (front_perm (cThc h r q cs (mu U 1 v)) (l := [0, 1, 2, 3]) (ks := [1]) (rest := [0, 2, 3]) (by decide)).trans (List.Perm.of_eq (by rw [show [1].flatMap (cThc h r q cs (mu U 1 v)) = W7 (h 1) (r 1) cs v from List.append_nil _]; rfl))
theorem Vhc_sI0_1 (h : Nat → Nat) (r : Nat → Nat → Nat) (q : Nat → Nat → Nat → Nat) (cs : Nat → ClassId) (U u9 : CS) (x : Int32) (e : u9 = mu U 0 (sI (U 0) 1 x)) : (Vhc h r q cs U).set 0 (h 0, .inr (1, (FO1 (fun i => h (0 + i)) (r 0) (U 0)).set 1 (.int x))) = Vhc h r q cs u9 := by subst e; rfl
theorem Vhc_sI0_2 (h : Nat → Nat) (r : Nat → Nat → Nat) (q : Nat → Nat → Nat → Nat) (cs : Nat → ClassId) (U u9 : CS) (x : Int32) (e : u9 = mu U 0 (sI (U 0) 2 x)) : (Vhc h r q cs U).set 0 (h 0, .inr (1, (FO1 (fun i => h (0 + i)) (r 0) (U 0)).set 2 (.int x))) = Vhc h r q cs u9 := by subst e; rfl
theorem Vhc_sI0_3 (h : Nat → Nat) (r : Nat → Nat → Nat) (q : Nat → Nat → Nat → Nat) (cs : Nat → ClassId) (U u9 : CS) (x : Int32) (e : u9 = mu U 0 (sI (U 0) 3 x)) : (Vhc h r q cs U).set 0 (h 0, .inr (1, (FO1 (fun i => h (0 + i)) (r 0) (U 0)).set 3 (.int x))) = Vhc h r q cs u9 := by subst e; rfl
theorem Vhc_sI0_4 (h : Nat → Nat) (r : Nat → Nat → Nat) (q : Nat → Nat → Nat → Nat) (cs : Nat → ClassId) (U u9 : CS) (x : Int32) (e : u9 = mu U 0 (sI (U 0) 4 x)) : (Vhc h r q cs U).set 0 (h 0, .inr (1, (FO1 (fun i => h (0 + i)) (r 0) (U 0)).set 4 (.int x))) = Vhc h r q cs u9 := by subst e; rfl
theorem Vhc_sI0_5 (h : Nat → Nat) (r : Nat → Nat → Nat) (q : Nat → Nat → Nat → Nat) (cs : Nat → ClassId) (U u9 : CS) (x : Int32) (e : u9 = mu U 0 (sI (U 0) 5 x)) : (Vhc h r q cs U).set 0 (h 0, .inr (1, (FO1 (fun i => h (0 + i)) (r 0) (U 0)).set 5 (.int x))) = Vhc h r q cs u9 := by subst e; rfl
theorem Vhc_sI0_6 (h : Nat → Nat) (r : Nat → Nat → Nat) (q : Nat → Nat → Nat → Nat) (cs : Nat → ClassId) (U u9 : CS) (x : Int32) (e : u9 = mu U 0 (sI (U 0) 6 x)) : (Vhc h r q cs U).set 0 (h 0, .inr (1, (FO1 (fun i => h (0 + i)) (r 0) (U 0)).set 6 (.int x))) = Vhc h r q cs u9 := by subst e; rfl
theorem Vhc_sI0_7 (h : Nat → Nat) (r : Nat → Nat → Nat) (q : Nat → Nat → Nat → Nat) (cs : Nat → ClassId) (U u9 : CS) (x : Int32) (e : u9 = mu U 0 (sI (U 0) 7 x)) : (Vhc h r q cs U).set 0 (h 0, .inr (1, (FO1 (fun i => h (0 + i)) (r 0) (U 0)).set 7 (.int x))) = Vhc h r q cs u9 := by subst e; rfl
def wp_X1_copy (u : CS) (Q : CS → Prop) : Prop :=
  (wp_X7_become (gI (u 3) 0) (gI (u 3) 1) (gI (u 3) 2) (u 1) (fun v25 => ∀ u25 : CS, u25 = mu u 1 v25 → (((gI (u25 2) 1) = 0 ∨ (gI (u25 2) 1) = 1) ∧ (∀ u33 : CS, u33 = mu u25 0 (sI (u25 0) 1 (gI (u25 2) 1)) → (∀ u41 : CS, u41 = mu u33 0 (sI (u33 0) 2 (gI (u33 2) 2)) → (∀ u49 : CS, u49 = mu u41 0 (sI (u41 0) 3 (gI (u41 2) 3)) → (∀ u57 : CS, u57 = mu u49 0 (sI (u49 0) 4 (gI (u49 2) 4)) → (∀ u65 : CS, u65 = mu u57 0 (sI (u57 0) 5 (gI (u57 2) 5)) → (∀ u73 : CS, u73 = mu u65 0 (sI (u65 0) 6 (gI (u65 2) 6)) → (∀ u81 : CS, u81 = mu u73 0 (sI (u73 0) 7 (gI (u73 2) 7)) → Q u81))))))))))
set_option maxHeartbeats 4000000 in
set_option maxRecDepth 100000 in
theorem c_X1_copy (l : Launch) (D : va_G) (h : Nat → Nat) (r : Nat → Nat → Nat) (q : Nat → Nat → Nat → Nat) (cs : Nat → ClassId) (u : CS) (Q : CS → Prop) (hw : wp_X1_copy u Q) : mCv l yX1_copy wsX1_copy ({ frames := 1, cells := 0, slots := 0, locals := 23 } : Room) 0 0 D (mT cs) (Vhc h r q cs) [.ref (h 0), .ref (h 2)] u Q := by
  unfold mCv
  refine m_enter (QQ := fun A => va_Qv Q (mPos D (mT cs) A (Vhc h r q cs)) A) (cc := cX1_copy) (maxL := 2) (ret := none) (by decide) rfl (Nat.le_of_ble_eq_true rfl) ?_
  intro p e s m args below meth c A ls S hr hlocks hname hl hI
  have S : CallFix p m c cX1_copy 2 s args wsX1_copy RX1 := S
  show W p l e ({ frames := 1, cells := 0, slots := 0, locals := 23 } : Room) s m args below meth c s.heap [] 0 0 (MQ below (va_Qv Q (mPos D (mT cs) A (Vhc h r q cs)) A) args s 0 0 A) (F0 m 0 ls [])
  generalize hZ : MQ below (va_Qv Q (mPos D (mT cs) A (Vhc h r q cs)) A) args s 0 0 A = Z
  have hin1 : ∀ w ∈ wsX10, w ∈ wsX1_copy := fun _ h => List.mem_cons_of_mem _ (List.mem_append_left _ (List.mem_append_right _ h))
  have hin7 : ∀ w ∈ wsX70, w ∈ wsX1_copy := fun _ h => List.mem_cons_of_mem _ (List.mem_append_right _ h)
  have hl : lv_has ls 2 [(0, .ref (h 0)), (1, .ref (h 2))] := hl
  unfold wp_X1_copy at hw
  obtain ⟨H, hH⟩ : ∃ z : Heap, z = s.heap := ⟨_, rfl⟩
  obtain ⟨locs, hL⟩ : ∃ z : List Loc, z = [] := ⟨_, rfl⟩
  rw [show W p l e ({ frames := 1, cells := 0, slots := 0, locals := 23 } : Room) s m args below meth c s.heap [] 0 0 Z (F0 m 0 ls []) = W p l e ({ frames := 1, cells := 0, slots := 0, locals := 23 } : Room) s m args below meth c H locs 0 0 Z (F0 m 0 ls []) by rw [hH, hL]]
  replace hI : mI D (mT cs) A s.heap s (Vhc h r q cs u) H locs := by rw [hH, hL]; exact hI
  refine lv_aload_n S.1 S.2.1 dX1_copy_0 rfl (lv_at hl 0 rfl) ?_
  refine m_get S hin1 hI 0 (Vhc_o0 h r q cs u) rfl 0 (Nat.le_of_ble_eq_true rfl) (List.mem_of_getElem? (i := 1) rfl) rfl (FO1_at0 _ _ _) dX1_copy_1 ?_
  refine lv_aload_n S.1 S.2.1 dX1_copy_4 rfl (lv_at hl 1 rfl) ?_
  refine m_get S hin1 hI 2 (Vhc_o2 h r q cs u) rfl 0 (Nat.le_of_ble_eq_true rfl) (List.mem_of_getElem? (i := 1) rfl) rfl (FO1_at0 _ _ _) dX1_copy_5 ?_
  refine m_getN S hin7 hI 3 (Vhc_o3 h r q cs u) rfl 0 (Nat.le_of_ble_eq_true rfl) nf_X1_47 rfl (Ff7_at0 _ _) dX1_copy_8 ?_
  refine lv_aload_n S.1 S.2.1 dX1_copy_11 rfl (lv_at hl 1 rfl) ?_
  refine m_get S hin1 hI 2 (Vhc_o2 h r q cs u) rfl 0 (Nat.le_of_ble_eq_true rfl) (List.mem_of_getElem? (i := 1) rfl) rfl (FO1_at0 _ _ _) dX1_copy_12 ?_
  refine m_getN S hin7 hI 3 (Vhc_o3 h r q cs u) rfl 1 (Nat.le_of_ble_eq_true rfl) nf_X1_50 rfl (Ff7_at1 _ _) dX1_copy_15 ?_
  refine lv_aload_n S.1 S.2.1 dX1_copy_18 rfl (lv_at hl 1 rfl) ?_
  refine m_get S hin1 hI 2 (Vhc_o2 h r q cs u) rfl 0 (Nat.le_of_ble_eq_true rfl) (List.mem_of_getElem? (i := 1) rfl) rfl (FO1_at0 _ _ _) dX1_copy_19 ?_
  refine m_getN S hin7 hI 3 (Vhc_o3 h r q cs u) rfl 2 (Nat.le_of_ble_eq_true rfl) nf_X1_53 rfl (Ff7_at2 _ _) dX1_copy_22 ?_
  refine m_vv (cf := fun v => Vhc h r q cs (mu u 1 v)) (As := [.int (gI (u 3) 0), .int (gI (u 3) 1), .int (gI (u 3) 2)]) (rest := []) S (Vhc_c1 h r q cs u) hI (by rw [mu_self]) (c_X7_become l D (h 1) (r 1) cs (gI (u 3) 0) (gI (u 3) 1) (gI (u 3) 2) (u 1) _ hw) (cwV 3 S.2.2.2.2 gX1_copy_X7_become rfl rfl rfl (by decide +kernel) ⟨Nat.le_of_ble_eq_true rfl, Nat.le_of_ble_eq_true rfl⟩) rfl rfl rfl hl.1 rfl (Nat.le_of_ble_eq_true rfl) dX1_copy_25 ⟨Nat.zero_le _, Nat.zero_le _⟩ (fun v25 H locs hw hI => ?_)
  obtain ⟨u25, eu25⟩ : ∃ z : CS, z = mu u 1 v25 := ⟨_, rfl⟩
  have hw := hw u25 eu25
  replace hI : mI D (mT cs) A s.heap s (Vhc h r q cs u25) H locs := by rw [eu25]; exact hI
  refine lv_aload_n S.1 S.2.1 dX1_copy_28 rfl (lv_at hl 0 rfl) ?_
  refine lv_aload_n S.1 S.2.1 dX1_copy_29 rfl (lv_at hl 1 rfl) ?_
  refine m_get S hin1 hI 2 (Vhc_o2 h r q cs u25) rfl 1 (Nat.le_of_ble_eq_true rfl) (List.mem_of_getElem? (i := 2) rfl) rfl (FO1_at1 _ _ _) dX1_copy_30 ?_
  obtain ⟨u33, eu33⟩ : ∃ z : CS, z = mu u25 0 (sI (u25 0) 1 (gI (u25 2) 1)) := ⟨_, rfl⟩
  have hz33 := hw.1
  have hw := hw.2
  have hw := hw u33 eu33
  refine m_put S hin1 tyX1_ok nmX1 hI 0 (Vhc_o0 h r q cs u25) rfl 1 (Nat.le_of_ble_eq_true rfl) (List.mem_of_getElem? (i := 2) rfl) rfl rfl (by show Value.int ((gI (u25 2) 1) &&& 1) = _; rw [(mz01 hz33).1]) (mz01 hz33).2 (Nat.le_of_ble_eq_true rfl) (Vhc_sI0_1 h r q cs u25 u33 (gI (u25 2) 1) eu33) dX1_copy_33 (fun H locs hI => ?_)
  refine lv_aload_n S.1 S.2.1 dX1_copy_36 rfl (lv_at hl 0 rfl) ?_
  refine lv_aload_n S.1 S.2.1 dX1_copy_37 rfl (lv_at hl 1 rfl) ?_
  refine m_get S hin1 hI 2 (Vhc_o2 h r q cs u33) rfl 2 (Nat.le_of_ble_eq_true rfl) (List.mem_of_getElem? (i := 3) rfl) rfl (FO1_at2 _ _ _) dX1_copy_38 ?_
  obtain ⟨u41, eu41⟩ : ∃ z : CS, z = mu u33 0 (sI (u33 0) 2 (gI (u33 2) 2)) := ⟨_, rfl⟩
  have hw := hw u41 eu41
  refine m_put S hin1 tyX1_ok nmX1 hI 0 (Vhc_o0 h r q cs u33) rfl 2 (Nat.le_of_ble_eq_true rfl) (List.mem_of_getElem? (i := 3) rfl) rfl rfl rfl rfl (Nat.le_of_ble_eq_true rfl) (Vhc_sI0_2 h r q cs u33 u41 (gI (u33 2) 2) eu41) dX1_copy_41 (fun H locs hI => ?_)
  refine lv_aload_n S.1 S.2.1 dX1_copy_44 rfl (lv_at hl 0 rfl) ?_
  refine lv_aload_n S.1 S.2.1 dX1_copy_45 rfl (lv_at hl 1 rfl) ?_
  refine m_get S hin1 hI 2 (Vhc_o2 h r q cs u41) rfl 3 (Nat.le_of_ble_eq_true rfl) (List.mem_of_getElem? (i := 4) rfl) rfl (FO1_at3 _ _ _) dX1_copy_46 ?_
  obtain ⟨u49, eu49⟩ : ∃ z : CS, z = mu u41 0 (sI (u41 0) 3 (gI (u41 2) 3)) := ⟨_, rfl⟩
  have hw := hw u49 eu49
  refine m_put S hin1 tyX1_ok nmX1 hI 0 (Vhc_o0 h r q cs u41) rfl 3 (Nat.le_of_ble_eq_true rfl) (List.mem_of_getElem? (i := 4) rfl) rfl rfl rfl rfl (Nat.le_of_ble_eq_true rfl) (Vhc_sI0_3 h r q cs u41 u49 (gI (u41 2) 3) eu49) dX1_copy_49 (fun H locs hI => ?_)
  refine lv_aload_n S.1 S.2.1 dX1_copy_52 rfl (lv_at hl 0 rfl) ?_
  refine lv_aload_n S.1 S.2.1 dX1_copy_53 rfl (lv_at hl 1 rfl) ?_
  refine m_get S hin1 hI 2 (Vhc_o2 h r q cs u49) rfl 4 (Nat.le_of_ble_eq_true rfl) (List.mem_of_getElem? (i := 5) rfl) rfl (FO1_at4 _ _ _) dX1_copy_54 ?_
  obtain ⟨u57, eu57⟩ : ∃ z : CS, z = mu u49 0 (sI (u49 0) 4 (gI (u49 2) 4)) := ⟨_, rfl⟩
  have hw := hw u57 eu57
  refine m_put S hin1 tyX1_ok nmX1 hI 0 (Vhc_o0 h r q cs u49) rfl 4 (Nat.le_of_ble_eq_true rfl) (List.mem_of_getElem? (i := 5) rfl) rfl rfl rfl rfl (Nat.le_of_ble_eq_true rfl) (Vhc_sI0_4 h r q cs u49 u57 (gI (u49 2) 4) eu57) dX1_copy_57 (fun H locs hI => ?_)
  refine lv_aload_n S.1 S.2.1 dX1_copy_60 rfl (lv_at hl 0 rfl) ?_
  refine lv_aload_n S.1 S.2.1 dX1_copy_61 rfl (lv_at hl 1 rfl) ?_
  refine m_get S hin1 hI 2 (Vhc_o2 h r q cs u57) rfl 5 (Nat.le_of_ble_eq_true rfl) (List.mem_of_getElem? (i := 6) rfl) rfl (FO1_at5 _ _ _) dX1_copy_62 ?_
  obtain ⟨u65, eu65⟩ : ∃ z : CS, z = mu u57 0 (sI (u57 0) 5 (gI (u57 2) 5)) := ⟨_, rfl⟩
  have hw := hw u65 eu65
  refine m_put S hin1 tyX1_ok nmX1 hI 0 (Vhc_o0 h r q cs u57) rfl 5 (Nat.le_of_ble_eq_true rfl) (List.mem_of_getElem? (i := 6) rfl) rfl rfl rfl rfl (Nat.le_of_ble_eq_true rfl) (Vhc_sI0_5 h r q cs u57 u65 (gI (u57 2) 5) eu65) dX1_copy_65 (fun H locs hI => ?_)
  refine lv_aload_n S.1 S.2.1 dX1_copy_68 rfl (lv_at hl 0 rfl) ?_
  refine lv_aload_n S.1 S.2.1 dX1_copy_69 rfl (lv_at hl 1 rfl) ?_
  refine m_get S hin1 hI 2 (Vhc_o2 h r q cs u65) rfl 6 (Nat.le_of_ble_eq_true rfl) (List.mem_of_getElem? (i := 7) rfl) rfl (FO1_at6 _ _ _) dX1_copy_70 ?_
  obtain ⟨u73, eu73⟩ : ∃ z : CS, z = mu u65 0 (sI (u65 0) 6 (gI (u65 2) 6)) := ⟨_, rfl⟩
  have hw := hw u73 eu73
  refine m_put S hin1 tyX1_ok nmX1 hI 0 (Vhc_o0 h r q cs u65) rfl 6 (Nat.le_of_ble_eq_true rfl) (List.mem_of_getElem? (i := 7) rfl) rfl rfl rfl rfl (Nat.le_of_ble_eq_true rfl) (Vhc_sI0_6 h r q cs u65 u73 (gI (u65 2) 6) eu73) dX1_copy_73 (fun H locs hI => ?_)
  refine lv_aload_n S.1 S.2.1 dX1_copy_76 rfl (lv_at hl 0 rfl) ?_
  refine lv_aload_n S.1 S.2.1 dX1_copy_77 rfl (lv_at hl 1 rfl) ?_
  refine m_get S hin1 hI 2 (Vhc_o2 h r q cs u73) rfl 7 (Nat.le_of_ble_eq_true rfl) (List.mem_of_getElem? (i := 8) rfl) rfl (FO1_at7 _ _ _) dX1_copy_78 ?_
  obtain ⟨u81, eu81⟩ : ∃ z : CS, z = mu u73 0 (sI (u73 0) 7 (gI (u73 2) 7)) := ⟨_, rfl⟩
  have hw := hw u81 eu81
  refine m_put S hin1 tyX1_ok nmX1 hI 0 (Vhc_o0 h r q cs u73) rfl 7 (Nat.le_of_ble_eq_true rfl) (List.mem_of_getElem? (i := 8) rfl) rfl rfl rfl rfl (Nat.le_of_ble_eq_true rfl) (Vhc_sI0_7 h r q cs u73 u81 (gI (u73 2) 7) eu81) dX1_copy_81 (fun H locs hI => ?_)
  subst hZ
  exact m_vret S hr hlocks hI hw dX1_copy_84

theorem Vmw_c2 (h : Nat → Nat) (r : Nat → Nat → Nat) (q : Nat → Nat → Nat → Nat) (cs : Nat → ClassId) (U : CS) : ∀ v : ST, (Vmw h r q cs (mu U 2 v)).Perm ([] ++ (W8 (h 2) (r 2) cs v ++ [0, 1].flatMap (cTmw h r q cs U))) := fun v => (front_perm (cTmw h r q cs (mu U 2 v)) (l := [0, 1, 2]) (ks := [2]) (rest := [0, 1]) (by decide)).trans (List.Perm.of_eq (by rw [show [2].flatMap (cTmw h r q cs (mu U 2 v)) = W8 (h 2) (r 2) cs v from List.append_nil _]; rfl))
theorem Vmw_o1 (h : Nat → Nat) (r : Nat → Nat → Nat) (q : Nat → Nat → Nat → Nat) (cs : Nat → ClassId) (U : CS) : (Vmw h r q cs U)[20]? = some (h 1, .inr (3, Ff3 (r 1) (U 1))) := rfl
theorem Vmw_o0 (h : Nat → Nat) (r : Nat → Nat → Nat) (q : Nat → Nat → Nat → Nat) (cs : Nat → ClassId) (U : CS) : (Vmw h r q cs U)[0]? = some (h 0, .inr (4, Ff4 (r 0) (U 0))) := rfl
theorem Vmw_sI0_5 (h : Nat → Nat) (r : Nat → Nat → Nat) (q : Nat → Nat → Nat → Nat) (cs : Nat → ClassId) (U u9 : CS) (x : Int32) (e : u9 = mu U 0 (sI (U 0) 5 x)) : (Vmw h r q cs U).set 0 (h 0, .inr (4, (Ff4 (r 0) (U 0)).set 5 (.int x))) = Vmw h r q cs u9 := by subst e; rfl
theorem Vmw_sI0_6 (h : Nat → Nat) (r : Nat → Nat → Nat) (q : Nat → Nat → Nat → Nat) (cs : Nat → ClassId) (U u9 : CS) (x : Int32) (e : u9 = mu U 0 (sI (U 0) 6 x)) : (Vmw h r q cs U).set 0 (h 0, .inr (4, (Ff4 (r 0) (U 0)).set 6 (.int x))) = Vmw h r q cs u9 := by subst e; rfl
theorem Vmw_sI0_7 (h : Nat → Nat) (r : Nat → Nat → Nat) (q : Nat → Nat → Nat → Nat) (cs : Nat → ClassId) (U u9 : CS) (x : Int32) (e : u9 = mu U 0 (sI (U 0) 7 x)) : (Vmw h r q cs U).set 0 (h 0, .inr (4, (Ff4 (r 0) (U 0)).set 7 (.int x))) = Vmw h r q cs u9 := by subst e; rfl
theorem Vmw_c1 (h : Nat → Nat) (r : Nat → Nat → Nat) (q : Nat → Nat → Nat → Nat) (cs : Nat → ClassId) (U : CS) : ∀ v : ST, (Vmw h r q cs (mu U 1 v)).Perm ([] ++ (W3 (h 1) (r 1) cs v ++ [0, 2].flatMap (cTmw h r q cs U))) := fun v => (front_perm (cTmw h r q cs (mu U 1 v)) (l := [0, 1, 2]) (ks := [1]) (rest := [0, 2]) (by decide)).trans (List.Perm.of_eq (by rw [show [1].flatMap (cTmw h r q cs (mu U 1 v)) = W3 (h 1) (r 1) cs v from List.append_nil _]; rfl))
theorem Vmw_a0_0 (h : Nat → Nat) (r : Nat → Nat → Nat) (q : Nat → Nat → Nat → Nat) (cs : Nat → ClassId) (U : CS) : (Vmw h r q cs U)[1]? = some (r 0 0, .inl (cs 0, 61, .inl (gA (U 0) 0))) := rfl
theorem Vmw_a0_1 (h : Nat → Nat) (r : Nat → Nat → Nat) (q : Nat → Nat → Nat → Nat) (cs : Nat → ClassId) (U : CS) : (Vmw h r q cs U)[2]? = some (r 0 1, .inl (cs 0, 62, .inl (gA (U 0) 1))) := rfl
theorem Vmw_sA0_1 (h : Nat → Nat) (r : Nat → Nat → Nat) (q : Nat → Nat → Nat → Nat) (cs : Nat → ClassId) (U u9 : CS) (f : Nat → Int32) (e : u9 = mu U 0 (sA (U 0) 1 f)) : (Vmw h r q cs U).set 2 (r 0 1, .inl (cs 0, 62, .inl f)) = Vmw h r q cs u9 := by subst e; rfl
theorem Vmw_sA0_0 (h : Nat → Nat) (r : Nat → Nat → Nat) (q : Nat → Nat → Nat → Nat) (cs : Nat → ClassId) (U u9 : CS) (f : Nat → Int32) (e : u9 = mu U 0 (sA (U 0) 0 f)) : (Vmw h r q cs U).set 1 (r 0 0, .inl (cs 0, 61, .inl f)) = Vmw h r q cs u9 := by subst e; rfl
theorem Vmw_c0 (h : Nat → Nat) (r : Nat → Nat → Nat) (q : Nat → Nat → Nat → Nat) (cs : Nat → ClassId) (U : CS) : ∀ v : ST, (Vmw h r q cs (mu U 0 v)).Perm ([] ++ (W4 (h 0) (r 0) (q 0) cs v ++ [1, 2].flatMap (cTmw h r q cs U))) := fun v => (front_perm (cTmw h r q cs (mu U 0 v)) (l := [0, 1, 2]) (ks := [0]) (rest := [1, 2]) (by decide)).trans (List.Perm.of_eq (by rw [show [0].flatMap (cTmw h r q cs (mu U 0 v)) = W4 (h 0) (r 0) (q 0) cs v from List.append_nil _]; rfl))
def wp_X4_weigh_p138 (u : CS) (Q : CS → Prop) : Prop :=
  Q u
def wp_X4_weigh_p113 (x3 : Int32) (x4 : Int32) (x5 : Int32) (x6 : Int32) (u : CS) (B62 : Int32 → Int32 → Int32 → CS → Prop) (Q : CS → Prop) : Prop :=
  (∀ y120 : Int32, y120 = x5 + (1 : Int32) → (vp_in x5 62 ∧ ∀ y127 : Int32, y127 = gA (u 0) 1 x5.toNatClampNeg → (∀ y130 : Int32, y130 = y127 + x6 → (vp_in y120 62 ∧ ∀ u131 : CS, u131 = mu u 0 (sA (u 0) 1 (upd (gA (u 0) 1) y120.toNatClampNeg y130)) → (∀ y132 : Int32, y132 = x5 + 1 → B62 x3 x4 y132 u131)))))
def wp_X4_weigh_p62b (x3 : Int32) (x4 : Int32) (x5 : Int32) (u : CS) (B62 : Int32 → Int32 → Int32 → CS → Prop) (Q : CS → Prop) : Prop :=
  ((x3 < x5 → wp_X4_weigh_p138 u Q) ∧ (¬ x3 < x5 → (((61 : Int32) ≤ x5 → wp_X4_weigh_p138 u Q) ∧ (¬ (61 : Int32) ≤ x5 → (wp_X3_weightFor x5 x3 x4 (u 1) (fun y81 v81 => ∀ u81 : CS, u81 = mu u 1 v81 → (vp_in x5 61 ∧ ∀ y94 : Int32, y94 = gA (u81 0) 0 x5.toNatClampNeg → ((y81 = y94 → wp_X4_weigh_p113 x3 x4 x5 y81 u81 B62 Q) ∧ (¬ y81 = y94 → (vp_in x5 61 ∧ ∀ u106 : CS, u106 = mu u81 0 (sA (u81 0) 0 (upd (gA (u81 0) 0) x5.toNatClampNeg y81)) → (wp_X4_forgetFrom x5 (u106 0) (fun v110 => ∀ u110 : CS, u110 = mu u106 0 v110 → wp_X4_weigh_p113 x3 x4 x5 y81 u110 B62 Q))))))))))))
def wp_X4_weigh_p62 (x3 : Int32) (x4 : Int32) (x5 : Int32) (u : CS) (Q : CS → Prop) : Prop := ∃ (I : Int32 → Int32 → Int32 → CS → Prop) (μ : Int32 → Int32 → Int32 → CS → Nat), I x3 x4 x5 u ∧ ∀ (x3 : Int32) (x4 : Int32) (x5 : Int32) (u : CS), I x3 x4 x5 u → wp_X4_weigh_p62b x3 x4 x5 u (fun yx3 yx4 yx5 yu => I yx3 yx4 yx5 yu ∧ μ yx3 yx4 yx5 yu < μ x3 x4 x5 u) Q
def wp_X4_weigh_p40 (x3 : Int32) (x4 : Int32) (u : CS) (Q : CS → Prop) : Prop :=
  (∀ u45 : CS, u45 = mu u 0 (sI (u 0) 5 (gI (u 1) 9)) → (∀ u50 : CS, u50 = mu u45 0 (sI (u45 0) 6 x3) → (∀ u56 : CS, u56 = mu u50 0 (sI (u50 0) 7 x4) → wp_X4_weigh_p62 x3 x4 (0 : Int32) u56 Q)))
def wp_X4_weigh (u : CS) (Q : CS → Prop) : Prop :=
  (wp_X8_steps (u 2) (fun y1 v1 => ∀ u1 : CS, u1 = mu u 2 v1 → (wp_X8_jars (u1 2) (fun y6 v6 => ∀ u6 : CS, u6 = mu u1 2 v6 → ((¬ (gI (u6 1) 9) = (gI (u6 0) 5) → wp_X4_weigh_p40 y1 y6 u6 Q) ∧ ((gI (u6 1) 9) = (gI (u6 0) 5) → ((¬ y1 = (gI (u6 0) 6) → wp_X4_weigh_p40 y1 y6 u6 Q) ∧ (y1 = (gI (u6 0) 6) → ((¬ y6 = (gI (u6 0) 7) → wp_X4_weigh_p40 y1 y6 u6 Q) ∧ (y6 = (gI (u6 0) 7) → Q u6))))))))))
set_option maxHeartbeats 4000000 in
set_option maxRecDepth 100000 in
theorem c_X4_weigh (l : Launch) (D : va_G) (h : Nat → Nat) (r : Nat → Nat → Nat) (q : Nat → Nat → Nat → Nat) (cs : Nat → ClassId) (u : CS) (Q : CS → Prop) (hw : wp_X4_weigh u Q) : mCv l yX4_weigh wsX4_weigh ({ frames := 4, cells := 0, slots := 0, locals := 93 } : Room) 0 0 D (mT cs) (Vmw h r q cs) [.ref (h 0), .ref (h 1), .ref (h 2)] u Q := by
  unfold mCv
  refine m_enter (QQ := fun A => va_Qv Q (mPos D (mT cs) A (Vmw h r q cs)) A) (cc := cX4_weigh) (maxL := 7) (ret := none) (by decide) rfl (Nat.le_of_ble_eq_true rfl) ?_
  intro p e s m args below meth c A ls S hr hlocks hname hl hI
  have S : CallFix p m c cX4_weigh 7 s args wsX4_weigh RX4 := S
  show W p l e ({ frames := 4, cells := 0, slots := 0, locals := 93 } : Room) s m args below meth c s.heap [] 0 0 (MQ below (va_Qv Q (mPos D (mT cs) A (Vmw h r q cs)) A) args s 0 0 A) (F0 m 0 ls [])
  generalize hZ : MQ below (va_Qv Q (mPos D (mT cs) A (Vmw h r q cs)) A) args s 0 0 A = Z
  have hin3 : ∀ w ∈ wsX30, w ∈ wsX4_weigh := fun _ h => List.mem_cons_of_mem _ (List.mem_append_left _ (List.mem_append_left _ (List.mem_append_right _ h)))
  have hin4 : ∀ w ∈ wsX40, w ∈ wsX4_weigh := fun _ h => List.mem_cons_of_mem _ (List.mem_append_left _ (List.mem_append_right _ h))
  have hin8 : ∀ w ∈ wsX80, w ∈ wsX4_weigh := fun _ h => List.mem_cons_of_mem _ (List.mem_append_right _ h)
  have hl : lv_has ls 7 [(0, .ref (h 0)), (1, .ref (h 1)), (2, .ref (h 2))] := hl
  have b138 : ∀ (u : CS), wp_X4_weigh_p138 u Q → mGo p l e ({ frames := 4, cells := 0, slots := 0, locals := 93 } : Room) s m args below meth c A Z 7 D (mT cs) (Vmw h r q cs) 138 [(0, .ref (h 0))] [] u := by
    intro u hw H locs ls hI hl
    unfold wp_X4_weigh_p138 at hw
    subst hZ
    exact m_vret S hr hlocks hI hw dX4_weigh_138
  have b113 : ∀ (B62 : Int32 → Int32 → Int32 → CS → Prop), (∀ (x3 : Int32) (x4 : Int32) (x5 : Int32) (u : CS), B62 x3 x4 x5 u → mGo p l e ({ frames := 4, cells := 0, slots := 0, locals := 93 } : Room) s m args below meth c A Z 7 D (mT cs) (Vmw h r q cs) 62 [(0, .ref (h 0)), (1, .ref (h 1)), (3, .int x3), (4, .int x4), (5, .int x5)] [] u) → ∀ (x3 : Int32) (x4 : Int32) (x5 : Int32) (x6 : Int32) (u : CS), wp_X4_weigh_p113 x3 x4 x5 x6 u B62 Q → mGo p l e ({ frames := 4, cells := 0, slots := 0, locals := 93 } : Room) s m args below meth c A Z 7 D (mT cs) (Vmw h r q cs) 113 [(0, .ref (h 0)), (1, .ref (h 1)), (3, .int x3), (4, .int x4), (5, .int x5), (6, .int x6)] [] u := by
    intro B62 hB62 x3 x4 x5 x6 u hw H locs ls hI hl
    unfold wp_X4_weigh_p113 at hw
    refine lv_aload_n S.1 S.2.1 dX4_weigh_113 rfl (lv_at hl 0 rfl) ?_
    refine m_get S hin4 hI 0 (Vmw_o0 h r q cs u) rfl 1 (Nat.le_of_ble_eq_true rfl) (List.mem_of_getElem? (i := 5) rfl) rfl (Ff4_at1 _ _) dX4_weigh_114 ?_
    refine lv_iload S.1 S.2.1 dX4_weigh_117 (lv_at hl 4 rfl) ?_
    refine lv_iconst (v := 1) S.1 S.2.1 dX4_weigh_119 (by decide) ?_
    refine lv_iadd S.1 S.2.1 dX4_weigh_120 ?_
    refine lv_topi (fun y120 ey120 => ?_)
    have hw := hw y120 ey120
    refine lv_aload_n S.1 S.2.1 dX4_weigh_121 rfl (lv_at hl 0 rfl) ?_
    refine m_get S hin4 hI 0 (Vmw_o0 h r q cs u) rfl 1 (Nat.le_of_ble_eq_true rfl) (List.mem_of_getElem? (i := 5) rfl) rfl (Ff4_at1 _ _) dX4_weigh_122 ?_
    refine lv_iload S.1 S.2.1 dX4_weigh_125 (lv_at hl 4 rfl) ?_
    refine m_iald S hI 2 0 (Vmw_a0_1 h r q cs u) rfl hw.1 dX4_weigh_127 ?_
    refine lv_topi (fun y127 ey127 => ?_)
    have hw := hw.2 y127 ey127
    refine lv_iload S.1 S.2.1 dX4_weigh_128 (lv_at hl 5 rfl) ?_
    refine lv_iadd S.1 S.2.1 dX4_weigh_130 ?_
    refine lv_topi (fun y130 ey130 => ?_)
    have hw := hw y130 ey130
    obtain ⟨u131, eu131⟩ : ∃ z : CS, z = mu u 0 (sA (u 0) 1 (upd (gA (u 0) 1) y120.toNatClampNeg y130)) := ⟨_, rfl⟩
    refine m_iast S hI 2 0 (Vmw_a0_1 h r q cs u) rfl hw.1 (Vmw_sA0_1 h r q cs u u131 _ eu131) dX4_weigh_131 (fun H locs hI => ?_)
    have hw := hw.2 u131 eu131
    obtain ⟨y132, ey132⟩ : ∃ z : Int32, z = x5 + 1 := ⟨_, rfl⟩
    have hw := hw y132 ey132
    refine lv_iinc (v := y132) (lv' := [(5, .int y132), (0, .ref (h 0)), (1, .ref (h 1)), (3, .int x3), (4, .int x4), (6, .int x6)]) S.1 S.2.1 dX4_weigh_132 hl (k := 4) rfl (by rw [ey132]; rfl) (by decide) rfl (fun ls hl => ?_)
    refine lv_goto (tgt := 62) S.1 S.2.1 dX4_weigh_135 (by decide) ?_
    exact hB62 x3 x4 y132 u131 hw H locs ls hI (lv_sub hl [1, 2, 3, 4, 0] rfl)
  have b62b : ∀ (B62 : Int32 → Int32 → Int32 → CS → Prop), (∀ (x3 : Int32) (x4 : Int32) (x5 : Int32) (u : CS), B62 x3 x4 x5 u → mGo p l e ({ frames := 4, cells := 0, slots := 0, locals := 93 } : Room) s m args below meth c A Z 7 D (mT cs) (Vmw h r q cs) 62 [(0, .ref (h 0)), (1, .ref (h 1)), (3, .int x3), (4, .int x4), (5, .int x5)] [] u) → ∀ (x3 : Int32) (x4 : Int32) (x5 : Int32) (u : CS), wp_X4_weigh_p62b x3 x4 x5 u B62 Q → mGo p l e ({ frames := 4, cells := 0, slots := 0, locals := 93 } : Room) s m args below meth c A Z 7 D (mT cs) (Vmw h r q cs) 62 [(0, .ref (h 0)), (1, .ref (h 1)), (3, .int x3), (4, .int x4), (5, .int x5)] [] u := by
    intro B62 hB62 x3 x4 x5 u hw H locs ls hI hl
    unfold wp_X4_weigh_p62b at hw
    refine lv_iload S.1 S.2.1 dX4_weigh_62 (lv_at hl 4 rfl) ?_
    refine lv_iload_n S.1 S.2.1 dX4_weigh_64 rfl (lv_at hl 2 rfl) ?_
    refine lv_icmp_gt (tgt := 138) S.1 S.2.1 dX4_weigh_65 (by decide) (fun c65 => ?_) (fun c65 => ?_)
    · have hw := hw.1 c65
      exact b138 u hw H locs ls hI (lv_sub hl [0] rfl)
    · have hw := hw.2 c65
      refine lv_iload S.1 S.2.1 dX4_weigh_68 (lv_at hl 4 rfl) ?_
      refine lv_bipush (v := 61) S.1 S.2.1 dX4_weigh_70 (by decide) ?_
      refine lv_icmp_ge (tgt := 138) S.1 S.2.1 dX4_weigh_72 (by decide) (fun c72 => ?_) (fun c72 => ?_)
      · have hw := hw.1 c72
        exact b138 u hw H locs ls hI (lv_sub hl [0] rfl)
      · have hw := hw.2 c72
        refine lv_aload_n S.1 S.2.1 dX4_weigh_75 rfl (lv_at hl 1 rfl) ?_
        refine lv_iload S.1 S.2.1 dX4_weigh_76 (lv_at hl 4 rfl) ?_
        refine lv_iload_n S.1 S.2.1 dX4_weigh_78 rfl (lv_at hl 2 rfl) ?_
        refine lv_iload S.1 S.2.1 dX4_weigh_79 (lv_at hl 3 rfl) ?_
        refine m_vi (cf := fun v => Vmw h r q cs (mu u 1 v)) (As := [.int x5, .int x3, .int x4]) (rest := []) S (Vmw_c1 h r q cs u) hI (by rw [mu_self]) (c_X3_weightFor l D (h 1) (r 1) cs x5 x3 x4 (u 1) _ hw) (cwV 3 S.2.2.2.2 gX4_weigh_X3_weightFor rfl rfl rfl (by decide +kernel) ⟨Nat.le_of_ble_eq_true rfl, Nat.le_of_ble_eq_true rfl⟩) rfl rfl rfl hl.1 rfl (Nat.le_of_ble_eq_true rfl) dX4_weigh_81 ⟨Nat.zero_le _, Nat.zero_le _⟩ (fun y81 v81 H locs hw hI => ?_)
        obtain ⟨u81, eu81⟩ : ∃ z : CS, z = mu u 1 v81 := ⟨_, rfl⟩
        have hw := hw u81 eu81
        replace hI : mI D (mT cs) A s.heap s (Vmw h r q cs u81) H locs := by rw [eu81]; exact hI
        refine lv_istore (lv' := [(6, .int y81), (0, .ref (h 0)), (1, .ref (h 1)), (3, .int x3), (4, .int x4), (5, .int x5)]) S.1 S.2.1 dX4_weigh_84 hl (by decide) rfl (fun ls hl => ?_)
        refine lv_iload S.1 S.2.1 dX4_weigh_86 (lv_at hl 0 rfl) ?_
        refine lv_aload_n S.1 S.2.1 dX4_weigh_88 rfl (lv_at hl 1 rfl) ?_
        refine m_get S hin4 hI 0 (Vmw_o0 h r q cs u81) rfl 0 (Nat.le_of_ble_eq_true rfl) (List.mem_of_getElem? (i := 4) rfl) rfl (Ff4_at0 _ _) dX4_weigh_89 ?_
        refine lv_iload S.1 S.2.1 dX4_weigh_92 (lv_at hl 5 rfl) ?_
        refine m_iald S hI 1 0 (Vmw_a0_0 h r q cs u81) rfl hw.1 dX4_weigh_94 ?_
        refine lv_topi (fun y94 ey94 => ?_)
        have hw := hw.2 y94 ey94
        refine lv_icmp_eq (tgt := 113) S.1 S.2.1 dX4_weigh_95 (by decide) (fun c95 => ?_) (fun c95 => ?_)
        · have hw := hw.1 c95
          exact b113 B62 hB62 x3 x4 x5 y81 u81 hw H locs ls hI (lv_sub hl [1, 2, 3, 4, 5, 0] rfl)
        · have hw := hw.2 c95
          refine lv_aload_n S.1 S.2.1 dX4_weigh_98 rfl (lv_at hl 1 rfl) ?_
          refine m_get S hin4 hI 0 (Vmw_o0 h r q cs u81) rfl 0 (Nat.le_of_ble_eq_true rfl) (List.mem_of_getElem? (i := 4) rfl) rfl (Ff4_at0 _ _) dX4_weigh_99 ?_
          refine lv_iload S.1 S.2.1 dX4_weigh_102 (lv_at hl 5 rfl) ?_
          refine lv_iload S.1 S.2.1 dX4_weigh_104 (lv_at hl 0 rfl) ?_
          obtain ⟨u106, eu106⟩ : ∃ z : CS, z = mu u81 0 (sA (u81 0) 0 (upd (gA (u81 0) 0) x5.toNatClampNeg y81)) := ⟨_, rfl⟩
          refine m_iast S hI 1 0 (Vmw_a0_0 h r q cs u81) rfl hw.1 (Vmw_sA0_0 h r q cs u81 u106 _ eu106) dX4_weigh_106 (fun H locs hI => ?_)
          have hw := hw.2 u106 eu106
          refine lv_aload_n S.1 S.2.1 dX4_weigh_107 rfl (lv_at hl 1 rfl) ?_
          refine lv_iload S.1 S.2.1 dX4_weigh_108 (lv_at hl 5 rfl) ?_
          refine m_vv (cf := fun v => Vmw h r q cs (mu u106 0 v)) (As := [.int x5]) (rest := []) S (Vmw_c0 h r q cs u106) hI (by rw [mu_self]) (c_X4_forgetFrom l D (h 0) (r 0) (q 0) cs x5 (u106 0) _ hw) (cwV 1 S.2.2.2.2 gX4_weigh_X4_forgetFrom rfl rfl rfl (by decide +kernel) ⟨Nat.le_of_ble_eq_true rfl, Nat.le_of_ble_eq_true rfl⟩) rfl rfl rfl hl.1 rfl (Nat.le_of_ble_eq_true rfl) dX4_weigh_110 ⟨Nat.zero_le _, Nat.zero_le _⟩ (fun v110 H locs hw hI => ?_)
          obtain ⟨u110, eu110⟩ : ∃ z : CS, z = mu u106 0 v110 := ⟨_, rfl⟩
          have hw := hw u110 eu110
          replace hI : mI D (mT cs) A s.heap s (Vmw h r q cs u110) H locs := by rw [eu110]; exact hI
          exact b113 B62 hB62 x3 x4 x5 y81 u110 hw H locs ls hI (lv_sub hl [1, 2, 3, 4, 5, 0] rfl)
  have b62 : ∀ (x3 : Int32) (x4 : Int32) (x5 : Int32) (u : CS), wp_X4_weigh_p62 x3 x4 x5 u Q → mGo p l e ({ frames := 4, cells := 0, slots := 0, locals := 93 } : Room) s m args below meth c A Z 7 D (mT cs) (Vmw h r q cs) 62 [(0, .ref (h 0)), (1, .ref (h 1)), (3, .int x3), (4, .int x4), (5, .int x5)] [] u := by
    intro x3 x4 x5 u hw
    obtain ⟨I, μ, h0, hs⟩ := hw
    have key : ∀ (n : Nat) (x3 : Int32) (x4 : Int32) (x5 : Int32) (u : CS), μ x3 x4 x5 u = n → I x3 x4 x5 u → mGo p l e ({ frames := 4, cells := 0, slots := 0, locals := 93 } : Room) s m args below meth c A Z 7 D (mT cs) (Vmw h r q cs) 62 [(0, .ref (h 0)), (1, .ref (h 1)), (3, .int x3), (4, .int x4), (5, .int x5)] [] u := by
      intro n
      induction n using Nat.strongRecOn with
      | ind n ih =>
        intro x3 x4 x5 u hn hi
        exact b62b (fun yx3 yx4 yx5 yu => I yx3 yx4 yx5 yu ∧ μ yx3 yx4 yx5 yu < μ x3 x4 x5 u) (fun yx3 yx4 yx5 yu hb => ih _ (hn ▸ hb.2) yx3 yx4 yx5 yu rfl hb.1) x3 x4 x5 u (hs x3 x4 x5 u hi)
    exact key _ x3 x4 x5 u rfl h0
  have b40 : ∀ (x3 : Int32) (x4 : Int32) (u : CS), wp_X4_weigh_p40 x3 x4 u Q → mGo p l e ({ frames := 4, cells := 0, slots := 0, locals := 93 } : Room) s m args below meth c A Z 7 D (mT cs) (Vmw h r q cs) 40 [(0, .ref (h 0)), (1, .ref (h 1)), (3, .int x3), (4, .int x4)] [] u := by
    intro x3 x4 u hw H locs ls hI hl
    unfold wp_X4_weigh_p40 at hw
    refine lv_aload_n S.1 S.2.1 dX4_weigh_40 rfl (lv_at hl 0 rfl) ?_
    refine lv_aload_n S.1 S.2.1 dX4_weigh_41 rfl (lv_at hl 1 rfl) ?_
    refine m_getN S hin3 hI 20 (Vmw_o1 h r q cs u) rfl 9 (Nat.le_of_ble_eq_true rfl) nf_X4_42 rfl (Ff3_at9 _ _) dX4_weigh_42 ?_
    obtain ⟨u45, eu45⟩ : ∃ z : CS, z = mu u 0 (sI (u 0) 5 (gI (u 1) 9)) := ⟨_, rfl⟩
    have hw := hw u45 eu45
    refine m_put S hin4 tyX4_ok nmX4 hI 0 (Vmw_o0 h r q cs u) rfl 5 (Nat.le_of_ble_eq_true rfl) (List.mem_of_getElem? (i := 1) rfl) rfl rfl rfl rfl (Nat.le_of_ble_eq_true rfl) (Vmw_sI0_5 h r q cs u u45 (gI (u 1) 9) eu45) dX4_weigh_45 (fun H locs hI => ?_)
    refine lv_aload_n S.1 S.2.1 dX4_weigh_48 rfl (lv_at hl 0 rfl) ?_
    refine lv_iload_n S.1 S.2.1 dX4_weigh_49 rfl (lv_at hl 2 rfl) ?_
    obtain ⟨u50, eu50⟩ : ∃ z : CS, z = mu u45 0 (sI (u45 0) 6 x3) := ⟨_, rfl⟩
    have hw := hw u50 eu50
    refine m_put S hin4 tyX4_ok nmX4 hI 0 (Vmw_o0 h r q cs u45) rfl 6 (Nat.le_of_ble_eq_true rfl) (List.mem_of_getElem? (i := 2) rfl) rfl rfl rfl rfl (Nat.le_of_ble_eq_true rfl) (Vmw_sI0_6 h r q cs u45 u50 x3 eu50) dX4_weigh_50 (fun H locs hI => ?_)
    refine lv_aload_n S.1 S.2.1 dX4_weigh_53 rfl (lv_at hl 0 rfl) ?_
    refine lv_iload S.1 S.2.1 dX4_weigh_54 (lv_at hl 3 rfl) ?_
    obtain ⟨u56, eu56⟩ : ∃ z : CS, z = mu u50 0 (sI (u50 0) 7 x4) := ⟨_, rfl⟩
    have hw := hw u56 eu56
    refine m_put S hin4 tyX4_ok nmX4 hI 0 (Vmw_o0 h r q cs u50) rfl 7 (Nat.le_of_ble_eq_true rfl) (List.mem_of_getElem? (i := 3) rfl) rfl rfl rfl rfl (Nat.le_of_ble_eq_true rfl) (Vmw_sI0_7 h r q cs u50 u56 x4 eu56) dX4_weigh_56 (fun H locs hI => ?_)
    refine lv_iconst (v := 0) S.1 S.2.1 dX4_weigh_59 (by decide) ?_
    refine lv_istore (lv' := [(5, .int (0 : Int32)), (0, .ref (h 0)), (1, .ref (h 1)), (3, .int x3), (4, .int x4)]) S.1 S.2.1 dX4_weigh_60 hl (by decide) rfl (fun ls hl => ?_)
    exact b62 x3 x4 (0 : Int32) u56 hw H locs ls hI (lv_sub hl [1, 2, 3, 4, 0] rfl)
  unfold wp_X4_weigh at hw
  obtain ⟨H, hH⟩ : ∃ z : Heap, z = s.heap := ⟨_, rfl⟩
  obtain ⟨locs, hL⟩ : ∃ z : List Loc, z = [] := ⟨_, rfl⟩
  rw [show W p l e ({ frames := 4, cells := 0, slots := 0, locals := 93 } : Room) s m args below meth c s.heap [] 0 0 Z (F0 m 0 ls []) = W p l e ({ frames := 4, cells := 0, slots := 0, locals := 93 } : Room) s m args below meth c H locs 0 0 Z (F0 m 0 ls []) by rw [hH, hL]]
  replace hI : mI D (mT cs) A s.heap s (Vmw h r q cs u) H locs := by rw [hH, hL]; exact hI
  refine lv_aload_n S.1 S.2.1 dX4_weigh_0 rfl (lv_at hl 2 rfl) ?_
  refine m_vi (cf := fun v => Vmw h r q cs (mu u 2 v)) (As := []) (rest := []) S (Vmw_c2 h r q cs u) hI (by rw [mu_self]) (c_X8_steps l D (h 2) (r 2) cs (u 2) _ hw) (cwV 0 S.2.2.2.2 gX4_weigh_X8_steps rfl rfl rfl (by decide +kernel) ⟨Nat.le_of_ble_eq_true rfl, Nat.le_of_ble_eq_true rfl⟩) rfl rfl rfl hl.1 rfl (Nat.le_of_ble_eq_true rfl) dX4_weigh_1 ⟨Nat.zero_le _, Nat.zero_le _⟩ (fun y1 v1 H locs hw hI => ?_)
  obtain ⟨u1, eu1⟩ : ∃ z : CS, z = mu u 2 v1 := ⟨_, rfl⟩
  have hw := hw u1 eu1
  replace hI : mI D (mT cs) A s.heap s (Vmw h r q cs u1) H locs := by rw [eu1]; exact hI
  refine lv_istore_n (lv' := [(3, .int y1), (0, .ref (h 0)), (1, .ref (h 1)), (2, .ref (h 2))]) S.1 S.2.1 dX4_weigh_4 rfl hl (by decide) rfl (fun ls hl => ?_)
  refine lv_aload_n S.1 S.2.1 dX4_weigh_5 rfl (lv_at hl 3 rfl) ?_
  refine m_vi (cf := fun v => Vmw h r q cs (mu u1 2 v)) (As := []) (rest := []) S (Vmw_c2 h r q cs u1) hI (by rw [mu_self]) (c_X8_jars l D (h 2) (r 2) cs (u1 2) _ hw) (cwV 0 S.2.2.2.2 gX4_weigh_X8_jars rfl rfl rfl (by decide +kernel) ⟨Nat.le_of_ble_eq_true rfl, Nat.le_of_ble_eq_true rfl⟩) rfl rfl rfl hl.1 rfl (Nat.le_of_ble_eq_true rfl) dX4_weigh_6 ⟨Nat.zero_le _, Nat.zero_le _⟩ (fun y6 v6 H locs hw hI => ?_)
  obtain ⟨u6, eu6⟩ : ∃ z : CS, z = mu u1 2 v6 := ⟨_, rfl⟩
  have hw := hw u6 eu6
  replace hI : mI D (mT cs) A s.heap s (Vmw h r q cs u6) H locs := by rw [eu6]; exact hI
  refine lv_istore (lv' := [(4, .int y6), (3, .int y1), (0, .ref (h 0)), (1, .ref (h 1)), (2, .ref (h 2))]) S.1 S.2.1 dX4_weigh_9 hl (by decide) rfl (fun ls hl => ?_)
  refine lv_aload_n S.1 S.2.1 dX4_weigh_11 rfl (lv_at hl 3 rfl) ?_
  refine m_getN S hin3 hI 20 (Vmw_o1 h r q cs u6) rfl 9 (Nat.le_of_ble_eq_true rfl) nf_X4_42 rfl (Ff3_at9 _ _) dX4_weigh_12 ?_
  refine lv_aload_n S.1 S.2.1 dX4_weigh_15 rfl (lv_at hl 2 rfl) ?_
  refine m_get S hin4 hI 0 (Vmw_o0 h r q cs u6) rfl 5 (Nat.le_of_ble_eq_true rfl) (List.mem_of_getElem? (i := 1) rfl) rfl (Ff4_at5 _ _) dX4_weigh_16 ?_
  refine lv_icmp_ne (tgt := 40) S.1 S.2.1 dX4_weigh_19 (by decide) (fun c19 => ?_) (fun c19 => ?_)
  · have hw := hw.1 c19
    exact b40 y1 y6 u6 hw H locs ls hI (lv_sub hl [2, 3, 1, 0] rfl)
  · have hw := hw.2 c19
    refine lv_iload_n S.1 S.2.1 dX4_weigh_22 rfl (lv_at hl 1 rfl) ?_
    refine lv_aload_n S.1 S.2.1 dX4_weigh_23 rfl (lv_at hl 2 rfl) ?_
    refine m_get S hin4 hI 0 (Vmw_o0 h r q cs u6) rfl 6 (Nat.le_of_ble_eq_true rfl) (List.mem_of_getElem? (i := 2) rfl) rfl (Ff4_at6 _ _) dX4_weigh_24 ?_
    refine lv_icmp_ne (tgt := 40) S.1 S.2.1 dX4_weigh_27 (by decide) (fun c27 => ?_) (fun c27 => ?_)
    · have hw := hw.1 c27
      exact b40 y1 y6 u6 hw H locs ls hI (lv_sub hl [2, 3, 1, 0] rfl)
    · have hw := hw.2 c27
      refine lv_iload S.1 S.2.1 dX4_weigh_30 (lv_at hl 0 rfl) ?_
      refine lv_aload_n S.1 S.2.1 dX4_weigh_32 rfl (lv_at hl 2 rfl) ?_
      refine m_get S hin4 hI 0 (Vmw_o0 h r q cs u6) rfl 7 (Nat.le_of_ble_eq_true rfl) (List.mem_of_getElem? (i := 3) rfl) rfl (Ff4_at7 _ _) dX4_weigh_33 ?_
      refine lv_icmp_ne (tgt := 40) S.1 S.2.1 dX4_weigh_36 (by decide) (fun c36 => ?_) (fun c36 => ?_)
      · have hw := hw.1 c36
        exact b40 y1 y6 u6 hw H locs ls hI (lv_sub hl [2, 3, 1, 0] rfl)
      · have hw := hw.2 c36
        subst hZ
        exact m_vret S hr hlocks hI hw dX4_weigh_39

theorem Vms_o1 (h : Nat → Nat) (r : Nat → Nat → Nat) (q : Nat → Nat → Nat → Nat) (cs : Nat → ClassId) (U : CS) : (Vms h r q cs U)[20]? = some (h 1, .inr (7, Ff7 (r 1) (U 1))) := rfl
theorem Vms_c0 (h : Nat → Nat) (r : Nat → Nat → Nat) (q : Nat → Nat → Nat → Nat) (cs : Nat → ClassId) (U : CS) : ∀ v : ST, (Vms h r q cs (mu U 0 v)).Perm ([] ++ (W4 (h 0) (r 0) (q 0) cs v ++ [1].flatMap (cTms h r q cs U))) := fun v => (front_perm (cTms h r q cs (mu U 0 v)) (l := [0, 1]) (ks := [0]) (rest := [1]) (by decide)).trans (List.Perm.of_eq (by rw [show [0].flatMap (cTms h r q cs (mu U 0 v)) = W4 (h 0) (r 0) (q 0) cs v from List.append_nil _]; rfl))
def wp_X4_weightOf (u : CS) (Q : Int32 → CS → Prop) : Prop :=
  (wp_X4_weightTo (gI (u 1) 1) (u 0) (fun y5 v5 => ∀ u5 : CS, u5 = mu u 0 v5 → (∀ y14 : Int32, y14 = (gI (u5 1) 0) - (1 : Int32) → (wp_X4_weightTo y14 (u5 0) (fun y15 v15 => ∀ u15 : CS, u15 = mu u5 0 v15 → (∀ y18 : Int32, y18 = y5 - y15 → Q y18 u15))))))
set_option maxHeartbeats 4000000 in
set_option maxRecDepth 100000 in
theorem c_X4_weightOf (l : Launch) (D : va_G) (h : Nat → Nat) (r : Nat → Nat → Nat) (q : Nat → Nat → Nat → Nat) (cs : Nat → ClassId) (u : CS) (Q : Int32 → CS → Prop) (hw : wp_X4_weightOf u Q) : mCi l yX4_weightOf wsX4_weightOf ({ frames := 2, cells := 0, slots := 0, locals := 43 } : Room) 0 0 D (mT cs) (Vms h r q cs) [.ref (h 0), .ref (h 1)] u Q := by
  unfold mCi
  refine m_enter (QQ := fun A => va_Qi Q (mPos D (mT cs) A (Vms h r q cs)) A) (cc := cX4_weightOf) (maxL := 2) (ret := (some .int)) (by decide) rfl (Nat.le_of_ble_eq_true rfl) ?_
  intro p e s m args below meth c A ls S hr hlocks hname hl hI
  have S : CallFix p m c cX4_weightOf 2 s args wsX4_weightOf RX4 := S
  show W p l e ({ frames := 2, cells := 0, slots := 0, locals := 43 } : Room) s m args below meth c s.heap [] 0 0 (MQ below (va_Qi Q (mPos D (mT cs) A (Vms h r q cs)) A) args s 0 0 A) (F0 m 0 ls [])
  generalize hZ : MQ below (va_Qi Q (mPos D (mT cs) A (Vms h r q cs)) A) args s 0 0 A = Z
  have hin4 : ∀ w ∈ wsX40, w ∈ wsX4_weightOf := fun _ h => List.mem_cons_of_mem _ (List.mem_append_right _ h)
  have hin7 : ∀ w ∈ wsX70, w ∈ wsX4_weightOf := fun _ h => List.mem_cons_of_mem _ (List.mem_append_left _ (List.mem_append_right _ h))
  have hl : lv_has ls 2 [(0, .ref (h 0)), (1, .ref (h 1))] := hl
  unfold wp_X4_weightOf at hw
  obtain ⟨H, hH⟩ : ∃ z : Heap, z = s.heap := ⟨_, rfl⟩
  obtain ⟨locs, hL⟩ : ∃ z : List Loc, z = [] := ⟨_, rfl⟩
  rw [show W p l e ({ frames := 2, cells := 0, slots := 0, locals := 43 } : Room) s m args below meth c s.heap [] 0 0 Z (F0 m 0 ls []) = W p l e ({ frames := 2, cells := 0, slots := 0, locals := 43 } : Room) s m args below meth c H locs 0 0 Z (F0 m 0 ls []) by rw [hH, hL]]
  replace hI : mI D (mT cs) A s.heap s (Vms h r q cs u) H locs := by rw [hH, hL]; exact hI
  refine lv_aload_n S.1 S.2.1 dX4_weightOf_0 rfl (lv_at hl 0 rfl) ?_
  refine lv_aload_n S.1 S.2.1 dX4_weightOf_1 rfl (lv_at hl 1 rfl) ?_
  refine m_getN S hin7 hI 20 (Vms_o1 h r q cs u) rfl 1 (Nat.le_of_ble_eq_true rfl) nf_X4_71 rfl (Ff7_at1 _ _) dX4_weightOf_2 ?_
  refine m_vi (cf := fun v => Vms h r q cs (mu u 0 v)) (As := [.int (gI (u 1) 1)]) (rest := []) S (Vms_c0 h r q cs u) hI (by rw [mu_self]) (c_X4_weightTo l D (h 0) (r 0) (q 0) cs (gI (u 1) 1) (u 0) _ hw) (cwV 1 S.2.2.2.2 gX4_weightOf_X4_weightTo rfl rfl rfl (by decide +kernel) ⟨Nat.le_of_ble_eq_true rfl, Nat.le_of_ble_eq_true rfl⟩) rfl rfl rfl hl.1 rfl (Nat.le_of_ble_eq_true rfl) dX4_weightOf_5 ⟨Nat.zero_le _, Nat.zero_le _⟩ (fun y5 v5 H locs hw hI => ?_)
  obtain ⟨u5, eu5⟩ : ∃ z : CS, z = mu u 0 v5 := ⟨_, rfl⟩
  have hw := hw u5 eu5
  replace hI : mI D (mT cs) A s.heap s (Vms h r q cs u5) H locs := by rw [eu5]; exact hI
  refine lv_aload_n S.1 S.2.1 dX4_weightOf_8 rfl (lv_at hl 0 rfl) ?_
  refine lv_aload_n S.1 S.2.1 dX4_weightOf_9 rfl (lv_at hl 1 rfl) ?_
  refine m_getN S hin7 hI 20 (Vms_o1 h r q cs u5) rfl 0 (Nat.le_of_ble_eq_true rfl) nf_X4_80 rfl (Ff7_at0 _ _) dX4_weightOf_10 ?_
  refine lv_iconst (v := 1) S.1 S.2.1 dX4_weightOf_13 (by decide) ?_
  refine lv_isub S.1 S.2.1 dX4_weightOf_14 ?_
  refine lv_topi (fun y14 ey14 => ?_)
  have hw := hw y14 ey14
  refine m_vi (cf := fun v => Vms h r q cs (mu u5 0 v)) (As := [.int y14]) (rest := [.int y5]) S (Vms_c0 h r q cs u5) hI (by rw [mu_self]) (c_X4_weightTo l D (h 0) (r 0) (q 0) cs y14 (u5 0) _ hw) (cwV 1 S.2.2.2.2 gX4_weightOf_X4_weightTo rfl rfl rfl (by decide +kernel) ⟨Nat.le_of_ble_eq_true rfl, Nat.le_of_ble_eq_true rfl⟩) rfl rfl rfl hl.1 rfl (Nat.le_of_ble_eq_true rfl) dX4_weightOf_15 ⟨Nat.zero_le _, Nat.zero_le _⟩ (fun y15 v15 H locs hw hI => ?_)
  obtain ⟨u15, eu15⟩ : ∃ z : CS, z = mu u5 0 v15 := ⟨_, rfl⟩
  have hw := hw u15 eu15
  replace hI : mI D (mT cs) A s.heap s (Vms h r q cs u15) H locs := by rw [eu15]; exact hI
  refine lv_isub S.1 S.2.1 dX4_weightOf_18 ?_
  refine lv_topi (fun y18 ey18 => ?_)
  have hw := hw y18 ey18
  subst hZ
  exact m_iret S hr hlocks hI hw dX4_weightOf_19

theorem Vms_o0 (h : Nat → Nat) (r : Nat → Nat → Nat) (q : Nat → Nat → Nat → Nat) (cs : Nat → ClassId) (U : CS) : (Vms h r q cs U)[0]? = some (h 0, .inr (4, Ff4 (r 0) (U 0))) := rfl
theorem Vms_a0_4 (h : Nat → Nat) (r : Nat → Nat → Nat) (q : Nat → Nat → Nat → Nat) (cs : Nat → ClassId) (U : CS) : (Vms h r q cs U)[19]? = some (r 0 4, .inl (cs 0, 7, .inl (gA (U 0) 4))) := rfl
theorem Vms_sA0_4 (h : Nat → Nat) (r : Nat → Nat → Nat) (q : Nat → Nat → Nat → Nat) (cs : Nat → ClassId) (U u9 : CS) (f : Nat → Int32) (e : u9 = mu U 0 (sA (U 0) 4 f)) : (Vms h r q cs U).set 19 (r 0 4, .inl (cs 0, 7, .inl f)) = Vms h r q cs u9 := by subst e; rfl
def wp_X4_makesReady_p40 (u : CS) (Q : Int32 → CS → Prop) : Prop :=
  ((0 : Int32) &&& 1 = (0 : Int32) ∧ Q (0 : Int32) u)
def wp_X4_makesReady_p59b (x2 : Int32) (x3 : Int32) (u : CS) (B44 : Int32 → CS → Prop) (B59 : Int32 → Int32 → CS → Prop) (Q : Int32 → CS → Prop) : Prop :=
  (((gI (u 1) 1) < x3 → (vp_in x2 7 ∧ ∀ y89 : Int32, y89 = gA (u 0) 4 x2.toNatClampNeg → (∀ y95 : Int32, y95 = (gI (u 1) 1) + (1 : Int32) → (∀ y96 : Int32, y96 = (if y89 < y95 then y95 else y89) → (vp_in x2 7 ∧ ∀ u99 : CS, u99 = mu u 0 (sA (u 0) 4 (upd (gA (u 0) 4) x2.toNatClampNeg y96)) → (∀ y100 : Int32, y100 = x2 + 1 → B44 y100 u99)))))) ∧ (¬ (gI (u 1) 1) < x3 → (wp_X4_fillTo x2 x3 (u 0) (fun v70 => ∀ u70 : CS, u70 = mu u 0 v70 → (∀ y73 : Int32, y73 = x3 + 1 → B59 x2 y73 u70)))))
def wp_X4_makesReady_p59 (x2 : Int32) (x3 : Int32) (u : CS) (B44 : Int32 → CS → Prop) (Q : Int32 → CS → Prop) : Prop := ∃ (I : Int32 → Int32 → CS → Prop) (μ : Int32 → Int32 → CS → Nat), I x2 x3 u ∧ ∀ (x2 : Int32) (x3 : Int32) (u : CS), I x2 x3 u → wp_X4_makesReady_p59b x2 x3 u B44 (fun yx2 yx3 yu => I yx2 yx3 yu ∧ μ yx2 yx3 yu < μ x2 x3 u) Q
def wp_X4_makesReady_p44b (x2 : Int32) (u : CS) (B44 : Int32 → CS → Prop) (Q : Int32 → CS → Prop) : Prop :=
  (((gI (u 1) 2) < x2 → ((1 : Int32) &&& 1 = (1 : Int32) ∧ Q (1 : Int32) u)) ∧ (¬ (gI (u 1) 2) < x2 → (vp_in x2 7 ∧ ∀ y57 : Int32, y57 = gA (u 0) 4 x2.toNatClampNeg → wp_X4_makesReady_p59 x2 y57 u B44 Q)))
def wp_X4_makesReady_p44 (x2 : Int32) (u : CS) (Q : Int32 → CS → Prop) : Prop := ∃ (I : Int32 → CS → Prop) (μ : Int32 → CS → Nat), I x2 u ∧ ∀ (x2 : Int32) (u : CS), I x2 u → wp_X4_makesReady_p44b x2 u (fun yx2 yu => I yx2 yu ∧ μ yx2 yu < μ x2 u) Q
def wp_X4_makesReady (u : CS) (Q : Int32 → CS → Prop) : Prop :=
  (((gI (u 1) 0) < 0 → wp_X4_makesReady_p40 u Q) ∧ (¬ (gI (u 1) 0) < 0 → (((gI (u 1) 1) < (gI (u 1) 0) → wp_X4_makesReady_p40 u Q) ∧ (¬ (gI (u 1) 1) < (gI (u 1) 0) → (((60 : Int32) < (gI (u 1) 1) → wp_X4_makesReady_p40 u Q) ∧ (¬ (60 : Int32) < (gI (u 1) 1) → (wp_X11_within (gI (u 1) 2) (0 : Int32) (6 : Int32) (fun y34 => ((¬ y34 = 0 → wp_X4_makesReady_p44 (0 : Int32) u Q) ∧ (y34 = 0 → wp_X4_makesReady_p40 u Q))))))))))
set_option maxHeartbeats 4000000 in
set_option maxRecDepth 100000 in
theorem c_X4_makesReady (l : Launch) (D : va_G) (h : Nat → Nat) (r : Nat → Nat → Nat) (q : Nat → Nat → Nat → Nat) (cs : Nat → ClassId) (u : CS) (Q : Int32 → CS → Prop) (hw : wp_X4_makesReady u Q) : mCi l yX4_makesReady wsX4_makesReady ({ frames := 3, cells := 0, slots := 0, locals := 74 } : Room) 0 0 D (mT cs) (Vms h r q cs) [.ref (h 0), .ref (h 1)] u Q := by
  unfold mCi
  refine m_enter (QQ := fun A => va_Qi Q (mPos D (mT cs) A (Vms h r q cs)) A) (cc := cX4_makesReady) (maxL := 4) (ret := (some .boolean)) (by decide) rfl (Nat.le_of_ble_eq_true rfl) ?_
  intro p e s m args below meth c A ls S hr hlocks hname hl hI
  have S : CallFix p m c cX4_makesReady 4 s args wsX4_makesReady RX4 := S
  show W p l e ({ frames := 3, cells := 0, slots := 0, locals := 74 } : Room) s m args below meth c s.heap [] 0 0 (MQ below (va_Qi Q (mPos D (mT cs) A (Vms h r q cs)) A) args s 0 0 A) (F0 m 0 ls [])
  generalize hZ : MQ below (va_Qi Q (mPos D (mT cs) A (Vms h r q cs)) A) args s 0 0 A = Z
  have hin4 : ∀ w ∈ wsX40, w ∈ wsX4_makesReady := fun _ h => List.mem_cons_of_mem _ (List.mem_append_right _ h)
  have hin7 : ∀ w ∈ wsX70, w ∈ wsX4_makesReady := fun _ h => List.mem_cons_of_mem _ (List.mem_append_left _ (List.mem_append_right _ h))
  have hl : lv_has ls 4 [(0, .ref (h 0)), (1, .ref (h 1))] := hl
  have b40 : ∀ (u : CS), wp_X4_makesReady_p40 u Q → mGo p l e ({ frames := 3, cells := 0, slots := 0, locals := 74 } : Room) s m args below meth c A Z 4 D (mT cs) (Vms h r q cs) 40 [(0, .ref (h 0))] [] u := by
    intro u hw H locs ls hI hl
    unfold wp_X4_makesReady_p40 at hw
    refine lv_iconst (v := 0) S.1 S.2.1 dX4_makesReady_40 (by decide) ?_
    subst hZ
    exact m_zret S hr hlocks hI hw.1 hw.2 dX4_makesReady_41
  have b59b : ∀ (B44 : Int32 → CS → Prop), (∀ (x2 : Int32) (u : CS), B44 x2 u → mGo p l e ({ frames := 3, cells := 0, slots := 0, locals := 74 } : Room) s m args below meth c A Z 4 D (mT cs) (Vms h r q cs) 44 [(0, .ref (h 0)), (1, .ref (h 1)), (2, .int x2)] [] u) → ∀ (B59 : Int32 → Int32 → CS → Prop), (∀ (x2 : Int32) (x3 : Int32) (u : CS), B59 x2 x3 u → mGo p l e ({ frames := 3, cells := 0, slots := 0, locals := 74 } : Room) s m args below meth c A Z 4 D (mT cs) (Vms h r q cs) 59 [(0, .ref (h 0)), (1, .ref (h 1)), (2, .int x2), (3, .int x3)] [] u) → ∀ (x2 : Int32) (x3 : Int32) (u : CS), wp_X4_makesReady_p59b x2 x3 u B44 B59 Q → mGo p l e ({ frames := 3, cells := 0, slots := 0, locals := 74 } : Room) s m args below meth c A Z 4 D (mT cs) (Vms h r q cs) 59 [(0, .ref (h 0)), (1, .ref (h 1)), (2, .int x2), (3, .int x3)] [] u := by
    intro B44 hB44 B59 hB59 x2 x3 u hw H locs ls hI hl
    unfold wp_X4_makesReady_p59b at hw
    refine lv_iload_n S.1 S.2.1 dX4_makesReady_59 rfl (lv_at hl 3 rfl) ?_
    refine lv_aload_n S.1 S.2.1 dX4_makesReady_60 rfl (lv_at hl 1 rfl) ?_
    refine m_getN S hin7 hI 20 (Vms_o1 h r q cs u) rfl 1 (Nat.le_of_ble_eq_true rfl) nf_X4_71 rfl (Ff7_at1 _ _) dX4_makesReady_61 ?_
    refine lv_icmp_gt (tgt := 79) S.1 S.2.1 dX4_makesReady_64 (by decide) (fun c64 => ?_) (fun c64 => ?_)
    · have hw := hw.1 c64
      refine lv_aload_n S.1 S.2.1 dX4_makesReady_79 rfl (lv_at hl 0 rfl) ?_
      refine m_get S hin4 hI 0 (Vms_o0 h r q cs u) rfl 4 (Nat.le_of_ble_eq_true rfl) (List.mem_of_getElem? (i := 1) rfl) rfl (Ff4_at4 _ _) dX4_makesReady_80 ?_
      refine lv_iload_n S.1 S.2.1 dX4_makesReady_83 rfl (lv_at hl 2 rfl) ?_
      refine lv_aload_n S.1 S.2.1 dX4_makesReady_84 rfl (lv_at hl 0 rfl) ?_
      refine m_get S hin4 hI 0 (Vms_o0 h r q cs u) rfl 4 (Nat.le_of_ble_eq_true rfl) (List.mem_of_getElem? (i := 1) rfl) rfl (Ff4_at4 _ _) dX4_makesReady_85 ?_
      refine lv_iload_n S.1 S.2.1 dX4_makesReady_88 rfl (lv_at hl 2 rfl) ?_
      refine m_iald S hI 19 0 (Vms_a0_4 h r q cs u) rfl hw.1 dX4_makesReady_89 ?_
      refine lv_topi (fun y89 ey89 => ?_)
      have hw := hw.2 y89 ey89
      refine lv_aload_n S.1 S.2.1 dX4_makesReady_90 rfl (lv_at hl 1 rfl) ?_
      refine m_getN S hin7 hI 20 (Vms_o1 h r q cs u) rfl 1 (Nat.le_of_ble_eq_true rfl) nf_X4_71 rfl (Ff7_at1 _ _) dX4_makesReady_91 ?_
      refine lv_iconst (v := 1) S.1 S.2.1 dX4_makesReady_94 (by decide) ?_
      refine lv_iadd S.1 S.2.1 dX4_makesReady_95 ?_
      refine lv_topi (fun y95 ey95 => ?_)
      have hw := hw y95 ey95
      refine va_mmax S.1 S.2.1 (S.2.2.1.trans hl.1.symm) S.2.2.2.1 (S.2.2.2.2 _ (List.mem_of_getElem? (i := 2) rfl)) (S.2.2.2.2 _ (List.mem_of_getElem? (i := 3) rfl)) (S.2.2.2.2 _ (List.mem_of_getElem? (i := 4) rfl)) (S.2.2.2.2 _ (List.mem_of_getElem? (i := 5) rfl)) (Nat.le_of_ble_eq_true rfl) (Nat.le_of_ble_eq_true rfl) (Nat.zero_le _) (Nat.zero_le _) dX4_makesReady_96 ?_
      refine lv_topi (fun y96 ey96 => ?_)
      have hw := hw y96 ey96
      obtain ⟨u99, eu99⟩ : ∃ z : CS, z = mu u 0 (sA (u 0) 4 (upd (gA (u 0) 4) x2.toNatClampNeg y96)) := ⟨_, rfl⟩
      refine m_iast S hI 19 0 (Vms_a0_4 h r q cs u) rfl hw.1 (Vms_sA0_4 h r q cs u u99 _ eu99) dX4_makesReady_99 (fun H locs hI => ?_)
      have hw := hw.2 u99 eu99
      obtain ⟨y100, ey100⟩ : ∃ z : Int32, z = x2 + 1 := ⟨_, rfl⟩
      have hw := hw y100 ey100
      refine lv_iinc (v := y100) (lv' := [(2, .int y100), (0, .ref (h 0)), (1, .ref (h 1)), (3, .int x3)]) S.1 S.2.1 dX4_makesReady_100 hl (k := 2) rfl (by rw [ey100]; rfl) (by decide) rfl (fun ls hl => ?_)
      refine lv_goto (tgt := 44) S.1 S.2.1 dX4_makesReady_103 (by decide) ?_
      exact hB44 y100 u99 hw H locs ls hI (lv_sub hl [1, 2, 0] rfl)
    · have hw := hw.2 c64
      refine lv_aload_n S.1 S.2.1 dX4_makesReady_67 rfl (lv_at hl 0 rfl) ?_
      refine lv_iload_n S.1 S.2.1 dX4_makesReady_68 rfl (lv_at hl 2 rfl) ?_
      refine lv_iload_n S.1 S.2.1 dX4_makesReady_69 rfl (lv_at hl 3 rfl) ?_
      refine m_vv (cf := fun v => Vms h r q cs (mu u 0 v)) (As := [.int x2, .int x3]) (rest := []) S (Vms_c0 h r q cs u) hI (by rw [mu_self]) (c_X4_fillTo l D (h 0) (r 0) (q 0) cs x2 x3 (u 0) _ hw) (cwV 2 S.2.2.2.2 gX4_makesReady_X4_fillTo rfl rfl rfl (by decide +kernel) ⟨Nat.le_of_ble_eq_true rfl, Nat.le_of_ble_eq_true rfl⟩) rfl rfl rfl hl.1 rfl (Nat.le_of_ble_eq_true rfl) dX4_makesReady_70 ⟨Nat.zero_le _, Nat.zero_le _⟩ (fun v70 H locs hw hI => ?_)
      obtain ⟨u70, eu70⟩ : ∃ z : CS, z = mu u 0 v70 := ⟨_, rfl⟩
      have hw := hw u70 eu70
      replace hI : mI D (mT cs) A s.heap s (Vms h r q cs u70) H locs := by rw [eu70]; exact hI
      obtain ⟨y73, ey73⟩ : ∃ z : Int32, z = x3 + 1 := ⟨_, rfl⟩
      have hw := hw y73 ey73
      refine lv_iinc (v := y73) (lv' := [(3, .int y73), (0, .ref (h 0)), (1, .ref (h 1)), (2, .int x2)]) S.1 S.2.1 dX4_makesReady_73 hl (k := 3) rfl (by rw [ey73]; rfl) (by decide) rfl (fun ls hl => ?_)
      refine lv_goto (tgt := 59) S.1 S.2.1 dX4_makesReady_76 (by decide) ?_
      exact hB59 x2 y73 u70 hw H locs ls hI (lv_sub hl [1, 2, 3, 0] rfl)
  have b59 : ∀ (B44 : Int32 → CS → Prop), (∀ (x2 : Int32) (u : CS), B44 x2 u → mGo p l e ({ frames := 3, cells := 0, slots := 0, locals := 74 } : Room) s m args below meth c A Z 4 D (mT cs) (Vms h r q cs) 44 [(0, .ref (h 0)), (1, .ref (h 1)), (2, .int x2)] [] u) → ∀ (x2 : Int32) (x3 : Int32) (u : CS), wp_X4_makesReady_p59 x2 x3 u B44 Q → mGo p l e ({ frames := 3, cells := 0, slots := 0, locals := 74 } : Room) s m args below meth c A Z 4 D (mT cs) (Vms h r q cs) 59 [(0, .ref (h 0)), (1, .ref (h 1)), (2, .int x2), (3, .int x3)] [] u := by
    intro B44 hB44 x2 x3 u hw
    obtain ⟨I, μ, h0, hs⟩ := hw
    have key : ∀ (n : Nat) (x2 : Int32) (x3 : Int32) (u : CS), μ x2 x3 u = n → I x2 x3 u → mGo p l e ({ frames := 3, cells := 0, slots := 0, locals := 74 } : Room) s m args below meth c A Z 4 D (mT cs) (Vms h r q cs) 59 [(0, .ref (h 0)), (1, .ref (h 1)), (2, .int x2), (3, .int x3)] [] u := by
      intro n
      induction n using Nat.strongRecOn with
      | ind n ih =>
        intro x2 x3 u hn hi
        exact b59b B44 hB44 (fun yx2 yx3 yu => I yx2 yx3 yu ∧ μ yx2 yx3 yu < μ x2 x3 u) (fun yx2 yx3 yu hb => ih _ (hn ▸ hb.2) yx2 yx3 yu rfl hb.1) x2 x3 u (hs x2 x3 u hi)
    exact key _ x2 x3 u rfl h0
  have b44b : ∀ (B44 : Int32 → CS → Prop), (∀ (x2 : Int32) (u : CS), B44 x2 u → mGo p l e ({ frames := 3, cells := 0, slots := 0, locals := 74 } : Room) s m args below meth c A Z 4 D (mT cs) (Vms h r q cs) 44 [(0, .ref (h 0)), (1, .ref (h 1)), (2, .int x2)] [] u) → ∀ (x2 : Int32) (u : CS), wp_X4_makesReady_p44b x2 u B44 Q → mGo p l e ({ frames := 3, cells := 0, slots := 0, locals := 74 } : Room) s m args below meth c A Z 4 D (mT cs) (Vms h r q cs) 44 [(0, .ref (h 0)), (1, .ref (h 1)), (2, .int x2)] [] u := by
    intro B44 hB44 x2 u hw H locs ls hI hl
    unfold wp_X4_makesReady_p44b at hw
    refine lv_iload_n S.1 S.2.1 dX4_makesReady_44 rfl (lv_at hl 2 rfl) ?_
    refine lv_aload_n S.1 S.2.1 dX4_makesReady_45 rfl (lv_at hl 1 rfl) ?_
    refine m_getN S hin7 hI 20 (Vms_o1 h r q cs u) rfl 2 (Nat.le_of_ble_eq_true rfl) nf_X4_87 rfl (Ff7_at2 _ _) dX4_makesReady_46 ?_
    refine lv_icmp_gt (tgt := 106) S.1 S.2.1 dX4_makesReady_49 (by decide) (fun c49 => ?_) (fun c49 => ?_)
    · have hw := hw.1 c49
      refine lv_iconst (v := 1) S.1 S.2.1 dX4_makesReady_106 (by decide) ?_
      subst hZ
      exact m_zret S hr hlocks hI hw.1 hw.2 dX4_makesReady_107
    · have hw := hw.2 c49
      refine lv_aload_n S.1 S.2.1 dX4_makesReady_52 rfl (lv_at hl 0 rfl) ?_
      refine m_get S hin4 hI 0 (Vms_o0 h r q cs u) rfl 4 (Nat.le_of_ble_eq_true rfl) (List.mem_of_getElem? (i := 1) rfl) rfl (Ff4_at4 _ _) dX4_makesReady_53 ?_
      refine lv_iload_n S.1 S.2.1 dX4_makesReady_56 rfl (lv_at hl 2 rfl) ?_
      refine m_iald S hI 19 0 (Vms_a0_4 h r q cs u) rfl hw.1 dX4_makesReady_57 ?_
      refine lv_topi (fun y57 ey57 => ?_)
      have hw := hw.2 y57 ey57
      refine lv_istore_n (lv' := [(3, .int y57), (0, .ref (h 0)), (1, .ref (h 1)), (2, .int x2)]) S.1 S.2.1 dX4_makesReady_58 rfl hl (by decide) rfl (fun ls hl => ?_)
      exact b59 B44 hB44 x2 y57 u hw H locs ls hI (lv_sub hl [1, 2, 3, 0] rfl)
  have b44 : ∀ (x2 : Int32) (u : CS), wp_X4_makesReady_p44 x2 u Q → mGo p l e ({ frames := 3, cells := 0, slots := 0, locals := 74 } : Room) s m args below meth c A Z 4 D (mT cs) (Vms h r q cs) 44 [(0, .ref (h 0)), (1, .ref (h 1)), (2, .int x2)] [] u := by
    intro x2 u hw
    obtain ⟨I, μ, h0, hs⟩ := hw
    have key : ∀ (n : Nat) (x2 : Int32) (u : CS), μ x2 u = n → I x2 u → mGo p l e ({ frames := 3, cells := 0, slots := 0, locals := 74 } : Room) s m args below meth c A Z 4 D (mT cs) (Vms h r q cs) 44 [(0, .ref (h 0)), (1, .ref (h 1)), (2, .int x2)] [] u := by
      intro n
      induction n using Nat.strongRecOn with
      | ind n ih =>
        intro x2 u hn hi
        exact b44b (fun yx2 yu => I yx2 yu ∧ μ yx2 yu < μ x2 u) (fun yx2 yu hb => ih _ (hn ▸ hb.2) yx2 yu rfl hb.1) x2 u (hs x2 u hi)
    exact key _ x2 u rfl h0
  unfold wp_X4_makesReady at hw
  obtain ⟨H, hH⟩ : ∃ z : Heap, z = s.heap := ⟨_, rfl⟩
  obtain ⟨locs, hL⟩ : ∃ z : List Loc, z = [] := ⟨_, rfl⟩
  rw [show W p l e ({ frames := 3, cells := 0, slots := 0, locals := 74 } : Room) s m args below meth c s.heap [] 0 0 Z (F0 m 0 ls []) = W p l e ({ frames := 3, cells := 0, slots := 0, locals := 74 } : Room) s m args below meth c H locs 0 0 Z (F0 m 0 ls []) by rw [hH, hL]]
  replace hI : mI D (mT cs) A s.heap s (Vms h r q cs u) H locs := by rw [hH, hL]; exact hI
  refine lv_aload_n S.1 S.2.1 dX4_makesReady_0 rfl (lv_at hl 1 rfl) ?_
  refine m_getN S hin7 hI 20 (Vms_o1 h r q cs u) rfl 0 (Nat.le_of_ble_eq_true rfl) nf_X4_80 rfl (Ff7_at0 _ _) dX4_makesReady_1 ?_
  refine lv_if_lt (tgt := 40) S.1 S.2.1 dX4_makesReady_4 (by decide) (fun c4 => ?_) (fun c4 => ?_)
  · have hw := hw.1 c4
    exact b40 u hw H locs ls hI (lv_sub hl [0] rfl)
  · have hw := hw.2 c4
    refine lv_aload_n S.1 S.2.1 dX4_makesReady_7 rfl (lv_at hl 1 rfl) ?_
    refine m_getN S hin7 hI 20 (Vms_o1 h r q cs u) rfl 0 (Nat.le_of_ble_eq_true rfl) nf_X4_80 rfl (Ff7_at0 _ _) dX4_makesReady_8 ?_
    refine lv_aload_n S.1 S.2.1 dX4_makesReady_11 rfl (lv_at hl 1 rfl) ?_
    refine m_getN S hin7 hI 20 (Vms_o1 h r q cs u) rfl 1 (Nat.le_of_ble_eq_true rfl) nf_X4_71 rfl (Ff7_at1 _ _) dX4_makesReady_12 ?_
    refine lv_icmp_gt (tgt := 40) S.1 S.2.1 dX4_makesReady_15 (by decide) (fun c15 => ?_) (fun c15 => ?_)
    · have hw := hw.1 c15
      exact b40 u hw H locs ls hI (lv_sub hl [0] rfl)
    · have hw := hw.2 c15
      refine lv_aload_n S.1 S.2.1 dX4_makesReady_18 rfl (lv_at hl 1 rfl) ?_
      refine m_getN S hin7 hI 20 (Vms_o1 h r q cs u) rfl 1 (Nat.le_of_ble_eq_true rfl) nf_X4_71 rfl (Ff7_at1 _ _) dX4_makesReady_19 ?_
      refine lv_bipush (v := 60) S.1 S.2.1 dX4_makesReady_22 (by decide) ?_
      refine lv_icmp_gt (tgt := 40) S.1 S.2.1 dX4_makesReady_24 (by decide) (fun c24 => ?_) (fun c24 => ?_)
      · have hw := hw.1 c24
        exact b40 u hw H locs ls hI (lv_sub hl [0] rfl)
      · have hw := hw.2 c24
        refine lv_aload_n S.1 S.2.1 dX4_makesReady_27 rfl (lv_at hl 1 rfl) ?_
        refine m_getN S hin7 hI 20 (Vms_o1 h r q cs u) rfl 2 (Nat.le_of_ble_eq_true rfl) nf_X4_87 rfl (Ff7_at2 _ _) dX4_makesReady_28 ?_
        refine lv_iconst (v := 0) S.1 S.2.1 dX4_makesReady_31 (by decide) ?_
        refine lv_bipush (v := 6) S.1 S.2.1 dX4_makesReady_32 (by decide) ?_
        refine m_siN (As := [.int (gI (u 1) 2), .int (0 : Int32), .int (6 : Int32)]) (rest := []) S hI.2.2.2.1.2.1 (c_X11_within l (gI (u 1) 2) (0 : Int32) (6 : Int32) _ hw) 3 gX4_makesReady_X11_within_n67 rfl rfl rfl nm_X4_67 (List.mem_of_getElem? (i := 7) rfl) (List.mem_of_getElem? (i := 6) rfl) (by decide +kernel) ⟨Nat.le_of_ble_eq_true rfl, Nat.le_of_ble_eq_true rfl⟩ rfl hl.1 rfl (Nat.le_of_ble_eq_true rfl) dX4_makesReady_34 ⟨Nat.zero_le _, Nat.zero_le _⟩ (fun y34 hw => ?_)
        refine lv_if_ne (tgt := 42) S.1 S.2.1 dX4_makesReady_37 (by decide) (fun c37 => ?_) (fun c37 => ?_)
        · have hw := hw.1 c37
          refine lv_iconst (v := 0) S.1 S.2.1 dX4_makesReady_42 (by decide) ?_
          refine lv_istore_n (lv' := [(2, .int (0 : Int32)), (0, .ref (h 0)), (1, .ref (h 1))]) S.1 S.2.1 dX4_makesReady_43 rfl hl (by decide) rfl (fun ls hl => ?_)
          exact b44 (0 : Int32) u hw H locs ls hI (lv_sub hl [1, 2, 0] rfl)
        · have hw := hw.2 c37
          exact b40 u hw H locs ls hI (lv_sub hl [0] rfl)

theorem Vms_k_ms_0_1 (h : Nat → Nat) (r : Nat → Nat → Nat) (q : Nat → Nat → Nat → Nat) (cs : Nat → ClassId) (U : CS) : ∀ v : CS, (Vms h r q cs (emb U [0, 1] v)).Perm ([] ++ (Vms (fun i => h ([0, 1].getD i 0)) (fun i => r ([0, 1].getD i 0)) (fun i => q ([0, 1].getD i 0)) cs v ++ [].flatMap (cTms h r q cs U))) := fun v => (front_perm (cTms h r q cs (emb U [0, 1] v)) (l := [0, 1]) (ks := [0, 1]) (rest := []) (by decide)).trans (List.Perm.of_eq rfl)
theorem Vms_go0_2 (h : Nat → Nat) (r : Nat → Nat → Nat) (q : Nat → Nat → Nat → Nat) (cs : Nat → ClassId) (U : CS) : (Vms h r q cs U)[3]? = some (r 0 2, .inl (cs 4, 7, .inr (.inr (.inr (.inr (mrow (q 0 2))))))) := rfl
theorem Vms_g0_2 (h : Nat → Nat) (r : Nat → Nat → Nat) (q : Nat → Nat → Nat → Nat) (cs : Nat → ClassId) (U : CS) {j : Nat} (hj : j < 7) : (Vms h r q cs U)[4 + j]? = some (q 0 2 j, .inl (cs 0, 1891, .inl (gG (U 0) 2 j))) := by
  match j, hj with
  | 0, _ => rfl
  | 1, _ => rfl
  | 2, _ => rfl
  | 3, _ => rfl
  | 4, _ => rfl
  | 5, _ => rfl
  | 6, _ => rfl
def wp_X4_cost_p34 (t0 : Int32) (u : CS) (Q : Int32 → CS → Prop) : Prop :=
  Q t0 u
def wp_X4_cost (u : CS) (Q : Int32 → CS → Prop) : Prop :=
  (wp_X4_makesReady (fun i => u ([0, 1].getD i 0)) (fun y2 v2 => ∀ u2 : CS, u2 = emb u [0, 1] v2 → ((y2 = 0 → wp_X4_cost_p34 (268435456 : Int32) u2 Q) ∧ (¬ y2 = 0 → (vp_in (gI (u2 1) 2) 7 ∧ (wp_X4_placeOf (gI (u2 1) 0) (gI (u2 1) 1) (fun y25 => (vp_in y25 1891 ∧ ∀ y28 : Int32, y28 = gG (u2 0) 2 ((gI (u2 1) 2).toNatClampNeg) y25.toNatClampNeg → wp_X4_cost_p34 y28 u2 Q))))))))
set_option maxHeartbeats 4000000 in
set_option maxRecDepth 100000 in
theorem c_X4_cost (l : Launch) (D : va_G) (h : Nat → Nat) (r : Nat → Nat → Nat) (q : Nat → Nat → Nat → Nat) (cs : Nat → ClassId) (u : CS) (Q : Int32 → CS → Prop) (hw : wp_X4_cost u Q) : mCi l yX4_cost wsX4_cost ({ frames := 4, cells := 0, slots := 0, locals := 97 } : Room) 0 0 D (mT cs) (Vms h r q cs) [.ref (h 0), .ref (h 1)] u Q := by
  unfold mCi
  refine m_enter (QQ := fun A => va_Qi Q (mPos D (mT cs) A (Vms h r q cs)) A) (cc := cX4_cost) (maxL := 2) (ret := (some .int)) (by decide) rfl (Nat.le_of_ble_eq_true rfl) ?_
  intro p e s m args below meth c A ls S hr hlocks hname hl hI
  have S : CallFix p m c cX4_cost 2 s args wsX4_cost RX4 := S
  show W p l e ({ frames := 4, cells := 0, slots := 0, locals := 97 } : Room) s m args below meth c s.heap [] 0 0 (MQ below (va_Qi Q (mPos D (mT cs) A (Vms h r q cs)) A) args s 0 0 A) (F0 m 0 ls [])
  generalize hZ : MQ below (va_Qi Q (mPos D (mT cs) A (Vms h r q cs)) A) args s 0 0 A = Z
  have hin4 : ∀ w ∈ wsX40, w ∈ wsX4_cost := fun _ h => List.mem_cons_of_mem _ (List.mem_append_left _ (List.mem_append_right _ h))
  have hin7 : ∀ w ∈ wsX70, w ∈ wsX4_cost := fun _ h => List.mem_cons_of_mem _ (List.mem_append_right _ h)
  have hl : lv_has ls 2 [(0, .ref (h 0)), (1, .ref (h 1))] := hl
  have b34 : ∀ (t0 : Int32) (u : CS), wp_X4_cost_p34 t0 u Q → mGo p l e ({ frames := 4, cells := 0, slots := 0, locals := 97 } : Room) s m args below meth c A Z 2 D (mT cs) (Vms h r q cs) 34 [(0, .ref (h 0))] [.int t0] u := by
    intro t0 u hw H locs ls hI hl
    unfold wp_X4_cost_p34 at hw
    subst hZ
    exact m_iret S hr hlocks hI hw dX4_cost_34
  unfold wp_X4_cost at hw
  obtain ⟨H, hH⟩ : ∃ z : Heap, z = s.heap := ⟨_, rfl⟩
  obtain ⟨locs, hL⟩ : ∃ z : List Loc, z = [] := ⟨_, rfl⟩
  rw [show W p l e ({ frames := 4, cells := 0, slots := 0, locals := 97 } : Room) s m args below meth c s.heap [] 0 0 Z (F0 m 0 ls []) = W p l e ({ frames := 4, cells := 0, slots := 0, locals := 97 } : Room) s m args below meth c H locs 0 0 Z (F0 m 0 ls []) by rw [hH, hL]]
  replace hI : mI D (mT cs) A s.heap s (Vms h r q cs u) H locs := by rw [hH, hL]; exact hI
  refine lv_aload_n S.1 S.2.1 dX4_cost_0 rfl (lv_at hl 0 rfl) ?_
  refine lv_aload_n S.1 S.2.1 dX4_cost_1 rfl (lv_at hl 1 rfl) ?_
  refine m_vi (cf := fun v => Vms h r q cs (emb u [0, 1] v)) (As := [.ref (h 1)]) (rest := []) S (Vms_k_ms_0_1 h r q cs u) hI (by rw [emb_self]) (c_X4_makesReady l D (fun i => h ([0, 1].getD i 0)) (fun i => r ([0, 1].getD i 0)) (fun i => q ([0, 1].getD i 0)) cs (fun i => u ([0, 1].getD i 0)) _ hw) (cwV 1 S.2.2.2.2 gX4_cost_X4_makesReady rfl rfl rfl (by decide +kernel) ⟨Nat.le_of_ble_eq_true rfl, Nat.le_of_ble_eq_true rfl⟩) rfl rfl rfl hl.1 rfl (Nat.le_of_ble_eq_true rfl) dX4_cost_2 ⟨Nat.zero_le _, Nat.zero_le _⟩ (fun y2 v2 H locs hw hI => ?_)
  obtain ⟨u2, eu2⟩ : ∃ z : CS, z = emb u [0, 1] v2 := ⟨_, rfl⟩
  have hw := hw u2 eu2
  replace hI : mI D (mT cs) A s.heap s (Vms h r q cs u2) H locs := by rw [eu2]; exact hI
  refine lv_if_eq (tgt := 32) S.1 S.2.1 dX4_cost_5 (by decide) (fun c5 => ?_) (fun c5 => ?_)
  · have hw := hw.1 c5
    refine lv_ldc S.1 S.2.1 S.2.2.2.1 (S.2.2.2.2 _ (List.mem_of_getElem? (i := 2) rfl)) dX4_cost_32 ?_
    exact b34 (268435456 : Int32) u2 hw H locs ls hI (lv_sub hl [0] rfl)
  · have hw := hw.2 c5
    refine lv_aload_n S.1 S.2.1 dX4_cost_8 rfl (lv_at hl 0 rfl) ?_
    refine m_get S hin4 hI 0 (Vms_o0 h r q cs u2) rfl 2 (Nat.le_of_ble_eq_true rfl) (List.mem_of_getElem? (i := 1) rfl) rfl (Ff4_at2 _ _) dX4_cost_9 ?_
    refine lv_aload_n S.1 S.2.1 dX4_cost_12 rfl (lv_at hl 1 rfl) ?_
    refine m_getN S hin7 hI 20 (Vms_o1 h r q cs u2) rfl 2 (Nat.le_of_ble_eq_true rfl) nf_X4_87 rfl (Ff7_at2 _ _) dX4_cost_13 ?_
    have hj16 := mlt hw.1
    refine m_aald S hI 3 4 (Vms_go0_2 h r q cs u2) rfl hw.1 dX4_cost_16 ?_
    have hw := hw.2
    refine lv_aload_n S.1 S.2.1 dX4_cost_17 rfl (lv_at hl 1 rfl) ?_
    refine m_getN S hin7 hI 20 (Vms_o1 h r q cs u2) rfl 0 (Nat.le_of_ble_eq_true rfl) nf_X4_80 rfl (Ff7_at0 _ _) dX4_cost_18 ?_
    refine lv_aload_n S.1 S.2.1 dX4_cost_21 rfl (lv_at hl 1 rfl) ?_
    refine m_getN S hin7 hI 20 (Vms_o1 h r q cs u2) rfl 1 (Nat.le_of_ble_eq_true rfl) nf_X4_71 rfl (Ff7_at1 _ _) dX4_cost_22 ?_
    refine m_si (As := [.int (gI (u2 1) 0), .int (gI (u2 1) 1)]) (rest := [.ref (q 0 2 (gI (u2 1) 2).toNatClampNeg)]) S hI.2.2.2.1.2.1 (c_X4_placeOf l (gI (u2 1) 0) (gI (u2 1) 1) _ hw) (va_cwS 2 S.2.2.2.2 gX4_cost_X4_placeOf rfl rfl rfl (by decide +kernel) ⟨Nat.le_of_ble_eq_true rfl, Nat.le_of_ble_eq_true rfl⟩) rfl hl.1 rfl (Nat.le_of_ble_eq_true rfl) dX4_cost_25 ⟨Nat.zero_le _, Nat.zero_le _⟩ (fun y25 hw => ?_)
    refine m_iald S hI (4 + (gI (u2 1) 2).toNatClampNeg) 0 (Vms_g0_2 h r q cs u2 hj16) rfl hw.1 dX4_cost_28 ?_
    refine lv_topi (fun y28 ey28 => ?_)
    have hw := hw.2 y28 ey28
    refine lv_goto (tgt := 34) S.1 S.2.1 dX4_cost_29 (by decide) ?_
    exact b34 y28 u2 hw H locs ls hI (lv_sub hl [0] rfl)

theorem Vms_go0_3 (h : Nat → Nat) (r : Nat → Nat → Nat) (q : Nat → Nat → Nat → Nat) (cs : Nat → ClassId) (U : CS) : (Vms h r q cs U)[11]? = some (r 0 3, .inl (cs 4, 7, .inr (.inr (.inr (.inr (mrow (q 0 3))))))) := rfl
theorem Vms_g0_3 (h : Nat → Nat) (r : Nat → Nat → Nat) (q : Nat → Nat → Nat → Nat) (cs : Nat → ClassId) (U : CS) {j : Nat} (hj : j < 7) : (Vms h r q cs U)[12 + j]? = some (q 0 3 j, .inl (cs 0, 1891, .inl (gG (U 0) 3 j))) := by
  match j, hj with
  | 0, _ => rfl
  | 1, _ => rfl
  | 2, _ => rfl
  | 3, _ => rfl
  | 4, _ => rfl
  | 5, _ => rfl
  | 6, _ => rfl
def wp_X4_first_p33 (t0 : Int32) (u : CS) (Q : Int32 → CS → Prop) : Prop :=
  Q t0 u
def wp_X4_first (u : CS) (Q : Int32 → CS → Prop) : Prop :=
  (wp_X4_makesReady (fun i => u ([0, 1].getD i 0)) (fun y2 v2 => ∀ u2 : CS, u2 = emb u [0, 1] v2 → ((y2 = 0 → wp_X4_first_p33 (0 : Int32) u2 Q) ∧ (¬ y2 = 0 → (vp_in (gI (u2 1) 2) 7 ∧ (wp_X4_placeOf (gI (u2 1) 0) (gI (u2 1) 1) (fun y25 => (vp_in y25 1891 ∧ ∀ y28 : Int32, y28 = gG (u2 0) 3 ((gI (u2 1) 2).toNatClampNeg) y25.toNatClampNeg → wp_X4_first_p33 y28 u2 Q))))))))
set_option maxHeartbeats 4000000 in
set_option maxRecDepth 100000 in
theorem c_X4_first (l : Launch) (D : va_G) (h : Nat → Nat) (r : Nat → Nat → Nat) (q : Nat → Nat → Nat → Nat) (cs : Nat → ClassId) (u : CS) (Q : Int32 → CS → Prop) (hw : wp_X4_first u Q) : mCi l yX4_first wsX4_first ({ frames := 4, cells := 0, slots := 0, locals := 97 } : Room) 0 0 D (mT cs) (Vms h r q cs) [.ref (h 0), .ref (h 1)] u Q := by
  unfold mCi
  refine m_enter (QQ := fun A => va_Qi Q (mPos D (mT cs) A (Vms h r q cs)) A) (cc := cX4_first) (maxL := 2) (ret := (some .int)) (by decide) rfl (Nat.le_of_ble_eq_true rfl) ?_
  intro p e s m args below meth c A ls S hr hlocks hname hl hI
  have S : CallFix p m c cX4_first 2 s args wsX4_first RX4 := S
  show W p l e ({ frames := 4, cells := 0, slots := 0, locals := 97 } : Room) s m args below meth c s.heap [] 0 0 (MQ below (va_Qi Q (mPos D (mT cs) A (Vms h r q cs)) A) args s 0 0 A) (F0 m 0 ls [])
  generalize hZ : MQ below (va_Qi Q (mPos D (mT cs) A (Vms h r q cs)) A) args s 0 0 A = Z
  have hin4 : ∀ w ∈ wsX40, w ∈ wsX4_first := fun _ h => List.mem_cons_of_mem _ (List.mem_append_left _ (List.mem_append_right _ h))
  have hin7 : ∀ w ∈ wsX70, w ∈ wsX4_first := fun _ h => List.mem_cons_of_mem _ (List.mem_append_right _ h)
  have hl : lv_has ls 2 [(0, .ref (h 0)), (1, .ref (h 1))] := hl
  have b33 : ∀ (t0 : Int32) (u : CS), wp_X4_first_p33 t0 u Q → mGo p l e ({ frames := 4, cells := 0, slots := 0, locals := 97 } : Room) s m args below meth c A Z 2 D (mT cs) (Vms h r q cs) 33 [(0, .ref (h 0))] [.int t0] u := by
    intro t0 u hw H locs ls hI hl
    unfold wp_X4_first_p33 at hw
    subst hZ
    exact m_iret S hr hlocks hI hw dX4_first_33
  unfold wp_X4_first at hw
  obtain ⟨H, hH⟩ : ∃ z : Heap, z = s.heap := ⟨_, rfl⟩
  obtain ⟨locs, hL⟩ : ∃ z : List Loc, z = [] := ⟨_, rfl⟩
  rw [show W p l e ({ frames := 4, cells := 0, slots := 0, locals := 97 } : Room) s m args below meth c s.heap [] 0 0 Z (F0 m 0 ls []) = W p l e ({ frames := 4, cells := 0, slots := 0, locals := 97 } : Room) s m args below meth c H locs 0 0 Z (F0 m 0 ls []) by rw [hH, hL]]
  replace hI : mI D (mT cs) A s.heap s (Vms h r q cs u) H locs := by rw [hH, hL]; exact hI
  refine lv_aload_n S.1 S.2.1 dX4_first_0 rfl (lv_at hl 0 rfl) ?_
  refine lv_aload_n S.1 S.2.1 dX4_first_1 rfl (lv_at hl 1 rfl) ?_
  refine m_vi (cf := fun v => Vms h r q cs (emb u [0, 1] v)) (As := [.ref (h 1)]) (rest := []) S (Vms_k_ms_0_1 h r q cs u) hI (by rw [emb_self]) (c_X4_makesReady l D (fun i => h ([0, 1].getD i 0)) (fun i => r ([0, 1].getD i 0)) (fun i => q ([0, 1].getD i 0)) cs (fun i => u ([0, 1].getD i 0)) _ hw) (cwV 1 S.2.2.2.2 gX4_first_X4_makesReady rfl rfl rfl (by decide +kernel) ⟨Nat.le_of_ble_eq_true rfl, Nat.le_of_ble_eq_true rfl⟩) rfl rfl rfl hl.1 rfl (Nat.le_of_ble_eq_true rfl) dX4_first_2 ⟨Nat.zero_le _, Nat.zero_le _⟩ (fun y2 v2 H locs hw hI => ?_)
  obtain ⟨u2, eu2⟩ : ∃ z : CS, z = emb u [0, 1] v2 := ⟨_, rfl⟩
  have hw := hw u2 eu2
  replace hI : mI D (mT cs) A s.heap s (Vms h r q cs u2) H locs := by rw [eu2]; exact hI
  refine lv_if_eq (tgt := 32) S.1 S.2.1 dX4_first_5 (by decide) (fun c5 => ?_) (fun c5 => ?_)
  · have hw := hw.1 c5
    refine lv_iconst (v := 0) S.1 S.2.1 dX4_first_32 (by decide) ?_
    exact b33 (0 : Int32) u2 hw H locs ls hI (lv_sub hl [0] rfl)
  · have hw := hw.2 c5
    refine lv_aload_n S.1 S.2.1 dX4_first_8 rfl (lv_at hl 0 rfl) ?_
    refine m_get S hin4 hI 0 (Vms_o0 h r q cs u2) rfl 3 (Nat.le_of_ble_eq_true rfl) (List.mem_of_getElem? (i := 1) rfl) rfl (Ff4_at3 _ _) dX4_first_9 ?_
    refine lv_aload_n S.1 S.2.1 dX4_first_12 rfl (lv_at hl 1 rfl) ?_
    refine m_getN S hin7 hI 20 (Vms_o1 h r q cs u2) rfl 2 (Nat.le_of_ble_eq_true rfl) nf_X4_87 rfl (Ff7_at2 _ _) dX4_first_13 ?_
    have hj16 := mlt hw.1
    refine m_aald S hI 11 4 (Vms_go0_3 h r q cs u2) rfl hw.1 dX4_first_16 ?_
    have hw := hw.2
    refine lv_aload_n S.1 S.2.1 dX4_first_17 rfl (lv_at hl 1 rfl) ?_
    refine m_getN S hin7 hI 20 (Vms_o1 h r q cs u2) rfl 0 (Nat.le_of_ble_eq_true rfl) nf_X4_80 rfl (Ff7_at0 _ _) dX4_first_18 ?_
    refine lv_aload_n S.1 S.2.1 dX4_first_21 rfl (lv_at hl 1 rfl) ?_
    refine m_getN S hin7 hI 20 (Vms_o1 h r q cs u2) rfl 1 (Nat.le_of_ble_eq_true rfl) nf_X4_71 rfl (Ff7_at1 _ _) dX4_first_22 ?_
    refine m_si (As := [.int (gI (u2 1) 0), .int (gI (u2 1) 1)]) (rest := [.ref (q 0 3 (gI (u2 1) 2).toNatClampNeg)]) S hI.2.2.2.1.2.1 (c_X4_placeOf l (gI (u2 1) 0) (gI (u2 1) 1) _ hw) (va_cwS 2 S.2.2.2.2 gX4_first_X4_placeOf rfl rfl rfl (by decide +kernel) ⟨Nat.le_of_ble_eq_true rfl, Nat.le_of_ble_eq_true rfl⟩) rfl hl.1 rfl (Nat.le_of_ble_eq_true rfl) dX4_first_25 ⟨Nat.zero_le _, Nat.zero_le _⟩ (fun y25 hw => ?_)
    refine m_iald S hI (12 + (gI (u2 1) 2).toNatClampNeg) 0 (Vms_g0_3 h r q cs u2 hj16) rfl hw.1 dX4_first_28 ?_
    refine lv_topi (fun y28 ey28 => ?_)
    have hw := hw.2 y28 ey28
    refine lv_goto (tgt := 33) S.1 S.2.1 dX4_first_29 (by decide) ?_
    exact b33 y28 u2 hw H locs ls hI (lv_sub hl [0] rfl)

theorem Vts_o1 (h : Nat → Nat) (r : Nat → Nat → Nat) (q : Nat → Nat → Nat → Nat) (cs : Nat → ClassId) (U : CS) : (Vts h r q cs U)[17]? = some (h 1, .inr (7, Ff7 (r 1) (U 1))) := rfl
theorem Vts_c1 (h : Nat → Nat) (r : Nat → Nat → Nat) (q : Nat → Nat → Nat → Nat) (cs : Nat → ClassId) (U : CS) : ∀ v : ST, (Vts h r q cs (mu U 1 v)).Perm ([] ++ (W7 (h 1) (r 1) cs v ++ [0].flatMap (cTts h r q cs U))) := fun v => (front_perm (cTts h r q cs (mu U 1 v)) (l := [0, 1]) (ks := [1]) (rest := [0]) (by decide)).trans (List.Perm.of_eq (by rw [show [1].flatMap (cTts h r q cs (mu U 1 v)) = W7 (h 1) (r 1) cs v from List.append_nil _]; rfl))
theorem Vts_c0 (h : Nat → Nat) (r : Nat → Nat → Nat) (q : Nat → Nat → Nat → Nat) (cs : Nat → ClassId) (U : CS) : ∀ v : ST, (Vts h r q cs (mu U 0 v)).Perm ([] ++ (W9 (h 0) (r 0) (q 0) cs v ++ [1].flatMap (cTts h r q cs U))) := fun v => (front_perm (cTts h r q cs (mu U 0 v)) (l := [0, 1]) (ks := [0]) (rest := [1]) (by decide)).trans (List.Perm.of_eq (by rw [show [0].flatMap (cTts h r q cs (mu U 0 v)) = W9 (h 0) (r 0) (q 0) cs v from List.append_nil _]; rfl))
def wp_X9_costFrom (a2 : Int32) (a3 : Int32) (u : CS) (Q : Int32 → CS → Prop) : Prop :=
  (∀ y2 : Int32, y2 = a2 - a3 → (∀ y3 : Int32, y3 = (if 0 ≤ y2 then y2 else 0 - y2) → (wp_X7_heights (u 1) (fun y12 v12 => ∀ u12 : CS, u12 = mu u 1 v12 → (∀ y20 : Int32, y20 = a3 - (gI (u12 1) 0) → (wp_X9_rest (gI (u 1) 2) y12 y20 (u12 0) (fun y21 v21 => ∀ u21 : CS, u21 = mu u12 0 v21 → (∀ y24 : Int32, y24 = y3 + y21 → Q y24 u21))))))))
set_option maxHeartbeats 4000000 in
set_option maxRecDepth 100000 in
theorem c_X9_costFrom (l : Launch) (D : va_G) (h : Nat → Nat) (r : Nat → Nat → Nat) (q : Nat → Nat → Nat → Nat) (cs : Nat → ClassId) (a2 : Int32) (a3 : Int32) (u : CS) (Q : Int32 → CS → Prop) (hw : wp_X9_costFrom a2 a3 u Q) : mCi l yX9_costFrom wsX9_costFrom ({ frames := 2, cells := 0, slots := 0, locals := 45 } : Room) 0 0 D (mT cs) (Vts h r q cs) [.ref (h 0), .ref (h 1), .int a2, .int a3] u Q := by
  unfold mCi
  refine m_enter (QQ := fun A => va_Qi Q (mPos D (mT cs) A (Vts h r q cs)) A) (cc := cX9_costFrom) (maxL := 4) (ret := (some .int)) (by decide) rfl (Nat.le_of_ble_eq_true rfl) ?_
  intro p e s m args below meth c A ls S hr hlocks hname hl hI
  have S : CallFix p m c cX9_costFrom 4 s args wsX9_costFrom RX9 := S
  show W p l e ({ frames := 2, cells := 0, slots := 0, locals := 45 } : Room) s m args below meth c s.heap [] 0 0 (MQ below (va_Qi Q (mPos D (mT cs) A (Vts h r q cs)) A) args s 0 0 A) (F0 m 0 ls [])
  generalize hZ : MQ below (va_Qi Q (mPos D (mT cs) A (Vts h r q cs)) A) args s 0 0 A = Z
  have hin7 : ∀ w ∈ wsX70, w ∈ wsX9_costFrom := fun _ h => List.mem_cons_of_mem _ (List.mem_append_left _ (List.mem_append_right _ h))
  have hin9 : ∀ w ∈ wsX90, w ∈ wsX9_costFrom := fun _ h => List.mem_cons_of_mem _ (List.mem_append_right _ h)
  have hl : lv_has ls 4 [(0, .ref (h 0)), (1, .ref (h 1)), (2, .int a2), (3, .int a3)] := hl
  unfold wp_X9_costFrom at hw
  obtain ⟨H, hH⟩ : ∃ z : Heap, z = s.heap := ⟨_, rfl⟩
  obtain ⟨locs, hL⟩ : ∃ z : List Loc, z = [] := ⟨_, rfl⟩
  rw [show W p l e ({ frames := 2, cells := 0, slots := 0, locals := 45 } : Room) s m args below meth c s.heap [] 0 0 Z (F0 m 0 ls []) = W p l e ({ frames := 2, cells := 0, slots := 0, locals := 45 } : Room) s m args below meth c H locs 0 0 Z (F0 m 0 ls []) by rw [hH, hL]]
  replace hI : mI D (mT cs) A s.heap s (Vts h r q cs u) H locs := by rw [hH, hL]; exact hI
  refine lv_iload_n S.1 S.2.1 dX9_costFrom_0 rfl (lv_at hl 2 rfl) ?_
  refine lv_iload_n S.1 S.2.1 dX9_costFrom_1 rfl (lv_at hl 3 rfl) ?_
  refine lv_isub S.1 S.2.1 dX9_costFrom_2 ?_
  refine lv_topi (fun y2 ey2 => ?_)
  have hw := hw y2 ey2
  refine va_mabs S.1 S.2.1 (S.2.2.1.trans hl.1.symm) S.2.2.2.1 (S.2.2.2.2 _ (List.mem_of_getElem? (i := 1) rfl)) (S.2.2.2.2 _ (List.mem_of_getElem? (i := 2) rfl)) (S.2.2.2.2 _ (List.mem_of_getElem? (i := 3) rfl)) (S.2.2.2.2 _ (List.mem_of_getElem? (i := 4) rfl)) (Nat.le_of_ble_eq_true rfl) (Nat.le_of_ble_eq_true rfl) (Nat.zero_le _) (Nat.zero_le _) dX9_costFrom_3 ?_
  refine lv_topi (fun y3 ey3 => ?_)
  have hw := hw y3 ey3
  refine lv_aload_n S.1 S.2.1 dX9_costFrom_6 rfl (lv_at hl 0 rfl) ?_
  refine lv_aload_n S.1 S.2.1 dX9_costFrom_7 rfl (lv_at hl 1 rfl) ?_
  refine m_getN S hin7 hI 17 (Vts_o1 h r q cs u) rfl 2 (Nat.le_of_ble_eq_true rfl) nf_X9_49 rfl (Ff7_at2 _ _) dX9_costFrom_8 ?_
  refine lv_aload_n S.1 S.2.1 dX9_costFrom_11 rfl (lv_at hl 1 rfl) ?_
  refine m_vi (cf := fun v => Vts h r q cs (mu u 1 v)) (As := []) (rest := [.int (gI (u 1) 2), .ref (h 0), .int y3]) S (Vts_c1 h r q cs u) hI (by rw [mu_self]) (c_X7_heights l D (h 1) (r 1) cs (u 1) _ hw) (cwV 0 S.2.2.2.2 gX9_costFrom_X7_heights rfl rfl rfl (by decide +kernel) ⟨Nat.le_of_ble_eq_true rfl, Nat.le_of_ble_eq_true rfl⟩) rfl rfl rfl hl.1 rfl (Nat.le_of_ble_eq_true rfl) dX9_costFrom_12 ⟨Nat.zero_le _, Nat.zero_le _⟩ (fun y12 v12 H locs hw hI => ?_)
  obtain ⟨u12, eu12⟩ : ∃ z : CS, z = mu u 1 v12 := ⟨_, rfl⟩
  have hw := hw u12 eu12
  replace hI : mI D (mT cs) A s.heap s (Vts h r q cs u12) H locs := by rw [eu12]; exact hI
  refine lv_iload_n S.1 S.2.1 dX9_costFrom_15 rfl (lv_at hl 3 rfl) ?_
  refine lv_aload_n S.1 S.2.1 dX9_costFrom_16 rfl (lv_at hl 1 rfl) ?_
  refine m_getN S hin7 hI 17 (Vts_o1 h r q cs u12) rfl 0 (Nat.le_of_ble_eq_true rfl) nf_X9_59 rfl (Ff7_at0 _ _) dX9_costFrom_17 ?_
  refine lv_isub S.1 S.2.1 dX9_costFrom_20 ?_
  refine lv_topi (fun y20 ey20 => ?_)
  have hw := hw y20 ey20
  refine m_vi (cf := fun v => Vts h r q cs (mu u12 0 v)) (As := [.int (gI (u 1) 2), .int y12, .int y20]) (rest := [.int y3]) S (Vts_c0 h r q cs u12) hI (by rw [mu_self]) (c_X9_rest l D (h 0) (r 0) (q 0) cs (gI (u 1) 2) y12 y20 (u12 0) _ hw) (cwV 3 S.2.2.2.2 gX9_costFrom_X9_rest rfl rfl rfl (by decide +kernel) ⟨Nat.le_of_ble_eq_true rfl, Nat.le_of_ble_eq_true rfl⟩) rfl rfl rfl hl.1 rfl (Nat.le_of_ble_eq_true rfl) dX9_costFrom_21 ⟨Nat.zero_le _, Nat.zero_le _⟩ (fun y21 v21 H locs hw hI => ?_)
  obtain ⟨u21, eu21⟩ : ∃ z : CS, z = mu u12 0 v21 := ⟨_, rfl⟩
  have hw := hw u21 eu21
  replace hI : mI D (mT cs) A s.heap s (Vts h r q cs u21) H locs := by rw [eu21]; exact hI
  refine lv_iadd S.1 S.2.1 dX9_costFrom_24 ?_
  refine lv_topi (fun y24 ey24 => ?_)
  have hw := hw y24 ey24
  subst hZ
  exact m_iret S hr hlocks hI hw dX9_costFrom_25

theorem Vts_k_ts_0_1 (h : Nat → Nat) (r : Nat → Nat → Nat) (q : Nat → Nat → Nat → Nat) (cs : Nat → ClassId) (U : CS) : ∀ v : CS, (Vts h r q cs (emb U [0, 1] v)).Perm ([] ++ (Vts (fun i => h ([0, 1].getD i 0)) (fun i => r ([0, 1].getD i 0)) (fun i => q ([0, 1].getD i 0)) cs v ++ [].flatMap (cTts h r q cs U))) := fun v => (front_perm (cTts h r q cs (emb U [0, 1] v)) (l := [0, 1]) (ks := [0, 1]) (rest := []) (by decide)).trans (List.Perm.of_eq rfl)
def wp_X9_firstFrom_p46 (x2 : Int32) (x3 : Int32) (x4 : Int32) (x5 : Int32) (u : CS) (B14 : Int32 → Int32 → Int32 → Int32 → CS → Prop) (Q : Int32 → CS → Prop) : Prop :=
  (∀ y46 : Int32, y46 = x5 + 1 → B14 x2 x3 x4 y46 u)
def wp_X9_firstFrom_p14b (x2 : Int32) (x3 : Int32) (x4 : Int32) (x5 : Int32) (u : CS) (B14 : Int32 → Int32 → Int32 → Int32 → CS → Prop) (Q : Int32 → CS → Prop) : Prop :=
  (((gI (u 1) 1) < x5 → Q x4 u) ∧ (¬ (gI (u 1) 1) < x5 → (wp_X9_costFrom x2 x5 (fun i => u ([0, 1].getD i 0)) (fun y28 v28 => ∀ u28 : CS, u28 = emb u [0, 1] v28 → ((x3 ≤ y28 → wp_X9_firstFrom_p46 x2 x3 x4 x5 u28 B14 Q) ∧ (¬ x3 ≤ y28 → wp_X9_firstFrom_p46 x2 y28 x5 x5 u28 B14 Q))))))
def wp_X9_firstFrom_p14 (x2 : Int32) (x3 : Int32) (x4 : Int32) (x5 : Int32) (u : CS) (Q : Int32 → CS → Prop) : Prop := ∃ (I : Int32 → Int32 → Int32 → Int32 → CS → Prop) (μ : Int32 → Int32 → Int32 → Int32 → CS → Nat), I x2 x3 x4 x5 u ∧ ∀ (x2 : Int32) (x3 : Int32) (x4 : Int32) (x5 : Int32) (u : CS), I x2 x3 x4 x5 u → wp_X9_firstFrom_p14b x2 x3 x4 x5 u (fun yx2 yx3 yx4 yx5 yu => I yx2 yx3 yx4 yx5 yu ∧ μ yx2 yx3 yx4 yx5 yu < μ x2 x3 x4 x5 u) Q
def wp_X9_firstFrom (a2 : Int32) (u : CS) (Q : Int32 → CS → Prop) : Prop :=
  (∀ y11 : Int32, y11 = (gI (u 1) 0) + (1 : Int32) → wp_X9_firstFrom_p14 a2 (268435456 : Int32) (0 : Int32) y11 u Q)
set_option maxHeartbeats 4000000 in
set_option maxRecDepth 100000 in
theorem c_X9_firstFrom (l : Launch) (D : va_G) (h : Nat → Nat) (r : Nat → Nat → Nat) (q : Nat → Nat → Nat → Nat) (cs : Nat → ClassId) (a2 : Int32) (u : CS) (Q : Int32 → CS → Prop) (hw : wp_X9_firstFrom a2 u Q) : mCi l yX9_firstFrom wsX9_firstFrom ({ frames := 3, cells := 0, slots := 0, locals := 68 } : Room) 0 0 D (mT cs) (Vts h r q cs) [.ref (h 0), .ref (h 1), .int a2] u Q := by
  unfold mCi
  refine m_enter (QQ := fun A => va_Qi Q (mPos D (mT cs) A (Vts h r q cs)) A) (cc := cX9_firstFrom) (maxL := 7) (ret := (some .int)) (by decide) rfl (Nat.le_of_ble_eq_true rfl) ?_
  intro p e s m args below meth c A ls S hr hlocks hname hl hI
  have S : CallFix p m c cX9_firstFrom 7 s args wsX9_firstFrom RX9 := S
  show W p l e ({ frames := 3, cells := 0, slots := 0, locals := 68 } : Room) s m args below meth c s.heap [] 0 0 (MQ below (va_Qi Q (mPos D (mT cs) A (Vts h r q cs)) A) args s 0 0 A) (F0 m 0 ls [])
  generalize hZ : MQ below (va_Qi Q (mPos D (mT cs) A (Vts h r q cs)) A) args s 0 0 A = Z
  have hin7 : ∀ w ∈ wsX70, w ∈ wsX9_firstFrom := fun _ h => List.mem_cons_of_mem _ (List.mem_append_left _ (List.mem_append_right _ h))
  have hin9 : ∀ w ∈ wsX90, w ∈ wsX9_firstFrom := fun _ h => List.mem_cons_of_mem _ (List.mem_append_right _ h)
  have hl : lv_has ls 7 [(0, .ref (h 0)), (1, .ref (h 1)), (2, .int a2)] := hl
  have b46 : ∀ (B14 : Int32 → Int32 → Int32 → Int32 → CS → Prop), (∀ (x2 : Int32) (x3 : Int32) (x4 : Int32) (x5 : Int32) (u : CS), B14 x2 x3 x4 x5 u → mGo p l e ({ frames := 3, cells := 0, slots := 0, locals := 68 } : Room) s m args below meth c A Z 7 D (mT cs) (Vts h r q cs) 14 [(0, .ref (h 0)), (1, .ref (h 1)), (2, .int x2), (3, .int x3), (4, .int x4), (5, .int x5)] [] u) → ∀ (x2 : Int32) (x3 : Int32) (x4 : Int32) (x5 : Int32) (u : CS), wp_X9_firstFrom_p46 x2 x3 x4 x5 u B14 Q → mGo p l e ({ frames := 3, cells := 0, slots := 0, locals := 68 } : Room) s m args below meth c A Z 7 D (mT cs) (Vts h r q cs) 46 [(0, .ref (h 0)), (1, .ref (h 1)), (2, .int x2), (3, .int x3), (4, .int x4), (5, .int x5)] [] u := by
    intro B14 hB14 x2 x3 x4 x5 u hw H locs ls hI hl
    unfold wp_X9_firstFrom_p46 at hw
    obtain ⟨y46, ey46⟩ : ∃ z : Int32, z = x5 + 1 := ⟨_, rfl⟩
    have hw := hw y46 ey46
    refine lv_iinc (v := y46) (lv' := [(5, .int y46), (0, .ref (h 0)), (1, .ref (h 1)), (2, .int x2), (3, .int x3), (4, .int x4)]) S.1 S.2.1 dX9_firstFrom_46 hl (k := 5) rfl (by rw [ey46]; rfl) (by decide) rfl (fun ls hl => ?_)
    refine lv_goto (tgt := 14) S.1 S.2.1 dX9_firstFrom_49 (by decide) ?_
    exact hB14 x2 x3 x4 y46 u hw H locs ls hI (lv_sub hl [1, 2, 3, 4, 5, 0] rfl)
  have b14b : ∀ (B14 : Int32 → Int32 → Int32 → Int32 → CS → Prop), (∀ (x2 : Int32) (x3 : Int32) (x4 : Int32) (x5 : Int32) (u : CS), B14 x2 x3 x4 x5 u → mGo p l e ({ frames := 3, cells := 0, slots := 0, locals := 68 } : Room) s m args below meth c A Z 7 D (mT cs) (Vts h r q cs) 14 [(0, .ref (h 0)), (1, .ref (h 1)), (2, .int x2), (3, .int x3), (4, .int x4), (5, .int x5)] [] u) → ∀ (x2 : Int32) (x3 : Int32) (x4 : Int32) (x5 : Int32) (u : CS), wp_X9_firstFrom_p14b x2 x3 x4 x5 u B14 Q → mGo p l e ({ frames := 3, cells := 0, slots := 0, locals := 68 } : Room) s m args below meth c A Z 7 D (mT cs) (Vts h r q cs) 14 [(0, .ref (h 0)), (1, .ref (h 1)), (2, .int x2), (3, .int x3), (4, .int x4), (5, .int x5)] [] u := by
    intro B14 hB14 x2 x3 x4 x5 u hw H locs ls hI hl
    unfold wp_X9_firstFrom_p14b at hw
    refine lv_iload S.1 S.2.1 dX9_firstFrom_14 (lv_at hl 5 rfl) ?_
    refine lv_aload_n S.1 S.2.1 dX9_firstFrom_16 rfl (lv_at hl 1 rfl) ?_
    refine m_getN S hin7 hI 17 (Vts_o1 h r q cs u) rfl 1 (Nat.le_of_ble_eq_true rfl) nf_X9_62 rfl (Ff7_at1 _ _) dX9_firstFrom_17 ?_
    refine lv_icmp_gt (tgt := 52) S.1 S.2.1 dX9_firstFrom_20 (by decide) (fun c20 => ?_) (fun c20 => ?_)
    · have hw := hw.1 c20
      refine lv_iload S.1 S.2.1 dX9_firstFrom_52 (lv_at hl 4 rfl) ?_
      subst hZ
      exact m_iret S hr hlocks hI hw dX9_firstFrom_54
    · have hw := hw.2 c20
      refine lv_aload_n S.1 S.2.1 dX9_firstFrom_23 rfl (lv_at hl 0 rfl) ?_
      refine lv_aload_n S.1 S.2.1 dX9_firstFrom_24 rfl (lv_at hl 1 rfl) ?_
      refine lv_iload_n S.1 S.2.1 dX9_firstFrom_25 rfl (lv_at hl 2 rfl) ?_
      refine lv_iload S.1 S.2.1 dX9_firstFrom_26 (lv_at hl 5 rfl) ?_
      refine m_vi (cf := fun v => Vts h r q cs (emb u [0, 1] v)) (As := [.ref (h 1), .int x2, .int x5]) (rest := []) S (Vts_k_ts_0_1 h r q cs u) hI (by rw [emb_self]) (c_X9_costFrom l D (fun i => h ([0, 1].getD i 0)) (fun i => r ([0, 1].getD i 0)) (fun i => q ([0, 1].getD i 0)) cs x2 x5 (fun i => u ([0, 1].getD i 0)) _ hw) (cwV 3 S.2.2.2.2 gX9_firstFrom_X9_costFrom rfl rfl rfl (by decide +kernel) ⟨Nat.le_of_ble_eq_true rfl, Nat.le_of_ble_eq_true rfl⟩) rfl rfl rfl hl.1 rfl (Nat.le_of_ble_eq_true rfl) dX9_firstFrom_28 ⟨Nat.zero_le _, Nat.zero_le _⟩ (fun y28 v28 H locs hw hI => ?_)
      obtain ⟨u28, eu28⟩ : ∃ z : CS, z = emb u [0, 1] v28 := ⟨_, rfl⟩
      have hw := hw u28 eu28
      replace hI : mI D (mT cs) A s.heap s (Vts h r q cs u28) H locs := by rw [eu28]; exact hI
      refine lv_istore (lv' := [(6, .int y28), (0, .ref (h 0)), (1, .ref (h 1)), (2, .int x2), (3, .int x3), (4, .int x4), (5, .int x5)]) S.1 S.2.1 dX9_firstFrom_31 hl (by decide) rfl (fun ls hl => ?_)
      refine lv_iload S.1 S.2.1 dX9_firstFrom_33 (lv_at hl 0 rfl) ?_
      refine lv_iload_n S.1 S.2.1 dX9_firstFrom_35 rfl (lv_at hl 4 rfl) ?_
      refine lv_icmp_ge (tgt := 46) S.1 S.2.1 dX9_firstFrom_36 (by decide) (fun c36 => ?_) (fun c36 => ?_)
      · have hw := hw.1 c36
        exact b46 B14 hB14 x2 x3 x4 x5 u28 hw H locs ls hI (lv_sub hl [1, 2, 3, 4, 5, 6] rfl)
      · have hw := hw.2 c36
        refine lv_iload S.1 S.2.1 dX9_firstFrom_39 (lv_at hl 0 rfl) ?_
        refine lv_istore_n (lv' := [(3, .int y28), (6, .int y28), (0, .ref (h 0)), (1, .ref (h 1)), (2, .int x2), (4, .int x4), (5, .int x5)]) S.1 S.2.1 dX9_firstFrom_41 rfl hl (by decide) rfl (fun ls hl => ?_)
        refine lv_iload S.1 S.2.1 dX9_firstFrom_42 (lv_at hl 6 rfl) ?_
        refine lv_istore (lv' := [(4, .int x5), (3, .int y28), (6, .int y28), (0, .ref (h 0)), (1, .ref (h 1)), (2, .int x2), (5, .int x5)]) S.1 S.2.1 dX9_firstFrom_44 hl (by decide) rfl (fun ls hl => ?_)
        exact b46 B14 hB14 x2 y28 x5 x5 u28 hw H locs ls hI (lv_sub hl [3, 4, 5, 1, 0, 6] rfl)
  have b14 : ∀ (x2 : Int32) (x3 : Int32) (x4 : Int32) (x5 : Int32) (u : CS), wp_X9_firstFrom_p14 x2 x3 x4 x5 u Q → mGo p l e ({ frames := 3, cells := 0, slots := 0, locals := 68 } : Room) s m args below meth c A Z 7 D (mT cs) (Vts h r q cs) 14 [(0, .ref (h 0)), (1, .ref (h 1)), (2, .int x2), (3, .int x3), (4, .int x4), (5, .int x5)] [] u := by
    intro x2 x3 x4 x5 u hw
    obtain ⟨I, μ, h0, hs⟩ := hw
    have key : ∀ (n : Nat) (x2 : Int32) (x3 : Int32) (x4 : Int32) (x5 : Int32) (u : CS), μ x2 x3 x4 x5 u = n → I x2 x3 x4 x5 u → mGo p l e ({ frames := 3, cells := 0, slots := 0, locals := 68 } : Room) s m args below meth c A Z 7 D (mT cs) (Vts h r q cs) 14 [(0, .ref (h 0)), (1, .ref (h 1)), (2, .int x2), (3, .int x3), (4, .int x4), (5, .int x5)] [] u := by
      intro n
      induction n using Nat.strongRecOn with
      | ind n ih =>
        intro x2 x3 x4 x5 u hn hi
        exact b14b (fun yx2 yx3 yx4 yx5 yu => I yx2 yx3 yx4 yx5 yu ∧ μ yx2 yx3 yx4 yx5 yu < μ x2 x3 x4 x5 u) (fun yx2 yx3 yx4 yx5 yu hb => ih _ (hn ▸ hb.2) yx2 yx3 yx4 yx5 yu rfl hb.1) x2 x3 x4 x5 u (hs x2 x3 x4 x5 u hi)
    exact key _ x2 x3 x4 x5 u rfl h0
  unfold wp_X9_firstFrom at hw
  obtain ⟨H, hH⟩ : ∃ z : Heap, z = s.heap := ⟨_, rfl⟩
  obtain ⟨locs, hL⟩ : ∃ z : List Loc, z = [] := ⟨_, rfl⟩
  rw [show W p l e ({ frames := 3, cells := 0, slots := 0, locals := 68 } : Room) s m args below meth c s.heap [] 0 0 Z (F0 m 0 ls []) = W p l e ({ frames := 3, cells := 0, slots := 0, locals := 68 } : Room) s m args below meth c H locs 0 0 Z (F0 m 0 ls []) by rw [hH, hL]]
  replace hI : mI D (mT cs) A s.heap s (Vts h r q cs u) H locs := by rw [hH, hL]; exact hI
  refine lv_ldc S.1 S.2.1 S.2.2.2.1 (S.2.2.2.2 _ (List.mem_of_getElem? (i := 1) rfl)) dX9_firstFrom_0 ?_
  refine lv_istore_n (lv' := [(3, .int (268435456 : Int32)), (0, .ref (h 0)), (1, .ref (h 1)), (2, .int a2)]) S.1 S.2.1 dX9_firstFrom_2 rfl hl (by decide) rfl (fun ls hl => ?_)
  refine lv_iconst (v := 0) S.1 S.2.1 dX9_firstFrom_3 (by decide) ?_
  refine lv_istore (lv' := [(4, .int (0 : Int32)), (3, .int (268435456 : Int32)), (0, .ref (h 0)), (1, .ref (h 1)), (2, .int a2)]) S.1 S.2.1 dX9_firstFrom_4 hl (by decide) rfl (fun ls hl => ?_)
  refine lv_aload_n S.1 S.2.1 dX9_firstFrom_6 rfl (lv_at hl 3 rfl) ?_
  refine m_getN S hin7 hI 17 (Vts_o1 h r q cs u) rfl 0 (Nat.le_of_ble_eq_true rfl) nf_X9_59 rfl (Ff7_at0 _ _) dX9_firstFrom_7 ?_
  refine lv_iconst (v := 1) S.1 S.2.1 dX9_firstFrom_10 (by decide) ?_
  refine lv_iadd S.1 S.2.1 dX9_firstFrom_11 ?_
  refine lv_topi (fun y11 ey11 => ?_)
  have hw := hw y11 ey11
  refine lv_istore (lv' := [(5, .int y11), (4, .int (0 : Int32)), (3, .int (268435456 : Int32)), (0, .ref (h 0)), (1, .ref (h 1)), (2, .int a2)]) S.1 S.2.1 dX9_firstFrom_12 hl (by decide) rfl (fun ls hl => ?_)
  exact b14 a2 (268435456 : Int32) (0 : Int32) y11 u hw H locs ls hI (lv_sub hl [3, 4, 5, 2, 1, 0] rfl)

def cTlb (h : Nat → Nat) (r : Nat → Nat → Nat) (q : Nat → Nat → Nat → Nat) (cs : Nat → ClassId) (U : CS) : Nat → va_W
  | 0 => W3 (h 0) (lr (r 0) (gI (U 1) 0)) cs (U 0)
  | _ => []
def Vlb (h : Nat → Nat) (r : Nat → Nat → Nat) (q : Nat → Nat → Nat → Nat) (cs : Nat → ClassId) (U : CS) : va_W := [0, 1].flatMap (cTlb h r q cs U)
theorem lb_swap (h : Nat → Nat) (r : Nat → Nat → Nat) (q : Nat → Nat → Nat → Nat) (cs : Nat → ClassId) (u u9 : CS) (e : u9 = swS u) : (((Vlb h r q cs u).set 0 (h 0, .inr (3, (Ff3 (lr (r 0) (gI (u 1) 0)) (u 0)).set 2 (.ref ((lr (r 0) (gI (u 1) 0)) 3))))).set 0 (h 0, .inr (3, ((Ff3 (lr (r 0) (gI (u 1) 0)) (u 0)).set 2 (.ref ((lr (r 0) (gI (u 1) 0)) 3))).set 3 (.ref ((lr (r 0) (gI (u 1) 0)) 2))))).Perm (Vlb h r q cs u9) := by
  subst e
  obtain ⟨e0, e1, e2, e3⟩ := lr_sw (r 0) (gI (u 1) 0)
  have key : Vlb h r q cs (swS u) = [(h 0, .inr (3, [.ref ((lr (r 0) (gI (u 1) 0)) 0), .ref ((lr (r 0) (gI (u 1) 0)) 1), .ref ((lr (r 0) (gI (u 1) 0)) 3), .ref ((lr (r 0) (gI (u 1) 0)) 2), .int (gI (u 0) 4), .int (gI (u 0) 5), .int (gI (u 0) 6), .int (gI (u 0) 7), .int (gI (u 0) 8), .int (gI (u 0) 9)])), ((lr (r 0) (gI (u 1) 0)) 0, .inl (cs 0, 120, .inl (gA (u 0) 0))), ((lr (r 0) (gI (u 1) 0)) 1, .inl (cs 0, 124, .inl (gA (u 0) 1))), ((lr (r 0) (gI (u 1) 0)) 3, .inl (cs 0, 124, .inl (gA (u 0) 3))), ((lr (r 0) (gI (u 1) 0)) 2, .inl (cs 0, 124, .inl (gA (u 0) 2)))] := by
    show ([(h 0, .inr (3, [.ref ((lr (r 0) (msw (gI (u 1) 0))) 0), .ref ((lr (r 0) (msw (gI (u 1) 0))) 1), .ref ((lr (r 0) (msw (gI (u 1) 0))) 2), .ref ((lr (r 0) (msw (gI (u 1) 0))) 3), .int (gI (u 0) 4), .int (gI (u 0) 5), .int (gI (u 0) 6), .int (gI (u 0) 7), .int (gI (u 0) 8), .int (gI (u 0) 9)])), ((lr (r 0) (msw (gI (u 1) 0))) 0, .inl (cs 0, 120, .inl (gA (u 0) 0))), ((lr (r 0) (msw (gI (u 1) 0))) 1, .inl (cs 0, 124, .inl (gA (u 0) 1))), ((lr (r 0) (msw (gI (u 1) 0))) 2, .inl (cs 0, 124, .inl (gA (u 0) 3))), ((lr (r 0) (msw (gI (u 1) 0))) 3, .inl (cs 0, 124, .inl (gA (u 0) 2)))] : va_W) = _
    rw [e0, e1, e2, e3]
  rw [key]
  show List.Perm ([(h 0, .inr (3, [.ref ((lr (r 0) (gI (u 1) 0)) 0), .ref ((lr (r 0) (gI (u 1) 0)) 1), .ref ((lr (r 0) (gI (u 1) 0)) 3), .ref ((lr (r 0) (gI (u 1) 0)) 2), .int (gI (u 0) 4), .int (gI (u 0) 5), .int (gI (u 0) 6), .int (gI (u 0) 7), .int (gI (u 0) 8), .int (gI (u 0) 9)])), ((lr (r 0) (gI (u 1) 0)) 0, .inl (cs 0, 120, .inl (gA (u 0) 0))), ((lr (r 0) (gI (u 1) 0)) 1, .inl (cs 0, 124, .inl (gA (u 0) 1))), ((lr (r 0) (gI (u 1) 0)) 2, .inl (cs 0, 124, .inl (gA (u 0) 2))), ((lr (r 0) (gI (u 1) 0)) 3, .inl (cs 0, 124, .inl (gA (u 0) 3)))] : va_W) _
  exact (List.Perm.swap _ _ _).symm.cons _ |>.cons _ |>.cons _

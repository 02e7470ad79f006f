/-! laid by program: init7, init8, init3, init2, init4, init9, init5, init10, init1, init0, init6 -/
def I7 (h : Nat) (f : Nat → Nat) (cs : Nat → ClassId) : va_W := [(h, .inr (7, [.int 0, .int 0, .int 0]))]
set_option maxHeartbeats 8000000 in
set_option maxRecDepth 100000 in
theorem c_X7_init (l : Launch) (D : va_G) (h : Nat) (cs : Nat → ClassId) : mKv l yX7_init wsX7_init ({ frames := 1, cells := 0, slots := 0, locals := 12 } : Room) 0 0 D (mT cs) (bW [(h, .inr (7, [.int 0, .int 0, .int 0]))] (fun f => I7 h f cs)) [.ref h] none (fun o => ∃ z, o = some z) := by
  refine m_enterK (cc := cX7_init) (maxL := 1) (by decide) rfl (Nat.le_of_ble_eq_true rfl) ?_
  intro p e s m args below meth c A ls S hr hlocks hname hl hI hO
  have S : CallFix p m c cX7_init 1 s args wsX7_init RX7 := S
  have hl : lv_has ls 1 [(0, .ref h)] := hl
  obtain ⟨H, hH⟩ : ∃ z : Heap, z = s.heap := ⟨_, rfl⟩
  obtain ⟨locs, hL⟩ : ∃ z : List Loc, z = [] := ⟨_, rfl⟩
  generalize hZ : MQ below (va_Qv (fun o => ∃ z, o = some z) (mPos D (mT cs) A (bW [(h, .inr (7, [.int 0, .int 0, .int 0]))] (fun f => I7 h f cs))) A) args s 0 0 A = Z
  rw [show W p l e ({ frames := 1, cells := 0, slots := 0, locals := 12 } : Room) s m args below meth c s.heap [] 0 0 Z (F0 m 0 ls []) = W p l e ({ frames := 1, cells := 0, slots := 0, locals := 12 } : Room) s m args below meth c H locs 0 0 Z (F0 m 0 ls []) by rw [hH, hL]]
  replace hI : mI D (mT cs) A s.heap s [(h, .inr (7, [.int 0, .int 0, .int 0]))] H locs := by rw [hH, hL]; exact hI
  refine lv_aload_n S.1 S.2.1 dX7_init_0 rfl (lv_at hl 0 rfl) ?_
  refine m_obj S hl.1 (List.mem_of_getElem? (i := 1) rfl) (List.mem_of_getElem? (i := 2) rfl) (List.mem_of_getElem? (i := 3) rfl) dX7_init_1 (Nat.le_of_ble_eq_true rfl) (Nat.le_of_ble_eq_true rfl) ?_
  subst hZ
  exact m_vret (w := (bW [(h, .inr (7, [.int 0, .int 0, .int 0]))] (fun f => I7 h f cs))) (Qp := fun o => ∃ z, o = some z) (u := some (fun i => ([h] : List Nat).getD i 0)) S hr hlocks hI ⟨_, rfl⟩ dX7_init_4

def I8 (h : Nat) (f : Nat → Nat) (cs : Nat → ClassId) : va_W := [(h, .inr (8, [.ref (f 1), .ref (f 2), .ref (f 3), .ref (f 4), .int 0, .int 0])), ((f 1), .inl (cs 0, 4, .inl (upd (upd (upd (upd (fun _ => 0) (0 : Int32).toNatClampNeg (20 : Int32)) (1 : Int32).toNatClampNeg (2 : Int32)) (2 : Int32).toNatClampNeg (1 : Int32)) (3 : Int32).toNatClampNeg (10 : Int32)))), ((f 2), .inl (cs 0, 40, .inl (fun _ => 0))), ((f 3), .inl (cs 0, 40, .inl (fun _ => 0))), ((f 4), .inl (cs 0, 40, .inl (fun _ => 0)))]
set_option maxHeartbeats 8000000 in
set_option maxRecDepth 100000 in
theorem c_X8_init (l : Launch) (D : va_G) (h : Nat) (cs : Nat → ClassId) : mKv l yX8_init wsX8_init ({ frames := 1, cells := 4, slots := 124, locals := 12 } : Room) 4 124 D (mT cs) (bW [(h, .inr (8, [.null, .null, .null, .null, .int 0, .int 0]))] (fun f => I8 h f cs)) [.ref h] none (fun o => ∃ z, o = some z) := by
  refine m_enterK (cc := cX8_init) (maxL := 1) (by decide) rfl (Nat.le_of_ble_eq_true rfl) ?_
  intro p e s m args below meth c A ls S hr hlocks hname hl hI hO
  have S : CallFix p m c cX8_init 1 s args wsX8_init RX8 := S
  have hin8 : ∀ w ∈ wsX80, w ∈ wsX8_init := fun _ h => List.mem_cons_of_mem _ (List.mem_append_right _ h)
  have hl : lv_has ls 1 [(0, .ref h)] := hl
  obtain ⟨H, hH⟩ : ∃ z : Heap, z = s.heap := ⟨_, rfl⟩
  obtain ⟨locs, hL⟩ : ∃ z : List Loc, z = [] := ⟨_, rfl⟩
  generalize hZ : MQ below (va_Qv (fun o => ∃ z, o = some z) (mPos D (mT cs) A (bW [(h, .inr (8, [.null, .null, .null, .null, .int 0, .int 0]))] (fun f => I8 h f cs))) A) args s 4 124 A = Z
  rw [show W p l e ({ frames := 1, cells := 4, slots := 124, locals := 12 } : Room) s m args below meth c s.heap [] 0 0 Z (F0 m 0 ls []) = W p l e ({ frames := 1, cells := 4, slots := 124, locals := 12 } : Room) s m args below meth c H locs 0 0 Z (F0 m 0 ls []) by rw [hH, hL]]
  replace hI : mI D (mT cs) A s.heap s [(h, .inr (8, [.null, .null, .null, .null, .int 0, .int 0]))] H locs := by rw [hH, hL]; exact hI
  refine lv_aload_n S.1 S.2.1 dX8_init_0 rfl (lv_at hl 0 rfl) ?_
  refine m_obj S hl.1 (List.mem_of_getElem? (i := 1) rfl) (List.mem_of_getElem? (i := 2) rfl) (List.mem_of_getElem? (i := 3) rfl) dX8_init_1 (Nat.le_of_ble_eq_true rfl) (Nat.le_of_ble_eq_true rfl) ?_
  refine lv_aload_n S.1 S.2.1 dX8_init_4 rfl (lv_at hl 0 rfl) ?_
  refine lv_iconst (v := 4) S.1 S.2.1 dX8_init_5 (by decide) ?_
  refine m_newi S (List.mem_of_getElem? (i := 4) rfl) hI (N := 4) (by decide) (by decide) (Nat.le_of_ble_eq_true rfl) (Nat.le_of_ble_eq_true rfl) (Nat.le_of_ble_eq_true rfl) dX8_init_6 (fun q6_5 H hI => ?_)
  replace hI : mI D (mT cs) A s.heap s [(h, .inr (8, [.null, .null, .null, .null, .int 0, .int 0])), (q6_5, .inl (cs 0, 4, .inl (fun _ => 0)))] H locs := hI
  refine W.widen (k := 1) (n := 4) (Nat.le_of_ble_eq_true rfl) (Nat.le_of_ble_eq_true rfl) ?_
  refine lv_dup S.1 S.2.1 dX8_init_8 rfl ?_
  refine lv_iconst (v := 0) S.1 S.2.1 dX8_init_9 (by decide) ?_
  refine lv_bipush (v := 20) S.1 S.2.1 dX8_init_10 (by decide) ?_
  refine m_iast S hI 1 0 rfl rfl (by unfold vp_in; decide) rfl dX8_init_12 (fun H locs hI => ?_)
  replace hI : mI D (mT cs) A s.heap s [(h, .inr (8, [.null, .null, .null, .null, .int 0, .int 0])), (q6_5, .inl (cs 0, 4, .inl (upd (fun _ => 0) (0 : Int32).toNatClampNeg (20 : Int32))))] H locs := hI
  refine lv_dup S.1 S.2.1 dX8_init_13 rfl ?_
  refine lv_iconst (v := 1) S.1 S.2.1 dX8_init_14 (by decide) ?_
  refine lv_iconst (v := 2) S.1 S.2.1 dX8_init_15 (by decide) ?_
  refine m_iast S hI 1 0 rfl rfl (by unfold vp_in; decide) rfl dX8_init_16 (fun H locs hI => ?_)
  replace hI : mI D (mT cs) A s.heap s [(h, .inr (8, [.null, .null, .null, .null, .int 0, .int 0])), (q6_5, .inl (cs 0, 4, .inl (upd (upd (fun _ => 0) (0 : Int32).toNatClampNeg (20 : Int32)) (1 : Int32).toNatClampNeg (2 : Int32))))] H locs := hI
  refine lv_dup S.1 S.2.1 dX8_init_17 rfl ?_
  refine lv_iconst (v := 2) S.1 S.2.1 dX8_init_18 (by decide) ?_
  refine lv_iconst (v := 1) S.1 S.2.1 dX8_init_19 (by decide) ?_
  refine m_iast S hI 1 0 rfl rfl (by unfold vp_in; decide) rfl dX8_init_20 (fun H locs hI => ?_)
  replace hI : mI D (mT cs) A s.heap s [(h, .inr (8, [.null, .null, .null, .null, .int 0, .int 0])), (q6_5, .inl (cs 0, 4, .inl (upd (upd (upd (fun _ => 0) (0 : Int32).toNatClampNeg (20 : Int32)) (1 : Int32).toNatClampNeg (2 : Int32)) (2 : Int32).toNatClampNeg (1 : Int32))))] H locs := hI
  refine lv_dup S.1 S.2.1 dX8_init_21 rfl ?_
  refine lv_iconst (v := 3) S.1 S.2.1 dX8_init_22 (by decide) ?_
  refine lv_bipush (v := 10) S.1 S.2.1 dX8_init_23 (by decide) ?_
  refine m_iast S hI 1 0 rfl rfl (by unfold vp_in; decide) rfl dX8_init_25 (fun H locs hI => ?_)
  replace hI : mI D (mT cs) A s.heap s [(h, .inr (8, [.null, .null, .null, .null, .int 0, .int 0])), (q6_5, .inl (cs 0, 4, .inl (upd (upd (upd (upd (fun _ => 0) (0 : Int32).toNatClampNeg (20 : Int32)) (1 : Int32).toNatClampNeg (2 : Int32)) (2 : Int32).toNatClampNeg (1 : Int32)) (3 : Int32).toNatClampNeg (10 : Int32))))] H locs := hI
  refine m_putF S hin8 tyX8_ok nmX8 hI 0 rfl rfl 0 (Nat.le_of_ble_eq_true rfl) (List.mem_of_getElem? (i := 5) rfl) rfl rfl hname rfl rfl rfl (Nat.le_of_ble_eq_true rfl) rfl dX8_init_26 (fun H locs hI => ?_)
  replace hI : mI D (mT cs) A s.heap s [(h, .inr (8, [.ref q6_5, .null, .null, .null, .int 0, .int 0])), (q6_5, .inl (cs 0, 4, .inl (upd (upd (upd (upd (fun _ => 0) (0 : Int32).toNatClampNeg (20 : Int32)) (1 : Int32).toNatClampNeg (2 : Int32)) (2 : Int32).toNatClampNeg (1 : Int32)) (3 : Int32).toNatClampNeg (10 : Int32))))] H locs := hI
  refine lv_aload_n S.1 S.2.1 dX8_init_29 rfl (lv_at hl 0 rfl) ?_
  refine lv_bipush (v := 40) S.1 S.2.1 dX8_init_30 (by decide) ?_
  refine m_newi S (List.mem_of_getElem? (i := 4) rfl) hI (N := 40) (by decide) (by decide) (Nat.le_of_ble_eq_true rfl) (Nat.le_of_ble_eq_true rfl) (Nat.le_of_ble_eq_true rfl) dX8_init_32 (fun q32_25 H hI => ?_)
  replace hI : mI D (mT cs) A s.heap s [(h, .inr (8, [.ref q6_5, .null, .null, .null, .int 0, .int 0])), (q6_5, .inl (cs 0, 4, .inl (upd (upd (upd (upd (fun _ => 0) (0 : Int32).toNatClampNeg (20 : Int32)) (1 : Int32).toNatClampNeg (2 : Int32)) (2 : Int32).toNatClampNeg (1 : Int32)) (3 : Int32).toNatClampNeg (10 : Int32)))), (q32_25, .inl (cs 0, 40, .inl (fun _ => 0)))] H locs := hI
  refine W.widen (k := 2) (n := 44) (Nat.le_of_ble_eq_true rfl) (Nat.le_of_ble_eq_true rfl) ?_
  refine m_putF S hin8 tyX8_ok nmX8 hI 0 rfl rfl 1 (Nat.le_of_ble_eq_true rfl) (List.mem_of_getElem? (i := 6) rfl) rfl rfl hname rfl rfl rfl (Nat.le_of_ble_eq_true rfl) rfl dX8_init_34 (fun H locs hI => ?_)
  replace hI : mI D (mT cs) A s.heap s [(h, .inr (8, [.ref q6_5, .ref q32_25, .null, .null, .int 0, .int 0])), (q6_5, .inl (cs 0, 4, .inl (upd (upd (upd (upd (fun _ => 0) (0 : Int32).toNatClampNeg (20 : Int32)) (1 : Int32).toNatClampNeg (2 : Int32)) (2 : Int32).toNatClampNeg (1 : Int32)) (3 : Int32).toNatClampNeg (10 : Int32)))), (q32_25, .inl (cs 0, 40, .inl (fun _ => 0)))] H locs := hI
  refine lv_aload_n S.1 S.2.1 dX8_init_37 rfl (lv_at hl 0 rfl) ?_
  refine lv_bipush (v := 40) S.1 S.2.1 dX8_init_38 (by decide) ?_
  refine m_newi S (List.mem_of_getElem? (i := 4) rfl) hI (N := 40) (by decide) (by decide) (Nat.le_of_ble_eq_true rfl) (Nat.le_of_ble_eq_true rfl) (Nat.le_of_ble_eq_true rfl) dX8_init_40 (fun q40_29 H hI => ?_)
  replace hI : mI D (mT cs) A s.heap s [(h, .inr (8, [.ref q6_5, .ref q32_25, .null, .null, .int 0, .int 0])), (q6_5, .inl (cs 0, 4, .inl (upd (upd (upd (upd (fun _ => 0) (0 : Int32).toNatClampNeg (20 : Int32)) (1 : Int32).toNatClampNeg (2 : Int32)) (2 : Int32).toNatClampNeg (1 : Int32)) (3 : Int32).toNatClampNeg (10 : Int32)))), (q32_25, .inl (cs 0, 40, .inl (fun _ => 0))), (q40_29, .inl (cs 0, 40, .inl (fun _ => 0)))] H locs := hI
  refine W.widen (k := 3) (n := 84) (Nat.le_of_ble_eq_true rfl) (Nat.le_of_ble_eq_true rfl) ?_
  refine m_putF S hin8 tyX8_ok nmX8 hI 0 rfl rfl 2 (Nat.le_of_ble_eq_true rfl) (List.mem_of_getElem? (i := 7) rfl) rfl rfl hname rfl rfl rfl (Nat.le_of_ble_eq_true rfl) rfl dX8_init_42 (fun H locs hI => ?_)
  replace hI : mI D (mT cs) A s.heap s [(h, .inr (8, [.ref q6_5, .ref q32_25, .ref q40_29, .null, .int 0, .int 0])), (q6_5, .inl (cs 0, 4, .inl (upd (upd (upd (upd (fun _ => 0) (0 : Int32).toNatClampNeg (20 : Int32)) (1 : Int32).toNatClampNeg (2 : Int32)) (2 : Int32).toNatClampNeg (1 : Int32)) (3 : Int32).toNatClampNeg (10 : Int32)))), (q32_25, .inl (cs 0, 40, .inl (fun _ => 0))), (q40_29, .inl (cs 0, 40, .inl (fun _ => 0)))] H locs := hI
  refine lv_aload_n S.1 S.2.1 dX8_init_45 rfl (lv_at hl 0 rfl) ?_
  refine lv_bipush (v := 40) S.1 S.2.1 dX8_init_46 (by decide) ?_
  refine m_newi S (List.mem_of_getElem? (i := 4) rfl) hI (N := 40) (by decide) (by decide) (Nat.le_of_ble_eq_true rfl) (Nat.le_of_ble_eq_true rfl) (Nat.le_of_ble_eq_true rfl) dX8_init_48 (fun q48_33 H hI => ?_)
  replace hI : mI D (mT cs) A s.heap s [(h, .inr (8, [.ref q6_5, .ref q32_25, .ref q40_29, .null, .int 0, .int 0])), (q6_5, .inl (cs 0, 4, .inl (upd (upd (upd (upd (fun _ => 0) (0 : Int32).toNatClampNeg (20 : Int32)) (1 : Int32).toNatClampNeg (2 : Int32)) (2 : Int32).toNatClampNeg (1 : Int32)) (3 : Int32).toNatClampNeg (10 : Int32)))), (q32_25, .inl (cs 0, 40, .inl (fun _ => 0))), (q40_29, .inl (cs 0, 40, .inl (fun _ => 0))), (q48_33, .inl (cs 0, 40, .inl (fun _ => 0)))] H locs := hI
  refine W.widen (k := 4) (n := 124) (Nat.le_of_ble_eq_true rfl) (Nat.le_of_ble_eq_true rfl) ?_
  refine m_putF S hin8 tyX8_ok nmX8 hI 0 rfl rfl 3 (Nat.le_of_ble_eq_true rfl) (List.mem_of_getElem? (i := 8) rfl) rfl rfl hname rfl rfl rfl (Nat.le_of_ble_eq_true rfl) rfl dX8_init_50 (fun H locs hI => ?_)
  replace hI : mI D (mT cs) A s.heap s [(h, .inr (8, [.ref q6_5, .ref q32_25, .ref q40_29, .ref q48_33, .int 0, .int 0])), (q6_5, .inl (cs 0, 4, .inl (upd (upd (upd (upd (fun _ => 0) (0 : Int32).toNatClampNeg (20 : Int32)) (1 : Int32).toNatClampNeg (2 : Int32)) (2 : Int32).toNatClampNeg (1 : Int32)) (3 : Int32).toNatClampNeg (10 : Int32)))), (q32_25, .inl (cs 0, 40, .inl (fun _ => 0))), (q40_29, .inl (cs 0, 40, .inl (fun _ => 0))), (q48_33, .inl (cs 0, 40, .inl (fun _ => 0)))] H locs := hI
  subst hZ
  exact m_vret (w := (bW [(h, .inr (8, [.null, .null, .null, .null, .int 0, .int 0]))] (fun f => I8 h f cs))) (Qp := fun o => ∃ z, o = some z) (u := some (fun i => ([h, q6_5, q32_25, q40_29, q48_33] : List Nat).getD i 0)) S hr hlocks hI ⟨_, rfl⟩ dX8_init_53

def I3 (h : Nat) (f : Nat → Nat) (cs : Nat → ClassId) : va_W := [(h, .inr (3, [.ref (f 1), .ref (f 2), .ref (f 3), .ref (f 4), .int 0, .int 0, .int 0, .int 0, .int 0, .int 0])), ((f 1), .inl (cs 0, 120, .inl (fun _ => 0))), ((f 2), .inl (cs 0, 124, .inl (fun _ => 0))), ((f 3), .inl (cs 0, 124, .inl (fun _ => 0))), ((f 4), .inl (cs 0, 124, .inl (fun _ => 0)))]
set_option maxHeartbeats 8000000 in
set_option maxRecDepth 100000 in
theorem c_X3_init (l : Launch) (D : va_G) (h : Nat) (cs : Nat → ClassId) : mKv l yX3_init wsX3_init ({ frames := 1, cells := 4, slots := 492, locals := 12 } : Room) 4 492 D (mT cs) (bW [(h, .inr (3, [.null, .null, .null, .null, .int 0, .int 0, .int 0, .int 0, .int 0, .int 0]))] (fun f => I3 h f cs)) [.ref h] none (fun o => ∃ z, o = some z) := by
  refine m_enterK (cc := cX3_init) (maxL := 1) (by decide) rfl (Nat.le_of_ble_eq_true rfl) ?_
  intro p e s m args below meth c A ls S hr hlocks hname hl hI hO
  have S : CallFix p m c cX3_init 1 s args wsX3_init RX3 := S
  have hin3 : ∀ w ∈ wsX30, w ∈ wsX3_init := fun _ h => List.mem_cons_of_mem _ (List.mem_append_right _ h)
  have hl : lv_has ls 1 [(0, .ref h)] := hl
  obtain ⟨H, hH⟩ : ∃ z : Heap, z = s.heap := ⟨_, rfl⟩
  obtain ⟨locs, hL⟩ : ∃ z : List Loc, z = [] := ⟨_, rfl⟩
  generalize hZ : MQ below (va_Qv (fun o => ∃ z, o = some z) (mPos D (mT cs) A (bW [(h, .inr (3, [.null, .null, .null, .null, .int 0, .int 0, .int 0, .int 0, .int 0, .int 0]))] (fun f => I3 h f cs))) A) args s 4 492 A = Z
  rw [show W p l e ({ frames := 1, cells := 4, slots := 492, locals := 12 } : Room) s m args below meth c s.heap [] 0 0 Z (F0 m 0 ls []) = W p l e ({ frames := 1, cells := 4, slots := 492, locals := 12 } : Room) s m args below meth c H locs 0 0 Z (F0 m 0 ls []) by rw [hH, hL]]
  replace hI : mI D (mT cs) A s.heap s [(h, .inr (3, [.null, .null, .null, .null, .int 0, .int 0, .int 0, .int 0, .int 0, .int 0]))] H locs := by rw [hH, hL]; exact hI
  refine lv_aload_n S.1 S.2.1 dX3_init_0 rfl (lv_at hl 0 rfl) ?_
  refine m_obj S hl.1 (List.mem_of_getElem? (i := 1) rfl) (List.mem_of_getElem? (i := 2) rfl) (List.mem_of_getElem? (i := 3) rfl) dX3_init_1 (Nat.le_of_ble_eq_true rfl) (Nat.le_of_ble_eq_true rfl) ?_
  refine lv_aload_n S.1 S.2.1 dX3_init_4 rfl (lv_at hl 0 rfl) ?_
  refine lv_bipush (v := 120) S.1 S.2.1 dX3_init_5 (by decide) ?_
  refine m_newi S (List.mem_of_getElem? (i := 4) rfl) hI (N := 120) (by decide) (by decide) (Nat.le_of_ble_eq_true rfl) (Nat.le_of_ble_eq_true rfl) (Nat.le_of_ble_eq_true rfl) dX3_init_7 (fun q7_5 H hI => ?_)
  replace hI : mI D (mT cs) A s.heap s [(h, .inr (3, [.null, .null, .null, .null, .int 0, .int 0, .int 0, .int 0, .int 0, .int 0])), (q7_5, .inl (cs 0, 120, .inl (fun _ => 0)))] H locs := hI
  refine W.widen (k := 1) (n := 120) (Nat.le_of_ble_eq_true rfl) (Nat.le_of_ble_eq_true rfl) ?_
  refine m_putF S hin3 tyX3_ok nmX3 hI 0 rfl rfl 0 (Nat.le_of_ble_eq_true rfl) (List.mem_of_getElem? (i := 5) rfl) rfl rfl hname rfl rfl rfl (Nat.le_of_ble_eq_true rfl) rfl dX3_init_9 (fun H locs hI => ?_)
  replace hI : mI D (mT cs) A s.heap s [(h, .inr (3, [.ref q7_5, .null, .null, .null, .int 0, .int 0, .int 0, .int 0, .int 0, .int 0])), (q7_5, .inl (cs 0, 120, .inl (fun _ => 0)))] H locs := hI
  refine lv_aload_n S.1 S.2.1 dX3_init_12 rfl (lv_at hl 0 rfl) ?_
  refine lv_bipush (v := 124) S.1 S.2.1 dX3_init_13 (by decide) ?_
  refine m_newi S (List.mem_of_getElem? (i := 4) rfl) hI (N := 124) (by decide) (by decide) (Nat.le_of_ble_eq_true rfl) (Nat.le_of_ble_eq_true rfl) (Nat.le_of_ble_eq_true rfl) dX3_init_15 (fun q15_9 H hI => ?_)
  replace hI : mI D (mT cs) A s.heap s [(h, .inr (3, [.ref q7_5, .null, .null, .null, .int 0, .int 0, .int 0, .int 0, .int 0, .int 0])), (q7_5, .inl (cs 0, 120, .inl (fun _ => 0))), (q15_9, .inl (cs 0, 124, .inl (fun _ => 0)))] H locs := hI
  refine W.widen (k := 2) (n := 244) (Nat.le_of_ble_eq_true rfl) (Nat.le_of_ble_eq_true rfl) ?_
  refine m_putF S hin3 tyX3_ok nmX3 hI 0 rfl rfl 1 (Nat.le_of_ble_eq_true rfl) (List.mem_of_getElem? (i := 6) rfl) rfl rfl hname rfl rfl rfl (Nat.le_of_ble_eq_true rfl) rfl dX3_init_17 (fun H locs hI => ?_)
  replace hI : mI D (mT cs) A s.heap s [(h, .inr (3, [.ref q7_5, .ref q15_9, .null, .null, .int 0, .int 0, .int 0, .int 0, .int 0, .int 0])), (q7_5, .inl (cs 0, 120, .inl (fun _ => 0))), (q15_9, .inl (cs 0, 124, .inl (fun _ => 0)))] H locs := hI
  refine lv_aload_n S.1 S.2.1 dX3_init_20 rfl (lv_at hl 0 rfl) ?_
  refine lv_bipush (v := 124) S.1 S.2.1 dX3_init_21 (by decide) ?_
  refine m_newi S (List.mem_of_getElem? (i := 4) rfl) hI (N := 124) (by decide) (by decide) (Nat.le_of_ble_eq_true rfl) (Nat.le_of_ble_eq_true rfl) (Nat.le_of_ble_eq_true rfl) dX3_init_23 (fun q23_13 H hI => ?_)
  replace hI : mI D (mT cs) A s.heap s [(h, .inr (3, [.ref q7_5, .ref q15_9, .null, .null, .int 0, .int 0, .int 0, .int 0, .int 0, .int 0])), (q7_5, .inl (cs 0, 120, .inl (fun _ => 0))), (q15_9, .inl (cs 0, 124, .inl (fun _ => 0))), (q23_13, .inl (cs 0, 124, .inl (fun _ => 0)))] H locs := hI
  refine W.widen (k := 3) (n := 368) (Nat.le_of_ble_eq_true rfl) (Nat.le_of_ble_eq_true rfl) ?_
  refine m_put S hin3 tyX3_ok nmX3 hI 0 rfl rfl 2 (Nat.le_of_ble_eq_true rfl) (List.mem_of_getElem? (i := 7) rfl) rfl rfl rfl rfl (Nat.le_of_ble_eq_true rfl) rfl dX3_init_25 (fun H locs hI => ?_)
  replace hI : mI D (mT cs) A s.heap s [(h, .inr (3, [.ref q7_5, .ref q15_9, .ref q23_13, .null, .int 0, .int 0, .int 0, .int 0, .int 0, .int 0])), (q7_5, .inl (cs 0, 120, .inl (fun _ => 0))), (q15_9, .inl (cs 0, 124, .inl (fun _ => 0))), (q23_13, .inl (cs 0, 124, .inl (fun _ => 0)))] H locs := hI
  refine lv_aload_n S.1 S.2.1 dX3_init_28 rfl (lv_at hl 0 rfl) ?_
  refine lv_bipush (v := 124) S.1 S.2.1 dX3_init_29 (by decide) ?_
  refine m_newi S (List.mem_of_getElem? (i := 4) rfl) hI (N := 124) (by decide) (by decide) (Nat.le_of_ble_eq_true rfl) (Nat.le_of_ble_eq_true rfl) (Nat.le_of_ble_eq_true rfl) dX3_init_31 (fun q31_17 H hI => ?_)
  replace hI : mI D (mT cs) A s.heap s [(h, .inr (3, [.ref q7_5, .ref q15_9, .ref q23_13, .null, .int 0, .int 0, .int 0, .int 0, .int 0, .int 0])), (q7_5, .inl (cs 0, 120, .inl (fun _ => 0))), (q15_9, .inl (cs 0, 124, .inl (fun _ => 0))), (q23_13, .inl (cs 0, 124, .inl (fun _ => 0))), (q31_17, .inl (cs 0, 124, .inl (fun _ => 0)))] H locs := hI
  refine W.widen (k := 4) (n := 492) (Nat.le_of_ble_eq_true rfl) (Nat.le_of_ble_eq_true rfl) ?_
  refine m_put S hin3 tyX3_ok nmX3 hI 0 rfl rfl 3 (Nat.le_of_ble_eq_true rfl) (List.mem_of_getElem? (i := 8) rfl) rfl rfl rfl rfl (Nat.le_of_ble_eq_true rfl) rfl dX3_init_33 (fun H locs hI => ?_)
  replace hI : mI D (mT cs) A s.heap s [(h, .inr (3, [.ref q7_5, .ref q15_9, .ref q23_13, .ref q31_17, .int 0, .int 0, .int 0, .int 0, .int 0, .int 0])), (q7_5, .inl (cs 0, 120, .inl (fun _ => 0))), (q15_9, .inl (cs 0, 124, .inl (fun _ => 0))), (q23_13, .inl (cs 0, 124, .inl (fun _ => 0))), (q31_17, .inl (cs 0, 124, .inl (fun _ => 0)))] H locs := hI
  subst hZ
  exact m_vret (w := (bW [(h, .inr (3, [.null, .null, .null, .null, .int 0, .int 0, .int 0, .int 0, .int 0, .int 0]))] (fun f => I3 h f cs))) (Qp := fun o => ∃ z, o = some z) (u := some (fun i => ([h, q7_5, q15_9, q23_13, q31_17] : List Nat).getD i 0)) S hr hlocks hI ⟨_, rfl⟩ dX3_init_36

def I2 (h : Nat) (f : Nat → Nat) (cs : Nat → ClassId) (a1 : Int32) : va_W := [(h, .inr (2, [.int a1, .ref (f 1), .ref (f 2), .int ((-1) : Int32), .int ((-1) : Int32)])), ((f 1), .inl (cs 4, 7, .inr (.inr (.inr (.inr (mrow (fun i => (f 1) + 1 + i))))))), ((f 1) + 1 + 0, .inl (cs 0, 62, .inl (fun _ => 0))), ((f 1) + 1 + 1, .inl (cs 0, 62, .inl (fun _ => 0))), ((f 1) + 1 + 2, .inl (cs 0, 62, .inl (fun _ => 0))), ((f 1) + 1 + 3, .inl (cs 0, 62, .inl (fun _ => 0))), ((f 1) + 1 + 4, .inl (cs 0, 62, .inl (fun _ => 0))), ((f 1) + 1 + 5, .inl (cs 0, 62, .inl (fun _ => 0))), ((f 1) + 1 + 6, .inl (cs 0, 62, .inl (fun _ => 0))), ((f 2), .inl (cs 4, 7, .inr (.inr (.inr (.inr (mrow (fun i => (f 2) + 1 + i))))))), ((f 2) + 1 + 0, .inl (cs 0, 62, .inl (fun _ => 0))), ((f 2) + 1 + 1, .inl (cs 0, 62, .inl (fun _ => 0))), ((f 2) + 1 + 2, .inl (cs 0, 62, .inl (fun _ => 0))), ((f 2) + 1 + 3, .inl (cs 0, 62, .inl (fun _ => 0))), ((f 2) + 1 + 4, .inl (cs 0, 62, .inl (fun _ => 0))), ((f 2) + 1 + 5, .inl (cs 0, 62, .inl (fun _ => 0))), ((f 2) + 1 + 6, .inl (cs 0, 62, .inl (fun _ => 0)))]
set_option maxHeartbeats 8000000 in
set_option maxRecDepth 100000 in
theorem c_X2_init (l : Launch) (D : va_G) (h : Nat) (cs : Nat → ClassId) (a1 : Int32) (ha : a1 = 0 ∨ a1 = 1) : mKv l yX2_init wsX2_init ({ frames := 1, cells := 16, slots := 882, locals := 12 } : Room) 16 882 D (mT cs) (bW [(h, .inr (2, [.int 0, .null, .null, .int 0, .int 0]))] (fun f => I2 h f cs a1)) [.ref h, .int a1] none (fun o => ∃ z, o = some z) := by
  refine m_enterK (cc := cX2_init) (maxL := 2) (by decide) rfl (Nat.le_of_ble_eq_true rfl) ?_
  intro p e s m args below meth c A ls S hr hlocks hname hl hI hO
  have S : CallFix p m c cX2_init 2 s args wsX2_init RX2 := S
  have hin2 : ∀ w ∈ wsX20, w ∈ wsX2_init := fun _ h => List.mem_cons_of_mem _ (List.mem_append_right _ h)
  have hl : lv_has ls 2 [(0, .ref h), (1, .int a1)] := hl
  obtain ⟨H, hH⟩ : ∃ z : Heap, z = s.heap := ⟨_, rfl⟩
  obtain ⟨locs, hL⟩ : ∃ z : List Loc, z = [] := ⟨_, rfl⟩
  generalize hZ : MQ below (va_Qv (fun o => ∃ z, o = some z) (mPos D (mT cs) A (bW [(h, .inr (2, [.int 0, .null, .null, .int 0, .int 0]))] (fun f => I2 h f cs a1))) A) args s 16 882 A = Z
  rw [show W p l e ({ frames := 1, cells := 16, slots := 882, locals := 12 } : Room) s m args below meth c s.heap [] 0 0 Z (F0 m 0 ls []) = W p l e ({ frames := 1, cells := 16, slots := 882, locals := 12 } : Room) s m args below meth c H locs 0 0 Z (F0 m 0 ls []) by rw [hH, hL]]
  replace hI : mI D (mT cs) A s.heap s [(h, .inr (2, [.int 0, .null, .null, .int 0, .int 0]))] H locs := by rw [hH, hL]; exact hI
  refine lv_aload_n S.1 S.2.1 dX2_init_0 rfl (lv_at hl 0 rfl) ?_
  refine m_obj S hl.1 (List.mem_of_getElem? (i := 1) rfl) (List.mem_of_getElem? (i := 2) rfl) (List.mem_of_getElem? (i := 3) rfl) dX2_init_1 (Nat.le_of_ble_eq_true rfl) (Nat.le_of_ble_eq_true rfl) ?_
  refine lv_aload_n S.1 S.2.1 dX2_init_4 rfl (lv_at hl 0 rfl) ?_
  refine lv_bipush (v := 7) S.1 S.2.1 dX2_init_5 (by decide) ?_
  refine lv_bipush (v := 62) S.1 S.2.1 dX2_init_7 (by decide) ?_
  refine m_mna (K' := 62) S hO hI (List.mem_of_getElem? (i := 4) rfl) (List.mem_of_getElem? (i := 5) rfl) (by decide) (by decide) (Nat.le_of_ble_eq_true rfl) (Nat.le_of_ble_eq_true rfl) (Nat.le_of_ble_eq_true rfl) dX2_init_9 (fun q9_6 H hI => ?_)
  replace hI : mI D (mT cs) A s.heap s [(h, .inr (2, [.int 0, .null, .null, .int 0, .int 0])), (q9_6, .inl (cs 4, 7, .inr (.inr (.inr (.inr (mrow (fun i => q9_6 + 1 + i))))))), (q9_6 + 1 + 0, .inl (cs 0, 62, .inl (fun _ => 0))), (q9_6 + 1 + 1, .inl (cs 0, 62, .inl (fun _ => 0))), (q9_6 + 1 + 2, .inl (cs 0, 62, .inl (fun _ => 0))), (q9_6 + 1 + 3, .inl (cs 0, 62, .inl (fun _ => 0))), (q9_6 + 1 + 4, .inl (cs 0, 62, .inl (fun _ => 0))), (q9_6 + 1 + 5, .inl (cs 0, 62, .inl (fun _ => 0))), (q9_6 + 1 + 6, .inl (cs 0, 62, .inl (fun _ => 0)))] H locs := hI
  refine W.widen (k := 8) (n := 441) (Nat.le_of_ble_eq_true rfl) (Nat.le_of_ble_eq_true rfl) ?_
  refine m_putF S hin2 tyX2_ok nmX2 hI 0 rfl rfl 1 (Nat.le_of_ble_eq_true rfl) (List.mem_of_getElem? (i := 6) rfl) rfl rfl hname rfl rfl rfl (Nat.le_of_ble_eq_true rfl) rfl dX2_init_13 (fun H locs hI => ?_)
  replace hI : mI D (mT cs) A s.heap s [(h, .inr (2, [.int 0, .ref q9_6, .null, .int 0, .int 0])), (q9_6, .inl (cs 4, 7, .inr (.inr (.inr (.inr (mrow (fun i => q9_6 + 1 + i))))))), (q9_6 + 1 + 0, .inl (cs 0, 62, .inl (fun _ => 0))), (q9_6 + 1 + 1, .inl (cs 0, 62, .inl (fun _ => 0))), (q9_6 + 1 + 2, .inl (cs 0, 62, .inl (fun _ => 0))), (q9_6 + 1 + 3, .inl (cs 0, 62, .inl (fun _ => 0))), (q9_6 + 1 + 4, .inl (cs 0, 62, .inl (fun _ => 0))), (q9_6 + 1 + 5, .inl (cs 0, 62, .inl (fun _ => 0))), (q9_6 + 1 + 6, .inl (cs 0, 62, .inl (fun _ => 0)))] H locs := hI
  refine lv_aload_n S.1 S.2.1 dX2_init_16 rfl (lv_at hl 0 rfl) ?_
  refine lv_bipush (v := 7) S.1 S.2.1 dX2_init_17 (by decide) ?_
  refine lv_bipush (v := 62) S.1 S.2.1 dX2_init_19 (by decide) ?_
  refine m_mna (K' := 62) S hO hI (List.mem_of_getElem? (i := 4) rfl) (List.mem_of_getElem? (i := 5) rfl) (by decide) (by decide) (Nat.le_of_ble_eq_true rfl) (Nat.le_of_ble_eq_true rfl) (Nat.le_of_ble_eq_true rfl) dX2_init_21 (fun q21_11 H hI => ?_)
  replace hI : mI D (mT cs) A s.heap s [(h, .inr (2, [.int 0, .ref q9_6, .null, .int 0, .int 0])), (q9_6, .inl (cs 4, 7, .inr (.inr (.inr (.inr (mrow (fun i => q9_6 + 1 + i))))))), (q9_6 + 1 + 0, .inl (cs 0, 62, .inl (fun _ => 0))), (q9_6 + 1 + 1, .inl (cs 0, 62, .inl (fun _ => 0))), (q9_6 + 1 + 2, .inl (cs 0, 62, .inl (fun _ => 0))), (q9_6 + 1 + 3, .inl (cs 0, 62, .inl (fun _ => 0))), (q9_6 + 1 + 4, .inl (cs 0, 62, .inl (fun _ => 0))), (q9_6 + 1 + 5, .inl (cs 0, 62, .inl (fun _ => 0))), (q9_6 + 1 + 6, .inl (cs 0, 62, .inl (fun _ => 0))), (q21_11, .inl (cs 4, 7, .inr (.inr (.inr (.inr (mrow (fun i => q21_11 + 1 + i))))))), (q21_11 + 1 + 0, .inl (cs 0, 62, .inl (fun _ => 0))), (q21_11 + 1 + 1, .inl (cs 0, 62, .inl (fun _ => 0))), (q21_11 + 1 + 2, .inl (cs 0, 62, .inl (fun _ => 0))), (q21_11 + 1 + 3, .inl (cs 0, 62, .inl (fun _ => 0))), (q21_11 + 1 + 4, .inl (cs 0, 62, .inl (fun _ => 0))), (q21_11 + 1 + 5, .inl (cs 0, 62, .inl (fun _ => 0))), (q21_11 + 1 + 6, .inl (cs 0, 62, .inl (fun _ => 0)))] H locs := hI
  refine W.widen (k := 16) (n := 882) (Nat.le_of_ble_eq_true rfl) (Nat.le_of_ble_eq_true rfl) ?_
  refine m_putF S hin2 tyX2_ok nmX2 hI 0 rfl rfl 2 (Nat.le_of_ble_eq_true rfl) (List.mem_of_getElem? (i := 7) rfl) rfl rfl hname rfl rfl rfl (Nat.le_of_ble_eq_true rfl) rfl dX2_init_25 (fun H locs hI => ?_)
  replace hI : mI D (mT cs) A s.heap s [(h, .inr (2, [.int 0, .ref q9_6, .ref q21_11, .int 0, .int 0])), (q9_6, .inl (cs 4, 7, .inr (.inr (.inr (.inr (mrow (fun i => q9_6 + 1 + i))))))), (q9_6 + 1 + 0, .inl (cs 0, 62, .inl (fun _ => 0))), (q9_6 + 1 + 1, .inl (cs 0, 62, .inl (fun _ => 0))), (q9_6 + 1 + 2, .inl (cs 0, 62, .inl (fun _ => 0))), (q9_6 + 1 + 3, .inl (cs 0, 62, .inl (fun _ => 0))), (q9_6 + 1 + 4, .inl (cs 0, 62, .inl (fun _ => 0))), (q9_6 + 1 + 5, .inl (cs 0, 62, .inl (fun _ => 0))), (q9_6 + 1 + 6, .inl (cs 0, 62, .inl (fun _ => 0))), (q21_11, .inl (cs 4, 7, .inr (.inr (.inr (.inr (mrow (fun i => q21_11 + 1 + i))))))), (q21_11 + 1 + 0, .inl (cs 0, 62, .inl (fun _ => 0))), (q21_11 + 1 + 1, .inl (cs 0, 62, .inl (fun _ => 0))), (q21_11 + 1 + 2, .inl (cs 0, 62, .inl (fun _ => 0))), (q21_11 + 1 + 3, .inl (cs 0, 62, .inl (fun _ => 0))), (q21_11 + 1 + 4, .inl (cs 0, 62, .inl (fun _ => 0))), (q21_11 + 1 + 5, .inl (cs 0, 62, .inl (fun _ => 0))), (q21_11 + 1 + 6, .inl (cs 0, 62, .inl (fun _ => 0)))] H locs := hI
  refine lv_aload_n S.1 S.2.1 dX2_init_28 rfl (lv_at hl 0 rfl) ?_
  refine lv_iconst (v := (-1)) S.1 S.2.1 dX2_init_29 (by decide) ?_
  refine m_put S hin2 tyX2_ok nmX2 hI 0 rfl rfl 3 (Nat.le_of_ble_eq_true rfl) (List.mem_of_getElem? (i := 8) rfl) rfl rfl rfl rfl (Nat.le_of_ble_eq_true rfl) rfl dX2_init_30 (fun H locs hI => ?_)
  replace hI : mI D (mT cs) A s.heap s [(h, .inr (2, [.int 0, .ref q9_6, .ref q21_11, .int ((-1) : Int32), .int 0])), (q9_6, .inl (cs 4, 7, .inr (.inr (.inr (.inr (mrow (fun i => q9_6 + 1 + i))))))), (q9_6 + 1 + 0, .inl (cs 0, 62, .inl (fun _ => 0))), (q9_6 + 1 + 1, .inl (cs 0, 62, .inl (fun _ => 0))), (q9_6 + 1 + 2, .inl (cs 0, 62, .inl (fun _ => 0))), (q9_6 + 1 + 3, .inl (cs 0, 62, .inl (fun _ => 0))), (q9_6 + 1 + 4, .inl (cs 0, 62, .inl (fun _ => 0))), (q9_6 + 1 + 5, .inl (cs 0, 62, .inl (fun _ => 0))), (q9_6 + 1 + 6, .inl (cs 0, 62, .inl (fun _ => 0))), (q21_11, .inl (cs 4, 7, .inr (.inr (.inr (.inr (mrow (fun i => q21_11 + 1 + i))))))), (q21_11 + 1 + 0, .inl (cs 0, 62, .inl (fun _ => 0))), (q21_11 + 1 + 1, .inl (cs 0, 62, .inl (fun _ => 0))), (q21_11 + 1 + 2, .inl (cs 0, 62, .inl (fun _ => 0))), (q21_11 + 1 + 3, .inl (cs 0, 62, .inl (fun _ => 0))), (q21_11 + 1 + 4, .inl (cs 0, 62, .inl (fun _ => 0))), (q21_11 + 1 + 5, .inl (cs 0, 62, .inl (fun _ => 0))), (q21_11 + 1 + 6, .inl (cs 0, 62, .inl (fun _ => 0)))] H locs := hI
  refine lv_aload_n S.1 S.2.1 dX2_init_33 rfl (lv_at hl 0 rfl) ?_
  refine lv_iconst (v := (-1)) S.1 S.2.1 dX2_init_34 (by decide) ?_
  refine m_put S hin2 tyX2_ok nmX2 hI 0 rfl rfl 4 (Nat.le_of_ble_eq_true rfl) (List.mem_of_getElem? (i := 9) rfl) rfl rfl rfl rfl (Nat.le_of_ble_eq_true rfl) rfl dX2_init_35 (fun H locs hI => ?_)
  replace hI : mI D (mT cs) A s.heap s [(h, .inr (2, [.int 0, .ref q9_6, .ref q21_11, .int ((-1) : Int32), .int ((-1) : Int32)])), (q9_6, .inl (cs 4, 7, .inr (.inr (.inr (.inr (mrow (fun i => q9_6 + 1 + i))))))), (q9_6 + 1 + 0, .inl (cs 0, 62, .inl (fun _ => 0))), (q9_6 + 1 + 1, .inl (cs 0, 62, .inl (fun _ => 0))), (q9_6 + 1 + 2, .inl (cs 0, 62, .inl (fun _ => 0))), (q9_6 + 1 + 3, .inl (cs 0, 62, .inl (fun _ => 0))), (q9_6 + 1 + 4, .inl (cs 0, 62, .inl (fun _ => 0))), (q9_6 + 1 + 5, .inl (cs 0, 62, .inl (fun _ => 0))), (q9_6 + 1 + 6, .inl (cs 0, 62, .inl (fun _ => 0))), (q21_11, .inl (cs 4, 7, .inr (.inr (.inr (.inr (mrow (fun i => q21_11 + 1 + i))))))), (q21_11 + 1 + 0, .inl (cs 0, 62, .inl (fun _ => 0))), (q21_11 + 1 + 1, .inl (cs 0, 62, .inl (fun _ => 0))), (q21_11 + 1 + 2, .inl (cs 0, 62, .inl (fun _ => 0))), (q21_11 + 1 + 3, .inl (cs 0, 62, .inl (fun _ => 0))), (q21_11 + 1 + 4, .inl (cs 0, 62, .inl (fun _ => 0))), (q21_11 + 1 + 5, .inl (cs 0, 62, .inl (fun _ => 0))), (q21_11 + 1 + 6, .inl (cs 0, 62, .inl (fun _ => 0)))] H locs := hI
  refine lv_aload_n S.1 S.2.1 dX2_init_38 rfl (lv_at hl 0 rfl) ?_
  refine lv_iload_n S.1 S.2.1 dX2_init_39 rfl (lv_at hl 1 rfl) ?_
  refine m_putF S hin2 tyX2_ok nmX2 hI 0 rfl rfl 0 (Nat.le_of_ble_eq_true rfl) (List.mem_of_getElem? (i := 10) rfl) rfl rfl hname rfl (by show Value.int (a1 &&& 1) = _; rw [(mz01 ha).1]) (mz01 ha).2 (Nat.le_of_ble_eq_true rfl) rfl dX2_init_40 (fun H locs hI => ?_)
  replace hI : mI D (mT cs) A s.heap s [(h, .inr (2, [.int a1, .ref q9_6, .ref q21_11, .int ((-1) : Int32), .int ((-1) : Int32)])), (q9_6, .inl (cs 4, 7, .inr (.inr (.inr (.inr (mrow (fun i => q9_6 + 1 + i))))))), (q9_6 + 1 + 0, .inl (cs 0, 62, .inl (fun _ => 0))), (q9_6 + 1 + 1, .inl (cs 0, 62, .inl (fun _ => 0))), (q9_6 + 1 + 2, .inl (cs 0, 62, .inl (fun _ => 0))), (q9_6 + 1 + 3, .inl (cs 0, 62, .inl (fun _ => 0))), (q9_6 + 1 + 4, .inl (cs 0, 62, .inl (fun _ => 0))), (q9_6 + 1 + 5, .inl (cs 0, 62, .inl (fun _ => 0))), (q9_6 + 1 + 6, .inl (cs 0, 62, .inl (fun _ => 0))), (q21_11, .inl (cs 4, 7, .inr (.inr (.inr (.inr (mrow (fun i => q21_11 + 1 + i))))))), (q21_11 + 1 + 0, .inl (cs 0, 62, .inl (fun _ => 0))), (q21_11 + 1 + 1, .inl (cs 0, 62, .inl (fun _ => 0))), (q21_11 + 1 + 2, .inl (cs 0, 62, .inl (fun _ => 0))), (q21_11 + 1 + 3, .inl (cs 0, 62, .inl (fun _ => 0))), (q21_11 + 1 + 4, .inl (cs 0, 62, .inl (fun _ => 0))), (q21_11 + 1 + 5, .inl (cs 0, 62, .inl (fun _ => 0))), (q21_11 + 1 + 6, .inl (cs 0, 62, .inl (fun _ => 0)))] H locs := hI
  subst hZ
  exact m_vret (w := (bW [(h, .inr (2, [.int 0, .null, .null, .int 0, .int 0]))] (fun f => I2 h f cs a1))) (Qp := fun o => ∃ z, o = some z) (u := some (fun i => ([h, q9_6, q21_11] : List Nat).getD i 0)) S hr hlocks hI ⟨_, rfl⟩ dX2_init_43

def I4 (h : Nat) (f : Nat → Nat) (cs : Nat → ClassId) : va_W := [(h, .inr (4, [.ref (f 1), .ref (f 2), .ref (f 3), .ref (f 4), .ref (f 5), .int ((-1) : Int32), .int 0, .int 0])), ((f 1), .inl (cs 0, 61, .inl (fun _ => 0))), ((f 2), .inl (cs 0, 62, .inl (fun _ => 0))), ((f 3), .inl (cs 4, 7, .inr (.inr (.inr (.inr (mrow (fun i => (f 3) + 1 + i))))))), ((f 3) + 1 + 0, .inl (cs 0, 1891, .inl (fun _ => 0))), ((f 3) + 1 + 1, .inl (cs 0, 1891, .inl (fun _ => 0))), ((f 3) + 1 + 2, .inl (cs 0, 1891, .inl (fun _ => 0))), ((f 3) + 1 + 3, .inl (cs 0, 1891, .inl (fun _ => 0))), ((f 3) + 1 + 4, .inl (cs 0, 1891, .inl (fun _ => 0))), ((f 3) + 1 + 5, .inl (cs 0, 1891, .inl (fun _ => 0))), ((f 3) + 1 + 6, .inl (cs 0, 1891, .inl (fun _ => 0))), ((f 4), .inl (cs 4, 7, .inr (.inr (.inr (.inr (mrow (fun i => (f 4) + 1 + i))))))), ((f 4) + 1 + 0, .inl (cs 0, 1891, .inl (fun _ => 0))), ((f 4) + 1 + 1, .inl (cs 0, 1891, .inl (fun _ => 0))), ((f 4) + 1 + 2, .inl (cs 0, 1891, .inl (fun _ => 0))), ((f 4) + 1 + 3, .inl (cs 0, 1891, .inl (fun _ => 0))), ((f 4) + 1 + 4, .inl (cs 0, 1891, .inl (fun _ => 0))), ((f 4) + 1 + 5, .inl (cs 0, 1891, .inl (fun _ => 0))), ((f 4) + 1 + 6, .inl (cs 0, 1891, .inl (fun _ => 0))), ((f 5), .inl (cs 0, 7, .inl (fun _ => 0)))]
set_option maxHeartbeats 8000000 in
set_option maxRecDepth 100000 in
theorem c_X4_init (l : Launch) (D : va_G) (h : Nat) (cs : Nat → ClassId) : mKv l yX4_init wsX4_init ({ frames := 1, cells := 19, slots := 26618, locals := 12 } : Room) 19 26618 D (mT cs) (bW [(h, .inr (4, [.null, .null, .null, .null, .null, .int 0, .int 0, .int 0]))] (fun f => I4 h f cs)) [.ref h] none (fun o => ∃ z, o = some z) := by
  refine m_enterK (cc := cX4_init) (maxL := 1) (by decide) rfl (Nat.le_of_ble_eq_true rfl) ?_
  intro p e s m args below meth c A ls S hr hlocks hname hl hI hO
  have S : CallFix p m c cX4_init 1 s args wsX4_init RX4 := S
  have hin4 : ∀ w ∈ wsX40, w ∈ wsX4_init := fun _ h => List.mem_cons_of_mem _ (List.mem_append_right _ h)
  have hl : lv_has ls 1 [(0, .ref h)] := hl
  obtain ⟨H, hH⟩ : ∃ z : Heap, z = s.heap := ⟨_, rfl⟩
  obtain ⟨locs, hL⟩ : ∃ z : List Loc, z = [] := ⟨_, rfl⟩
  generalize hZ : MQ below (va_Qv (fun o => ∃ z, o = some z) (mPos D (mT cs) A (bW [(h, .inr (4, [.null, .null, .null, .null, .null, .int 0, .int 0, .int 0]))] (fun f => I4 h f cs))) A) args s 19 26618 A = Z
  rw [show W p l e ({ frames := 1, cells := 19, slots := 26618, locals := 12 } : Room) s m args below meth c s.heap [] 0 0 Z (F0 m 0 ls []) = W p l e ({ frames := 1, cells := 19, slots := 26618, locals := 12 } : Room) s m args below meth c H locs 0 0 Z (F0 m 0 ls []) by rw [hH, hL]]
  replace hI : mI D (mT cs) A s.heap s [(h, .inr (4, [.null, .null, .null, .null, .null, .int 0, .int 0, .int 0]))] H locs := by rw [hH, hL]; exact hI
  refine lv_aload_n S.1 S.2.1 dX4_init_0 rfl (lv_at hl 0 rfl) ?_
  refine m_obj S hl.1 (List.mem_of_getElem? (i := 1) rfl) (List.mem_of_getElem? (i := 2) rfl) (List.mem_of_getElem? (i := 3) rfl) dX4_init_1 (Nat.le_of_ble_eq_true rfl) (Nat.le_of_ble_eq_true rfl) ?_
  refine lv_aload_n S.1 S.2.1 dX4_init_4 rfl (lv_at hl 0 rfl) ?_
  refine lv_bipush (v := 61) S.1 S.2.1 dX4_init_5 (by decide) ?_
  refine m_newi S (List.mem_of_getElem? (i := 4) rfl) hI (N := 61) (by decide) (by decide) (Nat.le_of_ble_eq_true rfl) (Nat.le_of_ble_eq_true rfl) (Nat.le_of_ble_eq_true rfl) dX4_init_7 (fun q7_5 H hI => ?_)
  replace hI : mI D (mT cs) A s.heap s [(h, .inr (4, [.null, .null, .null, .null, .null, .int 0, .int 0, .int 0])), (q7_5, .inl (cs 0, 61, .inl (fun _ => 0)))] H locs := hI
  refine W.widen (k := 1) (n := 61) (Nat.le_of_ble_eq_true rfl) (Nat.le_of_ble_eq_true rfl) ?_
  refine m_putF S hin4 tyX4_ok nmX4 hI 0 rfl rfl 0 (Nat.le_of_ble_eq_true rfl) (List.mem_of_getElem? (i := 5) rfl) rfl rfl hname rfl rfl rfl (Nat.le_of_ble_eq_true rfl) rfl dX4_init_9 (fun H locs hI => ?_)
  replace hI : mI D (mT cs) A s.heap s [(h, .inr (4, [.ref q7_5, .null, .null, .null, .null, .int 0, .int 0, .int 0])), (q7_5, .inl (cs 0, 61, .inl (fun _ => 0)))] H locs := hI
  refine lv_aload_n S.1 S.2.1 dX4_init_12 rfl (lv_at hl 0 rfl) ?_
  refine lv_bipush (v := 62) S.1 S.2.1 dX4_init_13 (by decide) ?_
  refine m_newi S (List.mem_of_getElem? (i := 4) rfl) hI (N := 62) (by decide) (by decide) (Nat.le_of_ble_eq_true rfl) (Nat.le_of_ble_eq_true rfl) (Nat.le_of_ble_eq_true rfl) dX4_init_15 (fun q15_9 H hI => ?_)
  replace hI : mI D (mT cs) A s.heap s [(h, .inr (4, [.ref q7_5, .null, .null, .null, .null, .int 0, .int 0, .int 0])), (q7_5, .inl (cs 0, 61, .inl (fun _ => 0))), (q15_9, .inl (cs 0, 62, .inl (fun _ => 0)))] H locs := hI
  refine W.widen (k := 2) (n := 123) (Nat.le_of_ble_eq_true rfl) (Nat.le_of_ble_eq_true rfl) ?_
  refine m_putF S hin4 tyX4_ok nmX4 hI 0 rfl rfl 1 (Nat.le_of_ble_eq_true rfl) (List.mem_of_getElem? (i := 6) rfl) rfl rfl hname rfl rfl rfl (Nat.le_of_ble_eq_true rfl) rfl dX4_init_17 (fun H locs hI => ?_)
  replace hI : mI D (mT cs) A s.heap s [(h, .inr (4, [.ref q7_5, .ref q15_9, .null, .null, .null, .int 0, .int 0, .int 0])), (q7_5, .inl (cs 0, 61, .inl (fun _ => 0))), (q15_9, .inl (cs 0, 62, .inl (fun _ => 0)))] H locs := hI
  refine lv_aload_n S.1 S.2.1 dX4_init_20 rfl (lv_at hl 0 rfl) ?_
  refine lv_bipush (v := 7) S.1 S.2.1 dX4_init_21 (by decide) ?_
  refine lv_sipush (v := 1891) S.1 S.2.1 dX4_init_23 (by decide) ?_
  refine m_mna (K' := 1891) S hO hI (List.mem_of_getElem? (i := 7) rfl) (List.mem_of_getElem? (i := 4) rfl) (by decide) (by decide) (Nat.le_of_ble_eq_true rfl) (Nat.le_of_ble_eq_true rfl) (Nat.le_of_ble_eq_true rfl) dX4_init_26 (fun q26_14 H hI => ?_)
  replace hI : mI D (mT cs) A s.heap s [(h, .inr (4, [.ref q7_5, .ref q15_9, .null, .null, .null, .int 0, .int 0, .int 0])), (q7_5, .inl (cs 0, 61, .inl (fun _ => 0))), (q15_9, .inl (cs 0, 62, .inl (fun _ => 0))), (q26_14, .inl (cs 4, 7, .inr (.inr (.inr (.inr (mrow (fun i => q26_14 + 1 + i))))))), (q26_14 + 1 + 0, .inl (cs 0, 1891, .inl (fun _ => 0))), (q26_14 + 1 + 1, .inl (cs 0, 1891, .inl (fun _ => 0))), (q26_14 + 1 + 2, .inl (cs 0, 1891, .inl (fun _ => 0))), (q26_14 + 1 + 3, .inl (cs 0, 1891, .inl (fun _ => 0))), (q26_14 + 1 + 4, .inl (cs 0, 1891, .inl (fun _ => 0))), (q26_14 + 1 + 5, .inl (cs 0, 1891, .inl (fun _ => 0))), (q26_14 + 1 + 6, .inl (cs 0, 1891, .inl (fun _ => 0)))] H locs := hI
  refine W.widen (k := 10) (n := 13367) (Nat.le_of_ble_eq_true rfl) (Nat.le_of_ble_eq_true rfl) ?_
  refine m_putF S hin4 tyX4_ok nmX4 hI 0 rfl rfl 2 (Nat.le_of_ble_eq_true rfl) (List.mem_of_getElem? (i := 8) rfl) rfl rfl hname rfl rfl rfl (Nat.le_of_ble_eq_true rfl) rfl dX4_init_30 (fun H locs hI => ?_)
  replace hI : mI D (mT cs) A s.heap s [(h, .inr (4, [.ref q7_5, .ref q15_9, .ref q26_14, .null, .null, .int 0, .int 0, .int 0])), (q7_5, .inl (cs 0, 61, .inl (fun _ => 0))), (q15_9, .inl (cs 0, 62, .inl (fun _ => 0))), (q26_14, .inl (cs 4, 7, .inr (.inr (.inr (.inr (mrow (fun i => q26_14 + 1 + i))))))), (q26_14 + 1 + 0, .inl (cs 0, 1891, .inl (fun _ => 0))), (q26_14 + 1 + 1, .inl (cs 0, 1891, .inl (fun _ => 0))), (q26_14 + 1 + 2, .inl (cs 0, 1891, .inl (fun _ => 0))), (q26_14 + 1 + 3, .inl (cs 0, 1891, .inl (fun _ => 0))), (q26_14 + 1 + 4, .inl (cs 0, 1891, .inl (fun _ => 0))), (q26_14 + 1 + 5, .inl (cs 0, 1891, .inl (fun _ => 0))), (q26_14 + 1 + 6, .inl (cs 0, 1891, .inl (fun _ => 0)))] H locs := hI
  refine lv_aload_n S.1 S.2.1 dX4_init_33 rfl (lv_at hl 0 rfl) ?_
  refine lv_bipush (v := 7) S.1 S.2.1 dX4_init_34 (by decide) ?_
  refine lv_sipush (v := 1891) S.1 S.2.1 dX4_init_36 (by decide) ?_
  refine m_mna (K' := 1891) S hO hI (List.mem_of_getElem? (i := 7) rfl) (List.mem_of_getElem? (i := 4) rfl) (by decide) (by decide) (Nat.le_of_ble_eq_true rfl) (Nat.le_of_ble_eq_true rfl) (Nat.le_of_ble_eq_true rfl) dX4_init_39 (fun q39_19 H hI => ?_)
  replace hI : mI D (mT cs) A s.heap s [(h, .inr (4, [.ref q7_5, .ref q15_9, .ref q26_14, .null, .null, .int 0, .int 0, .int 0])), (q7_5, .inl (cs 0, 61, .inl (fun _ => 0))), (q15_9, .inl (cs 0, 62, .inl (fun _ => 0))), (q26_14, .inl (cs 4, 7, .inr (.inr (.inr (.inr (mrow (fun i => q26_14 + 1 + i))))))), (q26_14 + 1 + 0, .inl (cs 0, 1891, .inl (fun _ => 0))), (q26_14 + 1 + 1, .inl (cs 0, 1891, .inl (fun _ => 0))), (q26_14 + 1 + 2, .inl (cs 0, 1891, .inl (fun _ => 0))), (q26_14 + 1 + 3, .inl (cs 0, 1891, .inl (fun _ => 0))), (q26_14 + 1 + 4, .inl (cs 0, 1891, .inl (fun _ => 0))), (q26_14 + 1 + 5, .inl (cs 0, 1891, .inl (fun _ => 0))), (q26_14 + 1 + 6, .inl (cs 0, 1891, .inl (fun _ => 0))), (q39_19, .inl (cs 4, 7, .inr (.inr (.inr (.inr (mrow (fun i => q39_19 + 1 + i))))))), (q39_19 + 1 + 0, .inl (cs 0, 1891, .inl (fun _ => 0))), (q39_19 + 1 + 1, .inl (cs 0, 1891, .inl (fun _ => 0))), (q39_19 + 1 + 2, .inl (cs 0, 1891, .inl (fun _ => 0))), (q39_19 + 1 + 3, .inl (cs 0, 1891, .inl (fun _ => 0))), (q39_19 + 1 + 4, .inl (cs 0, 1891, .inl (fun _ => 0))), (q39_19 + 1 + 5, .inl (cs 0, 1891, .inl (fun _ => 0))), (q39_19 + 1 + 6, .inl (cs 0, 1891, .inl (fun _ => 0)))] H locs := hI
  refine W.widen (k := 18) (n := 26611) (Nat.le_of_ble_eq_true rfl) (Nat.le_of_ble_eq_true rfl) ?_
  refine m_putF S hin4 tyX4_ok nmX4 hI 0 rfl rfl 3 (Nat.le_of_ble_eq_true rfl) (List.mem_of_getElem? (i := 9) rfl) rfl rfl hname rfl rfl rfl (Nat.le_of_ble_eq_true rfl) rfl dX4_init_43 (fun H locs hI => ?_)
  replace hI : mI D (mT cs) A s.heap s [(h, .inr (4, [.ref q7_5, .ref q15_9, .ref q26_14, .ref q39_19, .null, .int 0, .int 0, .int 0])), (q7_5, .inl (cs 0, 61, .inl (fun _ => 0))), (q15_9, .inl (cs 0, 62, .inl (fun _ => 0))), (q26_14, .inl (cs 4, 7, .inr (.inr (.inr (.inr (mrow (fun i => q26_14 + 1 + i))))))), (q26_14 + 1 + 0, .inl (cs 0, 1891, .inl (fun _ => 0))), (q26_14 + 1 + 1, .inl (cs 0, 1891, .inl (fun _ => 0))), (q26_14 + 1 + 2, .inl (cs 0, 1891, .inl (fun _ => 0))), (q26_14 + 1 + 3, .inl (cs 0, 1891, .inl (fun _ => 0))), (q26_14 + 1 + 4, .inl (cs 0, 1891, .inl (fun _ => 0))), (q26_14 + 1 + 5, .inl (cs 0, 1891, .inl (fun _ => 0))), (q26_14 + 1 + 6, .inl (cs 0, 1891, .inl (fun _ => 0))), (q39_19, .inl (cs 4, 7, .inr (.inr (.inr (.inr (mrow (fun i => q39_19 + 1 + i))))))), (q39_19 + 1 + 0, .inl (cs 0, 1891, .inl (fun _ => 0))), (q39_19 + 1 + 1, .inl (cs 0, 1891, .inl (fun _ => 0))), (q39_19 + 1 + 2, .inl (cs 0, 1891, .inl (fun _ => 0))), (q39_19 + 1 + 3, .inl (cs 0, 1891, .inl (fun _ => 0))), (q39_19 + 1 + 4, .inl (cs 0, 1891, .inl (fun _ => 0))), (q39_19 + 1 + 5, .inl (cs 0, 1891, .inl (fun _ => 0))), (q39_19 + 1 + 6, .inl (cs 0, 1891, .inl (fun _ => 0)))] H locs := hI
  refine lv_aload_n S.1 S.2.1 dX4_init_46 rfl (lv_at hl 0 rfl) ?_
  refine lv_bipush (v := 7) S.1 S.2.1 dX4_init_47 (by decide) ?_
  refine m_newi S (List.mem_of_getElem? (i := 4) rfl) hI (N := 7) (by decide) (by decide) (Nat.le_of_ble_eq_true rfl) (Nat.le_of_ble_eq_true rfl) (Nat.le_of_ble_eq_true rfl) dX4_init_49 (fun q49_23 H hI => ?_)
  replace hI : mI D (mT cs) A s.heap s [(h, .inr (4, [.ref q7_5, .ref q15_9, .ref q26_14, .ref q39_19, .null, .int 0, .int 0, .int 0])), (q7_5, .inl (cs 0, 61, .inl (fun _ => 0))), (q15_9, .inl (cs 0, 62, .inl (fun _ => 0))), (q26_14, .inl (cs 4, 7, .inr (.inr (.inr (.inr (mrow (fun i => q26_14 + 1 + i))))))), (q26_14 + 1 + 0, .inl (cs 0, 1891, .inl (fun _ => 0))), (q26_14 + 1 + 1, .inl (cs 0, 1891, .inl (fun _ => 0))), (q26_14 + 1 + 2, .inl (cs 0, 1891, .inl (fun _ => 0))), (q26_14 + 1 + 3, .inl (cs 0, 1891, .inl (fun _ => 0))), (q26_14 + 1 + 4, .inl (cs 0, 1891, .inl (fun _ => 0))), (q26_14 + 1 + 5, .inl (cs 0, 1891, .inl (fun _ => 0))), (q26_14 + 1 + 6, .inl (cs 0, 1891, .inl (fun _ => 0))), (q39_19, .inl (cs 4, 7, .inr (.inr (.inr (.inr (mrow (fun i => q39_19 + 1 + i))))))), (q39_19 + 1 + 0, .inl (cs 0, 1891, .inl (fun _ => 0))), (q39_19 + 1 + 1, .inl (cs 0, 1891, .inl (fun _ => 0))), (q39_19 + 1 + 2, .inl (cs 0, 1891, .inl (fun _ => 0))), (q39_19 + 1 + 3, .inl (cs 0, 1891, .inl (fun _ => 0))), (q39_19 + 1 + 4, .inl (cs 0, 1891, .inl (fun _ => 0))), (q39_19 + 1 + 5, .inl (cs 0, 1891, .inl (fun _ => 0))), (q39_19 + 1 + 6, .inl (cs 0, 1891, .inl (fun _ => 0))), (q49_23, .inl (cs 0, 7, .inl (fun _ => 0)))] H locs := hI
  refine W.widen (k := 19) (n := 26618) (Nat.le_of_ble_eq_true rfl) (Nat.le_of_ble_eq_true rfl) ?_
  refine m_putF S hin4 tyX4_ok nmX4 hI 0 rfl rfl 4 (Nat.le_of_ble_eq_true rfl) (List.mem_of_getElem? (i := 10) rfl) rfl rfl hname rfl rfl rfl (Nat.le_of_ble_eq_true rfl) rfl dX4_init_51 (fun H locs hI => ?_)
  replace hI : mI D (mT cs) A s.heap s [(h, .inr (4, [.ref q7_5, .ref q15_9, .ref q26_14, .ref q39_19, .ref q49_23, .int 0, .int 0, .int 0])), (q7_5, .inl (cs 0, 61, .inl (fun _ => 0))), (q15_9, .inl (cs 0, 62, .inl (fun _ => 0))), (q26_14, .inl (cs 4, 7, .inr (.inr (.inr (.inr (mrow (fun i => q26_14 + 1 + i))))))), (q26_14 + 1 + 0, .inl (cs 0, 1891, .inl (fun _ => 0))), (q26_14 + 1 + 1, .inl (cs 0, 1891, .inl (fun _ => 0))), (q26_14 + 1 + 2, .inl (cs 0, 1891, .inl (fun _ => 0))), (q26_14 + 1 + 3, .inl (cs 0, 1891, .inl (fun _ => 0))), (q26_14 + 1 + 4, .inl (cs 0, 1891, .inl (fun _ => 0))), (q26_14 + 1 + 5, .inl (cs 0, 1891, .inl (fun _ => 0))), (q26_14 + 1 + 6, .inl (cs 0, 1891, .inl (fun _ => 0))), (q39_19, .inl (cs 4, 7, .inr (.inr (.inr (.inr (mrow (fun i => q39_19 + 1 + i))))))), (q39_19 + 1 + 0, .inl (cs 0, 1891, .inl (fun _ => 0))), (q39_19 + 1 + 1, .inl (cs 0, 1891, .inl (fun _ => 0))), (q39_19 + 1 + 2, .inl (cs 0, 1891, .inl (fun _ => 0))), (q39_19 + 1 + 3, .inl (cs 0, 1891, .inl (fun _ => 0))), (q39_19 + 1 + 4, .inl (cs 0, 1891, .inl (fun _ => 0))), (q39_19 + 1 + 5, .inl (cs 0, 1891, .inl (fun _ => 0))), (q39_19 + 1 + 6, .inl (cs 0, 1891, .inl (fun _ => 0))), (q49_23, .inl (cs 0, 7, .inl (fun _ => 0)))] H locs := hI
  refine lv_aload_n S.1 S.2.1 dX4_init_54 rfl (lv_at hl 0 rfl) ?_
  refine lv_iconst (v := (-1)) S.1 S.2.1 dX4_init_55 (by decide) ?_
  refine m_put S hin4 tyX4_ok nmX4 hI 0 rfl rfl 5 (Nat.le_of_ble_eq_true rfl) (List.mem_of_getElem? (i := 11) rfl) rfl rfl rfl rfl (Nat.le_of_ble_eq_true rfl) rfl dX4_init_56 (fun H locs hI => ?_)
  replace hI : mI D (mT cs) A s.heap s [(h, .inr (4, [.ref q7_5, .ref q15_9, .ref q26_14, .ref q39_19, .ref q49_23, .int ((-1) : Int32), .int 0, .int 0])), (q7_5, .inl (cs 0, 61, .inl (fun _ => 0))), (q15_9, .inl (cs 0, 62, .inl (fun _ => 0))), (q26_14, .inl (cs 4, 7, .inr (.inr (.inr (.inr (mrow (fun i => q26_14 + 1 + i))))))), (q26_14 + 1 + 0, .inl (cs 0, 1891, .inl (fun _ => 0))), (q26_14 + 1 + 1, .inl (cs 0, 1891, .inl (fun _ => 0))), (q26_14 + 1 + 2, .inl (cs 0, 1891, .inl (fun _ => 0))), (q26_14 + 1 + 3, .inl (cs 0, 1891, .inl (fun _ => 0))), (q26_14 + 1 + 4, .inl (cs 0, 1891, .inl (fun _ => 0))), (q26_14 + 1 + 5, .inl (cs 0, 1891, .inl (fun _ => 0))), (q26_14 + 1 + 6, .inl (cs 0, 1891, .inl (fun _ => 0))), (q39_19, .inl (cs 4, 7, .inr (.inr (.inr (.inr (mrow (fun i => q39_19 + 1 + i))))))), (q39_19 + 1 + 0, .inl (cs 0, 1891, .inl (fun _ => 0))), (q39_19 + 1 + 1, .inl (cs 0, 1891, .inl (fun _ => 0))), (q39_19 + 1 + 2, .inl (cs 0, 1891, .inl (fun _ => 0))), (q39_19 + 1 + 3, .inl (cs 0, 1891, .inl (fun _ => 0))), (q39_19 + 1 + 4, .inl (cs 0, 1891, .inl (fun _ => 0))), (q39_19 + 1 + 5, .inl (cs 0, 1891, .inl (fun _ => 0))), (q39_19 + 1 + 6, .inl (cs 0, 1891, .inl (fun _ => 0))), (q49_23, .inl (cs 0, 7, .inl (fun _ => 0)))] H locs := hI
  subst hZ
  exact m_vret (w := (bW [(h, .inr (4, [.null, .null, .null, .null, .null, .int 0, .int 0, .int 0]))] (fun f => I4 h f cs))) (Qp := fun o => ∃ z, o = some z) (u := some (fun i => ([h, q7_5, q15_9, q26_14, q39_19, q49_23] : List Nat).getD i 0)) S hr hlocks hI ⟨_, rfl⟩ dX4_init_59

def I9 (h : Nat) (f : Nat → Nat) (cs : Nat → ClassId) : va_W := [(h, .inr (9, [.ref (f 1), .ref (f 2), .int 0])), ((f 1), .inl (cs 4, 7, .inr (.inr (.inr (.inr (mrow (fun i => (f 1) + 1 + i))))))), ((f 1) + 1 + 0, .inl (cs 0, 26, .inl (fun _ => 0))), ((f 1) + 1 + 1, .inl (cs 0, 26, .inl (fun _ => 0))), ((f 1) + 1 + 2, .inl (cs 0, 26, .inl (fun _ => 0))), ((f 1) + 1 + 3, .inl (cs 0, 26, .inl (fun _ => 0))), ((f 1) + 1 + 4, .inl (cs 0, 26, .inl (fun _ => 0))), ((f 1) + 1 + 5, .inl (cs 0, 26, .inl (fun _ => 0))), ((f 1) + 1 + 6, .inl (cs 0, 26, .inl (fun _ => 0))), ((f 2), .inl (cs 4, 7, .inr (.inr (.inr (.inr (mrow (fun i => (f 2) + 1 + i))))))), ((f 2) + 1 + 0, .inl (cs 0, 26, .inl (fun _ => 0))), ((f 2) + 1 + 1, .inl (cs 0, 26, .inl (fun _ => 0))), ((f 2) + 1 + 2, .inl (cs 0, 26, .inl (fun _ => 0))), ((f 2) + 1 + 3, .inl (cs 0, 26, .inl (fun _ => 0))), ((f 2) + 1 + 4, .inl (cs 0, 26, .inl (fun _ => 0))), ((f 2) + 1 + 5, .inl (cs 0, 26, .inl (fun _ => 0))), ((f 2) + 1 + 6, .inl (cs 0, 26, .inl (fun _ => 0)))]
set_option maxHeartbeats 8000000 in
set_option maxRecDepth 100000 in
theorem c_X9_init (l : Launch) (D : va_G) (h : Nat) (cs : Nat → ClassId) : mKv l yX9_init wsX9_init ({ frames := 1, cells := 16, slots := 378, locals := 12 } : Room) 16 378 D (mT cs) (bW [(h, .inr (9, [.null, .null, .int 0]))] (fun f => I9 h f cs)) [.ref h] none (fun o => ∃ z, o = some z) := by
  refine m_enterK (cc := cX9_init) (maxL := 1) (by decide) rfl (Nat.le_of_ble_eq_true rfl) ?_
  intro p e s m args below meth c A ls S hr hlocks hname hl hI hO
  have S : CallFix p m c cX9_init 1 s args wsX9_init RX9 := S
  have hin9 : ∀ w ∈ wsX90, w ∈ wsX9_init := fun _ h => List.mem_cons_of_mem _ (List.mem_append_right _ h)
  have hl : lv_has ls 1 [(0, .ref h)] := hl
  obtain ⟨H, hH⟩ : ∃ z : Heap, z = s.heap := ⟨_, rfl⟩
  obtain ⟨locs, hL⟩ : ∃ z : List Loc, z = [] := ⟨_, rfl⟩
  generalize hZ : MQ below (va_Qv (fun o => ∃ z, o = some z) (mPos D (mT cs) A (bW [(h, .inr (9, [.null, .null, .int 0]))] (fun f => I9 h f cs))) A) args s 16 378 A = Z
  rw [show W p l e ({ frames := 1, cells := 16, slots := 378, locals := 12 } : Room) s m args below meth c s.heap [] 0 0 Z (F0 m 0 ls []) = W p l e ({ frames := 1, cells := 16, slots := 378, locals := 12 } : Room) s m args below meth c H locs 0 0 Z (F0 m 0 ls []) by rw [hH, hL]]
  replace hI : mI D (mT cs) A s.heap s [(h, .inr (9, [.null, .null, .int 0]))] H locs := by rw [hH, hL]; exact hI
  refine lv_aload_n S.1 S.2.1 dX9_init_0 rfl (lv_at hl 0 rfl) ?_
  refine m_obj S hl.1 (List.mem_of_getElem? (i := 1) rfl) (List.mem_of_getElem? (i := 2) rfl) (List.mem_of_getElem? (i := 3) rfl) dX9_init_1 (Nat.le_of_ble_eq_true rfl) (Nat.le_of_ble_eq_true rfl) ?_
  refine lv_aload_n S.1 S.2.1 dX9_init_4 rfl (lv_at hl 0 rfl) ?_
  refine lv_bipush (v := 7) S.1 S.2.1 dX9_init_5 (by decide) ?_
  refine lv_bipush (v := 26) S.1 S.2.1 dX9_init_7 (by decide) ?_
  refine m_mna (K' := 26) S hO hI (List.mem_of_getElem? (i := 4) rfl) (List.mem_of_getElem? (i := 5) rfl) (by decide) (by decide) (Nat.le_of_ble_eq_true rfl) (Nat.le_of_ble_eq_true rfl) (Nat.le_of_ble_eq_true rfl) dX9_init_9 (fun q9_6 H hI => ?_)
  replace hI : mI D (mT cs) A s.heap s [(h, .inr (9, [.null, .null, .int 0])), (q9_6, .inl (cs 4, 7, .inr (.inr (.inr (.inr (mrow (fun i => q9_6 + 1 + i))))))), (q9_6 + 1 + 0, .inl (cs 0, 26, .inl (fun _ => 0))), (q9_6 + 1 + 1, .inl (cs 0, 26, .inl (fun _ => 0))), (q9_6 + 1 + 2, .inl (cs 0, 26, .inl (fun _ => 0))), (q9_6 + 1 + 3, .inl (cs 0, 26, .inl (fun _ => 0))), (q9_6 + 1 + 4, .inl (cs 0, 26, .inl (fun _ => 0))), (q9_6 + 1 + 5, .inl (cs 0, 26, .inl (fun _ => 0))), (q9_6 + 1 + 6, .inl (cs 0, 26, .inl (fun _ => 0)))] H locs := hI
  refine W.widen (k := 8) (n := 189) (Nat.le_of_ble_eq_true rfl) (Nat.le_of_ble_eq_true rfl) ?_
  refine m_putF S hin9 tyX9_ok nmX9 hI 0 rfl rfl 0 (Nat.le_of_ble_eq_true rfl) (List.mem_of_getElem? (i := 6) rfl) rfl rfl hname rfl rfl rfl (Nat.le_of_ble_eq_true rfl) rfl dX9_init_13 (fun H locs hI => ?_)
  replace hI : mI D (mT cs) A s.heap s [(h, .inr (9, [.ref q9_6, .null, .int 0])), (q9_6, .inl (cs 4, 7, .inr (.inr (.inr (.inr (mrow (fun i => q9_6 + 1 + i))))))), (q9_6 + 1 + 0, .inl (cs 0, 26, .inl (fun _ => 0))), (q9_6 + 1 + 1, .inl (cs 0, 26, .inl (fun _ => 0))), (q9_6 + 1 + 2, .inl (cs 0, 26, .inl (fun _ => 0))), (q9_6 + 1 + 3, .inl (cs 0, 26, .inl (fun _ => 0))), (q9_6 + 1 + 4, .inl (cs 0, 26, .inl (fun _ => 0))), (q9_6 + 1 + 5, .inl (cs 0, 26, .inl (fun _ => 0))), (q9_6 + 1 + 6, .inl (cs 0, 26, .inl (fun _ => 0)))] H locs := hI
  refine lv_aload_n S.1 S.2.1 dX9_init_16 rfl (lv_at hl 0 rfl) ?_
  refine lv_bipush (v := 7) S.1 S.2.1 dX9_init_17 (by decide) ?_
  refine lv_bipush (v := 26) S.1 S.2.1 dX9_init_19 (by decide) ?_
  refine m_mna (K' := 26) S hO hI (List.mem_of_getElem? (i := 4) rfl) (List.mem_of_getElem? (i := 5) rfl) (by decide) (by decide) (Nat.le_of_ble_eq_true rfl) (Nat.le_of_ble_eq_true rfl) (Nat.le_of_ble_eq_true rfl) dX9_init_21 (fun q21_11 H hI => ?_)
  replace hI : mI D (mT cs) A s.heap s [(h, .inr (9, [.ref q9_6, .null, .int 0])), (q9_6, .inl (cs 4, 7, .inr (.inr (.inr (.inr (mrow (fun i => q9_6 + 1 + i))))))), (q9_6 + 1 + 0, .inl (cs 0, 26, .inl (fun _ => 0))), (q9_6 + 1 + 1, .inl (cs 0, 26, .inl (fun _ => 0))), (q9_6 + 1 + 2, .inl (cs 0, 26, .inl (fun _ => 0))), (q9_6 + 1 + 3, .inl (cs 0, 26, .inl (fun _ => 0))), (q9_6 + 1 + 4, .inl (cs 0, 26, .inl (fun _ => 0))), (q9_6 + 1 + 5, .inl (cs 0, 26, .inl (fun _ => 0))), (q9_6 + 1 + 6, .inl (cs 0, 26, .inl (fun _ => 0))), (q21_11, .inl (cs 4, 7, .inr (.inr (.inr (.inr (mrow (fun i => q21_11 + 1 + i))))))), (q21_11 + 1 + 0, .inl (cs 0, 26, .inl (fun _ => 0))), (q21_11 + 1 + 1, .inl (cs 0, 26, .inl (fun _ => 0))), (q21_11 + 1 + 2, .inl (cs 0, 26, .inl (fun _ => 0))), (q21_11 + 1 + 3, .inl (cs 0, 26, .inl (fun _ => 0))), (q21_11 + 1 + 4, .inl (cs 0, 26, .inl (fun _ => 0))), (q21_11 + 1 + 5, .inl (cs 0, 26, .inl (fun _ => 0))), (q21_11 + 1 + 6, .inl (cs 0, 26, .inl (fun _ => 0)))] H locs := hI
  refine W.widen (k := 16) (n := 378) (Nat.le_of_ble_eq_true rfl) (Nat.le_of_ble_eq_true rfl) ?_
  refine m_putF S hin9 tyX9_ok nmX9 hI 0 rfl rfl 1 (Nat.le_of_ble_eq_true rfl) (List.mem_of_getElem? (i := 7) rfl) rfl rfl hname rfl rfl rfl (Nat.le_of_ble_eq_true rfl) rfl dX9_init_25 (fun H locs hI => ?_)
  replace hI : mI D (mT cs) A s.heap s [(h, .inr (9, [.ref q9_6, .ref q21_11, .int 0])), (q9_6, .inl (cs 4, 7, .inr (.inr (.inr (.inr (mrow (fun i => q9_6 + 1 + i))))))), (q9_6 + 1 + 0, .inl (cs 0, 26, .inl (fun _ => 0))), (q9_6 + 1 + 1, .inl (cs 0, 26, .inl (fun _ => 0))), (q9_6 + 1 + 2, .inl (cs 0, 26, .inl (fun _ => 0))), (q9_6 + 1 + 3, .inl (cs 0, 26, .inl (fun _ => 0))), (q9_6 + 1 + 4, .inl (cs 0, 26, .inl (fun _ => 0))), (q9_6 + 1 + 5, .inl (cs 0, 26, .inl (fun _ => 0))), (q9_6 + 1 + 6, .inl (cs 0, 26, .inl (fun _ => 0))), (q21_11, .inl (cs 4, 7, .inr (.inr (.inr (.inr (mrow (fun i => q21_11 + 1 + i))))))), (q21_11 + 1 + 0, .inl (cs 0, 26, .inl (fun _ => 0))), (q21_11 + 1 + 1, .inl (cs 0, 26, .inl (fun _ => 0))), (q21_11 + 1 + 2, .inl (cs 0, 26, .inl (fun _ => 0))), (q21_11 + 1 + 3, .inl (cs 0, 26, .inl (fun _ => 0))), (q21_11 + 1 + 4, .inl (cs 0, 26, .inl (fun _ => 0))), (q21_11 + 1 + 5, .inl (cs 0, 26, .inl (fun _ => 0))), (q21_11 + 1 + 6, .inl (cs 0, 26, .inl (fun _ => 0)))] H locs := hI
  subst hZ
  exact m_vret (w := (bW [(h, .inr (9, [.null, .null, .int 0]))] (fun f => I9 h f cs))) (Qp := fun o => ∃ z, o = some z) (u := some (fun i => ([h, q9_6, q21_11] : List Nat).getD i 0)) S hr hlocks hI ⟨_, rfl⟩ dX9_init_28

def I5 (h : Nat) (f : Nat → Nat) (cs : Nat → ClassId) : va_W := [(h, .inr (5, [.ref (f 1), .int 0])), ((f 1), .inl (cs 4, 7, .inr (.inr (.inr (.inr (mrow (fun i => (f 1) + 1 + i))))))), ((f 1) + 1 + 0, .inl (cs 0, 1024, .inl (fun _ => 0))), ((f 1) + 1 + 1, .inl (cs 0, 1024, .inl (fun _ => 0))), ((f 1) + 1 + 2, .inl (cs 0, 1024, .inl (fun _ => 0))), ((f 1) + 1 + 3, .inl (cs 0, 1024, .inl (fun _ => 0))), ((f 1) + 1 + 4, .inl (cs 0, 1024, .inl (fun _ => 0))), ((f 1) + 1 + 5, .inl (cs 0, 1024, .inl (fun _ => 0))), ((f 1) + 1 + 6, .inl (cs 0, 1024, .inl (fun _ => 0)))]
set_option maxHeartbeats 8000000 in
set_option maxRecDepth 100000 in
theorem c_X5_init (l : Launch) (D : va_G) (h : Nat) (cs : Nat → ClassId) : mKv l yX5_init wsX5_init ({ frames := 1, cells := 8, slots := 7175, locals := 12 } : Room) 8 7175 D (mT cs) (bW [(h, .inr (5, [.null, .int 0]))] (fun f => I5 h f cs)) [.ref h] none (fun o => ∃ z, o = some z) := by
  refine m_enterK (cc := cX5_init) (maxL := 1) (by decide) rfl (Nat.le_of_ble_eq_true rfl) ?_
  intro p e s m args below meth c A ls S hr hlocks hname hl hI hO
  have S : CallFix p m c cX5_init 1 s args wsX5_init RX5 := S
  have hin5 : ∀ w ∈ wsX50, w ∈ wsX5_init := fun _ h => List.mem_cons_of_mem _ (List.mem_append_right _ h)
  have hl : lv_has ls 1 [(0, .ref h)] := hl
  obtain ⟨H, hH⟩ : ∃ z : Heap, z = s.heap := ⟨_, rfl⟩
  obtain ⟨locs, hL⟩ : ∃ z : List Loc, z = [] := ⟨_, rfl⟩
  generalize hZ : MQ below (va_Qv (fun o => ∃ z, o = some z) (mPos D (mT cs) A (bW [(h, .inr (5, [.null, .int 0]))] (fun f => I5 h f cs))) A) args s 8 7175 A = Z
  rw [show W p l e ({ frames := 1, cells := 8, slots := 7175, locals := 12 } : Room) s m args below meth c s.heap [] 0 0 Z (F0 m 0 ls []) = W p l e ({ frames := 1, cells := 8, slots := 7175, locals := 12 } : Room) s m args below meth c H locs 0 0 Z (F0 m 0 ls []) by rw [hH, hL]]
  replace hI : mI D (mT cs) A s.heap s [(h, .inr (5, [.null, .int 0]))] H locs := by rw [hH, hL]; exact hI
  refine lv_aload_n S.1 S.2.1 dX5_init_0 rfl (lv_at hl 0 rfl) ?_
  refine m_obj S hl.1 (List.mem_of_getElem? (i := 1) rfl) (List.mem_of_getElem? (i := 2) rfl) (List.mem_of_getElem? (i := 3) rfl) dX5_init_1 (Nat.le_of_ble_eq_true rfl) (Nat.le_of_ble_eq_true rfl) ?_
  refine lv_aload_n S.1 S.2.1 dX5_init_4 rfl (lv_at hl 0 rfl) ?_
  refine lv_bipush (v := 7) S.1 S.2.1 dX5_init_5 (by decide) ?_
  refine lv_sipush (v := 1024) S.1 S.2.1 dX5_init_7 (by decide) ?_
  refine m_mna (K' := 1024) S hO hI (List.mem_of_getElem? (i := 4) rfl) (List.mem_of_getElem? (i := 5) rfl) (by decide) (by decide) (Nat.le_of_ble_eq_true rfl) (Nat.le_of_ble_eq_true rfl) (Nat.le_of_ble_eq_true rfl) dX5_init_10 (fun q10_6 H hI => ?_)
  replace hI : mI D (mT cs) A s.heap s [(h, .inr (5, [.null, .int 0])), (q10_6, .inl (cs 4, 7, .inr (.inr (.inr (.inr (mrow (fun i => q10_6 + 1 + i))))))), (q10_6 + 1 + 0, .inl (cs 0, 1024, .inl (fun _ => 0))), (q10_6 + 1 + 1, .inl (cs 0, 1024, .inl (fun _ => 0))), (q10_6 + 1 + 2, .inl (cs 0, 1024, .inl (fun _ => 0))), (q10_6 + 1 + 3, .inl (cs 0, 1024, .inl (fun _ => 0))), (q10_6 + 1 + 4, .inl (cs 0, 1024, .inl (fun _ => 0))), (q10_6 + 1 + 5, .inl (cs 0, 1024, .inl (fun _ => 0))), (q10_6 + 1 + 6, .inl (cs 0, 1024, .inl (fun _ => 0)))] H locs := hI
  refine W.widen (k := 8) (n := 7175) (Nat.le_of_ble_eq_true rfl) (Nat.le_of_ble_eq_true rfl) ?_
  refine m_putF S hin5 tyX5_ok nmX5 hI 0 rfl rfl 0 (Nat.le_of_ble_eq_true rfl) (List.mem_of_getElem? (i := 6) rfl) rfl rfl hname rfl rfl rfl (Nat.le_of_ble_eq_true rfl) rfl dX5_init_14 (fun H locs hI => ?_)
  replace hI : mI D (mT cs) A s.heap s [(h, .inr (5, [.ref q10_6, .int 0])), (q10_6, .inl (cs 4, 7, .inr (.inr (.inr (.inr (mrow (fun i => q10_6 + 1 + i))))))), (q10_6 + 1 + 0, .inl (cs 0, 1024, .inl (fun _ => 0))), (q10_6 + 1 + 1, .inl (cs 0, 1024, .inl (fun _ => 0))), (q10_6 + 1 + 2, .inl (cs 0, 1024, .inl (fun _ => 0))), (q10_6 + 1 + 3, .inl (cs 0, 1024, .inl (fun _ => 0))), (q10_6 + 1 + 4, .inl (cs 0, 1024, .inl (fun _ => 0))), (q10_6 + 1 + 5, .inl (cs 0, 1024, .inl (fun _ => 0))), (q10_6 + 1 + 6, .inl (cs 0, 1024, .inl (fun _ => 0)))] H locs := hI
  subst hZ
  exact m_vret (w := (bW [(h, .inr (5, [.null, .int 0]))] (fun f => I5 h f cs))) (Qp := fun o => ∃ z, o = some z) (u := some (fun i => ([h, q10_6] : List Nat).getD i 0)) S hr hlocks hI ⟨_, rfl⟩ dX5_init_17

def I10 (h : Nat) (f : Nat → Nat) (cs : Nat → ClassId) : va_W := [(h, .inr (10, [.ref (f 1), .ref (f 2), .int 0, .int 0])), ((f 1), .inl (cs 0, 60, .inl (fun _ => 0))), ((f 2), .inr (7, [.int 0, .int 0, .int 0]))]
set_option maxHeartbeats 8000000 in
set_option maxRecDepth 100000 in
theorem c_X10_init (l : Launch) (D : va_G) (h : Nat) (cs : Nat → ClassId) : mKv l yX10_init wsX10_init ({ frames := 2, cells := 2, slots := 63, locals := 32 } : Room) 2 63 D (mT cs) (bW [(h, .inr (10, [.null, .null, .int 0, .int 0]))] (fun f => I10 h f cs)) [.ref h] none (fun o => ∃ z, o = some z) := by
  refine m_enterK (cc := cX10_init) (maxL := 1) (by decide) rfl (Nat.le_of_ble_eq_true rfl) ?_
  intro p e s m args below meth c A ls S hr hlocks hname hl hI hO
  have S : CallFix p m c cX10_init 1 s args wsX10_init RX10 := S
  have hin7 : ∀ w ∈ wsX70, w ∈ wsX10_init := fun _ h => List.mem_cons_of_mem _ (List.mem_append_right _ h)
  have hin10 : ∀ w ∈ wsX100, w ∈ wsX10_init := fun _ h => List.mem_cons_of_mem _ (List.mem_append_left _ (List.mem_append_right _ h))
  have hl : lv_has ls 1 [(0, .ref h)] := hl
  obtain ⟨H, hH⟩ : ∃ z : Heap, z = s.heap := ⟨_, rfl⟩
  obtain ⟨locs, hL⟩ : ∃ z : List Loc, z = [] := ⟨_, rfl⟩
  generalize hZ : MQ below (va_Qv (fun o => ∃ z, o = some z) (mPos D (mT cs) A (bW [(h, .inr (10, [.null, .null, .int 0, .int 0]))] (fun f => I10 h f cs))) A) args s 2 63 A = Z
  rw [show W p l e ({ frames := 2, cells := 2, slots := 63, locals := 32 } : Room) s m args below meth c s.heap [] 0 0 Z (F0 m 0 ls []) = W p l e ({ frames := 2, cells := 2, slots := 63, locals := 32 } : Room) s m args below meth c H locs 0 0 Z (F0 m 0 ls []) by rw [hH, hL]]
  replace hI : mI D (mT cs) A s.heap s [(h, .inr (10, [.null, .null, .int 0, .int 0]))] H locs := by rw [hH, hL]; exact hI
  refine lv_aload_n S.1 S.2.1 dX10_init_0 rfl (lv_at hl 0 rfl) ?_
  refine m_obj S hl.1 (List.mem_of_getElem? (i := 1) rfl) (List.mem_of_getElem? (i := 2) rfl) (List.mem_of_getElem? (i := 3) rfl) dX10_init_1 (Nat.le_of_ble_eq_true rfl) (Nat.le_of_ble_eq_true rfl) ?_
  refine lv_aload_n S.1 S.2.1 dX10_init_4 rfl (lv_at hl 0 rfl) ?_
  refine lv_bipush (v := 60) S.1 S.2.1 dX10_init_5 (by decide) ?_
  refine m_newi S (List.mem_of_getElem? (i := 4) rfl) hI (N := 60) (by decide) (by decide) (Nat.le_of_ble_eq_true rfl) (Nat.le_of_ble_eq_true rfl) (Nat.le_of_ble_eq_true rfl) dX10_init_7 (fun q7_5 H hI => ?_)
  replace hI : mI D (mT cs) A s.heap s [(h, .inr (10, [.null, .null, .int 0, .int 0])), (q7_5, .inl (cs 0, 60, .inl (fun _ => 0)))] H locs := hI
  refine W.widen (k := 1) (n := 60) (Nat.le_of_ble_eq_true rfl) (Nat.le_of_ble_eq_true rfl) ?_
  refine m_putF S hin10 tyX10_ok nmX10 hI 0 rfl rfl 0 (Nat.le_of_ble_eq_true rfl) (List.mem_of_getElem? (i := 5) rfl) rfl rfl hname rfl rfl rfl (Nat.le_of_ble_eq_true rfl) rfl dX10_init_9 (fun H locs hI => ?_)
  replace hI : mI D (mT cs) A s.heap s [(h, .inr (10, [.ref q7_5, .null, .int 0, .int 0])), (q7_5, .inl (cs 0, 60, .inl (fun _ => 0)))] H locs := hI
  refine lv_aload_n S.1 S.2.1 dX10_init_12 rfl (lv_at hl 0 rfl) ?_
  refine m_new (fs := [.int 0, .int 0, .int 0]) S hin7 tyX7_ok (List.mem_of_getElem? (i := 6) rfl) (List.mem_of_getElem? (i := 7) rfl) (List.mem_of_getElem? (i := 8) rfl) hI (ci := 7) rfl (fun j hj => by rcases (show j = 0 ∨ j = 1 ∨ j = 2 by omega) with rfl | rfl | rfl <;> rfl) (Nat.le_of_ble_eq_true rfl) (Nat.le_of_ble_eq_true rfl) dX10_init_13 (fun q13_8 H hI => ?_)
  replace hI : mI D (mT cs) A s.heap s ([(h, .inr (10, [.ref q7_5, .null, .int 0, .int 0])), (q7_5, .inl (cs 0, 60, .inl (fun _ => 0)))] ++ [(q13_8, .inr (7, [.int 0, .int 0, .int 0]))]) H locs := hI
  refine W.widen (k := 2) (n := 63) (Nat.le_of_ble_eq_true rfl) (Nat.le_of_ble_eq_true rfl) ?_
  refine lv_dup S.1 S.2.1 dX10_init_16 rfl ?_
  refine m_gkN (w := bW [(q13_8, .inr (7, [.int 0, .int 0, .int 0]))] (fun f => I7 q13_8 f cs)) (u := none) (X := [(h, .inr (10, [.ref q7_5, .null, .int 0, .int 0])), (q7_5, .inl (cs 0, 60, .inl (fun _ => 0)))]) (Y := []) (As := []) (rest := [.ref q13_8, .ref h]) S hO hI (c_X7_init l D q13_8 cs) ⟨va_cnB 0 S.2.2.2.2 gX10_init_X7_init_n17 rfl rfl rfl (hI.2.2.2.1.2.1 _ nm_X10_17 rfl) (S.2.2.2.2 _ (List.mem_of_getElem? (i := 8) rfl)) (by decide +kernel) ⟨Nat.le_of_ble_eq_true rfl, Nat.le_of_ble_eq_true rfl⟩, rfl, S.2.2.2.2 _ (List.mem_of_getElem? (i := 10) rfl)⟩ rfl hl.1 rfl (Nat.le_of_ble_eq_true rfl) dX10_init_17 ⟨Nat.le_of_ble_eq_true rfl, Nat.le_of_ble_eq_true rfl⟩ (fun o17_10 H locs ho hI => ?_)
  obtain ⟨f17_10, rfl⟩ := ho
  replace hI : mI D (mT cs) A s.heap s ([(h, .inr (10, [.ref q7_5, .null, .int 0, .int 0])), (q7_5, .inl (cs 0, 60, .inl (fun _ => 0)))] ++ I7 q13_8 f17_10 cs) H locs := by
        have h9 : mI D (mT cs) A s.heap s ([(h, .inr (10, [.ref q7_5, .null, .int 0, .int 0])), (q7_5, .inl (cs 0, 60, .inl (fun _ => 0)))] ++ (I7 q13_8 f17_10 cs ++ [])) H locs := hI
        rw [List.append_nil] at h9
        exact h9
  replace hI : mI D (mT cs) A s.heap s ([(h, .inr (10, [.ref q7_5, .null, .int 0, .int 0])), (q7_5, .inl (cs 0, 60, .inl (fun _ => 0)))] ++ I7 q13_8 f17_10 cs) H locs := hI
  refine W.widen (k := 2) (n := 63) (Nat.le_of_ble_eq_true rfl) (Nat.le_of_ble_eq_true rfl) ?_
  refine m_putF S hin10 tyX10_ok nmX10 hI 0 rfl rfl 1 (Nat.le_of_ble_eq_true rfl) (List.mem_of_getElem? (i := 9) rfl) rfl rfl hname rfl rfl rfl (Nat.le_of_ble_eq_true rfl) rfl dX10_init_20 (fun H locs hI => ?_)
  replace hI : mI D (mT cs) A s.heap s ([(h, .inr (10, [.ref q7_5, .ref q13_8, .int 0, .int 0])), (q7_5, .inl (cs 0, 60, .inl (fun _ => 0)))] ++ I7 q13_8 f17_10 cs) H locs := hI
  subst hZ
  exact m_vret (w := (bW [(h, .inr (10, [.null, .null, .int 0, .int 0]))] (fun f => I10 h f cs))) (Qp := fun o => ∃ z, o = some z) (u := some (fun i => ([h, q7_5, q13_8] : List Nat).getD i 0)) S hr hlocks hI ⟨_, rfl⟩ dX10_init_23

def I1 (h : Nat) (f : Nat → Nat) (cs : Nat → ClassId) : va_W := [(h, .inr (1, [.ref (f 1), .int 0, .int 0, .int 0, .int 0, .int 0, .int 0, .int 0])), ((f 1), .inr (7, [.int 0, .int 0, .int 0]))]
set_option maxHeartbeats 8000000 in
set_option maxRecDepth 100000 in
theorem c_X1_init (l : Launch) (D : va_G) (h : Nat) (cs : Nat → ClassId) : mKv l yX1_init wsX1_init ({ frames := 2, cells := 1, slots := 3, locals := 32 } : Room) 1 3 D (mT cs) (bW [(h, .inr (1, [.null, .int 0, .int 0, .int 0, .int 0, .int 0, .int 0, .int 0]))] (fun f => I1 h f cs)) [.ref h] none (fun o => ∃ z, o = some z) := by
  refine m_enterK (cc := cX1_init) (maxL := 1) (by decide) rfl (Nat.le_of_ble_eq_true rfl) ?_
  intro p e s m args below meth c A ls S hr hlocks hname hl hI hO
  have S : CallFix p m c cX1_init 1 s args wsX1_init RX1 := S
  have hin1 : ∀ w ∈ wsX10, w ∈ wsX1_init := fun _ h => List.mem_cons_of_mem _ (List.mem_append_right _ h)
  have hin7 : ∀ w ∈ wsX70, w ∈ wsX1_init := fun _ h => List.mem_cons_of_mem _ (List.mem_append_left _ (List.mem_append_right _ h))
  have hl : lv_has ls 1 [(0, .ref h)] := hl
  obtain ⟨H, hH⟩ : ∃ z : Heap, z = s.heap := ⟨_, rfl⟩
  obtain ⟨locs, hL⟩ : ∃ z : List Loc, z = [] := ⟨_, rfl⟩
  generalize hZ : MQ below (va_Qv (fun o => ∃ z, o = some z) (mPos D (mT cs) A (bW [(h, .inr (1, [.null, .int 0, .int 0, .int 0, .int 0, .int 0, .int 0, .int 0]))] (fun f => I1 h f cs))) A) args s 1 3 A = Z
  rw [show W p l e ({ frames := 2, cells := 1, slots := 3, locals := 32 } : Room) s m args below meth c s.heap [] 0 0 Z (F0 m 0 ls []) = W p l e ({ frames := 2, cells := 1, slots := 3, locals := 32 } : Room) s m args below meth c H locs 0 0 Z (F0 m 0 ls []) by rw [hH, hL]]
  replace hI : mI D (mT cs) A s.heap s [(h, .inr (1, [.null, .int 0, .int 0, .int 0, .int 0, .int 0, .int 0, .int 0]))] H locs := by rw [hH, hL]; exact hI
  refine lv_aload_n S.1 S.2.1 dX1_init_0 rfl (lv_at hl 0 rfl) ?_
  refine m_obj S hl.1 (List.mem_of_getElem? (i := 1) rfl) (List.mem_of_getElem? (i := 2) rfl) (List.mem_of_getElem? (i := 3) rfl) dX1_init_1 (Nat.le_of_ble_eq_true rfl) (Nat.le_of_ble_eq_true rfl) ?_
  refine lv_aload_n S.1 S.2.1 dX1_init_4 rfl (lv_at hl 0 rfl) ?_
  refine m_new (fs := [.int 0, .int 0, .int 0]) S hin7 tyX7_ok (List.mem_of_getElem? (i := 4) rfl) (List.mem_of_getElem? (i := 5) rfl) (List.mem_of_getElem? (i := 6) rfl) hI (ci := 7) rfl (fun j hj => by rcases (show j = 0 ∨ j = 1 ∨ j = 2 by omega) with rfl | rfl | rfl <;> rfl) (Nat.le_of_ble_eq_true rfl) (Nat.le_of_ble_eq_true rfl) dX1_init_5 (fun q5_4 H hI => ?_)
  replace hI : mI D (mT cs) A s.heap s ([(h, .inr (1, [.null, .int 0, .int 0, .int 0, .int 0, .int 0, .int 0, .int 0]))] ++ [(q5_4, .inr (7, [.int 0, .int 0, .int 0]))]) H locs := hI
  refine W.widen (k := 1) (n := 3) (Nat.le_of_ble_eq_true rfl) (Nat.le_of_ble_eq_true rfl) ?_
  refine lv_dup S.1 S.2.1 dX1_init_8 rfl ?_
  refine m_gkN (w := bW [(q5_4, .inr (7, [.int 0, .int 0, .int 0]))] (fun f => I7 q5_4 f cs)) (u := none) (X := [(h, .inr (1, [.null, .int 0, .int 0, .int 0, .int 0, .int 0, .int 0, .int 0]))]) (Y := []) (As := []) (rest := [.ref q5_4, .ref h]) S hO hI (c_X7_init l D q5_4 cs) ⟨va_cnB 0 S.2.2.2.2 gX1_init_X7_init_n9 rfl rfl rfl (hI.2.2.2.1.2.1 _ nm_X1_9 rfl) (S.2.2.2.2 _ (List.mem_of_getElem? (i := 6) rfl)) (by decide +kernel) ⟨Nat.le_of_ble_eq_true rfl, Nat.le_of_ble_eq_true rfl⟩, rfl, S.2.2.2.2 _ (List.mem_of_getElem? (i := 8) rfl)⟩ rfl hl.1 rfl (Nat.le_of_ble_eq_true rfl) dX1_init_9 ⟨Nat.le_of_ble_eq_true rfl, Nat.le_of_ble_eq_true rfl⟩ (fun o9_6 H locs ho hI => ?_)
  obtain ⟨f9_6, rfl⟩ := ho
  replace hI : mI D (mT cs) A s.heap s ([(h, .inr (1, [.null, .int 0, .int 0, .int 0, .int 0, .int 0, .int 0, .int 0]))] ++ I7 q5_4 f9_6 cs) H locs := by
        have h9 : mI D (mT cs) A s.heap s ([(h, .inr (1, [.null, .int 0, .int 0, .int 0, .int 0, .int 0, .int 0, .int 0]))] ++ (I7 q5_4 f9_6 cs ++ [])) H locs := hI
        rw [List.append_nil] at h9
        exact h9
  replace hI : mI D (mT cs) A s.heap s ([(h, .inr (1, [.null, .int 0, .int 0, .int 0, .int 0, .int 0, .int 0, .int 0]))] ++ I7 q5_4 f9_6 cs) H locs := hI
  refine W.widen (k := 1) (n := 3) (Nat.le_of_ble_eq_true rfl) (Nat.le_of_ble_eq_true rfl) ?_
  refine m_putF S hin1 tyX1_ok nmX1 hI 0 rfl rfl 0 (Nat.le_of_ble_eq_true rfl) (List.mem_of_getElem? (i := 7) rfl) rfl rfl hname rfl rfl rfl (Nat.le_of_ble_eq_true rfl) rfl dX1_init_12 (fun H locs hI => ?_)
  replace hI : mI D (mT cs) A s.heap s ([(h, .inr (1, [.ref q5_4, .int 0, .int 0, .int 0, .int 0, .int 0, .int 0, .int 0]))] ++ I7 q5_4 f9_6 cs) H locs := hI
  subst hZ
  exact m_vret (w := (bW [(h, .inr (1, [.null, .int 0, .int 0, .int 0, .int 0, .int 0, .int 0, .int 0]))] (fun f => I1 h f cs))) (Qp := fun o => ∃ z, o = some z) (u := some (fun i => ([h, q5_4] : List Nat).getD i 0)) S hr hlocks hI ⟨_, rfl⟩ dX1_init_15

def I0 (h : Nat) (f : Nat → Nat) (cs : Nat → ClassId) : va_W := [(h, .inr (0, [.ref (f 1), .ref (f 2), .int 0, .int 0, .int 0, .int 0])), ((f 1), .inl (cs 0, 50, .inl (fun _ => 0))), ((f 2), .inl (cs 0, 24, .inl (fun _ => 0)))]
set_option maxHeartbeats 8000000 in
set_option maxRecDepth 100000 in
theorem c_X0_init (l : Launch) (D : va_G) (h : Nat) (cs : Nat → ClassId) : mKv l yX0_init wsX0_init ({ frames := 1, cells := 2, slots := 74, locals := 12 } : Room) 2 74 D (mT cs) (bW [(h, .inr (0, [.null, .null, .int 0, .int 0, .int 0, .int 0]))] (fun f => I0 h f cs)) [.ref h] none (fun o => ∃ z, o = some z) := by
  refine m_enterK (cc := cX0_init) (maxL := 1) (by decide) rfl (Nat.le_of_ble_eq_true rfl) ?_
  intro p e s m args below meth c A ls S hr hlocks hname hl hI hO
  have S : CallFix p m c cX0_init 1 s args wsX0_init RX0 := S
  have hin0 : ∀ w ∈ wsX00, w ∈ wsX0_init := fun _ h => List.mem_cons_of_mem _ (List.mem_append_right _ h)
  have hl : lv_has ls 1 [(0, .ref h)] := hl
  obtain ⟨H, hH⟩ : ∃ z : Heap, z = s.heap := ⟨_, rfl⟩
  obtain ⟨locs, hL⟩ : ∃ z : List Loc, z = [] := ⟨_, rfl⟩
  generalize hZ : MQ below (va_Qv (fun o => ∃ z, o = some z) (mPos D (mT cs) A (bW [(h, .inr (0, [.null, .null, .int 0, .int 0, .int 0, .int 0]))] (fun f => I0 h f cs))) A) args s 2 74 A = Z
  rw [show W p l e ({ frames := 1, cells := 2, slots := 74, locals := 12 } : Room) s m args below meth c s.heap [] 0 0 Z (F0 m 0 ls []) = W p l e ({ frames := 1, cells := 2, slots := 74, locals := 12 } : Room) s m args below meth c H locs 0 0 Z (F0 m 0 ls []) by rw [hH, hL]]
  replace hI : mI D (mT cs) A s.heap s [(h, .inr (0, [.null, .null, .int 0, .int 0, .int 0, .int 0]))] H locs := by rw [hH, hL]; exact hI
  refine lv_aload_n S.1 S.2.1 dX0_init_0 rfl (lv_at hl 0 rfl) ?_
  refine m_obj S hl.1 (List.mem_of_getElem? (i := 1) rfl) (List.mem_of_getElem? (i := 2) rfl) (List.mem_of_getElem? (i := 3) rfl) dX0_init_1 (Nat.le_of_ble_eq_true rfl) (Nat.le_of_ble_eq_true rfl) ?_
  refine lv_aload_n S.1 S.2.1 dX0_init_4 rfl (lv_at hl 0 rfl) ?_
  refine lv_bipush (v := 50) S.1 S.2.1 dX0_init_5 (by decide) ?_
  refine m_newi S (List.mem_of_getElem? (i := 4) rfl) hI (N := 50) (by decide) (by decide) (Nat.le_of_ble_eq_true rfl) (Nat.le_of_ble_eq_true rfl) (Nat.le_of_ble_eq_true rfl) dX0_init_7 (fun q7_5 H hI => ?_)
  replace hI : mI D (mT cs) A s.heap s [(h, .inr (0, [.null, .null, .int 0, .int 0, .int 0, .int 0])), (q7_5, .inl (cs 0, 50, .inl (fun _ => 0)))] H locs := hI
  refine W.widen (k := 1) (n := 50) (Nat.le_of_ble_eq_true rfl) (Nat.le_of_ble_eq_true rfl) ?_
  refine m_putF S hin0 tyX0_ok nmX0 hI 0 rfl rfl 0 (Nat.le_of_ble_eq_true rfl) (List.mem_of_getElem? (i := 5) rfl) rfl rfl hname rfl rfl rfl (Nat.le_of_ble_eq_true rfl) rfl dX0_init_9 (fun H locs hI => ?_)
  replace hI : mI D (mT cs) A s.heap s [(h, .inr (0, [.ref q7_5, .null, .int 0, .int 0, .int 0, .int 0])), (q7_5, .inl (cs 0, 50, .inl (fun _ => 0)))] H locs := hI
  refine lv_aload_n S.1 S.2.1 dX0_init_12 rfl (lv_at hl 0 rfl) ?_
  refine lv_bipush (v := 24) S.1 S.2.1 dX0_init_13 (by decide) ?_
  refine m_newi S (List.mem_of_getElem? (i := 4) rfl) hI (N := 24) (by decide) (by decide) (Nat.le_of_ble_eq_true rfl) (Nat.le_of_ble_eq_true rfl) (Nat.le_of_ble_eq_true rfl) dX0_init_15 (fun q15_9 H hI => ?_)
  replace hI : mI D (mT cs) A s.heap s [(h, .inr (0, [.ref q7_5, .null, .int 0, .int 0, .int 0, .int 0])), (q7_5, .inl (cs 0, 50, .inl (fun _ => 0))), (q15_9, .inl (cs 0, 24, .inl (fun _ => 0)))] H locs := hI
  refine W.widen (k := 2) (n := 74) (Nat.le_of_ble_eq_true rfl) (Nat.le_of_ble_eq_true rfl) ?_
  refine m_putF S hin0 tyX0_ok nmX0 hI 0 rfl rfl 1 (Nat.le_of_ble_eq_true rfl) (List.mem_of_getElem? (i := 6) rfl) rfl rfl hname rfl rfl rfl (Nat.le_of_ble_eq_true rfl) rfl dX0_init_17 (fun H locs hI => ?_)
  replace hI : mI D (mT cs) A s.heap s [(h, .inr (0, [.ref q7_5, .ref q15_9, .int 0, .int 0, .int 0, .int 0])), (q7_5, .inl (cs 0, 50, .inl (fun _ => 0))), (q15_9, .inl (cs 0, 24, .inl (fun _ => 0)))] H locs := hI
  subst hZ
  exact m_vret (w := (bW [(h, .inr (0, [.null, .null, .int 0, .int 0, .int 0, .int 0]))] (fun f => I0 h f cs))) (Qp := fun o => ∃ z, o = some z) (u := some (fun i => ([h, q7_5, q15_9] : List Nat).getD i 0)) S hr hlocks hI ⟨_, rfl⟩ dX0_init_20

def I6 (h : Nat) (f : Nat → Nat) (cs : Nat → ClassId) : va_W := [(h, .inr (6, [.ref (f 1), .int ((-1) : Int32), .int ((-1) : Int32), .int 0])), ((f 1), .inl (cs 3, 60, .inr (.inl (fun _ => 0))))]
set_option maxHeartbeats 8000000 in
set_option maxRecDepth 100000 in
theorem c_X6_init (l : Launch) (D : va_G) (h : Nat) (cs : Nat → ClassId) : mKv l yX6_init wsX6_init ({ frames := 1, cells := 1, slots := 60, locals := 12 } : Room) 1 60 D (mT cs) (bW [(h, .inr (6, [.null, .int 0, .int 0, .int 0]))] (fun f => I6 h f cs)) [.ref h] none (fun o => ∃ z, o = some z) := by
  refine m_enterK (cc := cX6_init) (maxL := 1) (by decide) rfl (Nat.le_of_ble_eq_true rfl) ?_
  intro p e s m args below meth c A ls S hr hlocks hname hl hI hO
  have S : CallFix p m c cX6_init 1 s args wsX6_init RX6 := S
  have hin6 : ∀ w ∈ wsX60, w ∈ wsX6_init := fun _ h => List.mem_cons_of_mem _ (List.mem_append_right _ h)
  have hl : lv_has ls 1 [(0, .ref h)] := hl
  obtain ⟨H, hH⟩ : ∃ z : Heap, z = s.heap := ⟨_, rfl⟩
  obtain ⟨locs, hL⟩ : ∃ z : List Loc, z = [] := ⟨_, rfl⟩
  generalize hZ : MQ below (va_Qv (fun o => ∃ z, o = some z) (mPos D (mT cs) A (bW [(h, .inr (6, [.null, .int 0, .int 0, .int 0]))] (fun f => I6 h f cs))) A) args s 1 60 A = Z
  rw [show W p l e ({ frames := 1, cells := 1, slots := 60, locals := 12 } : Room) s m args below meth c s.heap [] 0 0 Z (F0 m 0 ls []) = W p l e ({ frames := 1, cells := 1, slots := 60, locals := 12 } : Room) s m args below meth c H locs 0 0 Z (F0 m 0 ls []) by rw [hH, hL]]
  replace hI : mI D (mT cs) A s.heap s [(h, .inr (6, [.null, .int 0, .int 0, .int 0]))] H locs := by rw [hH, hL]; exact hI
  refine lv_aload_n S.1 S.2.1 dX6_init_0 rfl (lv_at hl 0 rfl) ?_
  refine m_obj S hl.1 (List.mem_of_getElem? (i := 1) rfl) (List.mem_of_getElem? (i := 2) rfl) (List.mem_of_getElem? (i := 3) rfl) dX6_init_1 (Nat.le_of_ble_eq_true rfl) (Nat.le_of_ble_eq_true rfl) ?_
  refine lv_aload_n S.1 S.2.1 dX6_init_4 rfl (lv_at hl 0 rfl) ?_
  refine lv_bipush (v := 60) S.1 S.2.1 dX6_init_5 (by decide) ?_
  refine m_newl S (List.mem_of_getElem? (i := 4) rfl) hI (N := 60) (by decide) (by decide) (Nat.le_of_ble_eq_true rfl) (Nat.le_of_ble_eq_true rfl) (Nat.le_of_ble_eq_true rfl) dX6_init_7 (fun q7_5 H hI => ?_)
  replace hI : mI D (mT cs) A s.heap s [(h, .inr (6, [.null, .int 0, .int 0, .int 0])), (q7_5, .inl (cs 3, 60, .inr (.inl (fun _ => 0))))] H locs := hI
  refine W.widen (k := 1) (n := 60) (Nat.le_of_ble_eq_true rfl) (Nat.le_of_ble_eq_true rfl) ?_
  refine m_putF S hin6 tyX6_ok nmX6 hI 0 rfl rfl 0 (Nat.le_of_ble_eq_true rfl) (List.mem_of_getElem? (i := 5) rfl) rfl rfl hname rfl rfl rfl (Nat.le_of_ble_eq_true rfl) rfl dX6_init_9 (fun H locs hI => ?_)
  replace hI : mI D (mT cs) A s.heap s [(h, .inr (6, [.ref q7_5, .int 0, .int 0, .int 0])), (q7_5, .inl (cs 3, 60, .inr (.inl (fun _ => 0))))] H locs := hI
  refine lv_aload_n S.1 S.2.1 dX6_init_12 rfl (lv_at hl 0 rfl) ?_
  refine lv_iconst (v := (-1)) S.1 S.2.1 dX6_init_13 (by decide) ?_
  refine m_put S hin6 tyX6_ok nmX6 hI 0 rfl rfl 1 (Nat.le_of_ble_eq_true rfl) (List.mem_of_getElem? (i := 6) rfl) rfl rfl rfl rfl (Nat.le_of_ble_eq_true rfl) rfl dX6_init_14 (fun H locs hI => ?_)
  replace hI : mI D (mT cs) A s.heap s [(h, .inr (6, [.ref q7_5, .int ((-1) : Int32), .int 0, .int 0])), (q7_5, .inl (cs 3, 60, .inr (.inl (fun _ => 0))))] H locs := hI
  refine lv_aload_n S.1 S.2.1 dX6_init_17 rfl (lv_at hl 0 rfl) ?_
  refine lv_iconst (v := (-1)) S.1 S.2.1 dX6_init_18 (by decide) ?_
  refine m_put S hin6 tyX6_ok nmX6 hI 0 rfl rfl 2 (Nat.le_of_ble_eq_true rfl) (List.mem_of_getElem? (i := 7) rfl) rfl rfl rfl rfl (Nat.le_of_ble_eq_true rfl) rfl dX6_init_19 (fun H locs hI => ?_)
  replace hI : mI D (mT cs) A s.heap s [(h, .inr (6, [.ref q7_5, .int ((-1) : Int32), .int ((-1) : Int32), .int 0])), (q7_5, .inl (cs 3, 60, .inr (.inl (fun _ => 0))))] H locs := hI
  subst hZ
  exact m_vret (w := (bW [(h, .inr (6, [.null, .int 0, .int 0, .int 0]))] (fun f => I6 h f cs))) (Qp := fun o => ∃ z, o = some z) (u := some (fun i => ([h, q7_5] : List Nat).getD i 0)) S hr hlocks hI ⟨_, rfl⟩ dX6_init_22

/-! laid by program: X9_fill, X9_prepare, world8, X8_fits, X8_value, X8_steps, X8_jars, X8_forgetOldest, X8_note, X8_change, X8_takeBack, X8_doAgain, world0, X0_isKind, X0_isUnder, X0_has, X0_kindOf, X0_add, X0_traced, X0_note, X0_result -/
def wp_X9_fill_p18b (x1 : Int32) (x2 : Int32) (x3 : Int32) (x4 : Int32) (x5 : Int32) (u : ST) (B18 : Int32 → Int32 → Int32 → Int32 → Int32 → ST → Prop) (Q : ST → Prop) : Prop :=
  ((x2 ≤ x5 → (vp_in x1 7 ∧ (vp_in x2 26 ∧ ∀ u72 : ST, u72 = sG u 0 (mu (gG u 0) x1.toNatClampNeg (upd (gG u 0 x1.toNatClampNeg) x2.toNatClampNeg x3)) → (vp_in x1 7 ∧ (vp_in x2 26 ∧ ∀ u82 : ST, u82 = sG u72 1 (mu (gG u72 1) x1.toNatClampNeg (upd (gG u72 1 x1.toNatClampNeg) x2.toNatClampNeg x4)) → Q u82))))) ∧ (¬ x2 ≤ x5 → (wp_X9_rest x1 x2 x5 u (fun y29 u29 => (∀ y39 : Int32, y39 = x5 + y29 → (∀ y40 : Int32, y40 = (if y39 < x3 then y39 else x3) → (∀ y49 : Int32, y49 = x2 - x5 → (∀ y52 : Int32, y52 = y49 + y29 → (∀ y53 : Int32, y53 = (if y52 < x4 then y52 else x4) → (∀ y58 : Int32, y58 = x5 + 1 → B18 x1 x2 y40 y53 y58 u29))))))))))
def wp_X9_fill_p18 (x1 : Int32) (x2 : Int32) (x3 : Int32) (x4 : Int32) (x5 : Int32) (u : ST) (Q : ST → Prop) : Prop := ∃ (I : Int32 → Int32 → Int32 → Int32 → Int32 → ST → Prop) (μ : Int32 → Int32 → Int32 → Int32 → Int32 → ST → Nat), I x1 x2 x3 x4 x5 u ∧ ∀ (x1 : Int32) (x2 : Int32) (x3 : Int32) (x4 : Int32) (x5 : Int32) (u : ST), I x1 x2 x3 x4 x5 u → wp_X9_fill_p18b x1 x2 x3 x4 x5 u (fun yx1 yx2 yx3 yx4 yx5 yu => I yx1 yx2 yx3 yx4 yx5 yu ∧ μ yx1 yx2 yx3 yx4 yx5 yu < μ x1 x2 x3 x4 x5 u) Q
def wp_X9_fill_p11 (x1 : Int32) (x2 : Int32) (t0 : Int32) (u : ST) (Q : ST → Prop) : Prop :=
  wp_X9_fill_p18 x1 x2 t0 t0 (1 : Int32) u Q
def wp_X9_fill (a1 : Int32) (a2 : Int32) (u : ST) (Q : ST → Prop) : Prop :=
  ((¬ a2 = (1 : Int32) → wp_X9_fill_p11 a1 a2 (268435456 : Int32) u Q) ∧ (a2 = (1 : Int32) → wp_X9_fill_p11 a1 a2 (0 : Int32) u Q))
set_option maxHeartbeats 4000000 in
set_option maxRecDepth 100000 in
theorem c_X9_fill (l : Launch) (D : va_G) (h : Nat) (r : Nat → Nat) (q : Nat → Nat → Nat) (cs : Nat → ClassId) (a1 : Int32) (a2 : Int32) (u : ST) (Q : ST → Prop) (hw : wp_X9_fill a1 a2 u Q) : mCv l yX9_fill wsX9_fill ({ frames := 2, cells := 0, slots := 0, locals := 45 } : Room) 0 0 D (mT cs) (W9 h r q cs) [.ref h, .int a1, .int a2] u Q := by
  unfold mCv
  refine m_enter (QQ := fun A => va_Qv Q (mPos D (mT cs) A (W9 h r q cs)) A) (cc := cX9_fill) (maxL := 7) (ret := none) (by decide) rfl (Nat.le_of_ble_eq_true rfl) ?_
  intro p e s m args below meth c A ls S hr hlocks hname hl hI
  have S : CallFix p m c cX9_fill 7 s args wsX9_fill RX9 := S
  show W p l e ({ frames := 2, cells := 0, slots := 0, locals := 45 } : Room) s m args below meth c s.heap [] 0 0 (MQ below (va_Qv Q (mPos D (mT cs) A (W9 h r q cs)) A) args s 0 0 A) (F0 m 0 ls [])
  generalize hZ : MQ below (va_Qv Q (mPos D (mT cs) A (W9 h r q cs)) A) args s 0 0 A = Z
  have hin : ∀ w ∈ wsX90, w ∈ wsX9_fill := fun _ h => List.mem_cons_of_mem _ (List.mem_append_right _ h)
  have hl : lv_has ls 7 [(0, .ref h), (1, .int a1), (2, .int a2)] := hl
  have b18b : ∀ (B18 : Int32 → Int32 → Int32 → Int32 → Int32 → ST → Prop), (∀ (x1 : Int32) (x2 : Int32) (x3 : Int32) (x4 : Int32) (x5 : Int32) (u : ST), B18 x1 x2 x3 x4 x5 u → mGo p l e ({ frames := 2, cells := 0, slots := 0, locals := 45 } : Room) s m args below meth c A Z 7 D (mT cs) (W9 h r q cs) 18 [(0, .ref h), (1, .int x1), (2, .int x2), (3, .int x3), (4, .int x4), (5, .int x5)] [] u) → ∀ (x1 : Int32) (x2 : Int32) (x3 : Int32) (x4 : Int32) (x5 : Int32) (u : ST), wp_X9_fill_p18b x1 x2 x3 x4 x5 u B18 Q → mGo p l e ({ frames := 2, cells := 0, slots := 0, locals := 45 } : Room) s m args below meth c A Z 7 D (mT cs) (W9 h r q cs) 18 [(0, .ref h), (1, .int x1), (2, .int x2), (3, .int x3), (4, .int x4), (5, .int x5)] [] u := by
    intro B18 hB18 x1 x2 x3 x4 x5 u hw H locs ls hI hl
    unfold wp_X9_fill_p18b at hw
    refine lv_iload S.1 S.2.1 dX9_fill_18 (lv_at hl 5 rfl) ?_
    refine lv_iload_n S.1 S.2.1 dX9_fill_20 rfl (lv_at hl 2 rfl) ?_
    refine lv_icmp_ge (tgt := 64) S.1 S.2.1 dX9_fill_21 (by decide) (fun c21 => ?_) (fun c21 => ?_)
    · have hw := hw.1 c21
      refine lv_aload_n S.1 S.2.1 dX9_fill_64 rfl (lv_at hl 0 rfl) ?_
      refine m_get S hin hI 0 (W9_at0 h r q cs u) rfl 0 (Nat.le_of_ble_eq_true rfl) (List.mem_of_getElem? (i := 6) rfl) rfl (Ff9_at0 r u) dX9_fill_65 ?_
      refine lv_iload_n S.1 S.2.1 dX9_fill_68 rfl (lv_at hl 1 rfl) ?_
      have hj69 := mlt hw.1
      refine m_aald S hI 1 4 (W9_go0 h r q cs u) rfl hw.1 dX9_fill_69 ?_
      have hw := hw.2
      refine lv_iload_n S.1 S.2.1 dX9_fill_70 rfl (lv_at hl 2 rfl) ?_
      refine lv_iload_n S.1 S.2.1 dX9_fill_71 rfl (lv_at hl 3 rfl) ?_
      obtain ⟨u72, eu72⟩ : ∃ z : ST, z = sG u 0 (mu (gG u 0) x1.toNatClampNeg (upd (gG u 0 x1.toNatClampNeg) x2.toNatClampNeg x3)) := ⟨_, rfl⟩
      refine m_iast S hI (2 + x1.toNatClampNeg) 0 (W9_gr0 h r q cs u hj69) rfl hw.1 (W9_sG0 h r q cs u u72 hj69 _ eu72) dX9_fill_72 (fun H locs hI => ?_)
      have hw := hw.2 u72 eu72
      refine lv_aload_n S.1 S.2.1 dX9_fill_73 rfl (lv_at hl 0 rfl) ?_
      refine m_get S hin hI 0 (W9_at0 h r q cs u72) rfl 1 (Nat.le_of_ble_eq_true rfl) (List.mem_of_getElem? (i := 7) rfl) rfl (Ff9_at1 r u72) dX9_fill_74 ?_
      refine lv_iload_n S.1 S.2.1 dX9_fill_77 rfl (lv_at hl 1 rfl) ?_
      have hj78 := mlt hw.1
      refine m_aald S hI 9 4 (W9_go1 h r q cs u72) rfl hw.1 dX9_fill_78 ?_
      have hw := hw.2
      refine lv_iload_n S.1 S.2.1 dX9_fill_79 rfl (lv_at hl 2 rfl) ?_
      refine lv_iload S.1 S.2.1 dX9_fill_80 (lv_at hl 4 rfl) ?_
      obtain ⟨u82, eu82⟩ : ∃ z : ST, z = sG u72 1 (mu (gG u72 1) x1.toNatClampNeg (upd (gG u72 1 x1.toNatClampNeg) x2.toNatClampNeg x4)) := ⟨_, rfl⟩
      refine m_iast S hI (10 + x1.toNatClampNeg) 0 (W9_gr1 h r q cs u72 hj78) rfl hw.1 (W9_sG1 h r q cs u72 u82 hj78 _ eu82) dX9_fill_82 (fun H locs hI => ?_)
      have hw := hw.2 u82 eu82
      subst hZ
      exact m_vret S hr hlocks hI hw dX9_fill_83
    · have hw := hw.2 c21
      refine lv_aload_n S.1 S.2.1 dX9_fill_24 rfl (lv_at hl 0 rfl) ?_
      refine lv_iload_n S.1 S.2.1 dX9_fill_25 rfl (lv_at hl 1 rfl) ?_
      refine lv_iload_n S.1 S.2.1 dX9_fill_26 rfl (lv_at hl 2 rfl) ?_
      refine lv_iload S.1 S.2.1 dX9_fill_27 (lv_at hl 5 rfl) ?_
      refine m_vi (As := [.int x1, .int x2, .int x5]) (rest := []) S (W9_self h r q cs) hI rfl (c_X9_rest l D h r q cs x1 x2 x5 u _ hw) (cwV 3 S.2.2.2.2 gX9_fill_X9_rest rfl rfl rfl (by decide +kernel) ⟨Nat.le_of_ble_eq_true rfl, Nat.le_of_ble_eq_true rfl⟩) (W9_at0 h r q cs u) rfl rfl hl.1 rfl (Nat.le_of_ble_eq_true rfl) dX9_fill_29 ⟨Nat.zero_le _, Nat.zero_le _⟩ (fun y29 u29 H locs hw hI => ?_)
      refine lv_istore (lv' := [(6, .int y29), (0, .ref h), (1, .int x1), (2, .int x2), (3, .int x3), (4, .int x4), (5, .int x5)]) S.1 S.2.1 dX9_fill_32 hl (by decide) rfl (fun ls hl => ?_)
      refine lv_iload_n S.1 S.2.1 dX9_fill_34 rfl (lv_at hl 4 rfl) ?_
      refine lv_iload S.1 S.2.1 dX9_fill_35 (lv_at hl 6 rfl) ?_
      refine lv_iload S.1 S.2.1 dX9_fill_37 (lv_at hl 0 rfl) ?_
      refine lv_iadd S.1 S.2.1 dX9_fill_39 ?_
      refine lv_topi (fun y39 ey39 => ?_)
      have hw := hw y39 ey39
      refine va_mmin S.1 S.2.1 (S.2.2.1.trans hl.1.symm) S.2.2.2.1 (S.2.2.2.2 _ (List.mem_of_getElem? (i := 2) rfl)) (S.2.2.2.2 _ (List.mem_of_getElem? (i := 3) rfl)) (S.2.2.2.2 _ (List.mem_of_getElem? (i := 4) rfl)) (S.2.2.2.2 _ (List.mem_of_getElem? (i := 5) rfl)) (Nat.le_of_ble_eq_true rfl) (Nat.le_of_ble_eq_true rfl) (Nat.zero_le _) (Nat.zero_le _) dX9_fill_40 ?_
      refine lv_topi (fun y40 ey40 => ?_)
      have hw := hw y40 ey40
      refine lv_istore_n (lv' := [(3, .int y40), (6, .int y29), (0, .ref h), (1, .int x1), (2, .int x2), (4, .int x4), (5, .int x5)]) S.1 S.2.1 dX9_fill_43 rfl hl (by decide) rfl (fun ls hl => ?_)
      refine lv_iload S.1 S.2.1 dX9_fill_44 (lv_at hl 5 rfl) ?_
      refine lv_iload_n S.1 S.2.1 dX9_fill_46 rfl (lv_at hl 4 rfl) ?_
      refine lv_iload S.1 S.2.1 dX9_fill_47 (lv_at hl 6 rfl) ?_
      refine lv_isub S.1 S.2.1 dX9_fill_49 ?_
      refine lv_topi (fun y49 ey49 => ?_)
      have hw := hw y49 ey49
      refine lv_iload S.1 S.2.1 dX9_fill_50 (lv_at hl 1 rfl) ?_
      refine lv_iadd S.1 S.2.1 dX9_fill_52 ?_
      refine lv_topi (fun y52 ey52 => ?_)
      have hw := hw y52 ey52
      refine va_mmin S.1 S.2.1 (S.2.2.1.trans hl.1.symm) S.2.2.2.1 (S.2.2.2.2 _ (List.mem_of_getElem? (i := 2) rfl)) (S.2.2.2.2 _ (List.mem_of_getElem? (i := 3) rfl)) (S.2.2.2.2 _ (List.mem_of_getElem? (i := 4) rfl)) (S.2.2.2.2 _ (List.mem_of_getElem? (i := 5) rfl)) (Nat.le_of_ble_eq_true rfl) (Nat.le_of_ble_eq_true rfl) (Nat.zero_le _) (Nat.zero_le _) dX9_fill_53 ?_
      refine lv_topi (fun y53 ey53 => ?_)
      have hw := hw y53 ey53
      refine lv_istore (lv' := [(4, .int y53), (3, .int y40), (6, .int y29), (0, .ref h), (1, .int x1), (2, .int x2), (5, .int x5)]) S.1 S.2.1 dX9_fill_56 hl (by decide) rfl (fun ls hl => ?_)
      obtain ⟨y58, ey58⟩ : ∃ z : Int32, z = x5 + 1 := ⟨_, rfl⟩
      have hw := hw y58 ey58
      refine lv_iinc (v := y58) (lv' := [(5, .int y58), (4, .int y53), (3, .int y40), (6, .int y29), (0, .ref h), (1, .int x1), (2, .int x2)]) S.1 S.2.1 dX9_fill_58 hl (k := 6) rfl (by rw [ey58]; rfl) (by decide) rfl (fun ls hl => ?_)
      refine lv_goto (tgt := 18) S.1 S.2.1 dX9_fill_61 (by decide) ?_
      exact hB18 x1 x2 y40 y53 y58 u29 hw H locs ls hI (lv_sub hl [4, 5, 6, 2, 1, 0] rfl)
  have b18 : ∀ (x1 : Int32) (x2 : Int32) (x3 : Int32) (x4 : Int32) (x5 : Int32) (u : ST), wp_X9_fill_p18 x1 x2 x3 x4 x5 u Q → mGo p l e ({ frames := 2, cells := 0, slots := 0, locals := 45 } : Room) s m args below meth c A Z 7 D (mT cs) (W9 h r q cs) 18 [(0, .ref h), (1, .int x1), (2, .int x2), (3, .int x3), (4, .int x4), (5, .int x5)] [] u := by
    intro x1 x2 x3 x4 x5 u hw
    obtain ⟨I, μ, h0, hs⟩ := hw
    have key : ∀ (n : Nat) (x1 : Int32) (x2 : Int32) (x3 : Int32) (x4 : Int32) (x5 : Int32) (u : ST), μ x1 x2 x3 x4 x5 u = n → I x1 x2 x3 x4 x5 u → mGo p l e ({ frames := 2, cells := 0, slots := 0, locals := 45 } : Room) s m args below meth c A Z 7 D (mT cs) (W9 h r q cs) 18 [(0, .ref h), (1, .int x1), (2, .int x2), (3, .int x3), (4, .int x4), (5, .int x5)] [] u := by
      intro n
      induction n using Nat.strongRecOn with
      | ind n ih =>
        intro x1 x2 x3 x4 x5 u hn hi
        exact b18b (fun yx1 yx2 yx3 yx4 yx5 yu => I yx1 yx2 yx3 yx4 yx5 yu ∧ μ yx1 yx2 yx3 yx4 yx5 yu < μ x1 x2 x3 x4 x5 u) (fun yx1 yx2 yx3 yx4 yx5 yu hb => ih _ (hn ▸ hb.2) yx1 yx2 yx3 yx4 yx5 yu rfl hb.1) x1 x2 x3 x4 x5 u (hs x1 x2 x3 x4 x5 u hi)
    exact key _ x1 x2 x3 x4 x5 u rfl h0
  have b11 : ∀ (x1 : Int32) (x2 : Int32) (t0 : Int32) (u : ST), wp_X9_fill_p11 x1 x2 t0 u Q → mGo p l e ({ frames := 2, cells := 0, slots := 0, locals := 45 } : Room) s m args below meth c A Z 7 D (mT cs) (W9 h r q cs) 11 [(0, .ref h), (1, .int x1), (2, .int x2)] [.int t0] u := by
    intro x1 x2 t0 u hw H locs ls hI hl
    unfold wp_X9_fill_p11 at hw
    refine lv_istore_n (lv' := [(3, .int t0), (0, .ref h), (1, .int x1), (2, .int x2)]) S.1 S.2.1 dX9_fill_11 rfl hl (by decide) rfl (fun ls hl => ?_)
    refine lv_iload_n S.1 S.2.1 dX9_fill_12 rfl (lv_at hl 0 rfl) ?_
    refine lv_istore (lv' := [(4, .int t0), (3, .int t0), (0, .ref h), (1, .int x1), (2, .int x2)]) S.1 S.2.1 dX9_fill_13 hl (by decide) rfl (fun ls hl => ?_)
    refine lv_iconst (v := 1) S.1 S.2.1 dX9_fill_15 (by decide) ?_
    refine lv_istore (lv' := [(5, .int (1 : Int32)), (4, .int t0), (3, .int t0), (0, .ref h), (1, .int x1), (2, .int x2)]) S.1 S.2.1 dX9_fill_16 hl (by decide) rfl (fun ls hl => ?_)
    exact b18 x1 x2 t0 t0 (1 : Int32) u hw H locs ls hI (lv_sub hl [3, 4, 5, 2, 1, 0] rfl)
  unfold wp_X9_fill at hw
  obtain ⟨H, hH⟩ : ∃ z : Heap, z = s.heap := ⟨_, rfl⟩
  obtain ⟨locs, hL⟩ : ∃ z : List Loc, z = [] := ⟨_, rfl⟩
  rw [show W p l e ({ frames := 2, cells := 0, slots := 0, locals := 45 } : Room) s m args below meth c s.heap [] 0 0 Z (F0 m 0 ls []) = W p l e ({ frames := 2, cells := 0, slots := 0, locals := 45 } : Room) s m args below meth c H locs 0 0 Z (F0 m 0 ls []) by rw [hH, hL]]
  replace hI : mI D (mT cs) A s.heap s (W9 h r q cs u) H locs := by rw [hH, hL]; exact hI
  refine lv_iload_n S.1 S.2.1 dX9_fill_0 rfl (lv_at hl 2 rfl) ?_
  refine lv_iconst (v := 1) S.1 S.2.1 dX9_fill_1 (by decide) ?_
  refine lv_icmp_ne (tgt := 9) S.1 S.2.1 dX9_fill_2 (by decide) (fun c2 => ?_) (fun c2 => ?_)
  · have hw := hw.1 c2
    refine lv_ldc S.1 S.2.1 S.2.2.2.1 (S.2.2.2.2 _ (List.mem_of_getElem? (i := 1) rfl)) dX9_fill_9 ?_
    exact b11 a1 a2 (268435456 : Int32) u hw H locs ls hI (lv_sub hl [0, 1, 2] rfl)
  · have hw := hw.2 c2
    refine lv_iconst (v := 0) S.1 S.2.1 dX9_fill_5 (by decide) ?_
    refine lv_goto (tgt := 11) S.1 S.2.1 dX9_fill_6 (by decide) ?_
    exact b11 a1 a2 (0 : Int32) u hw H locs ls hI (lv_sub hl [0, 1, 2] rfl)

def wp_X9_prepare_p23b (x1 : Int32) (x2 : Int32) (u : ST) (B15 : Int32 → ST → Prop) (B23 : Int32 → Int32 → ST → Prop) (Q : ST → Prop) : Prop :=
  (((25 : Int32) < x2 → (∀ y41 : Int32, y41 = x1 + 1 → B15 y41 u)) ∧ (¬ (25 : Int32) < x2 → (wp_X9_fill x1 x2 u (fun u32 => (∀ y35 : Int32, y35 = x2 + 1 → B23 x1 y35 u32)))))
def wp_X9_prepare_p23 (x1 : Int32) (x2 : Int32) (u : ST) (B15 : Int32 → ST → Prop) (Q : ST → Prop) : Prop := ∃ (I : Int32 → Int32 → ST → Prop) (μ : Int32 → Int32 → ST → Nat), I x1 x2 u ∧ ∀ (x1 : Int32) (x2 : Int32) (u : ST), I x1 x2 u → wp_X9_prepare_p23b x1 x2 u B15 (fun yx1 yx2 yu => I yx1 yx2 yu ∧ μ yx1 yx2 yu < μ x1 x2 u) Q
def wp_X9_prepare_p15b (x1 : Int32) (u : ST) (B15 : Int32 → ST → Prop) (Q : ST → Prop) : Prop :=
  (((6 : Int32) < x1 → Q u) ∧ (¬ (6 : Int32) < x1 → wp_X9_prepare_p23 x1 (1 : Int32) u B15 Q))
def wp_X9_prepare_p15 (x1 : Int32) (u : ST) (Q : ST → Prop) : Prop := ∃ (I : Int32 → ST → Prop) (μ : Int32 → ST → Nat), I x1 u ∧ ∀ (x1 : Int32) (u : ST), I x1 u → wp_X9_prepare_p15b x1 u (fun yx1 yu => I yx1 yu ∧ μ yx1 yu < μ x1 u) Q
def wp_X9_prepare (u : ST) (Q : ST → Prop) : Prop :=
  (((gI u 2) = 0 → (∀ u10 : ST, u10 = sI u 2 (1 : Int32) → wp_X9_prepare_p15 (0 : Int32) u10 Q)) ∧ (¬ (gI u 2) = 0 → Q u))
set_option maxHeartbeats 4000000 in
set_option maxRecDepth 100000 in
theorem c_X9_prepare (l : Launch) (D : va_G) (h : Nat) (r : Nat → Nat) (q : Nat → Nat → Nat) (cs : Nat → ClassId) (u : ST) (Q : ST → Prop) (hw : wp_X9_prepare u Q) : mCv l yX9_prepare wsX9_prepare ({ frames := 3, cells := 0, slots := 0, locals := 71 } : Room) 0 0 D (mT cs) (W9 h r q cs) [.ref h] u Q := by
  unfold mCv
  refine m_enter (QQ := fun A => va_Qv Q (mPos D (mT cs) A (W9 h r q cs)) A) (cc := cX9_prepare) (maxL := 3) (ret := none) (by decide) rfl (Nat.le_of_ble_eq_true rfl) ?_
  intro p e s m args below meth c A ls S hr hlocks hname hl hI
  have S : CallFix p m c cX9_prepare 3 s args wsX9_prepare RX9 := S
  show W p l e ({ frames := 3, cells := 0, slots := 0, locals := 71 } : Room) s m args below meth c s.heap [] 0 0 (MQ below (va_Qv Q (mPos D (mT cs) A (W9 h r q cs)) A) args s 0 0 A) (F0 m 0 ls [])
  generalize hZ : MQ below (va_Qv Q (mPos D (mT cs) A (W9 h r q cs)) A) args s 0 0 A = Z
  have hin : ∀ w ∈ wsX90, w ∈ wsX9_prepare := fun _ h => List.mem_cons_of_mem _ (List.mem_append_right _ h)
  have hl : lv_has ls 3 [(0, .ref h)] := hl
  have b23b : ∀ (B15 : Int32 → ST → Prop), (∀ (x1 : Int32) (u : ST), B15 x1 u → mGo p l e ({ frames := 3, cells := 0, slots := 0, locals := 71 } : Room) s m args below meth c A Z 3 D (mT cs) (W9 h r q cs) 15 [(0, .ref h), (1, .int x1)] [] u) → ∀ (B23 : Int32 → Int32 → ST → Prop), (∀ (x1 : Int32) (x2 : Int32) (u : ST), B23 x1 x2 u → mGo p l e ({ frames := 3, cells := 0, slots := 0, locals := 71 } : Room) s m args below meth c A Z 3 D (mT cs) (W9 h r q cs) 23 [(0, .ref h), (1, .int x1), (2, .int x2)] [] u) → ∀ (x1 : Int32) (x2 : Int32) (u : ST), wp_X9_prepare_p23b x1 x2 u B15 B23 Q → mGo p l e ({ frames := 3, cells := 0, slots := 0, locals := 71 } : Room) s m args below meth c A Z 3 D (mT cs) (W9 h r q cs) 23 [(0, .ref h), (1, .int x1), (2, .int x2)] [] u := by
    intro B15 hB15 B23 hB23 x1 x2 u hw H locs ls hI hl
    unfold wp_X9_prepare_p23b at hw
    refine lv_iload_n S.1 S.2.1 dX9_prepare_23 rfl (lv_at hl 2 rfl) ?_
    refine lv_bipush (v := 25) S.1 S.2.1 dX9_prepare_24 (by decide) ?_
    refine lv_icmp_gt (tgt := 41) S.1 S.2.1 dX9_prepare_26 (by decide) (fun c26 => ?_) (fun c26 => ?_)
    · have hw := hw.1 c26
      obtain ⟨y41, ey41⟩ : ∃ z : Int32, z = x1 + 1 := ⟨_, rfl⟩
      have hw := hw y41 ey41
      refine lv_iinc (v := y41) (lv' := [(1, .int y41), (0, .ref h), (2, .int x2)]) S.1 S.2.1 dX9_prepare_41 hl (k := 1) rfl (by rw [ey41]; rfl) (by decide) rfl (fun ls hl => ?_)
      refine lv_goto (tgt := 15) S.1 S.2.1 dX9_prepare_44 (by decide) ?_
      exact hB15 y41 u hw H locs ls hI (lv_sub hl [1, 0] rfl)
    · have hw := hw.2 c26
      refine lv_aload_n S.1 S.2.1 dX9_prepare_29 rfl (lv_at hl 0 rfl) ?_
      refine lv_iload_n S.1 S.2.1 dX9_prepare_30 rfl (lv_at hl 1 rfl) ?_
      refine lv_iload_n S.1 S.2.1 dX9_prepare_31 rfl (lv_at hl 2 rfl) ?_
      refine m_vv (As := [.int x1, .int x2]) (rest := []) S (W9_self h r q cs) hI rfl (c_X9_fill l D h r q cs x1 x2 u _ hw) (cwV 2 S.2.2.2.2 gX9_prepare_X9_fill rfl rfl rfl (by decide +kernel) ⟨Nat.le_of_ble_eq_true rfl, Nat.le_of_ble_eq_true rfl⟩) (W9_at0 h r q cs u) rfl rfl hl.1 rfl (Nat.le_of_ble_eq_true rfl) dX9_prepare_32 ⟨Nat.zero_le _, Nat.zero_le _⟩ (fun u32 H locs hw hI => ?_)
      obtain ⟨y35, ey35⟩ : ∃ z : Int32, z = x2 + 1 := ⟨_, rfl⟩
      have hw := hw y35 ey35
      refine lv_iinc (v := y35) (lv' := [(2, .int y35), (0, .ref h), (1, .int x1)]) S.1 S.2.1 dX9_prepare_35 hl (k := 2) rfl (by rw [ey35]; rfl) (by decide) rfl (fun ls hl => ?_)
      refine lv_goto (tgt := 23) S.1 S.2.1 dX9_prepare_38 (by decide) ?_
      exact hB23 x1 y35 u32 hw H locs ls hI (lv_sub hl [1, 2, 0] rfl)
  have b23 : ∀ (B15 : Int32 → ST → Prop), (∀ (x1 : Int32) (u : ST), B15 x1 u → mGo p l e ({ frames := 3, cells := 0, slots := 0, locals := 71 } : Room) s m args below meth c A Z 3 D (mT cs) (W9 h r q cs) 15 [(0, .ref h), (1, .int x1)] [] u) → ∀ (x1 : Int32) (x2 : Int32) (u : ST), wp_X9_prepare_p23 x1 x2 u B15 Q → mGo p l e ({ frames := 3, cells := 0, slots := 0, locals := 71 } : Room) s m args below meth c A Z 3 D (mT cs) (W9 h r q cs) 23 [(0, .ref h), (1, .int x1), (2, .int x2)] [] u := by
    intro B15 hB15 x1 x2 u hw
    obtain ⟨I, μ, h0, hs⟩ := hw
    have key : ∀ (n : Nat) (x1 : Int32) (x2 : Int32) (u : ST), μ x1 x2 u = n → I x1 x2 u → mGo p l e ({ frames := 3, cells := 0, slots := 0, locals := 71 } : Room) s m args below meth c A Z 3 D (mT cs) (W9 h r q cs) 23 [(0, .ref h), (1, .int x1), (2, .int x2)] [] u := by
      intro n
      induction n using Nat.strongRecOn with
      | ind n ih =>
        intro x1 x2 u hn hi
        exact b23b B15 hB15 (fun yx1 yx2 yu => I yx1 yx2 yu ∧ μ yx1 yx2 yu < μ x1 x2 u) (fun yx1 yx2 yu hb => ih _ (hn ▸ hb.2) yx1 yx2 yu rfl hb.1) x1 x2 u (hs x1 x2 u hi)
    exact key _ x1 x2 u rfl h0
  have b15b : ∀ (B15 : Int32 → ST → Prop), (∀ (x1 : Int32) (u : ST), B15 x1 u → mGo p l e ({ frames := 3, cells := 0, slots := 0, locals := 71 } : Room) s m args below meth c A Z 3 D (mT cs) (W9 h r q cs) 15 [(0, .ref h), (1, .int x1)] [] u) → ∀ (x1 : Int32) (u : ST), wp_X9_prepare_p15b x1 u B15 Q → mGo p l e ({ frames := 3, cells := 0, slots := 0, locals := 71 } : Room) s m args below meth c A Z 3 D (mT cs) (W9 h r q cs) 15 [(0, .ref h), (1, .int x1)] [] u := by
    intro B15 hB15 x1 u hw H locs ls hI hl
    unfold wp_X9_prepare_p15b at hw
    refine lv_iload_n S.1 S.2.1 dX9_prepare_15 rfl (lv_at hl 1 rfl) ?_
    refine lv_bipush (v := 6) S.1 S.2.1 dX9_prepare_16 (by decide) ?_
    refine lv_icmp_gt (tgt := 47) S.1 S.2.1 dX9_prepare_18 (by decide) (fun c18 => ?_) (fun c18 => ?_)
    · have hw := hw.1 c18
      subst hZ
      exact m_vret S hr hlocks hI hw dX9_prepare_47
    · have hw := hw.2 c18
      refine lv_iconst (v := 1) S.1 S.2.1 dX9_prepare_21 (by decide) ?_
      refine lv_istore_n (lv' := [(2, .int (1 : Int32)), (0, .ref h), (1, .int x1)]) S.1 S.2.1 dX9_prepare_22 rfl hl (by decide) rfl (fun ls hl => ?_)
      exact b23 B15 hB15 x1 (1 : Int32) u hw H locs ls hI (lv_sub hl [1, 2, 0] rfl)
  have b15 : ∀ (x1 : Int32) (u : ST), wp_X9_prepare_p15 x1 u Q → mGo p l e ({ frames := 3, cells := 0, slots := 0, locals := 71 } : Room) s m args below meth c A Z 3 D (mT cs) (W9 h r q cs) 15 [(0, .ref h), (1, .int x1)] [] u := by
    intro x1 u hw
    obtain ⟨I, μ, h0, hs⟩ := hw
    have key : ∀ (n : Nat) (x1 : Int32) (u : ST), μ x1 u = n → I x1 u → mGo p l e ({ frames := 3, cells := 0, slots := 0, locals := 71 } : Room) s m args below meth c A Z 3 D (mT cs) (W9 h r q cs) 15 [(0, .ref h), (1, .int x1)] [] u := by
      intro n
      induction n using Nat.strongRecOn with
      | ind n ih =>
        intro x1 u hn hi
        exact b15b (fun yx1 yu => I yx1 yu ∧ μ yx1 yu < μ x1 u) (fun yx1 yu hb => ih _ (hn ▸ hb.2) yx1 yu rfl hb.1) x1 u (hs x1 u hi)
    exact key _ x1 u rfl h0
  unfold wp_X9_prepare at hw
  obtain ⟨H, hH⟩ : ∃ z : Heap, z = s.heap := ⟨_, rfl⟩
  obtain ⟨locs, hL⟩ : ∃ z : List Loc, z = [] := ⟨_, rfl⟩
  rw [show W p l e ({ frames := 3, cells := 0, slots := 0, locals := 71 } : Room) s m args below meth c s.heap [] 0 0 Z (F0 m 0 ls []) = W p l e ({ frames := 3, cells := 0, slots := 0, locals := 71 } : Room) s m args below meth c H locs 0 0 Z (F0 m 0 ls []) by rw [hH, hL]]
  replace hI : mI D (mT cs) A s.heap s (W9 h r q cs u) H locs := by rw [hH, hL]; exact hI
  refine lv_aload_n S.1 S.2.1 dX9_prepare_0 rfl (lv_at hl 0 rfl) ?_
  refine m_get S hin hI 0 (W9_at0 h r q cs u) rfl 2 (Nat.le_of_ble_eq_true rfl) (List.mem_of_getElem? (i := 1) rfl) rfl (Ff9_at2 r u) dX9_prepare_1 ?_
  refine lv_if_eq (tgt := 8) S.1 S.2.1 dX9_prepare_4 (by decide) (fun c4 => ?_) (fun c4 => ?_)
  · have hw := hw.1 c4
    refine lv_aload_n S.1 S.2.1 dX9_prepare_8 rfl (lv_at hl 0 rfl) ?_
    refine lv_iconst (v := 1) S.1 S.2.1 dX9_prepare_9 (by decide) ?_
    obtain ⟨u10, eu10⟩ : ∃ z : ST, z = sI u 2 (1 : Int32) := ⟨_, rfl⟩
    have hw := hw u10 eu10
    refine m_put S hin tyX9_ok nmX9 hI 0 (W9_at0 h r q cs u) rfl 2 (Nat.le_of_ble_eq_true rfl) (List.mem_of_getElem? (i := 1) rfl) rfl rfl (by show Value.int ((1 : Int32) &&& 1) = _; rfl) rfl (Nat.le_of_ble_eq_true rfl) (W9_sI2 h r q cs u u10 (1 : Int32) eu10) dX9_prepare_10 (fun H locs hI => ?_)
    refine lv_iconst (v := 0) S.1 S.2.1 dX9_prepare_13 (by decide) ?_
    refine lv_istore_n (lv' := [(1, .int (0 : Int32)), (0, .ref h)]) S.1 S.2.1 dX9_prepare_14 rfl hl (by decide) rfl (fun ls hl => ?_)
    exact b15 (0 : Int32) u10 hw H locs ls hI (lv_sub hl [1, 0] rfl)
  · have hw := hw.2 c4
    subst hZ
    exact m_vret S hr hlocks hI hw dX9_prepare_7

/-- TwoJars$Tower: what its object holds -/
def Ff8 (r : Nat → Nat) (u : ST) : List Value := [.ref (r 0), .ref (r 1), .ref (r 2), .ref (r 3), .int (gI u 4), .int (gI u 5)]
def W8 (h : Nat) (r : Nat → Nat) (cs : Nat → ClassId) (u : ST) : va_W := [(h, .inr (8, Ff8 r u)), (r 0, .inl (cs 0, 4, .inl (gA u 0))), (r 1, .inl (cs 0, 40, .inl (gA u 1))), (r 2, .inl (cs 0, 40, .inl (gA u 2))), (r 3, .inl (cs 0, 40, .inl (gA u 3)))]
theorem W8_at0 (h : Nat) (r : Nat → Nat) (cs : Nat → ClassId) (u : ST) : (W8 h r cs u)[0]? = some (h, .inr (8, Ff8 r u)) := rfl
theorem W8_at1 (h : Nat) (r : Nat → Nat) (cs : Nat → ClassId) (u : ST) : (W8 h r cs u)[1]? = some (r 0, .inl (cs 0, 4, .inl (gA u 0))) := rfl
theorem W8_at2 (h : Nat) (r : Nat → Nat) (cs : Nat → ClassId) (u : ST) : (W8 h r cs u)[2]? = some (r 1, .inl (cs 0, 40, .inl (gA u 1))) := rfl
theorem W8_at3 (h : Nat) (r : Nat → Nat) (cs : Nat → ClassId) (u : ST) : (W8 h r cs u)[3]? = some (r 2, .inl (cs 0, 40, .inl (gA u 2))) := rfl
theorem W8_at4 (h : Nat) (r : Nat → Nat) (cs : Nat → ClassId) (u : ST) : (W8 h r cs u)[4]? = some (r 3, .inl (cs 0, 40, .inl (gA u 3))) := rfl
theorem Ff8_at0 (r : Nat → Nat) (u : ST) : (Ff8 r u)[0]? = some (.ref (r 0)) := rfl
theorem Ff8_at1 (r : Nat → Nat) (u : ST) : (Ff8 r u)[1]? = some (.ref (r 1)) := rfl
theorem Ff8_at2 (r : Nat → Nat) (u : ST) : (Ff8 r u)[2]? = some (.ref (r 2)) := rfl
theorem Ff8_at3 (r : Nat → Nat) (u : ST) : (Ff8 r u)[3]? = some (.ref (r 3)) := rfl
theorem Ff8_at4 (r : Nat → Nat) (u : ST) : (Ff8 r u)[4]? = some (.int (gI u 4)) := rfl
theorem Ff8_at5 (r : Nat → Nat) (u : ST) : (Ff8 r u)[5]? = some (.int (gI u 5)) := rfl
theorem W8_sI4 (h : Nat) (r : Nat → Nat) (cs : Nat → ClassId) (u u9 : ST) (x : Int32) (e : u9 = sI u 4 x) : (W8 h r cs u).set 0 (h, .inr (8, (Ff8 r u).set 4 (.int x))) = W8 h r cs u9 := by subst e; rfl
theorem W8_sI5 (h : Nat) (r : Nat → Nat) (cs : Nat → ClassId) (u u9 : ST) (x : Int32) (e : u9 = sI u 5 x) : (W8 h r cs u).set 0 (h, .inr (8, (Ff8 r u).set 5 (.int x))) = W8 h r cs u9 := by subst e; rfl
theorem W8_sA0 (h : Nat) (r : Nat → Nat) (cs : Nat → ClassId) (u u9 : ST) (f : Nat → Int32) (e : u9 = sA u 0 f) : (W8 h r cs u).set 1 (r 0, .inl (cs 0, 4, .inl f)) = W8 h r cs u9 := by subst e; rfl
theorem W8_sA1 (h : Nat) (r : Nat → Nat) (cs : Nat → ClassId) (u u9 : ST) (f : Nat → Int32) (e : u9 = sA u 1 f) : (W8 h r cs u).set 2 (r 1, .inl (cs 0, 40, .inl f)) = W8 h r cs u9 := by subst e; rfl
theorem W8_sA2 (h : Nat) (r : Nat → Nat) (cs : Nat → ClassId) (u u9 : ST) (f : Nat → Int32) (e : u9 = sA u 2 f) : (W8 h r cs u).set 3 (r 2, .inl (cs 0, 40, .inl f)) = W8 h r cs u9 := by subst e; rfl
theorem W8_sA3 (h : Nat) (r : Nat → Nat) (cs : Nat → ClassId) (u u9 : ST) (f : Nat → Int32) (e : u9 = sA u 3 f) : (W8 h r cs u).set 4 (r 3, .inl (cs 0, 40, .inl f)) = W8 h r cs u9 := by subst e; rfl
theorem W8_self (h : Nat) (r : Nat → Nat) (cs : Nat → ClassId) : ∀ v, (W8 h r cs v).Perm ([] ++ (W8 h r cs v ++ [])) := fun v => by rw [List.append_nil, List.nil_append]

def wp_X8_fits_p31 (t0 : Int32) (u : ST) (Q : Int32 → ST → Prop) : Prop :=
  (t0 &&& 1 = t0 ∧ Q t0 u)
def wp_X8_fits_p30 (u : ST) (Q : Int32 → ST → Prop) : Prop :=
  wp_X8_fits_p31 (0 : Int32) u Q
def wp_X8_fits (a0 : Int32) (a1 : Int32) (u : ST) (Q : Int32 → ST → Prop) : Prop :=
  (wp_X11_within a0 (0 : Int32) (3 : Int32) (fun y3 => ((y3 = 0 → wp_X8_fits_p30 u Q) ∧ (¬ y3 = 0 → (vp_in a0 4 ∧ ∀ y14 : Int32, y14 = xLEAST a0.toNatClampNeg → (vp_in a0 4 ∧ ∀ y19 : Int32, y19 = xMOST a0.toNatClampNeg → (wp_X11_within a1 y14 y19 (fun y20 => ((y20 = 0 → wp_X8_fits_p30 u Q) ∧ (¬ y20 = 0 → wp_X8_fits_p31 (1 : Int32) u Q))))))))))
set_option maxHeartbeats 4000000 in
set_option maxRecDepth 100000 in
theorem c_X8_fits (l : Launch) (D : va_G) (cs : Nat → ClassId) (a0 : Int32) (a1 : Int32) (u : ST) (Q : Int32 → ST → Prop) (hw : wp_X8_fits a0 a1 u Q) : mCi l yX8_fits wsX8_fits ({ frames := 1, cells := 0, slots := 0, locals := 22 } : Room) 0 0 D (mT cs) (mE) [.int a0, .int a1] u Q := by
  unfold mCi
  refine m_enter (QQ := fun A => va_Qi Q (mPos D (mT cs) A (mE)) A) (cc := cX8_fits) (maxL := 2) (ret := (some .boolean)) (by decide) rfl (Nat.le_of_ble_eq_true rfl) ?_
  intro p e s m args below meth c A ls S hr hlocks hname hl hI
  have S : CallFix p m c cX8_fits 2 s args wsX8_fits RX8 := S
  show W p l e ({ frames := 1, cells := 0, slots := 0, locals := 22 } : Room) s m args below meth c s.heap [] 0 0 (MQ below (va_Qi Q (mPos D (mT cs) A (mE)) A) args s 0 0 A) (F0 m 0 ls [])
  generalize hZ : MQ below (va_Qi Q (mPos D (mT cs) A (mE)) A) args s 0 0 A = Z
  have hl : lv_has ls 2 [(0, .int a0), (1, .int a1)] := hl
  have b31 : ∀ (t0 : Int32) (u : ST), wp_X8_fits_p31 t0 u Q → mGo p l e ({ frames := 1, cells := 0, slots := 0, locals := 22 } : Room) s m args below meth c A Z 2 D (mT cs) (mE) 31 [] [.int t0] u := by
    intro t0 u hw H locs ls hI hl
    unfold wp_X8_fits_p31 at hw
    subst hZ
    exact m_zret S hr hlocks hI hw.1 hw.2 dX8_fits_31
  have b30 : ∀ (u : ST), wp_X8_fits_p30 u Q → mGo p l e ({ frames := 1, cells := 0, slots := 0, locals := 22 } : Room) s m args below meth c A Z 2 D (mT cs) (mE) 30 [] [] u := by
    intro u hw H locs ls hI hl
    unfold wp_X8_fits_p30 at hw
    refine lv_iconst (v := 0) S.1 S.2.1 dX8_fits_30 (by decide) ?_
    exact b31 (0 : Int32) u hw H locs ls hI (lv_sub hl [] rfl)
  unfold wp_X8_fits at hw
  obtain ⟨H, hH⟩ : ∃ z : Heap, z = s.heap := ⟨_, rfl⟩
  obtain ⟨locs, hL⟩ : ∃ z : List Loc, z = [] := ⟨_, rfl⟩
  rw [show W p l e ({ frames := 1, cells := 0, slots := 0, locals := 22 } : Room) s m args below meth c s.heap [] 0 0 Z (F0 m 0 ls []) = W p l e ({ frames := 1, cells := 0, slots := 0, locals := 22 } : Room) s m args below meth c H locs 0 0 Z (F0 m 0 ls []) by rw [hH, hL]]
  replace hI : mI D (mT cs) A s.heap s (mE u) H locs := by rw [hH, hL]; exact hI
  refine lv_iload_n S.1 S.2.1 dX8_fits_0 rfl (lv_at hl 0 rfl) ?_
  refine lv_iconst (v := 0) S.1 S.2.1 dX8_fits_1 (by decide) ?_
  refine lv_iconst (v := 3) S.1 S.2.1 dX8_fits_2 (by decide) ?_
  refine m_siN (As := [.int a0, .int (0 : Int32), .int (3 : Int32)]) (rest := []) S hI.2.2.2.1.2.1 (c_X11_within l a0 (0 : Int32) (3 : Int32) _ hw) 3 gX8_fits_X11_within_n24 rfl rfl rfl nm_X8_24 (List.mem_of_getElem? (i := 4) rfl) (List.mem_of_getElem? (i := 3) rfl) (by decide +kernel) ⟨Nat.le_of_ble_eq_true rfl, Nat.le_of_ble_eq_true rfl⟩ rfl hl.1 rfl (Nat.le_of_ble_eq_true rfl) dX8_fits_3 ⟨Nat.zero_le _, Nat.zero_le _⟩ (fun y3 hw => ?_)
  refine lv_if_eq (tgt := 30) S.1 S.2.1 dX8_fits_6 (by decide) (fun c6 => ?_) (fun c6 => ?_)
  · have hw := hw.1 c6
    exact b30 u hw H locs ls hI (lv_sub hl [] rfl)
  · have hw := hw.2 c6
    refine lv_iload_n S.1 S.2.1 dX8_fits_9 rfl (lv_at hl 1 rfl) ?_
    refine m_gets S hI hI.2.2.2.1.2.2.1 (List.mem_of_getElem? (i := 1) rfl) dX8_fits_10 (fun t10 ht10 => ?_)
    refine lv_iload_n S.1 S.2.1 dX8_fits_13 rfl (lv_at hl 0 rfl) ?_
    refine m_ti S hI ht10 hw.1 dX8_fits_14 ?_
    refine lv_topi (fun y14 ey14 => ?_)
    have hw := hw.2 y14 ey14
    refine m_gets S hI hI.2.2.2.1.2.2.2.1 (List.mem_of_getElem? (i := 2) rfl) dX8_fits_15 (fun t15 ht15 => ?_)
    refine lv_iload_n S.1 S.2.1 dX8_fits_18 rfl (lv_at hl 0 rfl) ?_
    refine m_ti S hI ht15 hw.1 dX8_fits_19 ?_
    refine lv_topi (fun y19 ey19 => ?_)
    have hw := hw.2 y19 ey19
    refine m_siN (As := [.int a1, .int y14, .int y19]) (rest := []) S hI.2.2.2.1.2.1 (c_X11_within l a1 y14 y19 _ hw) 3 gX8_fits_X11_within_n24 rfl rfl rfl nm_X8_24 (List.mem_of_getElem? (i := 4) rfl) (List.mem_of_getElem? (i := 3) rfl) (by decide +kernel) ⟨Nat.le_of_ble_eq_true rfl, Nat.le_of_ble_eq_true rfl⟩ rfl hl.1 rfl (Nat.le_of_ble_eq_true rfl) dX8_fits_20 ⟨Nat.zero_le _, Nat.zero_le _⟩ (fun y20 hw => ?_)
    refine lv_if_eq (tgt := 30) S.1 S.2.1 dX8_fits_23 (by decide) (fun c23 => ?_) (fun c23 => ?_)
    · have hw := hw.1 c23
      exact b30 u hw H locs ls hI (lv_sub hl [] rfl)
    · have hw := hw.2 c23
      refine lv_iconst (v := 1) S.1 S.2.1 dX8_fits_26 (by decide) ?_
      refine lv_goto (tgt := 31) S.1 S.2.1 dX8_fits_27 (by decide) ?_
      exact b31 (1 : Int32) u hw H locs ls hI (lv_sub hl [] rfl)

def wp_X8_value_p19 (t0 : Int32) (u : ST) (Q : Int32 → ST → Prop) : Prop :=
  Q t0 u
def wp_X8_value (a1 : Int32) (u : ST) (Q : Int32 → ST → Prop) : Prop :=
  (wp_X11_within a1 (0 : Int32) (3 : Int32) (fun y3 => ((y3 = 0 → wp_X8_value_p19 ((-1) : Int32) u Q) ∧ (¬ y3 = 0 → (vp_in a1 4 ∧ ∀ y14 : Int32, y14 = gA u 0 a1.toNatClampNeg → wp_X8_value_p19 y14 u Q)))))
set_option maxHeartbeats 4000000 in
set_option maxRecDepth 100000 in
theorem c_X8_value (l : Launch) (D : va_G) (h : Nat) (r : Nat → Nat) (cs : Nat → ClassId) (a1 : Int32) (u : ST) (Q : Int32 → ST → Prop) (hw : wp_X8_value a1 u Q) : mCi l yX8_value wsX8_value ({ frames := 1, cells := 0, slots := 0, locals := 22 } : Room) 0 0 D (mT cs) (W8 h r cs) [.ref h, .int a1] u Q := by
  unfold mCi
  refine m_enter (QQ := fun A => va_Qi Q (mPos D (mT cs) A (W8 h r cs)) A) (cc := cX8_value) (maxL := 2) (ret := (some .int)) (by decide) rfl (Nat.le_of_ble_eq_true rfl) ?_
  intro p e s m args below meth c A ls S hr hlocks hname hl hI
  have S : CallFix p m c cX8_value 2 s args wsX8_value RX8 := S
  show W p l e ({ frames := 1, cells := 0, slots := 0, locals := 22 } : Room) s m args below meth c s.heap [] 0 0 (MQ below (va_Qi Q (mPos D (mT cs) A (W8 h r cs)) A) args s 0 0 A) (F0 m 0 ls [])
  generalize hZ : MQ below (va_Qi Q (mPos D (mT cs) A (W8 h r cs)) A) args s 0 0 A = Z
  have hin : ∀ w ∈ wsX80, w ∈ wsX8_value := fun _ h => List.mem_cons_of_mem _ (List.mem_append_right _ h)
  have hl : lv_has ls 2 [(0, .ref h), (1, .int a1)] := hl
  have b19 : ∀ (t0 : Int32) (u : ST), wp_X8_value_p19 t0 u Q → mGo p l e ({ frames := 1, cells := 0, slots := 0, locals := 22 } : Room) s m args below meth c A Z 2 D (mT cs) (W8 h r cs) 19 [(0, .ref h)] [.int t0] u := by
    intro t0 u hw H locs ls hI hl
    unfold wp_X8_value_p19 at hw
    subst hZ
    exact m_iret S hr hlocks hI hw dX8_value_19
  unfold wp_X8_value at hw
  obtain ⟨H, hH⟩ : ∃ z : Heap, z = s.heap := ⟨_, rfl⟩
  obtain ⟨locs, hL⟩ : ∃ z : List Loc, z = [] := ⟨_, rfl⟩
  rw [show W p l e ({ frames := 1, cells := 0, slots := 0, locals := 22 } : Room) s m args below meth c s.heap [] 0 0 Z (F0 m 0 ls []) = W p l e ({ frames := 1, cells := 0, slots := 0, locals := 22 } : Room) s m args below meth c H locs 0 0 Z (F0 m 0 ls []) by rw [hH, hL]]
  replace hI : mI D (mT cs) A s.heap s (W8 h r cs u) H locs := by rw [hH, hL]; exact hI
  refine lv_iload_n S.1 S.2.1 dX8_value_0 rfl (lv_at hl 1 rfl) ?_
  refine lv_iconst (v := 0) S.1 S.2.1 dX8_value_1 (by decide) ?_
  refine lv_iconst (v := 3) S.1 S.2.1 dX8_value_2 (by decide) ?_
  refine m_siN (As := [.int a1, .int (0 : Int32), .int (3 : Int32)]) (rest := []) S hI.2.2.2.1.2.1 (c_X11_within l a1 (0 : Int32) (3 : Int32) _ hw) 3 gX8_value_X11_within_n24 rfl rfl rfl nm_X8_24 (List.mem_of_getElem? (i := 3) rfl) (List.mem_of_getElem? (i := 2) rfl) (by decide +kernel) ⟨Nat.le_of_ble_eq_true rfl, Nat.le_of_ble_eq_true rfl⟩ rfl hl.1 rfl (Nat.le_of_ble_eq_true rfl) dX8_value_3 ⟨Nat.zero_le _, Nat.zero_le _⟩ (fun y3 hw => ?_)
  refine lv_if_eq (tgt := 18) S.1 S.2.1 dX8_value_6 (by decide) (fun c6 => ?_) (fun c6 => ?_)
  · have hw := hw.1 c6
    refine lv_iconst (v := (-1)) S.1 S.2.1 dX8_value_18 (by decide) ?_
    exact b19 ((-1) : Int32) u hw H locs ls hI (lv_sub hl [0] rfl)
  · have hw := hw.2 c6
    refine lv_aload_n S.1 S.2.1 dX8_value_9 rfl (lv_at hl 0 rfl) ?_
    refine m_get S hin hI 0 (W8_at0 h r cs u) rfl 0 (Nat.le_of_ble_eq_true rfl) (List.mem_of_getElem? (i := 1) rfl) rfl (Ff8_at0 r u) dX8_value_10 ?_
    refine lv_iload_n S.1 S.2.1 dX8_value_13 rfl (lv_at hl 1 rfl) ?_
    refine m_iald S hI 1 0 (W8_at1 h r cs u) rfl hw.1 dX8_value_14 ?_
    refine lv_topi (fun y14 ey14 => ?_)
    have hw := hw.2 y14 ey14
    refine lv_goto (tgt := 19) S.1 S.2.1 dX8_value_15 (by decide) ?_
    exact b19 y14 u hw H locs ls hI (lv_sub hl [0] rfl)

def wp_X8_steps (u : ST) (Q : Int32 → ST → Prop) : Prop :=
  (vp_in (0 : Int32) 4 ∧ ∀ y5 : Int32, y5 = gA u 0 (0 : Int32).toNatClampNeg → Q y5 u)
set_option maxHeartbeats 4000000 in
set_option maxRecDepth 100000 in
theorem c_X8_steps (l : Launch) (D : va_G) (h : Nat) (r : Nat → Nat) (cs : Nat → ClassId) (u : ST) (Q : Int32 → ST → Prop) (hw : wp_X8_steps u Q) : mCi l yX8_steps wsX8_steps ({ frames := 0, cells := 0, slots := 0, locals := 0 } : Room) 0 0 D (mT cs) (W8 h r cs) [.ref h] u Q := by
  unfold mCi
  refine m_enter (QQ := fun A => va_Qi Q (mPos D (mT cs) A (W8 h r cs)) A) (cc := cX8_steps) (maxL := 1) (ret := (some .int)) (by decide) rfl (Nat.le_of_ble_eq_true rfl) ?_
  intro p e s m args below meth c A ls S hr hlocks hname hl hI
  have S : CallFix p m c cX8_steps 1 s args wsX8_steps RX8 := S
  show W p l e ({ frames := 0, cells := 0, slots := 0, locals := 0 } : Room) s m args below meth c s.heap [] 0 0 (MQ below (va_Qi Q (mPos D (mT cs) A (W8 h r cs)) A) args s 0 0 A) (F0 m 0 ls [])
  generalize hZ : MQ below (va_Qi Q (mPos D (mT cs) A (W8 h r cs)) A) args s 0 0 A = Z
  have hin : ∀ w ∈ wsX80, w ∈ wsX8_steps := fun _ h => List.mem_cons_of_mem _ (List.mem_append_right _ h)
  have hl : lv_has ls 1 [(0, .ref h)] := hl
  unfold wp_X8_steps at hw
  obtain ⟨H, hH⟩ : ∃ z : Heap, z = s.heap := ⟨_, rfl⟩
  obtain ⟨locs, hL⟩ : ∃ z : List Loc, z = [] := ⟨_, rfl⟩
  rw [show W p l e ({ frames := 0, cells := 0, slots := 0, locals := 0 } : Room) s m args below meth c s.heap [] 0 0 Z (F0 m 0 ls []) = W p l e ({ frames := 0, cells := 0, slots := 0, locals := 0 } : Room) s m args below meth c H locs 0 0 Z (F0 m 0 ls []) by rw [hH, hL]]
  replace hI : mI D (mT cs) A s.heap s (W8 h r cs u) H locs := by rw [hH, hL]; exact hI
  refine lv_aload_n S.1 S.2.1 dX8_steps_0 rfl (lv_at hl 0 rfl) ?_
  refine m_get S hin hI 0 (W8_at0 h r cs u) rfl 0 (Nat.le_of_ble_eq_true rfl) (List.mem_of_getElem? (i := 1) rfl) rfl (Ff8_at0 r u) dX8_steps_1 ?_
  refine lv_iconst (v := 0) S.1 S.2.1 dX8_steps_4 (by decide) ?_
  refine m_iald S hI 1 0 (W8_at1 h r cs u) rfl hw.1 dX8_steps_5 ?_
  refine lv_topi (fun y5 ey5 => ?_)
  have hw := hw.2 y5 ey5
  subst hZ
  exact m_iret S hr hlocks hI hw dX8_steps_6

def wp_X8_jars (u : ST) (Q : Int32 → ST → Prop) : Prop :=
  (vp_in (1 : Int32) 4 ∧ ∀ y5 : Int32, y5 = gA u 0 (1 : Int32).toNatClampNeg → Q y5 u)
set_option maxHeartbeats 4000000 in
set_option maxRecDepth 100000 in
theorem c_X8_jars (l : Launch) (D : va_G) (h : Nat) (r : Nat → Nat) (cs : Nat → ClassId) (u : ST) (Q : Int32 → ST → Prop) (hw : wp_X8_jars u Q) : mCi l yX8_jars wsX8_jars ({ frames := 0, cells := 0, slots := 0, locals := 0 } : Room) 0 0 D (mT cs) (W8 h r cs) [.ref h] u Q := by
  unfold mCi
  refine m_enter (QQ := fun A => va_Qi Q (mPos D (mT cs) A (W8 h r cs)) A) (cc := cX8_jars) (maxL := 1) (ret := (some .int)) (by decide) rfl (Nat.le_of_ble_eq_true rfl) ?_
  intro p e s m args below meth c A ls S hr hlocks hname hl hI
  have S : CallFix p m c cX8_jars 1 s args wsX8_jars RX8 := S
  show W p l e ({ frames := 0, cells := 0, slots := 0, locals := 0 } : Room) s m args below meth c s.heap [] 0 0 (MQ below (va_Qi Q (mPos D (mT cs) A (W8 h r cs)) A) args s 0 0 A) (F0 m 0 ls [])
  generalize hZ : MQ below (va_Qi Q (mPos D (mT cs) A (W8 h r cs)) A) args s 0 0 A = Z
  have hin : ∀ w ∈ wsX80, w ∈ wsX8_jars := fun _ h => List.mem_cons_of_mem _ (List.mem_append_right _ h)
  have hl : lv_has ls 1 [(0, .ref h)] := hl
  unfold wp_X8_jars at hw
  obtain ⟨H, hH⟩ : ∃ z : Heap, z = s.heap := ⟨_, rfl⟩
  obtain ⟨locs, hL⟩ : ∃ z : List Loc, z = [] := ⟨_, rfl⟩
  rw [show W p l e ({ frames := 0, cells := 0, slots := 0, locals := 0 } : Room) s m args below meth c s.heap [] 0 0 Z (F0 m 0 ls []) = W p l e ({ frames := 0, cells := 0, slots := 0, locals := 0 } : Room) s m args below meth c H locs 0 0 Z (F0 m 0 ls []) by rw [hH, hL]]
  replace hI : mI D (mT cs) A s.heap s (W8 h r cs u) H locs := by rw [hH, hL]; exact hI
  refine lv_aload_n S.1 S.2.1 dX8_jars_0 rfl (lv_at hl 0 rfl) ?_
  refine m_get S hin hI 0 (W8_at0 h r cs u) rfl 0 (Nat.le_of_ble_eq_true rfl) (List.mem_of_getElem? (i := 1) rfl) rfl (Ff8_at0 r u) dX8_jars_1 ?_
  refine lv_iconst (v := 1) S.1 S.2.1 dX8_jars_4 (by decide) ?_
  refine m_iald S hI 1 0 (W8_at1 h r cs u) rfl hw.1 dX8_jars_5 ?_
  refine lv_topi (fun y5 ey5 => ?_)
  have hw := hw.2 y5 ey5
  subst hZ
  exact m_iret S hr hlocks hI hw dX8_jars_6

def wp_X8_forgetOldest_p2b (x1 : Int32) (u : ST) (B2 : Int32 → ST → Prop) (Q : ST → Prop) : Prop :=
  (((40 : Int32) ≤ x1 → (∀ u59 : ST, u59 = sI u 4 (39 : Int32) → Q u59)) ∧ (¬ (40 : Int32) ≤ x1 → (∀ y14 : Int32, y14 = x1 - (1 : Int32) → (vp_in x1 40 ∧ ∀ y20 : Int32, y20 = gA u 1 x1.toNatClampNeg → (vp_in y14 40 ∧ ∀ u21 : ST, u21 = sA u 1 (upd (gA u 1) y14.toNatClampNeg y20) → (∀ y28 : Int32, y28 = x1 - (1 : Int32) → (vp_in x1 40 ∧ ∀ y34 : Int32, y34 = gA u21 2 x1.toNatClampNeg → (vp_in y28 40 ∧ ∀ u35 : ST, u35 = sA u21 2 (upd (gA u21 2) y28.toNatClampNeg y34) → (∀ y42 : Int32, y42 = x1 - (1 : Int32) → (vp_in x1 40 ∧ ∀ y48 : Int32, y48 = gA u35 3 x1.toNatClampNeg → (vp_in y42 40 ∧ ∀ u49 : ST, u49 = sA u35 3 (upd (gA u35 3) y42.toNatClampNeg y48) → (∀ y50 : Int32, y50 = x1 + 1 → B2 y50 u49))))))))))))
def wp_X8_forgetOldest_p2 (x1 : Int32) (u : ST) (Q : ST → Prop) : Prop := ∃ (I : Int32 → ST → Prop) (μ : Int32 → ST → Nat), I x1 u ∧ ∀ (x1 : Int32) (u : ST), I x1 u → wp_X8_forgetOldest_p2b x1 u (fun yx1 yu => I yx1 yu ∧ μ yx1 yu < μ x1 u) Q
def wp_X8_forgetOldest (u : ST) (Q : ST → Prop) : Prop :=
  wp_X8_forgetOldest_p2 (1 : Int32) u Q
set_option maxHeartbeats 4000000 in
set_option maxRecDepth 100000 in
theorem c_X8_forgetOldest (l : Launch) (D : va_G) (h : Nat) (r : Nat → Nat) (cs : Nat → ClassId) (u : ST) (Q : ST → Prop) (hw : wp_X8_forgetOldest u Q) : mCv l yX8_forgetOldest wsX8_forgetOldest ({ frames := 0, cells := 0, slots := 0, locals := 0 } : Room) 0 0 D (mT cs) (W8 h r cs) [.ref h] u Q := by
  unfold mCv
  refine m_enter (QQ := fun A => va_Qv Q (mPos D (mT cs) A (W8 h r cs)) A) (cc := cX8_forgetOldest) (maxL := 2) (ret := none) (by decide) rfl (Nat.le_of_ble_eq_true rfl) ?_
  intro p e s m args below meth c A ls S hr hlocks hname hl hI
  have S : CallFix p m c cX8_forgetOldest 2 s args wsX8_forgetOldest RX8 := S
  show W p l e ({ frames := 0, cells := 0, slots := 0, locals := 0 } : Room) s m args below meth c s.heap [] 0 0 (MQ below (va_Qv Q (mPos D (mT cs) A (W8 h r cs)) A) args s 0 0 A) (F0 m 0 ls [])
  generalize hZ : MQ below (va_Qv Q (mPos D (mT cs) A (W8 h r cs)) A) args s 0 0 A = Z
  have hin : ∀ w ∈ wsX80, w ∈ wsX8_forgetOldest := fun _ h => List.mem_cons_of_mem _ (List.mem_append_right _ h)
  have hl : lv_has ls 2 [(0, .ref h)] := hl
  have b2b : ∀ (B2 : Int32 → ST → Prop), (∀ (x1 : Int32) (u : ST), B2 x1 u → mGo p l e ({ frames := 0, cells := 0, slots := 0, locals := 0 } : Room) s m args below meth c A Z 2 D (mT cs) (W8 h r cs) 2 [(0, .ref h), (1, .int x1)] [] u) → ∀ (x1 : Int32) (u : ST), wp_X8_forgetOldest_p2b x1 u B2 Q → mGo p l e ({ frames := 0, cells := 0, slots := 0, locals := 0 } : Room) s m args below meth c A Z 2 D (mT cs) (W8 h r cs) 2 [(0, .ref h), (1, .int x1)] [] u := by
    intro B2 hB2 x1 u hw H locs ls hI hl
    unfold wp_X8_forgetOldest_p2b at hw
    refine lv_iload_n S.1 S.2.1 dX8_forgetOldest_2 rfl (lv_at hl 1 rfl) ?_
    refine lv_bipush (v := 40) S.1 S.2.1 dX8_forgetOldest_3 (by decide) ?_
    refine lv_icmp_ge (tgt := 56) S.1 S.2.1 dX8_forgetOldest_5 (by decide) (fun c5 => ?_) (fun c5 => ?_)
    · have hw := hw.1 c5
      refine lv_aload_n S.1 S.2.1 dX8_forgetOldest_56 rfl (lv_at hl 0 rfl) ?_
      refine lv_bipush (v := 39) S.1 S.2.1 dX8_forgetOldest_57 (by decide) ?_
      obtain ⟨u59, eu59⟩ : ∃ z : ST, z = sI u 4 (39 : Int32) := ⟨_, rfl⟩
      have hw := hw u59 eu59
      refine m_put S hin tyX8_ok nmX8 hI 0 (W8_at0 h r cs u) rfl 4 (Nat.le_of_ble_eq_true rfl) (List.mem_of_getElem? (i := 4) rfl) rfl rfl rfl rfl (Nat.le_of_ble_eq_true rfl) (W8_sI4 h r cs u u59 (39 : Int32) eu59) dX8_forgetOldest_59 (fun H locs hI => ?_)
      subst hZ
      exact m_vret S hr hlocks hI hw dX8_forgetOldest_62
    · have hw := hw.2 c5
      refine lv_aload_n S.1 S.2.1 dX8_forgetOldest_8 rfl (lv_at hl 0 rfl) ?_
      refine m_get S hin hI 0 (W8_at0 h r cs u) rfl 1 (Nat.le_of_ble_eq_true rfl) (List.mem_of_getElem? (i := 1) rfl) rfl (Ff8_at1 r u) dX8_forgetOldest_9 ?_
      refine lv_iload_n S.1 S.2.1 dX8_forgetOldest_12 rfl (lv_at hl 1 rfl) ?_
      refine lv_iconst (v := 1) S.1 S.2.1 dX8_forgetOldest_13 (by decide) ?_
      refine lv_isub S.1 S.2.1 dX8_forgetOldest_14 ?_
      refine lv_topi (fun y14 ey14 => ?_)
      have hw := hw y14 ey14
      refine lv_aload_n S.1 S.2.1 dX8_forgetOldest_15 rfl (lv_at hl 0 rfl) ?_
      refine m_get S hin hI 0 (W8_at0 h r cs u) rfl 1 (Nat.le_of_ble_eq_true rfl) (List.mem_of_getElem? (i := 1) rfl) rfl (Ff8_at1 r u) dX8_forgetOldest_16 ?_
      refine lv_iload_n S.1 S.2.1 dX8_forgetOldest_19 rfl (lv_at hl 1 rfl) ?_
      refine m_iald S hI 2 0 (W8_at2 h r cs u) rfl hw.1 dX8_forgetOldest_20 ?_
      refine lv_topi (fun y20 ey20 => ?_)
      have hw := hw.2 y20 ey20
      obtain ⟨u21, eu21⟩ : ∃ z : ST, z = sA u 1 (upd (gA u 1) y14.toNatClampNeg y20) := ⟨_, rfl⟩
      refine m_iast S hI 2 0 (W8_at2 h r cs u) rfl hw.1 (W8_sA1 h r cs u u21 _ eu21) dX8_forgetOldest_21 (fun H locs hI => ?_)
      have hw := hw.2 u21 eu21
      refine lv_aload_n S.1 S.2.1 dX8_forgetOldest_22 rfl (lv_at hl 0 rfl) ?_
      refine m_get S hin hI 0 (W8_at0 h r cs u21) rfl 2 (Nat.le_of_ble_eq_true rfl) (List.mem_of_getElem? (i := 2) rfl) rfl (Ff8_at2 r u21) dX8_forgetOldest_23 ?_
      refine lv_iload_n S.1 S.2.1 dX8_forgetOldest_26 rfl (lv_at hl 1 rfl) ?_
      refine lv_iconst (v := 1) S.1 S.2.1 dX8_forgetOldest_27 (by decide) ?_
      refine lv_isub S.1 S.2.1 dX8_forgetOldest_28 ?_
      refine lv_topi (fun y28 ey28 => ?_)
      have hw := hw y28 ey28
      refine lv_aload_n S.1 S.2.1 dX8_forgetOldest_29 rfl (lv_at hl 0 rfl) ?_
      refine m_get S hin hI 0 (W8_at0 h r cs u21) rfl 2 (Nat.le_of_ble_eq_true rfl) (List.mem_of_getElem? (i := 2) rfl) rfl (Ff8_at2 r u21) dX8_forgetOldest_30 ?_
      refine lv_iload_n S.1 S.2.1 dX8_forgetOldest_33 rfl (lv_at hl 1 rfl) ?_
      refine m_iald S hI 3 0 (W8_at3 h r cs u21) rfl hw.1 dX8_forgetOldest_34 ?_
      refine lv_topi (fun y34 ey34 => ?_)
      have hw := hw.2 y34 ey34
      obtain ⟨u35, eu35⟩ : ∃ z : ST, z = sA u21 2 (upd (gA u21 2) y28.toNatClampNeg y34) := ⟨_, rfl⟩
      refine m_iast S hI 3 0 (W8_at3 h r cs u21) rfl hw.1 (W8_sA2 h r cs u21 u35 _ eu35) dX8_forgetOldest_35 (fun H locs hI => ?_)
      have hw := hw.2 u35 eu35
      refine lv_aload_n S.1 S.2.1 dX8_forgetOldest_36 rfl (lv_at hl 0 rfl) ?_
      refine m_get S hin hI 0 (W8_at0 h r cs u35) rfl 3 (Nat.le_of_ble_eq_true rfl) (List.mem_of_getElem? (i := 3) rfl) rfl (Ff8_at3 r u35) dX8_forgetOldest_37 ?_
      refine lv_iload_n S.1 S.2.1 dX8_forgetOldest_40 rfl (lv_at hl 1 rfl) ?_
      refine lv_iconst (v := 1) S.1 S.2.1 dX8_forgetOldest_41 (by decide) ?_
      refine lv_isub S.1 S.2.1 dX8_forgetOldest_42 ?_
      refine lv_topi (fun y42 ey42 => ?_)
      have hw := hw y42 ey42
      refine lv_aload_n S.1 S.2.1 dX8_forgetOldest_43 rfl (lv_at hl 0 rfl) ?_
      refine m_get S hin hI 0 (W8_at0 h r cs u35) rfl 3 (Nat.le_of_ble_eq_true rfl) (List.mem_of_getElem? (i := 3) rfl) rfl (Ff8_at3 r u35) dX8_forgetOldest_44 ?_
      refine lv_iload_n S.1 S.2.1 dX8_forgetOldest_47 rfl (lv_at hl 1 rfl) ?_
      refine m_iald S hI 4 0 (W8_at4 h r cs u35) rfl hw.1 dX8_forgetOldest_48 ?_
      refine lv_topi (fun y48 ey48 => ?_)
      have hw := hw.2 y48 ey48
      obtain ⟨u49, eu49⟩ : ∃ z : ST, z = sA u35 3 (upd (gA u35 3) y42.toNatClampNeg y48) := ⟨_, rfl⟩
      refine m_iast S hI 4 0 (W8_at4 h r cs u35) rfl hw.1 (W8_sA3 h r cs u35 u49 _ eu49) dX8_forgetOldest_49 (fun H locs hI => ?_)
      have hw := hw.2 u49 eu49
      obtain ⟨y50, ey50⟩ : ∃ z : Int32, z = x1 + 1 := ⟨_, rfl⟩
      have hw := hw y50 ey50
      refine lv_iinc (v := y50) (lv' := [(1, .int y50), (0, .ref h)]) S.1 S.2.1 dX8_forgetOldest_50 hl (k := 1) rfl (by rw [ey50]; rfl) (by decide) rfl (fun ls hl => ?_)
      refine lv_goto (tgt := 2) S.1 S.2.1 dX8_forgetOldest_53 (by decide) ?_
      exact hB2 y50 u49 hw H locs ls hI (lv_sub hl [1, 0] rfl)
  have b2 : ∀ (x1 : Int32) (u : ST), wp_X8_forgetOldest_p2 x1 u Q → mGo p l e ({ frames := 0, cells := 0, slots := 0, locals := 0 } : Room) s m args below meth c A Z 2 D (mT cs) (W8 h r cs) 2 [(0, .ref h), (1, .int x1)] [] u := by
    intro x1 u hw
    obtain ⟨I, μ, h0, hs⟩ := hw
    have key : ∀ (n : Nat) (x1 : Int32) (u : ST), μ x1 u = n → I x1 u → mGo p l e ({ frames := 0, cells := 0, slots := 0, locals := 0 } : Room) s m args below meth c A Z 2 D (mT cs) (W8 h r cs) 2 [(0, .ref h), (1, .int x1)] [] u := by
      intro n
      induction n using Nat.strongRecOn with
      | ind n ih =>
        intro x1 u hn hi
        exact b2b (fun yx1 yu => I yx1 yu ∧ μ yx1 yu < μ x1 u) (fun yx1 yu hb => ih _ (hn ▸ hb.2) yx1 yu rfl hb.1) x1 u (hs x1 u hi)
    exact key _ x1 u rfl h0
  unfold wp_X8_forgetOldest at hw
  obtain ⟨H, hH⟩ : ∃ z : Heap, z = s.heap := ⟨_, rfl⟩
  obtain ⟨locs, hL⟩ : ∃ z : List Loc, z = [] := ⟨_, rfl⟩
  rw [show W p l e ({ frames := 0, cells := 0, slots := 0, locals := 0 } : Room) s m args below meth c s.heap [] 0 0 Z (F0 m 0 ls []) = W p l e ({ frames := 0, cells := 0, slots := 0, locals := 0 } : Room) s m args below meth c H locs 0 0 Z (F0 m 0 ls []) by rw [hH, hL]]
  replace hI : mI D (mT cs) A s.heap s (W8 h r cs u) H locs := by rw [hH, hL]; exact hI
  refine lv_iconst (v := 1) S.1 S.2.1 dX8_forgetOldest_0 (by decide) ?_
  refine lv_istore_n (lv' := [(1, .int (1 : Int32)), (0, .ref h)]) S.1 S.2.1 dX8_forgetOldest_1 rfl hl (by decide) rfl (fun ls hl => ?_)
  exact b2 (1 : Int32) u hw H locs ls hI (lv_sub hl [1, 0] rfl)

def wp_X8_note_p13 (x1 : Int32) (x2 : Int32) (x3 : Int32) (u : ST) (Q : ST → Prop) : Prop :=
  (vp_in (gI u 4) 40 ∧ ∀ u22 : ST, u22 = sA u 1 (upd (gA u 1) (gI u 4).toNatClampNeg x1) → (vp_in (gI u22 4) 40 ∧ ∀ u32 : ST, u32 = sA u22 2 (upd (gA u22 2) (gI u22 4).toNatClampNeg x2) → (vp_in (gI u32 4) 40 ∧ ∀ u42 : ST, u42 = sA u32 3 (upd (gA u32 3) (gI u32 4).toNatClampNeg x3) → (∀ y49 : Int32, y49 = (gI u42 4) + (1 : Int32) → (∀ u50 : ST, u50 = sI u42 4 y49 → (∀ u58 : ST, u58 = sI u50 5 (gI u50 4) → Q u58))))))
def wp_X8_note (a1 : Int32) (a2 : Int32) (a3 : Int32) (u : ST) (Q : ST → Prop) : Prop :=
  ((¬ (gI u 4) = (40 : Int32) → wp_X8_note_p13 a1 a2 a3 u Q) ∧ ((gI u 4) = (40 : Int32) → (wp_X8_forgetOldest u (fun u10 => wp_X8_note_p13 a1 a2 a3 u10 Q))))
set_option maxHeartbeats 4000000 in
set_option maxRecDepth 100000 in
theorem c_X8_note (l : Launch) (D : va_G) (h : Nat) (r : Nat → Nat) (cs : Nat → ClassId) (a1 : Int32) (a2 : Int32) (a3 : Int32) (u : ST) (Q : ST → Prop) (hw : wp_X8_note a1 a2 a3 u Q) : mCv l yX8_note wsX8_note ({ frames := 1, cells := 0, slots := 0, locals := 21 } : Room) 0 0 D (mT cs) (W8 h r cs) [.ref h, .int a1, .int a2, .int a3] u Q := by
  unfold mCv
  refine m_enter (QQ := fun A => va_Qv Q (mPos D (mT cs) A (W8 h r cs)) A) (cc := cX8_note) (maxL := 4) (ret := none) (by decide) rfl (Nat.le_of_ble_eq_true rfl) ?_
  intro p e s m args below meth c A ls S hr hlocks hname hl hI
  have S : CallFix p m c cX8_note 4 s args wsX8_note RX8 := S
  show W p l e ({ frames := 1, cells := 0, slots := 0, locals := 21 } : Room) s m args below meth c s.heap [] 0 0 (MQ below (va_Qv Q (mPos D (mT cs) A (W8 h r cs)) A) args s 0 0 A) (F0 m 0 ls [])
  generalize hZ : MQ below (va_Qv Q (mPos D (mT cs) A (W8 h r cs)) A) args s 0 0 A = Z
  have hin : ∀ w ∈ wsX80, w ∈ wsX8_note := fun _ h => List.mem_cons_of_mem _ (List.mem_append_right _ h)
  have hl : lv_has ls 4 [(0, .ref h), (1, .int a1), (2, .int a2), (3, .int a3)] := hl
  have b13 : ∀ (x1 : Int32) (x2 : Int32) (x3 : Int32) (u : ST), wp_X8_note_p13 x1 x2 x3 u Q → mGo p l e ({ frames := 1, cells := 0, slots := 0, locals := 21 } : Room) s m args below meth c A Z 4 D (mT cs) (W8 h r cs) 13 [(0, .ref h), (1, .int x1), (2, .int x2), (3, .int x3)] [] u := by
    intro x1 x2 x3 u hw H locs ls hI hl
    unfold wp_X8_note_p13 at hw
    refine lv_aload_n S.1 S.2.1 dX8_note_13 rfl (lv_at hl 0 rfl) ?_
    refine m_get S hin hI 0 (W8_at0 h r cs u) rfl 1 (Nat.le_of_ble_eq_true rfl) (List.mem_of_getElem? (i := 2) rfl) rfl (Ff8_at1 r u) dX8_note_14 ?_
    refine lv_aload_n S.1 S.2.1 dX8_note_17 rfl (lv_at hl 0 rfl) ?_
    refine m_get S hin hI 0 (W8_at0 h r cs u) rfl 4 (Nat.le_of_ble_eq_true rfl) (List.mem_of_getElem? (i := 1) rfl) rfl (Ff8_at4 r u) dX8_note_18 ?_
    refine lv_iload_n S.1 S.2.1 dX8_note_21 rfl (lv_at hl 1 rfl) ?_
    obtain ⟨u22, eu22⟩ : ∃ z : ST, z = sA u 1 (upd (gA u 1) (gI u 4).toNatClampNeg x1) := ⟨_, rfl⟩
    refine m_iast S hI 2 0 (W8_at2 h r cs u) rfl hw.1 (W8_sA1 h r cs u u22 _ eu22) dX8_note_22 (fun H locs hI => ?_)
    have hw := hw.2 u22 eu22
    refine lv_aload_n S.1 S.2.1 dX8_note_23 rfl (lv_at hl 0 rfl) ?_
    refine m_get S hin hI 0 (W8_at0 h r cs u22) rfl 2 (Nat.le_of_ble_eq_true rfl) (List.mem_of_getElem? (i := 3) rfl) rfl (Ff8_at2 r u22) dX8_note_24 ?_
    refine lv_aload_n S.1 S.2.1 dX8_note_27 rfl (lv_at hl 0 rfl) ?_
    refine m_get S hin hI 0 (W8_at0 h r cs u22) rfl 4 (Nat.le_of_ble_eq_true rfl) (List.mem_of_getElem? (i := 1) rfl) rfl (Ff8_at4 r u22) dX8_note_28 ?_
    refine lv_iload_n S.1 S.2.1 dX8_note_31 rfl (lv_at hl 2 rfl) ?_
    obtain ⟨u32, eu32⟩ : ∃ z : ST, z = sA u22 2 (upd (gA u22 2) (gI u22 4).toNatClampNeg x2) := ⟨_, rfl⟩
    refine m_iast S hI 3 0 (W8_at3 h r cs u22) rfl hw.1 (W8_sA2 h r cs u22 u32 _ eu32) dX8_note_32 (fun H locs hI => ?_)
    have hw := hw.2 u32 eu32
    refine lv_aload_n S.1 S.2.1 dX8_note_33 rfl (lv_at hl 0 rfl) ?_
    refine m_get S hin hI 0 (W8_at0 h r cs u32) rfl 3 (Nat.le_of_ble_eq_true rfl) (List.mem_of_getElem? (i := 4) rfl) rfl (Ff8_at3 r u32) dX8_note_34 ?_
    refine lv_aload_n S.1 S.2.1 dX8_note_37 rfl (lv_at hl 0 rfl) ?_
    refine m_get S hin hI 0 (W8_at0 h r cs u32) rfl 4 (Nat.le_of_ble_eq_true rfl) (List.mem_of_getElem? (i := 1) rfl) rfl (Ff8_at4 r u32) dX8_note_38 ?_
    refine lv_iload_n S.1 S.2.1 dX8_note_41 rfl (lv_at hl 3 rfl) ?_
    obtain ⟨u42, eu42⟩ : ∃ z : ST, z = sA u32 3 (upd (gA u32 3) (gI u32 4).toNatClampNeg x3) := ⟨_, rfl⟩
    refine m_iast S hI 4 0 (W8_at4 h r cs u32) rfl hw.1 (W8_sA3 h r cs u32 u42 _ eu42) dX8_note_42 (fun H locs hI => ?_)
    have hw := hw.2 u42 eu42
    refine lv_aload_n S.1 S.2.1 dX8_note_43 rfl (lv_at hl 0 rfl) ?_
    refine lv_dup S.1 S.2.1 dX8_note_44 rfl ?_
    refine m_get S hin hI 0 (W8_at0 h r cs u42) rfl 4 (Nat.le_of_ble_eq_true rfl) (List.mem_of_getElem? (i := 1) rfl) rfl (Ff8_at4 r u42) dX8_note_45 ?_
    refine lv_iconst (v := 1) S.1 S.2.1 dX8_note_48 (by decide) ?_
    refine lv_iadd S.1 S.2.1 dX8_note_49 ?_
    refine lv_topi (fun y49 ey49 => ?_)
    have hw := hw y49 ey49
    obtain ⟨u50, eu50⟩ : ∃ z : ST, z = sI u42 4 y49 := ⟨_, rfl⟩
    have hw := hw u50 eu50
    refine m_put S hin tyX8_ok nmX8 hI 0 (W8_at0 h r cs u42) rfl 4 (Nat.le_of_ble_eq_true rfl) (List.mem_of_getElem? (i := 1) rfl) rfl rfl rfl rfl (Nat.le_of_ble_eq_true rfl) (W8_sI4 h r cs u42 u50 y49 eu50) dX8_note_50 (fun H locs hI => ?_)
    refine lv_aload_n S.1 S.2.1 dX8_note_53 rfl (lv_at hl 0 rfl) ?_
    refine lv_aload_n S.1 S.2.1 dX8_note_54 rfl (lv_at hl 0 rfl) ?_
    refine m_get S hin hI 0 (W8_at0 h r cs u50) rfl 4 (Nat.le_of_ble_eq_true rfl) (List.mem_of_getElem? (i := 1) rfl) rfl (Ff8_at4 r u50) dX8_note_55 ?_
    obtain ⟨u58, eu58⟩ : ∃ z : ST, z = sI u50 5 (gI u50 4) := ⟨_, rfl⟩
    have hw := hw u58 eu58
    refine m_put S hin tyX8_ok nmX8 hI 0 (W8_at0 h r cs u50) rfl 5 (Nat.le_of_ble_eq_true rfl) (List.mem_of_getElem? (i := 5) rfl) rfl rfl rfl rfl (Nat.le_of_ble_eq_true rfl) (W8_sI5 h r cs u50 u58 (gI u50 4) eu58) dX8_note_58 (fun H locs hI => ?_)
    subst hZ
    exact m_vret S hr hlocks hI hw dX8_note_61
  unfold wp_X8_note at hw
  obtain ⟨H, hH⟩ : ∃ z : Heap, z = s.heap := ⟨_, rfl⟩
  obtain ⟨locs, hL⟩ : ∃ z : List Loc, z = [] := ⟨_, rfl⟩
  rw [show W p l e ({ frames := 1, cells := 0, slots := 0, locals := 21 } : Room) s m args below meth c s.heap [] 0 0 Z (F0 m 0 ls []) = W p l e ({ frames := 1, cells := 0, slots := 0, locals := 21 } : Room) s m args below meth c H locs 0 0 Z (F0 m 0 ls []) by rw [hH, hL]]
  replace hI : mI D (mT cs) A s.heap s (W8 h r cs u) H locs := by rw [hH, hL]; exact hI
  refine lv_aload_n S.1 S.2.1 dX8_note_0 rfl (lv_at hl 0 rfl) ?_
  refine m_get S hin hI 0 (W8_at0 h r cs u) rfl 4 (Nat.le_of_ble_eq_true rfl) (List.mem_of_getElem? (i := 1) rfl) rfl (Ff8_at4 r u) dX8_note_1 ?_
  refine lv_bipush (v := 40) S.1 S.2.1 dX8_note_4 (by decide) ?_
  refine lv_icmp_ne (tgt := 13) S.1 S.2.1 dX8_note_6 (by decide) (fun c6 => ?_) (fun c6 => ?_)
  · have hw := hw.1 c6
    exact b13 a1 a2 a3 u hw H locs ls hI (lv_sub hl [0, 1, 2, 3] rfl)
  · have hw := hw.2 c6
    refine lv_aload_n S.1 S.2.1 dX8_note_9 rfl (lv_at hl 0 rfl) ?_
    refine m_vv (As := []) (rest := []) S (W8_self h r cs) hI rfl (c_X8_forgetOldest l D h r cs u _ hw) (cwV 0 S.2.2.2.2 gX8_note_X8_forgetOldest rfl rfl rfl (by decide +kernel) ⟨Nat.le_of_ble_eq_true rfl, Nat.le_of_ble_eq_true rfl⟩) (W8_at0 h r cs u) rfl rfl hl.1 rfl (Nat.le_of_ble_eq_true rfl) dX8_note_10 ⟨Nat.zero_le _, Nat.zero_le _⟩ (fun u10 H locs hw hI => ?_)
    exact b13 a1 a2 a3 u10 hw H locs ls hI (lv_sub hl [0, 1, 2, 3] rfl)

def wp_X8_change_p36 (x3 : Int32) (u : ST) (Q : Int32 → ST → Prop) : Prop :=
  Q x3 u
def wp_X8_change (a1 : Int32) (a2 : Int32) (u : ST) (Q : Int32 → ST → Prop) : Prop :=
  (wp_X8_fits a1 a2 stz (fun y2 _ => ((¬ y2 = 0 → (vp_in a1 4 ∧ ∀ y15 : Int32, y15 = gA u 0 a1.toNatClampNeg → ((a2 = y15 → wp_X8_change_p36 y15 u Q) ∧ (¬ a2 = y15 → (wp_X8_note a1 y15 a2 u (fun u26 => (vp_in a1 4 ∧ ∀ u35 : ST, u35 = sA u26 0 (upd (gA u26 0) a1.toNatClampNeg a2) → wp_X8_change_p36 y15 u35 Q))))))) ∧ (y2 = 0 → Q ((-1) : Int32) u))))
set_option maxHeartbeats 4000000 in
set_option maxRecDepth 100000 in
theorem c_X8_change (l : Launch) (D : va_G) (h : Nat) (r : Nat → Nat) (cs : Nat → ClassId) (a1 : Int32) (a2 : Int32) (u : ST) (Q : Int32 → ST → Prop) (hw : wp_X8_change a1 a2 u Q) : mCi l yX8_change wsX8_change ({ frames := 2, cells := 0, slots := 0, locals := 44 } : Room) 0 0 D (mT cs) (W8 h r cs) [.ref h, .int a1, .int a2] u Q := by
  unfold mCi
  refine m_enter (QQ := fun A => va_Qi Q (mPos D (mT cs) A (W8 h r cs)) A) (cc := cX8_change) (maxL := 4) (ret := (some .int)) (by decide) rfl (Nat.le_of_ble_eq_true rfl) ?_
  intro p e s m args below meth c A ls S hr hlocks hname hl hI
  have S : CallFix p m c cX8_change 4 s args wsX8_change RX8 := S
  show W p l e ({ frames := 2, cells := 0, slots := 0, locals := 44 } : Room) s m args below meth c s.heap [] 0 0 (MQ below (va_Qi Q (mPos D (mT cs) A (W8 h r cs)) A) args s 0 0 A) (F0 m 0 ls [])
  generalize hZ : MQ below (va_Qi Q (mPos D (mT cs) A (W8 h r cs)) A) args s 0 0 A = Z
  have hin : ∀ w ∈ wsX80, w ∈ wsX8_change := fun _ h => List.mem_cons_of_mem _ (List.mem_append_right _ h)
  have hl : lv_has ls 4 [(0, .ref h), (1, .int a1), (2, .int a2)] := hl
  have b36 : ∀ (x3 : Int32) (u : ST), wp_X8_change_p36 x3 u Q → mGo p l e ({ frames := 2, cells := 0, slots := 0, locals := 44 } : Room) s m args below meth c A Z 4 D (mT cs) (W8 h r cs) 36 [(0, .ref h), (3, .int x3)] [] u := by
    intro x3 u hw H locs ls hI hl
    unfold wp_X8_change_p36 at hw
    refine lv_iload_n S.1 S.2.1 dX8_change_36 rfl (lv_at hl 1 rfl) ?_
    subst hZ
    exact m_iret S hr hlocks hI hw dX8_change_37
  unfold wp_X8_change at hw
  obtain ⟨H, hH⟩ : ∃ z : Heap, z = s.heap := ⟨_, rfl⟩
  obtain ⟨locs, hL⟩ : ∃ z : List Loc, z = [] := ⟨_, rfl⟩
  rw [show W p l e ({ frames := 2, cells := 0, slots := 0, locals := 44 } : Room) s m args below meth c s.heap [] 0 0 Z (F0 m 0 ls []) = W p l e ({ frames := 2, cells := 0, slots := 0, locals := 44 } : Room) s m args below meth c H locs 0 0 Z (F0 m 0 ls []) by rw [hH, hL]]
  replace hI : mI D (mT cs) A s.heap s (W8 h r cs u) H locs := by rw [hH, hL]; exact hI
  refine lv_iload_n S.1 S.2.1 dX8_change_0 rfl (lv_at hl 1 rfl) ?_
  refine lv_iload_n S.1 S.2.1 dX8_change_1 rfl (lv_at hl 2 rfl) ?_
  refine m_se (As := [.int a1, .int a2]) (rest := []) S hI (c_X8_fits l D cs a1 a2 stz _ hw) (va_cwS 2 S.2.2.2.2 gX8_change_X8_fits rfl rfl rfl (by decide +kernel) ⟨Nat.le_of_ble_eq_true rfl, Nat.le_of_ble_eq_true rfl⟩) rfl hl.1 rfl (Nat.le_of_ble_eq_true rfl) dX8_change_2 ⟨Nat.zero_le _, Nat.zero_le _⟩ (fun y2 _ H locs hw hI => ?_)
  refine lv_if_ne (tgt := 10) S.1 S.2.1 dX8_change_5 (by decide) (fun c5 => ?_) (fun c5 => ?_)
  · have hw := hw.1 c5
    refine lv_aload_n S.1 S.2.1 dX8_change_10 rfl (lv_at hl 0 rfl) ?_
    refine m_get S hin hI 0 (W8_at0 h r cs u) rfl 0 (Nat.le_of_ble_eq_true rfl) (List.mem_of_getElem? (i := 1) rfl) rfl (Ff8_at0 r u) dX8_change_11 ?_
    refine lv_iload_n S.1 S.2.1 dX8_change_14 rfl (lv_at hl 1 rfl) ?_
    refine m_iald S hI 1 0 (W8_at1 h r cs u) rfl hw.1 dX8_change_15 ?_
    refine lv_topi (fun y15 ey15 => ?_)
    have hw := hw.2 y15 ey15
    refine lv_istore_n (lv' := [(3, .int y15), (0, .ref h), (1, .int a1), (2, .int a2)]) S.1 S.2.1 dX8_change_16 rfl hl (by decide) rfl (fun ls hl => ?_)
    refine lv_iload_n S.1 S.2.1 dX8_change_17 rfl (lv_at hl 3 rfl) ?_
    refine lv_iload_n S.1 S.2.1 dX8_change_18 rfl (lv_at hl 0 rfl) ?_
    refine lv_icmp_eq (tgt := 36) S.1 S.2.1 dX8_change_19 (by decide) (fun c19 => ?_) (fun c19 => ?_)
    · have hw := hw.1 c19
      exact b36 y15 u hw H locs ls hI (lv_sub hl [1, 0] rfl)
    · have hw := hw.2 c19
      refine lv_aload_n S.1 S.2.1 dX8_change_22 rfl (lv_at hl 1 rfl) ?_
      refine lv_iload_n S.1 S.2.1 dX8_change_23 rfl (lv_at hl 2 rfl) ?_
      refine lv_iload_n S.1 S.2.1 dX8_change_24 rfl (lv_at hl 0 rfl) ?_
      refine lv_iload_n S.1 S.2.1 dX8_change_25 rfl (lv_at hl 3 rfl) ?_
      refine m_vv (As := [.int a1, .int y15, .int a2]) (rest := []) S (W8_self h r cs) hI rfl (c_X8_note l D h r cs a1 y15 a2 u _ hw) (cwV 3 S.2.2.2.2 gX8_change_X8_note rfl rfl rfl (by decide +kernel) ⟨Nat.le_of_ble_eq_true rfl, Nat.le_of_ble_eq_true rfl⟩) (W8_at0 h r cs u) rfl rfl hl.1 rfl (Nat.le_of_ble_eq_true rfl) dX8_change_26 ⟨Nat.zero_le _, Nat.zero_le _⟩ (fun u26 H locs hw hI => ?_)
      refine lv_aload_n S.1 S.2.1 dX8_change_29 rfl (lv_at hl 1 rfl) ?_
      refine m_get S hin hI 0 (W8_at0 h r cs u26) rfl 0 (Nat.le_of_ble_eq_true rfl) (List.mem_of_getElem? (i := 1) rfl) rfl (Ff8_at0 r u26) dX8_change_30 ?_
      refine lv_iload_n S.1 S.2.1 dX8_change_33 rfl (lv_at hl 2 rfl) ?_
      refine lv_iload_n S.1 S.2.1 dX8_change_34 rfl (lv_at hl 3 rfl) ?_
      obtain ⟨u35, eu35⟩ : ∃ z : ST, z = sA u26 0 (upd (gA u26 0) a1.toNatClampNeg a2) := ⟨_, rfl⟩
      refine m_iast S hI 1 0 (W8_at1 h r cs u26) rfl hw.1 (W8_sA0 h r cs u26 u35 _ eu35) dX8_change_35 (fun H locs hI => ?_)
      have hw := hw.2 u35 eu35
      exact b36 y15 u35 hw H locs ls hI (lv_sub hl [1, 0] rfl)
  · have hw := hw.2 c5
    refine lv_iconst (v := (-1)) S.1 S.2.1 dX8_change_8 (by decide) ?_
    subst hZ
    exact m_iret S hr hlocks hI hw dX8_change_9

def wp_X8_takeBack (u : ST) (Q : Int32 → ST → Prop) : Prop :=
  ((¬ (gI u 4) = 0 → (∀ y16 : Int32, y16 = (gI u 4) - (1 : Int32) → (∀ u17 : ST, u17 = sI u 4 y16 → (vp_in (gI u17 4) 40 ∧ ∀ y32 : Int32, y32 = gA u17 1 (gI u17 4).toNatClampNeg → (vp_in (gI u17 4) 40 ∧ ∀ y41 : Int32, y41 = gA u17 2 (gI u17 4).toNatClampNeg → (vp_in y32 4 ∧ ∀ u42 : ST, u42 = sA u17 0 (upd (gA u17 0) y32.toNatClampNeg y41) → Q (gI u42 4) u42)))))) ∧ ((gI u 4) = 0 → Q ((-5) : Int32) u))
set_option maxHeartbeats 4000000 in
set_option maxRecDepth 100000 in
theorem c_X8_takeBack (l : Launch) (D : va_G) (h : Nat) (r : Nat → Nat) (cs : Nat → ClassId) (u : ST) (Q : Int32 → ST → Prop) (hw : wp_X8_takeBack u Q) : mCi l yX8_takeBack wsX8_takeBack ({ frames := 0, cells := 0, slots := 0, locals := 0 } : Room) 0 0 D (mT cs) (W8 h r cs) [.ref h] u Q := by
  unfold mCi
  refine m_enter (QQ := fun A => va_Qi Q (mPos D (mT cs) A (W8 h r cs)) A) (cc := cX8_takeBack) (maxL := 1) (ret := (some .int)) (by decide) rfl (Nat.le_of_ble_eq_true rfl) ?_
  intro p e s m args below meth c A ls S hr hlocks hname hl hI
  have S : CallFix p m c cX8_takeBack 1 s args wsX8_takeBack RX8 := S
  show W p l e ({ frames := 0, cells := 0, slots := 0, locals := 0 } : Room) s m args below meth c s.heap [] 0 0 (MQ below (va_Qi Q (mPos D (mT cs) A (W8 h r cs)) A) args s 0 0 A) (F0 m 0 ls [])
  generalize hZ : MQ below (va_Qi Q (mPos D (mT cs) A (W8 h r cs)) A) args s 0 0 A = Z
  have hin : ∀ w ∈ wsX80, w ∈ wsX8_takeBack := fun _ h => List.mem_cons_of_mem _ (List.mem_append_right _ h)
  have hl : lv_has ls 1 [(0, .ref h)] := hl
  unfold wp_X8_takeBack at hw
  obtain ⟨H, hH⟩ : ∃ z : Heap, z = s.heap := ⟨_, rfl⟩
  obtain ⟨locs, hL⟩ : ∃ z : List Loc, z = [] := ⟨_, rfl⟩
  rw [show W p l e ({ frames := 0, cells := 0, slots := 0, locals := 0 } : Room) s m args below meth c s.heap [] 0 0 Z (F0 m 0 ls []) = W p l e ({ frames := 0, cells := 0, slots := 0, locals := 0 } : Room) s m args below meth c H locs 0 0 Z (F0 m 0 ls []) by rw [hH, hL]]
  replace hI : mI D (mT cs) A s.heap s (W8 h r cs u) H locs := by rw [hH, hL]; exact hI
  refine lv_aload_n S.1 S.2.1 dX8_takeBack_0 rfl (lv_at hl 0 rfl) ?_
  refine m_get S hin hI 0 (W8_at0 h r cs u) rfl 4 (Nat.le_of_ble_eq_true rfl) (List.mem_of_getElem? (i := 1) rfl) rfl (Ff8_at4 r u) dX8_takeBack_1 ?_
  refine lv_if_ne (tgt := 10) S.1 S.2.1 dX8_takeBack_4 (by decide) (fun c4 => ?_) (fun c4 => ?_)
  · have hw := hw.1 c4
    refine lv_aload_n S.1 S.2.1 dX8_takeBack_10 rfl (lv_at hl 0 rfl) ?_
    refine lv_dup S.1 S.2.1 dX8_takeBack_11 rfl ?_
    refine m_get S hin hI 0 (W8_at0 h r cs u) rfl 4 (Nat.le_of_ble_eq_true rfl) (List.mem_of_getElem? (i := 1) rfl) rfl (Ff8_at4 r u) dX8_takeBack_12 ?_
    refine lv_iconst (v := 1) S.1 S.2.1 dX8_takeBack_15 (by decide) ?_
    refine lv_isub S.1 S.2.1 dX8_takeBack_16 ?_
    refine lv_topi (fun y16 ey16 => ?_)
    have hw := hw y16 ey16
    obtain ⟨u17, eu17⟩ : ∃ z : ST, z = sI u 4 y16 := ⟨_, rfl⟩
    have hw := hw u17 eu17
    refine m_put S hin tyX8_ok nmX8 hI 0 (W8_at0 h r cs u) rfl 4 (Nat.le_of_ble_eq_true rfl) (List.mem_of_getElem? (i := 1) rfl) rfl rfl rfl rfl (Nat.le_of_ble_eq_true rfl) (W8_sI4 h r cs u u17 y16 eu17) dX8_takeBack_17 (fun H locs hI => ?_)
    refine lv_aload_n S.1 S.2.1 dX8_takeBack_20 rfl (lv_at hl 0 rfl) ?_
    refine m_get S hin hI 0 (W8_at0 h r cs u17) rfl 0 (Nat.le_of_ble_eq_true rfl) (List.mem_of_getElem? (i := 2) rfl) rfl (Ff8_at0 r u17) dX8_takeBack_21 ?_
    refine lv_aload_n S.1 S.2.1 dX8_takeBack_24 rfl (lv_at hl 0 rfl) ?_
    refine m_get S hin hI 0 (W8_at0 h r cs u17) rfl 1 (Nat.le_of_ble_eq_true rfl) (List.mem_of_getElem? (i := 3) rfl) rfl (Ff8_at1 r u17) dX8_takeBack_25 ?_
    refine lv_aload_n S.1 S.2.1 dX8_takeBack_28 rfl (lv_at hl 0 rfl) ?_
    refine m_get S hin hI 0 (W8_at0 h r cs u17) rfl 4 (Nat.le_of_ble_eq_true rfl) (List.mem_of_getElem? (i := 1) rfl) rfl (Ff8_at4 r u17) dX8_takeBack_29 ?_
    refine m_iald S hI 2 0 (W8_at2 h r cs u17) rfl hw.1 dX8_takeBack_32 ?_
    refine lv_topi (fun y32 ey32 => ?_)
    have hw := hw.2 y32 ey32
    refine lv_aload_n S.1 S.2.1 dX8_takeBack_33 rfl (lv_at hl 0 rfl) ?_
    refine m_get S hin hI 0 (W8_at0 h r cs u17) rfl 2 (Nat.le_of_ble_eq_true rfl) (List.mem_of_getElem? (i := 4) rfl) rfl (Ff8_at2 r u17) dX8_takeBack_34 ?_
    refine lv_aload_n S.1 S.2.1 dX8_takeBack_37 rfl (lv_at hl 0 rfl) ?_
    refine m_get S hin hI 0 (W8_at0 h r cs u17) rfl 4 (Nat.le_of_ble_eq_true rfl) (List.mem_of_getElem? (i := 1) rfl) rfl (Ff8_at4 r u17) dX8_takeBack_38 ?_
    refine m_iald S hI 3 0 (W8_at3 h r cs u17) rfl hw.1 dX8_takeBack_41 ?_
    refine lv_topi (fun y41 ey41 => ?_)
    have hw := hw.2 y41 ey41
    obtain ⟨u42, eu42⟩ : ∃ z : ST, z = sA u17 0 (upd (gA u17 0) y32.toNatClampNeg y41) := ⟨_, rfl⟩
    refine m_iast S hI 1 0 (W8_at1 h r cs u17) rfl hw.1 (W8_sA0 h r cs u17 u42 _ eu42) dX8_takeBack_42 (fun H locs hI => ?_)
    have hw := hw.2 u42 eu42
    refine lv_aload_n S.1 S.2.1 dX8_takeBack_43 rfl (lv_at hl 0 rfl) ?_
    refine m_get S hin hI 0 (W8_at0 h r cs u42) rfl 4 (Nat.le_of_ble_eq_true rfl) (List.mem_of_getElem? (i := 1) rfl) rfl (Ff8_at4 r u42) dX8_takeBack_44 ?_
    subst hZ
    exact m_iret S hr hlocks hI hw dX8_takeBack_47
  · have hw := hw.2 c4
    refine lv_bipush (v := (-5)) S.1 S.2.1 dX8_takeBack_7 (by decide) ?_
    subst hZ
    exact m_iret S hr hlocks hI hw dX8_takeBack_9

def wp_X8_doAgain (u : ST) (Q : Int32 → ST → Prop) : Prop :=
  ((¬ (gI u 4) = (gI u 5) → (vp_in (gI u 4) 40 ∧ ∀ y26 : Int32, y26 = gA u 1 (gI u 4).toNatClampNeg → (vp_in (gI u 4) 40 ∧ ∀ y35 : Int32, y35 = gA u 3 (gI u 4).toNatClampNeg → (vp_in y26 4 ∧ ∀ u36 : ST, u36 = sA u 0 (upd (gA u 0) y26.toNatClampNeg y35) → (∀ y43 : Int32, y43 = (gI u36 4) + (1 : Int32) → (∀ u44 : ST, u44 = sI u36 4 y43 → (∀ y55 : Int32, y55 = (gI u44 5) - (gI u44 4) → Q y55 u44))))))) ∧ ((gI u 4) = (gI u 5) → Q ((-5) : Int32) u))
set_option maxHeartbeats 4000000 in
set_option maxRecDepth 100000 in
theorem c_X8_doAgain (l : Launch) (D : va_G) (h : Nat) (r : Nat → Nat) (cs : Nat → ClassId) (u : ST) (Q : Int32 → ST → Prop) (hw : wp_X8_doAgain u Q) : mCi l yX8_doAgain wsX8_doAgain ({ frames := 0, cells := 0, slots := 0, locals := 0 } : Room) 0 0 D (mT cs) (W8 h r cs) [.ref h] u Q := by
  unfold mCi
  refine m_enter (QQ := fun A => va_Qi Q (mPos D (mT cs) A (W8 h r cs)) A) (cc := cX8_doAgain) (maxL := 1) (ret := (some .int)) (by decide) rfl (Nat.le_of_ble_eq_true rfl) ?_
  intro p e s m args below meth c A ls S hr hlocks hname hl hI
  have S : CallFix p m c cX8_doAgain 1 s args wsX8_doAgain RX8 := S
  show W p l e ({ frames := 0, cells := 0, slots := 0, locals := 0 } : Room) s m args below meth c s.heap [] 0 0 (MQ below (va_Qi Q (mPos D (mT cs) A (W8 h r cs)) A) args s 0 0 A) (F0 m 0 ls [])
  generalize hZ : MQ below (va_Qi Q (mPos D (mT cs) A (W8 h r cs)) A) args s 0 0 A = Z
  have hin : ∀ w ∈ wsX80, w ∈ wsX8_doAgain := fun _ h => List.mem_cons_of_mem _ (List.mem_append_right _ h)
  have hl : lv_has ls 1 [(0, .ref h)] := hl
  unfold wp_X8_doAgain at hw
  obtain ⟨H, hH⟩ : ∃ z : Heap, z = s.heap := ⟨_, rfl⟩
  obtain ⟨locs, hL⟩ : ∃ z : List Loc, z = [] := ⟨_, rfl⟩
  rw [show W p l e ({ frames := 0, cells := 0, slots := 0, locals := 0 } : Room) s m args below meth c s.heap [] 0 0 Z (F0 m 0 ls []) = W p l e ({ frames := 0, cells := 0, slots := 0, locals := 0 } : Room) s m args below meth c H locs 0 0 Z (F0 m 0 ls []) by rw [hH, hL]]
  replace hI : mI D (mT cs) A s.heap s (W8 h r cs u) H locs := by rw [hH, hL]; exact hI
  refine lv_aload_n S.1 S.2.1 dX8_doAgain_0 rfl (lv_at hl 0 rfl) ?_
  refine m_get S hin hI 0 (W8_at0 h r cs u) rfl 4 (Nat.le_of_ble_eq_true rfl) (List.mem_of_getElem? (i := 1) rfl) rfl (Ff8_at4 r u) dX8_doAgain_1 ?_
  refine lv_aload_n S.1 S.2.1 dX8_doAgain_4 rfl (lv_at hl 0 rfl) ?_
  refine m_get S hin hI 0 (W8_at0 h r cs u) rfl 5 (Nat.le_of_ble_eq_true rfl) (List.mem_of_getElem? (i := 2) rfl) rfl (Ff8_at5 r u) dX8_doAgain_5 ?_
  refine lv_icmp_ne (tgt := 14) S.1 S.2.1 dX8_doAgain_8 (by decide) (fun c8 => ?_) (fun c8 => ?_)
  · have hw := hw.1 c8
    refine lv_aload_n S.1 S.2.1 dX8_doAgain_14 rfl (lv_at hl 0 rfl) ?_
    refine m_get S hin hI 0 (W8_at0 h r cs u) rfl 0 (Nat.le_of_ble_eq_true rfl) (List.mem_of_getElem? (i := 3) rfl) rfl (Ff8_at0 r u) dX8_doAgain_15 ?_
    refine lv_aload_n S.1 S.2.1 dX8_doAgain_18 rfl (lv_at hl 0 rfl) ?_
    refine m_get S hin hI 0 (W8_at0 h r cs u) rfl 1 (Nat.le_of_ble_eq_true rfl) (List.mem_of_getElem? (i := 4) rfl) rfl (Ff8_at1 r u) dX8_doAgain_19 ?_
    refine lv_aload_n S.1 S.2.1 dX8_doAgain_22 rfl (lv_at hl 0 rfl) ?_
    refine m_get S hin hI 0 (W8_at0 h r cs u) rfl 4 (Nat.le_of_ble_eq_true rfl) (List.mem_of_getElem? (i := 1) rfl) rfl (Ff8_at4 r u) dX8_doAgain_23 ?_
    refine m_iald S hI 2 0 (W8_at2 h r cs u) rfl hw.1 dX8_doAgain_26 ?_
    refine lv_topi (fun y26 ey26 => ?_)
    have hw := hw.2 y26 ey26
    refine lv_aload_n S.1 S.2.1 dX8_doAgain_27 rfl (lv_at hl 0 rfl) ?_
    refine m_get S hin hI 0 (W8_at0 h r cs u) rfl 3 (Nat.le_of_ble_eq_true rfl) (List.mem_of_getElem? (i := 5) rfl) rfl (Ff8_at3 r u) dX8_doAgain_28 ?_
    refine lv_aload_n S.1 S.2.1 dX8_doAgain_31 rfl (lv_at hl 0 rfl) ?_
    refine m_get S hin hI 0 (W8_at0 h r cs u) rfl 4 (Nat.le_of_ble_eq_true rfl) (List.mem_of_getElem? (i := 1) rfl) rfl (Ff8_at4 r u) dX8_doAgain_32 ?_
    refine m_iald S hI 4 0 (W8_at4 h r cs u) rfl hw.1 dX8_doAgain_35 ?_
    refine lv_topi (fun y35 ey35 => ?_)
    have hw := hw.2 y35 ey35
    obtain ⟨u36, eu36⟩ : ∃ z : ST, z = sA u 0 (upd (gA u 0) y26.toNatClampNeg y35) := ⟨_, rfl⟩
    refine m_iast S hI 1 0 (W8_at1 h r cs u) rfl hw.1 (W8_sA0 h r cs u u36 _ eu36) dX8_doAgain_36 (fun H locs hI => ?_)
    have hw := hw.2 u36 eu36
    refine lv_aload_n S.1 S.2.1 dX8_doAgain_37 rfl (lv_at hl 0 rfl) ?_
    refine lv_dup S.1 S.2.1 dX8_doAgain_38 rfl ?_
    refine m_get S hin hI 0 (W8_at0 h r cs u36) rfl 4 (Nat.le_of_ble_eq_true rfl) (List.mem_of_getElem? (i := 1) rfl) rfl (Ff8_at4 r u36) dX8_doAgain_39 ?_
    refine lv_iconst (v := 1) S.1 S.2.1 dX8_doAgain_42 (by decide) ?_
    refine lv_iadd S.1 S.2.1 dX8_doAgain_43 ?_
    refine lv_topi (fun y43 ey43 => ?_)
    have hw := hw y43 ey43
    obtain ⟨u44, eu44⟩ : ∃ z : ST, z = sI u36 4 y43 := ⟨_, rfl⟩
    have hw := hw u44 eu44
    refine m_put S hin tyX8_ok nmX8 hI 0 (W8_at0 h r cs u36) rfl 4 (Nat.le_of_ble_eq_true rfl) (List.mem_of_getElem? (i := 1) rfl) rfl rfl rfl rfl (Nat.le_of_ble_eq_true rfl) (W8_sI4 h r cs u36 u44 y43 eu44) dX8_doAgain_44 (fun H locs hI => ?_)
    refine lv_aload_n S.1 S.2.1 dX8_doAgain_47 rfl (lv_at hl 0 rfl) ?_
    refine m_get S hin hI 0 (W8_at0 h r cs u44) rfl 5 (Nat.le_of_ble_eq_true rfl) (List.mem_of_getElem? (i := 2) rfl) rfl (Ff8_at5 r u44) dX8_doAgain_48 ?_
    refine lv_aload_n S.1 S.2.1 dX8_doAgain_51 rfl (lv_at hl 0 rfl) ?_
    refine m_get S hin hI 0 (W8_at0 h r cs u44) rfl 4 (Nat.le_of_ble_eq_true rfl) (List.mem_of_getElem? (i := 1) rfl) rfl (Ff8_at4 r u44) dX8_doAgain_52 ?_
    refine lv_isub S.1 S.2.1 dX8_doAgain_55 ?_
    refine lv_topi (fun y55 ey55 => ?_)
    have hw := hw y55 ey55
    subst hZ
    exact m_iret S hr hlocks hI hw dX8_doAgain_56
  · have hw := hw.2 c8
    refine lv_bipush (v := (-5)) S.1 S.2.1 dX8_doAgain_11 (by decide) ?_
    subst hZ
    exact m_iret S hr hlocks hI hw dX8_doAgain_13

/-- TwoJars$Bodies: what its object holds -/
def Ff0 (r : Nat → Nat) (u : ST) : List Value := [.ref (r 0), .ref (r 1), .int (gI u 2), .int (gI u 3), .int (gI u 4), .int (gI u 5)]
def W0 (h : Nat) (r : Nat → Nat) (cs : Nat → ClassId) (u : ST) : va_W := [(h, .inr (0, Ff0 r u)), (r 0, .inl (cs 0, 50, .inl (gA u 0))), (r 1, .inl (cs 0, 24, .inl (gA u 1)))]
theorem W0_at0 (h : Nat) (r : Nat → Nat) (cs : Nat → ClassId) (u : ST) : (W0 h r cs u)[0]? = some (h, .inr (0, Ff0 r u)) := rfl
theorem W0_at1 (h : Nat) (r : Nat → Nat) (cs : Nat → ClassId) (u : ST) : (W0 h r cs u)[1]? = some (r 0, .inl (cs 0, 50, .inl (gA u 0))) := rfl
theorem W0_at2 (h : Nat) (r : Nat → Nat) (cs : Nat → ClassId) (u : ST) : (W0 h r cs u)[2]? = some (r 1, .inl (cs 0, 24, .inl (gA u 1))) := rfl
theorem Ff0_at0 (r : Nat → Nat) (u : ST) : (Ff0 r u)[0]? = some (.ref (r 0)) := rfl
theorem Ff0_at1 (r : Nat → Nat) (u : ST) : (Ff0 r u)[1]? = some (.ref (r 1)) := rfl
theorem Ff0_at2 (r : Nat → Nat) (u : ST) : (Ff0 r u)[2]? = some (.int (gI u 2)) := rfl
theorem Ff0_at3 (r : Nat → Nat) (u : ST) : (Ff0 r u)[3]? = some (.int (gI u 3)) := rfl
theorem Ff0_at4 (r : Nat → Nat) (u : ST) : (Ff0 r u)[4]? = some (.int (gI u 4)) := rfl
theorem Ff0_at5 (r : Nat → Nat) (u : ST) : (Ff0 r u)[5]? = some (.int (gI u 5)) := rfl
theorem W0_sI2 (h : Nat) (r : Nat → Nat) (cs : Nat → ClassId) (u u9 : ST) (x : Int32) (e : u9 = sI u 2 x) : (W0 h r cs u).set 0 (h, .inr (0, (Ff0 r u).set 2 (.int x))) = W0 h r cs u9 := by subst e; rfl
theorem W0_sI3 (h : Nat) (r : Nat → Nat) (cs : Nat → ClassId) (u u9 : ST) (x : Int32) (e : u9 = sI u 3 x) : (W0 h r cs u).set 0 (h, .inr (0, (Ff0 r u).set 3 (.int x))) = W0 h r cs u9 := by subst e; rfl
theorem W0_sI4 (h : Nat) (r : Nat → Nat) (cs : Nat → ClassId) (u u9 : ST) (x : Int32) (e : u9 = sI u 4 x) : (W0 h r cs u).set 0 (h, .inr (0, (Ff0 r u).set 4 (.int x))) = W0 h r cs u9 := by subst e; rfl
theorem W0_sI5 (h : Nat) (r : Nat → Nat) (cs : Nat → ClassId) (u u9 : ST) (x : Int32) (e : u9 = sI u 5 x) : (W0 h r cs u).set 0 (h, .inr (0, (Ff0 r u).set 5 (.int x))) = W0 h r cs u9 := by subst e; rfl
theorem W0_sA0 (h : Nat) (r : Nat → Nat) (cs : Nat → ClassId) (u u9 : ST) (f : Nat → Int32) (e : u9 = sA u 0 f) : (W0 h r cs u).set 1 (r 0, .inl (cs 0, 50, .inl f)) = W0 h r cs u9 := by subst e; rfl
theorem W0_sA1 (h : Nat) (r : Nat → Nat) (cs : Nat → ClassId) (u u9 : ST) (f : Nat → Int32) (e : u9 = sA u 1 f) : (W0 h r cs u).set 2 (r 1, .inl (cs 0, 24, .inl f)) = W0 h r cs u9 := by subst e; rfl
theorem W0_self (h : Nat) (r : Nat → Nat) (cs : Nat → ClassId) : ∀ v, (W0 h r cs v).Perm ([] ++ (W0 h r cs v ++ [])) := fun v => by rw [List.append_nil, List.nil_append]

def wp_X0_isKind (a0 : Int32) (Q : Int32 → Prop) : Prop :=
  (wp_X11_within a0 (0 : Int32) (7 : Int32) (fun y4 => y4 &&& 1 = y4 ∧ Q y4))
set_option maxHeartbeats 4000000 in
set_option maxRecDepth 100000 in
theorem c_X0_isKind (l : Launch) (a0 : Int32) (Q : Int32 → Prop) (hw : wp_X0_isKind a0 Q) : mTi l yX0_isKind wsX0_isKind ({ frames := 1, cells := 0, slots := 0, locals := 22 } : Room) [.int a0] Q := by
  refine m_enterT (cc := cX0_isKind) (maxL := 1) (ret := (some .boolean)) (by decide) rfl (Nat.le_of_ble_eq_true rfl) ?_
  intro p e s m args below meth c ls S hr hlocks hname hl hN
  have S : CallFix p m c cX0_isKind 1 s args wsX0_isKind RX0 := S
  generalize hZ : MQ below (vp_Si Q) args s 0 0 (fun _ => False) = Z
  have hl : lv_has ls 1 [(0, .int a0)] := hl
  unfold wp_X0_isKind at hw
  refine lv_iload_n S.1 S.2.1 dX0_isKind_0 rfl (lv_at hl 0 rfl) ?_
  refine lv_iconst (v := 0) S.1 S.2.1 dX0_isKind_1 (by decide) ?_
  refine lv_bipush (v := 7) S.1 S.2.1 dX0_isKind_2 (by decide) ?_
  refine m_siN (As := [.int a0, .int (0 : Int32), .int (7 : Int32)]) (rest := []) S hN (c_X11_within l a0 (0 : Int32) (7 : Int32) _ hw) 3 gX0_isKind_X11_within_n18 rfl rfl rfl nm_X0_18 (List.mem_of_getElem? (i := 2) rfl) (List.mem_of_getElem? (i := 1) rfl) (by decide +kernel) ⟨Nat.le_of_ble_eq_true rfl, Nat.le_of_ble_eq_true rfl⟩ rfl hl.1 rfl (Nat.le_of_ble_eq_true rfl) dX0_isKind_4 ⟨Nat.zero_le _, Nat.zero_le _⟩ (fun y4 hw => ?_)
  subst hZ
  exact m_tzret S hr hlocks hw.1 hw.2 dX0_isKind_7

def wp_X0_isUnder_p36 (u : ST) (Q : Int32 → ST → Prop) : Prop :=
  ((0 : Int32) &&& 1 = (0 : Int32) ∧ Q (0 : Int32) u)
def wp_X0_isUnder_p4b (x1 : Int32) (x2 : Int32) (x3 : Int32) (u : ST) (B4 : Int32 → Int32 → Int32 → ST → Prop) (Q : Int32 → ST → Prop) : Prop :=
  (((8 : Int32) ≤ x3 → wp_X0_isUnder_p36 u Q) ∧ (¬ (8 : Int32) ≤ x3 → (wp_X0_isKind x2 (fun y11 => ((y11 = 0 → wp_X0_isUnder_p36 u Q) ∧ (¬ y11 = 0 → ((¬ x2 = x1 → (vp_in x2 8 ∧ ∀ y28 : Int32, y28 = xABOVE x2.toNatClampNeg → (∀ y30 : Int32, y30 = x3 + 1 → B4 x1 y28 y30 u))) ∧ (x2 = x1 → ((1 : Int32) &&& 1 = (1 : Int32) ∧ Q (1 : Int32) u)))))))))
def wp_X0_isUnder_p4 (x1 : Int32) (x2 : Int32) (x3 : Int32) (u : ST) (Q : Int32 → ST → Prop) : Prop := ∃ (I : Int32 → Int32 → Int32 → ST → Prop) (μ : Int32 → Int32 → Int32 → ST → Nat), I x1 x2 x3 u ∧ ∀ (x1 : Int32) (x2 : Int32) (x3 : Int32) (u : ST), I x1 x2 x3 u → wp_X0_isUnder_p4b x1 x2 x3 u (fun yx1 yx2 yx3 yu => I yx1 yx2 yx3 yu ∧ μ yx1 yx2 yx3 yu < μ x1 x2 x3 u) Q
def wp_X0_isUnder (a0 : Int32) (a1 : Int32) (u : ST) (Q : Int32 → ST → Prop) : Prop :=
  wp_X0_isUnder_p4 a1 a0 (0 : Int32) u Q
set_option maxHeartbeats 4000000 in
set_option maxRecDepth 100000 in
theorem c_X0_isUnder (l : Launch) (D : va_G) (cs : Nat → ClassId) (a0 : Int32) (a1 : Int32) (u : ST) (Q : Int32 → ST → Prop) (hw : wp_X0_isUnder a0 a1 u Q) : mCi l yX0_isUnder wsX0_isUnder ({ frames := 2, cells := 0, slots := 0, locals := 42 } : Room) 0 0 D (mT cs) (mE) [.int a0, .int a1] u Q := by
  unfold mCi
  refine m_enter (QQ := fun A => va_Qi Q (mPos D (mT cs) A (mE)) A) (cc := cX0_isUnder) (maxL := 4) (ret := (some .boolean)) (by decide) rfl (Nat.le_of_ble_eq_true rfl) ?_
  intro p e s m args below meth c A ls S hr hlocks hname hl hI
  have S : CallFix p m c cX0_isUnder 4 s args wsX0_isUnder RX0 := S
  show W p l e ({ frames := 2, cells := 0, slots := 0, locals := 42 } : Room) s m args below meth c s.heap [] 0 0 (MQ below (va_Qi Q (mPos D (mT cs) A (mE)) A) args s 0 0 A) (F0 m 0 ls [])
  generalize hZ : MQ below (va_Qi Q (mPos D (mT cs) A (mE)) A) args s 0 0 A = Z
  have hl : lv_has ls 4 [(0, .int a0), (1, .int a1)] := hl
  have b36 : ∀ (u : ST), wp_X0_isUnder_p36 u Q → mGo p l e ({ frames := 2, cells := 0, slots := 0, locals := 42 } : Room) s m args below meth c A Z 4 D (mT cs) (mE) 36 [] [] u := by
    intro u hw H locs ls hI hl
    unfold wp_X0_isUnder_p36 at hw
    refine lv_iconst (v := 0) S.1 S.2.1 dX0_isUnder_36 (by decide) ?_
    subst hZ
    exact m_zret S hr hlocks hI hw.1 hw.2 dX0_isUnder_37
  have b4b : ∀ (B4 : Int32 → Int32 → Int32 → ST → Prop), (∀ (x1 : Int32) (x2 : Int32) (x3 : Int32) (u : ST), B4 x1 x2 x3 u → mGo p l e ({ frames := 2, cells := 0, slots := 0, locals := 42 } : Room) s m args below meth c A Z 4 D (mT cs) (mE) 4 [(1, .int x1), (2, .int x2), (3, .int x3)] [] u) → ∀ (x1 : Int32) (x2 : Int32) (x3 : Int32) (u : ST), wp_X0_isUnder_p4b x1 x2 x3 u B4 Q → mGo p l e ({ frames := 2, cells := 0, slots := 0, locals := 42 } : Room) s m args below meth c A Z 4 D (mT cs) (mE) 4 [(1, .int x1), (2, .int x2), (3, .int x3)] [] u := by
    intro B4 hB4 x1 x2 x3 u hw H locs ls hI hl
    unfold wp_X0_isUnder_p4b at hw
    refine lv_iload_n S.1 S.2.1 dX0_isUnder_4 rfl (lv_at hl 2 rfl) ?_
    refine lv_bipush (v := 8) S.1 S.2.1 dX0_isUnder_5 (by decide) ?_
    refine lv_icmp_ge (tgt := 36) S.1 S.2.1 dX0_isUnder_7 (by decide) (fun c7 => ?_) (fun c7 => ?_)
    · have hw := hw.1 c7
      exact b36 u hw H locs ls hI (lv_sub hl [] rfl)
    · have hw := hw.2 c7
      refine lv_iload_n S.1 S.2.1 dX0_isUnder_10 rfl (lv_at hl 1 rfl) ?_
      refine m_si (As := [.int x2]) (rest := []) S hI.2.2.2.1.2.1 (c_X0_isKind l x2 _ hw) (va_cwS 1 S.2.2.2.2 gX0_isUnder_X0_isKind rfl rfl rfl (by decide +kernel) ⟨Nat.le_of_ble_eq_true rfl, Nat.le_of_ble_eq_true rfl⟩) rfl hl.1 rfl (Nat.le_of_ble_eq_true rfl) dX0_isUnder_11 ⟨Nat.zero_le _, Nat.zero_le _⟩ (fun y11 hw => ?_)
      refine lv_if_eq (tgt := 36) S.1 S.2.1 dX0_isUnder_14 (by decide) (fun c14 => ?_) (fun c14 => ?_)
      · have hw := hw.1 c14
        exact b36 u hw H locs ls hI (lv_sub hl [] rfl)
      · have hw := hw.2 c14
        refine lv_iload_n S.1 S.2.1 dX0_isUnder_17 rfl (lv_at hl 1 rfl) ?_
        refine lv_iload_n S.1 S.2.1 dX0_isUnder_18 rfl (lv_at hl 0 rfl) ?_
        refine lv_icmp_ne (tgt := 24) S.1 S.2.1 dX0_isUnder_19 (by decide) (fun c19 => ?_) (fun c19 => ?_)
        · have hw := hw.1 c19
          refine m_gets S hI hI.2.2.2.1.2.2.2.2.1 (List.mem_of_getElem? (i := 1) rfl) dX0_isUnder_24 (fun t24 ht24 => ?_)
          refine lv_iload_n S.1 S.2.1 dX0_isUnder_27 rfl (lv_at hl 1 rfl) ?_
          refine m_ti S hI ht24 hw.1 dX0_isUnder_28 ?_
          refine lv_topi (fun y28 ey28 => ?_)
          have hw := hw.2 y28 ey28
          refine lv_istore_n (lv' := [(2, .int y28), (1, .int x1), (3, .int x3)]) S.1 S.2.1 dX0_isUnder_29 rfl hl (by decide) rfl (fun ls hl => ?_)
          obtain ⟨y30, ey30⟩ : ∃ z : Int32, z = x3 + 1 := ⟨_, rfl⟩
          have hw := hw y30 ey30
          refine lv_iinc (v := y30) (lv' := [(3, .int y30), (2, .int y28), (1, .int x1)]) S.1 S.2.1 dX0_isUnder_30 hl (k := 2) rfl (by rw [ey30]; rfl) (by decide) rfl (fun ls hl => ?_)
          refine lv_goto (tgt := 4) S.1 S.2.1 dX0_isUnder_33 (by decide) ?_
          exact hB4 x1 y28 y30 u hw H locs ls hI (lv_sub hl [2, 1, 0] rfl)
        · have hw := hw.2 c19
          refine lv_iconst (v := 1) S.1 S.2.1 dX0_isUnder_22 (by decide) ?_
          subst hZ
          exact m_zret S hr hlocks hI hw.1 hw.2 dX0_isUnder_23
  have b4 : ∀ (x1 : Int32) (x2 : Int32) (x3 : Int32) (u : ST), wp_X0_isUnder_p4 x1 x2 x3 u Q → mGo p l e ({ frames := 2, cells := 0, slots := 0, locals := 42 } : Room) s m args below meth c A Z 4 D (mT cs) (mE) 4 [(1, .int x1), (2, .int x2), (3, .int x3)] [] u := by
    intro x1 x2 x3 u hw
    obtain ⟨I, μ, h0, hs⟩ := hw
    have key : ∀ (n : Nat) (x1 : Int32) (x2 : Int32) (x3 : Int32) (u : ST), μ x1 x2 x3 u = n → I x1 x2 x3 u → mGo p l e ({ frames := 2, cells := 0, slots := 0, locals := 42 } : Room) s m args below meth c A Z 4 D (mT cs) (mE) 4 [(1, .int x1), (2, .int x2), (3, .int x3)] [] u := by
      intro n
      induction n using Nat.strongRecOn with
      | ind n ih =>
        intro x1 x2 x3 u hn hi
        exact b4b (fun yx1 yx2 yx3 yu => I yx1 yx2 yx3 yu ∧ μ yx1 yx2 yx3 yu < μ x1 x2 x3 u) (fun yx1 yx2 yx3 yu hb => ih _ (hn ▸ hb.2) yx1 yx2 yx3 yu rfl hb.1) x1 x2 x3 u (hs x1 x2 x3 u hi)
    exact key _ x1 x2 x3 u rfl h0
  unfold wp_X0_isUnder at hw
  obtain ⟨H, hH⟩ : ∃ z : Heap, z = s.heap := ⟨_, rfl⟩
  obtain ⟨locs, hL⟩ : ∃ z : List Loc, z = [] := ⟨_, rfl⟩
  rw [show W p l e ({ frames := 2, cells := 0, slots := 0, locals := 42 } : Room) s m args below meth c s.heap [] 0 0 Z (F0 m 0 ls []) = W p l e ({ frames := 2, cells := 0, slots := 0, locals := 42 } : Room) s m args below meth c H locs 0 0 Z (F0 m 0 ls []) by rw [hH, hL]]
  replace hI : mI D (mT cs) A s.heap s (mE u) H locs := by rw [hH, hL]; exact hI
  refine lv_iload_n S.1 S.2.1 dX0_isUnder_0 rfl (lv_at hl 0 rfl) ?_
  refine lv_istore_n (lv' := [(2, .int a0), (0, .int a0), (1, .int a1)]) S.1 S.2.1 dX0_isUnder_1 rfl hl (by decide) rfl (fun ls hl => ?_)
  refine lv_iconst (v := 0) S.1 S.2.1 dX0_isUnder_2 (by decide) ?_
  refine lv_istore_n (lv' := [(3, .int (0 : Int32)), (2, .int a0), (0, .int a0), (1, .int a1)]) S.1 S.2.1 dX0_isUnder_3 rfl hl (by decide) rfl (fun ls hl => ?_)
  exact b4 a1 a0 (0 : Int32) u hw H locs ls hI (lv_sub hl [3, 1, 0] rfl)

def wp_X0_has_p17 (t0 : Int32) (u : ST) (Q : Int32 → ST → Prop) : Prop :=
  (t0 &&& 1 = t0 ∧ Q t0 u)
def wp_X0_has_p16 (u : ST) (Q : Int32 → ST → Prop) : Prop :=
  wp_X0_has_p17 (0 : Int32) u Q
def wp_X0_has (a1 : Int32) (u : ST) (Q : Int32 → ST → Prop) : Prop :=
  ((a1 < 0 → wp_X0_has_p16 u Q) ∧ (¬ a1 < 0 → (((gI u 2) ≤ a1 → wp_X0_has_p16 u Q) ∧ (¬ (gI u 2) ≤ a1 → wp_X0_has_p17 (1 : Int32) u Q))))
set_option maxHeartbeats 4000000 in
set_option maxRecDepth 100000 in
theorem c_X0_has (l : Launch) (D : va_G) (h : Nat) (r : Nat → Nat) (cs : Nat → ClassId) (a1 : Int32) (u : ST) (Q : Int32 → ST → Prop) (hw : wp_X0_has a1 u Q) : mCi l yX0_has wsX0_has ({ frames := 0, cells := 0, slots := 0, locals := 0 } : Room) 0 0 D (mT cs) (W0 h r cs) [.ref h, .int a1] u Q := by
  unfold mCi
  refine m_enter (QQ := fun A => va_Qi Q (mPos D (mT cs) A (W0 h r cs)) A) (cc := cX0_has) (maxL := 2) (ret := (some .boolean)) (by decide) rfl (Nat.le_of_ble_eq_true rfl) ?_
  intro p e s m args below meth c A ls S hr hlocks hname hl hI
  have S : CallFix p m c cX0_has 2 s args wsX0_has RX0 := S
  show W p l e ({ frames := 0, cells := 0, slots := 0, locals := 0 } : Room) s m args below meth c s.heap [] 0 0 (MQ below (va_Qi Q (mPos D (mT cs) A (W0 h r cs)) A) args s 0 0 A) (F0 m 0 ls [])
  generalize hZ : MQ below (va_Qi Q (mPos D (mT cs) A (W0 h r cs)) A) args s 0 0 A = Z
  have hin : ∀ w ∈ wsX00, w ∈ wsX0_has := fun _ h => List.mem_cons_of_mem _ (List.mem_append_right _ h)
  have hl : lv_has ls 2 [(0, .ref h), (1, .int a1)] := hl
  have b17 : ∀ (t0 : Int32) (u : ST), wp_X0_has_p17 t0 u Q → mGo p l e ({ frames := 0, cells := 0, slots := 0, locals := 0 } : Room) s m args below meth c A Z 2 D (mT cs) (W0 h r cs) 17 [(0, .ref h)] [.int t0] u := by
    intro t0 u hw H locs ls hI hl
    unfold wp_X0_has_p17 at hw
    subst hZ
    exact m_zret S hr hlocks hI hw.1 hw.2 dX0_has_17
  have b16 : ∀ (u : ST), wp_X0_has_p16 u Q → mGo p l e ({ frames := 0, cells := 0, slots := 0, locals := 0 } : Room) s m args below meth c A Z 2 D (mT cs) (W0 h r cs) 16 [(0, .ref h)] [] u := by
    intro u hw H locs ls hI hl
    unfold wp_X0_has_p16 at hw
    refine lv_iconst (v := 0) S.1 S.2.1 dX0_has_16 (by decide) ?_
    exact b17 (0 : Int32) u hw H locs ls hI (lv_sub hl [0] rfl)
  unfold wp_X0_has at hw
  obtain ⟨H, hH⟩ : ∃ z : Heap, z = s.heap := ⟨_, rfl⟩
  obtain ⟨locs, hL⟩ : ∃ z : List Loc, z = [] := ⟨_, rfl⟩
  rw [show W p l e ({ frames := 0, cells := 0, slots := 0, locals := 0 } : Room) s m args below meth c s.heap [] 0 0 Z (F0 m 0 ls []) = W p l e ({ frames := 0, cells := 0, slots := 0, locals := 0 } : Room) s m args below meth c H locs 0 0 Z (F0 m 0 ls []) by rw [hH, hL]]
  replace hI : mI D (mT cs) A s.heap s (W0 h r cs u) H locs := by rw [hH, hL]; exact hI
  refine lv_iload_n S.1 S.2.1 dX0_has_0 rfl (lv_at hl 1 rfl) ?_
  refine lv_if_lt (tgt := 16) S.1 S.2.1 dX0_has_1 (by decide) (fun c1 => ?_) (fun c1 => ?_)
  · have hw := hw.1 c1
    exact b16 u hw H locs ls hI (lv_sub hl [0] rfl)
  · have hw := hw.2 c1
    refine lv_iload_n S.1 S.2.1 dX0_has_4 rfl (lv_at hl 1 rfl) ?_
    refine lv_aload_n S.1 S.2.1 dX0_has_5 rfl (lv_at hl 0 rfl) ?_
    refine m_get S hin hI 0 (W0_at0 h r cs u) rfl 2 (Nat.le_of_ble_eq_true rfl) (List.mem_of_getElem? (i := 1) rfl) rfl (Ff0_at2 r u) dX0_has_6 ?_
    refine lv_icmp_ge (tgt := 16) S.1 S.2.1 dX0_has_9 (by decide) (fun c9 => ?_) (fun c9 => ?_)
    · have hw := hw.1 c9
      exact b16 u hw H locs ls hI (lv_sub hl [0] rfl)
    · have hw := hw.2 c9
      refine lv_iconst (v := 1) S.1 S.2.1 dX0_has_12 (by decide) ?_
      refine lv_goto (tgt := 17) S.1 S.2.1 dX0_has_13 (by decide) ?_
      exact b17 (1 : Int32) u hw H locs ls hI (lv_sub hl [0] rfl)

def wp_X0_kindOf_p18 (t0 : Int32) (u : ST) (Q : Int32 → ST → Prop) : Prop :=
  Q t0 u
def wp_X0_kindOf (a1 : Int32) (u : ST) (Q : Int32 → ST → Prop) : Prop :=
  (wp_X0_has a1 u (fun y2 u2 => ((y2 = 0 → wp_X0_kindOf_p18 ((-1) : Int32) u2 Q) ∧ (¬ y2 = 0 → (vp_in a1 50 ∧ ∀ y13 : Int32, y13 = gA u2 0 a1.toNatClampNeg → wp_X0_kindOf_p18 y13 u2 Q)))))
set_option maxHeartbeats 4000000 in
set_option maxRecDepth 100000 in
theorem c_X0_kindOf (l : Launch) (D : va_G) (h : Nat) (r : Nat → Nat) (cs : Nat → ClassId) (a1 : Int32) (u : ST) (Q : Int32 → ST → Prop) (hw : wp_X0_kindOf a1 u Q) : mCi l yX0_kindOf wsX0_kindOf ({ frames := 1, cells := 0, slots := 0, locals := 21 } : Room) 0 0 D (mT cs) (W0 h r cs) [.ref h, .int a1] u Q := by
  unfold mCi
  refine m_enter (QQ := fun A => va_Qi Q (mPos D (mT cs) A (W0 h r cs)) A) (cc := cX0_kindOf) (maxL := 2) (ret := (some .int)) (by decide) rfl (Nat.le_of_ble_eq_true rfl) ?_
  intro p e s m args below meth c A ls S hr hlocks hname hl hI
  have S : CallFix p m c cX0_kindOf 2 s args wsX0_kindOf RX0 := S
  show W p l e ({ frames := 1, cells := 0, slots := 0, locals := 21 } : Room) s m args below meth c s.heap [] 0 0 (MQ below (va_Qi Q (mPos D (mT cs) A (W0 h r cs)) A) args s 0 0 A) (F0 m 0 ls [])
  generalize hZ : MQ below (va_Qi Q (mPos D (mT cs) A (W0 h r cs)) A) args s 0 0 A = Z
  have hin : ∀ w ∈ wsX00, w ∈ wsX0_kindOf := fun _ h => List.mem_cons_of_mem _ (List.mem_append_right _ h)
  have hl : lv_has ls 2 [(0, .ref h), (1, .int a1)] := hl
  have b18 : ∀ (t0 : Int32) (u : ST), wp_X0_kindOf_p18 t0 u Q → mGo p l e ({ frames := 1, cells := 0, slots := 0, locals := 21 } : Room) s m args below meth c A Z 2 D (mT cs) (W0 h r cs) 18 [(0, .ref h)] [.int t0] u := by
    intro t0 u hw H locs ls hI hl
    unfold wp_X0_kindOf_p18 at hw
    subst hZ
    exact m_iret S hr hlocks hI hw dX0_kindOf_18
  unfold wp_X0_kindOf at hw
  obtain ⟨H, hH⟩ : ∃ z : Heap, z = s.heap := ⟨_, rfl⟩
  obtain ⟨locs, hL⟩ : ∃ z : List Loc, z = [] := ⟨_, rfl⟩
  rw [show W p l e ({ frames := 1, cells := 0, slots := 0, locals := 21 } : Room) s m args below meth c s.heap [] 0 0 Z (F0 m 0 ls []) = W p l e ({ frames := 1, cells := 0, slots := 0, locals := 21 } : Room) s m args below meth c H locs 0 0 Z (F0 m 0 ls []) by rw [hH, hL]]
  replace hI : mI D (mT cs) A s.heap s (W0 h r cs u) H locs := by rw [hH, hL]; exact hI
  refine lv_aload_n S.1 S.2.1 dX0_kindOf_0 rfl (lv_at hl 0 rfl) ?_
  refine lv_iload_n S.1 S.2.1 dX0_kindOf_1 rfl (lv_at hl 1 rfl) ?_
  refine m_vi (As := [.int a1]) (rest := []) S (W0_self h r cs) hI rfl (c_X0_has l D h r cs a1 u _ hw) (cwV 1 S.2.2.2.2 gX0_kindOf_X0_has rfl rfl rfl (by decide +kernel) ⟨Nat.le_of_ble_eq_true rfl, Nat.le_of_ble_eq_true rfl⟩) (W0_at0 h r cs u) rfl rfl hl.1 rfl (Nat.le_of_ble_eq_true rfl) dX0_kindOf_2 ⟨Nat.zero_le _, Nat.zero_le _⟩ (fun y2 u2 H locs hw hI => ?_)
  refine lv_if_eq (tgt := 17) S.1 S.2.1 dX0_kindOf_5 (by decide) (fun c5 => ?_) (fun c5 => ?_)
  · have hw := hw.1 c5
    refine lv_iconst (v := (-1)) S.1 S.2.1 dX0_kindOf_17 (by decide) ?_
    exact b18 ((-1) : Int32) u2 hw H locs ls hI (lv_sub hl [0] rfl)
  · have hw := hw.2 c5
    refine lv_aload_n S.1 S.2.1 dX0_kindOf_8 rfl (lv_at hl 0 rfl) ?_
    refine m_get S hin hI 0 (W0_at0 h r cs u2) rfl 0 (Nat.le_of_ble_eq_true rfl) (List.mem_of_getElem? (i := 1) rfl) rfl (Ff0_at0 r u2) dX0_kindOf_9 ?_
    refine lv_iload_n S.1 S.2.1 dX0_kindOf_12 rfl (lv_at hl 1 rfl) ?_
    refine m_iald S hI 1 0 (W0_at1 h r cs u2) rfl hw.1 dX0_kindOf_13 ?_
    refine lv_topi (fun y13 ey13 => ?_)
    have hw := hw.2 y13 ey13
    refine lv_goto (tgt := 18) S.1 S.2.1 dX0_kindOf_14 (by decide) ?_
    exact b18 y13 u2 hw H locs ls hI (lv_sub hl [0] rfl)

def wp_X0_add (a1 : Int32) (u : ST) (Q : Int32 → ST → Prop) : Prop :=
  (((gI u 2) < (50 : Int32) → (vp_in (gI u 2) 50 ∧ ∀ u21 : ST, u21 = sA u 0 (upd (gA u 0) (gI u 2).toNatClampNeg a1) → (∀ y28 : Int32, y28 = (gI u21 2) + (1 : Int32) → (∀ u29 : ST, u29 = sI u21 2 y28 → (∀ y37 : Int32, y37 = (gI u29 2) - (1 : Int32) → Q y37 u29))))) ∧ (¬ (gI u 2) < (50 : Int32) → Q ((-3) : Int32) u))
set_option maxHeartbeats 4000000 in
set_option maxRecDepth 100000 in
theorem c_X0_add (l : Launch) (D : va_G) (h : Nat) (r : Nat → Nat) (cs : Nat → ClassId) (a1 : Int32) (u : ST) (Q : Int32 → ST → Prop) (hw : wp_X0_add a1 u Q) : mCi l yX0_add wsX0_add ({ frames := 0, cells := 0, slots := 0, locals := 0 } : Room) 0 0 D (mT cs) (W0 h r cs) [.ref h, .int a1] u Q := by
  unfold mCi
  refine m_enter (QQ := fun A => va_Qi Q (mPos D (mT cs) A (W0 h r cs)) A) (cc := cX0_add) (maxL := 2) (ret := (some .int)) (by decide) rfl (Nat.le_of_ble_eq_true rfl) ?_
  intro p e s m args below meth c A ls S hr hlocks hname hl hI
  have S : CallFix p m c cX0_add 2 s args wsX0_add RX0 := S
  show W p l e ({ frames := 0, cells := 0, slots := 0, locals := 0 } : Room) s m args below meth c s.heap [] 0 0 (MQ below (va_Qi Q (mPos D (mT cs) A (W0 h r cs)) A) args s 0 0 A) (F0 m 0 ls [])
  generalize hZ : MQ below (va_Qi Q (mPos D (mT cs) A (W0 h r cs)) A) args s 0 0 A = Z
  have hin : ∀ w ∈ wsX00, w ∈ wsX0_add := fun _ h => List.mem_cons_of_mem _ (List.mem_append_right _ h)
  have hl : lv_has ls 2 [(0, .ref h), (1, .int a1)] := hl
  unfold wp_X0_add at hw
  obtain ⟨H, hH⟩ : ∃ z : Heap, z = s.heap := ⟨_, rfl⟩
  obtain ⟨locs, hL⟩ : ∃ z : List Loc, z = [] := ⟨_, rfl⟩
  rw [show W p l e ({ frames := 0, cells := 0, slots := 0, locals := 0 } : Room) s m args below meth c s.heap [] 0 0 Z (F0 m 0 ls []) = W p l e ({ frames := 0, cells := 0, slots := 0, locals := 0 } : Room) s m args below meth c H locs 0 0 Z (F0 m 0 ls []) by rw [hH, hL]]
  replace hI : mI D (mT cs) A s.heap s (W0 h r cs u) H locs := by rw [hH, hL]; exact hI
  refine lv_aload_n S.1 S.2.1 dX0_add_0 rfl (lv_at hl 0 rfl) ?_
  refine m_get S hin hI 0 (W0_at0 h r cs u) rfl 2 (Nat.le_of_ble_eq_true rfl) (List.mem_of_getElem? (i := 1) rfl) rfl (Ff0_at2 r u) dX0_add_1 ?_
  refine lv_bipush (v := 50) S.1 S.2.1 dX0_add_4 (by decide) ?_
  refine lv_icmp_lt (tgt := 12) S.1 S.2.1 dX0_add_6 (by decide) (fun c6 => ?_) (fun c6 => ?_)
  · have hw := hw.1 c6
    refine lv_aload_n S.1 S.2.1 dX0_add_12 rfl (lv_at hl 0 rfl) ?_
    refine m_get S hin hI 0 (W0_at0 h r cs u) rfl 0 (Nat.le_of_ble_eq_true rfl) (List.mem_of_getElem? (i := 2) rfl) rfl (Ff0_at0 r u) dX0_add_13 ?_
    refine lv_aload_n S.1 S.2.1 dX0_add_16 rfl (lv_at hl 0 rfl) ?_
    refine m_get S hin hI 0 (W0_at0 h r cs u) rfl 2 (Nat.le_of_ble_eq_true rfl) (List.mem_of_getElem? (i := 1) rfl) rfl (Ff0_at2 r u) dX0_add_17 ?_
    refine lv_iload_n S.1 S.2.1 dX0_add_20 rfl (lv_at hl 1 rfl) ?_
    obtain ⟨u21, eu21⟩ : ∃ z : ST, z = sA u 0 (upd (gA u 0) (gI u 2).toNatClampNeg a1) := ⟨_, rfl⟩
    refine m_iast S hI 1 0 (W0_at1 h r cs u) rfl hw.1 (W0_sA0 h r cs u u21 _ eu21) dX0_add_21 (fun H locs hI => ?_)
    have hw := hw.2 u21 eu21
    refine lv_aload_n S.1 S.2.1 dX0_add_22 rfl (lv_at hl 0 rfl) ?_
    refine lv_dup S.1 S.2.1 dX0_add_23 rfl ?_
    refine m_get S hin hI 0 (W0_at0 h r cs u21) rfl 2 (Nat.le_of_ble_eq_true rfl) (List.mem_of_getElem? (i := 1) rfl) rfl (Ff0_at2 r u21) dX0_add_24 ?_
    refine lv_iconst (v := 1) S.1 S.2.1 dX0_add_27 (by decide) ?_
    refine lv_iadd S.1 S.2.1 dX0_add_28 ?_
    refine lv_topi (fun y28 ey28 => ?_)
    have hw := hw y28 ey28
    obtain ⟨u29, eu29⟩ : ∃ z : ST, z = sI u21 2 y28 := ⟨_, rfl⟩
    have hw := hw u29 eu29
    refine m_put S hin tyX0_ok nmX0 hI 0 (W0_at0 h r cs u21) rfl 2 (Nat.le_of_ble_eq_true rfl) (List.mem_of_getElem? (i := 1) rfl) rfl rfl rfl rfl (Nat.le_of_ble_eq_true rfl) (W0_sI2 h r cs u21 u29 y28 eu29) dX0_add_29 (fun H locs hI => ?_)
    refine lv_aload_n S.1 S.2.1 dX0_add_32 rfl (lv_at hl 0 rfl) ?_
    refine m_get S hin hI 0 (W0_at0 h r cs u29) rfl 2 (Nat.le_of_ble_eq_true rfl) (List.mem_of_getElem? (i := 1) rfl) rfl (Ff0_at2 r u29) dX0_add_33 ?_
    refine lv_iconst (v := 1) S.1 S.2.1 dX0_add_36 (by decide) ?_
    refine lv_isub S.1 S.2.1 dX0_add_37 ?_
    refine lv_topi (fun y37 ey37 => ?_)
    have hw := hw y37 ey37
    subst hZ
    exact m_iret S hr hlocks hI hw dX0_add_38
  · have hw := hw.2 c6
    refine lv_bipush (v := (-3)) S.1 S.2.1 dX0_add_9 (by decide) ?_
    subst hZ
    exact m_iret S hr hlocks hI hw dX0_add_11

def wp_X0_traced_p28 (t0 : Int32) (u : ST) (Q : Int32 → ST → Prop) : Prop :=
  Q t0 u
def wp_X0_traced_p27 (u : ST) (Q : Int32 → ST → Prop) : Prop :=
  wp_X0_traced_p28 ((-1) : Int32) u Q
def wp_X0_traced (a1 : Int32) (u : ST) (Q : Int32 → ST → Prop) : Prop :=
  ((a1 < 0 → wp_X0_traced_p27 u Q) ∧ (¬ a1 < 0 → (((gI u 3) ≤ a1 → wp_X0_traced_p27 u Q) ∧ (¬ (gI u 3) ≤ a1 → (((24 : Int32) ≤ a1 → wp_X0_traced_p27 u Q) ∧ (¬ (24 : Int32) ≤ a1 → (vp_in a1 24 ∧ ∀ y23 : Int32, y23 = gA u 1 a1.toNatClampNeg → wp_X0_traced_p28 y23 u Q)))))))
set_option maxHeartbeats 4000000 in
set_option maxRecDepth 100000 in
theorem c_X0_traced (l : Launch) (D : va_G) (h : Nat) (r : Nat → Nat) (cs : Nat → ClassId) (a1 : Int32) (u : ST) (Q : Int32 → ST → Prop) (hw : wp_X0_traced a1 u Q) : mCi l yX0_traced wsX0_traced ({ frames := 0, cells := 0, slots := 0, locals := 0 } : Room) 0 0 D (mT cs) (W0 h r cs) [.ref h, .int a1] u Q := by
  unfold mCi
  refine m_enter (QQ := fun A => va_Qi Q (mPos D (mT cs) A (W0 h r cs)) A) (cc := cX0_traced) (maxL := 2) (ret := (some .int)) (by decide) rfl (Nat.le_of_ble_eq_true rfl) ?_
  intro p e s m args below meth c A ls S hr hlocks hname hl hI
  have S : CallFix p m c cX0_traced 2 s args wsX0_traced RX0 := S
  show W p l e ({ frames := 0, cells := 0, slots := 0, locals := 0 } : Room) s m args below meth c s.heap [] 0 0 (MQ below (va_Qi Q (mPos D (mT cs) A (W0 h r cs)) A) args s 0 0 A) (F0 m 0 ls [])
  generalize hZ : MQ below (va_Qi Q (mPos D (mT cs) A (W0 h r cs)) A) args s 0 0 A = Z
  have hin : ∀ w ∈ wsX00, w ∈ wsX0_traced := fun _ h => List.mem_cons_of_mem _ (List.mem_append_right _ h)
  have hl : lv_has ls 2 [(0, .ref h), (1, .int a1)] := hl
  have b28 : ∀ (t0 : Int32) (u : ST), wp_X0_traced_p28 t0 u Q → mGo p l e ({ frames := 0, cells := 0, slots := 0, locals := 0 } : Room) s m args below meth c A Z 2 D (mT cs) (W0 h r cs) 28 [(0, .ref h)] [.int t0] u := by
    intro t0 u hw H locs ls hI hl
    unfold wp_X0_traced_p28 at hw
    subst hZ
    exact m_iret S hr hlocks hI hw dX0_traced_28
  have b27 : ∀ (u : ST), wp_X0_traced_p27 u Q → mGo p l e ({ frames := 0, cells := 0, slots := 0, locals := 0 } : Room) s m args below meth c A Z 2 D (mT cs) (W0 h r cs) 27 [(0, .ref h)] [] u := by
    intro u hw H locs ls hI hl
    unfold wp_X0_traced_p27 at hw
    refine lv_iconst (v := (-1)) S.1 S.2.1 dX0_traced_27 (by decide) ?_
    exact b28 ((-1) : Int32) u hw H locs ls hI (lv_sub hl [0] rfl)
  unfold wp_X0_traced at hw
  obtain ⟨H, hH⟩ : ∃ z : Heap, z = s.heap := ⟨_, rfl⟩
  obtain ⟨locs, hL⟩ : ∃ z : List Loc, z = [] := ⟨_, rfl⟩
  rw [show W p l e ({ frames := 0, cells := 0, slots := 0, locals := 0 } : Room) s m args below meth c s.heap [] 0 0 Z (F0 m 0 ls []) = W p l e ({ frames := 0, cells := 0, slots := 0, locals := 0 } : Room) s m args below meth c H locs 0 0 Z (F0 m 0 ls []) by rw [hH, hL]]
  replace hI : mI D (mT cs) A s.heap s (W0 h r cs u) H locs := by rw [hH, hL]; exact hI
  refine lv_iload_n S.1 S.2.1 dX0_traced_0 rfl (lv_at hl 1 rfl) ?_
  refine lv_if_lt (tgt := 27) S.1 S.2.1 dX0_traced_1 (by decide) (fun c1 => ?_) (fun c1 => ?_)
  · have hw := hw.1 c1
    exact b27 u hw H locs ls hI (lv_sub hl [0] rfl)
  · have hw := hw.2 c1
    refine lv_iload_n S.1 S.2.1 dX0_traced_4 rfl (lv_at hl 1 rfl) ?_
    refine lv_aload_n S.1 S.2.1 dX0_traced_5 rfl (lv_at hl 0 rfl) ?_
    refine m_get S hin hI 0 (W0_at0 h r cs u) rfl 3 (Nat.le_of_ble_eq_true rfl) (List.mem_of_getElem? (i := 1) rfl) rfl (Ff0_at3 r u) dX0_traced_6 ?_
    refine lv_icmp_ge (tgt := 27) S.1 S.2.1 dX0_traced_9 (by decide) (fun c9 => ?_) (fun c9 => ?_)
    · have hw := hw.1 c9
      exact b27 u hw H locs ls hI (lv_sub hl [0] rfl)
    · have hw := hw.2 c9
      refine lv_iload_n S.1 S.2.1 dX0_traced_12 rfl (lv_at hl 1 rfl) ?_
      refine lv_bipush (v := 24) S.1 S.2.1 dX0_traced_13 (by decide) ?_
      refine lv_icmp_ge (tgt := 27) S.1 S.2.1 dX0_traced_15 (by decide) (fun c15 => ?_) (fun c15 => ?_)
      · have hw := hw.1 c15
        exact b27 u hw H locs ls hI (lv_sub hl [0] rfl)
      · have hw := hw.2 c15
        refine lv_aload_n S.1 S.2.1 dX0_traced_18 rfl (lv_at hl 0 rfl) ?_
        refine m_get S hin hI 0 (W0_at0 h r cs u) rfl 1 (Nat.le_of_ble_eq_true rfl) (List.mem_of_getElem? (i := 2) rfl) rfl (Ff0_at1 r u) dX0_traced_19 ?_
        refine lv_iload_n S.1 S.2.1 dX0_traced_22 rfl (lv_at hl 1 rfl) ?_
        refine m_iald S hI 2 0 (W0_at2 h r cs u) rfl hw.1 dX0_traced_23 ?_
        refine lv_topi (fun y23 ey23 => ?_)
        have hw := hw.2 y23 ey23
        refine lv_goto (tgt := 28) S.1 S.2.1 dX0_traced_24 (by decide) ?_
        exact b28 y23 u hw H locs ls hI (lv_sub hl [0] rfl)

def wp_X0_note_p19 (u : ST) (Q : ST → Prop) : Prop :=
  (∀ y25 : Int32, y25 = (gI u 3) + (1 : Int32) → (∀ u26 : ST, u26 = sI u 3 y25 → Q u26))
def wp_X0_note (a1 : Int32) (u : ST) (Q : ST → Prop) : Prop :=
  (((24 : Int32) ≤ (gI u 3) → wp_X0_note_p19 u Q) ∧ (¬ (24 : Int32) ≤ (gI u 3) → (vp_in (gI u 3) 24 ∧ ∀ u18 : ST, u18 = sA u 1 (upd (gA u 1) (gI u 3).toNatClampNeg a1) → wp_X0_note_p19 u18 Q)))
set_option maxHeartbeats 4000000 in
set_option maxRecDepth 100000 in
theorem c_X0_note (l : Launch) (D : va_G) (h : Nat) (r : Nat → Nat) (cs : Nat → ClassId) (a1 : Int32) (u : ST) (Q : ST → Prop) (hw : wp_X0_note a1 u Q) : mCv l yX0_note wsX0_note ({ frames := 0, cells := 0, slots := 0, locals := 0 } : Room) 0 0 D (mT cs) (W0 h r cs) [.ref h, .int a1] u Q := by
  unfold mCv
  refine m_enter (QQ := fun A => va_Qv Q (mPos D (mT cs) A (W0 h r cs)) A) (cc := cX0_note) (maxL := 2) (ret := none) (by decide) rfl (Nat.le_of_ble_eq_true rfl) ?_
  intro p e s m args below meth c A ls S hr hlocks hname hl hI
  have S : CallFix p m c cX0_note 2 s args wsX0_note RX0 := S
  show W p l e ({ frames := 0, cells := 0, slots := 0, locals := 0 } : Room) s m args below meth c s.heap [] 0 0 (MQ below (va_Qv Q (mPos D (mT cs) A (W0 h r cs)) A) args s 0 0 A) (F0 m 0 ls [])
  generalize hZ : MQ below (va_Qv Q (mPos D (mT cs) A (W0 h r cs)) A) args s 0 0 A = Z
  have hin : ∀ w ∈ wsX00, w ∈ wsX0_note := fun _ h => List.mem_cons_of_mem _ (List.mem_append_right _ h)
  have hl : lv_has ls 2 [(0, .ref h), (1, .int a1)] := hl
  have b19 : ∀ (u : ST), wp_X0_note_p19 u Q → mGo p l e ({ frames := 0, cells := 0, slots := 0, locals := 0 } : Room) s m args below meth c A Z 2 D (mT cs) (W0 h r cs) 19 [(0, .ref h)] [] u := by
    intro u hw H locs ls hI hl
    unfold wp_X0_note_p19 at hw
    refine lv_aload_n S.1 S.2.1 dX0_note_19 rfl (lv_at hl 0 rfl) ?_
    refine lv_dup S.1 S.2.1 dX0_note_20 rfl ?_
    refine m_get S hin hI 0 (W0_at0 h r cs u) rfl 3 (Nat.le_of_ble_eq_true rfl) (List.mem_of_getElem? (i := 1) rfl) rfl (Ff0_at3 r u) dX0_note_21 ?_
    refine lv_iconst (v := 1) S.1 S.2.1 dX0_note_24 (by decide) ?_
    refine lv_iadd S.1 S.2.1 dX0_note_25 ?_
    refine lv_topi (fun y25 ey25 => ?_)
    have hw := hw y25 ey25
    obtain ⟨u26, eu26⟩ : ∃ z : ST, z = sI u 3 y25 := ⟨_, rfl⟩
    have hw := hw u26 eu26
    refine m_put S hin tyX0_ok nmX0 hI 0 (W0_at0 h r cs u) rfl 3 (Nat.le_of_ble_eq_true rfl) (List.mem_of_getElem? (i := 1) rfl) rfl rfl rfl rfl (Nat.le_of_ble_eq_true rfl) (W0_sI3 h r cs u u26 y25 eu26) dX0_note_26 (fun H locs hI => ?_)
    subst hZ
    exact m_vret S hr hlocks hI hw dX0_note_29
  unfold wp_X0_note at hw
  obtain ⟨H, hH⟩ : ∃ z : Heap, z = s.heap := ⟨_, rfl⟩
  obtain ⟨locs, hL⟩ : ∃ z : List Loc, z = [] := ⟨_, rfl⟩
  rw [show W p l e ({ frames := 0, cells := 0, slots := 0, locals := 0 } : Room) s m args below meth c s.heap [] 0 0 Z (F0 m 0 ls []) = W p l e ({ frames := 0, cells := 0, slots := 0, locals := 0 } : Room) s m args below meth c H locs 0 0 Z (F0 m 0 ls []) by rw [hH, hL]]
  replace hI : mI D (mT cs) A s.heap s (W0 h r cs u) H locs := by rw [hH, hL]; exact hI
  refine lv_aload_n S.1 S.2.1 dX0_note_0 rfl (lv_at hl 0 rfl) ?_
  refine m_get S hin hI 0 (W0_at0 h r cs u) rfl 3 (Nat.le_of_ble_eq_true rfl) (List.mem_of_getElem? (i := 1) rfl) rfl (Ff0_at3 r u) dX0_note_1 ?_
  refine lv_bipush (v := 24) S.1 S.2.1 dX0_note_4 (by decide) ?_
  refine lv_icmp_ge (tgt := 19) S.1 S.2.1 dX0_note_6 (by decide) (fun c6 => ?_) (fun c6 => ?_)
  · have hw := hw.1 c6
    exact b19 u hw H locs ls hI (lv_sub hl [0] rfl)
  · have hw := hw.2 c6
    refine lv_aload_n S.1 S.2.1 dX0_note_9 rfl (lv_at hl 0 rfl) ?_
    refine m_get S hin hI 0 (W0_at0 h r cs u) rfl 1 (Nat.le_of_ble_eq_true rfl) (List.mem_of_getElem? (i := 2) rfl) rfl (Ff0_at1 r u) dX0_note_10 ?_
    refine lv_aload_n S.1 S.2.1 dX0_note_13 rfl (lv_at hl 0 rfl) ?_
    refine m_get S hin hI 0 (W0_at0 h r cs u) rfl 3 (Nat.le_of_ble_eq_true rfl) (List.mem_of_getElem? (i := 1) rfl) rfl (Ff0_at3 r u) dX0_note_14 ?_
    refine lv_iload_n S.1 S.2.1 dX0_note_17 rfl (lv_at hl 1 rfl) ?_
    obtain ⟨u18, eu18⟩ : ∃ z : ST, z = sA u 1 (upd (gA u 1) (gI u 3).toNatClampNeg a1) := ⟨_, rfl⟩
    refine m_iast S hI 2 0 (W0_at2 h r cs u) rfl hw.1 (W0_sA1 h r cs u u18 _ eu18) dX0_note_18 (fun H locs hI => ?_)
    have hw := hw.2 u18 eu18
    exact b19 u18 hw H locs ls hI (lv_sub hl [0] rfl)

def wp_X0_result (a1 : Int32) (a2 : Int32) (a3 : Int32) (a4 : Int32) (u : ST) (P : Nat → Int32 → Int32 → Int32 → Int32 → ST → (Int32 → ST → Prop) → Prop) (Q : Int32 → ST → Prop) : Prop :=
  ((a1 = 1 → (∀ y129 : Int32, y129 = a3 + (gI u 4) → Q y129 u)) ∧ (¬ a1 = 1 → ((a1 = 2 → (P 0 (gI u 5) (1 : Int32) a3 a4 u (fun y140 u140 => (P 0 (gI u140 5) (2 : Int32) (1 : Int32) a4 u140 (fun y152 u152 => (∀ y155 : Int32, y155 = y140 - y152 → Q y155 u152)))))) ∧ (¬ a1 = 2 → ((a1 = 10 → (P 0 (gI u 5) (0 : Int32) a3 a4 u (fun y166 u166 => (∀ y170 : Int32, y170 = y166 * (2 : Int32) → Q y170 u166)))) ∧ (¬ a1 = 10 → ((a1 = 11 → (∀ y177 : Int32, y177 = a3 ^^^ (gI u 4) → Q y177 u)) ∧ (¬ a1 = 11 → ((a1 = 20 → (P 0 a2 (0 : Int32) a3 a4 u (fun y185 u185 => (∀ y189 : Int32, y189 = y185 + (3 : Int32) → Q y189 u185)))) ∧ (¬ a1 = 20 → ((a1 = 30 → (P 0 a2 (1 : Int32) a3 a4 u (fun y197 u197 => (∀ y200 : Int32, y200 = -y197 → Q y200 u197)))) ∧ (¬ a1 = 30 → ((a1 = 40 → (P 0 a2 (2 : Int32) a3 a4 u (fun y208 u208 => (∀ y212 : Int32, y212 = y208 * (3 : Int32) → Q y212 u208)))) ∧ (¬ a1 = 40 → ((a1 = 41 → (∀ y219 : Int32, y219 = a3 + (1 : Int32) → (P 0 a2 (1 : Int32) y219 a4 u (fun y222 u222 => Q y222 u222)))) ∧ (¬ a1 = 41 → ((a1 = 50 → (P 0 a2 (3 : Int32) a3 a4 u (fun y232 u232 => (∀ y236 : Int32, y236 = y232 ^^^ (5 : Int32) → Q y236 u232)))) ∧ (¬ a1 = 50 → ((a1 = 60 → (P 0 a2 (2 : Int32) a3 a4 u (fun y244 u244 => (P 0 (gI u244 5) (0 : Int32) (2 : Int32) a4 u244 (fun y256 u256 => (∀ y259 : Int32, y259 = y244 - y256 → Q y259 u256)))))) ∧ (¬ a1 = 60 → ((a1 = 61 → (P 0 a2 (3 : Int32) a3 a4 u (fun y267 u267 => (∀ y271 : Int32, y271 = y267 + (1 : Int32) → Q y271 u267)))) ∧ (¬ a1 = 61 → ((a1 = 70 → (P 0 a2 (0 : Int32) a3 a4 u (fun y279 u279 => (∀ y283 : Int32, y283 = y279 * (2 : Int32) → Q y283 u279)))) ∧ (¬ a1 = 70 → ((a1 = 80 → (P 0 a2 (1 : Int32) a3 a4 u (fun y291 u291 => (P 0 (gI u291 5) (2 : Int32) (2 : Int32) a4 u291 (fun y303 u303 => (∀ y306 : Int32, y306 = y291 + y303 → Q y306 u303)))))) ∧ (¬ a1 = 80 → ((a1 = 81 → (P 0 a2 (0 : Int32) a3 a4 u (fun y314 u314 => (∀ y318 : Int32, y318 = y314 - (1 : Int32) → Q y318 u314)))) ∧ (¬ a1 = 81 → Q (0 : Int32) u))))))))))))))))))))))))))))
set_option maxHeartbeats 4000000 in
set_option maxRecDepth 100000 in
theorem c_X0_result (l : Launch) (D : va_G) (h : Nat) (r : Nat → Nat) (cs : Nat → ClassId) (d : Nat) (P : Nat → Int32 → Int32 → Int32 → Int32 → ST → (Int32 → ST → Prop) → Prop) (hP0 : (∀ (a1 : Int32) (a2 : Int32) (a3 : Int32) (a4 : Int32) (u : ST) (Q : Int32 → ST → Prop), P 0 a1 a2 a3 a4 u Q → mCi l yX0_run wsX0_run (rmS d) 0 0 D (mT cs) (W0 h r cs) [.ref h, .int a1, .int a2, .int a3, .int a4] u Q)) (hP1 : (∀ (a1 : Int32) (a2 : Int32) (a3 : Int32) (a4 : Int32) (u : ST) (Q : Int32 → ST → Prop), P 1 a1 a2 a3 a4 u Q → mCi l yX0_result wsX0_result (rmS d) 0 0 D (mT cs) (W0 h r cs) [.ref h, .int a1, .int a2, .int a3, .int a4] u Q)) (a1 : Int32) (a2 : Int32) (a3 : Int32) (a4 : Int32) (u : ST) (Q : Int32 → ST → Prop) (hw : wp_X0_result a1 a2 a3 a4 u P Q) : mCi l yX0_result wsX0_result (rmS (d + 1)) 0 0 D (mT cs) (W0 h r cs) [.ref h, .int a1, .int a2, .int a3, .int a4] u Q := by
  unfold mCi
  refine m_enter (QQ := fun A => va_Qi Q (mPos D (mT cs) A (W0 h r cs)) A) (cc := cX0_result) (maxL := 5) (ret := (some .int)) (by decide) rfl (Nat.le_of_ble_eq_true rfl) ?_
  intro p e s m args below meth c A ls S hr hlocks hname hl hI
  have S : CallFix p m c cX0_result 5 s args wsX0_result RX0 := S
  show W p l e (rmS (d + 1)) s m args below meth c s.heap [] 0 0 (MQ below (va_Qi Q (mPos D (mT cs) A (W0 h r cs)) A) args s 0 0 A) (F0 m 0 ls [])
  generalize hZ : MQ below (va_Qi Q (mPos D (mT cs) A (W0 h r cs)) A) args s 0 0 A = Z
  have hin : ∀ w ∈ wsX00, w ∈ wsX0_result := fun _ h => List.mem_cons_of_mem _ (List.mem_append_right _ h)
  have hl : lv_has ls 5 [(0, .ref h), (1, .int a1), (2, .int a2), (3, .int a3), (4, .int a4)] := hl
  unfold wp_X0_result at hw
  obtain ⟨H, hH⟩ : ∃ z : Heap, z = s.heap := ⟨_, rfl⟩
  obtain ⟨locs, hL⟩ : ∃ z : List Loc, z = [] := ⟨_, rfl⟩
  rw [show W p l e (rmS (d + 1)) s m args below meth c s.heap [] 0 0 Z (F0 m 0 ls []) = W p l e (rmS (d + 1)) s m args below meth c H locs 0 0 Z (F0 m 0 ls []) by rw [hH, hL]]
  replace hI : mI D (mT cs) A s.heap s (W0 h r cs u) H locs := by rw [hH, hL]; exact hI
  refine lv_iload_n S.1 S.2.1 dX0_result_0 rfl (lv_at hl 1 rfl) ?_
  by_cases c1_1 : a1 = 1
  · have hw := hw.1 c1_1
    refine lv_lookup (off := 123) (tgt := 124) S.1 S.2.1 dX0_result_1 (by decide) (by rw [c1_1] <;> rfl) (by decide) ?_
    refine lv_iload_n S.1 S.2.1 dX0_result_124 rfl (lv_at hl 3 rfl) ?_
    refine lv_aload_n S.1 S.2.1 dX0_result_125 rfl (lv_at hl 0 rfl) ?_
    refine m_get S hin hI 0 (W0_at0 h r cs u) rfl 4 (Nat.le_of_ble_eq_true rfl) (List.mem_of_getElem? (i := 1) rfl) rfl (Ff0_at4 r u) dX0_result_126 ?_
    refine lv_iadd S.1 S.2.1 dX0_result_129 ?_
    refine lv_topi (fun y129 ey129 => ?_)
    have hw := hw y129 ey129
    subst hZ
    exact m_iret S hr hlocks hI hw dX0_result_130
  · have hw := hw.2 c1_1
    by_cases c1_2 : a1 = 2
    · have hw := hw.1 c1_2
      refine lv_lookup (off := 130) (tgt := 131) S.1 S.2.1 dX0_result_1 (by decide) (by rw [c1_2] <;> rfl) (by decide) ?_
      refine lv_aload_n S.1 S.2.1 dX0_result_131 rfl (lv_at hl 0 rfl) ?_
      refine lv_aload_n S.1 S.2.1 dX0_result_132 rfl (lv_at hl 0 rfl) ?_
      refine m_get S hin hI 0 (W0_at0 h r cs u) rfl 5 (Nat.le_of_ble_eq_true rfl) (List.mem_of_getElem? (i := 2) rfl) rfl (Ff0_at5 r u) dX0_result_133 ?_
      refine lv_iconst (v := 1) S.1 S.2.1 dX0_result_136 (by decide) ?_
      refine lv_iload_n S.1 S.2.1 dX0_result_137 rfl (lv_at hl 3 rfl) ?_
      refine lv_iload S.1 S.2.1 dX0_result_138 (lv_at hl 4 rfl) ?_
      refine m_vi (As := [.int (gI u 5), .int (1 : Int32), .int a3, .int a4]) (rest := []) S (W0_self h r cs) hI rfl (hP0 (gI u 5) (1 : Int32) a3 a4 u _ hw) (cwV 4 S.2.2.2.2 gX0_result_X0_run rfl rfl rfl (by decide +kernel) ⟨by simp only [rmS]; omega, by simp only [rmS]; omega⟩) (W0_at0 h r cs u) rfl rfl hl.1 rfl (Nat.le_of_ble_eq_true rfl) dX0_result_140 ⟨Nat.zero_le _, Nat.zero_le _⟩ (fun y140 u140 H locs hw hI => ?_)
      refine lv_aload_n S.1 S.2.1 dX0_result_143 rfl (lv_at hl 0 rfl) ?_
      refine lv_aload_n S.1 S.2.1 dX0_result_144 rfl (lv_at hl 0 rfl) ?_
      refine m_get S hin hI 0 (W0_at0 h r cs u140) rfl 5 (Nat.le_of_ble_eq_true rfl) (List.mem_of_getElem? (i := 2) rfl) rfl (Ff0_at5 r u140) dX0_result_145 ?_
      refine lv_iconst (v := 2) S.1 S.2.1 dX0_result_148 (by decide) ?_
      refine lv_iconst (v := 1) S.1 S.2.1 dX0_result_149 (by decide) ?_
      refine lv_iload S.1 S.2.1 dX0_result_150 (lv_at hl 4 rfl) ?_
      refine m_vi (As := [.int (gI u140 5), .int (2 : Int32), .int (1 : Int32), .int a4]) (rest := [.int y140]) S (W0_self h r cs) hI rfl (hP0 (gI u140 5) (2 : Int32) (1 : Int32) a4 u140 _ hw) (cwV 4 S.2.2.2.2 gX0_result_X0_run rfl rfl rfl (by decide +kernel) ⟨by simp only [rmS]; omega, by simp only [rmS]; omega⟩) (W0_at0 h r cs u140) rfl rfl hl.1 rfl (Nat.le_of_ble_eq_true rfl) dX0_result_152 ⟨Nat.zero_le _, Nat.zero_le _⟩ (fun y152 u152 H locs hw hI => ?_)
      refine lv_isub S.1 S.2.1 dX0_result_155 ?_
      refine lv_topi (fun y155 ey155 => ?_)
      have hw := hw y155 ey155
      subst hZ
      exact m_iret S hr hlocks hI hw dX0_result_156
    · have hw := hw.2 c1_2
      by_cases c1_10 : a1 = 10
      · have hw := hw.1 c1_10
        refine lv_lookup (off := 156) (tgt := 157) S.1 S.2.1 dX0_result_1 (by decide) (by rw [c1_10] <;> rfl) (by decide) ?_
        refine lv_aload_n S.1 S.2.1 dX0_result_157 rfl (lv_at hl 0 rfl) ?_
        refine lv_aload_n S.1 S.2.1 dX0_result_158 rfl (lv_at hl 0 rfl) ?_
        refine m_get S hin hI 0 (W0_at0 h r cs u) rfl 5 (Nat.le_of_ble_eq_true rfl) (List.mem_of_getElem? (i := 2) rfl) rfl (Ff0_at5 r u) dX0_result_159 ?_
        refine lv_iconst (v := 0) S.1 S.2.1 dX0_result_162 (by decide) ?_
        refine lv_iload_n S.1 S.2.1 dX0_result_163 rfl (lv_at hl 3 rfl) ?_
        refine lv_iload S.1 S.2.1 dX0_result_164 (lv_at hl 4 rfl) ?_
        refine m_vi (As := [.int (gI u 5), .int (0 : Int32), .int a3, .int a4]) (rest := []) S (W0_self h r cs) hI rfl (hP0 (gI u 5) (0 : Int32) a3 a4 u _ hw) (cwV 4 S.2.2.2.2 gX0_result_X0_run rfl rfl rfl (by decide +kernel) ⟨by simp only [rmS]; omega, by simp only [rmS]; omega⟩) (W0_at0 h r cs u) rfl rfl hl.1 rfl (Nat.le_of_ble_eq_true rfl) dX0_result_166 ⟨Nat.zero_le _, Nat.zero_le _⟩ (fun y166 u166 H locs hw hI => ?_)
        refine lv_iconst (v := 2) S.1 S.2.1 dX0_result_169 (by decide) ?_
        refine lv_imul S.1 S.2.1 dX0_result_170 ?_
        refine lv_topi (fun y170 ey170 => ?_)
        have hw := hw y170 ey170
        subst hZ
        exact m_iret S hr hlocks hI hw dX0_result_171
      · have hw := hw.2 c1_10
        by_cases c1_11 : a1 = 11
        · have hw := hw.1 c1_11
          refine lv_lookup (off := 171) (tgt := 172) S.1 S.2.1 dX0_result_1 (by decide) (by rw [c1_11] <;> rfl) (by decide) ?_
          refine lv_iload_n S.1 S.2.1 dX0_result_172 rfl (lv_at hl 3 rfl) ?_
          refine lv_aload_n S.1 S.2.1 dX0_result_173 rfl (lv_at hl 0 rfl) ?_
          refine m_get S hin hI 0 (W0_at0 h r cs u) rfl 4 (Nat.le_of_ble_eq_true rfl) (List.mem_of_getElem? (i := 1) rfl) rfl (Ff0_at4 r u) dX0_result_174 ?_
          refine lv_ixor S.1 S.2.1 dX0_result_177 ?_
          refine lv_topi (fun y177 ey177 => ?_)
          have hw := hw y177 ey177
          subst hZ
          exact m_iret S hr hlocks hI hw dX0_result_178
        · have hw := hw.2 c1_11
          by_cases c1_20 : a1 = 20
          · have hw := hw.1 c1_20
            refine lv_lookup (off := 178) (tgt := 179) S.1 S.2.1 dX0_result_1 (by decide) (by rw [c1_20] <;> rfl) (by decide) ?_
            refine lv_aload_n S.1 S.2.1 dX0_result_179 rfl (lv_at hl 0 rfl) ?_
            refine lv_iload_n S.1 S.2.1 dX0_result_180 rfl (lv_at hl 2 rfl) ?_
            refine lv_iconst (v := 0) S.1 S.2.1 dX0_result_181 (by decide) ?_
            refine lv_iload_n S.1 S.2.1 dX0_result_182 rfl (lv_at hl 3 rfl) ?_
            refine lv_iload S.1 S.2.1 dX0_result_183 (lv_at hl 4 rfl) ?_
            refine m_vi (As := [.int a2, .int (0 : Int32), .int a3, .int a4]) (rest := []) S (W0_self h r cs) hI rfl (hP0 a2 (0 : Int32) a3 a4 u _ hw) (cwV 4 S.2.2.2.2 gX0_result_X0_run rfl rfl rfl (by decide +kernel) ⟨by simp only [rmS]; omega, by simp only [rmS]; omega⟩) (W0_at0 h r cs u) rfl rfl hl.1 rfl (Nat.le_of_ble_eq_true rfl) dX0_result_185 ⟨Nat.zero_le _, Nat.zero_le _⟩ (fun y185 u185 H locs hw hI => ?_)
            refine lv_iconst (v := 3) S.1 S.2.1 dX0_result_188 (by decide) ?_
            refine lv_iadd S.1 S.2.1 dX0_result_189 ?_
            refine lv_topi (fun y189 ey189 => ?_)
            have hw := hw y189 ey189
            subst hZ
            exact m_iret S hr hlocks hI hw dX0_result_190
          · have hw := hw.2 c1_20
            by_cases c1_30 : a1 = 30
            · have hw := hw.1 c1_30
              refine lv_lookup (off := 190) (tgt := 191) S.1 S.2.1 dX0_result_1 (by decide) (by rw [c1_30] <;> rfl) (by decide) ?_
              refine lv_aload_n S.1 S.2.1 dX0_result_191 rfl (lv_at hl 0 rfl) ?_
              refine lv_iload_n S.1 S.2.1 dX0_result_192 rfl (lv_at hl 2 rfl) ?_
              refine lv_iconst (v := 1) S.1 S.2.1 dX0_result_193 (by decide) ?_
              refine lv_iload_n S.1 S.2.1 dX0_result_194 rfl (lv_at hl 3 rfl) ?_
              refine lv_iload S.1 S.2.1 dX0_result_195 (lv_at hl 4 rfl) ?_
              refine m_vi (As := [.int a2, .int (1 : Int32), .int a3, .int a4]) (rest := []) S (W0_self h r cs) hI rfl (hP0 a2 (1 : Int32) a3 a4 u _ hw) (cwV 4 S.2.2.2.2 gX0_result_X0_run rfl rfl rfl (by decide +kernel) ⟨by simp only [rmS]; omega, by simp only [rmS]; omega⟩) (W0_at0 h r cs u) rfl rfl hl.1 rfl (Nat.le_of_ble_eq_true rfl) dX0_result_197 ⟨Nat.zero_le _, Nat.zero_le _⟩ (fun y197 u197 H locs hw hI => ?_)
              refine lv_ineg S.1 S.2.1 dX0_result_200 ?_
              refine lv_topi (fun y200 ey200 => ?_)
              have hw := hw y200 ey200
              subst hZ
              exact m_iret S hr hlocks hI hw dX0_result_201
            · have hw := hw.2 c1_30
              by_cases c1_40 : a1 = 40
              · have hw := hw.1 c1_40
                refine lv_lookup (off := 201) (tgt := 202) S.1 S.2.1 dX0_result_1 (by decide) (by rw [c1_40] <;> rfl) (by decide) ?_
                refine lv_aload_n S.1 S.2.1 dX0_result_202 rfl (lv_at hl 0 rfl) ?_
                refine lv_iload_n S.1 S.2.1 dX0_result_203 rfl (lv_at hl 2 rfl) ?_
                refine lv_iconst (v := 2) S.1 S.2.1 dX0_result_204 (by decide) ?_
                refine lv_iload_n S.1 S.2.1 dX0_result_205 rfl (lv_at hl 3 rfl) ?_
                refine lv_iload S.1 S.2.1 dX0_result_206 (lv_at hl 4 rfl) ?_
                refine m_vi (As := [.int a2, .int (2 : Int32), .int a3, .int a4]) (rest := []) S (W0_self h r cs) hI rfl (hP0 a2 (2 : Int32) a3 a4 u _ hw) (cwV 4 S.2.2.2.2 gX0_result_X0_run rfl rfl rfl (by decide +kernel) ⟨by simp only [rmS]; omega, by simp only [rmS]; omega⟩) (W0_at0 h r cs u) rfl rfl hl.1 rfl (Nat.le_of_ble_eq_true rfl) dX0_result_208 ⟨Nat.zero_le _, Nat.zero_le _⟩ (fun y208 u208 H locs hw hI => ?_)
                refine lv_iconst (v := 3) S.1 S.2.1 dX0_result_211 (by decide) ?_
                refine lv_imul S.1 S.2.1 dX0_result_212 ?_
                refine lv_topi (fun y212 ey212 => ?_)
                have hw := hw y212 ey212
                subst hZ
                exact m_iret S hr hlocks hI hw dX0_result_213
              · have hw := hw.2 c1_40
                by_cases c1_41 : a1 = 41
                · have hw := hw.1 c1_41
                  refine lv_lookup (off := 213) (tgt := 214) S.1 S.2.1 dX0_result_1 (by decide) (by rw [c1_41] <;> rfl) (by decide) ?_
                  refine lv_aload_n S.1 S.2.1 dX0_result_214 rfl (lv_at hl 0 rfl) ?_
                  refine lv_iload_n S.1 S.2.1 dX0_result_215 rfl (lv_at hl 2 rfl) ?_
                  refine lv_iconst (v := 1) S.1 S.2.1 dX0_result_216 (by decide) ?_
                  refine lv_iload_n S.1 S.2.1 dX0_result_217 rfl (lv_at hl 3 rfl) ?_
                  refine lv_iconst (v := 1) S.1 S.2.1 dX0_result_218 (by decide) ?_
                  refine lv_iadd S.1 S.2.1 dX0_result_219 ?_
                  refine lv_topi (fun y219 ey219 => ?_)
                  have hw := hw y219 ey219
                  refine lv_iload S.1 S.2.1 dX0_result_220 (lv_at hl 4 rfl) ?_
                  refine m_vi (As := [.int a2, .int (1 : Int32), .int y219, .int a4]) (rest := []) S (W0_self h r cs) hI rfl (hP0 a2 (1 : Int32) y219 a4 u _ hw) (cwV 4 S.2.2.2.2 gX0_result_X0_run rfl rfl rfl (by decide +kernel) ⟨by simp only [rmS]; omega, by simp only [rmS]; omega⟩) (W0_at0 h r cs u) rfl rfl hl.1 rfl (Nat.le_of_ble_eq_true rfl) dX0_result_222 ⟨Nat.zero_le _, Nat.zero_le _⟩ (fun y222 u222 H locs hw hI => ?_)
                  subst hZ
                  exact m_iret S hr hlocks hI hw dX0_result_225
                · have hw := hw.2 c1_41
                  by_cases c1_50 : a1 = 50
                  · have hw := hw.1 c1_50
                    refine lv_lookup (off := 225) (tgt := 226) S.1 S.2.1 dX0_result_1 (by decide) (by rw [c1_50] <;> rfl) (by decide) ?_
                    refine lv_aload_n S.1 S.2.1 dX0_result_226 rfl (lv_at hl 0 rfl) ?_
                    refine lv_iload_n S.1 S.2.1 dX0_result_227 rfl (lv_at hl 2 rfl) ?_
                    refine lv_iconst (v := 3) S.1 S.2.1 dX0_result_228 (by decide) ?_
                    refine lv_iload_n S.1 S.2.1 dX0_result_229 rfl (lv_at hl 3 rfl) ?_
                    refine lv_iload S.1 S.2.1 dX0_result_230 (lv_at hl 4 rfl) ?_
                    refine m_vi (As := [.int a2, .int (3 : Int32), .int a3, .int a4]) (rest := []) S (W0_self h r cs) hI rfl (hP0 a2 (3 : Int32) a3 a4 u _ hw) (cwV 4 S.2.2.2.2 gX0_result_X0_run rfl rfl rfl (by decide +kernel) ⟨by simp only [rmS]; omega, by simp only [rmS]; omega⟩) (W0_at0 h r cs u) rfl rfl hl.1 rfl (Nat.le_of_ble_eq_true rfl) dX0_result_232 ⟨Nat.zero_le _, Nat.zero_le _⟩ (fun y232 u232 H locs hw hI => ?_)
                    refine lv_iconst (v := 5) S.1 S.2.1 dX0_result_235 (by decide) ?_
                    refine lv_ixor S.1 S.2.1 dX0_result_236 ?_
                    refine lv_topi (fun y236 ey236 => ?_)
                    have hw := hw y236 ey236
                    subst hZ
                    exact m_iret S hr hlocks hI hw dX0_result_237
                  · have hw := hw.2 c1_50
                    by_cases c1_60 : a1 = 60
                    · have hw := hw.1 c1_60
                      refine lv_lookup (off := 237) (tgt := 238) S.1 S.2.1 dX0_result_1 (by decide) (by rw [c1_60] <;> rfl) (by decide) ?_
                      refine lv_aload_n S.1 S.2.1 dX0_result_238 rfl (lv_at hl 0 rfl) ?_
                      refine lv_iload_n S.1 S.2.1 dX0_result_239 rfl (lv_at hl 2 rfl) ?_
                      refine lv_iconst (v := 2) S.1 S.2.1 dX0_result_240 (by decide) ?_
                      refine lv_iload_n S.1 S.2.1 dX0_result_241 rfl (lv_at hl 3 rfl) ?_
                      refine lv_iload S.1 S.2.1 dX0_result_242 (lv_at hl 4 rfl) ?_
                      refine m_vi (As := [.int a2, .int (2 : Int32), .int a3, .int a4]) (rest := []) S (W0_self h r cs) hI rfl (hP0 a2 (2 : Int32) a3 a4 u _ hw) (cwV 4 S.2.2.2.2 gX0_result_X0_run rfl rfl rfl (by decide +kernel) ⟨by simp only [rmS]; omega, by simp only [rmS]; omega⟩) (W0_at0 h r cs u) rfl rfl hl.1 rfl (Nat.le_of_ble_eq_true rfl) dX0_result_244 ⟨Nat.zero_le _, Nat.zero_le _⟩ (fun y244 u244 H locs hw hI => ?_)
                      refine lv_aload_n S.1 S.2.1 dX0_result_247 rfl (lv_at hl 0 rfl) ?_
                      refine lv_aload_n S.1 S.2.1 dX0_result_248 rfl (lv_at hl 0 rfl) ?_
                      refine m_get S hin hI 0 (W0_at0 h r cs u244) rfl 5 (Nat.le_of_ble_eq_true rfl) (List.mem_of_getElem? (i := 2) rfl) rfl (Ff0_at5 r u244) dX0_result_249 ?_
                      refine lv_iconst (v := 0) S.1 S.2.1 dX0_result_252 (by decide) ?_
                      refine lv_iconst (v := 2) S.1 S.2.1 dX0_result_253 (by decide) ?_
                      refine lv_iload S.1 S.2.1 dX0_result_254 (lv_at hl 4 rfl) ?_
                      refine m_vi (As := [.int (gI u244 5), .int (0 : Int32), .int (2 : Int32), .int a4]) (rest := [.int y244]) S (W0_self h r cs) hI rfl (hP0 (gI u244 5) (0 : Int32) (2 : Int32) a4 u244 _ hw) (cwV 4 S.2.2.2.2 gX0_result_X0_run rfl rfl rfl (by decide +kernel) ⟨by simp only [rmS]; omega, by simp only [rmS]; omega⟩) (W0_at0 h r cs u244) rfl rfl hl.1 rfl (Nat.le_of_ble_eq_true rfl) dX0_result_256 ⟨Nat.zero_le _, Nat.zero_le _⟩ (fun y256 u256 H locs hw hI => ?_)
                      refine lv_isub S.1 S.2.1 dX0_result_259 ?_
                      refine lv_topi (fun y259 ey259 => ?_)
                      have hw := hw y259 ey259
                      subst hZ
                      exact m_iret S hr hlocks hI hw dX0_result_260
                    · have hw := hw.2 c1_60
                      by_cases c1_61 : a1 = 61
                      · have hw := hw.1 c1_61
                        refine lv_lookup (off := 260) (tgt := 261) S.1 S.2.1 dX0_result_1 (by decide) (by rw [c1_61] <;> rfl) (by decide) ?_
                        refine lv_aload_n S.1 S.2.1 dX0_result_261 rfl (lv_at hl 0 rfl) ?_
                        refine lv_iload_n S.1 S.2.1 dX0_result_262 rfl (lv_at hl 2 rfl) ?_
                        refine lv_iconst (v := 3) S.1 S.2.1 dX0_result_263 (by decide) ?_
                        refine lv_iload_n S.1 S.2.1 dX0_result_264 rfl (lv_at hl 3 rfl) ?_
                        refine lv_iload S.1 S.2.1 dX0_result_265 (lv_at hl 4 rfl) ?_
                        refine m_vi (As := [.int a2, .int (3 : Int32), .int a3, .int a4]) (rest := []) S (W0_self h r cs) hI rfl (hP0 a2 (3 : Int32) a3 a4 u _ hw) (cwV 4 S.2.2.2.2 gX0_result_X0_run rfl rfl rfl (by decide +kernel) ⟨by simp only [rmS]; omega, by simp only [rmS]; omega⟩) (W0_at0 h r cs u) rfl rfl hl.1 rfl (Nat.le_of_ble_eq_true rfl) dX0_result_267 ⟨Nat.zero_le _, Nat.zero_le _⟩ (fun y267 u267 H locs hw hI => ?_)
                        refine lv_iconst (v := 1) S.1 S.2.1 dX0_result_270 (by decide) ?_
                        refine lv_iadd S.1 S.2.1 dX0_result_271 ?_
                        refine lv_topi (fun y271 ey271 => ?_)
                        have hw := hw y271 ey271
                        subst hZ
                        exact m_iret S hr hlocks hI hw dX0_result_272
                      · have hw := hw.2 c1_61
                        by_cases c1_70 : a1 = 70
                        · have hw := hw.1 c1_70
                          refine lv_lookup (off := 272) (tgt := 273) S.1 S.2.1 dX0_result_1 (by decide) (by rw [c1_70] <;> rfl) (by decide) ?_
                          refine lv_aload_n S.1 S.2.1 dX0_result_273 rfl (lv_at hl 0 rfl) ?_
                          refine lv_iload_n S.1 S.2.1 dX0_result_274 rfl (lv_at hl 2 rfl) ?_
                          refine lv_iconst (v := 0) S.1 S.2.1 dX0_result_275 (by decide) ?_
                          refine lv_iload_n S.1 S.2.1 dX0_result_276 rfl (lv_at hl 3 rfl) ?_
                          refine lv_iload S.1 S.2.1 dX0_result_277 (lv_at hl 4 rfl) ?_
                          refine m_vi (As := [.int a2, .int (0 : Int32), .int a3, .int a4]) (rest := []) S (W0_self h r cs) hI rfl (hP0 a2 (0 : Int32) a3 a4 u _ hw) (cwV 4 S.2.2.2.2 gX0_result_X0_run rfl rfl rfl (by decide +kernel) ⟨by simp only [rmS]; omega, by simp only [rmS]; omega⟩) (W0_at0 h r cs u) rfl rfl hl.1 rfl (Nat.le_of_ble_eq_true rfl) dX0_result_279 ⟨Nat.zero_le _, Nat.zero_le _⟩ (fun y279 u279 H locs hw hI => ?_)
                          refine lv_iconst (v := 2) S.1 S.2.1 dX0_result_282 (by decide) ?_
                          refine lv_imul S.1 S.2.1 dX0_result_283 ?_
                          refine lv_topi (fun y283 ey283 => ?_)
                          have hw := hw y283 ey283
                          subst hZ
                          exact m_iret S hr hlocks hI hw dX0_result_284
                        · have hw := hw.2 c1_70
                          by_cases c1_80 : a1 = 80
                          · have hw := hw.1 c1_80
                            refine lv_lookup (off := 284) (tgt := 285) S.1 S.2.1 dX0_result_1 (by decide) (by rw [c1_80] <;> rfl) (by decide) ?_
                            refine lv_aload_n S.1 S.2.1 dX0_result_285 rfl (lv_at hl 0 rfl) ?_
                            refine lv_iload_n S.1 S.2.1 dX0_result_286 rfl (lv_at hl 2 rfl) ?_
                            refine lv_iconst (v := 1) S.1 S.2.1 dX0_result_287 (by decide) ?_
                            refine lv_iload_n S.1 S.2.1 dX0_result_288 rfl (lv_at hl 3 rfl) ?_
                            refine lv_iload S.1 S.2.1 dX0_result_289 (lv_at hl 4 rfl) ?_
                            refine m_vi (As := [.int a2, .int (1 : Int32), .int a3, .int a4]) (rest := []) S (W0_self h r cs) hI rfl (hP0 a2 (1 : Int32) a3 a4 u _ hw) (cwV 4 S.2.2.2.2 gX0_result_X0_run rfl rfl rfl (by decide +kernel) ⟨by simp only [rmS]; omega, by simp only [rmS]; omega⟩) (W0_at0 h r cs u) rfl rfl hl.1 rfl (Nat.le_of_ble_eq_true rfl) dX0_result_291 ⟨Nat.zero_le _, Nat.zero_le _⟩ (fun y291 u291 H locs hw hI => ?_)
                            refine lv_aload_n S.1 S.2.1 dX0_result_294 rfl (lv_at hl 0 rfl) ?_
                            refine lv_aload_n S.1 S.2.1 dX0_result_295 rfl (lv_at hl 0 rfl) ?_
                            refine m_get S hin hI 0 (W0_at0 h r cs u291) rfl 5 (Nat.le_of_ble_eq_true rfl) (List.mem_of_getElem? (i := 2) rfl) rfl (Ff0_at5 r u291) dX0_result_296 ?_
                            refine lv_iconst (v := 2) S.1 S.2.1 dX0_result_299 (by decide) ?_
                            refine lv_iconst (v := 2) S.1 S.2.1 dX0_result_300 (by decide) ?_
                            refine lv_iload S.1 S.2.1 dX0_result_301 (lv_at hl 4 rfl) ?_
                            refine m_vi (As := [.int (gI u291 5), .int (2 : Int32), .int (2 : Int32), .int a4]) (rest := [.int y291]) S (W0_self h r cs) hI rfl (hP0 (gI u291 5) (2 : Int32) (2 : Int32) a4 u291 _ hw) (cwV 4 S.2.2.2.2 gX0_result_X0_run rfl rfl rfl (by decide +kernel) ⟨by simp only [rmS]; omega, by simp only [rmS]; omega⟩) (W0_at0 h r cs u291) rfl rfl hl.1 rfl (Nat.le_of_ble_eq_true rfl) dX0_result_303 ⟨Nat.zero_le _, Nat.zero_le _⟩ (fun y303 u303 H locs hw hI => ?_)
                            refine lv_iadd S.1 S.2.1 dX0_result_306 ?_
                            refine lv_topi (fun y306 ey306 => ?_)
                            have hw := hw y306 ey306
                            subst hZ
                            exact m_iret S hr hlocks hI hw dX0_result_307
                          · have hw := hw.2 c1_80
                            by_cases c1_81 : a1 = 81
                            · have hw := hw.1 c1_81
                              refine lv_lookup (off := 307) (tgt := 308) S.1 S.2.1 dX0_result_1 (by decide) (by rw [c1_81] <;> rfl) (by decide) ?_
                              refine lv_aload_n S.1 S.2.1 dX0_result_308 rfl (lv_at hl 0 rfl) ?_
                              refine lv_iload_n S.1 S.2.1 dX0_result_309 rfl (lv_at hl 2 rfl) ?_
                              refine lv_iconst (v := 0) S.1 S.2.1 dX0_result_310 (by decide) ?_
                              refine lv_iload_n S.1 S.2.1 dX0_result_311 rfl (lv_at hl 3 rfl) ?_
                              refine lv_iload S.1 S.2.1 dX0_result_312 (lv_at hl 4 rfl) ?_
                              refine m_vi (As := [.int a2, .int (0 : Int32), .int a3, .int a4]) (rest := []) S (W0_self h r cs) hI rfl (hP0 a2 (0 : Int32) a3 a4 u _ hw) (cwV 4 S.2.2.2.2 gX0_result_X0_run rfl rfl rfl (by decide +kernel) ⟨by simp only [rmS]; omega, by simp only [rmS]; omega⟩) (W0_at0 h r cs u) rfl rfl hl.1 rfl (Nat.le_of_ble_eq_true rfl) dX0_result_314 ⟨Nat.zero_le _, Nat.zero_le _⟩ (fun y314 u314 H locs hw hI => ?_)
                              refine lv_iconst (v := 1) S.1 S.2.1 dX0_result_317 (by decide) ?_
                              refine lv_isub S.1 S.2.1 dX0_result_318 ?_
                              refine lv_topi (fun y318 ey318 => ?_)
                              have hw := hw y318 ey318
                              subst hZ
                              exact m_iret S hr hlocks hI hw dX0_result_319
                            · have hw := hw.2 c1_81
                              refine lv_lookup (off := 319) (tgt := 320) S.1 S.2.1 dX0_result_1 (by decide) (by show Op.lookupswitch.offset [(1, 123), (2, 130), (10, 156), (11, 171), (20, 178), (30, 190), (40, 201), (41, 213), (50, 225), (60, 237), (61, 260), (70, 272), (80, 284), (81, 307)] 319 _ = _; rw [lv_osw (a := 1) c1_1 rfl, lv_osw (a := 2) c1_2 rfl, lv_osw (a := 10) c1_10 rfl, lv_osw (a := 11) c1_11 rfl, lv_osw (a := 20) c1_20 rfl, lv_osw (a := 30) c1_30 rfl, lv_osw (a := 40) c1_40 rfl, lv_osw (a := 41) c1_41 rfl, lv_osw (a := 50) c1_50 rfl, lv_osw (a := 60) c1_60 rfl, lv_osw (a := 61) c1_61 rfl, lv_osw (a := 70) c1_70 rfl, lv_osw (a := 80) c1_80 rfl, lv_osw (a := 81) c1_81 rfl] <;> rfl) (by decide) ?_
                              refine lv_iconst (v := 0) S.1 S.2.1 dX0_result_320 (by decide) ?_
                              subst hZ
                              exact m_iret S hr hlocks hI hw dX0_result_321

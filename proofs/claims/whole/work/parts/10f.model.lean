/-! laid by program: X12_shards, X12_rowFault, X12_isWise, X12_goTold, X12_isShelf, X12_judge, X12_left, X12_wise, X12_drawHeight, X12_drawn, X12_hide, X12_stepsNow, X12_drops1, X12_drop -/
def wp_X12_shards_p13 (u : ST) (Q : Int64 → ST → Prop) : Prop :=
  Q ((-9223372036854775808) : Int64) u
def wp_X12_shards_p79 (x1 : Int32) (x2 : Int32) (x3 : Int64) (x5 : Int32) (u : ST) (B33 : Int32 → Int32 → Int64 → Int32 → ST → Prop) (Q : Int64 → ST → Prop) : Prop :=
  (∀ y79 : Int32, y79 = x5 + 1 → B33 x1 x2 x3 y79 u)
def wp_X12_shards_p33b (x1 : Int32) (x2 : Int32) (x3 : Int64) (x5 : Int32) (u : ST) (B33 : Int32 → Int32 → Int64 → Int32 → ST → Prop) (Q : Int64 → ST → Prop) : Prop :=
  (((gI u 1) < x5 → Q x3 u) ∧ (¬ (gI u 1) < x5 → (wp_X12_goRule x1 x5 ((-1) : Int32) u (fun u47 => (¬ (10 : Int32) = 0 ∧ ∀ y57 : Int32, y57 = x2 / (10 : Int32) → ((¬ (gI u47 38) = y57 → wp_X12_shards_p79 x1 x2 x3 x5 u47 B33 Q) ∧ ((gI u47 38) = y57 → (¬ (10 : Int32) = 0 ∧ ∀ y68 : Int32, y68 = x2 - x2 / (10 : Int32) * (10 : Int32) → ((¬ (gI u47 39) = y68 → wp_X12_shards_p79 x1 x2 x3 x5 u47 B33 Q) ∧ ((gI u47 39) = y68 → (∀ y76 : Int64, y76 = (1 : Int64) <<< (x5.toInt64 &&& 63) → (∀ y77 : Int64, y77 = x3 ||| y76 → wp_X12_shards_p79 x1 x2 y77 x5 u47 B33 Q))))))))))))
def wp_X12_shards_p33 (x1 : Int32) (x2 : Int32) (x3 : Int64) (x5 : Int32) (u : ST) (Q : Int64 → ST → Prop) : Prop := ∃ (I : Int32 → Int32 → Int64 → Int32 → ST → Prop) (μ : Int32 → Int32 → Int64 → Int32 → ST → Nat), I x1 x2 x3 x5 u ∧ ∀ (x1 : Int32) (x2 : Int32) (x3 : Int64) (x5 : Int32) (u : ST), I x1 x2 x3 x5 u → wp_X12_shards_p33b x1 x2 x3 x5 u (fun yx1 yx2 yx3 yx5 yu => I yx1 yx2 yx3 yx5 yu ∧ μ yx1 yx2 yx3 yx5 yu < μ x1 x2 x3 x5 u) Q
def wp_X12_shards (a1 : Int32) (a2 : Int32) (u : ST) (Q : Int64 → ST → Prop) : Prop :=
  (wp_X12_in a1 (0 : Int32) (1 : Int32) (fun y3 => ((y3 = 0 → wp_X12_shards_p13 u Q) ∧ (¬ y3 = 0 → ((0 ≤ a2 → ((¬ (gI u 2) = 0 → wp_X12_shards_p33 a1 a2 (0 : Int64) (0 : Int32) u Q) ∧ ((gI u 2) = 0 → Q ((-2) : Int64) u))) ∧ (¬ 0 ≤ a2 → wp_X12_shards_p13 u Q))))))
set_option maxHeartbeats 4000000 in
set_option maxRecDepth 100000 in
theorem c_X12_shards (l : Launch) (D : va_G) (h : Nat) (r : Nat → Nat) (cs : Nat → ClassId) (a1 : Int32) (a2 : Int32) (u : ST) (Q : Int64 → ST → Prop) (hw : wp_X12_shards a1 a2 u Q) : mCl l yX12_shards wsX12_shards ({ frames := 8, cells := 0, slots := 0, locals := 193 } : Room) 0 0 D (mT cs) (W12 h r cs) [.ref h, .int a1, .int a2] u Q := by
  unfold mCl
  refine m_enter (QQ := fun A => va_Ql Q (mPos D (mT cs) A (W12 h r cs)) A) (cc := cX12_shards) (maxL := 6) (ret := (some .long)) (by decide) rfl (Nat.le_of_ble_eq_true rfl) ?_
  intro p e s m args below meth c A ls S hr hlocks hname hl hI
  have S : CallFix p m c cX12_shards 6 s args wsX12_shards RX12 := S
  show W p l e ({ frames := 8, cells := 0, slots := 0, locals := 193 } : Room) s m args below meth c s.heap [] 0 0 (MQ below (va_Ql Q (mPos D (mT cs) A (W12 h r cs)) A) args s 0 0 A) (F0 m 0 ls [])
  generalize hZ : MQ below (va_Ql Q (mPos D (mT cs) A (W12 h r cs)) A) args s 0 0 A = Z
  have hin : ∀ w ∈ wsX120, w ∈ wsX12_shards := fun _ h => List.mem_cons_of_mem _ (List.mem_append_right _ h)
  have hl : lv_has ls 6 [(0, .ref h), (1, .int a1), (2, .int a2)] := hl
  have b13 : ∀ (u : ST), wp_X12_shards_p13 u Q → mGo p l e ({ frames := 8, cells := 0, slots := 0, locals := 193 } : Room) s m args below meth c A Z 6 D (mT cs) (W12 h r cs) 13 [(0, .ref h)] [] u := by
    intro u hw H locs ls hI hl
    unfold wp_X12_shards_p13 at hw
    refine lv_ldc2 S.1 S.2.1 S.2.2.2.1 (S.2.2.2.2 _ (List.mem_of_getElem? (i := 1) rfl)) dX12_shards_13 ?_
    subst hZ
    exact m_lret S hr hlocks hI hw dX12_shards_16
  have b79 : ∀ (B33 : Int32 → Int32 → Int64 → Int32 → ST → Prop), (∀ (x1 : Int32) (x2 : Int32) (x3 : Int64) (x5 : Int32) (u : ST), B33 x1 x2 x3 x5 u → mGo p l e ({ frames := 8, cells := 0, slots := 0, locals := 193 } : Room) s m args below meth c A Z 6 D (mT cs) (W12 h r cs) 33 [(0, .ref h), (1, .int x1), (2, .int x2), (3, .long x3), (5, .int x5)] [] u) → ∀ (x1 : Int32) (x2 : Int32) (x3 : Int64) (x5 : Int32) (u : ST), wp_X12_shards_p79 x1 x2 x3 x5 u B33 Q → mGo p l e ({ frames := 8, cells := 0, slots := 0, locals := 193 } : Room) s m args below meth c A Z 6 D (mT cs) (W12 h r cs) 79 [(0, .ref h), (1, .int x1), (2, .int x2), (3, .long x3), (5, .int x5)] [] u := by
    intro B33 hB33 x1 x2 x3 x5 u hw H locs ls hI hl
    unfold wp_X12_shards_p79 at hw
    obtain ⟨y79, ey79⟩ : ∃ z : Int32, z = x5 + 1 := ⟨_, rfl⟩
    have hw := hw y79 ey79
    refine lv_iinc (v := y79) (lv' := [(5, .int y79), (0, .ref h), (1, .int x1), (2, .int x2), (3, .long x3)]) S.1 S.2.1 dX12_shards_79 hl (k := 4) rfl (by rw [ey79]; rfl) (by decide) rfl (fun ls hl => ?_)
    refine lv_goto (tgt := 33) S.1 S.2.1 dX12_shards_82 (by decide) ?_
    exact hB33 x1 x2 x3 y79 u hw H locs ls hI (lv_sub hl [1, 2, 3, 4, 0] rfl)
  have b33b : ∀ (B33 : Int32 → Int32 → Int64 → Int32 → ST → Prop), (∀ (x1 : Int32) (x2 : Int32) (x3 : Int64) (x5 : Int32) (u : ST), B33 x1 x2 x3 x5 u → mGo p l e ({ frames := 8, cells := 0, slots := 0, locals := 193 } : Room) s m args below meth c A Z 6 D (mT cs) (W12 h r cs) 33 [(0, .ref h), (1, .int x1), (2, .int x2), (3, .long x3), (5, .int x5)] [] u) → ∀ (x1 : Int32) (x2 : Int32) (x3 : Int64) (x5 : Int32) (u : ST), wp_X12_shards_p33b x1 x2 x3 x5 u B33 Q → mGo p l e ({ frames := 8, cells := 0, slots := 0, locals := 193 } : Room) s m args below meth c A Z 6 D (mT cs) (W12 h r cs) 33 [(0, .ref h), (1, .int x1), (2, .int x2), (3, .long x3), (5, .int x5)] [] u := by
    intro B33 hB33 x1 x2 x3 x5 u hw H locs ls hI hl
    unfold wp_X12_shards_p33b at hw
    refine lv_iload S.1 S.2.1 dX12_shards_33 (lv_at hl 4 rfl) ?_
    refine lv_aload_n S.1 S.2.1 dX12_shards_35 rfl (lv_at hl 0 rfl) ?_
    refine m_get S hin hI 0 (W12_at0 h r cs u) rfl 1 (Nat.le_of_ble_eq_true rfl) (List.mem_of_getElem? (i := 4) rfl) rfl (Ff12_at1 r u) dX12_shards_36 ?_
    refine lv_icmp_gt (tgt := 85) S.1 S.2.1 dX12_shards_39 (by decide) (fun c39 => ?_) (fun c39 => ?_)
    · have hw := hw.1 c39
      refine lv_lload_n S.1 S.2.1 dX12_shards_85 rfl (lv_at hl 3 rfl) ?_
      subst hZ
      exact m_lret S hr hlocks hI hw dX12_shards_86
    · have hw := hw.2 c39
      refine lv_aload_n S.1 S.2.1 dX12_shards_42 rfl (lv_at hl 0 rfl) ?_
      refine lv_iload_n S.1 S.2.1 dX12_shards_43 rfl (lv_at hl 1 rfl) ?_
      refine lv_iload S.1 S.2.1 dX12_shards_44 (lv_at hl 4 rfl) ?_
      refine lv_iconst (v := (-1)) S.1 S.2.1 dX12_shards_46 (by decide) ?_
      refine m_vv (As := [.int x1, .int x5, .int ((-1) : Int32)]) (rest := []) S (W12_self h r cs) hI rfl (c_X12_goRule l D h r cs x1 x5 ((-1) : Int32) u _ hw) (cwV 3 S.2.2.2.2 gX12_shards_X12_goRule rfl rfl rfl (by decide +kernel) ⟨Nat.le_of_ble_eq_true rfl, Nat.le_of_ble_eq_true rfl⟩) (W12_at0 h r cs u) rfl rfl hl.1 rfl (Nat.le_of_ble_eq_true rfl) dX12_shards_47 ⟨Nat.zero_le _, Nat.zero_le _⟩ (fun u47 H locs hw hI => ?_)
      refine lv_aload_n S.1 S.2.1 dX12_shards_50 rfl (lv_at hl 0 rfl) ?_
      refine m_get S hin hI 0 (W12_at0 h r cs u47) rfl 38 (Nat.le_of_ble_eq_true rfl) (List.mem_of_getElem? (i := 5) rfl) rfl (Ff12_at38 r u47) dX12_shards_51 ?_
      refine lv_iload_n S.1 S.2.1 dX12_shards_54 rfl (lv_at hl 2 rfl) ?_
      refine lv_bipush (v := 10) S.1 S.2.1 dX12_shards_55 (by decide) ?_
      refine lv_idiv S.1 S.2.1 dX12_shards_57 hw.1 ?_
      have hw := hw.2
      refine lv_topi (fun y57 ey57 => ?_)
      have hw := hw y57 ey57
      refine lv_icmp_ne (tgt := 79) S.1 S.2.1 dX12_shards_58 (by decide) (fun c58 => ?_) (fun c58 => ?_)
      · have hw := hw.1 c58
        exact b79 B33 hB33 x1 x2 x3 x5 u47 hw H locs ls hI (lv_sub hl [0, 1, 2, 3, 4] rfl)
      · have hw := hw.2 c58
        refine lv_aload_n S.1 S.2.1 dX12_shards_61 rfl (lv_at hl 0 rfl) ?_
        refine m_get S hin hI 0 (W12_at0 h r cs u47) rfl 39 (Nat.le_of_ble_eq_true rfl) (List.mem_of_getElem? (i := 6) rfl) rfl (Ff12_at39 r u47) dX12_shards_62 ?_
        refine lv_iload_n S.1 S.2.1 dX12_shards_65 rfl (lv_at hl 2 rfl) ?_
        refine lv_bipush (v := 10) S.1 S.2.1 dX12_shards_66 (by decide) ?_
        refine lv_irem S.1 S.2.1 dX12_shards_68 hw.1 ?_
        have hw := hw.2
        refine lv_topi (fun y68 ey68 => ?_)
        have hw := hw y68 ey68
        refine lv_icmp_ne (tgt := 79) S.1 S.2.1 dX12_shards_69 (by decide) (fun c69 => ?_) (fun c69 => ?_)
        · have hw := hw.1 c69
          exact b79 B33 hB33 x1 x2 x3 x5 u47 hw H locs ls hI (lv_sub hl [0, 1, 2, 3, 4] rfl)
        · have hw := hw.2 c69
          refine lv_lload_n S.1 S.2.1 dX12_shards_72 rfl (lv_at hl 3 rfl) ?_
          refine lv_lconst (v := 1) S.1 S.2.1 dX12_shards_73 (by decide) ?_
          refine lv_iload S.1 S.2.1 dX12_shards_74 (lv_at hl 4 rfl) ?_
          refine lv_lshl S.1 S.2.1 dX12_shards_76 rfl ?_
          refine lv_topl (fun y76 ey76 => ?_)
          have hw := hw y76 ey76
          refine lv_lor S.1 S.2.1 dX12_shards_77 ?_
          refine lv_topl (fun y77 ey77 => ?_)
          have hw := hw y77 ey77
          refine lv_lstore_n (lv' := [(3, .long y77), (0, .ref h), (1, .int x1), (2, .int x2), (5, .int x5)]) S.1 S.2.1 dX12_shards_78 rfl hl (by decide) rfl (fun ls hl => ?_)
          exact b79 B33 hB33 x1 x2 y77 x5 u47 hw H locs ls hI (lv_sub hl [1, 2, 3, 0, 4] rfl)
  have b33 : ∀ (x1 : Int32) (x2 : Int32) (x3 : Int64) (x5 : Int32) (u : ST), wp_X12_shards_p33 x1 x2 x3 x5 u Q → mGo p l e ({ frames := 8, cells := 0, slots := 0, locals := 193 } : Room) s m args below meth c A Z 6 D (mT cs) (W12 h r cs) 33 [(0, .ref h), (1, .int x1), (2, .int x2), (3, .long x3), (5, .int x5)] [] u := by
    intro x1 x2 x3 x5 u hw
    obtain ⟨I, μ, h0, hs⟩ := hw
    have key : ∀ (n : Nat) (x1 : Int32) (x2 : Int32) (x3 : Int64) (x5 : Int32) (u : ST), μ x1 x2 x3 x5 u = n → I x1 x2 x3 x5 u → mGo p l e ({ frames := 8, cells := 0, slots := 0, locals := 193 } : Room) s m args below meth c A Z 6 D (mT cs) (W12 h r cs) 33 [(0, .ref h), (1, .int x1), (2, .int x2), (3, .long x3), (5, .int x5)] [] u := by
      intro n
      induction n using Nat.strongRecOn with
      | ind n ih =>
        intro x1 x2 x3 x5 u hn hi
        exact b33b (fun yx1 yx2 yx3 yx5 yu => I yx1 yx2 yx3 yx5 yu ∧ μ yx1 yx2 yx3 yx5 yu < μ x1 x2 x3 x5 u) (fun yx1 yx2 yx3 yx5 yu hb => ih _ (hn ▸ hb.2) yx1 yx2 yx3 yx5 yu rfl hb.1) x1 x2 x3 x5 u (hs x1 x2 x3 x5 u hi)
    exact key _ x1 x2 x3 x5 u rfl h0
  unfold wp_X12_shards at hw
  obtain ⟨H, hH⟩ : ∃ z : Heap, z = s.heap := ⟨_, rfl⟩
  obtain ⟨locs, hL⟩ : ∃ z : List Loc, z = [] := ⟨_, rfl⟩
  rw [show W p l e ({ frames := 8, cells := 0, slots := 0, locals := 193 } : Room) s m args below meth c s.heap [] 0 0 Z (F0 m 0 ls []) = W p l e ({ frames := 8, cells := 0, slots := 0, locals := 193 } : Room) s m args below meth c H locs 0 0 Z (F0 m 0 ls []) by rw [hH, hL]]
  replace hI : mI D (mT cs) A s.heap s (W12 h r cs u) H locs := by rw [hH, hL]; exact hI
  refine lv_iload_n S.1 S.2.1 dX12_shards_0 rfl (lv_at hl 1 rfl) ?_
  refine lv_iconst (v := 0) S.1 S.2.1 dX12_shards_1 (by decide) ?_
  refine lv_iconst (v := 1) S.1 S.2.1 dX12_shards_2 (by decide) ?_
  refine m_si (As := [.int a1, .int (0 : Int32), .int (1 : Int32)]) (rest := []) S hI.2.2.2.1.2.1 (c_X12_in l a1 (0 : Int32) (1 : Int32) _ hw) (va_cwS 3 S.2.2.2.2 gX12_shards_X12_in rfl rfl rfl (by decide +kernel) ⟨Nat.le_of_ble_eq_true rfl, Nat.le_of_ble_eq_true rfl⟩) rfl hl.1 rfl (Nat.le_of_ble_eq_true rfl) dX12_shards_3 ⟨Nat.zero_le _, Nat.zero_le _⟩ (fun y3 hw => ?_)
  refine lv_if_eq (tgt := 13) S.1 S.2.1 dX12_shards_6 (by decide) (fun c6 => ?_) (fun c6 => ?_)
  · have hw := hw.1 c6
    exact b13 u hw H locs ls hI (lv_sub hl [0] rfl)
  · have hw := hw.2 c6
    refine lv_iload_n S.1 S.2.1 dX12_shards_9 rfl (lv_at hl 2 rfl) ?_
    refine lv_if_ge (tgt := 17) S.1 S.2.1 dX12_shards_10 (by decide) (fun c10 => ?_) (fun c10 => ?_)
    · have hw := hw.1 c10
      refine lv_aload_n S.1 S.2.1 dX12_shards_17 rfl (lv_at hl 0 rfl) ?_
      refine m_get S hin hI 0 (W12_at0 h r cs u) rfl 2 (Nat.le_of_ble_eq_true rfl) (List.mem_of_getElem? (i := 2) rfl) rfl (Ff12_at2 r u) dX12_shards_18 ?_
      refine lv_if_ne (tgt := 28) S.1 S.2.1 dX12_shards_21 (by decide) (fun c21 => ?_) (fun c21 => ?_)
      · have hw := hw.1 c21
        refine lv_lconst (v := 0) S.1 S.2.1 dX12_shards_28 (by decide) ?_
        refine lv_lstore_n (lv' := [(3, .long (0 : Int64)), (0, .ref h), (1, .int a1), (2, .int a2)]) S.1 S.2.1 dX12_shards_29 rfl hl (by decide) rfl (fun ls hl => ?_)
        refine lv_iconst (v := 0) S.1 S.2.1 dX12_shards_30 (by decide) ?_
        refine lv_istore (lv' := [(5, .int (0 : Int32)), (3, .long (0 : Int64)), (0, .ref h), (1, .int a1), (2, .int a2)]) S.1 S.2.1 dX12_shards_31 hl (by decide) rfl (fun ls hl => ?_)
        exact b33 a1 a2 (0 : Int64) (0 : Int32) u hw H locs ls hI (lv_sub hl [2, 3, 4, 1, 0] rfl)
      · have hw := hw.2 c21
        refine lv_ldc2 S.1 S.2.1 S.2.2.2.1 (S.2.2.2.2 _ (List.mem_of_getElem? (i := 3) rfl)) dX12_shards_24 ?_
        subst hZ
        exact m_lret S hr hlocks hI hw dX12_shards_27
    · have hw := hw.2 c10
      exact b13 u hw H locs ls hI (lv_sub hl [0] rfl)

def wp_X12_rowFault_p32 (t0 : Int32) (u : ST) (Q : Int32 → ST → Prop) : Prop :=
  Q t0 u
def wp_X12_rowFault (a1 : Int32) (u : ST) (Q : Int32 → ST → Prop) : Prop :=
  (vp_in a1 6 ∧ ∀ y5 : Int32, y5 = gA u 53 a1.toNatClampNeg → ((¬ y5 = ((-1) : Int32) → (vp_in a1 6 ∧ ∀ y20 : Int32, y20 = gA u 53 a1.toNatClampNeg → ((¬ y20 = ((-2) : Int32) → wp_X12_rowFault_p32 ((-12) : Int32) u Q) ∧ (y20 = ((-2) : Int32) → wp_X12_rowFault_p32 (0 : Int32) u Q)))) ∧ (y5 = ((-1) : Int32) → wp_X12_rowFault_p32 ((-11) : Int32) u Q)))
set_option maxHeartbeats 4000000 in
set_option maxRecDepth 100000 in
theorem c_X12_rowFault (l : Launch) (D : va_G) (h : Nat) (r : Nat → Nat) (cs : Nat → ClassId) (a1 : Int32) (u : ST) (Q : Int32 → ST → Prop) (hw : wp_X12_rowFault a1 u Q) : mCi l yX12_rowFault wsX12_rowFault ({ frames := 0, cells := 0, slots := 0, locals := 0 } : Room) 0 0 D (mT cs) (W12 h r cs) [.ref h, .int a1] u Q := by
  unfold mCi
  refine m_enter (QQ := fun A => va_Qi Q (mPos D (mT cs) A (W12 h r cs)) A) (cc := cX12_rowFault) (maxL := 2) (ret := (some .int)) (by decide) rfl (Nat.le_of_ble_eq_true rfl) ?_
  intro p e s m args below meth c A ls S hr hlocks hname hl hI
  have S : CallFix p m c cX12_rowFault 2 s args wsX12_rowFault RX12 := S
  show W p l e ({ frames := 0, cells := 0, slots := 0, locals := 0 } : Room) s m args below meth c s.heap [] 0 0 (MQ below (va_Qi Q (mPos D (mT cs) A (W12 h r cs)) A) args s 0 0 A) (F0 m 0 ls [])
  generalize hZ : MQ below (va_Qi Q (mPos D (mT cs) A (W12 h r cs)) A) args s 0 0 A = Z
  have hin : ∀ w ∈ wsX120, w ∈ wsX12_rowFault := fun _ h => List.mem_cons_of_mem _ (List.mem_append_right _ h)
  have hl : lv_has ls 2 [(0, .ref h), (1, .int a1)] := hl
  have b32 : ∀ (t0 : Int32) (u : ST), wp_X12_rowFault_p32 t0 u Q → mGo p l e ({ frames := 0, cells := 0, slots := 0, locals := 0 } : Room) s m args below meth c A Z 2 D (mT cs) (W12 h r cs) 32 [(0, .ref h)] [.int t0] u := by
    intro t0 u hw H locs ls hI hl
    unfold wp_X12_rowFault_p32 at hw
    subst hZ
    exact m_iret S hr hlocks hI hw dX12_rowFault_32
  unfold wp_X12_rowFault at hw
  obtain ⟨H, hH⟩ : ∃ z : Heap, z = s.heap := ⟨_, rfl⟩
  obtain ⟨locs, hL⟩ : ∃ z : List Loc, z = [] := ⟨_, rfl⟩
  rw [show W p l e ({ frames := 0, cells := 0, slots := 0, locals := 0 } : Room) s m args below meth c s.heap [] 0 0 Z (F0 m 0 ls []) = W p l e ({ frames := 0, cells := 0, slots := 0, locals := 0 } : Room) s m args below meth c H locs 0 0 Z (F0 m 0 ls []) by rw [hH, hL]]
  replace hI : mI D (mT cs) A s.heap s (W12 h r cs u) H locs := by rw [hH, hL]; exact hI
  refine lv_aload_n S.1 S.2.1 dX12_rowFault_0 rfl (lv_at hl 0 rfl) ?_
  refine m_get S hin hI 0 (W12_at0 h r cs u) rfl 53 (Nat.le_of_ble_eq_true rfl) (List.mem_of_getElem? (i := 1) rfl) rfl (Ff12_at53 r u) dX12_rowFault_1 ?_
  refine lv_iload_n S.1 S.2.1 dX12_rowFault_4 rfl (lv_at hl 1 rfl) ?_
  refine m_iald S hI 26 0 (W12_at26 h r cs u) rfl hw.1 dX12_rowFault_5 ?_
  refine lv_topi (fun y5 ey5 => ?_)
  have hw := hw.2 y5 ey5
  refine lv_iconst (v := (-1)) S.1 S.2.1 dX12_rowFault_6 (by decide) ?_
  refine lv_icmp_ne (tgt := 15) S.1 S.2.1 dX12_rowFault_7 (by decide) (fun c7 => ?_) (fun c7 => ?_)
  · have hw := hw.1 c7
    refine lv_aload_n S.1 S.2.1 dX12_rowFault_15 rfl (lv_at hl 0 rfl) ?_
    refine m_get S hin hI 0 (W12_at0 h r cs u) rfl 53 (Nat.le_of_ble_eq_true rfl) (List.mem_of_getElem? (i := 1) rfl) rfl (Ff12_at53 r u) dX12_rowFault_16 ?_
    refine lv_iload_n S.1 S.2.1 dX12_rowFault_19 rfl (lv_at hl 1 rfl) ?_
    refine m_iald S hI 26 0 (W12_at26 h r cs u) rfl hw.1 dX12_rowFault_20 ?_
    refine lv_topi (fun y20 ey20 => ?_)
    have hw := hw.2 y20 ey20
    refine lv_bipush (v := (-2)) S.1 S.2.1 dX12_rowFault_21 (by decide) ?_
    refine lv_icmp_ne (tgt := 30) S.1 S.2.1 dX12_rowFault_23 (by decide) (fun c23 => ?_) (fun c23 => ?_)
    · have hw := hw.1 c23
      refine lv_bipush (v := (-12)) S.1 S.2.1 dX12_rowFault_30 (by decide) ?_
      exact b32 ((-12) : Int32) u hw H locs ls hI (lv_sub hl [0] rfl)
    · have hw := hw.2 c23
      refine lv_iconst (v := 0) S.1 S.2.1 dX12_rowFault_26 (by decide) ?_
      refine lv_goto (tgt := 32) S.1 S.2.1 dX12_rowFault_27 (by decide) ?_
      exact b32 (0 : Int32) u hw H locs ls hI (lv_sub hl [0] rfl)
  · have hw := hw.2 c7
    refine lv_bipush (v := (-11)) S.1 S.2.1 dX12_rowFault_10 (by decide) ?_
    refine lv_goto (tgt := 32) S.1 S.2.1 dX12_rowFault_12 (by decide) ?_
    exact b32 ((-11) : Int32) u hw H locs ls hI (lv_sub hl [0] rfl)

def wp_X12_isWise_p16 (u : ST) (Q : Int32 → ST → Prop) : Prop :=
  ((0 : Int32) &&& 1 = (0 : Int32) ∧ Q (0 : Int32) u)
def wp_X12_isWise_p105 (t0 : Int32) (u : ST) (Q : Int32 → ST → Prop) : Prop :=
  (t0 &&& 1 = t0 ∧ Q t0 u)
def wp_X12_isWise_p104 (u : ST) (Q : Int32 → ST → Prop) : Prop :=
  wp_X12_isWise_p105 (0 : Int32) u Q
def wp_X12_isWise (a1 : Int32) (u : ST) (Q : Int32 → ST → Prop) : Prop :=
  ((a1 ≤ (gI u 41) → wp_X12_isWise_p16 u Q) ∧ (¬ a1 ≤ (gI u 41) → ((a1 ≤ (gI u 42) → (∀ y32 : Int32, y32 = (gI u 42) - (gI u 41) → (∀ y34 : Int32, y34 = y32 + (1 : Int32) → (∀ y35 : Int32, y35 = (7 : Int32) * y34 → (∀ y40 : Int32, y40 = y35 + (gI u 43) → (vp_in y40 434 ∧ ∀ y41 : Int32, y41 = gA u 25 y40.toNatClampNeg → (((1000000 : Int32) ≤ y41 → wp_X12_isWise_p104 u Q) ∧ (¬ (1000000 : Int32) ≤ y41 → (∀ y61 : Int32, y61 = a1 - (gI u 41) → (∀ y62 : Int32, y62 = (7 : Int32) * y61 → (∀ y67 : Int32, y67 = y62 + (gI u 43) → (∀ y69 : Int32, y69 = y67 - (1 : Int32) → (vp_in y69 434 ∧ ∀ y70 : Int32, y70 = gA u 25 y69.toNatClampNeg → (∀ y82 : Int32, y82 = (gI u 42) - a1 → (∀ y84 : Int32, y84 = y82 + (1 : Int32) → (∀ y85 : Int32, y85 = (7 : Int32) * y84 → (∀ y90 : Int32, y90 = y85 + (gI u 43) → (vp_in y90 434 ∧ ∀ y91 : Int32, y91 = gA u 25 y90.toNatClampNeg → (wp_X12_greater y70 y91 (fun y92 => (∀ y95 : Int32, y95 = (1 : Int32) + y92 → ((¬ y95 = y41 → wp_X12_isWise_p104 u Q) ∧ (y95 = y41 → wp_X12_isWise_p105 (1 : Int32) u Q))))))))))))))))))))))) ∧ (¬ a1 ≤ (gI u 42) → wp_X12_isWise_p16 u Q))))
set_option maxHeartbeats 4000000 in
set_option maxRecDepth 100000 in
theorem c_X12_isWise (l : Launch) (D : va_G) (h : Nat) (r : Nat → Nat) (cs : Nat → ClassId) (a1 : Int32) (u : ST) (Q : Int32 → ST → Prop) (hw : wp_X12_isWise a1 u Q) : mCi l yX12_isWise wsX12_isWise ({ frames := 1, cells := 0, slots := 0, locals := 21 } : Room) 0 0 D (mT cs) (W12 h r cs) [.ref h, .int a1] u Q := by
  unfold mCi
  refine m_enter (QQ := fun A => va_Qi Q (mPos D (mT cs) A (W12 h r cs)) A) (cc := cX12_isWise) (maxL := 3) (ret := (some .boolean)) (by decide) rfl (Nat.le_of_ble_eq_true rfl) ?_
  intro p e s m args below meth c A ls S hr hlocks hname hl hI
  have S : CallFix p m c cX12_isWise 3 s args wsX12_isWise RX12 := S
  show W p l e ({ frames := 1, cells := 0, slots := 0, locals := 21 } : Room) s m args below meth c s.heap [] 0 0 (MQ below (va_Qi Q (mPos D (mT cs) A (W12 h r cs)) A) args s 0 0 A) (F0 m 0 ls [])
  generalize hZ : MQ below (va_Qi Q (mPos D (mT cs) A (W12 h r cs)) A) args s 0 0 A = Z
  have hin : ∀ w ∈ wsX120, w ∈ wsX12_isWise := fun _ h => List.mem_cons_of_mem _ (List.mem_append_right _ h)
  have hl : lv_has ls 3 [(0, .ref h), (1, .int a1)] := hl
  have b16 : ∀ (u : ST), wp_X12_isWise_p16 u Q → mGo p l e ({ frames := 1, cells := 0, slots := 0, locals := 21 } : Room) s m args below meth c A Z 3 D (mT cs) (W12 h r cs) 16 [(0, .ref h)] [] u := by
    intro u hw H locs ls hI hl
    unfold wp_X12_isWise_p16 at hw
    refine lv_iconst (v := 0) S.1 S.2.1 dX12_isWise_16 (by decide) ?_
    subst hZ
    exact m_zret S hr hlocks hI hw.1 hw.2 dX12_isWise_17
  have b105 : ∀ (t0 : Int32) (u : ST), wp_X12_isWise_p105 t0 u Q → mGo p l e ({ frames := 1, cells := 0, slots := 0, locals := 21 } : Room) s m args below meth c A Z 3 D (mT cs) (W12 h r cs) 105 [(0, .ref h)] [.int t0] u := by
    intro t0 u hw H locs ls hI hl
    unfold wp_X12_isWise_p105 at hw
    subst hZ
    exact m_zret S hr hlocks hI hw.1 hw.2 dX12_isWise_105
  have b104 : ∀ (u : ST), wp_X12_isWise_p104 u Q → mGo p l e ({ frames := 1, cells := 0, slots := 0, locals := 21 } : Room) s m args below meth c A Z 3 D (mT cs) (W12 h r cs) 104 [(0, .ref h)] [] u := by
    intro u hw H locs ls hI hl
    unfold wp_X12_isWise_p104 at hw
    refine lv_iconst (v := 0) S.1 S.2.1 dX12_isWise_104 (by decide) ?_
    exact b105 (0 : Int32) u hw H locs ls hI (lv_sub hl [0] rfl)
  unfold wp_X12_isWise at hw
  obtain ⟨H, hH⟩ : ∃ z : Heap, z = s.heap := ⟨_, rfl⟩
  obtain ⟨locs, hL⟩ : ∃ z : List Loc, z = [] := ⟨_, rfl⟩
  rw [show W p l e ({ frames := 1, cells := 0, slots := 0, locals := 21 } : Room) s m args below meth c s.heap [] 0 0 Z (F0 m 0 ls []) = W p l e ({ frames := 1, cells := 0, slots := 0, locals := 21 } : Room) s m args below meth c H locs 0 0 Z (F0 m 0 ls []) by rw [hH, hL]]
  replace hI : mI D (mT cs) A s.heap s (W12 h r cs u) H locs := by rw [hH, hL]; exact hI
  refine lv_iload_n S.1 S.2.1 dX12_isWise_0 rfl (lv_at hl 1 rfl) ?_
  refine lv_aload_n S.1 S.2.1 dX12_isWise_1 rfl (lv_at hl 0 rfl) ?_
  refine m_get S hin hI 0 (W12_at0 h r cs u) rfl 41 (Nat.le_of_ble_eq_true rfl) (List.mem_of_getElem? (i := 1) rfl) rfl (Ff12_at41 r u) dX12_isWise_2 ?_
  refine lv_icmp_le (tgt := 16) S.1 S.2.1 dX12_isWise_5 (by decide) (fun c5 => ?_) (fun c5 => ?_)
  · have hw := hw.1 c5
    exact b16 u hw H locs ls hI (lv_sub hl [0] rfl)
  · have hw := hw.2 c5
    refine lv_iload_n S.1 S.2.1 dX12_isWise_8 rfl (lv_at hl 1 rfl) ?_
    refine lv_aload_n S.1 S.2.1 dX12_isWise_9 rfl (lv_at hl 0 rfl) ?_
    refine m_get S hin hI 0 (W12_at0 h r cs u) rfl 42 (Nat.le_of_ble_eq_true rfl) (List.mem_of_getElem? (i := 2) rfl) rfl (Ff12_at42 r u) dX12_isWise_10 ?_
    refine lv_icmp_le (tgt := 18) S.1 S.2.1 dX12_isWise_13 (by decide) (fun c13 => ?_) (fun c13 => ?_)
    · have hw := hw.1 c13
      refine lv_aload_n S.1 S.2.1 dX12_isWise_18 rfl (lv_at hl 0 rfl) ?_
      refine m_get S hin hI 0 (W12_at0 h r cs u) rfl 25 (Nat.le_of_ble_eq_true rfl) (List.mem_of_getElem? (i := 3) rfl) rfl (Ff12_at25 r u) dX12_isWise_19 ?_
      refine lv_bipush (v := 7) S.1 S.2.1 dX12_isWise_22 (by decide) ?_
      refine lv_aload_n S.1 S.2.1 dX12_isWise_24 rfl (lv_at hl 0 rfl) ?_
      refine m_get S hin hI 0 (W12_at0 h r cs u) rfl 42 (Nat.le_of_ble_eq_true rfl) (List.mem_of_getElem? (i := 2) rfl) rfl (Ff12_at42 r u) dX12_isWise_25 ?_
      refine lv_aload_n S.1 S.2.1 dX12_isWise_28 rfl (lv_at hl 0 rfl) ?_
      refine m_get S hin hI 0 (W12_at0 h r cs u) rfl 41 (Nat.le_of_ble_eq_true rfl) (List.mem_of_getElem? (i := 1) rfl) rfl (Ff12_at41 r u) dX12_isWise_29 ?_
      refine lv_isub S.1 S.2.1 dX12_isWise_32 ?_
      refine lv_topi (fun y32 ey32 => ?_)
      have hw := hw y32 ey32
      refine lv_iconst (v := 1) S.1 S.2.1 dX12_isWise_33 (by decide) ?_
      refine lv_iadd S.1 S.2.1 dX12_isWise_34 ?_
      refine lv_topi (fun y34 ey34 => ?_)
      have hw := hw y34 ey34
      refine lv_imul S.1 S.2.1 dX12_isWise_35 ?_
      refine lv_topi (fun y35 ey35 => ?_)
      have hw := hw y35 ey35
      refine lv_aload_n S.1 S.2.1 dX12_isWise_36 rfl (lv_at hl 0 rfl) ?_
      refine m_get S hin hI 0 (W12_at0 h r cs u) rfl 43 (Nat.le_of_ble_eq_true rfl) (List.mem_of_getElem? (i := 4) rfl) rfl (Ff12_at43 r u) dX12_isWise_37 ?_
      refine lv_iadd S.1 S.2.1 dX12_isWise_40 ?_
      refine lv_topi (fun y40 ey40 => ?_)
      have hw := hw y40 ey40
      refine m_iald S hI 13 0 (W12_at13 h r cs u) rfl hw.1 dX12_isWise_41 ?_
      refine lv_topi (fun y41 ey41 => ?_)
      have hw := hw.2 y41 ey41
      refine lv_istore_n (lv' := [(2, .int y41), (0, .ref h), (1, .int a1)]) S.1 S.2.1 dX12_isWise_42 rfl hl (by decide) rfl (fun ls hl => ?_)
      refine lv_iload_n S.1 S.2.1 dX12_isWise_43 rfl (lv_at hl 0 rfl) ?_
      refine lv_ldc S.1 S.2.1 S.2.2.2.1 (S.2.2.2.2 _ (List.mem_of_getElem? (i := 5) rfl)) dX12_isWise_44 ?_
      refine lv_icmp_ge (tgt := 104) S.1 S.2.1 dX12_isWise_46 (by decide) (fun c46 => ?_) (fun c46 => ?_)
      · have hw := hw.1 c46
        exact b104 u hw H locs ls hI (lv_sub hl [1] rfl)
      · have hw := hw.2 c46
        refine lv_iconst (v := 1) S.1 S.2.1 dX12_isWise_49 (by decide) ?_
        refine lv_aload_n S.1 S.2.1 dX12_isWise_50 rfl (lv_at hl 1 rfl) ?_
        refine m_get S hin hI 0 (W12_at0 h r cs u) rfl 25 (Nat.le_of_ble_eq_true rfl) (List.mem_of_getElem? (i := 3) rfl) rfl (Ff12_at25 r u) dX12_isWise_51 ?_
        refine lv_bipush (v := 7) S.1 S.2.1 dX12_isWise_54 (by decide) ?_
        refine lv_iload_n S.1 S.2.1 dX12_isWise_56 rfl (lv_at hl 2 rfl) ?_
        refine lv_aload_n S.1 S.2.1 dX12_isWise_57 rfl (lv_at hl 1 rfl) ?_
        refine m_get S hin hI 0 (W12_at0 h r cs u) rfl 41 (Nat.le_of_ble_eq_true rfl) (List.mem_of_getElem? (i := 1) rfl) rfl (Ff12_at41 r u) dX12_isWise_58 ?_
        refine lv_isub S.1 S.2.1 dX12_isWise_61 ?_
        refine lv_topi (fun y61 ey61 => ?_)
        have hw := hw y61 ey61
        refine lv_imul S.1 S.2.1 dX12_isWise_62 ?_
        refine lv_topi (fun y62 ey62 => ?_)
        have hw := hw y62 ey62
        refine lv_aload_n S.1 S.2.1 dX12_isWise_63 rfl (lv_at hl 1 rfl) ?_
        refine m_get S hin hI 0 (W12_at0 h r cs u) rfl 43 (Nat.le_of_ble_eq_true rfl) (List.mem_of_getElem? (i := 4) rfl) rfl (Ff12_at43 r u) dX12_isWise_64 ?_
        refine lv_iadd S.1 S.2.1 dX12_isWise_67 ?_
        refine lv_topi (fun y67 ey67 => ?_)
        have hw := hw y67 ey67
        refine lv_iconst (v := 1) S.1 S.2.1 dX12_isWise_68 (by decide) ?_
        refine lv_isub S.1 S.2.1 dX12_isWise_69 ?_
        refine lv_topi (fun y69 ey69 => ?_)
        have hw := hw y69 ey69
        refine m_iald S hI 13 0 (W12_at13 h r cs u) rfl hw.1 dX12_isWise_70 ?_
        refine lv_topi (fun y70 ey70 => ?_)
        have hw := hw.2 y70 ey70
        refine lv_aload_n S.1 S.2.1 dX12_isWise_71 rfl (lv_at hl 1 rfl) ?_
        refine m_get S hin hI 0 (W12_at0 h r cs u) rfl 25 (Nat.le_of_ble_eq_true rfl) (List.mem_of_getElem? (i := 3) rfl) rfl (Ff12_at25 r u) dX12_isWise_72 ?_
        refine lv_bipush (v := 7) S.1 S.2.1 dX12_isWise_75 (by decide) ?_
        refine lv_aload_n S.1 S.2.1 dX12_isWise_77 rfl (lv_at hl 1 rfl) ?_
        refine m_get S hin hI 0 (W12_at0 h r cs u) rfl 42 (Nat.le_of_ble_eq_true rfl) (List.mem_of_getElem? (i := 2) rfl) rfl (Ff12_at42 r u) dX12_isWise_78 ?_
        refine lv_iload_n S.1 S.2.1 dX12_isWise_81 rfl (lv_at hl 2 rfl) ?_
        refine lv_isub S.1 S.2.1 dX12_isWise_82 ?_
        refine lv_topi (fun y82 ey82 => ?_)
        have hw := hw y82 ey82
        refine lv_iconst (v := 1) S.1 S.2.1 dX12_isWise_83 (by decide) ?_
        refine lv_iadd S.1 S.2.1 dX12_isWise_84 ?_
        refine lv_topi (fun y84 ey84 => ?_)
        have hw := hw y84 ey84
        refine lv_imul S.1 S.2.1 dX12_isWise_85 ?_
        refine lv_topi (fun y85 ey85 => ?_)
        have hw := hw y85 ey85
        refine lv_aload_n S.1 S.2.1 dX12_isWise_86 rfl (lv_at hl 1 rfl) ?_
        refine m_get S hin hI 0 (W12_at0 h r cs u) rfl 43 (Nat.le_of_ble_eq_true rfl) (List.mem_of_getElem? (i := 4) rfl) rfl (Ff12_at43 r u) dX12_isWise_87 ?_
        refine lv_iadd S.1 S.2.1 dX12_isWise_90 ?_
        refine lv_topi (fun y90 ey90 => ?_)
        have hw := hw y90 ey90
        refine m_iald S hI 13 0 (W12_at13 h r cs u) rfl hw.1 dX12_isWise_91 ?_
        refine lv_topi (fun y91 ey91 => ?_)
        have hw := hw.2 y91 ey91
        refine m_si (As := [.int y70, .int y91]) (rest := [.int (1 : Int32)]) S hI.2.2.2.1.2.1 (c_X12_greater l y70 y91 _ hw) (va_cwS 2 S.2.2.2.2 gX12_isWise_X12_greater rfl rfl rfl (by decide +kernel) ⟨Nat.le_of_ble_eq_true rfl, Nat.le_of_ble_eq_true rfl⟩) rfl hl.1 rfl (Nat.le_of_ble_eq_true rfl) dX12_isWise_92 ⟨Nat.zero_le _, Nat.zero_le _⟩ (fun y92 hw => ?_)
        refine lv_iadd S.1 S.2.1 dX12_isWise_95 ?_
        refine lv_topi (fun y95 ey95 => ?_)
        have hw := hw y95 ey95
        refine lv_iload_n S.1 S.2.1 dX12_isWise_96 rfl (lv_at hl 0 rfl) ?_
        refine lv_icmp_ne (tgt := 104) S.1 S.2.1 dX12_isWise_97 (by decide) (fun c97 => ?_) (fun c97 => ?_)
        · have hw := hw.1 c97
          exact b104 u hw H locs ls hI (lv_sub hl [1] rfl)
        · have hw := hw.2 c97
          refine lv_iconst (v := 1) S.1 S.2.1 dX12_isWise_100 (by decide) ?_
          refine lv_goto (tgt := 105) S.1 S.2.1 dX12_isWise_101 (by decide) ?_
          exact b105 (1 : Int32) u hw H locs ls hI (lv_sub hl [1] rfl)
    · have hw := hw.2 c13
      exact b16 u hw H locs ls hI (lv_sub hl [0] rfl)

def wp_X12_goTold_p65 (x2 : Int32) (u : ST) (Q : Int32 → ST → Prop) : Prop :=
  Q x2 u
def wp_X12_goTold_p155 (x2 : Int32) (u : ST) (Q : Int32 → ST → Prop) : Prop :=
  Q x2 u
def wp_X12_goTold_p225 (x1 : Int32) (x2 : Int32) (u : ST) (B32 : Int32 → Int32 → ST → Prop) (Q : Int32 → ST → Prop) : Prop :=
  (∀ y225 : Int32, y225 = x2 + 1 → B32 x1 y225 u)
def wp_X12_goTold_p175 (x1 : Int32) (x2 : Int32) (x3 : Int32) (x4 : Int64) (u : ST) (B32 : Int32 → Int32 → ST → Prop) (Q : Int32 → ST → Prop) : Prop :=
  (∀ y178 : Int32, y178 = lg_cmp x4 (1 : Int64) → ((¬ y178 = 0 → ((x3 ≤ (gI u 41) → wp_X12_goTold_p225 x1 x2 u B32 Q) ∧ (¬ x3 ≤ (gI u 41) → (∀ u222 : ST, u222 = sI u 41 x3 → wp_X12_goTold_p225 x1 x2 u222 B32 Q)))) ∧ (y178 = 0 → (∀ y188 : Int32, y188 = (gI u 43) - (1 : Int32) → (∀ u189 : ST, u189 = sI u 43 y188 → (∀ y194 : Int32, y194 = x3 - (1 : Int32) → (((gI u189 42) ≤ y194 → wp_X12_goTold_p225 x1 x2 u189 B32 Q) ∧ (¬ (gI u189 42) ≤ y194 → (∀ y205 : Int32, y205 = x3 - (1 : Int32) → (∀ u206 : ST, u206 = sI u189 42 y205 → wp_X12_goTold_p225 x1 x2 u206 B32 Q))))))))))
def wp_X12_goTold_p157 (x1 : Int32) (x2 : Int32) (x3 : Int32) (x4 : Int64) (u : ST) (B32 : Int32 → Int32 → ST → Prop) (Q : Int32 → ST → Prop) : Prop :=
  (wp_X12_isWise x3 u (fun y159 u159 => ((y159 = 0 → wp_X12_goTold_p175 x1 x2 x3 x4 u159 B32 Q) ∧ (¬ y159 = 0 → (∀ y171 : Int32, y171 = (gI u159 44) + (1 : Int32) → (∀ u172 : ST, u172 = sI u159 44 y171 → wp_X12_goTold_p175 x1 x2 x3 x4 u172 B32 Q))))))
def wp_X12_goTold_p140 (x1 : Int32) (x2 : Int32) (x3 : Int32) (x4 : Int64) (u : ST) (B32 : Int32 → Int32 → ST → Prop) (Q : Int32 → ST → Prop) : Prop :=
  (∀ y143 : Int32, y143 = lg_cmp x4 (0 : Int64) → ((¬ y143 = 0 → wp_X12_goTold_p157 x1 x2 x3 x4 u B32 Q) ∧ (y143 = 0 → ((x3 ≤ (gI u 42) → wp_X12_goTold_p157 x1 x2 x3 x4 u B32 Q) ∧ (¬ x3 ≤ (gI u 42) → wp_X12_goTold_p155 x2 u Q)))))
def wp_X12_goTold_p32b (x1 : Int32) (x2 : Int32) (u : ST) (B32 : Int32 → Int32 → ST → Prop) (Q : Int32 → ST → Prop) : Prop :=
  (∀ y34 : Int32, y34 = (2 : Int32) * x2 → (vp_in x1 6 ∧ ∀ y40 : Int32, y40 = gA u 54 x1.toNatClampNeg → ((y40 ≤ y34 → Q ((-2) : Int32) u) ∧ (¬ y40 ≤ y34 → (∀ y46 : Int32, y46 = (2 : Int32) * x2 → (∀ y48 : Int32, y48 = y46 + (1 : Int32) → (vp_in x1 6 ∧ ∀ y54 : Int32, y54 = gA u 54 x1.toNatClampNeg → ((y54 ≤ y48 → wp_X12_goTold_p65 x2 u Q) ∧ (¬ y54 ≤ y48 → ((¬ (gI u 43) = 0 → (∀ y74 : Int32, y74 = (60 : Int32) * x1 → (∀ y77 : Int32, y77 = (2 : Int32) * x2 → (∀ y78 : Int32, y78 = y74 + y77 → (vp_in y78 360 ∧ ∀ y79 : Int64, y79 = gJ u 55 y78.toNatClampNeg → (∀ y80 : Int32, y80 = y79.toInt32 → (∀ y89 : Int32, y89 = (60 : Int32) * x1 → (∀ y92 : Int32, y92 = (2 : Int32) * x2 → (∀ y93 : Int32, y93 = y89 + y92 → (∀ y95 : Int32, y95 = y93 + (1 : Int32) → (vp_in y95 360 ∧ ∀ y96 : Int64, y96 = gJ u 55 y95.toNatClampNeg → (wp_X12_in y80 (1 : Int32) (gI u 1) (fun y105 => ((y105 = 0 → wp_X12_goTold_p155 x2 u Q) ∧ (¬ y105 = 0 → (∀ y114 : Int32, y114 = lg_cmp y96 (0 : Int64) → ((y114 < 0 → wp_X12_goTold_p155 x2 u Q) ∧ (¬ y114 < 0 → (∀ y121 : Int32, y121 = lg_cmp y96 (1 : Int64) → ((0 < y121 → wp_X12_goTold_p155 x2 u Q) ∧ (¬ 0 < y121 → (∀ y128 : Int32, y128 = lg_cmp y96 (1 : Int64) → ((¬ y128 = 0 → wp_X12_goTold_p140 x1 x2 y80 y96 u B32 Q) ∧ (y128 = 0 → ((y80 ≤ (gI u 41) → wp_X12_goTold_p155 x2 u Q) ∧ (¬ y80 ≤ (gI u 41) → wp_X12_goTold_p140 x1 x2 y80 y96 u B32 Q)))))))))))))))))))))))))) ∧ ((gI u 43) = 0 → wp_X12_goTold_p65 x2 u Q)))))))))))
def wp_X12_goTold_p32 (x1 : Int32) (x2 : Int32) (u : ST) (Q : Int32 → ST → Prop) : Prop := ∃ (I : Int32 → Int32 → ST → Prop) (μ : Int32 → Int32 → ST → Nat), I x1 x2 u ∧ ∀ (x1 : Int32) (x2 : Int32) (u : ST), I x1 x2 u → wp_X12_goTold_p32b x1 x2 u (fun yx1 yx2 yu => I yx1 yx2 yu ∧ μ yx1 yx2 yu < μ x1 x2 u) Q
def wp_X12_goTold (a1 : Int32) (u : ST) (Q : Int32 → ST → Prop) : Prop :=
  (wp_X12_findWorst u (fun u1 => (∀ u6 : ST, u6 = sI u1 41 (0 : Int32) → (∀ u14 : ST, u14 = sI u6 42 (gI u6 1) → (∀ u22 : ST, u22 = sI u14 43 (gI u14 2) → (∀ u27 : ST, u27 = sI u22 44 (0 : Int32) → wp_X12_goTold_p32 a1 (0 : Int32) u27 Q))))))
set_option maxHeartbeats 4000000 in
set_option maxRecDepth 100000 in
theorem c_X12_goTold (l : Launch) (D : va_G) (h : Nat) (r : Nat → Nat) (cs : Nat → ClassId) (a1 : Int32) (u : ST) (Q : Int32 → ST → Prop) (hw : wp_X12_goTold a1 u Q) : mCi l yX12_goTold wsX12_goTold ({ frames := 2, cells := 0, slots := 0, locals := 47 } : Room) 0 0 D (mT cs) (W12 h r cs) [.ref h, .int a1] u Q := by
  unfold mCi
  refine m_enter (QQ := fun A => va_Qi Q (mPos D (mT cs) A (W12 h r cs)) A) (cc := cX12_goTold) (maxL := 6) (ret := (some .int)) (by decide) rfl (Nat.le_of_ble_eq_true rfl) ?_
  intro p e s m args below meth c A ls S hr hlocks hname hl hI
  have S : CallFix p m c cX12_goTold 6 s args wsX12_goTold RX12 := S
  show W p l e ({ frames := 2, cells := 0, slots := 0, locals := 47 } : Room) s m args below meth c s.heap [] 0 0 (MQ below (va_Qi Q (mPos D (mT cs) A (W12 h r cs)) A) args s 0 0 A) (F0 m 0 ls [])
  generalize hZ : MQ below (va_Qi Q (mPos D (mT cs) A (W12 h r cs)) A) args s 0 0 A = Z
  have hin : ∀ w ∈ wsX120, w ∈ wsX12_goTold := fun _ h => List.mem_cons_of_mem _ (List.mem_append_right _ h)
  have hl : lv_has ls 6 [(0, .ref h), (1, .int a1)] := hl
  have b65 : ∀ (x2 : Int32) (u : ST), wp_X12_goTold_p65 x2 u Q → mGo p l e ({ frames := 2, cells := 0, slots := 0, locals := 47 } : Room) s m args below meth c A Z 6 D (mT cs) (W12 h r cs) 65 [(0, .ref h), (2, .int x2)] [] u := by
    intro x2 u hw H locs ls hI hl
    unfold wp_X12_goTold_p65 at hw
    refine lv_iload_n S.1 S.2.1 dX12_goTold_65 rfl (lv_at hl 1 rfl) ?_
    subst hZ
    exact m_iret S hr hlocks hI hw dX12_goTold_66
  have b155 : ∀ (x2 : Int32) (u : ST), wp_X12_goTold_p155 x2 u Q → mGo p l e ({ frames := 2, cells := 0, slots := 0, locals := 47 } : Room) s m args below meth c A Z 6 D (mT cs) (W12 h r cs) 155 [(0, .ref h), (2, .int x2)] [] u := by
    intro x2 u hw H locs ls hI hl
    unfold wp_X12_goTold_p155 at hw
    refine lv_iload_n S.1 S.2.1 dX12_goTold_155 rfl (lv_at hl 1 rfl) ?_
    subst hZ
    exact m_iret S hr hlocks hI hw dX12_goTold_156
  have b225 : ∀ (B32 : Int32 → Int32 → ST → Prop), (∀ (x1 : Int32) (x2 : Int32) (u : ST), B32 x1 x2 u → mGo p l e ({ frames := 2, cells := 0, slots := 0, locals := 47 } : Room) s m args below meth c A Z 6 D (mT cs) (W12 h r cs) 32 [(0, .ref h), (1, .int x1), (2, .int x2)] [] u) → ∀ (x1 : Int32) (x2 : Int32) (u : ST), wp_X12_goTold_p225 x1 x2 u B32 Q → mGo p l e ({ frames := 2, cells := 0, slots := 0, locals := 47 } : Room) s m args below meth c A Z 6 D (mT cs) (W12 h r cs) 225 [(0, .ref h), (1, .int x1), (2, .int x2)] [] u := by
    intro B32 hB32 x1 x2 u hw H locs ls hI hl
    unfold wp_X12_goTold_p225 at hw
    obtain ⟨y225, ey225⟩ : ∃ z : Int32, z = x2 + 1 := ⟨_, rfl⟩
    have hw := hw y225 ey225
    refine lv_iinc (v := y225) (lv' := [(2, .int y225), (0, .ref h), (1, .int x1)]) S.1 S.2.1 dX12_goTold_225 hl (k := 2) rfl (by rw [ey225]; rfl) (by decide) rfl (fun ls hl => ?_)
    refine lv_goto (tgt := 32) S.1 S.2.1 dX12_goTold_228 (by decide) ?_
    exact hB32 x1 y225 u hw H locs ls hI (lv_sub hl [1, 2, 0] rfl)
  have b175 : ∀ (B32 : Int32 → Int32 → ST → Prop), (∀ (x1 : Int32) (x2 : Int32) (u : ST), B32 x1 x2 u → mGo p l e ({ frames := 2, cells := 0, slots := 0, locals := 47 } : Room) s m args below meth c A Z 6 D (mT cs) (W12 h r cs) 32 [(0, .ref h), (1, .int x1), (2, .int x2)] [] u) → ∀ (x1 : Int32) (x2 : Int32) (x3 : Int32) (x4 : Int64) (u : ST), wp_X12_goTold_p175 x1 x2 x3 x4 u B32 Q → mGo p l e ({ frames := 2, cells := 0, slots := 0, locals := 47 } : Room) s m args below meth c A Z 6 D (mT cs) (W12 h r cs) 175 [(0, .ref h), (1, .int x1), (2, .int x2), (3, .int x3), (4, .long x4)] [] u := by
    intro B32 hB32 x1 x2 x3 x4 u hw H locs ls hI hl
    unfold wp_X12_goTold_p175 at hw
    refine lv_lload S.1 S.2.1 dX12_goTold_175 (lv_at hl 4 rfl) ?_
    refine lv_lconst (v := 1) S.1 S.2.1 dX12_goTold_177 (by decide) ?_
    refine W.lcmp S.1 S.2.1 dX12_goTold_178 ?_
    refine lv_topi (fun y178 ey178 => ?_)
    have hw := hw y178 ey178
    refine lv_if_ne (tgt := 212) S.1 S.2.1 dX12_goTold_179 (by decide) (fun c179 => ?_) (fun c179 => ?_)
    · have hw := hw.1 c179
      refine lv_iload_n S.1 S.2.1 dX12_goTold_212 rfl (lv_at hl 3 rfl) ?_
      refine lv_aload_n S.1 S.2.1 dX12_goTold_213 rfl (lv_at hl 0 rfl) ?_
      refine m_get S hin hI 0 (W12_at0 h r cs u) rfl 41 (Nat.le_of_ble_eq_true rfl) (List.mem_of_getElem? (i := 1) rfl) rfl (Ff12_at41 r u) dX12_goTold_214 ?_
      refine lv_icmp_le (tgt := 225) S.1 S.2.1 dX12_goTold_217 (by decide) (fun c217 => ?_) (fun c217 => ?_)
      · have hw := hw.1 c217
        exact b225 B32 hB32 x1 x2 u hw H locs ls hI (lv_sub hl [0, 1, 2] rfl)
      · have hw := hw.2 c217
        refine lv_aload_n S.1 S.2.1 dX12_goTold_220 rfl (lv_at hl 0 rfl) ?_
        refine lv_iload_n S.1 S.2.1 dX12_goTold_221 rfl (lv_at hl 3 rfl) ?_
        obtain ⟨u222, eu222⟩ : ∃ z : ST, z = sI u 41 x3 := ⟨_, rfl⟩
        have hw := hw u222 eu222
        refine m_put S hin tyX12_ok nmX12 hI 0 (W12_at0 h r cs u) rfl 41 (Nat.le_of_ble_eq_true rfl) (List.mem_of_getElem? (i := 1) rfl) rfl rfl rfl rfl (Nat.le_of_ble_eq_true rfl) (W12_sI41 h r cs u u222 x3 eu222) dX12_goTold_222 (fun H locs hI => ?_)
        exact b225 B32 hB32 x1 x2 u222 hw H locs ls hI (lv_sub hl [0, 1, 2] rfl)
    · have hw := hw.2 c179
      refine lv_aload_n S.1 S.2.1 dX12_goTold_182 rfl (lv_at hl 0 rfl) ?_
      refine lv_dup S.1 S.2.1 dX12_goTold_183 rfl ?_
      refine m_get S hin hI 0 (W12_at0 h r cs u) rfl 43 (Nat.le_of_ble_eq_true rfl) (List.mem_of_getElem? (i := 5) rfl) rfl (Ff12_at43 r u) dX12_goTold_184 ?_
      refine lv_iconst (v := 1) S.1 S.2.1 dX12_goTold_187 (by decide) ?_
      refine lv_isub S.1 S.2.1 dX12_goTold_188 ?_
      refine lv_topi (fun y188 ey188 => ?_)
      have hw := hw y188 ey188
      obtain ⟨u189, eu189⟩ : ∃ z : ST, z = sI u 43 y188 := ⟨_, rfl⟩
      have hw := hw u189 eu189
      refine m_put S hin tyX12_ok nmX12 hI 0 (W12_at0 h r cs u) rfl 43 (Nat.le_of_ble_eq_true rfl) (List.mem_of_getElem? (i := 5) rfl) rfl rfl rfl rfl (Nat.le_of_ble_eq_true rfl) (W12_sI43 h r cs u u189 y188 eu189) dX12_goTold_189 (fun H locs hI => ?_)
      refine lv_iload_n S.1 S.2.1 dX12_goTold_192 rfl (lv_at hl 3 rfl) ?_
      refine lv_iconst (v := 1) S.1 S.2.1 dX12_goTold_193 (by decide) ?_
      refine lv_isub S.1 S.2.1 dX12_goTold_194 ?_
      refine lv_topi (fun y194 ey194 => ?_)
      have hw := hw y194 ey194
      refine lv_aload_n S.1 S.2.1 dX12_goTold_195 rfl (lv_at hl 0 rfl) ?_
      refine m_get S hin hI 0 (W12_at0 h r cs u189) rfl 42 (Nat.le_of_ble_eq_true rfl) (List.mem_of_getElem? (i := 3) rfl) rfl (Ff12_at42 r u189) dX12_goTold_196 ?_
      refine lv_icmp_ge (tgt := 225) S.1 S.2.1 dX12_goTold_199 (by decide) (fun c199 => ?_) (fun c199 => ?_)
      · have hw := hw.1 c199
        exact b225 B32 hB32 x1 x2 u189 hw H locs ls hI (lv_sub hl [0, 1, 2] rfl)
      · have hw := hw.2 c199
        refine lv_aload_n S.1 S.2.1 dX12_goTold_202 rfl (lv_at hl 0 rfl) ?_
        refine lv_iload_n S.1 S.2.1 dX12_goTold_203 rfl (lv_at hl 3 rfl) ?_
        refine lv_iconst (v := 1) S.1 S.2.1 dX12_goTold_204 (by decide) ?_
        refine lv_isub S.1 S.2.1 dX12_goTold_205 ?_
        refine lv_topi (fun y205 ey205 => ?_)
        have hw := hw y205 ey205
        obtain ⟨u206, eu206⟩ : ∃ z : ST, z = sI u189 42 y205 := ⟨_, rfl⟩
        have hw := hw u206 eu206
        refine m_put S hin tyX12_ok nmX12 hI 0 (W12_at0 h r cs u189) rfl 42 (Nat.le_of_ble_eq_true rfl) (List.mem_of_getElem? (i := 3) rfl) rfl rfl rfl rfl (Nat.le_of_ble_eq_true rfl) (W12_sI42 h r cs u189 u206 y205 eu206) dX12_goTold_206 (fun H locs hI => ?_)
        refine lv_goto (tgt := 225) S.1 S.2.1 dX12_goTold_209 (by decide) ?_
        exact b225 B32 hB32 x1 x2 u206 hw H locs ls hI (lv_sub hl [0, 1, 2] rfl)
  have b157 : ∀ (B32 : Int32 → Int32 → ST → Prop), (∀ (x1 : Int32) (x2 : Int32) (u : ST), B32 x1 x2 u → mGo p l e ({ frames := 2, cells := 0, slots := 0, locals := 47 } : Room) s m args below meth c A Z 6 D (mT cs) (W12 h r cs) 32 [(0, .ref h), (1, .int x1), (2, .int x2)] [] u) → ∀ (x1 : Int32) (x2 : Int32) (x3 : Int32) (x4 : Int64) (u : ST), wp_X12_goTold_p157 x1 x2 x3 x4 u B32 Q → mGo p l e ({ frames := 2, cells := 0, slots := 0, locals := 47 } : Room) s m args below meth c A Z 6 D (mT cs) (W12 h r cs) 157 [(0, .ref h), (1, .int x1), (2, .int x2), (3, .int x3), (4, .long x4)] [] u := by
    intro B32 hB32 x1 x2 x3 x4 u hw H locs ls hI hl
    unfold wp_X12_goTold_p157 at hw
    refine lv_aload_n S.1 S.2.1 dX12_goTold_157 rfl (lv_at hl 0 rfl) ?_
    refine lv_iload_n S.1 S.2.1 dX12_goTold_158 rfl (lv_at hl 3 rfl) ?_
    refine m_vi (As := [.int x3]) (rest := []) S (W12_self h r cs) hI rfl (c_X12_isWise l D h r cs x3 u _ hw) (cwV 1 S.2.2.2.2 gX12_goTold_X12_isWise rfl rfl rfl (by decide +kernel) ⟨Nat.le_of_ble_eq_true rfl, Nat.le_of_ble_eq_true rfl⟩) (W12_at0 h r cs u) rfl rfl hl.1 rfl (Nat.le_of_ble_eq_true rfl) dX12_goTold_159 ⟨Nat.zero_le _, Nat.zero_le _⟩ (fun y159 u159 H locs hw hI => ?_)
    refine lv_if_eq (tgt := 175) S.1 S.2.1 dX12_goTold_162 (by decide) (fun c162 => ?_) (fun c162 => ?_)
    · have hw := hw.1 c162
      exact b175 B32 hB32 x1 x2 x3 x4 u159 hw H locs ls hI (lv_sub hl [0, 1, 2, 3, 4] rfl)
    · have hw := hw.2 c162
      refine lv_aload_n S.1 S.2.1 dX12_goTold_165 rfl (lv_at hl 0 rfl) ?_
      refine lv_dup S.1 S.2.1 dX12_goTold_166 rfl ?_
      refine m_get S hin hI 0 (W12_at0 h r cs u159) rfl 44 (Nat.le_of_ble_eq_true rfl) (List.mem_of_getElem? (i := 6) rfl) rfl (Ff12_at44 r u159) dX12_goTold_167 ?_
      refine lv_iconst (v := 1) S.1 S.2.1 dX12_goTold_170 (by decide) ?_
      refine lv_iadd S.1 S.2.1 dX12_goTold_171 ?_
      refine lv_topi (fun y171 ey171 => ?_)
      have hw := hw y171 ey171
      obtain ⟨u172, eu172⟩ : ∃ z : ST, z = sI u159 44 y171 := ⟨_, rfl⟩
      have hw := hw u172 eu172
      refine m_put S hin tyX12_ok nmX12 hI 0 (W12_at0 h r cs u159) rfl 44 (Nat.le_of_ble_eq_true rfl) (List.mem_of_getElem? (i := 6) rfl) rfl rfl rfl rfl (Nat.le_of_ble_eq_true rfl) (W12_sI44 h r cs u159 u172 y171 eu172) dX12_goTold_172 (fun H locs hI => ?_)
      exact b175 B32 hB32 x1 x2 x3 x4 u172 hw H locs ls hI (lv_sub hl [0, 1, 2, 3, 4] rfl)
  have b140 : ∀ (B32 : Int32 → Int32 → ST → Prop), (∀ (x1 : Int32) (x2 : Int32) (u : ST), B32 x1 x2 u → mGo p l e ({ frames := 2, cells := 0, slots := 0, locals := 47 } : Room) s m args below meth c A Z 6 D (mT cs) (W12 h r cs) 32 [(0, .ref h), (1, .int x1), (2, .int x2)] [] u) → ∀ (x1 : Int32) (x2 : Int32) (x3 : Int32) (x4 : Int64) (u : ST), wp_X12_goTold_p140 x1 x2 x3 x4 u B32 Q → mGo p l e ({ frames := 2, cells := 0, slots := 0, locals := 47 } : Room) s m args below meth c A Z 6 D (mT cs) (W12 h r cs) 140 [(0, .ref h), (1, .int x1), (2, .int x2), (3, .int x3), (4, .long x4)] [] u := by
    intro B32 hB32 x1 x2 x3 x4 u hw H locs ls hI hl
    unfold wp_X12_goTold_p140 at hw
    refine lv_lload S.1 S.2.1 dX12_goTold_140 (lv_at hl 4 rfl) ?_
    refine lv_lconst (v := 0) S.1 S.2.1 dX12_goTold_142 (by decide) ?_
    refine W.lcmp S.1 S.2.1 dX12_goTold_143 ?_
    refine lv_topi (fun y143 ey143 => ?_)
    have hw := hw y143 ey143
    refine lv_if_ne (tgt := 157) S.1 S.2.1 dX12_goTold_144 (by decide) (fun c144 => ?_) (fun c144 => ?_)
    · have hw := hw.1 c144
      exact b157 B32 hB32 x1 x2 x3 x4 u hw H locs ls hI (lv_sub hl [0, 1, 2, 3, 4] rfl)
    · have hw := hw.2 c144
      refine lv_iload_n S.1 S.2.1 dX12_goTold_147 rfl (lv_at hl 3 rfl) ?_
      refine lv_aload_n S.1 S.2.1 dX12_goTold_148 rfl (lv_at hl 0 rfl) ?_
      refine m_get S hin hI 0 (W12_at0 h r cs u) rfl 42 (Nat.le_of_ble_eq_true rfl) (List.mem_of_getElem? (i := 3) rfl) rfl (Ff12_at42 r u) dX12_goTold_149 ?_
      refine lv_icmp_le (tgt := 157) S.1 S.2.1 dX12_goTold_152 (by decide) (fun c152 => ?_) (fun c152 => ?_)
      · have hw := hw.1 c152
        exact b157 B32 hB32 x1 x2 x3 x4 u hw H locs ls hI (lv_sub hl [0, 1, 2, 3, 4] rfl)
      · have hw := hw.2 c152
        exact b155 x2 u hw H locs ls hI (lv_sub hl [0, 2] rfl)
  have b32b : ∀ (B32 : Int32 → Int32 → ST → Prop), (∀ (x1 : Int32) (x2 : Int32) (u : ST), B32 x1 x2 u → mGo p l e ({ frames := 2, cells := 0, slots := 0, locals := 47 } : Room) s m args below meth c A Z 6 D (mT cs) (W12 h r cs) 32 [(0, .ref h), (1, .int x1), (2, .int x2)] [] u) → ∀ (x1 : Int32) (x2 : Int32) (u : ST), wp_X12_goTold_p32b x1 x2 u B32 Q → mGo p l e ({ frames := 2, cells := 0, slots := 0, locals := 47 } : Room) s m args below meth c A Z 6 D (mT cs) (W12 h r cs) 32 [(0, .ref h), (1, .int x1), (2, .int x2)] [] u := by
    intro B32 hB32 x1 x2 u hw H locs ls hI hl
    unfold wp_X12_goTold_p32b at hw
    refine lv_iconst (v := 2) S.1 S.2.1 dX12_goTold_32 (by decide) ?_
    refine lv_iload_n S.1 S.2.1 dX12_goTold_33 rfl (lv_at hl 2 rfl) ?_
    refine lv_imul S.1 S.2.1 dX12_goTold_34 ?_
    refine lv_topi (fun y34 ey34 => ?_)
    have hw := hw y34 ey34
    refine lv_aload_n S.1 S.2.1 dX12_goTold_35 rfl (lv_at hl 0 rfl) ?_
    refine m_get S hin hI 0 (W12_at0 h r cs u) rfl 54 (Nat.le_of_ble_eq_true rfl) (List.mem_of_getElem? (i := 7) rfl) rfl (Ff12_at54 r u) dX12_goTold_36 ?_
    refine lv_iload_n S.1 S.2.1 dX12_goTold_39 rfl (lv_at hl 1 rfl) ?_
    refine m_iald S hI 27 0 (W12_at27 h r cs u) rfl hw.1 dX12_goTold_40 ?_
    refine lv_topi (fun y40 ey40 => ?_)
    have hw := hw.2 y40 ey40
    refine lv_icmp_ge (tgt := 231) S.1 S.2.1 dX12_goTold_41 (by decide) (fun c41 => ?_) (fun c41 => ?_)
    · have hw := hw.1 c41
      refine lv_bipush (v := (-2)) S.1 S.2.1 dX12_goTold_231 (by decide) ?_
      subst hZ
      exact m_iret S hr hlocks hI hw dX12_goTold_233
    · have hw := hw.2 c41
      refine lv_iconst (v := 2) S.1 S.2.1 dX12_goTold_44 (by decide) ?_
      refine lv_iload_n S.1 S.2.1 dX12_goTold_45 rfl (lv_at hl 2 rfl) ?_
      refine lv_imul S.1 S.2.1 dX12_goTold_46 ?_
      refine lv_topi (fun y46 ey46 => ?_)
      have hw := hw y46 ey46
      refine lv_iconst (v := 1) S.1 S.2.1 dX12_goTold_47 (by decide) ?_
      refine lv_iadd S.1 S.2.1 dX12_goTold_48 ?_
      refine lv_topi (fun y48 ey48 => ?_)
      have hw := hw y48 ey48
      refine lv_aload_n S.1 S.2.1 dX12_goTold_49 rfl (lv_at hl 0 rfl) ?_
      refine m_get S hin hI 0 (W12_at0 h r cs u) rfl 54 (Nat.le_of_ble_eq_true rfl) (List.mem_of_getElem? (i := 7) rfl) rfl (Ff12_at54 r u) dX12_goTold_50 ?_
      refine lv_iload_n S.1 S.2.1 dX12_goTold_53 rfl (lv_at hl 1 rfl) ?_
      refine m_iald S hI 27 0 (W12_at27 h r cs u) rfl hw.1 dX12_goTold_54 ?_
      refine lv_topi (fun y54 ey54 => ?_)
      have hw := hw.2 y54 ey54
      refine lv_icmp_ge (tgt := 65) S.1 S.2.1 dX12_goTold_55 (by decide) (fun c55 => ?_) (fun c55 => ?_)
      · have hw := hw.1 c55
        exact b65 x2 u hw H locs ls hI (lv_sub hl [0, 2] rfl)
      · have hw := hw.2 c55
        refine lv_aload_n S.1 S.2.1 dX12_goTold_58 rfl (lv_at hl 0 rfl) ?_
        refine m_get S hin hI 0 (W12_at0 h r cs u) rfl 43 (Nat.le_of_ble_eq_true rfl) (List.mem_of_getElem? (i := 5) rfl) rfl (Ff12_at43 r u) dX12_goTold_59 ?_
        refine lv_if_ne (tgt := 67) S.1 S.2.1 dX12_goTold_62 (by decide) (fun c62 => ?_) (fun c62 => ?_)
        · have hw := hw.1 c62
          refine lv_aload_n S.1 S.2.1 dX12_goTold_67 rfl (lv_at hl 0 rfl) ?_
          refine m_get S hin hI 0 (W12_at0 h r cs u) rfl 55 (Nat.le_of_ble_eq_true rfl) (List.mem_of_getElem? (i := 8) rfl) rfl (Ff12_at55 r u) dX12_goTold_68 ?_
          refine lv_bipush (v := 60) S.1 S.2.1 dX12_goTold_71 (by decide) ?_
          refine lv_iload_n S.1 S.2.1 dX12_goTold_73 rfl (lv_at hl 1 rfl) ?_
          refine lv_imul S.1 S.2.1 dX12_goTold_74 ?_
          refine lv_topi (fun y74 ey74 => ?_)
          have hw := hw y74 ey74
          refine lv_iconst (v := 2) S.1 S.2.1 dX12_goTold_75 (by decide) ?_
          refine lv_iload_n S.1 S.2.1 dX12_goTold_76 rfl (lv_at hl 2 rfl) ?_
          refine lv_imul S.1 S.2.1 dX12_goTold_77 ?_
          refine lv_topi (fun y77 ey77 => ?_)
          have hw := hw y77 ey77
          refine lv_iadd S.1 S.2.1 dX12_goTold_78 ?_
          refine lv_topi (fun y78 ey78 => ?_)
          have hw := hw y78 ey78
          refine m_lald S hI 28 3 (W12_at28 h r cs u) rfl hw.1 dX12_goTold_79 ?_
          refine lv_topl (fun y79 ey79 => ?_)
          have hw := hw.2 y79 ey79
          refine lv_l2i S.1 S.2.1 dX12_goTold_80 rfl ?_
          refine lv_topi (fun y80 ey80 => ?_)
          have hw := hw y80 ey80
          refine lv_istore_n (lv' := [(3, .int y80), (0, .ref h), (1, .int x1), (2, .int x2)]) S.1 S.2.1 dX12_goTold_81 rfl hl (by decide) rfl (fun ls hl => ?_)
          refine lv_aload_n S.1 S.2.1 dX12_goTold_82 rfl (lv_at hl 1 rfl) ?_
          refine m_get S hin hI 0 (W12_at0 h r cs u) rfl 55 (Nat.le_of_ble_eq_true rfl) (List.mem_of_getElem? (i := 8) rfl) rfl (Ff12_at55 r u) dX12_goTold_83 ?_
          refine lv_bipush (v := 60) S.1 S.2.1 dX12_goTold_86 (by decide) ?_
          refine lv_iload_n S.1 S.2.1 dX12_goTold_88 rfl (lv_at hl 2 rfl) ?_
          refine lv_imul S.1 S.2.1 dX12_goTold_89 ?_
          refine lv_topi (fun y89 ey89 => ?_)
          have hw := hw y89 ey89
          refine lv_iconst (v := 2) S.1 S.2.1 dX12_goTold_90 (by decide) ?_
          refine lv_iload_n S.1 S.2.1 dX12_goTold_91 rfl (lv_at hl 3 rfl) ?_
          refine lv_imul S.1 S.2.1 dX12_goTold_92 ?_
          refine lv_topi (fun y92 ey92 => ?_)
          have hw := hw y92 ey92
          refine lv_iadd S.1 S.2.1 dX12_goTold_93 ?_
          refine lv_topi (fun y93 ey93 => ?_)
          have hw := hw y93 ey93
          refine lv_iconst (v := 1) S.1 S.2.1 dX12_goTold_94 (by decide) ?_
          refine lv_iadd S.1 S.2.1 dX12_goTold_95 ?_
          refine lv_topi (fun y95 ey95 => ?_)
          have hw := hw y95 ey95
          refine m_lald S hI 28 3 (W12_at28 h r cs u) rfl hw.1 dX12_goTold_96 ?_
          refine lv_topl (fun y96 ey96 => ?_)
          have hw := hw.2 y96 ey96
          refine lv_lstore (lv' := [(4, .long y96), (3, .int y80), (0, .ref h), (1, .int x1), (2, .int x2)]) S.1 S.2.1 dX12_goTold_97 hl (by decide) rfl (fun ls hl => ?_)
          refine lv_iload_n S.1 S.2.1 dX12_goTold_99 rfl (lv_at hl 1 rfl) ?_
          refine lv_iconst (v := 1) S.1 S.2.1 dX12_goTold_100 (by decide) ?_
          refine lv_aload_n S.1 S.2.1 dX12_goTold_101 rfl (lv_at hl 2 rfl) ?_
          refine m_get S hin hI 0 (W12_at0 h r cs u) rfl 1 (Nat.le_of_ble_eq_true rfl) (List.mem_of_getElem? (i := 2) rfl) rfl (Ff12_at1 r u) dX12_goTold_102 ?_
          refine m_si (As := [.int y80, .int (1 : Int32), .int (gI u 1)]) (rest := []) S hI.2.2.2.1.2.1 (c_X12_in l y80 (1 : Int32) (gI u 1) _ hw) (va_cwS 3 S.2.2.2.2 gX12_goTold_X12_in rfl rfl rfl (by decide +kernel) ⟨Nat.le_of_ble_eq_true rfl, Nat.le_of_ble_eq_true rfl⟩) rfl hl.1 rfl (Nat.le_of_ble_eq_true rfl) dX12_goTold_105 ⟨Nat.zero_le _, Nat.zero_le _⟩ (fun y105 hw => ?_)
          refine lv_if_eq (tgt := 155) S.1 S.2.1 dX12_goTold_108 (by decide) (fun c108 => ?_) (fun c108 => ?_)
          · have hw := hw.1 c108
            exact b155 x2 u hw H locs ls hI (lv_sub hl [2, 4] rfl)
          · have hw := hw.2 c108
            refine lv_lload S.1 S.2.1 dX12_goTold_111 (lv_at hl 0 rfl) ?_
            refine lv_lconst (v := 0) S.1 S.2.1 dX12_goTold_113 (by decide) ?_
            refine W.lcmp S.1 S.2.1 dX12_goTold_114 ?_
            refine lv_topi (fun y114 ey114 => ?_)
            have hw := hw y114 ey114
            refine lv_if_lt (tgt := 155) S.1 S.2.1 dX12_goTold_115 (by decide) (fun c115 => ?_) (fun c115 => ?_)
            · have hw := hw.1 c115
              exact b155 x2 u hw H locs ls hI (lv_sub hl [2, 4] rfl)
            · have hw := hw.2 c115
              refine lv_lload S.1 S.2.1 dX12_goTold_118 (lv_at hl 0 rfl) ?_
              refine lv_lconst (v := 1) S.1 S.2.1 dX12_goTold_120 (by decide) ?_
              refine W.lcmp S.1 S.2.1 dX12_goTold_121 ?_
              refine lv_topi (fun y121 ey121 => ?_)
              have hw := hw y121 ey121
              refine lv_if_gt (tgt := 155) S.1 S.2.1 dX12_goTold_122 (by decide) (fun c122 => ?_) (fun c122 => ?_)
              · have hw := hw.1 c122
                exact b155 x2 u hw H locs ls hI (lv_sub hl [2, 4] rfl)
              · have hw := hw.2 c122
                refine lv_lload S.1 S.2.1 dX12_goTold_125 (lv_at hl 0 rfl) ?_
                refine lv_lconst (v := 1) S.1 S.2.1 dX12_goTold_127 (by decide) ?_
                refine W.lcmp S.1 S.2.1 dX12_goTold_128 ?_
                refine lv_topi (fun y128 ey128 => ?_)
                have hw := hw y128 ey128
                refine lv_if_ne (tgt := 140) S.1 S.2.1 dX12_goTold_129 (by decide) (fun c129 => ?_) (fun c129 => ?_)
                · have hw := hw.1 c129
                  exact b140 B32 hB32 x1 x2 y80 y96 u hw H locs ls hI (lv_sub hl [2, 3, 4, 1, 0] rfl)
                · have hw := hw.2 c129
                  refine lv_iload_n S.1 S.2.1 dX12_goTold_132 rfl (lv_at hl 1 rfl) ?_
                  refine lv_aload_n S.1 S.2.1 dX12_goTold_133 rfl (lv_at hl 2 rfl) ?_
                  refine m_get S hin hI 0 (W12_at0 h r cs u) rfl 41 (Nat.le_of_ble_eq_true rfl) (List.mem_of_getElem? (i := 1) rfl) rfl (Ff12_at41 r u) dX12_goTold_134 ?_
                  refine lv_icmp_le (tgt := 155) S.1 S.2.1 dX12_goTold_137 (by decide) (fun c137 => ?_) (fun c137 => ?_)
                  · have hw := hw.1 c137
                    exact b155 x2 u hw H locs ls hI (lv_sub hl [2, 4] rfl)
                  · have hw := hw.2 c137
                    exact b140 B32 hB32 x1 x2 y80 y96 u hw H locs ls hI (lv_sub hl [2, 3, 4, 1, 0] rfl)
        · have hw := hw.2 c62
          exact b65 x2 u hw H locs ls hI (lv_sub hl [0, 2] rfl)
  have b32 : ∀ (x1 : Int32) (x2 : Int32) (u : ST), wp_X12_goTold_p32 x1 x2 u Q → mGo p l e ({ frames := 2, cells := 0, slots := 0, locals := 47 } : Room) s m args below meth c A Z 6 D (mT cs) (W12 h r cs) 32 [(0, .ref h), (1, .int x1), (2, .int x2)] [] u := by
    intro x1 x2 u hw
    obtain ⟨I, μ, h0, hs⟩ := hw
    have key : ∀ (n : Nat) (x1 : Int32) (x2 : Int32) (u : ST), μ x1 x2 u = n → I x1 x2 u → mGo p l e ({ frames := 2, cells := 0, slots := 0, locals := 47 } : Room) s m args below meth c A Z 6 D (mT cs) (W12 h r cs) 32 [(0, .ref h), (1, .int x1), (2, .int x2)] [] u := by
      intro n
      induction n using Nat.strongRecOn with
      | ind n ih =>
        intro x1 x2 u hn hi
        exact b32b (fun yx1 yx2 yu => I yx1 yx2 yu ∧ μ yx1 yx2 yu < μ x1 x2 u) (fun yx1 yx2 yu hb => ih _ (hn ▸ hb.2) yx1 yx2 yu rfl hb.1) x1 x2 u (hs x1 x2 u hi)
    exact key _ x1 x2 u rfl h0
  unfold wp_X12_goTold at hw
  obtain ⟨H, hH⟩ : ∃ z : Heap, z = s.heap := ⟨_, rfl⟩
  obtain ⟨locs, hL⟩ : ∃ z : List Loc, z = [] := ⟨_, rfl⟩
  rw [show W p l e ({ frames := 2, cells := 0, slots := 0, locals := 47 } : Room) s m args below meth c s.heap [] 0 0 Z (F0 m 0 ls []) = W p l e ({ frames := 2, cells := 0, slots := 0, locals := 47 } : Room) s m args below meth c H locs 0 0 Z (F0 m 0 ls []) by rw [hH, hL]]
  replace hI : mI D (mT cs) A s.heap s (W12 h r cs u) H locs := by rw [hH, hL]; exact hI
  refine lv_aload_n S.1 S.2.1 dX12_goTold_0 rfl (lv_at hl 0 rfl) ?_
  refine m_vv (As := []) (rest := []) S (W12_self h r cs) hI rfl (c_X12_findWorst l D h r cs u _ hw) (cwV 0 S.2.2.2.2 gX12_goTold_X12_findWorst rfl rfl rfl (by decide +kernel) ⟨Nat.le_of_ble_eq_true rfl, Nat.le_of_ble_eq_true rfl⟩) (W12_at0 h r cs u) rfl rfl hl.1 rfl (Nat.le_of_ble_eq_true rfl) dX12_goTold_1 ⟨Nat.zero_le _, Nat.zero_le _⟩ (fun u1 H locs hw hI => ?_)
  refine lv_aload_n S.1 S.2.1 dX12_goTold_4 rfl (lv_at hl 0 rfl) ?_
  refine lv_iconst (v := 0) S.1 S.2.1 dX12_goTold_5 (by decide) ?_
  obtain ⟨u6, eu6⟩ : ∃ z : ST, z = sI u1 41 (0 : Int32) := ⟨_, rfl⟩
  have hw := hw u6 eu6
  refine m_put S hin tyX12_ok nmX12 hI 0 (W12_at0 h r cs u1) rfl 41 (Nat.le_of_ble_eq_true rfl) (List.mem_of_getElem? (i := 1) rfl) rfl rfl rfl rfl (Nat.le_of_ble_eq_true rfl) (W12_sI41 h r cs u1 u6 (0 : Int32) eu6) dX12_goTold_6 (fun H locs hI => ?_)
  refine lv_aload_n S.1 S.2.1 dX12_goTold_9 rfl (lv_at hl 0 rfl) ?_
  refine lv_aload_n S.1 S.2.1 dX12_goTold_10 rfl (lv_at hl 0 rfl) ?_
  refine m_get S hin hI 0 (W12_at0 h r cs u6) rfl 1 (Nat.le_of_ble_eq_true rfl) (List.mem_of_getElem? (i := 2) rfl) rfl (Ff12_at1 r u6) dX12_goTold_11 ?_
  obtain ⟨u14, eu14⟩ : ∃ z : ST, z = sI u6 42 (gI u6 1) := ⟨_, rfl⟩
  have hw := hw u14 eu14
  refine m_put S hin tyX12_ok nmX12 hI 0 (W12_at0 h r cs u6) rfl 42 (Nat.le_of_ble_eq_true rfl) (List.mem_of_getElem? (i := 3) rfl) rfl rfl rfl rfl (Nat.le_of_ble_eq_true rfl) (W12_sI42 h r cs u6 u14 (gI u6 1) eu14) dX12_goTold_14 (fun H locs hI => ?_)
  refine lv_aload_n S.1 S.2.1 dX12_goTold_17 rfl (lv_at hl 0 rfl) ?_
  refine lv_aload_n S.1 S.2.1 dX12_goTold_18 rfl (lv_at hl 0 rfl) ?_
  refine m_get S hin hI 0 (W12_at0 h r cs u14) rfl 2 (Nat.le_of_ble_eq_true rfl) (List.mem_of_getElem? (i := 4) rfl) rfl (Ff12_at2 r u14) dX12_goTold_19 ?_
  obtain ⟨u22, eu22⟩ : ∃ z : ST, z = sI u14 43 (gI u14 2) := ⟨_, rfl⟩
  have hw := hw u22 eu22
  refine m_put S hin tyX12_ok nmX12 hI 0 (W12_at0 h r cs u14) rfl 43 (Nat.le_of_ble_eq_true rfl) (List.mem_of_getElem? (i := 5) rfl) rfl rfl rfl rfl (Nat.le_of_ble_eq_true rfl) (W12_sI43 h r cs u14 u22 (gI u14 2) eu22) dX12_goTold_22 (fun H locs hI => ?_)
  refine lv_aload_n S.1 S.2.1 dX12_goTold_25 rfl (lv_at hl 0 rfl) ?_
  refine lv_iconst (v := 0) S.1 S.2.1 dX12_goTold_26 (by decide) ?_
  obtain ⟨u27, eu27⟩ : ∃ z : ST, z = sI u22 44 (0 : Int32) := ⟨_, rfl⟩
  have hw := hw u27 eu27
  refine m_put S hin tyX12_ok nmX12 hI 0 (W12_at0 h r cs u22) rfl 44 (Nat.le_of_ble_eq_true rfl) (List.mem_of_getElem? (i := 6) rfl) rfl rfl rfl rfl (Nat.le_of_ble_eq_true rfl) (W12_sI44 h r cs u22 u27 (0 : Int32) eu27) dX12_goTold_27 (fun H locs hI => ?_)
  refine lv_iconst (v := 0) S.1 S.2.1 dX12_goTold_30 (by decide) ?_
  refine lv_istore_n (lv' := [(2, .int (0 : Int32)), (0, .ref h), (1, .int a1)]) S.1 S.2.1 dX12_goTold_31 rfl hl (by decide) rfl (fun ls hl => ?_)
  exact b32 a1 (0 : Int32) u27 hw H locs ls hI (lv_sub hl [1, 2, 0] rfl)

def wp_X12_isShelf (a0 : Int32) (Q : Int32 → Prop) : Prop :=
  (wp_X12_in a0 (0 : Int32) (5 : Int32) (fun y3 => y3 &&& 1 = y3 ∧ Q y3))
set_option maxHeartbeats 4000000 in
set_option maxRecDepth 100000 in
theorem c_X12_isShelf (l : Launch) (a0 : Int32) (Q : Int32 → Prop) (hw : wp_X12_isShelf a0 Q) : mTi l yX12_isShelf wsX12_isShelf ({ frames := 1, cells := 0, slots := 0, locals := 22 } : Room) [.int a0] Q := by
  refine m_enterT (cc := cX12_isShelf) (maxL := 1) (ret := (some .boolean)) (by decide) rfl (Nat.le_of_ble_eq_true rfl) ?_
  intro p e s m args below meth c ls S hr hlocks hname hl hN
  have S : CallFix p m c cX12_isShelf 1 s args wsX12_isShelf RX12 := S
  generalize hZ : MQ below (vp_Si Q) args s 0 0 (fun _ => False) = Z
  have hl : lv_has ls 1 [(0, .int a0)] := hl
  unfold wp_X12_isShelf at hw
  refine lv_iload_n S.1 S.2.1 dX12_isShelf_0 rfl (lv_at hl 0 rfl) ?_
  refine lv_iconst (v := 0) S.1 S.2.1 dX12_isShelf_1 (by decide) ?_
  refine lv_iconst (v := 5) S.1 S.2.1 dX12_isShelf_2 (by decide) ?_
  refine m_si (As := [.int a0, .int (0 : Int32), .int (5 : Int32)]) (rest := []) S hN (c_X12_in l a0 (0 : Int32) (5 : Int32) _ hw) (va_cwS 3 S.2.2.2.2 gX12_isShelf_X12_in rfl rfl rfl (by decide +kernel) ⟨Nat.le_of_ble_eq_true rfl, Nat.le_of_ble_eq_true rfl⟩) rfl hl.1 rfl (Nat.le_of_ble_eq_true rfl) dX12_isShelf_3 ⟨Nat.zero_le _, Nat.zero_le _⟩ (fun y3 hw => ?_)
  subst hZ
  exact m_tzret S hr hlocks hw.1 hw.2 dX12_isShelf_6

def wp_X12_judge_p30 (t0 : Int32) (u : ST) (Q : Int32 → ST → Prop) : Prop :=
  Q t0 u
def wp_X12_judge (a1 : Int32) (u : ST) (Q : Int32 → ST → Prop) : Prop :=
  (wp_X12_isShelf a1 (fun y1 => ((¬ y1 = 0 → (wp_X12_rowFault a1 u (fun y11 u11 => ((0 ≤ y11 → (wp_X12_goTold a1 u11 (fun y27 u27 => wp_X12_judge_p30 y27 u27 Q))) ∧ (¬ 0 ≤ y11 → (wp_X12_rowFault a1 u11 (fun y19 u19 => wp_X12_judge_p30 y19 u19 Q))))))) ∧ (y1 = 0 → Q ((-1) : Int32) u))))
set_option maxHeartbeats 4000000 in
set_option maxRecDepth 100000 in
theorem c_X12_judge (l : Launch) (D : va_G) (h : Nat) (r : Nat → Nat) (cs : Nat → ClassId) (a1 : Int32) (u : ST) (Q : Int32 → ST → Prop) (hw : wp_X12_judge a1 u Q) : mCi l yX12_judge wsX12_judge ({ frames := 3, cells := 0, slots := 0, locals := 72 } : Room) 0 0 D (mT cs) (W12 h r cs) [.ref h, .int a1] u Q := by
  unfold mCi
  refine m_enter (QQ := fun A => va_Qi Q (mPos D (mT cs) A (W12 h r cs)) A) (cc := cX12_judge) (maxL := 2) (ret := (some .int)) (by decide) rfl (Nat.le_of_ble_eq_true rfl) ?_
  intro p e s m args below meth c A ls S hr hlocks hname hl hI
  have S : CallFix p m c cX12_judge 2 s args wsX12_judge RX12 := S
  show W p l e ({ frames := 3, cells := 0, slots := 0, locals := 72 } : Room) s m args below meth c s.heap [] 0 0 (MQ below (va_Qi Q (mPos D (mT cs) A (W12 h r cs)) A) args s 0 0 A) (F0 m 0 ls [])
  generalize hZ : MQ below (va_Qi Q (mPos D (mT cs) A (W12 h r cs)) A) args s 0 0 A = Z
  have hin : ∀ w ∈ wsX120, w ∈ wsX12_judge := fun _ h => List.mem_cons_of_mem _ (List.mem_append_right _ h)
  have hl : lv_has ls 2 [(0, .ref h), (1, .int a1)] := hl
  have b30 : ∀ (t0 : Int32) (u : ST), wp_X12_judge_p30 t0 u Q → mGo p l e ({ frames := 3, cells := 0, slots := 0, locals := 72 } : Room) s m args below meth c A Z 2 D (mT cs) (W12 h r cs) 30 [(0, .ref h)] [.int t0] u := by
    intro t0 u hw H locs ls hI hl
    unfold wp_X12_judge_p30 at hw
    subst hZ
    exact m_iret S hr hlocks hI hw dX12_judge_30
  unfold wp_X12_judge at hw
  obtain ⟨H, hH⟩ : ∃ z : Heap, z = s.heap := ⟨_, rfl⟩
  obtain ⟨locs, hL⟩ : ∃ z : List Loc, z = [] := ⟨_, rfl⟩
  rw [show W p l e ({ frames := 3, cells := 0, slots := 0, locals := 72 } : Room) s m args below meth c s.heap [] 0 0 Z (F0 m 0 ls []) = W p l e ({ frames := 3, cells := 0, slots := 0, locals := 72 } : Room) s m args below meth c H locs 0 0 Z (F0 m 0 ls []) by rw [hH, hL]]
  replace hI : mI D (mT cs) A s.heap s (W12 h r cs u) H locs := by rw [hH, hL]; exact hI
  refine lv_iload_n S.1 S.2.1 dX12_judge_0 rfl (lv_at hl 1 rfl) ?_
  refine m_si (As := [.int a1]) (rest := []) S hI.2.2.2.1.2.1 (c_X12_isShelf l a1 _ hw) (va_cwS 1 S.2.2.2.2 gX12_judge_X12_isShelf rfl rfl rfl (by decide +kernel) ⟨Nat.le_of_ble_eq_true rfl, Nat.le_of_ble_eq_true rfl⟩) rfl hl.1 rfl (Nat.le_of_ble_eq_true rfl) dX12_judge_1 ⟨Nat.zero_le _, Nat.zero_le _⟩ (fun y1 hw => ?_)
  refine lv_if_ne (tgt := 9) S.1 S.2.1 dX12_judge_4 (by decide) (fun c4 => ?_) (fun c4 => ?_)
  · have hw := hw.1 c4
    refine lv_aload_n S.1 S.2.1 dX12_judge_9 rfl (lv_at hl 0 rfl) ?_
    refine lv_iload_n S.1 S.2.1 dX12_judge_10 rfl (lv_at hl 1 rfl) ?_
    refine m_vi (As := [.int a1]) (rest := []) S (W12_self h r cs) hI rfl (c_X12_rowFault l D h r cs a1 u _ hw) (cwV 1 S.2.2.2.2 gX12_judge_X12_rowFault rfl rfl rfl (by decide +kernel) ⟨Nat.le_of_ble_eq_true rfl, Nat.le_of_ble_eq_true rfl⟩) (W12_at0 h r cs u) rfl rfl hl.1 rfl (Nat.le_of_ble_eq_true rfl) dX12_judge_11 ⟨Nat.zero_le _, Nat.zero_le _⟩ (fun y11 u11 H locs hw hI => ?_)
    refine lv_if_ge (tgt := 25) S.1 S.2.1 dX12_judge_14 (by decide) (fun c14 => ?_) (fun c14 => ?_)
    · have hw := hw.1 c14
      refine lv_aload_n S.1 S.2.1 dX12_judge_25 rfl (lv_at hl 0 rfl) ?_
      refine lv_iload_n S.1 S.2.1 dX12_judge_26 rfl (lv_at hl 1 rfl) ?_
      refine m_vi (As := [.int a1]) (rest := []) S (W12_self h r cs) hI rfl (c_X12_goTold l D h r cs a1 u11 _ hw) (cwV 1 S.2.2.2.2 gX12_judge_X12_goTold rfl rfl rfl (by decide +kernel) ⟨Nat.le_of_ble_eq_true rfl, Nat.le_of_ble_eq_true rfl⟩) (W12_at0 h r cs u11) rfl rfl hl.1 rfl (Nat.le_of_ble_eq_true rfl) dX12_judge_27 ⟨Nat.zero_le _, Nat.zero_le _⟩ (fun y27 u27 H locs hw hI => ?_)
      exact b30 y27 u27 hw H locs ls hI (lv_sub hl [0] rfl)
    · have hw := hw.2 c14
      refine lv_aload_n S.1 S.2.1 dX12_judge_17 rfl (lv_at hl 0 rfl) ?_
      refine lv_iload_n S.1 S.2.1 dX12_judge_18 rfl (lv_at hl 1 rfl) ?_
      refine m_vi (As := [.int a1]) (rest := []) S (W12_self h r cs) hI rfl (c_X12_rowFault l D h r cs a1 u11 _ hw) (cwV 1 S.2.2.2.2 gX12_judge_X12_rowFault rfl rfl rfl (by decide +kernel) ⟨Nat.le_of_ble_eq_true rfl, Nat.le_of_ble_eq_true rfl⟩) (W12_at0 h r cs u11) rfl rfl hl.1 rfl (Nat.le_of_ble_eq_true rfl) dX12_judge_19 ⟨Nat.zero_le _, Nat.zero_le _⟩ (fun y19 u19 H locs hw hI => ?_)
      refine lv_goto (tgt := 30) S.1 S.2.1 dX12_judge_22 (by decide) ?_
      exact b30 y19 u19 hw H locs ls hI (lv_sub hl [0] rfl)
  · have hw := hw.2 c4
    refine lv_iconst (v := (-1)) S.1 S.2.1 dX12_judge_7 (by decide) ?_
    subst hZ
    exact m_iret S hr hlocks hI hw dX12_judge_8

def wp_X12_left_p16 (u : ST) (Q : Int32 → ST → Prop) : Prop :=
  Q ((-1) : Int32) u
def wp_X12_left_p70 (t0 : Int32) (u : ST) (Q : Int32 → ST → Prop) : Prop :=
  Q t0 u
def wp_X12_left (a1 : Int32) (a2 : Int32) (u : ST) (Q : Int32 → ST → Prop) : Prop :=
  (wp_X12_isShelf a1 (fun y1 => ((y1 = 0 → wp_X12_left_p16 u Q) ∧ (¬ y1 = 0 → (wp_X12_in a2 (0 : Int32) (2 : Int32) (fun y10 => ((¬ y10 = 0 → (wp_X12_rowFault a1 u (fun y20 u20 => ((0 ≤ y20 → (wp_X12_goTold a1 u20 (fun y34 u34 => ((y34 < 0 → ((¬ a2 = 0 → ((¬ a2 = (1 : Int32) → wp_X12_left_p70 (gI u34 43) u34 Q) ∧ (a2 = (1 : Int32) → wp_X12_left_p70 (gI u34 42) u34 Q))) ∧ (a2 = 0 → wp_X12_left_p70 (gI u34 41) u34 Q))) ∧ (¬ y34 < 0 → Q ((-5) : Int32) u34))))) ∧ (¬ 0 ≤ y20 → (wp_X12_rowFault a1 u20 (fun y28 u28 => Q y28 u28))))))) ∧ (y10 = 0 → wp_X12_left_p16 u Q))))))))
set_option maxHeartbeats 4000000 in
set_option maxRecDepth 100000 in
theorem c_X12_left (l : Launch) (D : va_G) (h : Nat) (r : Nat → Nat) (cs : Nat → ClassId) (a1 : Int32) (a2 : Int32) (u : ST) (Q : Int32 → ST → Prop) (hw : wp_X12_left a1 a2 u Q) : mCi l yX12_left wsX12_left ({ frames := 3, cells := 0, slots := 0, locals := 72 } : Room) 0 0 D (mT cs) (W12 h r cs) [.ref h, .int a1, .int a2] u Q := by
  unfold mCi
  refine m_enter (QQ := fun A => va_Qi Q (mPos D (mT cs) A (W12 h r cs)) A) (cc := cX12_left) (maxL := 3) (ret := (some .int)) (by decide) rfl (Nat.le_of_ble_eq_true rfl) ?_
  intro p e s m args below meth c A ls S hr hlocks hname hl hI
  have S : CallFix p m c cX12_left 3 s args wsX12_left RX12 := S
  show W p l e ({ frames := 3, cells := 0, slots := 0, locals := 72 } : Room) s m args below meth c s.heap [] 0 0 (MQ below (va_Qi Q (mPos D (mT cs) A (W12 h r cs)) A) args s 0 0 A) (F0 m 0 ls [])
  generalize hZ : MQ below (va_Qi Q (mPos D (mT cs) A (W12 h r cs)) A) args s 0 0 A = Z
  have hin : ∀ w ∈ wsX120, w ∈ wsX12_left := fun _ h => List.mem_cons_of_mem _ (List.mem_append_right _ h)
  have hl : lv_has ls 3 [(0, .ref h), (1, .int a1), (2, .int a2)] := hl
  have b16 : ∀ (u : ST), wp_X12_left_p16 u Q → mGo p l e ({ frames := 3, cells := 0, slots := 0, locals := 72 } : Room) s m args below meth c A Z 3 D (mT cs) (W12 h r cs) 16 [(0, .ref h)] [] u := by
    intro u hw H locs ls hI hl
    unfold wp_X12_left_p16 at hw
    refine lv_iconst (v := (-1)) S.1 S.2.1 dX12_left_16 (by decide) ?_
    subst hZ
    exact m_iret S hr hlocks hI hw dX12_left_17
  have b70 : ∀ (t0 : Int32) (u : ST), wp_X12_left_p70 t0 u Q → mGo p l e ({ frames := 3, cells := 0, slots := 0, locals := 72 } : Room) s m args below meth c A Z 3 D (mT cs) (W12 h r cs) 70 [(0, .ref h)] [.int t0] u := by
    intro t0 u hw H locs ls hI hl
    unfold wp_X12_left_p70 at hw
    subst hZ
    exact m_iret S hr hlocks hI hw dX12_left_70
  unfold wp_X12_left at hw
  obtain ⟨H, hH⟩ : ∃ z : Heap, z = s.heap := ⟨_, rfl⟩
  obtain ⟨locs, hL⟩ : ∃ z : List Loc, z = [] := ⟨_, rfl⟩
  rw [show W p l e ({ frames := 3, cells := 0, slots := 0, locals := 72 } : Room) s m args below meth c s.heap [] 0 0 Z (F0 m 0 ls []) = W p l e ({ frames := 3, cells := 0, slots := 0, locals := 72 } : Room) s m args below meth c H locs 0 0 Z (F0 m 0 ls []) by rw [hH, hL]]
  replace hI : mI D (mT cs) A s.heap s (W12 h r cs u) H locs := by rw [hH, hL]; exact hI
  refine lv_iload_n S.1 S.2.1 dX12_left_0 rfl (lv_at hl 1 rfl) ?_
  refine m_si (As := [.int a1]) (rest := []) S hI.2.2.2.1.2.1 (c_X12_isShelf l a1 _ hw) (va_cwS 1 S.2.2.2.2 gX12_left_X12_isShelf rfl rfl rfl (by decide +kernel) ⟨Nat.le_of_ble_eq_true rfl, Nat.le_of_ble_eq_true rfl⟩) rfl hl.1 rfl (Nat.le_of_ble_eq_true rfl) dX12_left_1 ⟨Nat.zero_le _, Nat.zero_le _⟩ (fun y1 hw => ?_)
  refine lv_if_eq (tgt := 16) S.1 S.2.1 dX12_left_4 (by decide) (fun c4 => ?_) (fun c4 => ?_)
  · have hw := hw.1 c4
    exact b16 u hw H locs ls hI (lv_sub hl [0] rfl)
  · have hw := hw.2 c4
    refine lv_iload_n S.1 S.2.1 dX12_left_7 rfl (lv_at hl 2 rfl) ?_
    refine lv_iconst (v := 0) S.1 S.2.1 dX12_left_8 (by decide) ?_
    refine lv_iconst (v := 2) S.1 S.2.1 dX12_left_9 (by decide) ?_
    refine m_si (As := [.int a2, .int (0 : Int32), .int (2 : Int32)]) (rest := []) S hI.2.2.2.1.2.1 (c_X12_in l a2 (0 : Int32) (2 : Int32) _ hw) (va_cwS 3 S.2.2.2.2 gX12_left_X12_in rfl rfl rfl (by decide +kernel) ⟨Nat.le_of_ble_eq_true rfl, Nat.le_of_ble_eq_true rfl⟩) rfl hl.1 rfl (Nat.le_of_ble_eq_true rfl) dX12_left_10 ⟨Nat.zero_le _, Nat.zero_le _⟩ (fun y10 hw => ?_)
    refine lv_if_ne (tgt := 18) S.1 S.2.1 dX12_left_13 (by decide) (fun c13 => ?_) (fun c13 => ?_)
    · have hw := hw.1 c13
      refine lv_aload_n S.1 S.2.1 dX12_left_18 rfl (lv_at hl 0 rfl) ?_
      refine lv_iload_n S.1 S.2.1 dX12_left_19 rfl (lv_at hl 1 rfl) ?_
      refine m_vi (As := [.int a1]) (rest := []) S (W12_self h r cs) hI rfl (c_X12_rowFault l D h r cs a1 u _ hw) (cwV 1 S.2.2.2.2 gX12_left_X12_rowFault rfl rfl rfl (by decide +kernel) ⟨Nat.le_of_ble_eq_true rfl, Nat.le_of_ble_eq_true rfl⟩) (W12_at0 h r cs u) rfl rfl hl.1 rfl (Nat.le_of_ble_eq_true rfl) dX12_left_20 ⟨Nat.zero_le _, Nat.zero_le _⟩ (fun y20 u20 H locs hw hI => ?_)
      refine lv_if_ge (tgt := 32) S.1 S.2.1 dX12_left_23 (by decide) (fun c23 => ?_) (fun c23 => ?_)
      · have hw := hw.1 c23
        refine lv_aload_n S.1 S.2.1 dX12_left_32 rfl (lv_at hl 0 rfl) ?_
        refine lv_iload_n S.1 S.2.1 dX12_left_33 rfl (lv_at hl 1 rfl) ?_
        refine m_vi (As := [.int a1]) (rest := []) S (W12_self h r cs) hI rfl (c_X12_goTold l D h r cs a1 u20 _ hw) (cwV 1 S.2.2.2.2 gX12_left_X12_goTold rfl rfl rfl (by decide +kernel) ⟨Nat.le_of_ble_eq_true rfl, Nat.le_of_ble_eq_true rfl⟩) (W12_at0 h r cs u20) rfl rfl hl.1 rfl (Nat.le_of_ble_eq_true rfl) dX12_left_34 ⟨Nat.zero_le _, Nat.zero_le _⟩ (fun y34 u34 H locs hw hI => ?_)
        refine lv_if_lt (tgt := 43) S.1 S.2.1 dX12_left_37 (by decide) (fun c37 => ?_) (fun c37 => ?_)
        · have hw := hw.1 c37
          refine lv_iload_n S.1 S.2.1 dX12_left_43 rfl (lv_at hl 2 rfl) ?_
          refine lv_if_ne (tgt := 54) S.1 S.2.1 dX12_left_44 (by decide) (fun c44 => ?_) (fun c44 => ?_)
          · have hw := hw.1 c44
            refine lv_iload_n S.1 S.2.1 dX12_left_54 rfl (lv_at hl 2 rfl) ?_
            refine lv_iconst (v := 1) S.1 S.2.1 dX12_left_55 (by decide) ?_
            refine lv_icmp_ne (tgt := 66) S.1 S.2.1 dX12_left_56 (by decide) (fun c56 => ?_) (fun c56 => ?_)
            · have hw := hw.1 c56
              refine lv_aload_n S.1 S.2.1 dX12_left_66 rfl (lv_at hl 0 rfl) ?_
              refine m_get S hin hI 0 (W12_at0 h r cs u34) rfl 43 (Nat.le_of_ble_eq_true rfl) (List.mem_of_getElem? (i := 3) rfl) rfl (Ff12_at43 r u34) dX12_left_67 ?_
              exact b70 (gI u34 43) u34 hw H locs ls hI (lv_sub hl [0] rfl)
            · have hw := hw.2 c56
              refine lv_aload_n S.1 S.2.1 dX12_left_59 rfl (lv_at hl 0 rfl) ?_
              refine m_get S hin hI 0 (W12_at0 h r cs u34) rfl 42 (Nat.le_of_ble_eq_true rfl) (List.mem_of_getElem? (i := 2) rfl) rfl (Ff12_at42 r u34) dX12_left_60 ?_
              refine lv_goto (tgt := 70) S.1 S.2.1 dX12_left_63 (by decide) ?_
              exact b70 (gI u34 42) u34 hw H locs ls hI (lv_sub hl [0] rfl)
          · have hw := hw.2 c44
            refine lv_aload_n S.1 S.2.1 dX12_left_47 rfl (lv_at hl 0 rfl) ?_
            refine m_get S hin hI 0 (W12_at0 h r cs u34) rfl 41 (Nat.le_of_ble_eq_true rfl) (List.mem_of_getElem? (i := 1) rfl) rfl (Ff12_at41 r u34) dX12_left_48 ?_
            refine lv_goto (tgt := 70) S.1 S.2.1 dX12_left_51 (by decide) ?_
            exact b70 (gI u34 41) u34 hw H locs ls hI (lv_sub hl [0] rfl)
        · have hw := hw.2 c37
          refine lv_bipush (v := (-5)) S.1 S.2.1 dX12_left_40 (by decide) ?_
          subst hZ
          exact m_iret S hr hlocks hI hw dX12_left_42
      · have hw := hw.2 c23
        refine lv_aload_n S.1 S.2.1 dX12_left_26 rfl (lv_at hl 0 rfl) ?_
        refine lv_iload_n S.1 S.2.1 dX12_left_27 rfl (lv_at hl 1 rfl) ?_
        refine m_vi (As := [.int a1]) (rest := []) S (W12_self h r cs) hI rfl (c_X12_rowFault l D h r cs a1 u20 _ hw) (cwV 1 S.2.2.2.2 gX12_left_X12_rowFault rfl rfl rfl (by decide +kernel) ⟨Nat.le_of_ble_eq_true rfl, Nat.le_of_ble_eq_true rfl⟩) (W12_at0 h r cs u20) rfl rfl hl.1 rfl (Nat.le_of_ble_eq_true rfl) dX12_left_28 ⟨Nat.zero_le _, Nat.zero_le _⟩ (fun y28 u28 H locs hw hI => ?_)
        subst hZ
        exact m_iret S hr hlocks hI hw dX12_left_31
    · have hw := hw.2 c13
      exact b16 u hw H locs ls hI (lv_sub hl [0] rfl)

def wp_X12_wise_p40 (t0 : Int32) (u : ST) (Q : Int32 → ST → Prop) : Prop :=
  Q t0 u
def wp_X12_wise (a1 : Int32) (u : ST) (Q : Int32 → ST → Prop) : Prop :=
  (wp_X12_isShelf a1 (fun y1 => ((¬ y1 = 0 → (wp_X12_rowFault a1 u (fun y11 u11 => ((0 ≤ y11 → (wp_X12_goTold a1 u11 (fun y25 u25 => ((y25 < 0 → wp_X12_wise_p40 (gI u25 44) u25 Q) ∧ (¬ y25 < 0 → wp_X12_wise_p40 ((-5) : Int32) u25 Q))))) ∧ (¬ 0 ≤ y11 → (wp_X12_rowFault a1 u11 (fun y19 u19 => Q y19 u19))))))) ∧ (y1 = 0 → Q ((-1) : Int32) u))))
set_option maxHeartbeats 4000000 in
set_option maxRecDepth 100000 in
theorem c_X12_wise (l : Launch) (D : va_G) (h : Nat) (r : Nat → Nat) (cs : Nat → ClassId) (a1 : Int32) (u : ST) (Q : Int32 → ST → Prop) (hw : wp_X12_wise a1 u Q) : mCi l yX12_wise wsX12_wise ({ frames := 3, cells := 0, slots := 0, locals := 72 } : Room) 0 0 D (mT cs) (W12 h r cs) [.ref h, .int a1] u Q := by
  unfold mCi
  refine m_enter (QQ := fun A => va_Qi Q (mPos D (mT cs) A (W12 h r cs)) A) (cc := cX12_wise) (maxL := 2) (ret := (some .int)) (by decide) rfl (Nat.le_of_ble_eq_true rfl) ?_
  intro p e s m args below meth c A ls S hr hlocks hname hl hI
  have S : CallFix p m c cX12_wise 2 s args wsX12_wise RX12 := S
  show W p l e ({ frames := 3, cells := 0, slots := 0, locals := 72 } : Room) s m args below meth c s.heap [] 0 0 (MQ below (va_Qi Q (mPos D (mT cs) A (W12 h r cs)) A) args s 0 0 A) (F0 m 0 ls [])
  generalize hZ : MQ below (va_Qi Q (mPos D (mT cs) A (W12 h r cs)) A) args s 0 0 A = Z
  have hin : ∀ w ∈ wsX120, w ∈ wsX12_wise := fun _ h => List.mem_cons_of_mem _ (List.mem_append_right _ h)
  have hl : lv_has ls 2 [(0, .ref h), (1, .int a1)] := hl
  have b40 : ∀ (t0 : Int32) (u : ST), wp_X12_wise_p40 t0 u Q → mGo p l e ({ frames := 3, cells := 0, slots := 0, locals := 72 } : Room) s m args below meth c A Z 2 D (mT cs) (W12 h r cs) 40 [(0, .ref h)] [.int t0] u := by
    intro t0 u hw H locs ls hI hl
    unfold wp_X12_wise_p40 at hw
    subst hZ
    exact m_iret S hr hlocks hI hw dX12_wise_40
  unfold wp_X12_wise at hw
  obtain ⟨H, hH⟩ : ∃ z : Heap, z = s.heap := ⟨_, rfl⟩
  obtain ⟨locs, hL⟩ : ∃ z : List Loc, z = [] := ⟨_, rfl⟩
  rw [show W p l e ({ frames := 3, cells := 0, slots := 0, locals := 72 } : Room) s m args below meth c s.heap [] 0 0 Z (F0 m 0 ls []) = W p l e ({ frames := 3, cells := 0, slots := 0, locals := 72 } : Room) s m args below meth c H locs 0 0 Z (F0 m 0 ls []) by rw [hH, hL]]
  replace hI : mI D (mT cs) A s.heap s (W12 h r cs u) H locs := by rw [hH, hL]; exact hI
  refine lv_iload_n S.1 S.2.1 dX12_wise_0 rfl (lv_at hl 1 rfl) ?_
  refine m_si (As := [.int a1]) (rest := []) S hI.2.2.2.1.2.1 (c_X12_isShelf l a1 _ hw) (va_cwS 1 S.2.2.2.2 gX12_wise_X12_isShelf rfl rfl rfl (by decide +kernel) ⟨Nat.le_of_ble_eq_true rfl, Nat.le_of_ble_eq_true rfl⟩) rfl hl.1 rfl (Nat.le_of_ble_eq_true rfl) dX12_wise_1 ⟨Nat.zero_le _, Nat.zero_le _⟩ (fun y1 hw => ?_)
  refine lv_if_ne (tgt := 9) S.1 S.2.1 dX12_wise_4 (by decide) (fun c4 => ?_) (fun c4 => ?_)
  · have hw := hw.1 c4
    refine lv_aload_n S.1 S.2.1 dX12_wise_9 rfl (lv_at hl 0 rfl) ?_
    refine lv_iload_n S.1 S.2.1 dX12_wise_10 rfl (lv_at hl 1 rfl) ?_
    refine m_vi (As := [.int a1]) (rest := []) S (W12_self h r cs) hI rfl (c_X12_rowFault l D h r cs a1 u _ hw) (cwV 1 S.2.2.2.2 gX12_wise_X12_rowFault rfl rfl rfl (by decide +kernel) ⟨Nat.le_of_ble_eq_true rfl, Nat.le_of_ble_eq_true rfl⟩) (W12_at0 h r cs u) rfl rfl hl.1 rfl (Nat.le_of_ble_eq_true rfl) dX12_wise_11 ⟨Nat.zero_le _, Nat.zero_le _⟩ (fun y11 u11 H locs hw hI => ?_)
    refine lv_if_ge (tgt := 23) S.1 S.2.1 dX12_wise_14 (by decide) (fun c14 => ?_) (fun c14 => ?_)
    · have hw := hw.1 c14
      refine lv_aload_n S.1 S.2.1 dX12_wise_23 rfl (lv_at hl 0 rfl) ?_
      refine lv_iload_n S.1 S.2.1 dX12_wise_24 rfl (lv_at hl 1 rfl) ?_
      refine m_vi (As := [.int a1]) (rest := []) S (W12_self h r cs) hI rfl (c_X12_goTold l D h r cs a1 u11 _ hw) (cwV 1 S.2.2.2.2 gX12_wise_X12_goTold rfl rfl rfl (by decide +kernel) ⟨Nat.le_of_ble_eq_true rfl, Nat.le_of_ble_eq_true rfl⟩) (W12_at0 h r cs u11) rfl rfl hl.1 rfl (Nat.le_of_ble_eq_true rfl) dX12_wise_25 ⟨Nat.zero_le _, Nat.zero_le _⟩ (fun y25 u25 H locs hw hI => ?_)
      refine lv_if_lt (tgt := 36) S.1 S.2.1 dX12_wise_28 (by decide) (fun c28 => ?_) (fun c28 => ?_)
      · have hw := hw.1 c28
        refine lv_aload_n S.1 S.2.1 dX12_wise_36 rfl (lv_at hl 0 rfl) ?_
        refine m_get S hin hI 0 (W12_at0 h r cs u25) rfl 44 (Nat.le_of_ble_eq_true rfl) (List.mem_of_getElem? (i := 1) rfl) rfl (Ff12_at44 r u25) dX12_wise_37 ?_
        exact b40 (gI u25 44) u25 hw H locs ls hI (lv_sub hl [0] rfl)
      · have hw := hw.2 c28
        refine lv_bipush (v := (-5)) S.1 S.2.1 dX12_wise_31 (by decide) ?_
        refine lv_goto (tgt := 40) S.1 S.2.1 dX12_wise_33 (by decide) ?_
        exact b40 ((-5) : Int32) u25 hw H locs ls hI (lv_sub hl [0] rfl)
    · have hw := hw.2 c14
      refine lv_aload_n S.1 S.2.1 dX12_wise_17 rfl (lv_at hl 0 rfl) ?_
      refine lv_iload_n S.1 S.2.1 dX12_wise_18 rfl (lv_at hl 1 rfl) ?_
      refine m_vi (As := [.int a1]) (rest := []) S (W12_self h r cs) hI rfl (c_X12_rowFault l D h r cs a1 u11 _ hw) (cwV 1 S.2.2.2.2 gX12_wise_X12_rowFault rfl rfl rfl (by decide +kernel) ⟨Nat.le_of_ble_eq_true rfl, Nat.le_of_ble_eq_true rfl⟩) (W12_at0 h r cs u11) rfl rfl hl.1 rfl (Nat.le_of_ble_eq_true rfl) dX12_wise_19 ⟨Nat.zero_le _, Nat.zero_le _⟩ (fun y19 u19 H locs hw hI => ?_)
      subst hZ
      exact m_iret S hr hlocks hI hw dX12_wise_22
  · have hw := hw.2 c4
    refine lv_iconst (v := (-1)) S.1 S.2.1 dX12_wise_7 (by decide) ?_
    subst hZ
    exact m_iret S hr hlocks hI hw dX12_wise_8

def wp_X12_drawHeight_p36b (x1 : Int32) (x2 : Int32) (u : ST) (B36 : Int32 → Int32 → ST → Prop) (Q : Int32 → ST → Prop) : Prop :=
  (∀ y43 : Int32, y43 = x2 + (1 : Int32) → (vp_in y43 62 ∧ ∀ y44 : Int32, y44 = gA u 30 y43.toNatClampNeg → ((x1 < y44 → Q x2 u) ∧ (¬ x1 < y44 → (∀ y48 : Int32, y48 = x2 + 1 → B36 x1 y48 u)))))
def wp_X12_drawHeight_p36 (x1 : Int32) (x2 : Int32) (u : ST) (Q : Int32 → ST → Prop) : Prop := ∃ (I : Int32 → Int32 → ST → Prop) (μ : Int32 → Int32 → ST → Nat), I x1 x2 u ∧ ∀ (x1 : Int32) (x2 : Int32) (u : ST), I x1 x2 u → wp_X12_drawHeight_p36b x1 x2 u (fun yx1 yx2 yu => I yx1 yx2 yu ∧ μ yx1 yx2 yu < μ x1 x2 u) Q
def wp_X12_drawHeight (u : ST) (Q : Int32 → ST → Prop) : Prop :=
  (∀ y8 : Int32, y8 = (gI u 45) * (1103515245 : Int32) → (∀ y12 : Int32, y12 = y8 + (12345 : Int32) → (∀ u13 : ST, u13 = sI u 45 y12 → (∀ y22 : Int32, y22 = ((gI u13 45).toUInt32 >>> ((8 : Int32).toUInt32 &&& Int32.toUInt32 31)).toInt32 → (wp_X12_findWeights (0 : Int32) (gI u13 1) u13 (fun y29 u29 => (¬ y29 = 0 ∧ ∀ y32 : Int32, y32 = y22 - y22 / y29 * y29 → wp_X12_drawHeight_p36 y32 (0 : Int32) u29 Q)))))))
set_option maxHeartbeats 4000000 in
set_option maxRecDepth 100000 in
theorem c_X12_drawHeight (l : Launch) (D : va_G) (h : Nat) (r : Nat → Nat) (cs : Nat → ClassId) (u : ST) (Q : Int32 → ST → Prop) (hw : wp_X12_drawHeight u Q) : mCi l yX12_drawHeight wsX12_drawHeight ({ frames := 5, cells := 0, slots := 0, locals := 117 } : Room) 0 0 D (mT cs) (W12 h r cs) [.ref h] u Q := by
  unfold mCi
  refine m_enter (QQ := fun A => va_Qi Q (mPos D (mT cs) A (W12 h r cs)) A) (cc := cX12_drawHeight) (maxL := 3) (ret := (some .int)) (by decide) rfl (Nat.le_of_ble_eq_true rfl) ?_
  intro p e s m args below meth c A ls S hr hlocks hname hl hI
  have S : CallFix p m c cX12_drawHeight 3 s args wsX12_drawHeight RX12 := S
  show W p l e ({ frames := 5, cells := 0, slots := 0, locals := 117 } : Room) s m args below meth c s.heap [] 0 0 (MQ below (va_Qi Q (mPos D (mT cs) A (W12 h r cs)) A) args s 0 0 A) (F0 m 0 ls [])
  generalize hZ : MQ below (va_Qi Q (mPos D (mT cs) A (W12 h r cs)) A) args s 0 0 A = Z
  have hin : ∀ w ∈ wsX120, w ∈ wsX12_drawHeight := fun _ h => List.mem_cons_of_mem _ (List.mem_append_right _ h)
  have hl : lv_has ls 3 [(0, .ref h)] := hl
  have b36b : ∀ (B36 : Int32 → Int32 → ST → Prop), (∀ (x1 : Int32) (x2 : Int32) (u : ST), B36 x1 x2 u → mGo p l e ({ frames := 5, cells := 0, slots := 0, locals := 117 } : Room) s m args below meth c A Z 3 D (mT cs) (W12 h r cs) 36 [(0, .ref h), (1, .int x1), (2, .int x2)] [] u) → ∀ (x1 : Int32) (x2 : Int32) (u : ST), wp_X12_drawHeight_p36b x1 x2 u B36 Q → mGo p l e ({ frames := 5, cells := 0, slots := 0, locals := 117 } : Room) s m args below meth c A Z 3 D (mT cs) (W12 h r cs) 36 [(0, .ref h), (1, .int x1), (2, .int x2)] [] u := by
    intro B36 hB36 x1 x2 u hw H locs ls hI hl
    unfold wp_X12_drawHeight_p36b at hw
    refine lv_iload_n S.1 S.2.1 dX12_drawHeight_36 rfl (lv_at hl 1 rfl) ?_
    refine lv_aload_n S.1 S.2.1 dX12_drawHeight_37 rfl (lv_at hl 0 rfl) ?_
    refine m_get S hin hI 0 (W12_at0 h r cs u) rfl 30 (Nat.le_of_ble_eq_true rfl) (List.mem_of_getElem? (i := 4) rfl) rfl (Ff12_at30 r u) dX12_drawHeight_38 ?_
    refine lv_iload_n S.1 S.2.1 dX12_drawHeight_41 rfl (lv_at hl 2 rfl) ?_
    refine lv_iconst (v := 1) S.1 S.2.1 dX12_drawHeight_42 (by decide) ?_
    refine lv_iadd S.1 S.2.1 dX12_drawHeight_43 ?_
    refine lv_topi (fun y43 ey43 => ?_)
    have hw := hw y43 ey43
    refine m_iald S hI 17 0 (W12_at17 h r cs u) rfl hw.1 dX12_drawHeight_44 ?_
    refine lv_topi (fun y44 ey44 => ?_)
    have hw := hw.2 y44 ey44
    refine lv_icmp_lt (tgt := 54) S.1 S.2.1 dX12_drawHeight_45 (by decide) (fun c45 => ?_) (fun c45 => ?_)
    · have hw := hw.1 c45
      refine lv_iload_n S.1 S.2.1 dX12_drawHeight_54 rfl (lv_at hl 2 rfl) ?_
      subst hZ
      exact m_iret S hr hlocks hI hw dX12_drawHeight_55
    · have hw := hw.2 c45
      obtain ⟨y48, ey48⟩ : ∃ z : Int32, z = x2 + 1 := ⟨_, rfl⟩
      have hw := hw y48 ey48
      refine lv_iinc (v := y48) (lv' := [(2, .int y48), (0, .ref h), (1, .int x1)]) S.1 S.2.1 dX12_drawHeight_48 hl (k := 2) rfl (by rw [ey48]; rfl) (by decide) rfl (fun ls hl => ?_)
      refine lv_goto (tgt := 36) S.1 S.2.1 dX12_drawHeight_51 (by decide) ?_
      exact hB36 x1 y48 u hw H locs ls hI (lv_sub hl [1, 2, 0] rfl)
  have b36 : ∀ (x1 : Int32) (x2 : Int32) (u : ST), wp_X12_drawHeight_p36 x1 x2 u Q → mGo p l e ({ frames := 5, cells := 0, slots := 0, locals := 117 } : Room) s m args below meth c A Z 3 D (mT cs) (W12 h r cs) 36 [(0, .ref h), (1, .int x1), (2, .int x2)] [] u := by
    intro x1 x2 u hw
    obtain ⟨I, μ, h0, hs⟩ := hw
    have key : ∀ (n : Nat) (x1 : Int32) (x2 : Int32) (u : ST), μ x1 x2 u = n → I x1 x2 u → mGo p l e ({ frames := 5, cells := 0, slots := 0, locals := 117 } : Room) s m args below meth c A Z 3 D (mT cs) (W12 h r cs) 36 [(0, .ref h), (1, .int x1), (2, .int x2)] [] u := by
      intro n
      induction n using Nat.strongRecOn with
      | ind n ih =>
        intro x1 x2 u hn hi
        exact b36b (fun yx1 yx2 yu => I yx1 yx2 yu ∧ μ yx1 yx2 yu < μ x1 x2 u) (fun yx1 yx2 yu hb => ih _ (hn ▸ hb.2) yx1 yx2 yu rfl hb.1) x1 x2 u (hs x1 x2 u hi)
    exact key _ x1 x2 u rfl h0
  unfold wp_X12_drawHeight at hw
  obtain ⟨H, hH⟩ : ∃ z : Heap, z = s.heap := ⟨_, rfl⟩
  obtain ⟨locs, hL⟩ : ∃ z : List Loc, z = [] := ⟨_, rfl⟩
  rw [show W p l e ({ frames := 5, cells := 0, slots := 0, locals := 117 } : Room) s m args below meth c s.heap [] 0 0 Z (F0 m 0 ls []) = W p l e ({ frames := 5, cells := 0, slots := 0, locals := 117 } : Room) s m args below meth c H locs 0 0 Z (F0 m 0 ls []) by rw [hH, hL]]
  replace hI : mI D (mT cs) A s.heap s (W12 h r cs u) H locs := by rw [hH, hL]; exact hI
  refine lv_aload_n S.1 S.2.1 dX12_drawHeight_0 rfl (lv_at hl 0 rfl) ?_
  refine lv_aload_n S.1 S.2.1 dX12_drawHeight_1 rfl (lv_at hl 0 rfl) ?_
  refine m_get S hin hI 0 (W12_at0 h r cs u) rfl 45 (Nat.le_of_ble_eq_true rfl) (List.mem_of_getElem? (i := 1) rfl) rfl (Ff12_at45 r u) dX12_drawHeight_2 ?_
  refine lv_ldcw S.1 S.2.1 S.2.2.2.1 (S.2.2.2.2 _ (List.mem_of_getElem? (i := 2) rfl)) dX12_drawHeight_5 ?_
  refine lv_imul S.1 S.2.1 dX12_drawHeight_8 ?_
  refine lv_topi (fun y8 ey8 => ?_)
  have hw := hw y8 ey8
  refine lv_sipush (v := 12345) S.1 S.2.1 dX12_drawHeight_9 (by decide) ?_
  refine lv_iadd S.1 S.2.1 dX12_drawHeight_12 ?_
  refine lv_topi (fun y12 ey12 => ?_)
  have hw := hw y12 ey12
  obtain ⟨u13, eu13⟩ : ∃ z : ST, z = sI u 45 y12 := ⟨_, rfl⟩
  have hw := hw u13 eu13
  refine m_put S hin tyX12_ok nmX12 hI 0 (W12_at0 h r cs u) rfl 45 (Nat.le_of_ble_eq_true rfl) (List.mem_of_getElem? (i := 1) rfl) rfl rfl rfl rfl (Nat.le_of_ble_eq_true rfl) (W12_sI45 h r cs u u13 y12 eu13) dX12_drawHeight_13 (fun H locs hI => ?_)
  refine lv_aload_n S.1 S.2.1 dX12_drawHeight_16 rfl (lv_at hl 0 rfl) ?_
  refine m_get S hin hI 0 (W12_at0 h r cs u13) rfl 45 (Nat.le_of_ble_eq_true rfl) (List.mem_of_getElem? (i := 1) rfl) rfl (Ff12_at45 r u13) dX12_drawHeight_17 ?_
  refine lv_bipush (v := 8) S.1 S.2.1 dX12_drawHeight_20 (by decide) ?_
  refine lv_iushr S.1 S.2.1 dX12_drawHeight_22 rfl ?_
  refine lv_topi (fun y22 ey22 => ?_)
  have hw := hw y22 ey22
  refine lv_aload_n S.1 S.2.1 dX12_drawHeight_23 rfl (lv_at hl 0 rfl) ?_
  refine lv_iconst (v := 0) S.1 S.2.1 dX12_drawHeight_24 (by decide) ?_
  refine lv_aload_n S.1 S.2.1 dX12_drawHeight_25 rfl (lv_at hl 0 rfl) ?_
  refine m_get S hin hI 0 (W12_at0 h r cs u13) rfl 1 (Nat.le_of_ble_eq_true rfl) (List.mem_of_getElem? (i := 3) rfl) rfl (Ff12_at1 r u13) dX12_drawHeight_26 ?_
  refine m_vi (As := [.int (0 : Int32), .int (gI u13 1)]) (rest := [.int y22]) S (W12_self h r cs) hI rfl (c_X12_findWeights l D h r cs (0 : Int32) (gI u13 1) u13 _ hw) (cwV 2 S.2.2.2.2 gX12_drawHeight_X12_findWeights rfl rfl rfl (by decide +kernel) ⟨Nat.le_of_ble_eq_true rfl, Nat.le_of_ble_eq_true rfl⟩) (W12_at0 h r cs u13) rfl rfl hl.1 rfl (Nat.le_of_ble_eq_true rfl) dX12_drawHeight_29 ⟨Nat.zero_le _, Nat.zero_le _⟩ (fun y29 u29 H locs hw hI => ?_)
  refine lv_irem S.1 S.2.1 dX12_drawHeight_32 hw.1 ?_
  have hw := hw.2
  refine lv_topi (fun y32 ey32 => ?_)
  have hw := hw y32 ey32
  refine lv_istore_n (lv' := [(1, .int y32), (0, .ref h)]) S.1 S.2.1 dX12_drawHeight_33 rfl hl (by decide) rfl (fun ls hl => ?_)
  refine lv_iconst (v := 0) S.1 S.2.1 dX12_drawHeight_34 (by decide) ?_
  refine lv_istore_n (lv' := [(2, .int (0 : Int32)), (1, .int y32), (0, .ref h)]) S.1 S.2.1 dX12_drawHeight_35 rfl hl (by decide) rfl (fun ls hl => ?_)
  exact b36 y32 (0 : Int32) u29 hw H locs ls hI (lv_sub hl [2, 1, 0] rfl)

def wp_X12_drawn_p34 (u : ST) (Q : Int32 → ST → Prop) : Prop :=
  Q ((-1) : Int32) u
def wp_X12_drawn_p96 (x2 : Int32) (x3 : Int32) (x5 : Int32) (t0 : Int32) (t1 : Int32) (u : ST) (B57 : Int32 → Int32 → Int32 → Int32 → ST → Prop) (Q : Int32 → ST → Prop) : Prop :=
  (∀ y96 : Int32, y96 = t0 + t1 → (∀ y99 : Int32, y99 = x5 + 1 → B57 x2 x3 y96 y99 u))
def wp_X12_drawn_p57b (x2 : Int32) (x3 : Int32) (x4 : Int32) (x5 : Int32) (u : ST) (B57 : Int32 → Int32 → Int32 → Int32 → ST → Prop) (Q : Int32 → ST → Prop) : Prop :=
  (¬ (100 : Int32) = 0 ∧ ∀ y62 : Int32, y62 = x2 - x2 / (100 : Int32) * (100 : Int32) → ((y62 ≤ x5 → Q x4 u) ∧ (¬ y62 ≤ x5 → (¬ (100 : Int32) = 0 ∧ ∀ y70 : Int32, y70 = x2 / (100 : Int32) → (wp_X12_drawHeight u (fun y72 u72 => (wp_X12_goRule y70 y72 ((-1) : Int32) u72 (fun u76 => ((¬ x3 = 0 → wp_X12_drawn_p96 x2 x3 x5 x4 (gI u76 39) u76 B57 Q) ∧ (x3 = 0 → wp_X12_drawn_p96 x2 x3 x5 x4 (gI u76 38) u76 B57 Q))))))))))
def wp_X12_drawn_p57 (x2 : Int32) (x3 : Int32) (x4 : Int32) (x5 : Int32) (u : ST) (Q : Int32 → ST → Prop) : Prop := ∃ (I : Int32 → Int32 → Int32 → Int32 → ST → Prop) (μ : Int32 → Int32 → Int32 → Int32 → ST → Nat), I x2 x3 x4 x5 u ∧ ∀ (x2 : Int32) (x3 : Int32) (x4 : Int32) (x5 : Int32) (u : ST), I x2 x3 x4 x5 u → wp_X12_drawn_p57b x2 x3 x4 x5 u (fun yx2 yx3 yx4 yx5 yu => I yx2 yx3 yx4 yx5 yu ∧ μ yx2 yx3 yx4 yx5 yu < μ x2 x3 x4 x5 u) Q
def wp_X12_drawn (a1 : Int32) (a2 : Int32) (a3 : Int32) (u : ST) (Q : Int32 → ST → Prop) : Prop :=
  ((a2 < 0 → wp_X12_drawn_p34 u Q) ∧ (¬ a2 < 0 → (¬ (100 : Int32) = 0 ∧ ∀ y7 : Int32, y7 = a2 / (100 : Int32) → (((1 : Int32) < y7 → wp_X12_drawn_p34 u Q) ∧ (¬ (1 : Int32) < y7 → (¬ (100 : Int32) = 0 ∧ ∀ y15 : Int32, y15 = a2 - a2 / (100 : Int32) * (100 : Int32) → (wp_X12_in y15 (1 : Int32) (60 : Int32) (fun y19 => ((y19 = 0 → wp_X12_drawn_p34 u Q) ∧ (¬ y19 = 0 → (wp_X12_in a3 (0 : Int32) (1 : Int32) (fun y28 => ((¬ y28 = 0 → ((¬ (gI u 2) = 0 → (∀ u48 : ST, u48 = sI u 45 a1 → wp_X12_drawn_p57 a2 a3 (0 : Int32) (0 : Int32) u48 Q)) ∧ ((gI u 2) = 0 → Q ((-2) : Int32) u))) ∧ (y28 = 0 → wp_X12_drawn_p34 u Q))))))))))))))
set_option maxHeartbeats 4000000 in
set_option maxRecDepth 100000 in
theorem c_X12_drawn (l : Launch) (D : va_G) (h : Nat) (r : Nat → Nat) (cs : Nat → ClassId) (a1 : Int32) (a2 : Int32) (a3 : Int32) (u : ST) (Q : Int32 → ST → Prop) (hw : wp_X12_drawn a1 a2 a3 u Q) : mCi l yX12_drawn wsX12_drawn ({ frames := 8, cells := 0, slots := 0, locals := 193 } : Room) 0 0 D (mT cs) (W12 h r cs) [.ref h, .int a1, .int a2, .int a3] u Q := by
  unfold mCi
  refine m_enter (QQ := fun A => va_Qi Q (mPos D (mT cs) A (W12 h r cs)) A) (cc := cX12_drawn) (maxL := 6) (ret := (some .int)) (by decide) rfl (Nat.le_of_ble_eq_true rfl) ?_
  intro p e s m args below meth c A ls S hr hlocks hname hl hI
  have S : CallFix p m c cX12_drawn 6 s args wsX12_drawn RX12 := S
  show W p l e ({ frames := 8, cells := 0, slots := 0, locals := 193 } : Room) s m args below meth c s.heap [] 0 0 (MQ below (va_Qi Q (mPos D (mT cs) A (W12 h r cs)) A) args s 0 0 A) (F0 m 0 ls [])
  generalize hZ : MQ below (va_Qi Q (mPos D (mT cs) A (W12 h r cs)) A) args s 0 0 A = Z
  have hin : ∀ w ∈ wsX120, w ∈ wsX12_drawn := fun _ h => List.mem_cons_of_mem _ (List.mem_append_right _ h)
  have hl : lv_has ls 6 [(0, .ref h), (1, .int a1), (2, .int a2), (3, .int a3)] := hl
  have b34 : ∀ (u : ST), wp_X12_drawn_p34 u Q → mGo p l e ({ frames := 8, cells := 0, slots := 0, locals := 193 } : Room) s m args below meth c A Z 6 D (mT cs) (W12 h r cs) 34 [(0, .ref h)] [] u := by
    intro u hw H locs ls hI hl
    unfold wp_X12_drawn_p34 at hw
    refine lv_iconst (v := (-1)) S.1 S.2.1 dX12_drawn_34 (by decide) ?_
    subst hZ
    exact m_iret S hr hlocks hI hw dX12_drawn_35
  have b96 : ∀ (B57 : Int32 → Int32 → Int32 → Int32 → ST → Prop), (∀ (x2 : Int32) (x3 : Int32) (x4 : Int32) (x5 : Int32) (u : ST), B57 x2 x3 x4 x5 u → mGo p l e ({ frames := 8, cells := 0, slots := 0, locals := 193 } : Room) s m args below meth c A Z 6 D (mT cs) (W12 h r cs) 57 [(0, .ref h), (2, .int x2), (3, .int x3), (4, .int x4), (5, .int x5)] [] u) → ∀ (x2 : Int32) (x3 : Int32) (x5 : Int32) (t0 : Int32) (t1 : Int32) (u : ST), wp_X12_drawn_p96 x2 x3 x5 t0 t1 u B57 Q → mGo p l e ({ frames := 8, cells := 0, slots := 0, locals := 193 } : Room) s m args below meth c A Z 6 D (mT cs) (W12 h r cs) 96 [(0, .ref h), (2, .int x2), (3, .int x3), (5, .int x5)] [.int t1, .int t0] u := by
    intro B57 hB57 x2 x3 x5 t0 t1 u hw H locs ls hI hl
    unfold wp_X12_drawn_p96 at hw
    refine lv_iadd S.1 S.2.1 dX12_drawn_96 ?_
    refine lv_topi (fun y96 ey96 => ?_)
    have hw := hw y96 ey96
    refine lv_istore (lv' := [(4, .int y96), (0, .ref h), (2, .int x2), (3, .int x3), (5, .int x5)]) S.1 S.2.1 dX12_drawn_97 hl (by decide) rfl (fun ls hl => ?_)
    obtain ⟨y99, ey99⟩ : ∃ z : Int32, z = x5 + 1 := ⟨_, rfl⟩
    have hw := hw y99 ey99
    refine lv_iinc (v := y99) (lv' := [(5, .int y99), (4, .int y96), (0, .ref h), (2, .int x2), (3, .int x3)]) S.1 S.2.1 dX12_drawn_99 hl (k := 4) rfl (by rw [ey99]; rfl) (by decide) rfl (fun ls hl => ?_)
    refine lv_goto (tgt := 57) S.1 S.2.1 dX12_drawn_102 (by decide) ?_
    exact hB57 x2 x3 y96 y99 u hw H locs ls hI (lv_sub hl [2, 3, 4, 1, 0] rfl)
  have b57b : ∀ (B57 : Int32 → Int32 → Int32 → Int32 → ST → Prop), (∀ (x2 : Int32) (x3 : Int32) (x4 : Int32) (x5 : Int32) (u : ST), B57 x2 x3 x4 x5 u → mGo p l e ({ frames := 8, cells := 0, slots := 0, locals := 193 } : Room) s m args below meth c A Z 6 D (mT cs) (W12 h r cs) 57 [(0, .ref h), (2, .int x2), (3, .int x3), (4, .int x4), (5, .int x5)] [] u) → ∀ (x2 : Int32) (x3 : Int32) (x4 : Int32) (x5 : Int32) (u : ST), wp_X12_drawn_p57b x2 x3 x4 x5 u B57 Q → mGo p l e ({ frames := 8, cells := 0, slots := 0, locals := 193 } : Room) s m args below meth c A Z 6 D (mT cs) (W12 h r cs) 57 [(0, .ref h), (2, .int x2), (3, .int x3), (4, .int x4), (5, .int x5)] [] u := by
    intro B57 hB57 x2 x3 x4 x5 u hw H locs ls hI hl
    unfold wp_X12_drawn_p57b at hw
    refine lv_iload S.1 S.2.1 dX12_drawn_57 (lv_at hl 4 rfl) ?_
    refine lv_iload_n S.1 S.2.1 dX12_drawn_59 rfl (lv_at hl 1 rfl) ?_
    refine lv_bipush (v := 100) S.1 S.2.1 dX12_drawn_60 (by decide) ?_
    refine lv_irem S.1 S.2.1 dX12_drawn_62 hw.1 ?_
    have hw := hw.2
    refine lv_topi (fun y62 ey62 => ?_)
    have hw := hw y62 ey62
    refine lv_icmp_ge (tgt := 105) S.1 S.2.1 dX12_drawn_63 (by decide) (fun c63 => ?_) (fun c63 => ?_)
    · have hw := hw.1 c63
      refine lv_iload S.1 S.2.1 dX12_drawn_105 (lv_at hl 3 rfl) ?_
      subst hZ
      exact m_iret S hr hlocks hI hw dX12_drawn_107
    · have hw := hw.2 c63
      refine lv_aload_n S.1 S.2.1 dX12_drawn_66 rfl (lv_at hl 0 rfl) ?_
      refine lv_iload_n S.1 S.2.1 dX12_drawn_67 rfl (lv_at hl 1 rfl) ?_
      refine lv_bipush (v := 100) S.1 S.2.1 dX12_drawn_68 (by decide) ?_
      refine lv_idiv S.1 S.2.1 dX12_drawn_70 hw.1 ?_
      have hw := hw.2
      refine lv_topi (fun y70 ey70 => ?_)
      have hw := hw y70 ey70
      refine lv_aload_n S.1 S.2.1 dX12_drawn_71 rfl (lv_at hl 0 rfl) ?_
      refine m_vi (As := []) (rest := [.int y70, .ref h]) S (W12_self h r cs) hI rfl (c_X12_drawHeight l D h r cs u _ hw) (cwV 0 S.2.2.2.2 gX12_drawn_X12_drawHeight rfl rfl rfl (by decide +kernel) ⟨Nat.le_of_ble_eq_true rfl, Nat.le_of_ble_eq_true rfl⟩) (W12_at0 h r cs u) rfl rfl hl.1 rfl (Nat.le_of_ble_eq_true rfl) dX12_drawn_72 ⟨Nat.zero_le _, Nat.zero_le _⟩ (fun y72 u72 H locs hw hI => ?_)
      refine lv_iconst (v := (-1)) S.1 S.2.1 dX12_drawn_75 (by decide) ?_
      refine m_vv (As := [.int y70, .int y72, .int ((-1) : Int32)]) (rest := []) S (W12_self h r cs) hI rfl (c_X12_goRule l D h r cs y70 y72 ((-1) : Int32) u72 _ hw) (cwV 3 S.2.2.2.2 gX12_drawn_X12_goRule rfl rfl rfl (by decide +kernel) ⟨Nat.le_of_ble_eq_true rfl, Nat.le_of_ble_eq_true rfl⟩) (W12_at0 h r cs u72) rfl rfl hl.1 rfl (Nat.le_of_ble_eq_true rfl) dX12_drawn_76 ⟨Nat.zero_le _, Nat.zero_le _⟩ (fun u76 H locs hw hI => ?_)
      refine lv_iload S.1 S.2.1 dX12_drawn_79 (lv_at hl 3 rfl) ?_
      refine lv_iload_n S.1 S.2.1 dX12_drawn_81 rfl (lv_at hl 2 rfl) ?_
      refine lv_if_ne (tgt := 92) S.1 S.2.1 dX12_drawn_82 (by decide) (fun c82 => ?_) (fun c82 => ?_)
      · have hw := hw.1 c82
        refine lv_aload_n S.1 S.2.1 dX12_drawn_92 rfl (lv_at hl 0 rfl) ?_
        refine m_get S hin hI 0 (W12_at0 h r cs u76) rfl 39 (Nat.le_of_ble_eq_true rfl) (List.mem_of_getElem? (i := 4) rfl) rfl (Ff12_at39 r u76) dX12_drawn_93 ?_
        exact b96 B57 hB57 x2 x3 x5 x4 (gI u76 39) u76 hw H locs ls hI (lv_sub hl [0, 1, 2, 4] rfl)
      · have hw := hw.2 c82
        refine lv_aload_n S.1 S.2.1 dX12_drawn_85 rfl (lv_at hl 0 rfl) ?_
        refine m_get S hin hI 0 (W12_at0 h r cs u76) rfl 38 (Nat.le_of_ble_eq_true rfl) (List.mem_of_getElem? (i := 3) rfl) rfl (Ff12_at38 r u76) dX12_drawn_86 ?_
        refine lv_goto (tgt := 96) S.1 S.2.1 dX12_drawn_89 (by decide) ?_
        exact b96 B57 hB57 x2 x3 x5 x4 (gI u76 38) u76 hw H locs ls hI (lv_sub hl [0, 1, 2, 4] rfl)
  have b57 : ∀ (x2 : Int32) (x3 : Int32) (x4 : Int32) (x5 : Int32) (u : ST), wp_X12_drawn_p57 x2 x3 x4 x5 u Q → mGo p l e ({ frames := 8, cells := 0, slots := 0, locals := 193 } : Room) s m args below meth c A Z 6 D (mT cs) (W12 h r cs) 57 [(0, .ref h), (2, .int x2), (3, .int x3), (4, .int x4), (5, .int x5)] [] u := by
    intro x2 x3 x4 x5 u hw
    obtain ⟨I, μ, h0, hs⟩ := hw
    have key : ∀ (n : Nat) (x2 : Int32) (x3 : Int32) (x4 : Int32) (x5 : Int32) (u : ST), μ x2 x3 x4 x5 u = n → I x2 x3 x4 x5 u → mGo p l e ({ frames := 8, cells := 0, slots := 0, locals := 193 } : Room) s m args below meth c A Z 6 D (mT cs) (W12 h r cs) 57 [(0, .ref h), (2, .int x2), (3, .int x3), (4, .int x4), (5, .int x5)] [] u := by
      intro n
      induction n using Nat.strongRecOn with
      | ind n ih =>
        intro x2 x3 x4 x5 u hn hi
        exact b57b (fun yx2 yx3 yx4 yx5 yu => I yx2 yx3 yx4 yx5 yu ∧ μ yx2 yx3 yx4 yx5 yu < μ x2 x3 x4 x5 u) (fun yx2 yx3 yx4 yx5 yu hb => ih _ (hn ▸ hb.2) yx2 yx3 yx4 yx5 yu rfl hb.1) x2 x3 x4 x5 u (hs x2 x3 x4 x5 u hi)
    exact key _ x2 x3 x4 x5 u rfl h0
  unfold wp_X12_drawn at hw
  obtain ⟨H, hH⟩ : ∃ z : Heap, z = s.heap := ⟨_, rfl⟩
  obtain ⟨locs, hL⟩ : ∃ z : List Loc, z = [] := ⟨_, rfl⟩
  rw [show W p l e ({ frames := 8, cells := 0, slots := 0, locals := 193 } : Room) s m args below meth c s.heap [] 0 0 Z (F0 m 0 ls []) = W p l e ({ frames := 8, cells := 0, slots := 0, locals := 193 } : Room) s m args below meth c H locs 0 0 Z (F0 m 0 ls []) by rw [hH, hL]]
  replace hI : mI D (mT cs) A s.heap s (W12 h r cs u) H locs := by rw [hH, hL]; exact hI
  refine lv_iload_n S.1 S.2.1 dX12_drawn_0 rfl (lv_at hl 2 rfl) ?_
  refine lv_if_lt (tgt := 34) S.1 S.2.1 dX12_drawn_1 (by decide) (fun c1 => ?_) (fun c1 => ?_)
  · have hw := hw.1 c1
    exact b34 u hw H locs ls hI (lv_sub hl [0] rfl)
  · have hw := hw.2 c1
    refine lv_iload_n S.1 S.2.1 dX12_drawn_4 rfl (lv_at hl 2 rfl) ?_
    refine lv_bipush (v := 100) S.1 S.2.1 dX12_drawn_5 (by decide) ?_
    refine lv_idiv S.1 S.2.1 dX12_drawn_7 hw.1 ?_
    have hw := hw.2
    refine lv_topi (fun y7 ey7 => ?_)
    have hw := hw y7 ey7
    refine lv_iconst (v := 1) S.1 S.2.1 dX12_drawn_8 (by decide) ?_
    refine lv_icmp_gt (tgt := 34) S.1 S.2.1 dX12_drawn_9 (by decide) (fun c9 => ?_) (fun c9 => ?_)
    · have hw := hw.1 c9
      exact b34 u hw H locs ls hI (lv_sub hl [0] rfl)
    · have hw := hw.2 c9
      refine lv_iload_n S.1 S.2.1 dX12_drawn_12 rfl (lv_at hl 2 rfl) ?_
      refine lv_bipush (v := 100) S.1 S.2.1 dX12_drawn_13 (by decide) ?_
      refine lv_irem S.1 S.2.1 dX12_drawn_15 hw.1 ?_
      have hw := hw.2
      refine lv_topi (fun y15 ey15 => ?_)
      have hw := hw y15 ey15
      refine lv_iconst (v := 1) S.1 S.2.1 dX12_drawn_16 (by decide) ?_
      refine lv_bipush (v := 60) S.1 S.2.1 dX12_drawn_17 (by decide) ?_
      refine m_si (As := [.int y15, .int (1 : Int32), .int (60 : Int32)]) (rest := []) S hI.2.2.2.1.2.1 (c_X12_in l y15 (1 : Int32) (60 : Int32) _ hw) (va_cwS 3 S.2.2.2.2 gX12_drawn_X12_in rfl rfl rfl (by decide +kernel) ⟨Nat.le_of_ble_eq_true rfl, Nat.le_of_ble_eq_true rfl⟩) rfl hl.1 rfl (Nat.le_of_ble_eq_true rfl) dX12_drawn_19 ⟨Nat.zero_le _, Nat.zero_le _⟩ (fun y19 hw => ?_)
      refine lv_if_eq (tgt := 34) S.1 S.2.1 dX12_drawn_22 (by decide) (fun c22 => ?_) (fun c22 => ?_)
      · have hw := hw.1 c22
        exact b34 u hw H locs ls hI (lv_sub hl [0] rfl)
      · have hw := hw.2 c22
        refine lv_iload_n S.1 S.2.1 dX12_drawn_25 rfl (lv_at hl 3 rfl) ?_
        refine lv_iconst (v := 0) S.1 S.2.1 dX12_drawn_26 (by decide) ?_
        refine lv_iconst (v := 1) S.1 S.2.1 dX12_drawn_27 (by decide) ?_
        refine m_si (As := [.int a3, .int (0 : Int32), .int (1 : Int32)]) (rest := []) S hI.2.2.2.1.2.1 (c_X12_in l a3 (0 : Int32) (1 : Int32) _ hw) (va_cwS 3 S.2.2.2.2 gX12_drawn_X12_in rfl rfl rfl (by decide +kernel) ⟨Nat.le_of_ble_eq_true rfl, Nat.le_of_ble_eq_true rfl⟩) rfl hl.1 rfl (Nat.le_of_ble_eq_true rfl) dX12_drawn_28 ⟨Nat.zero_le _, Nat.zero_le _⟩ (fun y28 hw => ?_)
        refine lv_if_ne (tgt := 36) S.1 S.2.1 dX12_drawn_31 (by decide) (fun c31 => ?_) (fun c31 => ?_)
        · have hw := hw.1 c31
          refine lv_aload_n S.1 S.2.1 dX12_drawn_36 rfl (lv_at hl 0 rfl) ?_
          refine m_get S hin hI 0 (W12_at0 h r cs u) rfl 2 (Nat.le_of_ble_eq_true rfl) (List.mem_of_getElem? (i := 1) rfl) rfl (Ff12_at2 r u) dX12_drawn_37 ?_
          refine lv_if_ne (tgt := 46) S.1 S.2.1 dX12_drawn_40 (by decide) (fun c40 => ?_) (fun c40 => ?_)
          · have hw := hw.1 c40
            refine lv_aload_n S.1 S.2.1 dX12_drawn_46 rfl (lv_at hl 0 rfl) ?_
            refine lv_iload_n S.1 S.2.1 dX12_drawn_47 rfl (lv_at hl 1 rfl) ?_
            obtain ⟨u48, eu48⟩ : ∃ z : ST, z = sI u 45 a1 := ⟨_, rfl⟩
            have hw := hw u48 eu48
            refine m_put S hin tyX12_ok nmX12 hI 0 (W12_at0 h r cs u) rfl 45 (Nat.le_of_ble_eq_true rfl) (List.mem_of_getElem? (i := 2) rfl) rfl rfl rfl rfl (Nat.le_of_ble_eq_true rfl) (W12_sI45 h r cs u u48 a1 eu48) dX12_drawn_48 (fun H locs hI => ?_)
            refine lv_iconst (v := 0) S.1 S.2.1 dX12_drawn_51 (by decide) ?_
            refine lv_istore (lv' := [(4, .int (0 : Int32)), (0, .ref h), (1, .int a1), (2, .int a2), (3, .int a3)]) S.1 S.2.1 dX12_drawn_52 hl (by decide) rfl (fun ls hl => ?_)
            refine lv_iconst (v := 0) S.1 S.2.1 dX12_drawn_54 (by decide) ?_
            refine lv_istore (lv' := [(5, .int (0 : Int32)), (4, .int (0 : Int32)), (0, .ref h), (1, .int a1), (2, .int a2), (3, .int a3)]) S.1 S.2.1 dX12_drawn_55 hl (by decide) rfl (fun ls hl => ?_)
            exact b57 a2 a3 (0 : Int32) (0 : Int32) u48 hw H locs ls hI (lv_sub hl [2, 4, 5, 1, 0] rfl)
          · have hw := hw.2 c40
            refine lv_bipush (v := (-2)) S.1 S.2.1 dX12_drawn_43 (by decide) ?_
            subst hZ
            exact m_iret S hr hlocks hI hw dX12_drawn_45
        · have hw := hw.2 c31
          exact b34 u hw H locs ls hI (lv_sub hl [0] rfl)

def wp_X12_hide (a1 : Int32) (u : ST) (Q : Int32 → ST → Prop) : Prop :=
  (∀ u2 : ST, u2 = sI u 45 a1 → (wp_X12_drawHeight u2 (fun y11 u11 => (vp_in (0 : Int32) 9 ∧ ∀ u14 : ST, u14 = sA u11 46 (upd (gA u11 46) (0 : Int32).toNatClampNeg y11) → (vp_in (1 : Int32) 9 ∧ ∀ u24 : ST, u24 = sA u14 46 (upd (gA u14 46) (1 : Int32).toNatClampNeg (gI u14 1)) → (vp_in (2 : Int32) 9 ∧ ∀ u34 : ST, u34 = sA u24 46 (upd (gA u24 46) (2 : Int32).toNatClampNeg (gI u24 2)) → (vp_in (3 : Int32) 9 ∧ ∀ u41 : ST, u41 = sA u34 46 (upd (gA u34 46) (3 : Int32).toNatClampNeg (0 : Int32)) → (vp_in (4 : Int32) 9 ∧ ∀ u48 : ST, u48 = sA u41 46 (upd (gA u41 46) (4 : Int32).toNatClampNeg (0 : Int32)) → (vp_in (5 : Int32) 9 ∧ ∀ u55 : ST, u55 = sA u48 46 (upd (gA u48 46) (5 : Int32).toNatClampNeg (0 : Int32)) → (vp_in (6 : Int32) 9 ∧ ∀ u66 : ST, u66 = sA u55 46 (upd (gA u55 46) (6 : Int32).toNatClampNeg (gI u55 1)) → Q (gI u66 1) u66))))))))))
set_option maxHeartbeats 4000000 in
set_option maxRecDepth 100000 in
theorem c_X12_hide (l : Launch) (D : va_G) (h : Nat) (r : Nat → Nat) (cs : Nat → ClassId) (a1 : Int32) (u : ST) (Q : Int32 → ST → Prop) (hw : wp_X12_hide a1 u Q) : mCi l yX12_hide wsX12_hide ({ frames := 6, cells := 0, slots := 0, locals := 139 } : Room) 0 0 D (mT cs) (W12 h r cs) [.ref h, .int a1] u Q := by
  unfold mCi
  refine m_enter (QQ := fun A => va_Qi Q (mPos D (mT cs) A (W12 h r cs)) A) (cc := cX12_hide) (maxL := 2) (ret := (some .int)) (by decide) rfl (Nat.le_of_ble_eq_true rfl) ?_
  intro p e s m args below meth c A ls S hr hlocks hname hl hI
  have S : CallFix p m c cX12_hide 2 s args wsX12_hide RX12 := S
  show W p l e ({ frames := 6, cells := 0, slots := 0, locals := 139 } : Room) s m args below meth c s.heap [] 0 0 (MQ below (va_Qi Q (mPos D (mT cs) A (W12 h r cs)) A) args s 0 0 A) (F0 m 0 ls [])
  generalize hZ : MQ below (va_Qi Q (mPos D (mT cs) A (W12 h r cs)) A) args s 0 0 A = Z
  have hin : ∀ w ∈ wsX120, w ∈ wsX12_hide := fun _ h => List.mem_cons_of_mem _ (List.mem_append_right _ h)
  have hl : lv_has ls 2 [(0, .ref h), (1, .int a1)] := hl
  unfold wp_X12_hide at hw
  obtain ⟨H, hH⟩ : ∃ z : Heap, z = s.heap := ⟨_, rfl⟩
  obtain ⟨locs, hL⟩ : ∃ z : List Loc, z = [] := ⟨_, rfl⟩
  rw [show W p l e ({ frames := 6, cells := 0, slots := 0, locals := 139 } : Room) s m args below meth c s.heap [] 0 0 Z (F0 m 0 ls []) = W p l e ({ frames := 6, cells := 0, slots := 0, locals := 139 } : Room) s m args below meth c H locs 0 0 Z (F0 m 0 ls []) by rw [hH, hL]]
  replace hI : mI D (mT cs) A s.heap s (W12 h r cs u) H locs := by rw [hH, hL]; exact hI
  refine lv_aload_n S.1 S.2.1 dX12_hide_0 rfl (lv_at hl 0 rfl) ?_
  refine lv_iload_n S.1 S.2.1 dX12_hide_1 rfl (lv_at hl 1 rfl) ?_
  obtain ⟨u2, eu2⟩ : ∃ z : ST, z = sI u 45 a1 := ⟨_, rfl⟩
  have hw := hw u2 eu2
  refine m_put S hin tyX12_ok nmX12 hI 0 (W12_at0 h r cs u) rfl 45 (Nat.le_of_ble_eq_true rfl) (List.mem_of_getElem? (i := 1) rfl) rfl rfl rfl rfl (Nat.le_of_ble_eq_true rfl) (W12_sI45 h r cs u u2 a1 eu2) dX12_hide_2 (fun H locs hI => ?_)
  refine lv_aload_n S.1 S.2.1 dX12_hide_5 rfl (lv_at hl 0 rfl) ?_
  refine m_get S hin hI 0 (W12_at0 h r cs u2) rfl 46 (Nat.le_of_ble_eq_true rfl) (List.mem_of_getElem? (i := 2) rfl) rfl (Ff12_at46 r u2) dX12_hide_6 ?_
  refine lv_iconst (v := 0) S.1 S.2.1 dX12_hide_9 (by decide) ?_
  refine lv_aload_n S.1 S.2.1 dX12_hide_10 rfl (lv_at hl 0 rfl) ?_
  refine m_vi (As := []) (rest := [.int (0 : Int32), .ref (r 46)]) S (W12_self h r cs) hI rfl (c_X12_drawHeight l D h r cs u2 _ hw) (cwV 0 S.2.2.2.2 gX12_hide_X12_drawHeight rfl rfl rfl (by decide +kernel) ⟨Nat.le_of_ble_eq_true rfl, Nat.le_of_ble_eq_true rfl⟩) (W12_at0 h r cs u2) rfl rfl hl.1 rfl (Nat.le_of_ble_eq_true rfl) dX12_hide_11 ⟨Nat.zero_le _, Nat.zero_le _⟩ (fun y11 u11 H locs hw hI => ?_)
  obtain ⟨u14, eu14⟩ : ∃ z : ST, z = sA u11 46 (upd (gA u11 46) (0 : Int32).toNatClampNeg y11) := ⟨_, rfl⟩
  refine m_iast S hI 22 0 (W12_at22 h r cs u11) rfl hw.1 (W12_sA46 h r cs u11 u14 _ eu14) dX12_hide_14 (fun H locs hI => ?_)
  have hw := hw.2 u14 eu14
  refine lv_aload_n S.1 S.2.1 dX12_hide_15 rfl (lv_at hl 0 rfl) ?_
  refine m_get S hin hI 0 (W12_at0 h r cs u14) rfl 46 (Nat.le_of_ble_eq_true rfl) (List.mem_of_getElem? (i := 2) rfl) rfl (Ff12_at46 r u14) dX12_hide_16 ?_
  refine lv_iconst (v := 1) S.1 S.2.1 dX12_hide_19 (by decide) ?_
  refine lv_aload_n S.1 S.2.1 dX12_hide_20 rfl (lv_at hl 0 rfl) ?_
  refine m_get S hin hI 0 (W12_at0 h r cs u14) rfl 1 (Nat.le_of_ble_eq_true rfl) (List.mem_of_getElem? (i := 3) rfl) rfl (Ff12_at1 r u14) dX12_hide_21 ?_
  obtain ⟨u24, eu24⟩ : ∃ z : ST, z = sA u14 46 (upd (gA u14 46) (1 : Int32).toNatClampNeg (gI u14 1)) := ⟨_, rfl⟩
  refine m_iast S hI 22 0 (W12_at22 h r cs u14) rfl hw.1 (W12_sA46 h r cs u14 u24 _ eu24) dX12_hide_24 (fun H locs hI => ?_)
  have hw := hw.2 u24 eu24
  refine lv_aload_n S.1 S.2.1 dX12_hide_25 rfl (lv_at hl 0 rfl) ?_
  refine m_get S hin hI 0 (W12_at0 h r cs u24) rfl 46 (Nat.le_of_ble_eq_true rfl) (List.mem_of_getElem? (i := 2) rfl) rfl (Ff12_at46 r u24) dX12_hide_26 ?_
  refine lv_iconst (v := 2) S.1 S.2.1 dX12_hide_29 (by decide) ?_
  refine lv_aload_n S.1 S.2.1 dX12_hide_30 rfl (lv_at hl 0 rfl) ?_
  refine m_get S hin hI 0 (W12_at0 h r cs u24) rfl 2 (Nat.le_of_ble_eq_true rfl) (List.mem_of_getElem? (i := 4) rfl) rfl (Ff12_at2 r u24) dX12_hide_31 ?_
  obtain ⟨u34, eu34⟩ : ∃ z : ST, z = sA u24 46 (upd (gA u24 46) (2 : Int32).toNatClampNeg (gI u24 2)) := ⟨_, rfl⟩
  refine m_iast S hI 22 0 (W12_at22 h r cs u24) rfl hw.1 (W12_sA46 h r cs u24 u34 _ eu34) dX12_hide_34 (fun H locs hI => ?_)
  have hw := hw.2 u34 eu34
  refine lv_aload_n S.1 S.2.1 dX12_hide_35 rfl (lv_at hl 0 rfl) ?_
  refine m_get S hin hI 0 (W12_at0 h r cs u34) rfl 46 (Nat.le_of_ble_eq_true rfl) (List.mem_of_getElem? (i := 2) rfl) rfl (Ff12_at46 r u34) dX12_hide_36 ?_
  refine lv_iconst (v := 3) S.1 S.2.1 dX12_hide_39 (by decide) ?_
  refine lv_iconst (v := 0) S.1 S.2.1 dX12_hide_40 (by decide) ?_
  obtain ⟨u41, eu41⟩ : ∃ z : ST, z = sA u34 46 (upd (gA u34 46) (3 : Int32).toNatClampNeg (0 : Int32)) := ⟨_, rfl⟩
  refine m_iast S hI 22 0 (W12_at22 h r cs u34) rfl hw.1 (W12_sA46 h r cs u34 u41 _ eu41) dX12_hide_41 (fun H locs hI => ?_)
  have hw := hw.2 u41 eu41
  refine lv_aload_n S.1 S.2.1 dX12_hide_42 rfl (lv_at hl 0 rfl) ?_
  refine m_get S hin hI 0 (W12_at0 h r cs u41) rfl 46 (Nat.le_of_ble_eq_true rfl) (List.mem_of_getElem? (i := 2) rfl) rfl (Ff12_at46 r u41) dX12_hide_43 ?_
  refine lv_iconst (v := 4) S.1 S.2.1 dX12_hide_46 (by decide) ?_
  refine lv_iconst (v := 0) S.1 S.2.1 dX12_hide_47 (by decide) ?_
  obtain ⟨u48, eu48⟩ : ∃ z : ST, z = sA u41 46 (upd (gA u41 46) (4 : Int32).toNatClampNeg (0 : Int32)) := ⟨_, rfl⟩
  refine m_iast S hI 22 0 (W12_at22 h r cs u41) rfl hw.1 (W12_sA46 h r cs u41 u48 _ eu48) dX12_hide_48 (fun H locs hI => ?_)
  have hw := hw.2 u48 eu48
  refine lv_aload_n S.1 S.2.1 dX12_hide_49 rfl (lv_at hl 0 rfl) ?_
  refine m_get S hin hI 0 (W12_at0 h r cs u48) rfl 46 (Nat.le_of_ble_eq_true rfl) (List.mem_of_getElem? (i := 2) rfl) rfl (Ff12_at46 r u48) dX12_hide_50 ?_
  refine lv_iconst (v := 5) S.1 S.2.1 dX12_hide_53 (by decide) ?_
  refine lv_iconst (v := 0) S.1 S.2.1 dX12_hide_54 (by decide) ?_
  obtain ⟨u55, eu55⟩ : ∃ z : ST, z = sA u48 46 (upd (gA u48 46) (5 : Int32).toNatClampNeg (0 : Int32)) := ⟨_, rfl⟩
  refine m_iast S hI 22 0 (W12_at22 h r cs u48) rfl hw.1 (W12_sA46 h r cs u48 u55 _ eu55) dX12_hide_55 (fun H locs hI => ?_)
  have hw := hw.2 u55 eu55
  refine lv_aload_n S.1 S.2.1 dX12_hide_56 rfl (lv_at hl 0 rfl) ?_
  refine m_get S hin hI 0 (W12_at0 h r cs u55) rfl 46 (Nat.le_of_ble_eq_true rfl) (List.mem_of_getElem? (i := 2) rfl) rfl (Ff12_at46 r u55) dX12_hide_57 ?_
  refine lv_bipush (v := 6) S.1 S.2.1 dX12_hide_60 (by decide) ?_
  refine lv_aload_n S.1 S.2.1 dX12_hide_62 rfl (lv_at hl 0 rfl) ?_
  refine m_get S hin hI 0 (W12_at0 h r cs u55) rfl 1 (Nat.le_of_ble_eq_true rfl) (List.mem_of_getElem? (i := 3) rfl) rfl (Ff12_at1 r u55) dX12_hide_63 ?_
  obtain ⟨u66, eu66⟩ : ∃ z : ST, z = sA u55 46 (upd (gA u55 46) (6 : Int32).toNatClampNeg (gI u55 1)) := ⟨_, rfl⟩
  refine m_iast S hI 22 0 (W12_at22 h r cs u55) rfl hw.1 (W12_sA46 h r cs u55 u66 _ eu66) dX12_hide_66 (fun H locs hI => ?_)
  have hw := hw.2 u66 eu66
  refine lv_aload_n S.1 S.2.1 dX12_hide_67 rfl (lv_at hl 0 rfl) ?_
  refine m_get S hin hI 0 (W12_at0 h r cs u66) rfl 1 (Nat.le_of_ble_eq_true rfl) (List.mem_of_getElem? (i := 3) rfl) rfl (Ff12_at1 r u66) dX12_hide_68 ?_
  subst hZ
  exact m_iret S hr hlocks hI hw dX12_hide_71

def wp_X12_stepsNow_p22 (t0 : Int32) (u : ST) (Q : Int32 → ST → Prop) : Prop :=
  Q t0 u
def wp_X12_stepsNow (u : ST) (Q : Int32 → ST → Prop) : Prop :=
  (vp_in (0 : Int32) 9 ∧ ∀ y5 : Int32, y5 = gA u 46 (0 : Int32).toNatClampNeg → ((0 ≤ y5 → (vp_in (1 : Int32) 9 ∧ ∀ y21 : Int32, y21 = gA u 46 (1 : Int32).toNatClampNeg → wp_X12_stepsNow_p22 y21 u Q)) ∧ (¬ 0 ≤ y5 → wp_X12_stepsNow_p22 (gI u 1) u Q)))
set_option maxHeartbeats 4000000 in
set_option maxRecDepth 100000 in
theorem c_X12_stepsNow (l : Launch) (D : va_G) (h : Nat) (r : Nat → Nat) (cs : Nat → ClassId) (u : ST) (Q : Int32 → ST → Prop) (hw : wp_X12_stepsNow u Q) : mCi l yX12_stepsNow wsX12_stepsNow ({ frames := 0, cells := 0, slots := 0, locals := 0 } : Room) 0 0 D (mT cs) (W12 h r cs) [.ref h] u Q := by
  unfold mCi
  refine m_enter (QQ := fun A => va_Qi Q (mPos D (mT cs) A (W12 h r cs)) A) (cc := cX12_stepsNow) (maxL := 1) (ret := (some .int)) (by decide) rfl (Nat.le_of_ble_eq_true rfl) ?_
  intro p e s m args below meth c A ls S hr hlocks hname hl hI
  have S : CallFix p m c cX12_stepsNow 1 s args wsX12_stepsNow RX12 := S
  show W p l e ({ frames := 0, cells := 0, slots := 0, locals := 0 } : Room) s m args below meth c s.heap [] 0 0 (MQ below (va_Qi Q (mPos D (mT cs) A (W12 h r cs)) A) args s 0 0 A) (F0 m 0 ls [])
  generalize hZ : MQ below (va_Qi Q (mPos D (mT cs) A (W12 h r cs)) A) args s 0 0 A = Z
  have hin : ∀ w ∈ wsX120, w ∈ wsX12_stepsNow := fun _ h => List.mem_cons_of_mem _ (List.mem_append_right _ h)
  have hl : lv_has ls 1 [(0, .ref h)] := hl
  have b22 : ∀ (t0 : Int32) (u : ST), wp_X12_stepsNow_p22 t0 u Q → mGo p l e ({ frames := 0, cells := 0, slots := 0, locals := 0 } : Room) s m args below meth c A Z 1 D (mT cs) (W12 h r cs) 22 [(0, .ref h)] [.int t0] u := by
    intro t0 u hw H locs ls hI hl
    unfold wp_X12_stepsNow_p22 at hw
    subst hZ
    exact m_iret S hr hlocks hI hw dX12_stepsNow_22
  unfold wp_X12_stepsNow at hw
  obtain ⟨H, hH⟩ : ∃ z : Heap, z = s.heap := ⟨_, rfl⟩
  obtain ⟨locs, hL⟩ : ∃ z : List Loc, z = [] := ⟨_, rfl⟩
  rw [show W p l e ({ frames := 0, cells := 0, slots := 0, locals := 0 } : Room) s m args below meth c s.heap [] 0 0 Z (F0 m 0 ls []) = W p l e ({ frames := 0, cells := 0, slots := 0, locals := 0 } : Room) s m args below meth c H locs 0 0 Z (F0 m 0 ls []) by rw [hH, hL]]
  replace hI : mI D (mT cs) A s.heap s (W12 h r cs u) H locs := by rw [hH, hL]; exact hI
  refine lv_aload_n S.1 S.2.1 dX12_stepsNow_0 rfl (lv_at hl 0 rfl) ?_
  refine m_get S hin hI 0 (W12_at0 h r cs u) rfl 46 (Nat.le_of_ble_eq_true rfl) (List.mem_of_getElem? (i := 1) rfl) rfl (Ff12_at46 r u) dX12_stepsNow_1 ?_
  refine lv_iconst (v := 0) S.1 S.2.1 dX12_stepsNow_4 (by decide) ?_
  refine m_iald S hI 22 0 (W12_at22 h r cs u) rfl hw.1 dX12_stepsNow_5 ?_
  refine lv_topi (fun y5 ey5 => ?_)
  have hw := hw.2 y5 ey5
  refine lv_if_ge (tgt := 16) S.1 S.2.1 dX12_stepsNow_6 (by decide) (fun c6 => ?_) (fun c6 => ?_)
  · have hw := hw.1 c6
    refine lv_aload_n S.1 S.2.1 dX12_stepsNow_16 rfl (lv_at hl 0 rfl) ?_
    refine m_get S hin hI 0 (W12_at0 h r cs u) rfl 46 (Nat.le_of_ble_eq_true rfl) (List.mem_of_getElem? (i := 1) rfl) rfl (Ff12_at46 r u) dX12_stepsNow_17 ?_
    refine lv_iconst (v := 1) S.1 S.2.1 dX12_stepsNow_20 (by decide) ?_
    refine m_iald S hI 22 0 (W12_at22 h r cs u) rfl hw.1 dX12_stepsNow_21 ?_
    refine lv_topi (fun y21 ey21 => ?_)
    have hw := hw.2 y21 ey21
    exact b22 y21 u hw H locs ls hI (lv_sub hl [0] rfl)
  · have hw := hw.2 c6
    refine lv_aload_n S.1 S.2.1 dX12_stepsNow_9 rfl (lv_at hl 0 rfl) ?_
    refine m_get S hin hI 0 (W12_at0 h r cs u) rfl 1 (Nat.le_of_ble_eq_true rfl) (List.mem_of_getElem? (i := 2) rfl) rfl (Ff12_at1 r u) dX12_stepsNow_10 ?_
    refine lv_goto (tgt := 22) S.1 S.2.1 dX12_stepsNow_13 (by decide) ?_
    exact b22 (gI u 1) u hw H locs ls hI (lv_sub hl [0] rfl)

def wp_X12_drops1_p82 (u : ST) (Q : Int32 → ST → Prop) : Prop :=
  Q (1 : Int32) u
def wp_X12_drops1_p37 (u : ST) (Q : Int32 → ST → Prop) : Prop :=
  Q (0 : Int32) u
def wp_X12_drops1 (a1 : Int32) (u : ST) (Q : Int32 → ST → Prop) : Prop :=
  (vp_in (3 : Int32) 9 ∧ ∀ y6 : Int32, y6 = gA u 46 (3 : Int32).toNatClampNeg → (∀ y8 : Int32, y8 = y6 + (1 : Int32) → (vp_in (3 : Int32) 9 ∧ ∀ u9 : ST, u9 = sA u 46 (upd (gA u 46) (3 : Int32).toNatClampNeg y8) → (vp_in (0 : Int32) 9 ∧ ∀ y16 : Int32, y16 = gA u9 46 (0 : Int32).toNatClampNeg → ((y16 < a1 → (vp_in (2 : Int32) 9 ∧ ∀ y45 : Int32, y45 = gA u9 46 (2 : Int32).toNatClampNeg → (∀ y47 : Int32, y47 = y45 - (1 : Int32) → (vp_in (2 : Int32) 9 ∧ ∀ u48 : ST, u48 = sA u9 46 (upd (gA u9 46) (2 : Int32).toNatClampNeg y47) → (vp_in (4 : Int32) 9 ∧ ∀ y55 : Int32, y55 = gA u48 46 (4 : Int32).toNatClampNeg → (∀ y57 : Int32, y57 = y55 + (1 : Int32) → (vp_in (4 : Int32) 9 ∧ ∀ u58 : ST, u58 = sA u48 46 (upd (gA u48 46) (4 : Int32).toNatClampNeg y57) → (∀ y61 : Int32, y61 = a1 - (1 : Int32) → (vp_in (6 : Int32) 9 ∧ ∀ y68 : Int32, y68 = gA u58 46 (6 : Int32).toNatClampNeg → ((y68 ≤ y61 → wp_X12_drops1_p82 u58 Q) ∧ (¬ y68 ≤ y61 → (∀ y80 : Int32, y80 = a1 - (1 : Int32) → (vp_in (6 : Int32) 9 ∧ ∀ u81 : ST, u81 = sA u58 46 (upd (gA u58 46) (6 : Int32).toNatClampNeg y80) → wp_X12_drops1_p82 u81 Q))))))))))))) ∧ (¬ y16 < a1 → (vp_in (5 : Int32) 9 ∧ ∀ y26 : Int32, y26 = gA u9 46 (5 : Int32).toNatClampNeg → ((a1 ≤ y26 → wp_X12_drops1_p37 u9 Q) ∧ (¬ a1 ≤ y26 → (vp_in (5 : Int32) 9 ∧ ∀ u36 : ST, u36 = sA u9 46 (upd (gA u9 46) (5 : Int32).toNatClampNeg a1) → wp_X12_drops1_p37 u36 Q))))))))))
set_option maxHeartbeats 4000000 in
set_option maxRecDepth 100000 in
theorem c_X12_drops1 (l : Launch) (D : va_G) (h : Nat) (r : Nat → Nat) (cs : Nat → ClassId) (a1 : Int32) (u : ST) (Q : Int32 → ST → Prop) (hw : wp_X12_drops1 a1 u Q) : mCi l yX12_drops1 wsX12_drops1 ({ frames := 0, cells := 0, slots := 0, locals := 0 } : Room) 0 0 D (mT cs) (W12 h r cs) [.ref h, .int a1] u Q := by
  unfold mCi
  refine m_enter (QQ := fun A => va_Qi Q (mPos D (mT cs) A (W12 h r cs)) A) (cc := cX12_drops1) (maxL := 2) (ret := (some .int)) (by decide) rfl (Nat.le_of_ble_eq_true rfl) ?_
  intro p e s m args below meth c A ls S hr hlocks hname hl hI
  have S : CallFix p m c cX12_drops1 2 s args wsX12_drops1 RX12 := S
  show W p l e ({ frames := 0, cells := 0, slots := 0, locals := 0 } : Room) s m args below meth c s.heap [] 0 0 (MQ below (va_Qi Q (mPos D (mT cs) A (W12 h r cs)) A) args s 0 0 A) (F0 m 0 ls [])
  generalize hZ : MQ below (va_Qi Q (mPos D (mT cs) A (W12 h r cs)) A) args s 0 0 A = Z
  have hin : ∀ w ∈ wsX120, w ∈ wsX12_drops1 := fun _ h => List.mem_cons_of_mem _ (List.mem_append_right _ h)
  have hl : lv_has ls 2 [(0, .ref h), (1, .int a1)] := hl
  have b82 : ∀ (u : ST), wp_X12_drops1_p82 u Q → mGo p l e ({ frames := 0, cells := 0, slots := 0, locals := 0 } : Room) s m args below meth c A Z 2 D (mT cs) (W12 h r cs) 82 [(0, .ref h)] [] u := by
    intro u hw H locs ls hI hl
    unfold wp_X12_drops1_p82 at hw
    refine lv_iconst (v := 1) S.1 S.2.1 dX12_drops1_82 (by decide) ?_
    subst hZ
    exact m_iret S hr hlocks hI hw dX12_drops1_83
  have b37 : ∀ (u : ST), wp_X12_drops1_p37 u Q → mGo p l e ({ frames := 0, cells := 0, slots := 0, locals := 0 } : Room) s m args below meth c A Z 2 D (mT cs) (W12 h r cs) 37 [(0, .ref h)] [] u := by
    intro u hw H locs ls hI hl
    unfold wp_X12_drops1_p37 at hw
    refine lv_iconst (v := 0) S.1 S.2.1 dX12_drops1_37 (by decide) ?_
    subst hZ
    exact m_iret S hr hlocks hI hw dX12_drops1_38
  unfold wp_X12_drops1 at hw
  obtain ⟨H, hH⟩ : ∃ z : Heap, z = s.heap := ⟨_, rfl⟩
  obtain ⟨locs, hL⟩ : ∃ z : List Loc, z = [] := ⟨_, rfl⟩
  rw [show W p l e ({ frames := 0, cells := 0, slots := 0, locals := 0 } : Room) s m args below meth c s.heap [] 0 0 Z (F0 m 0 ls []) = W p l e ({ frames := 0, cells := 0, slots := 0, locals := 0 } : Room) s m args below meth c H locs 0 0 Z (F0 m 0 ls []) by rw [hH, hL]]
  replace hI : mI D (mT cs) A s.heap s (W12 h r cs u) H locs := by rw [hH, hL]; exact hI
  refine lv_aload_n S.1 S.2.1 dX12_drops1_0 rfl (lv_at hl 0 rfl) ?_
  refine m_get S hin hI 0 (W12_at0 h r cs u) rfl 46 (Nat.le_of_ble_eq_true rfl) (List.mem_of_getElem? (i := 1) rfl) rfl (Ff12_at46 r u) dX12_drops1_1 ?_
  refine lv_iconst (v := 3) S.1 S.2.1 dX12_drops1_4 (by decide) ?_
  refine lv_dup2_11 S.1 S.2.1 dX12_drops1_5 rfl rfl ?_
  refine m_iald S hI 22 0 (W12_at22 h r cs u) rfl hw.1 dX12_drops1_6 ?_
  refine lv_topi (fun y6 ey6 => ?_)
  have hw := hw.2 y6 ey6
  refine lv_iconst (v := 1) S.1 S.2.1 dX12_drops1_7 (by decide) ?_
  refine lv_iadd S.1 S.2.1 dX12_drops1_8 ?_
  refine lv_topi (fun y8 ey8 => ?_)
  have hw := hw y8 ey8
  obtain ⟨u9, eu9⟩ : ∃ z : ST, z = sA u 46 (upd (gA u 46) (3 : Int32).toNatClampNeg y8) := ⟨_, rfl⟩
  refine m_iast S hI 22 0 (W12_at22 h r cs u) rfl hw.1 (W12_sA46 h r cs u u9 _ eu9) dX12_drops1_9 (fun H locs hI => ?_)
  have hw := hw.2 u9 eu9
  refine lv_iload_n S.1 S.2.1 dX12_drops1_10 rfl (lv_at hl 1 rfl) ?_
  refine lv_aload_n S.1 S.2.1 dX12_drops1_11 rfl (lv_at hl 0 rfl) ?_
  refine m_get S hin hI 0 (W12_at0 h r cs u9) rfl 46 (Nat.le_of_ble_eq_true rfl) (List.mem_of_getElem? (i := 1) rfl) rfl (Ff12_at46 r u9) dX12_drops1_12 ?_
  refine lv_iconst (v := 0) S.1 S.2.1 dX12_drops1_15 (by decide) ?_
  refine m_iald S hI 22 0 (W12_at22 h r cs u9) rfl hw.1 dX12_drops1_16 ?_
  refine lv_topi (fun y16 ey16 => ?_)
  have hw := hw.2 y16 ey16
  refine lv_icmp_gt (tgt := 39) S.1 S.2.1 dX12_drops1_17 (by decide) (fun c17 => ?_) (fun c17 => ?_)
  · have hw := hw.1 c17
    refine lv_aload_n S.1 S.2.1 dX12_drops1_39 rfl (lv_at hl 0 rfl) ?_
    refine m_get S hin hI 0 (W12_at0 h r cs u9) rfl 46 (Nat.le_of_ble_eq_true rfl) (List.mem_of_getElem? (i := 1) rfl) rfl (Ff12_at46 r u9) dX12_drops1_40 ?_
    refine lv_iconst (v := 2) S.1 S.2.1 dX12_drops1_43 (by decide) ?_
    refine lv_dup2_11 S.1 S.2.1 dX12_drops1_44 rfl rfl ?_
    refine m_iald S hI 22 0 (W12_at22 h r cs u9) rfl hw.1 dX12_drops1_45 ?_
    refine lv_topi (fun y45 ey45 => ?_)
    have hw := hw.2 y45 ey45
    refine lv_iconst (v := 1) S.1 S.2.1 dX12_drops1_46 (by decide) ?_
    refine lv_isub S.1 S.2.1 dX12_drops1_47 ?_
    refine lv_topi (fun y47 ey47 => ?_)
    have hw := hw y47 ey47
    obtain ⟨u48, eu48⟩ : ∃ z : ST, z = sA u9 46 (upd (gA u9 46) (2 : Int32).toNatClampNeg y47) := ⟨_, rfl⟩
    refine m_iast S hI 22 0 (W12_at22 h r cs u9) rfl hw.1 (W12_sA46 h r cs u9 u48 _ eu48) dX12_drops1_48 (fun H locs hI => ?_)
    have hw := hw.2 u48 eu48
    refine lv_aload_n S.1 S.2.1 dX12_drops1_49 rfl (lv_at hl 0 rfl) ?_
    refine m_get S hin hI 0 (W12_at0 h r cs u48) rfl 46 (Nat.le_of_ble_eq_true rfl) (List.mem_of_getElem? (i := 1) rfl) rfl (Ff12_at46 r u48) dX12_drops1_50 ?_
    refine lv_iconst (v := 4) S.1 S.2.1 dX12_drops1_53 (by decide) ?_
    refine lv_dup2_11 S.1 S.2.1 dX12_drops1_54 rfl rfl ?_
    refine m_iald S hI 22 0 (W12_at22 h r cs u48) rfl hw.1 dX12_drops1_55 ?_
    refine lv_topi (fun y55 ey55 => ?_)
    have hw := hw.2 y55 ey55
    refine lv_iconst (v := 1) S.1 S.2.1 dX12_drops1_56 (by decide) ?_
    refine lv_iadd S.1 S.2.1 dX12_drops1_57 ?_
    refine lv_topi (fun y57 ey57 => ?_)
    have hw := hw y57 ey57
    obtain ⟨u58, eu58⟩ : ∃ z : ST, z = sA u48 46 (upd (gA u48 46) (4 : Int32).toNatClampNeg y57) := ⟨_, rfl⟩
    refine m_iast S hI 22 0 (W12_at22 h r cs u48) rfl hw.1 (W12_sA46 h r cs u48 u58 _ eu58) dX12_drops1_58 (fun H locs hI => ?_)
    have hw := hw.2 u58 eu58
    refine lv_iload_n S.1 S.2.1 dX12_drops1_59 rfl (lv_at hl 1 rfl) ?_
    refine lv_iconst (v := 1) S.1 S.2.1 dX12_drops1_60 (by decide) ?_
    refine lv_isub S.1 S.2.1 dX12_drops1_61 ?_
    refine lv_topi (fun y61 ey61 => ?_)
    have hw := hw y61 ey61
    refine lv_aload_n S.1 S.2.1 dX12_drops1_62 rfl (lv_at hl 0 rfl) ?_
    refine m_get S hin hI 0 (W12_at0 h r cs u58) rfl 46 (Nat.le_of_ble_eq_true rfl) (List.mem_of_getElem? (i := 1) rfl) rfl (Ff12_at46 r u58) dX12_drops1_63 ?_
    refine lv_bipush (v := 6) S.1 S.2.1 dX12_drops1_66 (by decide) ?_
    refine m_iald S hI 22 0 (W12_at22 h r cs u58) rfl hw.1 dX12_drops1_68 ?_
    refine lv_topi (fun y68 ey68 => ?_)
    have hw := hw.2 y68 ey68
    refine lv_icmp_ge (tgt := 82) S.1 S.2.1 dX12_drops1_69 (by decide) (fun c69 => ?_) (fun c69 => ?_)
    · have hw := hw.1 c69
      exact b82 u58 hw H locs ls hI (lv_sub hl [0] rfl)
    · have hw := hw.2 c69
      refine lv_aload_n S.1 S.2.1 dX12_drops1_72 rfl (lv_at hl 0 rfl) ?_
      refine m_get S hin hI 0 (W12_at0 h r cs u58) rfl 46 (Nat.le_of_ble_eq_true rfl) (List.mem_of_getElem? (i := 1) rfl) rfl (Ff12_at46 r u58) dX12_drops1_73 ?_
      refine lv_bipush (v := 6) S.1 S.2.1 dX12_drops1_76 (by decide) ?_
      refine lv_iload_n S.1 S.2.1 dX12_drops1_78 rfl (lv_at hl 1 rfl) ?_
      refine lv_iconst (v := 1) S.1 S.2.1 dX12_drops1_79 (by decide) ?_
      refine lv_isub S.1 S.2.1 dX12_drops1_80 ?_
      refine lv_topi (fun y80 ey80 => ?_)
      have hw := hw y80 ey80
      obtain ⟨u81, eu81⟩ : ∃ z : ST, z = sA u58 46 (upd (gA u58 46) (6 : Int32).toNatClampNeg y80) := ⟨_, rfl⟩
      refine m_iast S hI 22 0 (W12_at22 h r cs u58) rfl hw.1 (W12_sA46 h r cs u58 u81 _ eu81) dX12_drops1_81 (fun H locs hI => ?_)
      have hw := hw.2 u81 eu81
      exact b82 u81 hw H locs ls hI (lv_sub hl [0] rfl)
  · have hw := hw.2 c17
    refine lv_iload_n S.1 S.2.1 dX12_drops1_20 rfl (lv_at hl 1 rfl) ?_
    refine lv_aload_n S.1 S.2.1 dX12_drops1_21 rfl (lv_at hl 0 rfl) ?_
    refine m_get S hin hI 0 (W12_at0 h r cs u9) rfl 46 (Nat.le_of_ble_eq_true rfl) (List.mem_of_getElem? (i := 1) rfl) rfl (Ff12_at46 r u9) dX12_drops1_22 ?_
    refine lv_iconst (v := 5) S.1 S.2.1 dX12_drops1_25 (by decide) ?_
    refine m_iald S hI 22 0 (W12_at22 h r cs u9) rfl hw.1 dX12_drops1_26 ?_
    refine lv_topi (fun y26 ey26 => ?_)
    have hw := hw.2 y26 ey26
    refine lv_icmp_le (tgt := 37) S.1 S.2.1 dX12_drops1_27 (by decide) (fun c27 => ?_) (fun c27 => ?_)
    · have hw := hw.1 c27
      exact b37 u9 hw H locs ls hI (lv_sub hl [0] rfl)
    · have hw := hw.2 c27
      refine lv_aload_n S.1 S.2.1 dX12_drops1_30 rfl (lv_at hl 0 rfl) ?_
      refine m_get S hin hI 0 (W12_at0 h r cs u9) rfl 46 (Nat.le_of_ble_eq_true rfl) (List.mem_of_getElem? (i := 1) rfl) rfl (Ff12_at46 r u9) dX12_drops1_31 ?_
      refine lv_iconst (v := 5) S.1 S.2.1 dX12_drops1_34 (by decide) ?_
      refine lv_iload_n S.1 S.2.1 dX12_drops1_35 rfl (lv_at hl 1 rfl) ?_
      obtain ⟨u36, eu36⟩ : ∃ z : ST, z = sA u9 46 (upd (gA u9 46) (5 : Int32).toNatClampNeg a1) := ⟨_, rfl⟩
      refine m_iast S hI 22 0 (W12_at22 h r cs u9) rfl hw.1 (W12_sA46 h r cs u9 u36 _ eu36) dX12_drops1_36 (fun H locs hI => ?_)
      have hw := hw.2 u36 eu36
      exact b37 u36 hw H locs ls hI (lv_sub hl [0] rfl)

def wp_X12_drop_p42 (t0 : Int32) (u : ST) (Q : Int32 → ST → Prop) : Prop :=
  Q t0 u
def wp_X12_drop_p32 (u : ST) (Q : Int32 → ST → Prop) : Prop :=
  wp_X12_drop_p42 ((-5) : Int32) u Q
def wp_X12_drop (a1 : Int32) (u : ST) (Q : Int32 → ST → Prop) : Prop :=
  (wp_X12_stepsNow u (fun y3 u3 => (wp_X12_in a1 (1 : Int32) y3 (fun y6 => ((¬ y6 = 0 → (vp_in (0 : Int32) 9 ∧ ∀ y19 : Int32, y19 = gA u3 46 (0 : Int32).toNatClampNeg → ((y19 < 0 → wp_X12_drop_p32 u3 Q) ∧ (¬ y19 < 0 → (vp_in (2 : Int32) 9 ∧ ∀ y28 : Int32, y28 = gA u3 46 (2 : Int32).toNatClampNeg → ((¬ y28 = 0 → (wp_X12_drops1 a1 u3 (fun y39 u39 => wp_X12_drop_p42 y39 u39 Q))) ∧ (y28 = 0 → wp_X12_drop_p32 u3 Q))))))) ∧ (y6 = 0 → Q ((-1) : Int32) u3))))))
set_option maxHeartbeats 4000000 in
set_option maxRecDepth 100000 in
theorem c_X12_drop (l : Launch) (D : va_G) (h : Nat) (r : Nat → Nat) (cs : Nat → ClassId) (a1 : Int32) (u : ST) (Q : Int32 → ST → Prop) (hw : wp_X12_drop a1 u Q) : mCi l yX12_drop wsX12_drop ({ frames := 1, cells := 0, slots := 0, locals := 22 } : Room) 0 0 D (mT cs) (W12 h r cs) [.ref h, .int a1] u Q := by
  unfold mCi
  refine m_enter (QQ := fun A => va_Qi Q (mPos D (mT cs) A (W12 h r cs)) A) (cc := cX12_drop) (maxL := 2) (ret := (some .int)) (by decide) rfl (Nat.le_of_ble_eq_true rfl) ?_
  intro p e s m args below meth c A ls S hr hlocks hname hl hI
  have S : CallFix p m c cX12_drop 2 s args wsX12_drop RX12 := S
  show W p l e ({ frames := 1, cells := 0, slots := 0, locals := 22 } : Room) s m args below meth c s.heap [] 0 0 (MQ below (va_Qi Q (mPos D (mT cs) A (W12 h r cs)) A) args s 0 0 A) (F0 m 0 ls [])
  generalize hZ : MQ below (va_Qi Q (mPos D (mT cs) A (W12 h r cs)) A) args s 0 0 A = Z
  have hin : ∀ w ∈ wsX120, w ∈ wsX12_drop := fun _ h => List.mem_cons_of_mem _ (List.mem_append_right _ h)
  have hl : lv_has ls 2 [(0, .ref h), (1, .int a1)] := hl
  have b42 : ∀ (t0 : Int32) (u : ST), wp_X12_drop_p42 t0 u Q → mGo p l e ({ frames := 1, cells := 0, slots := 0, locals := 22 } : Room) s m args below meth c A Z 2 D (mT cs) (W12 h r cs) 42 [(0, .ref h)] [.int t0] u := by
    intro t0 u hw H locs ls hI hl
    unfold wp_X12_drop_p42 at hw
    subst hZ
    exact m_iret S hr hlocks hI hw dX12_drop_42
  have b32 : ∀ (u : ST), wp_X12_drop_p32 u Q → mGo p l e ({ frames := 1, cells := 0, slots := 0, locals := 22 } : Room) s m args below meth c A Z 2 D (mT cs) (W12 h r cs) 32 [(0, .ref h)] [] u := by
    intro u hw H locs ls hI hl
    unfold wp_X12_drop_p32 at hw
    refine lv_bipush (v := (-5)) S.1 S.2.1 dX12_drop_32 (by decide) ?_
    refine lv_goto (tgt := 42) S.1 S.2.1 dX12_drop_34 (by decide) ?_
    exact b42 ((-5) : Int32) u hw H locs ls hI (lv_sub hl [0] rfl)
  unfold wp_X12_drop at hw
  obtain ⟨H, hH⟩ : ∃ z : Heap, z = s.heap := ⟨_, rfl⟩
  obtain ⟨locs, hL⟩ : ∃ z : List Loc, z = [] := ⟨_, rfl⟩
  rw [show W p l e ({ frames := 1, cells := 0, slots := 0, locals := 22 } : Room) s m args below meth c s.heap [] 0 0 Z (F0 m 0 ls []) = W p l e ({ frames := 1, cells := 0, slots := 0, locals := 22 } : Room) s m args below meth c H locs 0 0 Z (F0 m 0 ls []) by rw [hH, hL]]
  replace hI : mI D (mT cs) A s.heap s (W12 h r cs u) H locs := by rw [hH, hL]; exact hI
  refine lv_iload_n S.1 S.2.1 dX12_drop_0 rfl (lv_at hl 1 rfl) ?_
  refine lv_iconst (v := 1) S.1 S.2.1 dX12_drop_1 (by decide) ?_
  refine lv_aload_n S.1 S.2.1 dX12_drop_2 rfl (lv_at hl 0 rfl) ?_
  refine m_vi (As := []) (rest := [.int (1 : Int32), .int a1]) S (W12_self h r cs) hI rfl (c_X12_stepsNow l D h r cs u _ hw) (cwV 0 S.2.2.2.2 gX12_drop_X12_stepsNow rfl rfl rfl (by decide +kernel) ⟨Nat.le_of_ble_eq_true rfl, Nat.le_of_ble_eq_true rfl⟩) (W12_at0 h r cs u) rfl rfl hl.1 rfl (Nat.le_of_ble_eq_true rfl) dX12_drop_3 ⟨Nat.zero_le _, Nat.zero_le _⟩ (fun y3 u3 H locs hw hI => ?_)
  refine m_si (As := [.int a1, .int (1 : Int32), .int y3]) (rest := []) S hI.2.2.2.1.2.1 (c_X12_in l a1 (1 : Int32) y3 _ hw) (va_cwS 3 S.2.2.2.2 gX12_drop_X12_in rfl rfl rfl (by decide +kernel) ⟨Nat.le_of_ble_eq_true rfl, Nat.le_of_ble_eq_true rfl⟩) rfl hl.1 rfl (Nat.le_of_ble_eq_true rfl) dX12_drop_6 ⟨Nat.zero_le _, Nat.zero_le _⟩ (fun y6 hw => ?_)
  refine lv_if_ne (tgt := 14) S.1 S.2.1 dX12_drop_9 (by decide) (fun c9 => ?_) (fun c9 => ?_)
  · have hw := hw.1 c9
    refine lv_aload_n S.1 S.2.1 dX12_drop_14 rfl (lv_at hl 0 rfl) ?_
    refine m_get S hin hI 0 (W12_at0 h r cs u3) rfl 46 (Nat.le_of_ble_eq_true rfl) (List.mem_of_getElem? (i := 1) rfl) rfl (Ff12_at46 r u3) dX12_drop_15 ?_
    refine lv_iconst (v := 0) S.1 S.2.1 dX12_drop_18 (by decide) ?_
    refine m_iald S hI 22 0 (W12_at22 h r cs u3) rfl hw.1 dX12_drop_19 ?_
    refine lv_topi (fun y19 ey19 => ?_)
    have hw := hw.2 y19 ey19
    refine lv_if_lt (tgt := 32) S.1 S.2.1 dX12_drop_20 (by decide) (fun c20 => ?_) (fun c20 => ?_)
    · have hw := hw.1 c20
      exact b32 u3 hw H locs ls hI (lv_sub hl [0] rfl)
    · have hw := hw.2 c20
      refine lv_aload_n S.1 S.2.1 dX12_drop_23 rfl (lv_at hl 0 rfl) ?_
      refine m_get S hin hI 0 (W12_at0 h r cs u3) rfl 46 (Nat.le_of_ble_eq_true rfl) (List.mem_of_getElem? (i := 1) rfl) rfl (Ff12_at46 r u3) dX12_drop_24 ?_
      refine lv_iconst (v := 2) S.1 S.2.1 dX12_drop_27 (by decide) ?_
      refine m_iald S hI 22 0 (W12_at22 h r cs u3) rfl hw.1 dX12_drop_28 ?_
      refine lv_topi (fun y28 ey28 => ?_)
      have hw := hw.2 y28 ey28
      refine lv_if_ne (tgt := 37) S.1 S.2.1 dX12_drop_29 (by decide) (fun c29 => ?_) (fun c29 => ?_)
      · have hw := hw.1 c29
        refine lv_aload_n S.1 S.2.1 dX12_drop_37 rfl (lv_at hl 0 rfl) ?_
        refine lv_iload_n S.1 S.2.1 dX12_drop_38 rfl (lv_at hl 1 rfl) ?_
        refine m_vi (As := [.int a1]) (rest := []) S (W12_self h r cs) hI rfl (c_X12_drops1 l D h r cs a1 u3 _ hw) (cwV 1 S.2.2.2.2 gX12_drop_X12_drops1 rfl rfl rfl (by decide +kernel) ⟨Nat.le_of_ble_eq_true rfl, Nat.le_of_ble_eq_true rfl⟩) (W12_at0 h r cs u3) rfl rfl hl.1 rfl (Nat.le_of_ble_eq_true rfl) dX12_drop_39 ⟨Nat.zero_le _, Nat.zero_le _⟩ (fun y39 u39 H locs hw hI => ?_)
        exact b42 y39 u39 hw H locs ls hI (lv_sub hl [0] rfl)
      · have hw := hw.2 c29
        exact b32 u3 hw H locs ls hI (lv_sub hl [0] rfl)
  · have hw := hw.2 c9
    refine lv_iconst (v := (-1)) S.1 S.2.1 dX12_drop_12 (by decide) ?_
    subst hZ
    exact m_iret S hr hlocks hI hw dX12_drop_13

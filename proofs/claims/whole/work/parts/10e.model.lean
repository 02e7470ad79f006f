/-! laid by program: X12_findPrices, X12_price, X12_pair, X12_leastTwo, X12_two, X12_ruleFirst, X12_goRule, X12_ruled, X12_step -/
def wp_X12_findPrices_p110 (x1 : Int32) (x2 : Int32) (x3 : Int32) (x4 : Int32) (u : ST) (B2 : Int32 → ST → Prop) (B10 : Int32 → Int32 → ST → Prop) (Q : ST → Prop) : Prop :=
  (∀ y117 : Int32, y117 = (7 : Int32) * x1 → (∀ y119 : Int32, y119 = y117 + x2 → (vp_in y119 434 ∧ ∀ u121 : ST, u121 = sA u 34 (upd (gA u 34) y119.toNatClampNeg x3) → (∀ y129 : Int32, y129 = (7 : Int32) * x1 → (∀ y131 : Int32, y131 = y129 + x2 → (vp_in y131 434 ∧ ∀ u134 : ST, u134 = sA u121 35 (upd (gA u121 35) y131.toNatClampNeg x4) → (∀ y135 : Int32, y135 = x2 + 1 → B10 x1 y135 u134)))))))
def wp_X12_findPrices_p104 (x1 : Int32) (x2 : Int32) (x3 : Int32) (x4 : Int32) (x5 : Int32) (u : ST) (B2 : Int32 → ST → Prop) (B10 : Int32 → Int32 → ST → Prop) (B35 : Int32 → Int32 → Int32 → Int32 → Int32 → ST → Prop) (Q : ST → Prop) : Prop :=
  (∀ y104 : Int32, y104 = x5 + 1 → B35 x1 x2 x3 x4 y104 u)
def wp_X12_findPrices_p35b (x1 : Int32) (x2 : Int32) (x3 : Int32) (x4 : Int32) (x5 : Int32) (u : ST) (B2 : Int32 → ST → Prop) (B10 : Int32 → Int32 → ST → Prop) (B35 : Int32 → Int32 → Int32 → Int32 → Int32 → ST → Prop) (Q : ST → Prop) : Prop :=
  ((x1 ≤ x5 → wp_X12_findPrices_p110 x1 x2 x3 x4 u B2 B10 Q) ∧ (¬ x1 ≤ x5 → ((x2 ≤ 0 → wp_X12_findPrices_p110 x1 x2 x3 x4 u B2 B10 Q) ∧ (¬ x2 ≤ 0 → (∀ y61 : Int32, y61 = (7 : Int32) * x5 → (∀ y63 : Int32, y63 = y61 + x2 → (∀ y65 : Int32, y65 = y63 - (1 : Int32) → (vp_in y65 434 ∧ ∀ y66 : Int32, y66 = gA u 34 y65.toNatClampNeg → (∀ y67 : Int32, y67 = (gI u 4) + y66 → (∀ y77 : Int32, y77 = x1 - x5 → (∀ y78 : Int32, y78 = (7 : Int32) * y77 → (∀ y80 : Int32, y80 = y78 + x2 → (vp_in y80 434 ∧ ∀ y81 : Int32, y81 = gA u 34 y80.toNatClampNeg → (wp_X12_greater y67 y81 (fun y82 => (∀ y85 : Int32, y85 = (gI u 3) + y82 → ((y85 < x3 → wp_X12_findPrices_p104 x1 x2 y85 x5 x5 u B2 B10 B35 Q) ∧ (¬ y85 < x3 → wp_X12_findPrices_p104 x1 x2 x3 x4 x5 u B2 B10 B35 Q))))))))))))))))))
def wp_X12_findPrices_p35 (x1 : Int32) (x2 : Int32) (x3 : Int32) (x4 : Int32) (x5 : Int32) (u : ST) (B2 : Int32 → ST → Prop) (B10 : Int32 → Int32 → ST → Prop) (Q : ST → Prop) : Prop := ∃ (I : Int32 → Int32 → Int32 → Int32 → Int32 → ST → Prop) (μ : Int32 → Int32 → Int32 → Int32 → Int32 → ST → Nat), I x1 x2 x3 x4 x5 u ∧ ∀ (x1 : Int32) (x2 : Int32) (x3 : Int32) (x4 : Int32) (x5 : Int32) (u : ST), I x1 x2 x3 x4 x5 u → wp_X12_findPrices_p35b x1 x2 x3 x4 x5 u B2 B10 (fun yx1 yx2 yx3 yx4 yx5 yu => I yx1 yx2 yx3 yx4 yx5 yu ∧ μ yx1 yx2 yx3 yx4 yx5 yu < μ x1 x2 x3 x4 x5 u) Q
def wp_X12_findPrices_p27 (x1 : Int32) (x2 : Int32) (t0 : Int32) (u : ST) (B2 : Int32 → ST → Prop) (B10 : Int32 → Int32 → ST → Prop) (Q : ST → Prop) : Prop :=
  wp_X12_findPrices_p35 x1 x2 t0 ((-2) : Int32) (1 : Int32) u B2 B10 Q
def wp_X12_findPrices_p10b (x1 : Int32) (x2 : Int32) (u : ST) (B2 : Int32 → ST → Prop) (B10 : Int32 → Int32 → ST → Prop) (Q : ST → Prop) : Prop :=
  (((6 : Int32) < x2 → (∀ y141 : Int32, y141 = x1 + 1 → B2 y141 u)) ∧ (¬ (6 : Int32) < x2 → ((¬ x1 = (1 : Int32) → wp_X12_findPrices_p27 x1 x2 (1000000 : Int32) u B2 B10 Q) ∧ (x1 = (1 : Int32) → wp_X12_findPrices_p27 x1 x2 (0 : Int32) u B2 B10 Q))))
def wp_X12_findPrices_p10 (x1 : Int32) (x2 : Int32) (u : ST) (B2 : Int32 → ST → Prop) (Q : ST → Prop) : Prop := ∃ (I : Int32 → Int32 → ST → Prop) (μ : Int32 → Int32 → ST → Nat), I x1 x2 u ∧ ∀ (x1 : Int32) (x2 : Int32) (u : ST), I x1 x2 u → wp_X12_findPrices_p10b x1 x2 u B2 (fun yx1 yx2 yu => I yx1 yx2 yu ∧ μ yx1 yx2 yu < μ x1 x2 u) Q
def wp_X12_findPrices_p2b (x1 : Int32) (u : ST) (B2 : Int32 → ST → Prop) (Q : ST → Prop) : Prop :=
  (((61 : Int32) < x1 → Q u) ∧ (¬ (61 : Int32) < x1 → wp_X12_findPrices_p10 x1 (0 : Int32) u B2 Q))
def wp_X12_findPrices_p2 (x1 : Int32) (u : ST) (Q : ST → Prop) : Prop := ∃ (I : Int32 → ST → Prop) (μ : Int32 → ST → Nat), I x1 u ∧ ∀ (x1 : Int32) (u : ST), I x1 u → wp_X12_findPrices_p2b x1 u (fun yx1 yu => I yx1 yu ∧ μ yx1 yu < μ x1 u) Q
def wp_X12_findPrices (u : ST) (Q : ST → Prop) : Prop :=
  wp_X12_findPrices_p2 (1 : Int32) u Q
set_option maxHeartbeats 4000000 in
set_option maxRecDepth 100000 in
theorem c_X12_findPrices (l : Launch) (D : va_G) (h : Nat) (r : Nat → Nat) (cs : Nat → ClassId) (u : ST) (Q : ST → Prop) (hw : wp_X12_findPrices u Q) : mCv l yX12_findPrices wsX12_findPrices ({ frames := 1, cells := 0, slots := 0, locals := 21 } : Room) 0 0 D (mT cs) (W12 h r cs) [.ref h] u Q := by
  unfold mCv
  refine m_enter (QQ := fun A => va_Qv Q (mPos D (mT cs) A (W12 h r cs)) A) (cc := cX12_findPrices) (maxL := 7) (ret := none) (by decide) rfl (Nat.le_of_ble_eq_true rfl) ?_
  intro p e s m args below meth c A ls S hr hlocks hname hl hI
  have S : CallFix p m c cX12_findPrices 7 s args wsX12_findPrices RX12 := S
  show W p l e ({ frames := 1, cells := 0, slots := 0, locals := 21 } : Room) s m args below meth c s.heap [] 0 0 (MQ below (va_Qv Q (mPos D (mT cs) A (W12 h r cs)) A) args s 0 0 A) (F0 m 0 ls [])
  generalize hZ : MQ below (va_Qv Q (mPos D (mT cs) A (W12 h r cs)) A) args s 0 0 A = Z
  have hin : ∀ w ∈ wsX120, w ∈ wsX12_findPrices := fun _ h => List.mem_cons_of_mem _ (List.mem_append_right _ h)
  have hl : lv_has ls 7 [(0, .ref h)] := hl
  have b110 : ∀ (B2 : Int32 → ST → Prop), (∀ (x1 : Int32) (u : ST), B2 x1 u → mGo p l e ({ frames := 1, cells := 0, slots := 0, locals := 21 } : Room) s m args below meth c A Z 7 D (mT cs) (W12 h r cs) 2 [(0, .ref h), (1, .int x1)] [] u) → ∀ (B10 : Int32 → Int32 → ST → Prop), (∀ (x1 : Int32) (x2 : Int32) (u : ST), B10 x1 x2 u → mGo p l e ({ frames := 1, cells := 0, slots := 0, locals := 21 } : Room) s m args below meth c A Z 7 D (mT cs) (W12 h r cs) 10 [(0, .ref h), (1, .int x1), (2, .int x2)] [] u) → ∀ (x1 : Int32) (x2 : Int32) (x3 : Int32) (x4 : Int32) (u : ST), wp_X12_findPrices_p110 x1 x2 x3 x4 u B2 B10 Q → mGo p l e ({ frames := 1, cells := 0, slots := 0, locals := 21 } : Room) s m args below meth c A Z 7 D (mT cs) (W12 h r cs) 110 [(0, .ref h), (1, .int x1), (2, .int x2), (3, .int x3), (4, .int x4)] [] u := by
    intro B2 hB2 B10 hB10 x1 x2 x3 x4 u hw H locs ls hI hl
    unfold wp_X12_findPrices_p110 at hw
    refine lv_aload_n S.1 S.2.1 dX12_findPrices_110 rfl (lv_at hl 0 rfl) ?_
    refine m_get S hin hI 0 (W12_at0 h r cs u) rfl 34 (Nat.le_of_ble_eq_true rfl) (List.mem_of_getElem? (i := 4) rfl) rfl (Ff12_at34 r u) dX12_findPrices_111 ?_
    refine lv_bipush (v := 7) S.1 S.2.1 dX12_findPrices_114 (by decide) ?_
    refine lv_iload_n S.1 S.2.1 dX12_findPrices_116 rfl (lv_at hl 1 rfl) ?_
    refine lv_imul S.1 S.2.1 dX12_findPrices_117 ?_
    refine lv_topi (fun y117 ey117 => ?_)
    have hw := hw y117 ey117
    refine lv_iload_n S.1 S.2.1 dX12_findPrices_118 rfl (lv_at hl 2 rfl) ?_
    refine lv_iadd S.1 S.2.1 dX12_findPrices_119 ?_
    refine lv_topi (fun y119 ey119 => ?_)
    have hw := hw y119 ey119
    refine lv_iload_n S.1 S.2.1 dX12_findPrices_120 rfl (lv_at hl 3 rfl) ?_
    obtain ⟨u121, eu121⟩ : ∃ z : ST, z = sA u 34 (upd (gA u 34) y119.toNatClampNeg x3) := ⟨_, rfl⟩
    refine m_iast S hI 19 0 (W12_at19 h r cs u) rfl hw.1 (W12_sA34 h r cs u u121 _ eu121) dX12_findPrices_121 (fun H locs hI => ?_)
    have hw := hw.2 u121 eu121
    refine lv_aload_n S.1 S.2.1 dX12_findPrices_122 rfl (lv_at hl 0 rfl) ?_
    refine m_get S hin hI 0 (W12_at0 h r cs u121) rfl 35 (Nat.le_of_ble_eq_true rfl) (List.mem_of_getElem? (i := 5) rfl) rfl (Ff12_at35 r u121) dX12_findPrices_123 ?_
    refine lv_bipush (v := 7) S.1 S.2.1 dX12_findPrices_126 (by decide) ?_
    refine lv_iload_n S.1 S.2.1 dX12_findPrices_128 rfl (lv_at hl 1 rfl) ?_
    refine lv_imul S.1 S.2.1 dX12_findPrices_129 ?_
    refine lv_topi (fun y129 ey129 => ?_)
    have hw := hw y129 ey129
    refine lv_iload_n S.1 S.2.1 dX12_findPrices_130 rfl (lv_at hl 2 rfl) ?_
    refine lv_iadd S.1 S.2.1 dX12_findPrices_131 ?_
    refine lv_topi (fun y131 ey131 => ?_)
    have hw := hw y131 ey131
    refine lv_iload S.1 S.2.1 dX12_findPrices_132 (lv_at hl 4 rfl) ?_
    obtain ⟨u134, eu134⟩ : ∃ z : ST, z = sA u121 35 (upd (gA u121 35) y131.toNatClampNeg x4) := ⟨_, rfl⟩
    refine m_iast S hI 20 0 (W12_at20 h r cs u121) rfl hw.1 (W12_sA35 h r cs u121 u134 _ eu134) dX12_findPrices_134 (fun H locs hI => ?_)
    have hw := hw.2 u134 eu134
    obtain ⟨y135, ey135⟩ : ∃ z : Int32, z = x2 + 1 := ⟨_, rfl⟩
    have hw := hw y135 ey135
    refine lv_iinc (v := y135) (lv' := [(2, .int y135), (0, .ref h), (1, .int x1), (3, .int x3), (4, .int x4)]) S.1 S.2.1 dX12_findPrices_135 hl (k := 2) rfl (by rw [ey135]; rfl) (by decide) rfl (fun ls hl => ?_)
    refine lv_goto (tgt := 10) S.1 S.2.1 dX12_findPrices_138 (by decide) ?_
    exact hB10 x1 y135 u134 hw H locs ls hI (lv_sub hl [1, 2, 0] rfl)
  have b104 : ∀ (B2 : Int32 → ST → Prop), (∀ (x1 : Int32) (u : ST), B2 x1 u → mGo p l e ({ frames := 1, cells := 0, slots := 0, locals := 21 } : Room) s m args below meth c A Z 7 D (mT cs) (W12 h r cs) 2 [(0, .ref h), (1, .int x1)] [] u) → ∀ (B10 : Int32 → Int32 → ST → Prop), (∀ (x1 : Int32) (x2 : Int32) (u : ST), B10 x1 x2 u → mGo p l e ({ frames := 1, cells := 0, slots := 0, locals := 21 } : Room) s m args below meth c A Z 7 D (mT cs) (W12 h r cs) 10 [(0, .ref h), (1, .int x1), (2, .int x2)] [] u) → ∀ (B35 : Int32 → Int32 → Int32 → Int32 → Int32 → ST → Prop), (∀ (x1 : Int32) (x2 : Int32) (x3 : Int32) (x4 : Int32) (x5 : Int32) (u : ST), B35 x1 x2 x3 x4 x5 u → mGo p l e ({ frames := 1, cells := 0, slots := 0, locals := 21 } : Room) s m args below meth c A Z 7 D (mT cs) (W12 h r cs) 35 [(0, .ref h), (1, .int x1), (2, .int x2), (3, .int x3), (4, .int x4), (5, .int x5)] [] u) → ∀ (x1 : Int32) (x2 : Int32) (x3 : Int32) (x4 : Int32) (x5 : Int32) (u : ST), wp_X12_findPrices_p104 x1 x2 x3 x4 x5 u B2 B10 B35 Q → mGo p l e ({ frames := 1, cells := 0, slots := 0, locals := 21 } : Room) s m args below meth c A Z 7 D (mT cs) (W12 h r cs) 104 [(0, .ref h), (1, .int x1), (2, .int x2), (3, .int x3), (4, .int x4), (5, .int x5)] [] u := by
    intro B2 hB2 B10 hB10 B35 hB35 x1 x2 x3 x4 x5 u hw H locs ls hI hl
    unfold wp_X12_findPrices_p104 at hw
    obtain ⟨y104, ey104⟩ : ∃ z : Int32, z = x5 + 1 := ⟨_, rfl⟩
    have hw := hw y104 ey104
    refine lv_iinc (v := y104) (lv' := [(5, .int y104), (0, .ref h), (1, .int x1), (2, .int x2), (3, .int x3), (4, .int x4)]) S.1 S.2.1 dX12_findPrices_104 hl (k := 5) rfl (by rw [ey104]; rfl) (by decide) rfl (fun ls hl => ?_)
    refine lv_goto (tgt := 35) S.1 S.2.1 dX12_findPrices_107 (by decide) ?_
    exact hB35 x1 x2 x3 x4 y104 u hw H locs ls hI (lv_sub hl [1, 2, 3, 4, 5, 0] rfl)
  have b35b : ∀ (B2 : Int32 → ST → Prop), (∀ (x1 : Int32) (u : ST), B2 x1 u → mGo p l e ({ frames := 1, cells := 0, slots := 0, locals := 21 } : Room) s m args below meth c A Z 7 D (mT cs) (W12 h r cs) 2 [(0, .ref h), (1, .int x1)] [] u) → ∀ (B10 : Int32 → Int32 → ST → Prop), (∀ (x1 : Int32) (x2 : Int32) (u : ST), B10 x1 x2 u → mGo p l e ({ frames := 1, cells := 0, slots := 0, locals := 21 } : Room) s m args below meth c A Z 7 D (mT cs) (W12 h r cs) 10 [(0, .ref h), (1, .int x1), (2, .int x2)] [] u) → ∀ (B35 : Int32 → Int32 → Int32 → Int32 → Int32 → ST → Prop), (∀ (x1 : Int32) (x2 : Int32) (x3 : Int32) (x4 : Int32) (x5 : Int32) (u : ST), B35 x1 x2 x3 x4 x5 u → mGo p l e ({ frames := 1, cells := 0, slots := 0, locals := 21 } : Room) s m args below meth c A Z 7 D (mT cs) (W12 h r cs) 35 [(0, .ref h), (1, .int x1), (2, .int x2), (3, .int x3), (4, .int x4), (5, .int x5)] [] u) → ∀ (x1 : Int32) (x2 : Int32) (x3 : Int32) (x4 : Int32) (x5 : Int32) (u : ST), wp_X12_findPrices_p35b x1 x2 x3 x4 x5 u B2 B10 B35 Q → mGo p l e ({ frames := 1, cells := 0, slots := 0, locals := 21 } : Room) s m args below meth c A Z 7 D (mT cs) (W12 h r cs) 35 [(0, .ref h), (1, .int x1), (2, .int x2), (3, .int x3), (4, .int x4), (5, .int x5)] [] u := by
    intro B2 hB2 B10 hB10 B35 hB35 x1 x2 x3 x4 x5 u hw H locs ls hI hl
    unfold wp_X12_findPrices_p35b at hw
    refine lv_iload S.1 S.2.1 dX12_findPrices_35 (lv_at hl 5 rfl) ?_
    refine lv_iload_n S.1 S.2.1 dX12_findPrices_37 rfl (lv_at hl 1 rfl) ?_
    refine lv_icmp_ge (tgt := 110) S.1 S.2.1 dX12_findPrices_38 (by decide) (fun c38 => ?_) (fun c38 => ?_)
    · have hw := hw.1 c38
      exact b110 B2 hB2 B10 hB10 x1 x2 x3 x4 u hw H locs ls hI (lv_sub hl [0, 1, 2, 3, 4] rfl)
    · have hw := hw.2 c38
      refine lv_iload_n S.1 S.2.1 dX12_findPrices_41 rfl (lv_at hl 2 rfl) ?_
      refine lv_if_le (tgt := 110) S.1 S.2.1 dX12_findPrices_42 (by decide) (fun c42 => ?_) (fun c42 => ?_)
      · have hw := hw.1 c42
        exact b110 B2 hB2 B10 hB10 x1 x2 x3 x4 u hw H locs ls hI (lv_sub hl [0, 1, 2, 3, 4] rfl)
      · have hw := hw.2 c42
        refine lv_aload_n S.1 S.2.1 dX12_findPrices_45 rfl (lv_at hl 0 rfl) ?_
        refine m_get S hin hI 0 (W12_at0 h r cs u) rfl 3 (Nat.le_of_ble_eq_true rfl) (List.mem_of_getElem? (i := 2) rfl) rfl (Ff12_at3 r u) dX12_findPrices_46 ?_
        refine lv_aload_n S.1 S.2.1 dX12_findPrices_49 rfl (lv_at hl 0 rfl) ?_
        refine m_get S hin hI 0 (W12_at0 h r cs u) rfl 4 (Nat.le_of_ble_eq_true rfl) (List.mem_of_getElem? (i := 3) rfl) rfl (Ff12_at4 r u) dX12_findPrices_50 ?_
        refine lv_aload_n S.1 S.2.1 dX12_findPrices_53 rfl (lv_at hl 0 rfl) ?_
        refine m_get S hin hI 0 (W12_at0 h r cs u) rfl 34 (Nat.le_of_ble_eq_true rfl) (List.mem_of_getElem? (i := 4) rfl) rfl (Ff12_at34 r u) dX12_findPrices_54 ?_
        refine lv_bipush (v := 7) S.1 S.2.1 dX12_findPrices_57 (by decide) ?_
        refine lv_iload S.1 S.2.1 dX12_findPrices_59 (lv_at hl 5 rfl) ?_
        refine lv_imul S.1 S.2.1 dX12_findPrices_61 ?_
        refine lv_topi (fun y61 ey61 => ?_)
        have hw := hw y61 ey61
        refine lv_iload_n S.1 S.2.1 dX12_findPrices_62 rfl (lv_at hl 2 rfl) ?_
        refine lv_iadd S.1 S.2.1 dX12_findPrices_63 ?_
        refine lv_topi (fun y63 ey63 => ?_)
        have hw := hw y63 ey63
        refine lv_iconst (v := 1) S.1 S.2.1 dX12_findPrices_64 (by decide) ?_
        refine lv_isub S.1 S.2.1 dX12_findPrices_65 ?_
        refine lv_topi (fun y65 ey65 => ?_)
        have hw := hw y65 ey65
        refine m_iald S hI 19 0 (W12_at19 h r cs u) rfl hw.1 dX12_findPrices_66 ?_
        refine lv_topi (fun y66 ey66 => ?_)
        have hw := hw.2 y66 ey66
        refine lv_iadd S.1 S.2.1 dX12_findPrices_67 ?_
        refine lv_topi (fun y67 ey67 => ?_)
        have hw := hw y67 ey67
        refine lv_aload_n S.1 S.2.1 dX12_findPrices_68 rfl (lv_at hl 0 rfl) ?_
        refine m_get S hin hI 0 (W12_at0 h r cs u) rfl 34 (Nat.le_of_ble_eq_true rfl) (List.mem_of_getElem? (i := 4) rfl) rfl (Ff12_at34 r u) dX12_findPrices_69 ?_
        refine lv_bipush (v := 7) S.1 S.2.1 dX12_findPrices_72 (by decide) ?_
        refine lv_iload_n S.1 S.2.1 dX12_findPrices_74 rfl (lv_at hl 1 rfl) ?_
        refine lv_iload S.1 S.2.1 dX12_findPrices_75 (lv_at hl 5 rfl) ?_
        refine lv_isub S.1 S.2.1 dX12_findPrices_77 ?_
        refine lv_topi (fun y77 ey77 => ?_)
        have hw := hw y77 ey77
        refine lv_imul S.1 S.2.1 dX12_findPrices_78 ?_
        refine lv_topi (fun y78 ey78 => ?_)
        have hw := hw y78 ey78
        refine lv_iload_n S.1 S.2.1 dX12_findPrices_79 rfl (lv_at hl 2 rfl) ?_
        refine lv_iadd S.1 S.2.1 dX12_findPrices_80 ?_
        refine lv_topi (fun y80 ey80 => ?_)
        have hw := hw y80 ey80
        refine m_iald S hI 19 0 (W12_at19 h r cs u) rfl hw.1 dX12_findPrices_81 ?_
        refine lv_topi (fun y81 ey81 => ?_)
        have hw := hw.2 y81 ey81
        refine m_si (As := [.int y67, .int y81]) (rest := [.int (gI u 3)]) S hI.2.2.2.1.2.1 (c_X12_greater l y67 y81 _ hw) (va_cwS 2 S.2.2.2.2 gX12_findPrices_X12_greater rfl rfl rfl (by decide +kernel) ⟨Nat.le_of_ble_eq_true rfl, Nat.le_of_ble_eq_true rfl⟩) rfl hl.1 rfl (Nat.le_of_ble_eq_true rfl) dX12_findPrices_82 ⟨Nat.zero_le _, Nat.zero_le _⟩ (fun y82 hw => ?_)
        refine lv_iadd S.1 S.2.1 dX12_findPrices_85 ?_
        refine lv_topi (fun y85 ey85 => ?_)
        have hw := hw y85 ey85
        refine lv_istore (lv' := [(6, .int y85), (0, .ref h), (1, .int x1), (2, .int x2), (3, .int x3), (4, .int x4), (5, .int x5)]) S.1 S.2.1 dX12_findPrices_86 hl (by decide) rfl (fun ls hl => ?_)
        refine lv_iload S.1 S.2.1 dX12_findPrices_88 (lv_at hl 0 rfl) ?_
        refine lv_iload_n S.1 S.2.1 dX12_findPrices_90 rfl (lv_at hl 4 rfl) ?_
        refine lv_icmp_lt (tgt := 97) S.1 S.2.1 dX12_findPrices_91 (by decide) (fun c91 => ?_) (fun c91 => ?_)
        · have hw := hw.1 c91
          refine lv_iload S.1 S.2.1 dX12_findPrices_97 (lv_at hl 0 rfl) ?_
          refine lv_istore_n (lv' := [(3, .int y85), (6, .int y85), (0, .ref h), (1, .int x1), (2, .int x2), (4, .int x4), (5, .int x5)]) S.1 S.2.1 dX12_findPrices_99 rfl hl (by decide) rfl (fun ls hl => ?_)
          refine lv_iload S.1 S.2.1 dX12_findPrices_100 (lv_at hl 6 rfl) ?_
          refine lv_istore (lv' := [(4, .int x5), (3, .int y85), (6, .int y85), (0, .ref h), (1, .int x1), (2, .int x2), (5, .int x5)]) S.1 S.2.1 dX12_findPrices_102 hl (by decide) rfl (fun ls hl => ?_)
          exact b104 B2 hB2 B10 hB10 B35 hB35 x1 x2 y85 x5 x5 u hw H locs ls hI (lv_sub hl [3, 4, 5, 1, 0, 6] rfl)
        · have hw := hw.2 c91
          refine lv_goto (tgt := 104) S.1 S.2.1 dX12_findPrices_94 (by decide) ?_
          exact b104 B2 hB2 B10 hB10 B35 hB35 x1 x2 x3 x4 x5 u hw H locs ls hI (lv_sub hl [1, 2, 3, 4, 5, 6] rfl)
  have b35 : ∀ (B2 : Int32 → ST → Prop), (∀ (x1 : Int32) (u : ST), B2 x1 u → mGo p l e ({ frames := 1, cells := 0, slots := 0, locals := 21 } : Room) s m args below meth c A Z 7 D (mT cs) (W12 h r cs) 2 [(0, .ref h), (1, .int x1)] [] u) → ∀ (B10 : Int32 → Int32 → ST → Prop), (∀ (x1 : Int32) (x2 : Int32) (u : ST), B10 x1 x2 u → mGo p l e ({ frames := 1, cells := 0, slots := 0, locals := 21 } : Room) s m args below meth c A Z 7 D (mT cs) (W12 h r cs) 10 [(0, .ref h), (1, .int x1), (2, .int x2)] [] u) → ∀ (x1 : Int32) (x2 : Int32) (x3 : Int32) (x4 : Int32) (x5 : Int32) (u : ST), wp_X12_findPrices_p35 x1 x2 x3 x4 x5 u B2 B10 Q → mGo p l e ({ frames := 1, cells := 0, slots := 0, locals := 21 } : Room) s m args below meth c A Z 7 D (mT cs) (W12 h r cs) 35 [(0, .ref h), (1, .int x1), (2, .int x2), (3, .int x3), (4, .int x4), (5, .int x5)] [] u := by
    intro B2 hB2 B10 hB10 x1 x2 x3 x4 x5 u hw
    obtain ⟨I, μ, h0, hs⟩ := hw
    have key : ∀ (n : Nat) (x1 : Int32) (x2 : Int32) (x3 : Int32) (x4 : Int32) (x5 : Int32) (u : ST), μ x1 x2 x3 x4 x5 u = n → I x1 x2 x3 x4 x5 u → mGo p l e ({ frames := 1, cells := 0, slots := 0, locals := 21 } : Room) s m args below meth c A Z 7 D (mT cs) (W12 h r cs) 35 [(0, .ref h), (1, .int x1), (2, .int x2), (3, .int x3), (4, .int x4), (5, .int x5)] [] u := by
      intro n
      induction n using Nat.strongRecOn with
      | ind n ih =>
        intro x1 x2 x3 x4 x5 u hn hi
        exact b35b B2 hB2 B10 hB10 (fun yx1 yx2 yx3 yx4 yx5 yu => I yx1 yx2 yx3 yx4 yx5 yu ∧ μ yx1 yx2 yx3 yx4 yx5 yu < μ x1 x2 x3 x4 x5 u) (fun yx1 yx2 yx3 yx4 yx5 yu hb => ih _ (hn ▸ hb.2) yx1 yx2 yx3 yx4 yx5 yu rfl hb.1) x1 x2 x3 x4 x5 u (hs x1 x2 x3 x4 x5 u hi)
    exact key _ x1 x2 x3 x4 x5 u rfl h0
  have b27 : ∀ (B2 : Int32 → ST → Prop), (∀ (x1 : Int32) (u : ST), B2 x1 u → mGo p l e ({ frames := 1, cells := 0, slots := 0, locals := 21 } : Room) s m args below meth c A Z 7 D (mT cs) (W12 h r cs) 2 [(0, .ref h), (1, .int x1)] [] u) → ∀ (B10 : Int32 → Int32 → ST → Prop), (∀ (x1 : Int32) (x2 : Int32) (u : ST), B10 x1 x2 u → mGo p l e ({ frames := 1, cells := 0, slots := 0, locals := 21 } : Room) s m args below meth c A Z 7 D (mT cs) (W12 h r cs) 10 [(0, .ref h), (1, .int x1), (2, .int x2)] [] u) → ∀ (x1 : Int32) (x2 : Int32) (t0 : Int32) (u : ST), wp_X12_findPrices_p27 x1 x2 t0 u B2 B10 Q → mGo p l e ({ frames := 1, cells := 0, slots := 0, locals := 21 } : Room) s m args below meth c A Z 7 D (mT cs) (W12 h r cs) 27 [(0, .ref h), (1, .int x1), (2, .int x2)] [.int t0] u := by
    intro B2 hB2 B10 hB10 x1 x2 t0 u hw H locs ls hI hl
    unfold wp_X12_findPrices_p27 at hw
    refine lv_istore_n (lv' := [(3, .int t0), (0, .ref h), (1, .int x1), (2, .int x2)]) S.1 S.2.1 dX12_findPrices_27 rfl hl (by decide) rfl (fun ls hl => ?_)
    refine lv_bipush (v := (-2)) S.1 S.2.1 dX12_findPrices_28 (by decide) ?_
    refine lv_istore (lv' := [(4, .int ((-2) : Int32)), (3, .int t0), (0, .ref h), (1, .int x1), (2, .int x2)]) S.1 S.2.1 dX12_findPrices_30 hl (by decide) rfl (fun ls hl => ?_)
    refine lv_iconst (v := 1) S.1 S.2.1 dX12_findPrices_32 (by decide) ?_
    refine lv_istore (lv' := [(5, .int (1 : Int32)), (4, .int ((-2) : Int32)), (3, .int t0), (0, .ref h), (1, .int x1), (2, .int x2)]) S.1 S.2.1 dX12_findPrices_33 hl (by decide) rfl (fun ls hl => ?_)
    exact b35 B2 hB2 B10 hB10 x1 x2 t0 ((-2) : Int32) (1 : Int32) u hw H locs ls hI (lv_sub hl [3, 4, 5, 2, 1, 0] rfl)
  have b10b : ∀ (B2 : Int32 → ST → Prop), (∀ (x1 : Int32) (u : ST), B2 x1 u → mGo p l e ({ frames := 1, cells := 0, slots := 0, locals := 21 } : Room) s m args below meth c A Z 7 D (mT cs) (W12 h r cs) 2 [(0, .ref h), (1, .int x1)] [] u) → ∀ (B10 : Int32 → Int32 → ST → Prop), (∀ (x1 : Int32) (x2 : Int32) (u : ST), B10 x1 x2 u → mGo p l e ({ frames := 1, cells := 0, slots := 0, locals := 21 } : Room) s m args below meth c A Z 7 D (mT cs) (W12 h r cs) 10 [(0, .ref h), (1, .int x1), (2, .int x2)] [] u) → ∀ (x1 : Int32) (x2 : Int32) (u : ST), wp_X12_findPrices_p10b x1 x2 u B2 B10 Q → mGo p l e ({ frames := 1, cells := 0, slots := 0, locals := 21 } : Room) s m args below meth c A Z 7 D (mT cs) (W12 h r cs) 10 [(0, .ref h), (1, .int x1), (2, .int x2)] [] u := by
    intro B2 hB2 B10 hB10 x1 x2 u hw H locs ls hI hl
    unfold wp_X12_findPrices_p10b at hw
    refine lv_iload_n S.1 S.2.1 dX12_findPrices_10 rfl (lv_at hl 2 rfl) ?_
    refine lv_bipush (v := 6) S.1 S.2.1 dX12_findPrices_11 (by decide) ?_
    refine lv_icmp_gt (tgt := 141) S.1 S.2.1 dX12_findPrices_13 (by decide) (fun c13 => ?_) (fun c13 => ?_)
    · have hw := hw.1 c13
      obtain ⟨y141, ey141⟩ : ∃ z : Int32, z = x1 + 1 := ⟨_, rfl⟩
      have hw := hw y141 ey141
      refine lv_iinc (v := y141) (lv' := [(1, .int y141), (0, .ref h), (2, .int x2)]) S.1 S.2.1 dX12_findPrices_141 hl (k := 1) rfl (by rw [ey141]; rfl) (by decide) rfl (fun ls hl => ?_)
      refine lv_goto (tgt := 2) S.1 S.2.1 dX12_findPrices_144 (by decide) ?_
      exact hB2 y141 u hw H locs ls hI (lv_sub hl [1, 0] rfl)
    · have hw := hw.2 c13
      refine lv_iload_n S.1 S.2.1 dX12_findPrices_16 rfl (lv_at hl 1 rfl) ?_
      refine lv_iconst (v := 1) S.1 S.2.1 dX12_findPrices_17 (by decide) ?_
      refine lv_icmp_ne (tgt := 25) S.1 S.2.1 dX12_findPrices_18 (by decide) (fun c18 => ?_) (fun c18 => ?_)
      · have hw := hw.1 c18
        refine lv_ldc S.1 S.2.1 S.2.2.2.1 (S.2.2.2.2 _ (List.mem_of_getElem? (i := 1) rfl)) dX12_findPrices_25 ?_
        exact b27 B2 hB2 B10 hB10 x1 x2 (1000000 : Int32) u hw H locs ls hI (lv_sub hl [0, 1, 2] rfl)
      · have hw := hw.2 c18
        refine lv_iconst (v := 0) S.1 S.2.1 dX12_findPrices_21 (by decide) ?_
        refine lv_goto (tgt := 27) S.1 S.2.1 dX12_findPrices_22 (by decide) ?_
        exact b27 B2 hB2 B10 hB10 x1 x2 (0 : Int32) u hw H locs ls hI (lv_sub hl [0, 1, 2] rfl)
  have b10 : ∀ (B2 : Int32 → ST → Prop), (∀ (x1 : Int32) (u : ST), B2 x1 u → mGo p l e ({ frames := 1, cells := 0, slots := 0, locals := 21 } : Room) s m args below meth c A Z 7 D (mT cs) (W12 h r cs) 2 [(0, .ref h), (1, .int x1)] [] u) → ∀ (x1 : Int32) (x2 : Int32) (u : ST), wp_X12_findPrices_p10 x1 x2 u B2 Q → mGo p l e ({ frames := 1, cells := 0, slots := 0, locals := 21 } : Room) s m args below meth c A Z 7 D (mT cs) (W12 h r cs) 10 [(0, .ref h), (1, .int x1), (2, .int x2)] [] u := by
    intro B2 hB2 x1 x2 u hw
    obtain ⟨I, μ, h0, hs⟩ := hw
    have key : ∀ (n : Nat) (x1 : Int32) (x2 : Int32) (u : ST), μ x1 x2 u = n → I x1 x2 u → mGo p l e ({ frames := 1, cells := 0, slots := 0, locals := 21 } : Room) s m args below meth c A Z 7 D (mT cs) (W12 h r cs) 10 [(0, .ref h), (1, .int x1), (2, .int x2)] [] u := by
      intro n
      induction n using Nat.strongRecOn with
      | ind n ih =>
        intro x1 x2 u hn hi
        exact b10b B2 hB2 (fun yx1 yx2 yu => I yx1 yx2 yu ∧ μ yx1 yx2 yu < μ x1 x2 u) (fun yx1 yx2 yu hb => ih _ (hn ▸ hb.2) yx1 yx2 yu rfl hb.1) x1 x2 u (hs x1 x2 u hi)
    exact key _ x1 x2 u rfl h0
  have b2b : ∀ (B2 : Int32 → ST → Prop), (∀ (x1 : Int32) (u : ST), B2 x1 u → mGo p l e ({ frames := 1, cells := 0, slots := 0, locals := 21 } : Room) s m args below meth c A Z 7 D (mT cs) (W12 h r cs) 2 [(0, .ref h), (1, .int x1)] [] u) → ∀ (x1 : Int32) (u : ST), wp_X12_findPrices_p2b x1 u B2 Q → mGo p l e ({ frames := 1, cells := 0, slots := 0, locals := 21 } : Room) s m args below meth c A Z 7 D (mT cs) (W12 h r cs) 2 [(0, .ref h), (1, .int x1)] [] u := by
    intro B2 hB2 x1 u hw H locs ls hI hl
    unfold wp_X12_findPrices_p2b at hw
    refine lv_iload_n S.1 S.2.1 dX12_findPrices_2 rfl (lv_at hl 1 rfl) ?_
    refine lv_bipush (v := 61) S.1 S.2.1 dX12_findPrices_3 (by decide) ?_
    refine lv_icmp_gt (tgt := 147) S.1 S.2.1 dX12_findPrices_5 (by decide) (fun c5 => ?_) (fun c5 => ?_)
    · have hw := hw.1 c5
      subst hZ
      exact m_vret S hr hlocks hI hw dX12_findPrices_147
    · have hw := hw.2 c5
      refine lv_iconst (v := 0) S.1 S.2.1 dX12_findPrices_8 (by decide) ?_
      refine lv_istore_n (lv' := [(2, .int (0 : Int32)), (0, .ref h), (1, .int x1)]) S.1 S.2.1 dX12_findPrices_9 rfl hl (by decide) rfl (fun ls hl => ?_)
      exact b10 B2 hB2 x1 (0 : Int32) u hw H locs ls hI (lv_sub hl [1, 2, 0] rfl)
  have b2 : ∀ (x1 : Int32) (u : ST), wp_X12_findPrices_p2 x1 u Q → mGo p l e ({ frames := 1, cells := 0, slots := 0, locals := 21 } : Room) s m args below meth c A Z 7 D (mT cs) (W12 h r cs) 2 [(0, .ref h), (1, .int x1)] [] u := by
    intro x1 u hw
    obtain ⟨I, μ, h0, hs⟩ := hw
    have key : ∀ (n : Nat) (x1 : Int32) (u : ST), μ x1 u = n → I x1 u → mGo p l e ({ frames := 1, cells := 0, slots := 0, locals := 21 } : Room) s m args below meth c A Z 7 D (mT cs) (W12 h r cs) 2 [(0, .ref h), (1, .int x1)] [] u := by
      intro n
      induction n using Nat.strongRecOn with
      | ind n ih =>
        intro x1 u hn hi
        exact b2b (fun yx1 yu => I yx1 yu ∧ μ yx1 yu < μ x1 u) (fun yx1 yu hb => ih _ (hn ▸ hb.2) yx1 yu rfl hb.1) x1 u (hs x1 u hi)
    exact key _ x1 u rfl h0
  unfold wp_X12_findPrices at hw
  obtain ⟨H, hH⟩ : ∃ z : Heap, z = s.heap := ⟨_, rfl⟩
  obtain ⟨locs, hL⟩ : ∃ z : List Loc, z = [] := ⟨_, rfl⟩
  rw [show W p l e ({ frames := 1, cells := 0, slots := 0, locals := 21 } : Room) s m args below meth c s.heap [] 0 0 Z (F0 m 0 ls []) = W p l e ({ frames := 1, cells := 0, slots := 0, locals := 21 } : Room) s m args below meth c H locs 0 0 Z (F0 m 0 ls []) by rw [hH, hL]]
  replace hI : mI D (mT cs) A s.heap s (W12 h r cs u) H locs := by rw [hH, hL]; exact hI
  refine lv_iconst (v := 1) S.1 S.2.1 dX12_findPrices_0 (by decide) ?_
  refine lv_istore_n (lv' := [(1, .int (1 : Int32)), (0, .ref h)]) S.1 S.2.1 dX12_findPrices_1 rfl hl (by decide) rfl (fun ls hl => ?_)
  exact b2 (1 : Int32) u hw H locs ls hI (lv_sub hl [1, 0] rfl)

def wp_X12_price_p16 (u : ST) (Q : Int32 → ST → Prop) : Prop :=
  Q ((-1) : Int32) u
def wp_X12_price_p70 (t0 : Int32) (u : ST) (Q : Int32 → ST → Prop) : Prop :=
  Q t0 u
def wp_X12_price (a1 : Int32) (a2 : Int32) (u : ST) (Q : Int32 → ST → Prop) : Prop :=
  (wp_X12_isSpan a1 (fun y1 => ((y1 = 0 → wp_X12_price_p16 u Q) ∧ (¬ y1 = 0 → (wp_X12_in a2 (0 : Int32) (1 : Int32) (fun y10 => ((¬ y10 = 0 → (wp_X12_findPrices u (fun u19 => (¬ (10 : Int32) = 0 ∧ ∀ y27 : Int32, y27 = a1 / (10 : Int32) → (∀ y28 : Int32, y28 = (7 : Int32) * y27 → (¬ (10 : Int32) = 0 ∧ ∀ y32 : Int32, y32 = a1 - a1 / (10 : Int32) * (10 : Int32) → (∀ y33 : Int32, y33 = y28 + y32 → (vp_in y33 434 ∧ ∀ y40 : Int32, y40 = gA u19 34 y33.toNatClampNeg → ((y40 < (1000000 : Int32) → ((¬ a2 = 0 → (vp_in y33 434 ∧ ∀ y69 : Int32, y69 = gA u19 35 y33.toNatClampNeg → wp_X12_price_p70 y69 u19 Q)) ∧ (a2 = 0 → (vp_in y33 434 ∧ ∀ y60 : Int32, y60 = gA u19 34 y33.toNatClampNeg → wp_X12_price_p70 y60 u19 Q)))) ∧ (¬ y40 < (1000000 : Int32) → wp_X12_price_p70 ((-2) : Int32) u19 Q)))))))))) ∧ (y10 = 0 → wp_X12_price_p16 u Q))))))))
set_option maxHeartbeats 4000000 in
set_option maxRecDepth 100000 in
theorem c_X12_price (l : Launch) (D : va_G) (h : Nat) (r : Nat → Nat) (cs : Nat → ClassId) (a1 : Int32) (a2 : Int32) (u : ST) (Q : Int32 → ST → Prop) (hw : wp_X12_price a1 a2 u Q) : mCi l yX12_price wsX12_price ({ frames := 2, cells := 0, slots := 0, locals := 47 } : Room) 0 0 D (mT cs) (W12 h r cs) [.ref h, .int a1, .int a2] u Q := by
  unfold mCi
  refine m_enter (QQ := fun A => va_Qi Q (mPos D (mT cs) A (W12 h r cs)) A) (cc := cX12_price) (maxL := 4) (ret := (some .int)) (by decide) rfl (Nat.le_of_ble_eq_true rfl) ?_
  intro p e s m args below meth c A ls S hr hlocks hname hl hI
  have S : CallFix p m c cX12_price 4 s args wsX12_price RX12 := S
  show W p l e ({ frames := 2, cells := 0, slots := 0, locals := 47 } : Room) s m args below meth c s.heap [] 0 0 (MQ below (va_Qi Q (mPos D (mT cs) A (W12 h r cs)) A) args s 0 0 A) (F0 m 0 ls [])
  generalize hZ : MQ below (va_Qi Q (mPos D (mT cs) A (W12 h r cs)) A) args s 0 0 A = Z
  have hin : ∀ w ∈ wsX120, w ∈ wsX12_price := fun _ h => List.mem_cons_of_mem _ (List.mem_append_right _ h)
  have hl : lv_has ls 4 [(0, .ref h), (1, .int a1), (2, .int a2)] := hl
  have b16 : ∀ (u : ST), wp_X12_price_p16 u Q → mGo p l e ({ frames := 2, cells := 0, slots := 0, locals := 47 } : Room) s m args below meth c A Z 4 D (mT cs) (W12 h r cs) 16 [(0, .ref h)] [] u := by
    intro u hw H locs ls hI hl
    unfold wp_X12_price_p16 at hw
    refine lv_iconst (v := (-1)) S.1 S.2.1 dX12_price_16 (by decide) ?_
    subst hZ
    exact m_iret S hr hlocks hI hw dX12_price_17
  have b70 : ∀ (t0 : Int32) (u : ST), wp_X12_price_p70 t0 u Q → mGo p l e ({ frames := 2, cells := 0, slots := 0, locals := 47 } : Room) s m args below meth c A Z 4 D (mT cs) (W12 h r cs) 70 [(0, .ref h)] [.int t0] u := by
    intro t0 u hw H locs ls hI hl
    unfold wp_X12_price_p70 at hw
    subst hZ
    exact m_iret S hr hlocks hI hw dX12_price_70
  unfold wp_X12_price at hw
  obtain ⟨H, hH⟩ : ∃ z : Heap, z = s.heap := ⟨_, rfl⟩
  obtain ⟨locs, hL⟩ : ∃ z : List Loc, z = [] := ⟨_, rfl⟩
  rw [show W p l e ({ frames := 2, cells := 0, slots := 0, locals := 47 } : Room) s m args below meth c s.heap [] 0 0 Z (F0 m 0 ls []) = W p l e ({ frames := 2, cells := 0, slots := 0, locals := 47 } : Room) s m args below meth c H locs 0 0 Z (F0 m 0 ls []) by rw [hH, hL]]
  replace hI : mI D (mT cs) A s.heap s (W12 h r cs u) H locs := by rw [hH, hL]; exact hI
  refine lv_iload_n S.1 S.2.1 dX12_price_0 rfl (lv_at hl 1 rfl) ?_
  refine m_si (As := [.int a1]) (rest := []) S hI.2.2.2.1.2.1 (c_X12_isSpan l a1 _ hw) (va_cwS 1 S.2.2.2.2 gX12_price_X12_isSpan rfl rfl rfl (by decide +kernel) ⟨Nat.le_of_ble_eq_true rfl, Nat.le_of_ble_eq_true rfl⟩) rfl hl.1 rfl (Nat.le_of_ble_eq_true rfl) dX12_price_1 ⟨Nat.zero_le _, Nat.zero_le _⟩ (fun y1 hw => ?_)
  refine lv_if_eq (tgt := 16) S.1 S.2.1 dX12_price_4 (by decide) (fun c4 => ?_) (fun c4 => ?_)
  · have hw := hw.1 c4
    exact b16 u hw H locs ls hI (lv_sub hl [0] rfl)
  · have hw := hw.2 c4
    refine lv_iload_n S.1 S.2.1 dX12_price_7 rfl (lv_at hl 2 rfl) ?_
    refine lv_iconst (v := 0) S.1 S.2.1 dX12_price_8 (by decide) ?_
    refine lv_iconst (v := 1) S.1 S.2.1 dX12_price_9 (by decide) ?_
    refine m_si (As := [.int a2, .int (0 : Int32), .int (1 : Int32)]) (rest := []) S hI.2.2.2.1.2.1 (c_X12_in l a2 (0 : Int32) (1 : Int32) _ hw) (va_cwS 3 S.2.2.2.2 gX12_price_X12_in rfl rfl rfl (by decide +kernel) ⟨Nat.le_of_ble_eq_true rfl, Nat.le_of_ble_eq_true rfl⟩) rfl hl.1 rfl (Nat.le_of_ble_eq_true rfl) dX12_price_10 ⟨Nat.zero_le _, Nat.zero_le _⟩ (fun y10 hw => ?_)
    refine lv_if_ne (tgt := 18) S.1 S.2.1 dX12_price_13 (by decide) (fun c13 => ?_) (fun c13 => ?_)
    · have hw := hw.1 c13
      refine lv_aload_n S.1 S.2.1 dX12_price_18 rfl (lv_at hl 0 rfl) ?_
      refine m_vv (As := []) (rest := []) S (W12_self h r cs) hI rfl (c_X12_findPrices l D h r cs u _ hw) (cwV 0 S.2.2.2.2 gX12_price_X12_findPrices rfl rfl rfl (by decide +kernel) ⟨Nat.le_of_ble_eq_true rfl, Nat.le_of_ble_eq_true rfl⟩) (W12_at0 h r cs u) rfl rfl hl.1 rfl (Nat.le_of_ble_eq_true rfl) dX12_price_19 ⟨Nat.zero_le _, Nat.zero_le _⟩ (fun u19 H locs hw hI => ?_)
      refine lv_bipush (v := 7) S.1 S.2.1 dX12_price_22 (by decide) ?_
      refine lv_iload_n S.1 S.2.1 dX12_price_24 rfl (lv_at hl 1 rfl) ?_
      refine lv_bipush (v := 10) S.1 S.2.1 dX12_price_25 (by decide) ?_
      refine lv_idiv S.1 S.2.1 dX12_price_27 hw.1 ?_
      have hw := hw.2
      refine lv_topi (fun y27 ey27 => ?_)
      have hw := hw y27 ey27
      refine lv_imul S.1 S.2.1 dX12_price_28 ?_
      refine lv_topi (fun y28 ey28 => ?_)
      have hw := hw y28 ey28
      refine lv_iload_n S.1 S.2.1 dX12_price_29 rfl (lv_at hl 1 rfl) ?_
      refine lv_bipush (v := 10) S.1 S.2.1 dX12_price_30 (by decide) ?_
      refine lv_irem S.1 S.2.1 dX12_price_32 hw.1 ?_
      have hw := hw.2
      refine lv_topi (fun y32 ey32 => ?_)
      have hw := hw y32 ey32
      refine lv_iadd S.1 S.2.1 dX12_price_33 ?_
      refine lv_topi (fun y33 ey33 => ?_)
      have hw := hw y33 ey33
      refine lv_istore_n (lv' := [(3, .int y33), (0, .ref h), (1, .int a1), (2, .int a2)]) S.1 S.2.1 dX12_price_34 rfl hl (by decide) rfl (fun ls hl => ?_)
      refine lv_aload_n S.1 S.2.1 dX12_price_35 rfl (lv_at hl 1 rfl) ?_
      refine m_get S hin hI 0 (W12_at0 h r cs u19) rfl 34 (Nat.le_of_ble_eq_true rfl) (List.mem_of_getElem? (i := 1) rfl) rfl (Ff12_at34 r u19) dX12_price_36 ?_
      refine lv_iload_n S.1 S.2.1 dX12_price_39 rfl (lv_at hl 0 rfl) ?_
      refine m_iald S hI 19 0 (W12_at19 h r cs u19) rfl hw.1 dX12_price_40 ?_
      refine lv_topi (fun y40 ey40 => ?_)
      have hw := hw.2 y40 ey40
      refine lv_ldc S.1 S.2.1 S.2.2.2.1 (S.2.2.2.2 _ (List.mem_of_getElem? (i := 2) rfl)) dX12_price_41 ?_
      refine lv_icmp_lt (tgt := 51) S.1 S.2.1 dX12_price_43 (by decide) (fun c43 => ?_) (fun c43 => ?_)
      · have hw := hw.1 c43
        refine lv_iload_n S.1 S.2.1 dX12_price_51 rfl (lv_at hl 3 rfl) ?_
        refine lv_if_ne (tgt := 64) S.1 S.2.1 dX12_price_52 (by decide) (fun c52 => ?_) (fun c52 => ?_)
        · have hw := hw.1 c52
          refine lv_aload_n S.1 S.2.1 dX12_price_64 rfl (lv_at hl 1 rfl) ?_
          refine m_get S hin hI 0 (W12_at0 h r cs u19) rfl 35 (Nat.le_of_ble_eq_true rfl) (List.mem_of_getElem? (i := 3) rfl) rfl (Ff12_at35 r u19) dX12_price_65 ?_
          refine lv_iload_n S.1 S.2.1 dX12_price_68 rfl (lv_at hl 0 rfl) ?_
          refine m_iald S hI 20 0 (W12_at20 h r cs u19) rfl hw.1 dX12_price_69 ?_
          refine lv_topi (fun y69 ey69 => ?_)
          have hw := hw.2 y69 ey69
          exact b70 y69 u19 hw H locs ls hI (lv_sub hl [1] rfl)
        · have hw := hw.2 c52
          refine lv_aload_n S.1 S.2.1 dX12_price_55 rfl (lv_at hl 1 rfl) ?_
          refine m_get S hin hI 0 (W12_at0 h r cs u19) rfl 34 (Nat.le_of_ble_eq_true rfl) (List.mem_of_getElem? (i := 1) rfl) rfl (Ff12_at34 r u19) dX12_price_56 ?_
          refine lv_iload_n S.1 S.2.1 dX12_price_59 rfl (lv_at hl 0 rfl) ?_
          refine m_iald S hI 19 0 (W12_at19 h r cs u19) rfl hw.1 dX12_price_60 ?_
          refine lv_topi (fun y60 ey60 => ?_)
          have hw := hw.2 y60 ey60
          refine lv_goto (tgt := 70) S.1 S.2.1 dX12_price_61 (by decide) ?_
          exact b70 y60 u19 hw H locs ls hI (lv_sub hl [1] rfl)
      · have hw := hw.2 c43
        refine lv_bipush (v := (-2)) S.1 S.2.1 dX12_price_46 (by decide) ?_
        refine lv_goto (tgt := 70) S.1 S.2.1 dX12_price_48 (by decide) ?_
        exact b70 ((-2) : Int32) u19 hw H locs ls hI (lv_sub hl [1] rfl)
    · have hw := hw.2 c13
      exact b16 u hw H locs ls hI (lv_sub hl [0] rfl)

def wp_X12_pair (a0 : Int32) (a1 : Int32) (a2 : Int32) (Q : Int32 → Prop) : Prop :=
  (∀ y3 : Int32, y3 = (32 : Int32) * a0 → (∀ y5 : Int32, y5 = y3 + a1 → (∀ y8 : Int32, y8 = y5 * (7 : Int32) → (∀ y10 : Int32, y10 = y8 + a2 → Q y10))))
set_option maxHeartbeats 4000000 in
set_option maxRecDepth 100000 in
theorem c_X12_pair (l : Launch) (a0 : Int32) (a1 : Int32) (a2 : Int32) (Q : Int32 → Prop) (hw : wp_X12_pair a0 a1 a2 Q) : mTi l yX12_pair wsX12_pair ({ frames := 0, cells := 0, slots := 0, locals := 0 } : Room) [.int a0, .int a1, .int a2] Q := by
  refine m_enterT (cc := cX12_pair) (maxL := 3) (ret := (some .int)) (by decide) rfl (Nat.le_of_ble_eq_true rfl) ?_
  intro p e s m args below meth c ls S hr hlocks hname hl hN
  have S : CallFix p m c cX12_pair 3 s args wsX12_pair RX12 := S
  generalize hZ : MQ below (vp_Si Q) args s 0 0 (fun _ => False) = Z
  have hl : lv_has ls 3 [(0, .int a0), (1, .int a1), (2, .int a2)] := hl
  unfold wp_X12_pair at hw
  refine lv_bipush (v := 32) S.1 S.2.1 dX12_pair_0 (by decide) ?_
  refine lv_iload_n S.1 S.2.1 dX12_pair_2 rfl (lv_at hl 0 rfl) ?_
  refine lv_imul S.1 S.2.1 dX12_pair_3 ?_
  refine lv_topi (fun y3 ey3 => ?_)
  have hw := hw y3 ey3
  refine lv_iload_n S.1 S.2.1 dX12_pair_4 rfl (lv_at hl 1 rfl) ?_
  refine lv_iadd S.1 S.2.1 dX12_pair_5 ?_
  refine lv_topi (fun y5 ey5 => ?_)
  have hw := hw y5 ey5
  refine lv_bipush (v := 7) S.1 S.2.1 dX12_pair_6 (by decide) ?_
  refine lv_imul S.1 S.2.1 dX12_pair_8 ?_
  refine lv_topi (fun y8 ey8 => ?_)
  have hw := hw y8 ey8
  refine lv_iload_n S.1 S.2.1 dX12_pair_9 rfl (lv_at hl 2 rfl) ?_
  refine lv_iadd S.1 S.2.1 dX12_pair_10 ?_
  refine lv_topi (fun y10 ey10 => ?_)
  have hw := hw y10 ey10
  subst hZ
  exact m_tiret S hr hlocks hw dX12_pair_11

def wp_X12_leastTwo_p184 (t0 : Int32) (u : ST) (Q : Int32 → ST → Prop) : Prop :=
  Q t0 u
def wp_X12_leastTwo_p170 (x4 : Int32) (u : ST) (Q : Int32 → ST → Prop) : Prop :=
  ((x4 ≤ (1000000 : Int32) → wp_X12_leastTwo_p184 x4 u Q) ∧ (¬ x4 ≤ (1000000 : Int32) → wp_X12_leastTwo_p184 (1000000 : Int32) u Q))
def wp_X12_leastTwo_p164 (x1 : Int32) (x2 : Int32) (x3 : Int32) (x4 : Int32) (x5 : Int32) (u : ST) (B100 : Int32 → Int32 → Int32 → Int32 → Int32 → ST → Prop) (Q : Int32 → ST → Prop) : Prop :=
  (∀ y164 : Int32, y164 = x5 + 1 → B100 x1 x2 x3 x4 y164 u)
def wp_X12_leastTwo_p100b (x1 : Int32) (x2 : Int32) (x3 : Int32) (x4 : Int32) (x5 : Int32) (u : ST) (B100 : Int32 → Int32 → Int32 → Int32 → Int32 → ST → Prop) (Q : Int32 → ST → Prop) : Prop :=
  ((x2 ≤ x5 → wp_X12_leastTwo_p170 x4 u Q) ∧ (¬ x2 ≤ x5 → ((x3 ≤ 0 → wp_X12_leastTwo_p170 x4 u Q) ∧ (¬ x3 ≤ 0 → (∀ y120 : Int32, y120 = x3 - (1 : Int32) → (wp_X12_pair x1 x5 y120 (fun y121 => (vp_in y121 7168 ∧ ∀ y124 : Int32, y124 = gA u 36 y121.toNatClampNeg → (∀ y133 : Int32, y133 = x2 - x5 → (wp_X12_pair x1 y133 x3 (fun y135 => (vp_in y135 7168 ∧ ∀ y138 : Int32, y138 = gA u 36 y135.toNatClampNeg → (wp_X12_greater y124 y138 (fun y139 => (∀ y142 : Int32, y142 = (1 : Int32) + y139 → ((y142 < x4 → (∀ u161 : ST, u161 = sI u 37 (1 : Int32) → wp_X12_leastTwo_p164 x1 x2 x3 y142 x5 u161 B100 Q)) ∧ (¬ y142 < x4 → wp_X12_leastTwo_p164 x1 x2 x3 x4 x5 u B100 Q)))))))))))))))))
def wp_X12_leastTwo_p100 (x1 : Int32) (x2 : Int32) (x3 : Int32) (x4 : Int32) (x5 : Int32) (u : ST) (Q : Int32 → ST → Prop) : Prop := ∃ (I : Int32 → Int32 → Int32 → Int32 → Int32 → ST → Prop) (μ : Int32 → Int32 → Int32 → Int32 → Int32 → ST → Nat), I x1 x2 x3 x4 x5 u ∧ ∀ (x1 : Int32) (x2 : Int32) (x3 : Int32) (x4 : Int32) (x5 : Int32) (u : ST), I x1 x2 x3 x4 x5 u → wp_X12_leastTwo_p100b x1 x2 x3 x4 x5 u (fun yx1 yx2 yx3 yx4 yx5 yu => I yx1 yx2 yx3 yx4 yx5 yu ∧ μ yx1 yx2 yx3 yx4 yx5 yu < μ x1 x2 x3 x4 x5 u) Q
def wp_X12_leastTwo_p97 (x1 : Int32) (x2 : Int32) (x3 : Int32) (x4 : Int32) (u : ST) (Q : Int32 → ST → Prop) : Prop :=
  wp_X12_leastTwo_p100 x1 x2 x3 x4 (1 : Int32) u Q
def wp_X12_leastTwo_p91 (x1 : Int32) (x2 : Int32) (x3 : Int32) (x4 : Int32) (x5 : Int32) (u : ST) (B27 : Int32 → Int32 → Int32 → Int32 → Int32 → ST → Prop) (Q : Int32 → ST → Prop) : Prop :=
  (∀ y91 : Int32, y91 = x5 + 1 → B27 x1 x2 x3 x4 y91 u)
def wp_X12_leastTwo_p27b (x1 : Int32) (x2 : Int32) (x3 : Int32) (x4 : Int32) (x5 : Int32) (u : ST) (B27 : Int32 → Int32 → Int32 → Int32 → Int32 → ST → Prop) (Q : Int32 → ST → Prop) : Prop :=
  ((x1 ≤ x5 → wp_X12_leastTwo_p97 x1 x2 x3 x4 u Q) ∧ (¬ x1 ≤ x5 → ((x3 ≤ 0 → wp_X12_leastTwo_p97 x1 x2 x3 x4 u Q) ∧ (¬ x3 ≤ 0 → (∀ y47 : Int32, y47 = x3 - (1 : Int32) → (wp_X12_pair x5 x2 y47 (fun y48 => (vp_in y48 7168 ∧ ∀ y51 : Int32, y51 = gA u 36 y48.toNatClampNeg → (∀ y59 : Int32, y59 = x1 - x5 → (wp_X12_pair y59 x2 x3 (fun y62 => (vp_in y62 7168 ∧ ∀ y65 : Int32, y65 = gA u 36 y62.toNatClampNeg → (wp_X12_greater y51 y65 (fun y66 => (∀ y69 : Int32, y69 = (1 : Int32) + y66 → ((y69 < x4 → (∀ u88 : ST, u88 = sI u 37 (0 : Int32) → wp_X12_leastTwo_p91 x1 x2 x3 y69 x5 u88 B27 Q)) ∧ (¬ y69 < x4 → wp_X12_leastTwo_p91 x1 x2 x3 x4 x5 u B27 Q)))))))))))))))))
def wp_X12_leastTwo_p27 (x1 : Int32) (x2 : Int32) (x3 : Int32) (x4 : Int32) (x5 : Int32) (u : ST) (Q : Int32 → ST → Prop) : Prop := ∃ (I : Int32 → Int32 → Int32 → Int32 → Int32 → ST → Prop) (μ : Int32 → Int32 → Int32 → Int32 → Int32 → ST → Nat), I x1 x2 x3 x4 x5 u ∧ ∀ (x1 : Int32) (x2 : Int32) (x3 : Int32) (x4 : Int32) (x5 : Int32) (u : ST), I x1 x2 x3 x4 x5 u → wp_X12_leastTwo_p27b x1 x2 x3 x4 x5 u (fun yx1 yx2 yx3 yx4 yx5 yu => I yx1 yx2 yx3 yx4 yx5 yu ∧ μ yx1 yx2 yx3 yx4 yx5 yu < μ x1 x2 x3 x4 x5 u) Q
def wp_X12_leastTwo_p16 (x1 : Int32) (x2 : Int32) (x3 : Int32) (t0 : Int32) (u : ST) (Q : Int32 → ST → Prop) : Prop :=
  (∀ u21 : ST, u21 = sI u 37 ((-2) : Int32) → wp_X12_leastTwo_p27 x1 x2 x3 t0 (1 : Int32) u21 Q)
def wp_X12_leastTwo_p14 (x1 : Int32) (x2 : Int32) (x3 : Int32) (u : ST) (Q : Int32 → ST → Prop) : Prop :=
  wp_X12_leastTwo_p16 x1 x2 x3 (1000000 : Int32) u Q
def wp_X12_leastTwo (a1 : Int32) (a2 : Int32) (a3 : Int32) (u : ST) (Q : Int32 → ST → Prop) : Prop :=
  ((¬ a1 = (1 : Int32) → wp_X12_leastTwo_p14 a1 a2 a3 u Q) ∧ (a1 = (1 : Int32) → ((¬ a2 = (1 : Int32) → wp_X12_leastTwo_p14 a1 a2 a3 u Q) ∧ (a2 = (1 : Int32) → wp_X12_leastTwo_p16 a1 a2 a3 (0 : Int32) u Q))))
set_option maxHeartbeats 4000000 in
set_option maxRecDepth 100000 in
theorem c_X12_leastTwo (l : Launch) (D : va_G) (h : Nat) (r : Nat → Nat) (cs : Nat → ClassId) (a1 : Int32) (a2 : Int32) (a3 : Int32) (u : ST) (Q : Int32 → ST → Prop) (hw : wp_X12_leastTwo a1 a2 a3 u Q) : mCi l yX12_leastTwo wsX12_leastTwo ({ frames := 1, cells := 0, slots := 0, locals := 22 } : Room) 0 0 D (mT cs) (W12 h r cs) [.ref h, .int a1, .int a2, .int a3] u Q := by
  unfold mCi
  refine m_enter (QQ := fun A => va_Qi Q (mPos D (mT cs) A (W12 h r cs)) A) (cc := cX12_leastTwo) (maxL := 7) (ret := (some .int)) (by decide) rfl (Nat.le_of_ble_eq_true rfl) ?_
  intro p e s m args below meth c A ls S hr hlocks hname hl hI
  have S : CallFix p m c cX12_leastTwo 7 s args wsX12_leastTwo RX12 := S
  show W p l e ({ frames := 1, cells := 0, slots := 0, locals := 22 } : Room) s m args below meth c s.heap [] 0 0 (MQ below (va_Qi Q (mPos D (mT cs) A (W12 h r cs)) A) args s 0 0 A) (F0 m 0 ls [])
  generalize hZ : MQ below (va_Qi Q (mPos D (mT cs) A (W12 h r cs)) A) args s 0 0 A = Z
  have hin : ∀ w ∈ wsX120, w ∈ wsX12_leastTwo := fun _ h => List.mem_cons_of_mem _ (List.mem_append_right _ h)
  have hl : lv_has ls 7 [(0, .ref h), (1, .int a1), (2, .int a2), (3, .int a3)] := hl
  have b184 : ∀ (t0 : Int32) (u : ST), wp_X12_leastTwo_p184 t0 u Q → mGo p l e ({ frames := 1, cells := 0, slots := 0, locals := 22 } : Room) s m args below meth c A Z 7 D (mT cs) (W12 h r cs) 184 [(0, .ref h)] [.int t0] u := by
    intro t0 u hw H locs ls hI hl
    unfold wp_X12_leastTwo_p184 at hw
    subst hZ
    exact m_iret S hr hlocks hI hw dX12_leastTwo_184
  have b170 : ∀ (x4 : Int32) (u : ST), wp_X12_leastTwo_p170 x4 u Q → mGo p l e ({ frames := 1, cells := 0, slots := 0, locals := 22 } : Room) s m args below meth c A Z 7 D (mT cs) (W12 h r cs) 170 [(0, .ref h), (4, .int x4)] [] u := by
    intro x4 u hw H locs ls hI hl
    unfold wp_X12_leastTwo_p170 at hw
    refine lv_iload S.1 S.2.1 dX12_leastTwo_170 (lv_at hl 1 rfl) ?_
    refine lv_ldc S.1 S.2.1 S.2.2.2.1 (S.2.2.2.2 _ (List.mem_of_getElem? (i := 1) rfl)) dX12_leastTwo_172 ?_
    refine lv_icmp_le (tgt := 182) S.1 S.2.1 dX12_leastTwo_174 (by decide) (fun c174 => ?_) (fun c174 => ?_)
    · have hw := hw.1 c174
      refine lv_iload S.1 S.2.1 dX12_leastTwo_182 (lv_at hl 1 rfl) ?_
      exact b184 x4 u hw H locs ls hI (lv_sub hl [0] rfl)
    · have hw := hw.2 c174
      refine lv_ldc S.1 S.2.1 S.2.2.2.1 (S.2.2.2.2 _ (List.mem_of_getElem? (i := 1) rfl)) dX12_leastTwo_177 ?_
      refine lv_goto (tgt := 184) S.1 S.2.1 dX12_leastTwo_179 (by decide) ?_
      exact b184 (1000000 : Int32) u hw H locs ls hI (lv_sub hl [0] rfl)
  have b164 : ∀ (B100 : Int32 → Int32 → Int32 → Int32 → Int32 → ST → Prop), (∀ (x1 : Int32) (x2 : Int32) (x3 : Int32) (x4 : Int32) (x5 : Int32) (u : ST), B100 x1 x2 x3 x4 x5 u → mGo p l e ({ frames := 1, cells := 0, slots := 0, locals := 22 } : Room) s m args below meth c A Z 7 D (mT cs) (W12 h r cs) 100 [(0, .ref h), (1, .int x1), (2, .int x2), (3, .int x3), (4, .int x4), (5, .int x5)] [] u) → ∀ (x1 : Int32) (x2 : Int32) (x3 : Int32) (x4 : Int32) (x5 : Int32) (u : ST), wp_X12_leastTwo_p164 x1 x2 x3 x4 x5 u B100 Q → mGo p l e ({ frames := 1, cells := 0, slots := 0, locals := 22 } : Room) s m args below meth c A Z 7 D (mT cs) (W12 h r cs) 164 [(0, .ref h), (1, .int x1), (2, .int x2), (3, .int x3), (4, .int x4), (5, .int x5)] [] u := by
    intro B100 hB100 x1 x2 x3 x4 x5 u hw H locs ls hI hl
    unfold wp_X12_leastTwo_p164 at hw
    obtain ⟨y164, ey164⟩ : ∃ z : Int32, z = x5 + 1 := ⟨_, rfl⟩
    have hw := hw y164 ey164
    refine lv_iinc (v := y164) (lv' := [(5, .int y164), (0, .ref h), (1, .int x1), (2, .int x2), (3, .int x3), (4, .int x4)]) S.1 S.2.1 dX12_leastTwo_164 hl (k := 5) rfl (by rw [ey164]; rfl) (by decide) rfl (fun ls hl => ?_)
    refine lv_goto (tgt := 100) S.1 S.2.1 dX12_leastTwo_167 (by decide) ?_
    exact hB100 x1 x2 x3 x4 y164 u hw H locs ls hI (lv_sub hl [1, 2, 3, 4, 5, 0] rfl)
  have b100b : ∀ (B100 : Int32 → Int32 → Int32 → Int32 → Int32 → ST → Prop), (∀ (x1 : Int32) (x2 : Int32) (x3 : Int32) (x4 : Int32) (x5 : Int32) (u : ST), B100 x1 x2 x3 x4 x5 u → mGo p l e ({ frames := 1, cells := 0, slots := 0, locals := 22 } : Room) s m args below meth c A Z 7 D (mT cs) (W12 h r cs) 100 [(0, .ref h), (1, .int x1), (2, .int x2), (3, .int x3), (4, .int x4), (5, .int x5)] [] u) → ∀ (x1 : Int32) (x2 : Int32) (x3 : Int32) (x4 : Int32) (x5 : Int32) (u : ST), wp_X12_leastTwo_p100b x1 x2 x3 x4 x5 u B100 Q → mGo p l e ({ frames := 1, cells := 0, slots := 0, locals := 22 } : Room) s m args below meth c A Z 7 D (mT cs) (W12 h r cs) 100 [(0, .ref h), (1, .int x1), (2, .int x2), (3, .int x3), (4, .int x4), (5, .int x5)] [] u := by
    intro B100 hB100 x1 x2 x3 x4 x5 u hw H locs ls hI hl
    unfold wp_X12_leastTwo_p100b at hw
    refine lv_iload S.1 S.2.1 dX12_leastTwo_100 (lv_at hl 5 rfl) ?_
    refine lv_iload_n S.1 S.2.1 dX12_leastTwo_102 rfl (lv_at hl 2 rfl) ?_
    refine lv_icmp_ge (tgt := 170) S.1 S.2.1 dX12_leastTwo_103 (by decide) (fun c103 => ?_) (fun c103 => ?_)
    · have hw := hw.1 c103
      exact b170 x4 u hw H locs ls hI (lv_sub hl [0, 4] rfl)
    · have hw := hw.2 c103
      refine lv_iload_n S.1 S.2.1 dX12_leastTwo_106 rfl (lv_at hl 3 rfl) ?_
      refine lv_if_le (tgt := 170) S.1 S.2.1 dX12_leastTwo_107 (by decide) (fun c107 => ?_) (fun c107 => ?_)
      · have hw := hw.1 c107
        exact b170 x4 u hw H locs ls hI (lv_sub hl [0, 4] rfl)
      · have hw := hw.2 c107
        refine lv_iconst (v := 1) S.1 S.2.1 dX12_leastTwo_110 (by decide) ?_
        refine lv_aload_n S.1 S.2.1 dX12_leastTwo_111 rfl (lv_at hl 0 rfl) ?_
        refine m_get S hin hI 0 (W12_at0 h r cs u) rfl 36 (Nat.le_of_ble_eq_true rfl) (List.mem_of_getElem? (i := 3) rfl) rfl (Ff12_at36 r u) dX12_leastTwo_112 ?_
        refine lv_iload_n S.1 S.2.1 dX12_leastTwo_115 rfl (lv_at hl 1 rfl) ?_
        refine lv_iload S.1 S.2.1 dX12_leastTwo_116 (lv_at hl 5 rfl) ?_
        refine lv_iload_n S.1 S.2.1 dX12_leastTwo_118 rfl (lv_at hl 3 rfl) ?_
        refine lv_iconst (v := 1) S.1 S.2.1 dX12_leastTwo_119 (by decide) ?_
        refine lv_isub S.1 S.2.1 dX12_leastTwo_120 ?_
        refine lv_topi (fun y120 ey120 => ?_)
        have hw := hw y120 ey120
        refine m_si (As := [.int x1, .int x5, .int y120]) (rest := [.ref (r 36), .int (1 : Int32)]) S hI.2.2.2.1.2.1 (c_X12_pair l x1 x5 y120 _ hw) (va_cwS 3 S.2.2.2.2 gX12_leastTwo_X12_pair rfl rfl rfl (by decide +kernel) ⟨Nat.le_of_ble_eq_true rfl, Nat.le_of_ble_eq_true rfl⟩) rfl hl.1 rfl (Nat.le_of_ble_eq_true rfl) dX12_leastTwo_121 ⟨Nat.zero_le _, Nat.zero_le _⟩ (fun y121 hw => ?_)
        refine m_iald S hI 21 0 (W12_at21 h r cs u) rfl hw.1 dX12_leastTwo_124 ?_
        refine lv_topi (fun y124 ey124 => ?_)
        have hw := hw.2 y124 ey124
        refine lv_aload_n S.1 S.2.1 dX12_leastTwo_125 rfl (lv_at hl 0 rfl) ?_
        refine m_get S hin hI 0 (W12_at0 h r cs u) rfl 36 (Nat.le_of_ble_eq_true rfl) (List.mem_of_getElem? (i := 3) rfl) rfl (Ff12_at36 r u) dX12_leastTwo_126 ?_
        refine lv_iload_n S.1 S.2.1 dX12_leastTwo_129 rfl (lv_at hl 1 rfl) ?_
        refine lv_iload_n S.1 S.2.1 dX12_leastTwo_130 rfl (lv_at hl 2 rfl) ?_
        refine lv_iload S.1 S.2.1 dX12_leastTwo_131 (lv_at hl 5 rfl) ?_
        refine lv_isub S.1 S.2.1 dX12_leastTwo_133 ?_
        refine lv_topi (fun y133 ey133 => ?_)
        have hw := hw y133 ey133
        refine lv_iload_n S.1 S.2.1 dX12_leastTwo_134 rfl (lv_at hl 3 rfl) ?_
        refine m_si (As := [.int x1, .int y133, .int x3]) (rest := [.ref (r 36), .int y124, .int (1 : Int32)]) S hI.2.2.2.1.2.1 (c_X12_pair l x1 y133 x3 _ hw) (va_cwS 3 S.2.2.2.2 gX12_leastTwo_X12_pair rfl rfl rfl (by decide +kernel) ⟨Nat.le_of_ble_eq_true rfl, Nat.le_of_ble_eq_true rfl⟩) rfl hl.1 rfl (Nat.le_of_ble_eq_true rfl) dX12_leastTwo_135 ⟨Nat.zero_le _, Nat.zero_le _⟩ (fun y135 hw => ?_)
        refine m_iald S hI 21 0 (W12_at21 h r cs u) rfl hw.1 dX12_leastTwo_138 ?_
        refine lv_topi (fun y138 ey138 => ?_)
        have hw := hw.2 y138 ey138
        refine m_si (As := [.int y124, .int y138]) (rest := [.int (1 : Int32)]) S hI.2.2.2.1.2.1 (c_X12_greater l y124 y138 _ hw) (va_cwS 2 S.2.2.2.2 gX12_leastTwo_X12_greater rfl rfl rfl (by decide +kernel) ⟨Nat.le_of_ble_eq_true rfl, Nat.le_of_ble_eq_true rfl⟩) rfl hl.1 rfl (Nat.le_of_ble_eq_true rfl) dX12_leastTwo_139 ⟨Nat.zero_le _, Nat.zero_le _⟩ (fun y139 hw => ?_)
        refine lv_iadd S.1 S.2.1 dX12_leastTwo_142 ?_
        refine lv_topi (fun y142 ey142 => ?_)
        have hw := hw y142 ey142
        refine lv_istore (lv' := [(6, .int y142), (0, .ref h), (1, .int x1), (2, .int x2), (3, .int x3), (4, .int x4), (5, .int x5)]) S.1 S.2.1 dX12_leastTwo_143 hl (by decide) rfl (fun ls hl => ?_)
        refine lv_iload S.1 S.2.1 dX12_leastTwo_145 (lv_at hl 0 rfl) ?_
        refine lv_iload S.1 S.2.1 dX12_leastTwo_147 (lv_at hl 5 rfl) ?_
        refine lv_icmp_lt (tgt := 155) S.1 S.2.1 dX12_leastTwo_149 (by decide) (fun c149 => ?_) (fun c149 => ?_)
        · have hw := hw.1 c149
          refine lv_iload S.1 S.2.1 dX12_leastTwo_155 (lv_at hl 0 rfl) ?_
          refine lv_istore (lv' := [(4, .int y142), (6, .int y142), (0, .ref h), (1, .int x1), (2, .int x2), (3, .int x3), (5, .int x5)]) S.1 S.2.1 dX12_leastTwo_157 hl (by decide) rfl (fun ls hl => ?_)
          refine lv_aload_n S.1 S.2.1 dX12_leastTwo_159 rfl (lv_at hl 2 rfl) ?_
          refine lv_iconst (v := 1) S.1 S.2.1 dX12_leastTwo_160 (by decide) ?_
          obtain ⟨u161, eu161⟩ : ∃ z : ST, z = sI u 37 (1 : Int32) := ⟨_, rfl⟩
          have hw := hw u161 eu161
          refine m_put S hin tyX12_ok nmX12 hI 0 (W12_at0 h r cs u) rfl 37 (Nat.le_of_ble_eq_true rfl) (List.mem_of_getElem? (i := 2) rfl) rfl rfl rfl rfl (Nat.le_of_ble_eq_true rfl) (W12_sI37 h r cs u u161 (1 : Int32) eu161) dX12_leastTwo_161 (fun H locs hI => ?_)
          exact b164 B100 hB100 x1 x2 x3 y142 x5 u161 hw H locs ls hI (lv_sub hl [2, 3, 4, 5, 0, 6] rfl)
        · have hw := hw.2 c149
          refine lv_goto (tgt := 164) S.1 S.2.1 dX12_leastTwo_152 (by decide) ?_
          exact b164 B100 hB100 x1 x2 x3 x4 x5 u hw H locs ls hI (lv_sub hl [1, 2, 3, 4, 5, 6] rfl)
  have b100 : ∀ (x1 : Int32) (x2 : Int32) (x3 : Int32) (x4 : Int32) (x5 : Int32) (u : ST), wp_X12_leastTwo_p100 x1 x2 x3 x4 x5 u Q → mGo p l e ({ frames := 1, cells := 0, slots := 0, locals := 22 } : Room) s m args below meth c A Z 7 D (mT cs) (W12 h r cs) 100 [(0, .ref h), (1, .int x1), (2, .int x2), (3, .int x3), (4, .int x4), (5, .int x5)] [] u := by
    intro x1 x2 x3 x4 x5 u hw
    obtain ⟨I, μ, h0, hs⟩ := hw
    have key : ∀ (n : Nat) (x1 : Int32) (x2 : Int32) (x3 : Int32) (x4 : Int32) (x5 : Int32) (u : ST), μ x1 x2 x3 x4 x5 u = n → I x1 x2 x3 x4 x5 u → mGo p l e ({ frames := 1, cells := 0, slots := 0, locals := 22 } : Room) s m args below meth c A Z 7 D (mT cs) (W12 h r cs) 100 [(0, .ref h), (1, .int x1), (2, .int x2), (3, .int x3), (4, .int x4), (5, .int x5)] [] u := by
      intro n
      induction n using Nat.strongRecOn with
      | ind n ih =>
        intro x1 x2 x3 x4 x5 u hn hi
        exact b100b (fun yx1 yx2 yx3 yx4 yx5 yu => I yx1 yx2 yx3 yx4 yx5 yu ∧ μ yx1 yx2 yx3 yx4 yx5 yu < μ x1 x2 x3 x4 x5 u) (fun yx1 yx2 yx3 yx4 yx5 yu hb => ih _ (hn ▸ hb.2) yx1 yx2 yx3 yx4 yx5 yu rfl hb.1) x1 x2 x3 x4 x5 u (hs x1 x2 x3 x4 x5 u hi)
    exact key _ x1 x2 x3 x4 x5 u rfl h0
  have b97 : ∀ (x1 : Int32) (x2 : Int32) (x3 : Int32) (x4 : Int32) (u : ST), wp_X12_leastTwo_p97 x1 x2 x3 x4 u Q → mGo p l e ({ frames := 1, cells := 0, slots := 0, locals := 22 } : Room) s m args below meth c A Z 7 D (mT cs) (W12 h r cs) 97 [(0, .ref h), (1, .int x1), (2, .int x2), (3, .int x3), (4, .int x4)] [] u := by
    intro x1 x2 x3 x4 u hw H locs ls hI hl
    unfold wp_X12_leastTwo_p97 at hw
    refine lv_iconst (v := 1) S.1 S.2.1 dX12_leastTwo_97 (by decide) ?_
    refine lv_istore (lv' := [(5, .int (1 : Int32)), (0, .ref h), (1, .int x1), (2, .int x2), (3, .int x3), (4, .int x4)]) S.1 S.2.1 dX12_leastTwo_98 hl (by decide) rfl (fun ls hl => ?_)
    exact b100 x1 x2 x3 x4 (1 : Int32) u hw H locs ls hI (lv_sub hl [1, 2, 3, 4, 5, 0] rfl)
  have b91 : ∀ (B27 : Int32 → Int32 → Int32 → Int32 → Int32 → ST → Prop), (∀ (x1 : Int32) (x2 : Int32) (x3 : Int32) (x4 : Int32) (x5 : Int32) (u : ST), B27 x1 x2 x3 x4 x5 u → mGo p l e ({ frames := 1, cells := 0, slots := 0, locals := 22 } : Room) s m args below meth c A Z 7 D (mT cs) (W12 h r cs) 27 [(0, .ref h), (1, .int x1), (2, .int x2), (3, .int x3), (4, .int x4), (5, .int x5)] [] u) → ∀ (x1 : Int32) (x2 : Int32) (x3 : Int32) (x4 : Int32) (x5 : Int32) (u : ST), wp_X12_leastTwo_p91 x1 x2 x3 x4 x5 u B27 Q → mGo p l e ({ frames := 1, cells := 0, slots := 0, locals := 22 } : Room) s m args below meth c A Z 7 D (mT cs) (W12 h r cs) 91 [(0, .ref h), (1, .int x1), (2, .int x2), (3, .int x3), (4, .int x4), (5, .int x5)] [] u := by
    intro B27 hB27 x1 x2 x3 x4 x5 u hw H locs ls hI hl
    unfold wp_X12_leastTwo_p91 at hw
    obtain ⟨y91, ey91⟩ : ∃ z : Int32, z = x5 + 1 := ⟨_, rfl⟩
    have hw := hw y91 ey91
    refine lv_iinc (v := y91) (lv' := [(5, .int y91), (0, .ref h), (1, .int x1), (2, .int x2), (3, .int x3), (4, .int x4)]) S.1 S.2.1 dX12_leastTwo_91 hl (k := 5) rfl (by rw [ey91]; rfl) (by decide) rfl (fun ls hl => ?_)
    refine lv_goto (tgt := 27) S.1 S.2.1 dX12_leastTwo_94 (by decide) ?_
    exact hB27 x1 x2 x3 x4 y91 u hw H locs ls hI (lv_sub hl [1, 2, 3, 4, 5, 0] rfl)
  have b27b : ∀ (B27 : Int32 → Int32 → Int32 → Int32 → Int32 → ST → Prop), (∀ (x1 : Int32) (x2 : Int32) (x3 : Int32) (x4 : Int32) (x5 : Int32) (u : ST), B27 x1 x2 x3 x4 x5 u → mGo p l e ({ frames := 1, cells := 0, slots := 0, locals := 22 } : Room) s m args below meth c A Z 7 D (mT cs) (W12 h r cs) 27 [(0, .ref h), (1, .int x1), (2, .int x2), (3, .int x3), (4, .int x4), (5, .int x5)] [] u) → ∀ (x1 : Int32) (x2 : Int32) (x3 : Int32) (x4 : Int32) (x5 : Int32) (u : ST), wp_X12_leastTwo_p27b x1 x2 x3 x4 x5 u B27 Q → mGo p l e ({ frames := 1, cells := 0, slots := 0, locals := 22 } : Room) s m args below meth c A Z 7 D (mT cs) (W12 h r cs) 27 [(0, .ref h), (1, .int x1), (2, .int x2), (3, .int x3), (4, .int x4), (5, .int x5)] [] u := by
    intro B27 hB27 x1 x2 x3 x4 x5 u hw H locs ls hI hl
    unfold wp_X12_leastTwo_p27b at hw
    refine lv_iload S.1 S.2.1 dX12_leastTwo_27 (lv_at hl 5 rfl) ?_
    refine lv_iload_n S.1 S.2.1 dX12_leastTwo_29 rfl (lv_at hl 1 rfl) ?_
    refine lv_icmp_ge (tgt := 97) S.1 S.2.1 dX12_leastTwo_30 (by decide) (fun c30 => ?_) (fun c30 => ?_)
    · have hw := hw.1 c30
      exact b97 x1 x2 x3 x4 u hw H locs ls hI (lv_sub hl [0, 1, 2, 3, 4] rfl)
    · have hw := hw.2 c30
      refine lv_iload_n S.1 S.2.1 dX12_leastTwo_33 rfl (lv_at hl 3 rfl) ?_
      refine lv_if_le (tgt := 97) S.1 S.2.1 dX12_leastTwo_34 (by decide) (fun c34 => ?_) (fun c34 => ?_)
      · have hw := hw.1 c34
        exact b97 x1 x2 x3 x4 u hw H locs ls hI (lv_sub hl [0, 1, 2, 3, 4] rfl)
      · have hw := hw.2 c34
        refine lv_iconst (v := 1) S.1 S.2.1 dX12_leastTwo_37 (by decide) ?_
        refine lv_aload_n S.1 S.2.1 dX12_leastTwo_38 rfl (lv_at hl 0 rfl) ?_
        refine m_get S hin hI 0 (W12_at0 h r cs u) rfl 36 (Nat.le_of_ble_eq_true rfl) (List.mem_of_getElem? (i := 3) rfl) rfl (Ff12_at36 r u) dX12_leastTwo_39 ?_
        refine lv_iload S.1 S.2.1 dX12_leastTwo_42 (lv_at hl 5 rfl) ?_
        refine lv_iload_n S.1 S.2.1 dX12_leastTwo_44 rfl (lv_at hl 2 rfl) ?_
        refine lv_iload_n S.1 S.2.1 dX12_leastTwo_45 rfl (lv_at hl 3 rfl) ?_
        refine lv_iconst (v := 1) S.1 S.2.1 dX12_leastTwo_46 (by decide) ?_
        refine lv_isub S.1 S.2.1 dX12_leastTwo_47 ?_
        refine lv_topi (fun y47 ey47 => ?_)
        have hw := hw y47 ey47
        refine m_si (As := [.int x5, .int x2, .int y47]) (rest := [.ref (r 36), .int (1 : Int32)]) S hI.2.2.2.1.2.1 (c_X12_pair l x5 x2 y47 _ hw) (va_cwS 3 S.2.2.2.2 gX12_leastTwo_X12_pair rfl rfl rfl (by decide +kernel) ⟨Nat.le_of_ble_eq_true rfl, Nat.le_of_ble_eq_true rfl⟩) rfl hl.1 rfl (Nat.le_of_ble_eq_true rfl) dX12_leastTwo_48 ⟨Nat.zero_le _, Nat.zero_le _⟩ (fun y48 hw => ?_)
        refine m_iald S hI 21 0 (W12_at21 h r cs u) rfl hw.1 dX12_leastTwo_51 ?_
        refine lv_topi (fun y51 ey51 => ?_)
        have hw := hw.2 y51 ey51
        refine lv_aload_n S.1 S.2.1 dX12_leastTwo_52 rfl (lv_at hl 0 rfl) ?_
        refine m_get S hin hI 0 (W12_at0 h r cs u) rfl 36 (Nat.le_of_ble_eq_true rfl) (List.mem_of_getElem? (i := 3) rfl) rfl (Ff12_at36 r u) dX12_leastTwo_53 ?_
        refine lv_iload_n S.1 S.2.1 dX12_leastTwo_56 rfl (lv_at hl 1 rfl) ?_
        refine lv_iload S.1 S.2.1 dX12_leastTwo_57 (lv_at hl 5 rfl) ?_
        refine lv_isub S.1 S.2.1 dX12_leastTwo_59 ?_
        refine lv_topi (fun y59 ey59 => ?_)
        have hw := hw y59 ey59
        refine lv_iload_n S.1 S.2.1 dX12_leastTwo_60 rfl (lv_at hl 2 rfl) ?_
        refine lv_iload_n S.1 S.2.1 dX12_leastTwo_61 rfl (lv_at hl 3 rfl) ?_
        refine m_si (As := [.int y59, .int x2, .int x3]) (rest := [.ref (r 36), .int y51, .int (1 : Int32)]) S hI.2.2.2.1.2.1 (c_X12_pair l y59 x2 x3 _ hw) (va_cwS 3 S.2.2.2.2 gX12_leastTwo_X12_pair rfl rfl rfl (by decide +kernel) ⟨Nat.le_of_ble_eq_true rfl, Nat.le_of_ble_eq_true rfl⟩) rfl hl.1 rfl (Nat.le_of_ble_eq_true rfl) dX12_leastTwo_62 ⟨Nat.zero_le _, Nat.zero_le _⟩ (fun y62 hw => ?_)
        refine m_iald S hI 21 0 (W12_at21 h r cs u) rfl hw.1 dX12_leastTwo_65 ?_
        refine lv_topi (fun y65 ey65 => ?_)
        have hw := hw.2 y65 ey65
        refine m_si (As := [.int y51, .int y65]) (rest := [.int (1 : Int32)]) S hI.2.2.2.1.2.1 (c_X12_greater l y51 y65 _ hw) (va_cwS 2 S.2.2.2.2 gX12_leastTwo_X12_greater rfl rfl rfl (by decide +kernel) ⟨Nat.le_of_ble_eq_true rfl, Nat.le_of_ble_eq_true rfl⟩) rfl hl.1 rfl (Nat.le_of_ble_eq_true rfl) dX12_leastTwo_66 ⟨Nat.zero_le _, Nat.zero_le _⟩ (fun y66 hw => ?_)
        refine lv_iadd S.1 S.2.1 dX12_leastTwo_69 ?_
        refine lv_topi (fun y69 ey69 => ?_)
        have hw := hw y69 ey69
        refine lv_istore (lv' := [(6, .int y69), (0, .ref h), (1, .int x1), (2, .int x2), (3, .int x3), (4, .int x4), (5, .int x5)]) S.1 S.2.1 dX12_leastTwo_70 hl (by decide) rfl (fun ls hl => ?_)
        refine lv_iload S.1 S.2.1 dX12_leastTwo_72 (lv_at hl 0 rfl) ?_
        refine lv_iload S.1 S.2.1 dX12_leastTwo_74 (lv_at hl 5 rfl) ?_
        refine lv_icmp_lt (tgt := 82) S.1 S.2.1 dX12_leastTwo_76 (by decide) (fun c76 => ?_) (fun c76 => ?_)
        · have hw := hw.1 c76
          refine lv_iload S.1 S.2.1 dX12_leastTwo_82 (lv_at hl 0 rfl) ?_
          refine lv_istore (lv' := [(4, .int y69), (6, .int y69), (0, .ref h), (1, .int x1), (2, .int x2), (3, .int x3), (5, .int x5)]) S.1 S.2.1 dX12_leastTwo_84 hl (by decide) rfl (fun ls hl => ?_)
          refine lv_aload_n S.1 S.2.1 dX12_leastTwo_86 rfl (lv_at hl 2 rfl) ?_
          refine lv_iconst (v := 0) S.1 S.2.1 dX12_leastTwo_87 (by decide) ?_
          obtain ⟨u88, eu88⟩ : ∃ z : ST, z = sI u 37 (0 : Int32) := ⟨_, rfl⟩
          have hw := hw u88 eu88
          refine m_put S hin tyX12_ok nmX12 hI 0 (W12_at0 h r cs u) rfl 37 (Nat.le_of_ble_eq_true rfl) (List.mem_of_getElem? (i := 2) rfl) rfl rfl rfl rfl (Nat.le_of_ble_eq_true rfl) (W12_sI37 h r cs u u88 (0 : Int32) eu88) dX12_leastTwo_88 (fun H locs hI => ?_)
          exact b91 B27 hB27 x1 x2 x3 y69 x5 u88 hw H locs ls hI (lv_sub hl [2, 3, 4, 5, 0, 6] rfl)
        · have hw := hw.2 c76
          refine lv_goto (tgt := 91) S.1 S.2.1 dX12_leastTwo_79 (by decide) ?_
          exact b91 B27 hB27 x1 x2 x3 x4 x5 u hw H locs ls hI (lv_sub hl [1, 2, 3, 4, 5, 6] rfl)
  have b27 : ∀ (x1 : Int32) (x2 : Int32) (x3 : Int32) (x4 : Int32) (x5 : Int32) (u : ST), wp_X12_leastTwo_p27 x1 x2 x3 x4 x5 u Q → mGo p l e ({ frames := 1, cells := 0, slots := 0, locals := 22 } : Room) s m args below meth c A Z 7 D (mT cs) (W12 h r cs) 27 [(0, .ref h), (1, .int x1), (2, .int x2), (3, .int x3), (4, .int x4), (5, .int x5)] [] u := by
    intro x1 x2 x3 x4 x5 u hw
    obtain ⟨I, μ, h0, hs⟩ := hw
    have key : ∀ (n : Nat) (x1 : Int32) (x2 : Int32) (x3 : Int32) (x4 : Int32) (x5 : Int32) (u : ST), μ x1 x2 x3 x4 x5 u = n → I x1 x2 x3 x4 x5 u → mGo p l e ({ frames := 1, cells := 0, slots := 0, locals := 22 } : Room) s m args below meth c A Z 7 D (mT cs) (W12 h r cs) 27 [(0, .ref h), (1, .int x1), (2, .int x2), (3, .int x3), (4, .int x4), (5, .int x5)] [] u := by
      intro n
      induction n using Nat.strongRecOn with
      | ind n ih =>
        intro x1 x2 x3 x4 x5 u hn hi
        exact b27b (fun yx1 yx2 yx3 yx4 yx5 yu => I yx1 yx2 yx3 yx4 yx5 yu ∧ μ yx1 yx2 yx3 yx4 yx5 yu < μ x1 x2 x3 x4 x5 u) (fun yx1 yx2 yx3 yx4 yx5 yu hb => ih _ (hn ▸ hb.2) yx1 yx2 yx3 yx4 yx5 yu rfl hb.1) x1 x2 x3 x4 x5 u (hs x1 x2 x3 x4 x5 u hi)
    exact key _ x1 x2 x3 x4 x5 u rfl h0
  have b16 : ∀ (x1 : Int32) (x2 : Int32) (x3 : Int32) (t0 : Int32) (u : ST), wp_X12_leastTwo_p16 x1 x2 x3 t0 u Q → mGo p l e ({ frames := 1, cells := 0, slots := 0, locals := 22 } : Room) s m args below meth c A Z 7 D (mT cs) (W12 h r cs) 16 [(0, .ref h), (1, .int x1), (2, .int x2), (3, .int x3)] [.int t0] u := by
    intro x1 x2 x3 t0 u hw H locs ls hI hl
    unfold wp_X12_leastTwo_p16 at hw
    refine lv_istore (lv' := [(4, .int t0), (0, .ref h), (1, .int x1), (2, .int x2), (3, .int x3)]) S.1 S.2.1 dX12_leastTwo_16 hl (by decide) rfl (fun ls hl => ?_)
    refine lv_aload_n S.1 S.2.1 dX12_leastTwo_18 rfl (lv_at hl 1 rfl) ?_
    refine lv_bipush (v := (-2)) S.1 S.2.1 dX12_leastTwo_19 (by decide) ?_
    obtain ⟨u21, eu21⟩ : ∃ z : ST, z = sI u 37 ((-2) : Int32) := ⟨_, rfl⟩
    have hw := hw u21 eu21
    refine m_put S hin tyX12_ok nmX12 hI 0 (W12_at0 h r cs u) rfl 37 (Nat.le_of_ble_eq_true rfl) (List.mem_of_getElem? (i := 2) rfl) rfl rfl rfl rfl (Nat.le_of_ble_eq_true rfl) (W12_sI37 h r cs u u21 ((-2) : Int32) eu21) dX12_leastTwo_21 (fun H locs hI => ?_)
    refine lv_iconst (v := 1) S.1 S.2.1 dX12_leastTwo_24 (by decide) ?_
    refine lv_istore (lv' := [(5, .int (1 : Int32)), (4, .int t0), (0, .ref h), (1, .int x1), (2, .int x2), (3, .int x3)]) S.1 S.2.1 dX12_leastTwo_25 hl (by decide) rfl (fun ls hl => ?_)
    exact b27 x1 x2 x3 t0 (1 : Int32) u21 hw H locs ls hI (lv_sub hl [2, 3, 4, 5, 1, 0] rfl)
  have b14 : ∀ (x1 : Int32) (x2 : Int32) (x3 : Int32) (u : ST), wp_X12_leastTwo_p14 x1 x2 x3 u Q → mGo p l e ({ frames := 1, cells := 0, slots := 0, locals := 22 } : Room) s m args below meth c A Z 7 D (mT cs) (W12 h r cs) 14 [(0, .ref h), (1, .int x1), (2, .int x2), (3, .int x3)] [] u := by
    intro x1 x2 x3 u hw H locs ls hI hl
    unfold wp_X12_leastTwo_p14 at hw
    refine lv_ldc S.1 S.2.1 S.2.2.2.1 (S.2.2.2.2 _ (List.mem_of_getElem? (i := 1) rfl)) dX12_leastTwo_14 ?_
    exact b16 x1 x2 x3 (1000000 : Int32) u hw H locs ls hI (lv_sub hl [0, 1, 2, 3] rfl)
  unfold wp_X12_leastTwo at hw
  obtain ⟨H, hH⟩ : ∃ z : Heap, z = s.heap := ⟨_, rfl⟩
  obtain ⟨locs, hL⟩ : ∃ z : List Loc, z = [] := ⟨_, rfl⟩
  rw [show W p l e ({ frames := 1, cells := 0, slots := 0, locals := 22 } : Room) s m args below meth c s.heap [] 0 0 Z (F0 m 0 ls []) = W p l e ({ frames := 1, cells := 0, slots := 0, locals := 22 } : Room) s m args below meth c H locs 0 0 Z (F0 m 0 ls []) by rw [hH, hL]]
  replace hI : mI D (mT cs) A s.heap s (W12 h r cs u) H locs := by rw [hH, hL]; exact hI
  refine lv_iload_n S.1 S.2.1 dX12_leastTwo_0 rfl (lv_at hl 1 rfl) ?_
  refine lv_iconst (v := 1) S.1 S.2.1 dX12_leastTwo_1 (by decide) ?_
  refine lv_icmp_ne (tgt := 14) S.1 S.2.1 dX12_leastTwo_2 (by decide) (fun c2 => ?_) (fun c2 => ?_)
  · have hw := hw.1 c2
    exact b14 a1 a2 a3 u hw H locs ls hI (lv_sub hl [0, 1, 2, 3] rfl)
  · have hw := hw.2 c2
    refine lv_iload_n S.1 S.2.1 dX12_leastTwo_5 rfl (lv_at hl 2 rfl) ?_
    refine lv_iconst (v := 1) S.1 S.2.1 dX12_leastTwo_6 (by decide) ?_
    refine lv_icmp_ne (tgt := 14) S.1 S.2.1 dX12_leastTwo_7 (by decide) (fun c7 => ?_) (fun c7 => ?_)
    · have hw := hw.1 c7
      exact b14 a1 a2 a3 u hw H locs ls hI (lv_sub hl [0, 1, 2, 3] rfl)
    · have hw := hw.2 c7
      refine lv_iconst (v := 0) S.1 S.2.1 dX12_leastTwo_10 (by decide) ?_
      refine lv_goto (tgt := 16) S.1 S.2.1 dX12_leastTwo_11 (by decide) ?_
      exact b16 a1 a2 a3 (0 : Int32) u hw H locs ls hI (lv_sub hl [0, 1, 2, 3] rfl)

def wp_X12_two_p49 (u : ST) (Q : Int32 → ST → Prop) : Prop :=
  Q ((-1) : Int32) u
def wp_X12_two_p166 (t0 : Int32) (u : ST) (Q : Int32 → ST → Prop) : Prop :=
  Q t0 u
def wp_X12_two_p78b (x1 : Int32) (x2 : Int32) (x3 : Int32) (x4 : Int32) (x5 : Int32) (x6 : Int32) (u : ST) (B54 : Int32 → Int32 → Int32 → Int32 → ST → Prop) (B66 : Int32 → Int32 → Int32 → Int32 → Int32 → ST → Prop) (B78 : Int32 → Int32 → Int32 → Int32 → Int32 → Int32 → ST → Prop) (Q : Int32 → ST → Prop) : Prop :=
  ((x2 < x6 → (∀ y114 : Int32, y114 = x5 + 1 → B66 x1 x2 x3 x4 y114 u)) ∧ (¬ x2 < x6 → (wp_X12_pair x4 x5 x6 (fun y94 => (wp_X12_leastTwo x4 x5 x6 u (fun y104 u104 => (vp_in y94 7168 ∧ ∀ u107 : ST, u107 = sA u104 36 (upd (gA u104 36) y94.toNatClampNeg y104) → (∀ y108 : Int32, y108 = x6 + 1 → B78 x1 x2 x3 x4 x5 y108 u107))))))))
def wp_X12_two_p78 (x1 : Int32) (x2 : Int32) (x3 : Int32) (x4 : Int32) (x5 : Int32) (x6 : Int32) (u : ST) (B54 : Int32 → Int32 → Int32 → Int32 → ST → Prop) (B66 : Int32 → Int32 → Int32 → Int32 → Int32 → ST → Prop) (Q : Int32 → ST → Prop) : Prop := ∃ (I : Int32 → Int32 → Int32 → Int32 → Int32 → Int32 → ST → Prop) (μ : Int32 → Int32 → Int32 → Int32 → Int32 → Int32 → ST → Nat), I x1 x2 x3 x4 x5 x6 u ∧ ∀ (x1 : Int32) (x2 : Int32) (x3 : Int32) (x4 : Int32) (x5 : Int32) (x6 : Int32) (u : ST), I x1 x2 x3 x4 x5 x6 u → wp_X12_two_p78b x1 x2 x3 x4 x5 x6 u B54 B66 (fun yx1 yx2 yx3 yx4 yx5 yx6 yu => I yx1 yx2 yx3 yx4 yx5 yx6 yu ∧ μ yx1 yx2 yx3 yx4 yx5 yx6 yu < μ x1 x2 x3 x4 x5 x6 u) Q
def wp_X12_two_p66b (x1 : Int32) (x2 : Int32) (x3 : Int32) (x4 : Int32) (x5 : Int32) (u : ST) (B54 : Int32 → Int32 → Int32 → Int32 → ST → Prop) (B66 : Int32 → Int32 → Int32 → Int32 → Int32 → ST → Prop) (Q : Int32 → ST → Prop) : Prop :=
  (¬ (100 : Int32) = 0 ∧ ∀ y71 : Int32, y71 = x1 - x1 / (100 : Int32) * (100 : Int32) → ((y71 < x5 → (∀ y120 : Int32, y120 = x4 + 1 → B54 x1 x2 x3 y120 u)) ∧ (¬ y71 < x5 → wp_X12_two_p78 x1 x2 x3 x4 x5 (0 : Int32) u B54 B66 Q)))
def wp_X12_two_p66 (x1 : Int32) (x2 : Int32) (x3 : Int32) (x4 : Int32) (x5 : Int32) (u : ST) (B54 : Int32 → Int32 → Int32 → Int32 → ST → Prop) (Q : Int32 → ST → Prop) : Prop := ∃ (I : Int32 → Int32 → Int32 → Int32 → Int32 → ST → Prop) (μ : Int32 → Int32 → Int32 → Int32 → Int32 → ST → Nat), I x1 x2 x3 x4 x5 u ∧ ∀ (x1 : Int32) (x2 : Int32) (x3 : Int32) (x4 : Int32) (x5 : Int32) (u : ST), I x1 x2 x3 x4 x5 u → wp_X12_two_p66b x1 x2 x3 x4 x5 u B54 (fun yx1 yx2 yx3 yx4 yx5 yu => I yx1 yx2 yx3 yx4 yx5 yu ∧ μ yx1 yx2 yx3 yx4 yx5 yu < μ x1 x2 x3 x4 x5 u) Q
def wp_X12_two_p54b (x1 : Int32) (x2 : Int32) (x3 : Int32) (x4 : Int32) (u : ST) (B54 : Int32 → Int32 → Int32 → Int32 → ST → Prop) (Q : Int32 → ST → Prop) : Prop :=
  (¬ (100 : Int32) = 0 ∧ ∀ y59 : Int32, y59 = x1 / (100 : Int32) → ((y59 < x4 → (¬ (100 : Int32) = 0 ∧ ∀ y130 : Int32, y130 = x1 / (100 : Int32) → (¬ (100 : Int32) = 0 ∧ ∀ y134 : Int32, y134 = x1 - x1 / (100 : Int32) * (100 : Int32) → (wp_X12_leastTwo y130 y134 x2 u (fun y136 u136 => ((y136 < (1000000 : Int32) → ((¬ x3 = 0 → wp_X12_two_p166 (gI u136 37) u136 Q) ∧ (x3 = 0 → wp_X12_two_p166 y136 u136 Q))) ∧ (¬ y136 < (1000000 : Int32) → wp_X12_two_p166 ((-2) : Int32) u136 Q))))))) ∧ (¬ y59 < x4 → wp_X12_two_p66 x1 x2 x3 x4 (1 : Int32) u B54 Q)))
def wp_X12_two_p54 (x1 : Int32) (x2 : Int32) (x3 : Int32) (x4 : Int32) (u : ST) (Q : Int32 → ST → Prop) : Prop := ∃ (I : Int32 → Int32 → Int32 → Int32 → ST → Prop) (μ : Int32 → Int32 → Int32 → Int32 → ST → Nat), I x1 x2 x3 x4 u ∧ ∀ (x1 : Int32) (x2 : Int32) (x3 : Int32) (x4 : Int32) (u : ST), I x1 x2 x3 x4 u → wp_X12_two_p54b x1 x2 x3 x4 u (fun yx1 yx2 yx3 yx4 yu => I yx1 yx2 yx3 yx4 yu ∧ μ yx1 yx2 yx3 yx4 yu < μ x1 x2 x3 x4 u) Q
def wp_X12_two (a1 : Int32) (a2 : Int32) (a3 : Int32) (u : ST) (Q : Int32 → ST → Prop) : Prop :=
  ((a1 < 0 → wp_X12_two_p49 u Q) ∧ (¬ a1 < 0 → (¬ (100 : Int32) = 0 ∧ ∀ y7 : Int32, y7 = a1 / (100 : Int32) → (wp_X12_in y7 (1 : Int32) (31 : Int32) (fun y11 => ((y11 = 0 → wp_X12_two_p49 u Q) ∧ (¬ y11 = 0 → (¬ (100 : Int32) = 0 ∧ ∀ y20 : Int32, y20 = a1 - a1 / (100 : Int32) * (100 : Int32) → (wp_X12_in y20 (1 : Int32) (31 : Int32) (fun y24 => ((y24 = 0 → wp_X12_two_p49 u Q) ∧ (¬ y24 = 0 → (wp_X12_in a2 (0 : Int32) (6 : Int32) (fun y34 => ((y34 = 0 → wp_X12_two_p49 u Q) ∧ (¬ y34 = 0 → (wp_X12_in a3 (0 : Int32) (1 : Int32) (fun y43 => ((¬ y43 = 0 → wp_X12_two_p54 a1 a2 a3 (1 : Int32) u Q) ∧ (y43 = 0 → wp_X12_two_p49 u Q))))))))))))))))))))
set_option maxHeartbeats 4000000 in
set_option maxRecDepth 100000 in
theorem c_X12_two (l : Launch) (D : va_G) (h : Nat) (r : Nat → Nat) (cs : Nat → ClassId) (a1 : Int32) (a2 : Int32) (a3 : Int32) (u : ST) (Q : Int32 → ST → Prop) (hw : wp_X12_two a1 a2 a3 u Q) : mCi l yX12_two wsX12_two ({ frames := 2, cells := 0, slots := 0, locals := 48 } : Room) 0 0 D (mT cs) (W12 h r cs) [.ref h, .int a1, .int a2, .int a3] u Q := by
  unfold mCi
  refine m_enter (QQ := fun A => va_Qi Q (mPos D (mT cs) A (W12 h r cs)) A) (cc := cX12_two) (maxL := 7) (ret := (some .int)) (by decide) rfl (Nat.le_of_ble_eq_true rfl) ?_
  intro p e s m args below meth c A ls S hr hlocks hname hl hI
  have S : CallFix p m c cX12_two 7 s args wsX12_two RX12 := S
  show W p l e ({ frames := 2, cells := 0, slots := 0, locals := 48 } : Room) s m args below meth c s.heap [] 0 0 (MQ below (va_Qi Q (mPos D (mT cs) A (W12 h r cs)) A) args s 0 0 A) (F0 m 0 ls [])
  generalize hZ : MQ below (va_Qi Q (mPos D (mT cs) A (W12 h r cs)) A) args s 0 0 A = Z
  have hin : ∀ w ∈ wsX120, w ∈ wsX12_two := fun _ h => List.mem_cons_of_mem _ (List.mem_append_right _ h)
  have hl : lv_has ls 7 [(0, .ref h), (1, .int a1), (2, .int a2), (3, .int a3)] := hl
  have b49 : ∀ (u : ST), wp_X12_two_p49 u Q → mGo p l e ({ frames := 2, cells := 0, slots := 0, locals := 48 } : Room) s m args below meth c A Z 7 D (mT cs) (W12 h r cs) 49 [(0, .ref h)] [] u := by
    intro u hw H locs ls hI hl
    unfold wp_X12_two_p49 at hw
    refine lv_iconst (v := (-1)) S.1 S.2.1 dX12_two_49 (by decide) ?_
    subst hZ
    exact m_iret S hr hlocks hI hw dX12_two_50
  have b166 : ∀ (t0 : Int32) (u : ST), wp_X12_two_p166 t0 u Q → mGo p l e ({ frames := 2, cells := 0, slots := 0, locals := 48 } : Room) s m args below meth c A Z 7 D (mT cs) (W12 h r cs) 166 [(0, .ref h)] [.int t0] u := by
    intro t0 u hw H locs ls hI hl
    unfold wp_X12_two_p166 at hw
    subst hZ
    exact m_iret S hr hlocks hI hw dX12_two_166
  have b78b : ∀ (B54 : Int32 → Int32 → Int32 → Int32 → ST → Prop), (∀ (x1 : Int32) (x2 : Int32) (x3 : Int32) (x4 : Int32) (u : ST), B54 x1 x2 x3 x4 u → mGo p l e ({ frames := 2, cells := 0, slots := 0, locals := 48 } : Room) s m args below meth c A Z 7 D (mT cs) (W12 h r cs) 54 [(0, .ref h), (1, .int x1), (2, .int x2), (3, .int x3), (4, .int x4)] [] u) → ∀ (B66 : Int32 → Int32 → Int32 → Int32 → Int32 → ST → Prop), (∀ (x1 : Int32) (x2 : Int32) (x3 : Int32) (x4 : Int32) (x5 : Int32) (u : ST), B66 x1 x2 x3 x4 x5 u → mGo p l e ({ frames := 2, cells := 0, slots := 0, locals := 48 } : Room) s m args below meth c A Z 7 D (mT cs) (W12 h r cs) 66 [(0, .ref h), (1, .int x1), (2, .int x2), (3, .int x3), (4, .int x4), (5, .int x5)] [] u) → ∀ (B78 : Int32 → Int32 → Int32 → Int32 → Int32 → Int32 → ST → Prop), (∀ (x1 : Int32) (x2 : Int32) (x3 : Int32) (x4 : Int32) (x5 : Int32) (x6 : Int32) (u : ST), B78 x1 x2 x3 x4 x5 x6 u → mGo p l e ({ frames := 2, cells := 0, slots := 0, locals := 48 } : Room) s m args below meth c A Z 7 D (mT cs) (W12 h r cs) 78 [(0, .ref h), (1, .int x1), (2, .int x2), (3, .int x3), (4, .int x4), (5, .int x5), (6, .int x6)] [] u) → ∀ (x1 : Int32) (x2 : Int32) (x3 : Int32) (x4 : Int32) (x5 : Int32) (x6 : Int32) (u : ST), wp_X12_two_p78b x1 x2 x3 x4 x5 x6 u B54 B66 B78 Q → mGo p l e ({ frames := 2, cells := 0, slots := 0, locals := 48 } : Room) s m args below meth c A Z 7 D (mT cs) (W12 h r cs) 78 [(0, .ref h), (1, .int x1), (2, .int x2), (3, .int x3), (4, .int x4), (5, .int x5), (6, .int x6)] [] u := by
    intro B54 hB54 B66 hB66 B78 hB78 x1 x2 x3 x4 x5 x6 u hw H locs ls hI hl
    unfold wp_X12_two_p78b at hw
    refine lv_iload S.1 S.2.1 dX12_two_78 (lv_at hl 6 rfl) ?_
    refine lv_iload_n S.1 S.2.1 dX12_two_80 rfl (lv_at hl 2 rfl) ?_
    refine lv_icmp_gt (tgt := 114) S.1 S.2.1 dX12_two_81 (by decide) (fun c81 => ?_) (fun c81 => ?_)
    · have hw := hw.1 c81
      obtain ⟨y114, ey114⟩ : ∃ z : Int32, z = x5 + 1 := ⟨_, rfl⟩
      have hw := hw y114 ey114
      refine lv_iinc (v := y114) (lv' := [(5, .int y114), (0, .ref h), (1, .int x1), (2, .int x2), (3, .int x3), (4, .int x4), (6, .int x6)]) S.1 S.2.1 dX12_two_114 hl (k := 5) rfl (by rw [ey114]; rfl) (by decide) rfl (fun ls hl => ?_)
      refine lv_goto (tgt := 66) S.1 S.2.1 dX12_two_117 (by decide) ?_
      exact hB66 x1 x2 x3 x4 y114 u hw H locs ls hI (lv_sub hl [1, 2, 3, 4, 5, 0] rfl)
    · have hw := hw.2 c81
      refine lv_aload_n S.1 S.2.1 dX12_two_84 rfl (lv_at hl 0 rfl) ?_
      refine m_get S hin hI 0 (W12_at0 h r cs u) rfl 36 (Nat.le_of_ble_eq_true rfl) (List.mem_of_getElem? (i := 1) rfl) rfl (Ff12_at36 r u) dX12_two_85 ?_
      refine lv_iload S.1 S.2.1 dX12_two_88 (lv_at hl 4 rfl) ?_
      refine lv_iload S.1 S.2.1 dX12_two_90 (lv_at hl 5 rfl) ?_
      refine lv_iload S.1 S.2.1 dX12_two_92 (lv_at hl 6 rfl) ?_
      refine m_si (As := [.int x4, .int x5, .int x6]) (rest := [.ref (r 36)]) S hI.2.2.2.1.2.1 (c_X12_pair l x4 x5 x6 _ hw) (va_cwS 3 S.2.2.2.2 gX12_two_X12_pair rfl rfl rfl (by decide +kernel) ⟨Nat.le_of_ble_eq_true rfl, Nat.le_of_ble_eq_true rfl⟩) rfl hl.1 rfl (Nat.le_of_ble_eq_true rfl) dX12_two_94 ⟨Nat.zero_le _, Nat.zero_le _⟩ (fun y94 hw => ?_)
      refine lv_aload_n S.1 S.2.1 dX12_two_97 rfl (lv_at hl 0 rfl) ?_
      refine lv_iload S.1 S.2.1 dX12_two_98 (lv_at hl 4 rfl) ?_
      refine lv_iload S.1 S.2.1 dX12_two_100 (lv_at hl 5 rfl) ?_
      refine lv_iload S.1 S.2.1 dX12_two_102 (lv_at hl 6 rfl) ?_
      refine m_vi (As := [.int x4, .int x5, .int x6]) (rest := [.int y94, .ref (r 36)]) S (W12_self h r cs) hI rfl (c_X12_leastTwo l D h r cs x4 x5 x6 u _ hw) (cwV 3 S.2.2.2.2 gX12_two_X12_leastTwo rfl rfl rfl (by decide +kernel) ⟨Nat.le_of_ble_eq_true rfl, Nat.le_of_ble_eq_true rfl⟩) (W12_at0 h r cs u) rfl rfl hl.1 rfl (Nat.le_of_ble_eq_true rfl) dX12_two_104 ⟨Nat.zero_le _, Nat.zero_le _⟩ (fun y104 u104 H locs hw hI => ?_)
      obtain ⟨u107, eu107⟩ : ∃ z : ST, z = sA u104 36 (upd (gA u104 36) y94.toNatClampNeg y104) := ⟨_, rfl⟩
      refine m_iast S hI 21 0 (W12_at21 h r cs u104) rfl hw.1 (W12_sA36 h r cs u104 u107 _ eu107) dX12_two_107 (fun H locs hI => ?_)
      have hw := hw.2 u107 eu107
      obtain ⟨y108, ey108⟩ : ∃ z : Int32, z = x6 + 1 := ⟨_, rfl⟩
      have hw := hw y108 ey108
      refine lv_iinc (v := y108) (lv' := [(6, .int y108), (0, .ref h), (1, .int x1), (2, .int x2), (3, .int x3), (4, .int x4), (5, .int x5)]) S.1 S.2.1 dX12_two_108 hl (k := 6) rfl (by rw [ey108]; rfl) (by decide) rfl (fun ls hl => ?_)
      refine lv_goto (tgt := 78) S.1 S.2.1 dX12_two_111 (by decide) ?_
      exact hB78 x1 x2 x3 x4 x5 y108 u107 hw H locs ls hI (lv_sub hl [1, 2, 3, 4, 5, 6, 0] rfl)
  have b78 : ∀ (B54 : Int32 → Int32 → Int32 → Int32 → ST → Prop), (∀ (x1 : Int32) (x2 : Int32) (x3 : Int32) (x4 : Int32) (u : ST), B54 x1 x2 x3 x4 u → mGo p l e ({ frames := 2, cells := 0, slots := 0, locals := 48 } : Room) s m args below meth c A Z 7 D (mT cs) (W12 h r cs) 54 [(0, .ref h), (1, .int x1), (2, .int x2), (3, .int x3), (4, .int x4)] [] u) → ∀ (B66 : Int32 → Int32 → Int32 → Int32 → Int32 → ST → Prop), (∀ (x1 : Int32) (x2 : Int32) (x3 : Int32) (x4 : Int32) (x5 : Int32) (u : ST), B66 x1 x2 x3 x4 x5 u → mGo p l e ({ frames := 2, cells := 0, slots := 0, locals := 48 } : Room) s m args below meth c A Z 7 D (mT cs) (W12 h r cs) 66 [(0, .ref h), (1, .int x1), (2, .int x2), (3, .int x3), (4, .int x4), (5, .int x5)] [] u) → ∀ (x1 : Int32) (x2 : Int32) (x3 : Int32) (x4 : Int32) (x5 : Int32) (x6 : Int32) (u : ST), wp_X12_two_p78 x1 x2 x3 x4 x5 x6 u B54 B66 Q → mGo p l e ({ frames := 2, cells := 0, slots := 0, locals := 48 } : Room) s m args below meth c A Z 7 D (mT cs) (W12 h r cs) 78 [(0, .ref h), (1, .int x1), (2, .int x2), (3, .int x3), (4, .int x4), (5, .int x5), (6, .int x6)] [] u := by
    intro B54 hB54 B66 hB66 x1 x2 x3 x4 x5 x6 u hw
    obtain ⟨I, μ, h0, hs⟩ := hw
    have key : ∀ (n : Nat) (x1 : Int32) (x2 : Int32) (x3 : Int32) (x4 : Int32) (x5 : Int32) (x6 : Int32) (u : ST), μ x1 x2 x3 x4 x5 x6 u = n → I x1 x2 x3 x4 x5 x6 u → mGo p l e ({ frames := 2, cells := 0, slots := 0, locals := 48 } : Room) s m args below meth c A Z 7 D (mT cs) (W12 h r cs) 78 [(0, .ref h), (1, .int x1), (2, .int x2), (3, .int x3), (4, .int x4), (5, .int x5), (6, .int x6)] [] u := by
      intro n
      induction n using Nat.strongRecOn with
      | ind n ih =>
        intro x1 x2 x3 x4 x5 x6 u hn hi
        exact b78b B54 hB54 B66 hB66 (fun yx1 yx2 yx3 yx4 yx5 yx6 yu => I yx1 yx2 yx3 yx4 yx5 yx6 yu ∧ μ yx1 yx2 yx3 yx4 yx5 yx6 yu < μ x1 x2 x3 x4 x5 x6 u) (fun yx1 yx2 yx3 yx4 yx5 yx6 yu hb => ih _ (hn ▸ hb.2) yx1 yx2 yx3 yx4 yx5 yx6 yu rfl hb.1) x1 x2 x3 x4 x5 x6 u (hs x1 x2 x3 x4 x5 x6 u hi)
    exact key _ x1 x2 x3 x4 x5 x6 u rfl h0
  have b66b : ∀ (B54 : Int32 → Int32 → Int32 → Int32 → ST → Prop), (∀ (x1 : Int32) (x2 : Int32) (x3 : Int32) (x4 : Int32) (u : ST), B54 x1 x2 x3 x4 u → mGo p l e ({ frames := 2, cells := 0, slots := 0, locals := 48 } : Room) s m args below meth c A Z 7 D (mT cs) (W12 h r cs) 54 [(0, .ref h), (1, .int x1), (2, .int x2), (3, .int x3), (4, .int x4)] [] u) → ∀ (B66 : Int32 → Int32 → Int32 → Int32 → Int32 → ST → Prop), (∀ (x1 : Int32) (x2 : Int32) (x3 : Int32) (x4 : Int32) (x5 : Int32) (u : ST), B66 x1 x2 x3 x4 x5 u → mGo p l e ({ frames := 2, cells := 0, slots := 0, locals := 48 } : Room) s m args below meth c A Z 7 D (mT cs) (W12 h r cs) 66 [(0, .ref h), (1, .int x1), (2, .int x2), (3, .int x3), (4, .int x4), (5, .int x5)] [] u) → ∀ (x1 : Int32) (x2 : Int32) (x3 : Int32) (x4 : Int32) (x5 : Int32) (u : ST), wp_X12_two_p66b x1 x2 x3 x4 x5 u B54 B66 Q → mGo p l e ({ frames := 2, cells := 0, slots := 0, locals := 48 } : Room) s m args below meth c A Z 7 D (mT cs) (W12 h r cs) 66 [(0, .ref h), (1, .int x1), (2, .int x2), (3, .int x3), (4, .int x4), (5, .int x5)] [] u := by
    intro B54 hB54 B66 hB66 x1 x2 x3 x4 x5 u hw H locs ls hI hl
    unfold wp_X12_two_p66b at hw
    refine lv_iload S.1 S.2.1 dX12_two_66 (lv_at hl 5 rfl) ?_
    refine lv_iload_n S.1 S.2.1 dX12_two_68 rfl (lv_at hl 1 rfl) ?_
    refine lv_bipush (v := 100) S.1 S.2.1 dX12_two_69 (by decide) ?_
    refine lv_irem S.1 S.2.1 dX12_two_71 hw.1 ?_
    have hw := hw.2
    refine lv_topi (fun y71 ey71 => ?_)
    have hw := hw y71 ey71
    refine lv_icmp_gt (tgt := 120) S.1 S.2.1 dX12_two_72 (by decide) (fun c72 => ?_) (fun c72 => ?_)
    · have hw := hw.1 c72
      obtain ⟨y120, ey120⟩ : ∃ z : Int32, z = x4 + 1 := ⟨_, rfl⟩
      have hw := hw y120 ey120
      refine lv_iinc (v := y120) (lv' := [(4, .int y120), (0, .ref h), (1, .int x1), (2, .int x2), (3, .int x3), (5, .int x5)]) S.1 S.2.1 dX12_two_120 hl (k := 4) rfl (by rw [ey120]; rfl) (by decide) rfl (fun ls hl => ?_)
      refine lv_goto (tgt := 54) S.1 S.2.1 dX12_two_123 (by decide) ?_
      exact hB54 x1 x2 x3 y120 u hw H locs ls hI (lv_sub hl [1, 2, 3, 4, 0] rfl)
    · have hw := hw.2 c72
      refine lv_iconst (v := 0) S.1 S.2.1 dX12_two_75 (by decide) ?_
      refine lv_istore (lv' := [(6, .int (0 : Int32)), (0, .ref h), (1, .int x1), (2, .int x2), (3, .int x3), (4, .int x4), (5, .int x5)]) S.1 S.2.1 dX12_two_76 hl (by decide) rfl (fun ls hl => ?_)
      exact b78 B54 hB54 B66 hB66 x1 x2 x3 x4 x5 (0 : Int32) u hw H locs ls hI (lv_sub hl [1, 2, 3, 4, 5, 6, 0] rfl)
  have b66 : ∀ (B54 : Int32 → Int32 → Int32 → Int32 → ST → Prop), (∀ (x1 : Int32) (x2 : Int32) (x3 : Int32) (x4 : Int32) (u : ST), B54 x1 x2 x3 x4 u → mGo p l e ({ frames := 2, cells := 0, slots := 0, locals := 48 } : Room) s m args below meth c A Z 7 D (mT cs) (W12 h r cs) 54 [(0, .ref h), (1, .int x1), (2, .int x2), (3, .int x3), (4, .int x4)] [] u) → ∀ (x1 : Int32) (x2 : Int32) (x3 : Int32) (x4 : Int32) (x5 : Int32) (u : ST), wp_X12_two_p66 x1 x2 x3 x4 x5 u B54 Q → mGo p l e ({ frames := 2, cells := 0, slots := 0, locals := 48 } : Room) s m args below meth c A Z 7 D (mT cs) (W12 h r cs) 66 [(0, .ref h), (1, .int x1), (2, .int x2), (3, .int x3), (4, .int x4), (5, .int x5)] [] u := by
    intro B54 hB54 x1 x2 x3 x4 x5 u hw
    obtain ⟨I, μ, h0, hs⟩ := hw
    have key : ∀ (n : Nat) (x1 : Int32) (x2 : Int32) (x3 : Int32) (x4 : Int32) (x5 : Int32) (u : ST), μ x1 x2 x3 x4 x5 u = n → I x1 x2 x3 x4 x5 u → mGo p l e ({ frames := 2, cells := 0, slots := 0, locals := 48 } : Room) s m args below meth c A Z 7 D (mT cs) (W12 h r cs) 66 [(0, .ref h), (1, .int x1), (2, .int x2), (3, .int x3), (4, .int x4), (5, .int x5)] [] u := by
      intro n
      induction n using Nat.strongRecOn with
      | ind n ih =>
        intro x1 x2 x3 x4 x5 u hn hi
        exact b66b B54 hB54 (fun yx1 yx2 yx3 yx4 yx5 yu => I yx1 yx2 yx3 yx4 yx5 yu ∧ μ yx1 yx2 yx3 yx4 yx5 yu < μ x1 x2 x3 x4 x5 u) (fun yx1 yx2 yx3 yx4 yx5 yu hb => ih _ (hn ▸ hb.2) yx1 yx2 yx3 yx4 yx5 yu rfl hb.1) x1 x2 x3 x4 x5 u (hs x1 x2 x3 x4 x5 u hi)
    exact key _ x1 x2 x3 x4 x5 u rfl h0
  have b54b : ∀ (B54 : Int32 → Int32 → Int32 → Int32 → ST → Prop), (∀ (x1 : Int32) (x2 : Int32) (x3 : Int32) (x4 : Int32) (u : ST), B54 x1 x2 x3 x4 u → mGo p l e ({ frames := 2, cells := 0, slots := 0, locals := 48 } : Room) s m args below meth c A Z 7 D (mT cs) (W12 h r cs) 54 [(0, .ref h), (1, .int x1), (2, .int x2), (3, .int x3), (4, .int x4)] [] u) → ∀ (x1 : Int32) (x2 : Int32) (x3 : Int32) (x4 : Int32) (u : ST), wp_X12_two_p54b x1 x2 x3 x4 u B54 Q → mGo p l e ({ frames := 2, cells := 0, slots := 0, locals := 48 } : Room) s m args below meth c A Z 7 D (mT cs) (W12 h r cs) 54 [(0, .ref h), (1, .int x1), (2, .int x2), (3, .int x3), (4, .int x4)] [] u := by
    intro B54 hB54 x1 x2 x3 x4 u hw H locs ls hI hl
    unfold wp_X12_two_p54b at hw
    refine lv_iload S.1 S.2.1 dX12_two_54 (lv_at hl 4 rfl) ?_
    refine lv_iload_n S.1 S.2.1 dX12_two_56 rfl (lv_at hl 1 rfl) ?_
    refine lv_bipush (v := 100) S.1 S.2.1 dX12_two_57 (by decide) ?_
    refine lv_idiv S.1 S.2.1 dX12_two_59 hw.1 ?_
    have hw := hw.2
    refine lv_topi (fun y59 ey59 => ?_)
    have hw := hw y59 ey59
    refine lv_icmp_gt (tgt := 126) S.1 S.2.1 dX12_two_60 (by decide) (fun c60 => ?_) (fun c60 => ?_)
    · have hw := hw.1 c60
      refine lv_aload_n S.1 S.2.1 dX12_two_126 rfl (lv_at hl 0 rfl) ?_
      refine lv_iload_n S.1 S.2.1 dX12_two_127 rfl (lv_at hl 1 rfl) ?_
      refine lv_bipush (v := 100) S.1 S.2.1 dX12_two_128 (by decide) ?_
      refine lv_idiv S.1 S.2.1 dX12_two_130 hw.1 ?_
      have hw := hw.2
      refine lv_topi (fun y130 ey130 => ?_)
      have hw := hw y130 ey130
      refine lv_iload_n S.1 S.2.1 dX12_two_131 rfl (lv_at hl 1 rfl) ?_
      refine lv_bipush (v := 100) S.1 S.2.1 dX12_two_132 (by decide) ?_
      refine lv_irem S.1 S.2.1 dX12_two_134 hw.1 ?_
      have hw := hw.2
      refine lv_topi (fun y134 ey134 => ?_)
      have hw := hw y134 ey134
      refine lv_iload_n S.1 S.2.1 dX12_two_135 rfl (lv_at hl 2 rfl) ?_
      refine m_vi (As := [.int y130, .int y134, .int x2]) (rest := []) S (W12_self h r cs) hI rfl (c_X12_leastTwo l D h r cs y130 y134 x2 u _ hw) (cwV 3 S.2.2.2.2 gX12_two_X12_leastTwo rfl rfl rfl (by decide +kernel) ⟨Nat.le_of_ble_eq_true rfl, Nat.le_of_ble_eq_true rfl⟩) (W12_at0 h r cs u) rfl rfl hl.1 rfl (Nat.le_of_ble_eq_true rfl) dX12_two_136 ⟨Nat.zero_le _, Nat.zero_le _⟩ (fun y136 u136 H locs hw hI => ?_)
      refine lv_istore (lv' := [(4, .int y136), (0, .ref h), (1, .int x1), (2, .int x2), (3, .int x3)]) S.1 S.2.1 dX12_two_139 hl (by decide) rfl (fun ls hl => ?_)
      refine lv_iload S.1 S.2.1 dX12_two_141 (lv_at hl 0 rfl) ?_
      refine lv_ldc S.1 S.2.1 S.2.2.2.1 (S.2.2.2.2 _ (List.mem_of_getElem? (i := 2) rfl)) dX12_two_143 ?_
      refine lv_icmp_lt (tgt := 153) S.1 S.2.1 dX12_two_145 (by decide) (fun c145 => ?_) (fun c145 => ?_)
      · have hw := hw.1 c145
        refine lv_iload_n S.1 S.2.1 dX12_two_153 rfl (lv_at hl 4 rfl) ?_
        refine lv_if_ne (tgt := 162) S.1 S.2.1 dX12_two_154 (by decide) (fun c154 => ?_) (fun c154 => ?_)
        · have hw := hw.1 c154
          refine lv_aload_n S.1 S.2.1 dX12_two_162 rfl (lv_at hl 1 rfl) ?_
          refine m_get S hin hI 0 (W12_at0 h r cs u136) rfl 37 (Nat.le_of_ble_eq_true rfl) (List.mem_of_getElem? (i := 3) rfl) rfl (Ff12_at37 r u136) dX12_two_163 ?_
          exact b166 (gI u136 37) u136 hw H locs ls hI (lv_sub hl [1] rfl)
        · have hw := hw.2 c154
          refine lv_iload S.1 S.2.1 dX12_two_157 (lv_at hl 0 rfl) ?_
          refine lv_goto (tgt := 166) S.1 S.2.1 dX12_two_159 (by decide) ?_
          exact b166 y136 u136 hw H locs ls hI (lv_sub hl [1] rfl)
      · have hw := hw.2 c145
        refine lv_bipush (v := (-2)) S.1 S.2.1 dX12_two_148 (by decide) ?_
        refine lv_goto (tgt := 166) S.1 S.2.1 dX12_two_150 (by decide) ?_
        exact b166 ((-2) : Int32) u136 hw H locs ls hI (lv_sub hl [1] rfl)
    · have hw := hw.2 c60
      refine lv_iconst (v := 1) S.1 S.2.1 dX12_two_63 (by decide) ?_
      refine lv_istore (lv' := [(5, .int (1 : Int32)), (0, .ref h), (1, .int x1), (2, .int x2), (3, .int x3), (4, .int x4)]) S.1 S.2.1 dX12_two_64 hl (by decide) rfl (fun ls hl => ?_)
      exact b66 B54 hB54 x1 x2 x3 x4 (1 : Int32) u hw H locs ls hI (lv_sub hl [1, 2, 3, 4, 5, 0] rfl)
  have b54 : ∀ (x1 : Int32) (x2 : Int32) (x3 : Int32) (x4 : Int32) (u : ST), wp_X12_two_p54 x1 x2 x3 x4 u Q → mGo p l e ({ frames := 2, cells := 0, slots := 0, locals := 48 } : Room) s m args below meth c A Z 7 D (mT cs) (W12 h r cs) 54 [(0, .ref h), (1, .int x1), (2, .int x2), (3, .int x3), (4, .int x4)] [] u := by
    intro x1 x2 x3 x4 u hw
    obtain ⟨I, μ, h0, hs⟩ := hw
    have key : ∀ (n : Nat) (x1 : Int32) (x2 : Int32) (x3 : Int32) (x4 : Int32) (u : ST), μ x1 x2 x3 x4 u = n → I x1 x2 x3 x4 u → mGo p l e ({ frames := 2, cells := 0, slots := 0, locals := 48 } : Room) s m args below meth c A Z 7 D (mT cs) (W12 h r cs) 54 [(0, .ref h), (1, .int x1), (2, .int x2), (3, .int x3), (4, .int x4)] [] u := by
      intro n
      induction n using Nat.strongRecOn with
      | ind n ih =>
        intro x1 x2 x3 x4 u hn hi
        exact b54b (fun yx1 yx2 yx3 yx4 yu => I yx1 yx2 yx3 yx4 yu ∧ μ yx1 yx2 yx3 yx4 yu < μ x1 x2 x3 x4 u) (fun yx1 yx2 yx3 yx4 yu hb => ih _ (hn ▸ hb.2) yx1 yx2 yx3 yx4 yu rfl hb.1) x1 x2 x3 x4 u (hs x1 x2 x3 x4 u hi)
    exact key _ x1 x2 x3 x4 u rfl h0
  unfold wp_X12_two at hw
  obtain ⟨H, hH⟩ : ∃ z : Heap, z = s.heap := ⟨_, rfl⟩
  obtain ⟨locs, hL⟩ : ∃ z : List Loc, z = [] := ⟨_, rfl⟩
  rw [show W p l e ({ frames := 2, cells := 0, slots := 0, locals := 48 } : Room) s m args below meth c s.heap [] 0 0 Z (F0 m 0 ls []) = W p l e ({ frames := 2, cells := 0, slots := 0, locals := 48 } : Room) s m args below meth c H locs 0 0 Z (F0 m 0 ls []) by rw [hH, hL]]
  replace hI : mI D (mT cs) A s.heap s (W12 h r cs u) H locs := by rw [hH, hL]; exact hI
  refine lv_iload_n S.1 S.2.1 dX12_two_0 rfl (lv_at hl 1 rfl) ?_
  refine lv_if_lt (tgt := 49) S.1 S.2.1 dX12_two_1 (by decide) (fun c1 => ?_) (fun c1 => ?_)
  · have hw := hw.1 c1
    exact b49 u hw H locs ls hI (lv_sub hl [0] rfl)
  · have hw := hw.2 c1
    refine lv_iload_n S.1 S.2.1 dX12_two_4 rfl (lv_at hl 1 rfl) ?_
    refine lv_bipush (v := 100) S.1 S.2.1 dX12_two_5 (by decide) ?_
    refine lv_idiv S.1 S.2.1 dX12_two_7 hw.1 ?_
    have hw := hw.2
    refine lv_topi (fun y7 ey7 => ?_)
    have hw := hw y7 ey7
    refine lv_iconst (v := 1) S.1 S.2.1 dX12_two_8 (by decide) ?_
    refine lv_bipush (v := 31) S.1 S.2.1 dX12_two_9 (by decide) ?_
    refine m_si (As := [.int y7, .int (1 : Int32), .int (31 : Int32)]) (rest := []) S hI.2.2.2.1.2.1 (c_X12_in l y7 (1 : Int32) (31 : Int32) _ hw) (va_cwS 3 S.2.2.2.2 gX12_two_X12_in rfl rfl rfl (by decide +kernel) ⟨Nat.le_of_ble_eq_true rfl, Nat.le_of_ble_eq_true rfl⟩) rfl hl.1 rfl (Nat.le_of_ble_eq_true rfl) dX12_two_11 ⟨Nat.zero_le _, Nat.zero_le _⟩ (fun y11 hw => ?_)
    refine lv_if_eq (tgt := 49) S.1 S.2.1 dX12_two_14 (by decide) (fun c14 => ?_) (fun c14 => ?_)
    · have hw := hw.1 c14
      exact b49 u hw H locs ls hI (lv_sub hl [0] rfl)
    · have hw := hw.2 c14
      refine lv_iload_n S.1 S.2.1 dX12_two_17 rfl (lv_at hl 1 rfl) ?_
      refine lv_bipush (v := 100) S.1 S.2.1 dX12_two_18 (by decide) ?_
      refine lv_irem S.1 S.2.1 dX12_two_20 hw.1 ?_
      have hw := hw.2
      refine lv_topi (fun y20 ey20 => ?_)
      have hw := hw y20 ey20
      refine lv_iconst (v := 1) S.1 S.2.1 dX12_two_21 (by decide) ?_
      refine lv_bipush (v := 31) S.1 S.2.1 dX12_two_22 (by decide) ?_
      refine m_si (As := [.int y20, .int (1 : Int32), .int (31 : Int32)]) (rest := []) S hI.2.2.2.1.2.1 (c_X12_in l y20 (1 : Int32) (31 : Int32) _ hw) (va_cwS 3 S.2.2.2.2 gX12_two_X12_in rfl rfl rfl (by decide +kernel) ⟨Nat.le_of_ble_eq_true rfl, Nat.le_of_ble_eq_true rfl⟩) rfl hl.1 rfl (Nat.le_of_ble_eq_true rfl) dX12_two_24 ⟨Nat.zero_le _, Nat.zero_le _⟩ (fun y24 hw => ?_)
      refine lv_if_eq (tgt := 49) S.1 S.2.1 dX12_two_27 (by decide) (fun c27 => ?_) (fun c27 => ?_)
      · have hw := hw.1 c27
        exact b49 u hw H locs ls hI (lv_sub hl [0] rfl)
      · have hw := hw.2 c27
        refine lv_iload_n S.1 S.2.1 dX12_two_30 rfl (lv_at hl 2 rfl) ?_
        refine lv_iconst (v := 0) S.1 S.2.1 dX12_two_31 (by decide) ?_
        refine lv_bipush (v := 6) S.1 S.2.1 dX12_two_32 (by decide) ?_
        refine m_si (As := [.int a2, .int (0 : Int32), .int (6 : Int32)]) (rest := []) S hI.2.2.2.1.2.1 (c_X12_in l a2 (0 : Int32) (6 : Int32) _ hw) (va_cwS 3 S.2.2.2.2 gX12_two_X12_in rfl rfl rfl (by decide +kernel) ⟨Nat.le_of_ble_eq_true rfl, Nat.le_of_ble_eq_true rfl⟩) rfl hl.1 rfl (Nat.le_of_ble_eq_true rfl) dX12_two_34 ⟨Nat.zero_le _, Nat.zero_le _⟩ (fun y34 hw => ?_)
        refine lv_if_eq (tgt := 49) S.1 S.2.1 dX12_two_37 (by decide) (fun c37 => ?_) (fun c37 => ?_)
        · have hw := hw.1 c37
          exact b49 u hw H locs ls hI (lv_sub hl [0] rfl)
        · have hw := hw.2 c37
          refine lv_iload_n S.1 S.2.1 dX12_two_40 rfl (lv_at hl 3 rfl) ?_
          refine lv_iconst (v := 0) S.1 S.2.1 dX12_two_41 (by decide) ?_
          refine lv_iconst (v := 1) S.1 S.2.1 dX12_two_42 (by decide) ?_
          refine m_si (As := [.int a3, .int (0 : Int32), .int (1 : Int32)]) (rest := []) S hI.2.2.2.1.2.1 (c_X12_in l a3 (0 : Int32) (1 : Int32) _ hw) (va_cwS 3 S.2.2.2.2 gX12_two_X12_in rfl rfl rfl (by decide +kernel) ⟨Nat.le_of_ble_eq_true rfl, Nat.le_of_ble_eq_true rfl⟩) rfl hl.1 rfl (Nat.le_of_ble_eq_true rfl) dX12_two_43 ⟨Nat.zero_le _, Nat.zero_le _⟩ (fun y43 hw => ?_)
          refine lv_if_ne (tgt := 51) S.1 S.2.1 dX12_two_46 (by decide) (fun c46 => ?_) (fun c46 => ?_)
          · have hw := hw.1 c46
            refine lv_iconst (v := 1) S.1 S.2.1 dX12_two_51 (by decide) ?_
            refine lv_istore (lv' := [(4, .int (1 : Int32)), (0, .ref h), (1, .int a1), (2, .int a2), (3, .int a3)]) S.1 S.2.1 dX12_two_52 hl (by decide) rfl (fun ls hl => ?_)
            exact b54 a1 a2 a3 (1 : Int32) u hw H locs ls hI (lv_sub hl [1, 2, 3, 4, 0] rfl)
          · have hw := hw.2 c46
            exact b49 u hw H locs ls hI (lv_sub hl [0] rfl)

def wp_X12_ruleFirst (a1 : Int32) (a2 : Int32) (a3 : Int32) (a4 : Int32) (u : ST) (Q : Int32 → ST → Prop) : Prop :=
  ((¬ a1 = 0 → (wp_X12_meanOf a2 a3 a4 u (fun y28 u28 => Q (gI u28 31) u28))) ∧ (a1 = 0 → (∀ y13 : Int32, y13 = a3 - a2 → (∀ y15 : Int32, y15 = y13 + (1 : Int32) → (∀ y16 : Int32, y16 = (7 : Int32) * y15 → (∀ y19 : Int32, y19 = y16 + a4 → (vp_in y19 434 ∧ ∀ y20 : Int32, y20 = gA u 26 y19.toNatClampNeg → (∀ y21 : Int32, y21 = a2 + y20 → Q y21 u))))))))
set_option maxHeartbeats 4000000 in
set_option maxRecDepth 100000 in
theorem c_X12_ruleFirst (l : Launch) (D : va_G) (h : Nat) (r : Nat → Nat) (cs : Nat → ClassId) (a1 : Int32) (a2 : Int32) (a3 : Int32) (a4 : Int32) (u : ST) (Q : Int32 → ST → Prop) (hw : wp_X12_ruleFirst a1 a2 a3 a4 u Q) : mCi l yX12_ruleFirst wsX12_ruleFirst ({ frames := 6, cells := 0, slots := 0, locals := 143 } : Room) 0 0 D (mT cs) (W12 h r cs) [.ref h, .int a1, .int a2, .int a3, .int a4] u Q := by
  unfold mCi
  refine m_enter (QQ := fun A => va_Qi Q (mPos D (mT cs) A (W12 h r cs)) A) (cc := cX12_ruleFirst) (maxL := 5) (ret := (some .int)) (by decide) rfl (Nat.le_of_ble_eq_true rfl) ?_
  intro p e s m args below meth c A ls S hr hlocks hname hl hI
  have S : CallFix p m c cX12_ruleFirst 5 s args wsX12_ruleFirst RX12 := S
  show W p l e ({ frames := 6, cells := 0, slots := 0, locals := 143 } : Room) s m args below meth c s.heap [] 0 0 (MQ below (va_Qi Q (mPos D (mT cs) A (W12 h r cs)) A) args s 0 0 A) (F0 m 0 ls [])
  generalize hZ : MQ below (va_Qi Q (mPos D (mT cs) A (W12 h r cs)) A) args s 0 0 A = Z
  have hin : ∀ w ∈ wsX120, w ∈ wsX12_ruleFirst := fun _ h => List.mem_cons_of_mem _ (List.mem_append_right _ h)
  have hl : lv_has ls 5 [(0, .ref h), (1, .int a1), (2, .int a2), (3, .int a3), (4, .int a4)] := hl
  unfold wp_X12_ruleFirst at hw
  obtain ⟨H, hH⟩ : ∃ z : Heap, z = s.heap := ⟨_, rfl⟩
  obtain ⟨locs, hL⟩ : ∃ z : List Loc, z = [] := ⟨_, rfl⟩
  rw [show W p l e ({ frames := 6, cells := 0, slots := 0, locals := 143 } : Room) s m args below meth c s.heap [] 0 0 Z (F0 m 0 ls []) = W p l e ({ frames := 6, cells := 0, slots := 0, locals := 143 } : Room) s m args below meth c H locs 0 0 Z (F0 m 0 ls []) by rw [hH, hL]]
  replace hI : mI D (mT cs) A s.heap s (W12 h r cs u) H locs := by rw [hH, hL]; exact hI
  refine lv_iload_n S.1 S.2.1 dX12_ruleFirst_0 rfl (lv_at hl 1 rfl) ?_
  refine lv_if_ne (tgt := 23) S.1 S.2.1 dX12_ruleFirst_1 (by decide) (fun c1 => ?_) (fun c1 => ?_)
  · have hw := hw.1 c1
    refine lv_aload_n S.1 S.2.1 dX12_ruleFirst_23 rfl (lv_at hl 0 rfl) ?_
    refine lv_iload_n S.1 S.2.1 dX12_ruleFirst_24 rfl (lv_at hl 2 rfl) ?_
    refine lv_iload_n S.1 S.2.1 dX12_ruleFirst_25 rfl (lv_at hl 3 rfl) ?_
    refine lv_iload S.1 S.2.1 dX12_ruleFirst_26 (lv_at hl 4 rfl) ?_
    refine m_vi (As := [.int a2, .int a3, .int a4]) (rest := []) S (W12_self h r cs) hI rfl (c_X12_meanOf l D h r cs a2 a3 a4 u _ hw) (cwV 3 S.2.2.2.2 gX12_ruleFirst_X12_meanOf rfl rfl rfl (by decide +kernel) ⟨Nat.le_of_ble_eq_true rfl, Nat.le_of_ble_eq_true rfl⟩) (W12_at0 h r cs u) rfl rfl hl.1 rfl (Nat.le_of_ble_eq_true rfl) dX12_ruleFirst_28 ⟨Nat.zero_le _, Nat.zero_le _⟩ (fun y28 u28 H locs hw hI => ?_)
    refine lv_pop S.1 S.2.1 dX12_ruleFirst_31 rfl ?_
    refine lv_aload_n S.1 S.2.1 dX12_ruleFirst_32 rfl (lv_at hl 0 rfl) ?_
    refine m_get S hin hI 0 (W12_at0 h r cs u28) rfl 31 (Nat.le_of_ble_eq_true rfl) (List.mem_of_getElem? (i := 2) rfl) rfl (Ff12_at31 r u28) dX12_ruleFirst_33 ?_
    subst hZ
    exact m_iret S hr hlocks hI hw dX12_ruleFirst_36
  · have hw := hw.2 c1
    refine lv_iload_n S.1 S.2.1 dX12_ruleFirst_4 rfl (lv_at hl 2 rfl) ?_
    refine lv_aload_n S.1 S.2.1 dX12_ruleFirst_5 rfl (lv_at hl 0 rfl) ?_
    refine m_get S hin hI 0 (W12_at0 h r cs u) rfl 26 (Nat.le_of_ble_eq_true rfl) (List.mem_of_getElem? (i := 1) rfl) rfl (Ff12_at26 r u) dX12_ruleFirst_6 ?_
    refine lv_bipush (v := 7) S.1 S.2.1 dX12_ruleFirst_9 (by decide) ?_
    refine lv_iload_n S.1 S.2.1 dX12_ruleFirst_11 rfl (lv_at hl 3 rfl) ?_
    refine lv_iload_n S.1 S.2.1 dX12_ruleFirst_12 rfl (lv_at hl 2 rfl) ?_
    refine lv_isub S.1 S.2.1 dX12_ruleFirst_13 ?_
    refine lv_topi (fun y13 ey13 => ?_)
    have hw := hw y13 ey13
    refine lv_iconst (v := 1) S.1 S.2.1 dX12_ruleFirst_14 (by decide) ?_
    refine lv_iadd S.1 S.2.1 dX12_ruleFirst_15 ?_
    refine lv_topi (fun y15 ey15 => ?_)
    have hw := hw y15 ey15
    refine lv_imul S.1 S.2.1 dX12_ruleFirst_16 ?_
    refine lv_topi (fun y16 ey16 => ?_)
    have hw := hw y16 ey16
    refine lv_iload S.1 S.2.1 dX12_ruleFirst_17 (lv_at hl 4 rfl) ?_
    refine lv_iadd S.1 S.2.1 dX12_ruleFirst_19 ?_
    refine lv_topi (fun y19 ey19 => ?_)
    have hw := hw y19 ey19
    refine m_iald S hI 14 0 (W12_at14 h r cs u) rfl hw.1 dX12_ruleFirst_20 ?_
    refine lv_topi (fun y20 ey20 => ?_)
    have hw := hw.2 y20 ey20
    refine lv_iadd S.1 S.2.1 dX12_ruleFirst_21 ?_
    refine lv_topi (fun y21 ey21 => ?_)
    have hw := hw y21 ey21
    subst hZ
    exact m_iret S hr hlocks hI hw dX12_ruleFirst_22

def wp_X12_goRule_p109 (x1 : Int32) (x2 : Int32) (x3 : Int32) (x4 : Int32) (x5 : Int32) (u : ST) (B29 : Int32 → Int32 → Int32 → Int32 → Int32 → ST → Prop) (Q : ST → Prop) : Prop :=
  B29 x1 x2 x3 x4 x5 u
def wp_X12_goRule_p70 (x1 : Int32) (x2 : Int32) (x3 : Int32) (x4 : Int32) (x5 : Int32) (x6 : Int32) (u : ST) (B29 : Int32 → Int32 → Int32 → Int32 → Int32 → ST → Prop) (Q : ST → Prop) : Prop :=
  (∀ y76 : Int32, y76 = (gI u 38) + (1 : Int32) → (∀ u77 : ST, u77 = sI u 38 y76 → ((x6 ≤ x2 → wp_X12_goRule_p109 x1 x2 x3 x6 x5 u77 B29 Q) ∧ (¬ x6 ≤ x2 → (∀ y92 : Int32, y92 = (gI u77 39) + (1 : Int32) → (∀ u93 : ST, u93 = sI u77 39 y92 → (∀ y99 : Int32, y99 = x6 - (1 : Int32) → wp_X12_goRule_p109 x1 x2 x3 x4 y99 u93 B29 Q)))))))
def wp_X12_goRule_p29b (x1 : Int32) (x2 : Int32) (x3 : Int32) (x4 : Int32) (x5 : Int32) (u : ST) (B29 : Int32 → Int32 → Int32 → Int32 → Int32 → ST → Prop) (Q : ST → Prop) : Prop :=
  ((x5 ≤ x4 → Q u) ∧ (¬ x5 ≤ x4 → (∀ y50 : Int32, y50 = (gI u 2) - (gI u 39) → (wp_X12_ruleFirst x1 x4 x5 y50 u (fun y51 u51 => ((¬ (gI u51 38) = x3 → wp_X12_goRule_p70 x1 x2 x3 x4 x5 y51 u51 B29 Q) ∧ ((gI u51 38) = x3 → (∀ u67 : ST, u67 = sI u51 40 y51 → wp_X12_goRule_p70 x1 x2 x3 x4 x5 y51 u67 B29 Q))))))))
def wp_X12_goRule_p29 (x1 : Int32) (x2 : Int32) (x3 : Int32) (x4 : Int32) (x5 : Int32) (u : ST) (Q : ST → Prop) : Prop := ∃ (I : Int32 → Int32 → Int32 → Int32 → Int32 → ST → Prop) (μ : Int32 → Int32 → Int32 → Int32 → Int32 → ST → Nat), I x1 x2 x3 x4 x5 u ∧ ∀ (x1 : Int32) (x2 : Int32) (x3 : Int32) (x4 : Int32) (x5 : Int32) (u : ST), I x1 x2 x3 x4 x5 u → wp_X12_goRule_p29b x1 x2 x3 x4 x5 u (fun yx1 yx2 yx3 yx4 yx5 yu => I yx1 yx2 yx3 yx4 yx5 yu ∧ μ yx1 yx2 yx3 yx4 yx5 yu < μ x1 x2 x3 x4 x5 u) Q
def wp_X12_goRule (a1 : Int32) (a2 : Int32) (a3 : Int32) (u : ST) (Q : ST → Prop) : Prop :=
  (wp_X12_findWorst u (fun u1 => (∀ u15 : ST, u15 = sI u1 38 (0 : Int32) → (∀ u20 : ST, u20 = sI u15 39 (0 : Int32) → (∀ u26 : ST, u26 = sI u20 40 ((-2) : Int32) → wp_X12_goRule_p29 a1 a2 a3 (0 : Int32) (gI u1 1) u26 Q)))))
set_option maxHeartbeats 4000000 in
set_option maxRecDepth 100000 in
theorem c_X12_goRule (l : Launch) (D : va_G) (h : Nat) (r : Nat → Nat) (cs : Nat → ClassId) (a1 : Int32) (a2 : Int32) (a3 : Int32) (u : ST) (Q : ST → Prop) (hw : wp_X12_goRule a1 a2 a3 u Q) : mCv l yX12_goRule wsX12_goRule ({ frames := 7, cells := 0, slots := 0, locals := 167 } : Room) 0 0 D (mT cs) (W12 h r cs) [.ref h, .int a1, .int a2, .int a3] u Q := by
  unfold mCv
  refine m_enter (QQ := fun A => va_Qv Q (mPos D (mT cs) A (W12 h r cs)) A) (cc := cX12_goRule) (maxL := 7) (ret := none) (by decide) rfl (Nat.le_of_ble_eq_true rfl) ?_
  intro p e s m args below meth c A ls S hr hlocks hname hl hI
  have S : CallFix p m c cX12_goRule 7 s args wsX12_goRule RX12 := S
  show W p l e ({ frames := 7, cells := 0, slots := 0, locals := 167 } : Room) s m args below meth c s.heap [] 0 0 (MQ below (va_Qv Q (mPos D (mT cs) A (W12 h r cs)) A) args s 0 0 A) (F0 m 0 ls [])
  generalize hZ : MQ below (va_Qv Q (mPos D (mT cs) A (W12 h r cs)) A) args s 0 0 A = Z
  have hin : ∀ w ∈ wsX120, w ∈ wsX12_goRule := fun _ h => List.mem_cons_of_mem _ (List.mem_append_right _ h)
  have hl : lv_has ls 7 [(0, .ref h), (1, .int a1), (2, .int a2), (3, .int a3)] := hl
  have b109 : ∀ (B29 : Int32 → Int32 → Int32 → Int32 → Int32 → ST → Prop), (∀ (x1 : Int32) (x2 : Int32) (x3 : Int32) (x4 : Int32) (x5 : Int32) (u : ST), B29 x1 x2 x3 x4 x5 u → mGo p l e ({ frames := 7, cells := 0, slots := 0, locals := 167 } : Room) s m args below meth c A Z 7 D (mT cs) (W12 h r cs) 29 [(0, .ref h), (1, .int x1), (2, .int x2), (3, .int x3), (4, .int x4), (5, .int x5)] [] u) → ∀ (x1 : Int32) (x2 : Int32) (x3 : Int32) (x4 : Int32) (x5 : Int32) (u : ST), wp_X12_goRule_p109 x1 x2 x3 x4 x5 u B29 Q → mGo p l e ({ frames := 7, cells := 0, slots := 0, locals := 167 } : Room) s m args below meth c A Z 7 D (mT cs) (W12 h r cs) 109 [(0, .ref h), (1, .int x1), (2, .int x2), (3, .int x3), (4, .int x4), (5, .int x5)] [] u := by
    intro B29 hB29 x1 x2 x3 x4 x5 u hw H locs ls hI hl
    unfold wp_X12_goRule_p109 at hw
    refine lv_goto (tgt := 29) S.1 S.2.1 dX12_goRule_109 (by decide) ?_
    exact hB29 x1 x2 x3 x4 x5 u hw H locs ls hI (lv_sub hl [0, 1, 2, 3, 4, 5] rfl)
  have b70 : ∀ (B29 : Int32 → Int32 → Int32 → Int32 → Int32 → ST → Prop), (∀ (x1 : Int32) (x2 : Int32) (x3 : Int32) (x4 : Int32) (x5 : Int32) (u : ST), B29 x1 x2 x3 x4 x5 u → mGo p l e ({ frames := 7, cells := 0, slots := 0, locals := 167 } : Room) s m args below meth c A Z 7 D (mT cs) (W12 h r cs) 29 [(0, .ref h), (1, .int x1), (2, .int x2), (3, .int x3), (4, .int x4), (5, .int x5)] [] u) → ∀ (x1 : Int32) (x2 : Int32) (x3 : Int32) (x4 : Int32) (x5 : Int32) (x6 : Int32) (u : ST), wp_X12_goRule_p70 x1 x2 x3 x4 x5 x6 u B29 Q → mGo p l e ({ frames := 7, cells := 0, slots := 0, locals := 167 } : Room) s m args below meth c A Z 7 D (mT cs) (W12 h r cs) 70 [(0, .ref h), (1, .int x1), (2, .int x2), (3, .int x3), (4, .int x4), (5, .int x5), (6, .int x6)] [] u := by
    intro B29 hB29 x1 x2 x3 x4 x5 x6 u hw H locs ls hI hl
    unfold wp_X12_goRule_p70 at hw
    refine lv_aload_n S.1 S.2.1 dX12_goRule_70 rfl (lv_at hl 0 rfl) ?_
    refine lv_dup S.1 S.2.1 dX12_goRule_71 rfl ?_
    refine m_get S hin hI 0 (W12_at0 h r cs u) rfl 38 (Nat.le_of_ble_eq_true rfl) (List.mem_of_getElem? (i := 2) rfl) rfl (Ff12_at38 r u) dX12_goRule_72 ?_
    refine lv_iconst (v := 1) S.1 S.2.1 dX12_goRule_75 (by decide) ?_
    refine lv_iadd S.1 S.2.1 dX12_goRule_76 ?_
    refine lv_topi (fun y76 ey76 => ?_)
    have hw := hw y76 ey76
    obtain ⟨u77, eu77⟩ : ∃ z : ST, z = sI u 38 y76 := ⟨_, rfl⟩
    have hw := hw u77 eu77
    refine m_put S hin tyX12_ok nmX12 hI 0 (W12_at0 h r cs u) rfl 38 (Nat.le_of_ble_eq_true rfl) (List.mem_of_getElem? (i := 2) rfl) rfl rfl rfl rfl (Nat.le_of_ble_eq_true rfl) (W12_sI38 h r cs u u77 y76 eu77) dX12_goRule_77 (fun H locs hI => ?_)
    refine lv_iload_n S.1 S.2.1 dX12_goRule_80 rfl (lv_at hl 2 rfl) ?_
    refine lv_iload S.1 S.2.1 dX12_goRule_81 (lv_at hl 6 rfl) ?_
    refine lv_icmp_ge (tgt := 105) S.1 S.2.1 dX12_goRule_83 (by decide) (fun c83 => ?_) (fun c83 => ?_)
    · have hw := hw.1 c83
      refine lv_iload S.1 S.2.1 dX12_goRule_105 (lv_at hl 6 rfl) ?_
      refine lv_istore (lv' := [(4, .int x6), (0, .ref h), (1, .int x1), (2, .int x2), (3, .int x3), (5, .int x5), (6, .int x6)]) S.1 S.2.1 dX12_goRule_107 hl (by decide) rfl (fun ls hl => ?_)
      exact b109 B29 hB29 x1 x2 x3 x6 x5 u77 hw H locs ls hI (lv_sub hl [1, 2, 3, 4, 0, 5] rfl)
    · have hw := hw.2 c83
      refine lv_aload_n S.1 S.2.1 dX12_goRule_86 rfl (lv_at hl 0 rfl) ?_
      refine lv_dup S.1 S.2.1 dX12_goRule_87 rfl ?_
      refine m_get S hin hI 0 (W12_at0 h r cs u77) rfl 39 (Nat.le_of_ble_eq_true rfl) (List.mem_of_getElem? (i := 3) rfl) rfl (Ff12_at39 r u77) dX12_goRule_88 ?_
      refine lv_iconst (v := 1) S.1 S.2.1 dX12_goRule_91 (by decide) ?_
      refine lv_iadd S.1 S.2.1 dX12_goRule_92 ?_
      refine lv_topi (fun y92 ey92 => ?_)
      have hw := hw y92 ey92
      obtain ⟨u93, eu93⟩ : ∃ z : ST, z = sI u77 39 y92 := ⟨_, rfl⟩
      have hw := hw u93 eu93
      refine m_put S hin tyX12_ok nmX12 hI 0 (W12_at0 h r cs u77) rfl 39 (Nat.le_of_ble_eq_true rfl) (List.mem_of_getElem? (i := 3) rfl) rfl rfl rfl rfl (Nat.le_of_ble_eq_true rfl) (W12_sI39 h r cs u77 u93 y92 eu93) dX12_goRule_93 (fun H locs hI => ?_)
      refine lv_iload S.1 S.2.1 dX12_goRule_96 (lv_at hl 6 rfl) ?_
      refine lv_iconst (v := 1) S.1 S.2.1 dX12_goRule_98 (by decide) ?_
      refine lv_isub S.1 S.2.1 dX12_goRule_99 ?_
      refine lv_topi (fun y99 ey99 => ?_)
      have hw := hw y99 ey99
      refine lv_istore (lv' := [(5, .int y99), (0, .ref h), (1, .int x1), (2, .int x2), (3, .int x3), (4, .int x4), (6, .int x6)]) S.1 S.2.1 dX12_goRule_100 hl (by decide) rfl (fun ls hl => ?_)
      refine lv_goto (tgt := 109) S.1 S.2.1 dX12_goRule_102 (by decide) ?_
      exact b109 B29 hB29 x1 x2 x3 x4 y99 u93 hw H locs ls hI (lv_sub hl [1, 2, 3, 4, 5, 0] rfl)
  have b29b : ∀ (B29 : Int32 → Int32 → Int32 → Int32 → Int32 → ST → Prop), (∀ (x1 : Int32) (x2 : Int32) (x3 : Int32) (x4 : Int32) (x5 : Int32) (u : ST), B29 x1 x2 x3 x4 x5 u → mGo p l e ({ frames := 7, cells := 0, slots := 0, locals := 167 } : Room) s m args below meth c A Z 7 D (mT cs) (W12 h r cs) 29 [(0, .ref h), (1, .int x1), (2, .int x2), (3, .int x3), (4, .int x4), (5, .int x5)] [] u) → ∀ (x1 : Int32) (x2 : Int32) (x3 : Int32) (x4 : Int32) (x5 : Int32) (u : ST), wp_X12_goRule_p29b x1 x2 x3 x4 x5 u B29 Q → mGo p l e ({ frames := 7, cells := 0, slots := 0, locals := 167 } : Room) s m args below meth c A Z 7 D (mT cs) (W12 h r cs) 29 [(0, .ref h), (1, .int x1), (2, .int x2), (3, .int x3), (4, .int x4), (5, .int x5)] [] u := by
    intro B29 hB29 x1 x2 x3 x4 x5 u hw H locs ls hI hl
    unfold wp_X12_goRule_p29b at hw
    refine lv_iload S.1 S.2.1 dX12_goRule_29 (lv_at hl 4 rfl) ?_
    refine lv_iload S.1 S.2.1 dX12_goRule_31 (lv_at hl 5 rfl) ?_
    refine lv_icmp_ge (tgt := 112) S.1 S.2.1 dX12_goRule_33 (by decide) (fun c33 => ?_) (fun c33 => ?_)
    · have hw := hw.1 c33
      subst hZ
      exact m_vret S hr hlocks hI hw dX12_goRule_112
    · have hw := hw.2 c33
      refine lv_aload_n S.1 S.2.1 dX12_goRule_36 rfl (lv_at hl 0 rfl) ?_
      refine lv_iload_n S.1 S.2.1 dX12_goRule_37 rfl (lv_at hl 1 rfl) ?_
      refine lv_iload S.1 S.2.1 dX12_goRule_38 (lv_at hl 4 rfl) ?_
      refine lv_iload S.1 S.2.1 dX12_goRule_40 (lv_at hl 5 rfl) ?_
      refine lv_aload_n S.1 S.2.1 dX12_goRule_42 rfl (lv_at hl 0 rfl) ?_
      refine m_get S hin hI 0 (W12_at0 h r cs u) rfl 2 (Nat.le_of_ble_eq_true rfl) (List.mem_of_getElem? (i := 5) rfl) rfl (Ff12_at2 r u) dX12_goRule_43 ?_
      refine lv_aload_n S.1 S.2.1 dX12_goRule_46 rfl (lv_at hl 0 rfl) ?_
      refine m_get S hin hI 0 (W12_at0 h r cs u) rfl 39 (Nat.le_of_ble_eq_true rfl) (List.mem_of_getElem? (i := 3) rfl) rfl (Ff12_at39 r u) dX12_goRule_47 ?_
      refine lv_isub S.1 S.2.1 dX12_goRule_50 ?_
      refine lv_topi (fun y50 ey50 => ?_)
      have hw := hw y50 ey50
      refine m_vi (As := [.int x1, .int x4, .int x5, .int y50]) (rest := []) S (W12_self h r cs) hI rfl (c_X12_ruleFirst l D h r cs x1 x4 x5 y50 u _ hw) (cwV 4 S.2.2.2.2 gX12_goRule_X12_ruleFirst rfl rfl rfl (by decide +kernel) ⟨Nat.le_of_ble_eq_true rfl, Nat.le_of_ble_eq_true rfl⟩) (W12_at0 h r cs u) rfl rfl hl.1 rfl (Nat.le_of_ble_eq_true rfl) dX12_goRule_51 ⟨Nat.zero_le _, Nat.zero_le _⟩ (fun y51 u51 H locs hw hI => ?_)
      refine lv_istore (lv' := [(6, .int y51), (0, .ref h), (1, .int x1), (2, .int x2), (3, .int x3), (4, .int x4), (5, .int x5)]) S.1 S.2.1 dX12_goRule_54 hl (by decide) rfl (fun ls hl => ?_)
      refine lv_aload_n S.1 S.2.1 dX12_goRule_56 rfl (lv_at hl 1 rfl) ?_
      refine m_get S hin hI 0 (W12_at0 h r cs u51) rfl 38 (Nat.le_of_ble_eq_true rfl) (List.mem_of_getElem? (i := 2) rfl) rfl (Ff12_at38 r u51) dX12_goRule_57 ?_
      refine lv_iload_n S.1 S.2.1 dX12_goRule_60 rfl (lv_at hl 4 rfl) ?_
      refine lv_icmp_ne (tgt := 70) S.1 S.2.1 dX12_goRule_61 (by decide) (fun c61 => ?_) (fun c61 => ?_)
      · have hw := hw.1 c61
        exact b70 B29 hB29 x1 x2 x3 x4 x5 y51 u51 hw H locs ls hI (lv_sub hl [1, 2, 3, 4, 5, 6, 0] rfl)
      · have hw := hw.2 c61
        refine lv_aload_n S.1 S.2.1 dX12_goRule_64 rfl (lv_at hl 1 rfl) ?_
        refine lv_iload S.1 S.2.1 dX12_goRule_65 (lv_at hl 0 rfl) ?_
        obtain ⟨u67, eu67⟩ : ∃ z : ST, z = sI u51 40 y51 := ⟨_, rfl⟩
        have hw := hw u67 eu67
        refine m_put S hin tyX12_ok nmX12 hI 0 (W12_at0 h r cs u51) rfl 40 (Nat.le_of_ble_eq_true rfl) (List.mem_of_getElem? (i := 4) rfl) rfl rfl rfl rfl (Nat.le_of_ble_eq_true rfl) (W12_sI40 h r cs u51 u67 y51 eu67) dX12_goRule_67 (fun H locs hI => ?_)
        exact b70 B29 hB29 x1 x2 x3 x4 x5 y51 u67 hw H locs ls hI (lv_sub hl [1, 2, 3, 4, 5, 6, 0] rfl)
  have b29 : ∀ (x1 : Int32) (x2 : Int32) (x3 : Int32) (x4 : Int32) (x5 : Int32) (u : ST), wp_X12_goRule_p29 x1 x2 x3 x4 x5 u Q → mGo p l e ({ frames := 7, cells := 0, slots := 0, locals := 167 } : Room) s m args below meth c A Z 7 D (mT cs) (W12 h r cs) 29 [(0, .ref h), (1, .int x1), (2, .int x2), (3, .int x3), (4, .int x4), (5, .int x5)] [] u := by
    intro x1 x2 x3 x4 x5 u hw
    obtain ⟨I, μ, h0, hs⟩ := hw
    have key : ∀ (n : Nat) (x1 : Int32) (x2 : Int32) (x3 : Int32) (x4 : Int32) (x5 : Int32) (u : ST), μ x1 x2 x3 x4 x5 u = n → I x1 x2 x3 x4 x5 u → mGo p l e ({ frames := 7, cells := 0, slots := 0, locals := 167 } : Room) s m args below meth c A Z 7 D (mT cs) (W12 h r cs) 29 [(0, .ref h), (1, .int x1), (2, .int x2), (3, .int x3), (4, .int x4), (5, .int x5)] [] u := by
      intro n
      induction n using Nat.strongRecOn with
      | ind n ih =>
        intro x1 x2 x3 x4 x5 u hn hi
        exact b29b (fun yx1 yx2 yx3 yx4 yx5 yu => I yx1 yx2 yx3 yx4 yx5 yu ∧ μ yx1 yx2 yx3 yx4 yx5 yu < μ x1 x2 x3 x4 x5 u) (fun yx1 yx2 yx3 yx4 yx5 yu hb => ih _ (hn ▸ hb.2) yx1 yx2 yx3 yx4 yx5 yu rfl hb.1) x1 x2 x3 x4 x5 u (hs x1 x2 x3 x4 x5 u hi)
    exact key _ x1 x2 x3 x4 x5 u rfl h0
  unfold wp_X12_goRule at hw
  obtain ⟨H, hH⟩ : ∃ z : Heap, z = s.heap := ⟨_, rfl⟩
  obtain ⟨locs, hL⟩ : ∃ z : List Loc, z = [] := ⟨_, rfl⟩
  rw [show W p l e ({ frames := 7, cells := 0, slots := 0, locals := 167 } : Room) s m args below meth c s.heap [] 0 0 Z (F0 m 0 ls []) = W p l e ({ frames := 7, cells := 0, slots := 0, locals := 167 } : Room) s m args below meth c H locs 0 0 Z (F0 m 0 ls []) by rw [hH, hL]]
  replace hI : mI D (mT cs) A s.heap s (W12 h r cs u) H locs := by rw [hH, hL]; exact hI
  refine lv_aload_n S.1 S.2.1 dX12_goRule_0 rfl (lv_at hl 0 rfl) ?_
  refine m_vv (As := []) (rest := []) S (W12_self h r cs) hI rfl (c_X12_findWorst l D h r cs u _ hw) (cwV 0 S.2.2.2.2 gX12_goRule_X12_findWorst rfl rfl rfl (by decide +kernel) ⟨Nat.le_of_ble_eq_true rfl, Nat.le_of_ble_eq_true rfl⟩) (W12_at0 h r cs u) rfl rfl hl.1 rfl (Nat.le_of_ble_eq_true rfl) dX12_goRule_1 ⟨Nat.zero_le _, Nat.zero_le _⟩ (fun u1 H locs hw hI => ?_)
  refine lv_iconst (v := 0) S.1 S.2.1 dX12_goRule_4 (by decide) ?_
  refine lv_istore (lv' := [(4, .int (0 : Int32)), (0, .ref h), (1, .int a1), (2, .int a2), (3, .int a3)]) S.1 S.2.1 dX12_goRule_5 hl (by decide) rfl (fun ls hl => ?_)
  refine lv_aload_n S.1 S.2.1 dX12_goRule_7 rfl (lv_at hl 1 rfl) ?_
  refine m_get S hin hI 0 (W12_at0 h r cs u1) rfl 1 (Nat.le_of_ble_eq_true rfl) (List.mem_of_getElem? (i := 1) rfl) rfl (Ff12_at1 r u1) dX12_goRule_8 ?_
  refine lv_istore (lv' := [(5, .int (gI u1 1)), (4, .int (0 : Int32)), (0, .ref h), (1, .int a1), (2, .int a2), (3, .int a3)]) S.1 S.2.1 dX12_goRule_11 hl (by decide) rfl (fun ls hl => ?_)
  refine lv_aload_n S.1 S.2.1 dX12_goRule_13 rfl (lv_at hl 2 rfl) ?_
  refine lv_iconst (v := 0) S.1 S.2.1 dX12_goRule_14 (by decide) ?_
  obtain ⟨u15, eu15⟩ : ∃ z : ST, z = sI u1 38 (0 : Int32) := ⟨_, rfl⟩
  have hw := hw u15 eu15
  refine m_put S hin tyX12_ok nmX12 hI 0 (W12_at0 h r cs u1) rfl 38 (Nat.le_of_ble_eq_true rfl) (List.mem_of_getElem? (i := 2) rfl) rfl rfl rfl rfl (Nat.le_of_ble_eq_true rfl) (W12_sI38 h r cs u1 u15 (0 : Int32) eu15) dX12_goRule_15 (fun H locs hI => ?_)
  refine lv_aload_n S.1 S.2.1 dX12_goRule_18 rfl (lv_at hl 2 rfl) ?_
  refine lv_iconst (v := 0) S.1 S.2.1 dX12_goRule_19 (by decide) ?_
  obtain ⟨u20, eu20⟩ : ∃ z : ST, z = sI u15 39 (0 : Int32) := ⟨_, rfl⟩
  have hw := hw u20 eu20
  refine m_put S hin tyX12_ok nmX12 hI 0 (W12_at0 h r cs u15) rfl 39 (Nat.le_of_ble_eq_true rfl) (List.mem_of_getElem? (i := 3) rfl) rfl rfl rfl rfl (Nat.le_of_ble_eq_true rfl) (W12_sI39 h r cs u15 u20 (0 : Int32) eu20) dX12_goRule_20 (fun H locs hI => ?_)
  refine lv_aload_n S.1 S.2.1 dX12_goRule_23 rfl (lv_at hl 2 rfl) ?_
  refine lv_bipush (v := (-2)) S.1 S.2.1 dX12_goRule_24 (by decide) ?_
  obtain ⟨u26, eu26⟩ : ∃ z : ST, z = sI u20 40 ((-2) : Int32) := ⟨_, rfl⟩
  have hw := hw u26 eu26
  refine m_put S hin tyX12_ok nmX12 hI 0 (W12_at0 h r cs u20) rfl 40 (Nat.le_of_ble_eq_true rfl) (List.mem_of_getElem? (i := 4) rfl) rfl rfl rfl rfl (Nat.le_of_ble_eq_true rfl) (W12_sI40 h r cs u20 u26 ((-2) : Int32) eu26) dX12_goRule_26 (fun H locs hI => ?_)
  exact b29 a1 a2 a3 (0 : Int32) (gI u1 1) u26 hw H locs ls hI (lv_sub hl [2, 3, 4, 5, 1, 0] rfl)

def wp_X12_ruled_p30 (u : ST) (Q : Int32 → ST → Prop) : Prop :=
  Q ((-1) : Int32) u
def wp_X12_ruled_p64 (t0 : Int32) (u : ST) (Q : Int32 → ST → Prop) : Prop :=
  Q t0 u
def wp_X12_ruled (a1 : Int32) (a2 : Int32) (a3 : Int32) (u : ST) (Q : Int32 → ST → Prop) : Prop :=
  (wp_X12_in a1 (0 : Int32) (1 : Int32) (fun y3 => ((y3 = 0 → wp_X12_ruled_p30 u Q) ∧ (¬ y3 = 0 → (wp_X12_in a2 (0 : Int32) (gI u 1) (fun y15 => ((y15 = 0 → wp_X12_ruled_p30 u Q) ∧ (¬ y15 = 0 → (wp_X12_in a3 (0 : Int32) (1 : Int32) (fun y24 => ((¬ y24 = 0 → ((¬ (gI u 2) = 0 → (wp_X12_goRule a1 a2 ((-1) : Int32) u (fun u46 => ((¬ a3 = 0 → wp_X12_ruled_p64 (gI u46 39) u46 Q) ∧ (a3 = 0 → wp_X12_ruled_p64 (gI u46 38) u46 Q))))) ∧ ((gI u 2) = 0 → Q ((-2) : Int32) u))) ∧ (y24 = 0 → wp_X12_ruled_p30 u Q))))))))))))
set_option maxHeartbeats 4000000 in
set_option maxRecDepth 100000 in
theorem c_X12_ruled (l : Launch) (D : va_G) (h : Nat) (r : Nat → Nat) (cs : Nat → ClassId) (a1 : Int32) (a2 : Int32) (a3 : Int32) (u : ST) (Q : Int32 → ST → Prop) (hw : wp_X12_ruled a1 a2 a3 u Q) : mCi l yX12_ruled wsX12_ruled ({ frames := 8, cells := 0, slots := 0, locals := 193 } : Room) 0 0 D (mT cs) (W12 h r cs) [.ref h, .int a1, .int a2, .int a3] u Q := by
  unfold mCi
  refine m_enter (QQ := fun A => va_Qi Q (mPos D (mT cs) A (W12 h r cs)) A) (cc := cX12_ruled) (maxL := 4) (ret := (some .int)) (by decide) rfl (Nat.le_of_ble_eq_true rfl) ?_
  intro p e s m args below meth c A ls S hr hlocks hname hl hI
  have S : CallFix p m c cX12_ruled 4 s args wsX12_ruled RX12 := S
  show W p l e ({ frames := 8, cells := 0, slots := 0, locals := 193 } : Room) s m args below meth c s.heap [] 0 0 (MQ below (va_Qi Q (mPos D (mT cs) A (W12 h r cs)) A) args s 0 0 A) (F0 m 0 ls [])
  generalize hZ : MQ below (va_Qi Q (mPos D (mT cs) A (W12 h r cs)) A) args s 0 0 A = Z
  have hin : ∀ w ∈ wsX120, w ∈ wsX12_ruled := fun _ h => List.mem_cons_of_mem _ (List.mem_append_right _ h)
  have hl : lv_has ls 4 [(0, .ref h), (1, .int a1), (2, .int a2), (3, .int a3)] := hl
  have b30 : ∀ (u : ST), wp_X12_ruled_p30 u Q → mGo p l e ({ frames := 8, cells := 0, slots := 0, locals := 193 } : Room) s m args below meth c A Z 4 D (mT cs) (W12 h r cs) 30 [(0, .ref h)] [] u := by
    intro u hw H locs ls hI hl
    unfold wp_X12_ruled_p30 at hw
    refine lv_iconst (v := (-1)) S.1 S.2.1 dX12_ruled_30 (by decide) ?_
    subst hZ
    exact m_iret S hr hlocks hI hw dX12_ruled_31
  have b64 : ∀ (t0 : Int32) (u : ST), wp_X12_ruled_p64 t0 u Q → mGo p l e ({ frames := 8, cells := 0, slots := 0, locals := 193 } : Room) s m args below meth c A Z 4 D (mT cs) (W12 h r cs) 64 [(0, .ref h)] [.int t0] u := by
    intro t0 u hw H locs ls hI hl
    unfold wp_X12_ruled_p64 at hw
    subst hZ
    exact m_iret S hr hlocks hI hw dX12_ruled_64
  unfold wp_X12_ruled at hw
  obtain ⟨H, hH⟩ : ∃ z : Heap, z = s.heap := ⟨_, rfl⟩
  obtain ⟨locs, hL⟩ : ∃ z : List Loc, z = [] := ⟨_, rfl⟩
  rw [show W p l e ({ frames := 8, cells := 0, slots := 0, locals := 193 } : Room) s m args below meth c s.heap [] 0 0 Z (F0 m 0 ls []) = W p l e ({ frames := 8, cells := 0, slots := 0, locals := 193 } : Room) s m args below meth c H locs 0 0 Z (F0 m 0 ls []) by rw [hH, hL]]
  replace hI : mI D (mT cs) A s.heap s (W12 h r cs u) H locs := by rw [hH, hL]; exact hI
  refine lv_iload_n S.1 S.2.1 dX12_ruled_0 rfl (lv_at hl 1 rfl) ?_
  refine lv_iconst (v := 0) S.1 S.2.1 dX12_ruled_1 (by decide) ?_
  refine lv_iconst (v := 1) S.1 S.2.1 dX12_ruled_2 (by decide) ?_
  refine m_si (As := [.int a1, .int (0 : Int32), .int (1 : Int32)]) (rest := []) S hI.2.2.2.1.2.1 (c_X12_in l a1 (0 : Int32) (1 : Int32) _ hw) (va_cwS 3 S.2.2.2.2 gX12_ruled_X12_in rfl rfl rfl (by decide +kernel) ⟨Nat.le_of_ble_eq_true rfl, Nat.le_of_ble_eq_true rfl⟩) rfl hl.1 rfl (Nat.le_of_ble_eq_true rfl) dX12_ruled_3 ⟨Nat.zero_le _, Nat.zero_le _⟩ (fun y3 hw => ?_)
  refine lv_if_eq (tgt := 30) S.1 S.2.1 dX12_ruled_6 (by decide) (fun c6 => ?_) (fun c6 => ?_)
  · have hw := hw.1 c6
    exact b30 u hw H locs ls hI (lv_sub hl [0] rfl)
  · have hw := hw.2 c6
    refine lv_iload_n S.1 S.2.1 dX12_ruled_9 rfl (lv_at hl 2 rfl) ?_
    refine lv_iconst (v := 0) S.1 S.2.1 dX12_ruled_10 (by decide) ?_
    refine lv_aload_n S.1 S.2.1 dX12_ruled_11 rfl (lv_at hl 0 rfl) ?_
    refine m_get S hin hI 0 (W12_at0 h r cs u) rfl 1 (Nat.le_of_ble_eq_true rfl) (List.mem_of_getElem? (i := 1) rfl) rfl (Ff12_at1 r u) dX12_ruled_12 ?_
    refine m_si (As := [.int a2, .int (0 : Int32), .int (gI u 1)]) (rest := []) S hI.2.2.2.1.2.1 (c_X12_in l a2 (0 : Int32) (gI u 1) _ hw) (va_cwS 3 S.2.2.2.2 gX12_ruled_X12_in rfl rfl rfl (by decide +kernel) ⟨Nat.le_of_ble_eq_true rfl, Nat.le_of_ble_eq_true rfl⟩) rfl hl.1 rfl (Nat.le_of_ble_eq_true rfl) dX12_ruled_15 ⟨Nat.zero_le _, Nat.zero_le _⟩ (fun y15 hw => ?_)
    refine lv_if_eq (tgt := 30) S.1 S.2.1 dX12_ruled_18 (by decide) (fun c18 => ?_) (fun c18 => ?_)
    · have hw := hw.1 c18
      exact b30 u hw H locs ls hI (lv_sub hl [0] rfl)
    · have hw := hw.2 c18
      refine lv_iload_n S.1 S.2.1 dX12_ruled_21 rfl (lv_at hl 3 rfl) ?_
      refine lv_iconst (v := 0) S.1 S.2.1 dX12_ruled_22 (by decide) ?_
      refine lv_iconst (v := 1) S.1 S.2.1 dX12_ruled_23 (by decide) ?_
      refine m_si (As := [.int a3, .int (0 : Int32), .int (1 : Int32)]) (rest := []) S hI.2.2.2.1.2.1 (c_X12_in l a3 (0 : Int32) (1 : Int32) _ hw) (va_cwS 3 S.2.2.2.2 gX12_ruled_X12_in rfl rfl rfl (by decide +kernel) ⟨Nat.le_of_ble_eq_true rfl, Nat.le_of_ble_eq_true rfl⟩) rfl hl.1 rfl (Nat.le_of_ble_eq_true rfl) dX12_ruled_24 ⟨Nat.zero_le _, Nat.zero_le _⟩ (fun y24 hw => ?_)
      refine lv_if_ne (tgt := 32) S.1 S.2.1 dX12_ruled_27 (by decide) (fun c27 => ?_) (fun c27 => ?_)
      · have hw := hw.1 c27
        refine lv_aload_n S.1 S.2.1 dX12_ruled_32 rfl (lv_at hl 0 rfl) ?_
        refine m_get S hin hI 0 (W12_at0 h r cs u) rfl 2 (Nat.le_of_ble_eq_true rfl) (List.mem_of_getElem? (i := 2) rfl) rfl (Ff12_at2 r u) dX12_ruled_33 ?_
        refine lv_if_ne (tgt := 42) S.1 S.2.1 dX12_ruled_36 (by decide) (fun c36 => ?_) (fun c36 => ?_)
        · have hw := hw.1 c36
          refine lv_aload_n S.1 S.2.1 dX12_ruled_42 rfl (lv_at hl 0 rfl) ?_
          refine lv_iload_n S.1 S.2.1 dX12_ruled_43 rfl (lv_at hl 1 rfl) ?_
          refine lv_iload_n S.1 S.2.1 dX12_ruled_44 rfl (lv_at hl 2 rfl) ?_
          refine lv_iconst (v := (-1)) S.1 S.2.1 dX12_ruled_45 (by decide) ?_
          refine m_vv (As := [.int a1, .int a2, .int ((-1) : Int32)]) (rest := []) S (W12_self h r cs) hI rfl (c_X12_goRule l D h r cs a1 a2 ((-1) : Int32) u _ hw) (cwV 3 S.2.2.2.2 gX12_ruled_X12_goRule rfl rfl rfl (by decide +kernel) ⟨Nat.le_of_ble_eq_true rfl, Nat.le_of_ble_eq_true rfl⟩) (W12_at0 h r cs u) rfl rfl hl.1 rfl (Nat.le_of_ble_eq_true rfl) dX12_ruled_46 ⟨Nat.zero_le _, Nat.zero_le _⟩ (fun u46 H locs hw hI => ?_)
          refine lv_iload_n S.1 S.2.1 dX12_ruled_49 rfl (lv_at hl 3 rfl) ?_
          refine lv_if_ne (tgt := 60) S.1 S.2.1 dX12_ruled_50 (by decide) (fun c50 => ?_) (fun c50 => ?_)
          · have hw := hw.1 c50
            refine lv_aload_n S.1 S.2.1 dX12_ruled_60 rfl (lv_at hl 0 rfl) ?_
            refine m_get S hin hI 0 (W12_at0 h r cs u46) rfl 39 (Nat.le_of_ble_eq_true rfl) (List.mem_of_getElem? (i := 4) rfl) rfl (Ff12_at39 r u46) dX12_ruled_61 ?_
            exact b64 (gI u46 39) u46 hw H locs ls hI (lv_sub hl [0] rfl)
          · have hw := hw.2 c50
            refine lv_aload_n S.1 S.2.1 dX12_ruled_53 rfl (lv_at hl 0 rfl) ?_
            refine m_get S hin hI 0 (W12_at0 h r cs u46) rfl 38 (Nat.le_of_ble_eq_true rfl) (List.mem_of_getElem? (i := 3) rfl) rfl (Ff12_at38 r u46) dX12_ruled_54 ?_
            refine lv_goto (tgt := 64) S.1 S.2.1 dX12_ruled_57 (by decide) ?_
            exact b64 (gI u46 38) u46 hw H locs ls hI (lv_sub hl [0] rfl)
        · have hw := hw.2 c36
          refine lv_bipush (v := (-2)) S.1 S.2.1 dX12_ruled_39 (by decide) ?_
          subst hZ
          exact m_iret S hr hlocks hI hw dX12_ruled_41
      · have hw := hw.2 c27
        exact b30 u hw H locs ls hI (lv_sub hl [0] rfl)

def wp_X12_step_p25 (u : ST) (Q : Int32 → ST → Prop) : Prop :=
  Q ((-1) : Int32) u
def wp_X12_step (a1 : Int32) (a2 : Int32) (a3 : Int32) (u : ST) (Q : Int32 → ST → Prop) : Prop :=
  (wp_X12_in a1 (0 : Int32) (1 : Int32) (fun y3 => ((y3 = 0 → wp_X12_step_p25 u Q) ∧ (¬ y3 = 0 → (wp_X12_in a2 (0 : Int32) (gI u 1) (fun y15 => ((y15 = 0 → wp_X12_step_p25 u Q) ∧ (¬ y15 = 0 → ((0 ≤ a3 → ((¬ (gI u 2) = 0 → (wp_X12_goRule a1 a2 a3 u (fun u41 => Q (gI u41 40) u41))) ∧ ((gI u 2) = 0 → Q ((-2) : Int32) u))) ∧ (¬ 0 ≤ a3 → wp_X12_step_p25 u Q))))))))))
set_option maxHeartbeats 4000000 in
set_option maxRecDepth 100000 in
theorem c_X12_step (l : Launch) (D : va_G) (h : Nat) (r : Nat → Nat) (cs : Nat → ClassId) (a1 : Int32) (a2 : Int32) (a3 : Int32) (u : ST) (Q : Int32 → ST → Prop) (hw : wp_X12_step a1 a2 a3 u Q) : mCi l yX12_step wsX12_step ({ frames := 8, cells := 0, slots := 0, locals := 193 } : Room) 0 0 D (mT cs) (W12 h r cs) [.ref h, .int a1, .int a2, .int a3] u Q := by
  unfold mCi
  refine m_enter (QQ := fun A => va_Qi Q (mPos D (mT cs) A (W12 h r cs)) A) (cc := cX12_step) (maxL := 4) (ret := (some .int)) (by decide) rfl (Nat.le_of_ble_eq_true rfl) ?_
  intro p e s m args below meth c A ls S hr hlocks hname hl hI
  have S : CallFix p m c cX12_step 4 s args wsX12_step RX12 := S
  show W p l e ({ frames := 8, cells := 0, slots := 0, locals := 193 } : Room) s m args below meth c s.heap [] 0 0 (MQ below (va_Qi Q (mPos D (mT cs) A (W12 h r cs)) A) args s 0 0 A) (F0 m 0 ls [])
  generalize hZ : MQ below (va_Qi Q (mPos D (mT cs) A (W12 h r cs)) A) args s 0 0 A = Z
  have hin : ∀ w ∈ wsX120, w ∈ wsX12_step := fun _ h => List.mem_cons_of_mem _ (List.mem_append_right _ h)
  have hl : lv_has ls 4 [(0, .ref h), (1, .int a1), (2, .int a2), (3, .int a3)] := hl
  have b25 : ∀ (u : ST), wp_X12_step_p25 u Q → mGo p l e ({ frames := 8, cells := 0, slots := 0, locals := 193 } : Room) s m args below meth c A Z 4 D (mT cs) (W12 h r cs) 25 [(0, .ref h)] [] u := by
    intro u hw H locs ls hI hl
    unfold wp_X12_step_p25 at hw
    refine lv_iconst (v := (-1)) S.1 S.2.1 dX12_step_25 (by decide) ?_
    subst hZ
    exact m_iret S hr hlocks hI hw dX12_step_26
  unfold wp_X12_step at hw
  obtain ⟨H, hH⟩ : ∃ z : Heap, z = s.heap := ⟨_, rfl⟩
  obtain ⟨locs, hL⟩ : ∃ z : List Loc, z = [] := ⟨_, rfl⟩
  rw [show W p l e ({ frames := 8, cells := 0, slots := 0, locals := 193 } : Room) s m args below meth c s.heap [] 0 0 Z (F0 m 0 ls []) = W p l e ({ frames := 8, cells := 0, slots := 0, locals := 193 } : Room) s m args below meth c H locs 0 0 Z (F0 m 0 ls []) by rw [hH, hL]]
  replace hI : mI D (mT cs) A s.heap s (W12 h r cs u) H locs := by rw [hH, hL]; exact hI
  refine lv_iload_n S.1 S.2.1 dX12_step_0 rfl (lv_at hl 1 rfl) ?_
  refine lv_iconst (v := 0) S.1 S.2.1 dX12_step_1 (by decide) ?_
  refine lv_iconst (v := 1) S.1 S.2.1 dX12_step_2 (by decide) ?_
  refine m_si (As := [.int a1, .int (0 : Int32), .int (1 : Int32)]) (rest := []) S hI.2.2.2.1.2.1 (c_X12_in l a1 (0 : Int32) (1 : Int32) _ hw) (va_cwS 3 S.2.2.2.2 gX12_step_X12_in rfl rfl rfl (by decide +kernel) ⟨Nat.le_of_ble_eq_true rfl, Nat.le_of_ble_eq_true rfl⟩) rfl hl.1 rfl (Nat.le_of_ble_eq_true rfl) dX12_step_3 ⟨Nat.zero_le _, Nat.zero_le _⟩ (fun y3 hw => ?_)
  refine lv_if_eq (tgt := 25) S.1 S.2.1 dX12_step_6 (by decide) (fun c6 => ?_) (fun c6 => ?_)
  · have hw := hw.1 c6
    exact b25 u hw H locs ls hI (lv_sub hl [0] rfl)
  · have hw := hw.2 c6
    refine lv_iload_n S.1 S.2.1 dX12_step_9 rfl (lv_at hl 2 rfl) ?_
    refine lv_iconst (v := 0) S.1 S.2.1 dX12_step_10 (by decide) ?_
    refine lv_aload_n S.1 S.2.1 dX12_step_11 rfl (lv_at hl 0 rfl) ?_
    refine m_get S hin hI 0 (W12_at0 h r cs u) rfl 1 (Nat.le_of_ble_eq_true rfl) (List.mem_of_getElem? (i := 1) rfl) rfl (Ff12_at1 r u) dX12_step_12 ?_
    refine m_si (As := [.int a2, .int (0 : Int32), .int (gI u 1)]) (rest := []) S hI.2.2.2.1.2.1 (c_X12_in l a2 (0 : Int32) (gI u 1) _ hw) (va_cwS 3 S.2.2.2.2 gX12_step_X12_in rfl rfl rfl (by decide +kernel) ⟨Nat.le_of_ble_eq_true rfl, Nat.le_of_ble_eq_true rfl⟩) rfl hl.1 rfl (Nat.le_of_ble_eq_true rfl) dX12_step_15 ⟨Nat.zero_le _, Nat.zero_le _⟩ (fun y15 hw => ?_)
    refine lv_if_eq (tgt := 25) S.1 S.2.1 dX12_step_18 (by decide) (fun c18 => ?_) (fun c18 => ?_)
    · have hw := hw.1 c18
      exact b25 u hw H locs ls hI (lv_sub hl [0] rfl)
    · have hw := hw.2 c18
      refine lv_iload_n S.1 S.2.1 dX12_step_21 rfl (lv_at hl 3 rfl) ?_
      refine lv_if_ge (tgt := 27) S.1 S.2.1 dX12_step_22 (by decide) (fun c22 => ?_) (fun c22 => ?_)
      · have hw := hw.1 c22
        refine lv_aload_n S.1 S.2.1 dX12_step_27 rfl (lv_at hl 0 rfl) ?_
        refine m_get S hin hI 0 (W12_at0 h r cs u) rfl 2 (Nat.le_of_ble_eq_true rfl) (List.mem_of_getElem? (i := 2) rfl) rfl (Ff12_at2 r u) dX12_step_28 ?_
        refine lv_if_ne (tgt := 37) S.1 S.2.1 dX12_step_31 (by decide) (fun c31 => ?_) (fun c31 => ?_)
        · have hw := hw.1 c31
          refine lv_aload_n S.1 S.2.1 dX12_step_37 rfl (lv_at hl 0 rfl) ?_
          refine lv_iload_n S.1 S.2.1 dX12_step_38 rfl (lv_at hl 1 rfl) ?_
          refine lv_iload_n S.1 S.2.1 dX12_step_39 rfl (lv_at hl 2 rfl) ?_
          refine lv_iload_n S.1 S.2.1 dX12_step_40 rfl (lv_at hl 3 rfl) ?_
          refine m_vv (As := [.int a1, .int a2, .int a3]) (rest := []) S (W12_self h r cs) hI rfl (c_X12_goRule l D h r cs a1 a2 a3 u _ hw) (cwV 3 S.2.2.2.2 gX12_step_X12_goRule rfl rfl rfl (by decide +kernel) ⟨Nat.le_of_ble_eq_true rfl, Nat.le_of_ble_eq_true rfl⟩) (W12_at0 h r cs u) rfl rfl hl.1 rfl (Nat.le_of_ble_eq_true rfl) dX12_step_41 ⟨Nat.zero_le _, Nat.zero_le _⟩ (fun u41 H locs hw hI => ?_)
          refine lv_aload_n S.1 S.2.1 dX12_step_44 rfl (lv_at hl 0 rfl) ?_
          refine m_get S hin hI 0 (W12_at0 h r cs u41) rfl 40 (Nat.le_of_ble_eq_true rfl) (List.mem_of_getElem? (i := 3) rfl) rfl (Ff12_at40 r u41) dX12_step_45 ?_
          subst hZ
          exact m_iret S hr hlocks hI hw dX12_step_48
        · have hw := hw.2 c31
          refine lv_bipush (v := (-2)) S.1 S.2.1 dX12_step_34 (by decide) ?_
          subst hZ
          exact m_iret S hr hlocks hI hw dX12_step_36
      · have hw := hw.2 c22
        exact b25 u hw H locs ls hI (lv_sub hl [0] rfl)

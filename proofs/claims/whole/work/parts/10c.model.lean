/-! laid by program: X12_worked, X12_gives, X12_law, X12_weightOf, X12_weight, X12_greater, X12_findWorst, X12_isSpan, X12_worst, X12_reach, X12_at, X12_findWeights, X12_findSum -/
def wp_X12_worked_p182 (x1 : Int32) (x3 : Int32) (x4 : Int32) (x5 : Int32) (u : ST) (B12 : Int32 → Int32 → Int32 → Int32 → ST → Prop) (Q : Int32 → ST → Prop) : Prop :=
  (∀ y182 : Int32, y182 = x5 + 1 → B12 x1 x3 x4 y182 u)
def wp_X12_worked_p79 (x1 : Int32) (x3 : Int32) (x4 : Int32) (x5 : Int32) (t1 : Int32) (t2 : Int32) (u : ST) (B12 : Int32 → Int32 → Int32 → Int32 → ST → Prop) (Q : Int32 → ST → Prop) : Prop :=
  (vp_in t1 130 ∧ ∀ u79 : ST, u79 = sA u 23 (upd (gA u 23) t1.toNatClampNeg t2) → (∀ y80 : Int32, y80 = x4 + 1 → wp_X12_worked_p182 x1 x3 y80 x5 u79 B12 Q))
def wp_X12_worked_p45 (x1 : Int32) (x3 : Int32) (x4 : Int32) (x5 : Int32) (x6 : Int32) (u : ST) (B12 : Int32 → Int32 → Int32 → Int32 → ST → Prop) (Q : Int32 → ST → Prop) : Prop :=
  ((¬ x6 = (1 : Int32) → (vp_in x5 260 ∧ ∀ y77 : Int32, y77 = gA u 18 x5.toNatClampNeg → (vp_in y77 3 ∧ ∀ y78 : Int32, y78 = gA u 22 y77.toNatClampNeg → wp_X12_worked_p79 x1 x3 x4 x5 x4 y78 u B12 Q))) ∧ (x6 = (1 : Int32) → (vp_in x5 260 ∧ ∀ y63 : Int32, y63 = gA u 18 x5.toNatClampNeg → wp_X12_worked_p79 x1 x3 x4 x5 x4 y63 u B12 Q)))
def wp_X12_worked_p117 (x1 : Int32) (x3 : Int32) (x4 : Int32) (x5 : Int32) (t1 : Int32) (t2 : Int32) (u : ST) (B12 : Int32 → Int32 → Int32 → Int32 → ST → Prop) (Q : Int32 → ST → Prop) : Prop :=
  (vp_in t1 130 ∧ ∀ u117 : ST, u117 = sA u 23 (upd (gA u 23) t1.toNatClampNeg t2) → wp_X12_worked_p182 x1 x3 x4 x5 u117 B12 Q)
def wp_X12_worked_p12b (x1 : Int32) (x3 : Int32) (x4 : Int32) (x5 : Int32) (u : ST) (B12 : Int32 → Int32 → Int32 → Int32 → ST → Prop) (Q : Int32 → ST → Prop) : Prop :=
  (∀ y18 : Int32, y18 = (130 : Int32) * x1 → (∀ y20 : Int32, y20 = y18 + x3 → ((y20 ≤ x5 → (vp_in (0 : Int32) 130 ∧ ∀ y193 : Int32, y193 = gA u 23 (0 : Int32).toNatClampNeg → Q y193 u)) ∧ (¬ y20 ≤ x5 → (vp_in x5 260 ∧ ∀ y30 : Int32, y30 = gA u 17 x5.toNatClampNeg → ((y30 = (1 : Int32) → wp_X12_worked_p45 x1 x3 x4 x5 y30 u B12 Q) ∧ (¬ y30 = (1 : Int32) → ((¬ y30 = (2 : Int32) → ((¬ y30 = (3 : Int32) → ((¬ y30 = (4 : Int32) → (∀ y149 : Int32, y149 = x4 + (-1) → (∀ y159 : Int32, y159 = y149 - (1 : Int32) → (∀ y169 : Int32, y169 = y149 - (1 : Int32) → (vp_in y169 130 ∧ ∀ y170 : Int32, y170 = gA u 23 y169.toNatClampNeg → (vp_in y149 130 ∧ ∀ y177 : Int32, y177 = gA u 23 y149.toNatClampNeg → (wp_X12_twoOf y30 y170 y177 (fun y178 => (vp_in y159 130 ∧ ∀ u181 : ST, u181 = sA u 23 (upd (gA u 23) y159.toNatClampNeg y178) → wp_X12_worked_p182 x1 x3 y149 x5 u181 B12 Q))))))))) ∧ (y30 = (4 : Int32) → (∀ y134 : Int32, y134 = x4 - (1 : Int32) → (∀ y142 : Int32, y142 = x4 - (1 : Int32) → (vp_in y142 130 ∧ ∀ y143 : Int32, y143 = gA u 23 y142.toNatClampNeg → (∀ y144 : Int32, y144 = -y143 → (vp_in y134 130 ∧ ∀ u145 : ST, u145 = sA u 23 (upd (gA u 23) y134.toNatClampNeg y144) → wp_X12_worked_p182 x1 x3 x4 x5 u145 B12 Q)))))))) ∧ (y30 = (3 : Int32) → (∀ y99 : Int32, y99 = x4 - (1 : Int32) → (∀ y107 : Int32, y107 = x4 - (1 : Int32) → (vp_in y107 130 ∧ ∀ y108 : Int32, y108 = gA u 23 y107.toNatClampNeg → ((¬ y108 = 0 → wp_X12_worked_p117 x1 x3 x4 x5 y99 (0 : Int32) u B12 Q) ∧ (y108 = 0 → wp_X12_worked_p117 x1 x3 x4 x5 y99 (1 : Int32) u B12 Q)))))))) ∧ (y30 = (2 : Int32) → wp_X12_worked_p45 x1 x3 x4 x5 y30 u B12 Q)))))))))
def wp_X12_worked_p12 (x1 : Int32) (x3 : Int32) (x4 : Int32) (x5 : Int32) (u : ST) (Q : Int32 → ST → Prop) : Prop := ∃ (I : Int32 → Int32 → Int32 → Int32 → ST → Prop) (μ : Int32 → Int32 → Int32 → Int32 → ST → Nat), I x1 x3 x4 x5 u ∧ ∀ (x1 : Int32) (x3 : Int32) (x4 : Int32) (x5 : Int32) (u : ST), I x1 x3 x4 x5 u → wp_X12_worked_p12b x1 x3 x4 x5 u (fun yx1 yx3 yx4 yx5 yu => I yx1 yx3 yx4 yx5 yu ∧ μ yx1 yx3 yx4 yx5 yu < μ x1 x3 x4 x5 u) Q
def wp_X12_worked (a1 : Int32) (a2 : Int32) (a3 : Int32) (u : ST) (Q : Int32 → ST → Prop) : Prop :=
  (∀ y7 : Int32, y7 = (130 : Int32) * a1 → (∀ y9 : Int32, y9 = y7 + a2 → wp_X12_worked_p12 a1 a3 (0 : Int32) y9 u Q))
set_option maxHeartbeats 4000000 in
set_option maxRecDepth 100000 in
theorem c_X12_worked (l : Launch) (D : va_G) (h : Nat) (r : Nat → Nat) (cs : Nat → ClassId) (a1 : Int32) (a2 : Int32) (a3 : Int32) (u : ST) (Q : Int32 → ST → Prop) (hw : wp_X12_worked a1 a2 a3 u Q) : mCi l yX12_worked wsX12_worked ({ frames := 1, cells := 0, slots := 0, locals := 22 } : Room) 0 0 D (mT cs) (W12 h r cs) [.ref h, .int a1, .int a2, .int a3] u Q := by
  unfold mCi
  refine m_enter (QQ := fun A => va_Qi Q (mPos D (mT cs) A (W12 h r cs)) A) (cc := cX12_worked) (maxL := 7) (ret := (some .int)) (by decide) rfl (Nat.le_of_ble_eq_true rfl) ?_
  intro p e s m args below meth c A ls S hr hlocks hname hl hI
  have S : CallFix p m c cX12_worked 7 s args wsX12_worked RX12 := S
  show W p l e ({ frames := 1, cells := 0, slots := 0, locals := 22 } : Room) s m args below meth c s.heap [] 0 0 (MQ below (va_Qi Q (mPos D (mT cs) A (W12 h r cs)) A) args s 0 0 A) (F0 m 0 ls [])
  generalize hZ : MQ below (va_Qi Q (mPos D (mT cs) A (W12 h r cs)) A) args s 0 0 A = Z
  have hin : ∀ w ∈ wsX120, w ∈ wsX12_worked := fun _ h => List.mem_cons_of_mem _ (List.mem_append_right _ h)
  have hl : lv_has ls 7 [(0, .ref h), (1, .int a1), (2, .int a2), (3, .int a3)] := hl
  have b182 : ∀ (B12 : Int32 → Int32 → Int32 → Int32 → ST → Prop), (∀ (x1 : Int32) (x3 : Int32) (x4 : Int32) (x5 : Int32) (u : ST), B12 x1 x3 x4 x5 u → mGo p l e ({ frames := 1, cells := 0, slots := 0, locals := 22 } : Room) s m args below meth c A Z 7 D (mT cs) (W12 h r cs) 12 [(0, .ref h), (1, .int x1), (3, .int x3), (4, .int x4), (5, .int x5)] [] u) → ∀ (x1 : Int32) (x3 : Int32) (x4 : Int32) (x5 : Int32) (u : ST), wp_X12_worked_p182 x1 x3 x4 x5 u B12 Q → mGo p l e ({ frames := 1, cells := 0, slots := 0, locals := 22 } : Room) s m args below meth c A Z 7 D (mT cs) (W12 h r cs) 182 [(0, .ref h), (1, .int x1), (3, .int x3), (4, .int x4), (5, .int x5)] [] u := by
    intro B12 hB12 x1 x3 x4 x5 u hw H locs ls hI hl
    unfold wp_X12_worked_p182 at hw
    obtain ⟨y182, ey182⟩ : ∃ z : Int32, z = x5 + 1 := ⟨_, rfl⟩
    have hw := hw y182 ey182
    refine lv_iinc (v := y182) (lv' := [(5, .int y182), (0, .ref h), (1, .int x1), (3, .int x3), (4, .int x4)]) S.1 S.2.1 dX12_worked_182 hl (k := 4) rfl (by rw [ey182]; rfl) (by decide) rfl (fun ls hl => ?_)
    refine lv_goto (tgt := 12) S.1 S.2.1 dX12_worked_185 (by decide) ?_
    exact hB12 x1 x3 x4 y182 u hw H locs ls hI (lv_sub hl [1, 2, 3, 4, 0] rfl)
  have b79 : ∀ (B12 : Int32 → Int32 → Int32 → Int32 → ST → Prop), (∀ (x1 : Int32) (x3 : Int32) (x4 : Int32) (x5 : Int32) (u : ST), B12 x1 x3 x4 x5 u → mGo p l e ({ frames := 1, cells := 0, slots := 0, locals := 22 } : Room) s m args below meth c A Z 7 D (mT cs) (W12 h r cs) 12 [(0, .ref h), (1, .int x1), (3, .int x3), (4, .int x4), (5, .int x5)] [] u) → ∀ (x1 : Int32) (x3 : Int32) (x4 : Int32) (x5 : Int32) (t1 : Int32) (t2 : Int32) (u : ST), wp_X12_worked_p79 x1 x3 x4 x5 t1 t2 u B12 Q → mGo p l e ({ frames := 1, cells := 0, slots := 0, locals := 22 } : Room) s m args below meth c A Z 7 D (mT cs) (W12 h r cs) 79 [(0, .ref h), (1, .int x1), (3, .int x3), (4, .int x4), (5, .int x5)] [.int t2, .int t1, .ref (r 23)] u := by
    intro B12 hB12 x1 x3 x4 x5 t1 t2 u hw H locs ls hI hl
    unfold wp_X12_worked_p79 at hw
    obtain ⟨u79, eu79⟩ : ∃ z : ST, z = sA u 23 (upd (gA u 23) t1.toNatClampNeg t2) := ⟨_, rfl⟩
    refine m_iast S hI 12 0 (W12_at12 h r cs u) rfl hw.1 (W12_sA23 h r cs u u79 _ eu79) dX12_worked_79 (fun H locs hI => ?_)
    have hw := hw.2 u79 eu79
    obtain ⟨y80, ey80⟩ : ∃ z : Int32, z = x4 + 1 := ⟨_, rfl⟩
    have hw := hw y80 ey80
    refine lv_iinc (v := y80) (lv' := [(4, .int y80), (0, .ref h), (1, .int x1), (3, .int x3), (5, .int x5)]) S.1 S.2.1 dX12_worked_80 hl (k := 3) rfl (by rw [ey80]; rfl) (by decide) rfl (fun ls hl => ?_)
    refine lv_goto (tgt := 182) S.1 S.2.1 dX12_worked_83 (by decide) ?_
    exact b182 B12 hB12 x1 x3 y80 x5 u79 hw H locs ls hI (lv_sub hl [1, 2, 3, 0, 4] rfl)
  have b45 : ∀ (B12 : Int32 → Int32 → Int32 → Int32 → ST → Prop), (∀ (x1 : Int32) (x3 : Int32) (x4 : Int32) (x5 : Int32) (u : ST), B12 x1 x3 x4 x5 u → mGo p l e ({ frames := 1, cells := 0, slots := 0, locals := 22 } : Room) s m args below meth c A Z 7 D (mT cs) (W12 h r cs) 12 [(0, .ref h), (1, .int x1), (3, .int x3), (4, .int x4), (5, .int x5)] [] u) → ∀ (x1 : Int32) (x3 : Int32) (x4 : Int32) (x5 : Int32) (x6 : Int32) (u : ST), wp_X12_worked_p45 x1 x3 x4 x5 x6 u B12 Q → mGo p l e ({ frames := 1, cells := 0, slots := 0, locals := 22 } : Room) s m args below meth c A Z 7 D (mT cs) (W12 h r cs) 45 [(0, .ref h), (1, .int x1), (3, .int x3), (4, .int x4), (5, .int x5), (6, .int x6)] [] u := by
    intro B12 hB12 x1 x3 x4 x5 x6 u hw H locs ls hI hl
    unfold wp_X12_worked_p45 at hw
    refine lv_aload_n S.1 S.2.1 dX12_worked_45 rfl (lv_at hl 0 rfl) ?_
    refine m_get S hin hI 0 (W12_at0 h r cs u) rfl 23 (Nat.le_of_ble_eq_true rfl) (List.mem_of_getElem? (i := 2) rfl) rfl (Ff12_at23 r u) dX12_worked_46 ?_
    refine lv_iload S.1 S.2.1 dX12_worked_49 (lv_at hl 3 rfl) ?_
    refine lv_iload S.1 S.2.1 dX12_worked_51 (lv_at hl 5 rfl) ?_
    refine lv_iconst (v := 1) S.1 S.2.1 dX12_worked_53 (by decide) ?_
    refine lv_icmp_ne (tgt := 67) S.1 S.2.1 dX12_worked_54 (by decide) (fun c54 => ?_) (fun c54 => ?_)
    · have hw := hw.1 c54
      refine lv_aload_n S.1 S.2.1 dX12_worked_67 rfl (lv_at hl 0 rfl) ?_
      refine m_get S hin hI 0 (W12_at0 h r cs u) rfl 22 (Nat.le_of_ble_eq_true rfl) (List.mem_of_getElem? (i := 4) rfl) rfl (Ff12_at22 r u) dX12_worked_68 ?_
      refine lv_aload_n S.1 S.2.1 dX12_worked_71 rfl (lv_at hl 0 rfl) ?_
      refine m_get S hin hI 0 (W12_at0 h r cs u) rfl 18 (Nat.le_of_ble_eq_true rfl) (List.mem_of_getElem? (i := 3) rfl) rfl (Ff12_at18 r u) dX12_worked_72 ?_
      refine lv_iload S.1 S.2.1 dX12_worked_75 (lv_at hl 4 rfl) ?_
      refine m_iald S hI 7 0 (W12_at7 h r cs u) rfl hw.1 dX12_worked_77 ?_
      refine lv_topi (fun y77 ey77 => ?_)
      have hw := hw.2 y77 ey77
      refine m_iald S hI 11 0 (W12_at11 h r cs u) rfl hw.1 dX12_worked_78 ?_
      refine lv_topi (fun y78 ey78 => ?_)
      have hw := hw.2 y78 ey78
      exact b79 B12 hB12 x1 x3 x4 x5 x4 y78 u hw H locs ls hI (lv_sub hl [0, 1, 2, 3, 4] rfl)
    · have hw := hw.2 c54
      refine lv_aload_n S.1 S.2.1 dX12_worked_57 rfl (lv_at hl 0 rfl) ?_
      refine m_get S hin hI 0 (W12_at0 h r cs u) rfl 18 (Nat.le_of_ble_eq_true rfl) (List.mem_of_getElem? (i := 3) rfl) rfl (Ff12_at18 r u) dX12_worked_58 ?_
      refine lv_iload S.1 S.2.1 dX12_worked_61 (lv_at hl 4 rfl) ?_
      refine m_iald S hI 7 0 (W12_at7 h r cs u) rfl hw.1 dX12_worked_63 ?_
      refine lv_topi (fun y63 ey63 => ?_)
      have hw := hw.2 y63 ey63
      refine lv_goto (tgt := 79) S.1 S.2.1 dX12_worked_64 (by decide) ?_
      exact b79 B12 hB12 x1 x3 x4 x5 x4 y63 u hw H locs ls hI (lv_sub hl [0, 1, 2, 3, 4] rfl)
  have b117 : ∀ (B12 : Int32 → Int32 → Int32 → Int32 → ST → Prop), (∀ (x1 : Int32) (x3 : Int32) (x4 : Int32) (x5 : Int32) (u : ST), B12 x1 x3 x4 x5 u → mGo p l e ({ frames := 1, cells := 0, slots := 0, locals := 22 } : Room) s m args below meth c A Z 7 D (mT cs) (W12 h r cs) 12 [(0, .ref h), (1, .int x1), (3, .int x3), (4, .int x4), (5, .int x5)] [] u) → ∀ (x1 : Int32) (x3 : Int32) (x4 : Int32) (x5 : Int32) (t1 : Int32) (t2 : Int32) (u : ST), wp_X12_worked_p117 x1 x3 x4 x5 t1 t2 u B12 Q → mGo p l e ({ frames := 1, cells := 0, slots := 0, locals := 22 } : Room) s m args below meth c A Z 7 D (mT cs) (W12 h r cs) 117 [(0, .ref h), (1, .int x1), (3, .int x3), (4, .int x4), (5, .int x5)] [.int t2, .int t1, .ref (r 23)] u := by
    intro B12 hB12 x1 x3 x4 x5 t1 t2 u hw H locs ls hI hl
    unfold wp_X12_worked_p117 at hw
    obtain ⟨u117, eu117⟩ : ∃ z : ST, z = sA u 23 (upd (gA u 23) t1.toNatClampNeg t2) := ⟨_, rfl⟩
    refine m_iast S hI 12 0 (W12_at12 h r cs u) rfl hw.1 (W12_sA23 h r cs u u117 _ eu117) dX12_worked_117 (fun H locs hI => ?_)
    have hw := hw.2 u117 eu117
    refine lv_goto (tgt := 182) S.1 S.2.1 dX12_worked_118 (by decide) ?_
    exact b182 B12 hB12 x1 x3 x4 x5 u117 hw H locs ls hI (lv_sub hl [0, 1, 2, 3, 4] rfl)
  have b12b : ∀ (B12 : Int32 → Int32 → Int32 → Int32 → ST → Prop), (∀ (x1 : Int32) (x3 : Int32) (x4 : Int32) (x5 : Int32) (u : ST), B12 x1 x3 x4 x5 u → mGo p l e ({ frames := 1, cells := 0, slots := 0, locals := 22 } : Room) s m args below meth c A Z 7 D (mT cs) (W12 h r cs) 12 [(0, .ref h), (1, .int x1), (3, .int x3), (4, .int x4), (5, .int x5)] [] u) → ∀ (x1 : Int32) (x3 : Int32) (x4 : Int32) (x5 : Int32) (u : ST), wp_X12_worked_p12b x1 x3 x4 x5 u B12 Q → mGo p l e ({ frames := 1, cells := 0, slots := 0, locals := 22 } : Room) s m args below meth c A Z 7 D (mT cs) (W12 h r cs) 12 [(0, .ref h), (1, .int x1), (3, .int x3), (4, .int x4), (5, .int x5)] [] u := by
    intro B12 hB12 x1 x3 x4 x5 u hw H locs ls hI hl
    unfold wp_X12_worked_p12b at hw
    refine lv_iload S.1 S.2.1 dX12_worked_12 (lv_at hl 4 rfl) ?_
    refine lv_sipush (v := 130) S.1 S.2.1 dX12_worked_14 (by decide) ?_
    refine lv_iload_n S.1 S.2.1 dX12_worked_17 rfl (lv_at hl 1 rfl) ?_
    refine lv_imul S.1 S.2.1 dX12_worked_18 ?_
    refine lv_topi (fun y18 ey18 => ?_)
    have hw := hw y18 ey18
    refine lv_iload_n S.1 S.2.1 dX12_worked_19 rfl (lv_at hl 2 rfl) ?_
    refine lv_iadd S.1 S.2.1 dX12_worked_20 ?_
    refine lv_topi (fun y20 ey20 => ?_)
    have hw := hw y20 ey20
    refine lv_icmp_ge (tgt := 188) S.1 S.2.1 dX12_worked_21 (by decide) (fun c21 => ?_) (fun c21 => ?_)
    · have hw := hw.1 c21
      refine lv_aload_n S.1 S.2.1 dX12_worked_188 rfl (lv_at hl 0 rfl) ?_
      refine m_get S hin hI 0 (W12_at0 h r cs u) rfl 23 (Nat.le_of_ble_eq_true rfl) (List.mem_of_getElem? (i := 2) rfl) rfl (Ff12_at23 r u) dX12_worked_189 ?_
      refine lv_iconst (v := 0) S.1 S.2.1 dX12_worked_192 (by decide) ?_
      refine m_iald S hI 12 0 (W12_at12 h r cs u) rfl hw.1 dX12_worked_193 ?_
      refine lv_topi (fun y193 ey193 => ?_)
      have hw := hw.2 y193 ey193
      subst hZ
      exact m_iret S hr hlocks hI hw dX12_worked_194
    · have hw := hw.2 c21
      refine lv_aload_n S.1 S.2.1 dX12_worked_24 rfl (lv_at hl 0 rfl) ?_
      refine m_get S hin hI 0 (W12_at0 h r cs u) rfl 17 (Nat.le_of_ble_eq_true rfl) (List.mem_of_getElem? (i := 1) rfl) rfl (Ff12_at17 r u) dX12_worked_25 ?_
      refine lv_iload S.1 S.2.1 dX12_worked_28 (lv_at hl 4 rfl) ?_
      refine m_bald S hI 6 1 (W12_at6 h r cs u) rfl hw.1 dX12_worked_30 ?_
      refine lv_topi (fun y30 ey30 => ?_)
      have hw := hw.2 y30 ey30
      refine lv_istore (lv' := [(6, .int y30), (0, .ref h), (1, .int x1), (3, .int x3), (4, .int x4), (5, .int x5)]) S.1 S.2.1 dX12_worked_31 hl (by decide) rfl (fun ls hl => ?_)
      refine lv_iload S.1 S.2.1 dX12_worked_33 (lv_at hl 0 rfl) ?_
      refine lv_iconst (v := 1) S.1 S.2.1 dX12_worked_35 (by decide) ?_
      refine lv_icmp_eq (tgt := 45) S.1 S.2.1 dX12_worked_36 (by decide) (fun c36 => ?_) (fun c36 => ?_)
      · have hw := hw.1 c36
        exact b45 B12 hB12 x1 x3 x4 x5 y30 u hw H locs ls hI (lv_sub hl [1, 2, 3, 4, 5, 0] rfl)
      · have hw := hw.2 c36
        refine lv_iload S.1 S.2.1 dX12_worked_39 (lv_at hl 0 rfl) ?_
        refine lv_iconst (v := 2) S.1 S.2.1 dX12_worked_41 (by decide) ?_
        refine lv_icmp_ne (tgt := 86) S.1 S.2.1 dX12_worked_42 (by decide) (fun c42 => ?_) (fun c42 => ?_)
        · have hw := hw.1 c42
          refine lv_iload S.1 S.2.1 dX12_worked_86 (lv_at hl 0 rfl) ?_
          refine lv_iconst (v := 3) S.1 S.2.1 dX12_worked_88 (by decide) ?_
          refine lv_icmp_ne (tgt := 121) S.1 S.2.1 dX12_worked_89 (by decide) (fun c89 => ?_) (fun c89 => ?_)
          · have hw := hw.1 c89
            refine lv_iload S.1 S.2.1 dX12_worked_121 (lv_at hl 0 rfl) ?_
            refine lv_iconst (v := 4) S.1 S.2.1 dX12_worked_123 (by decide) ?_
            refine lv_icmp_ne (tgt := 149) S.1 S.2.1 dX12_worked_124 (by decide) (fun c124 => ?_) (fun c124 => ?_)
            · have hw := hw.1 c124
              obtain ⟨y149, ey149⟩ : ∃ z : Int32, z = x4 + (-1) := ⟨_, rfl⟩
              have hw := hw y149 ey149
              refine lv_iinc (v := y149) (lv' := [(4, .int y149), (6, .int y30), (0, .ref h), (1, .int x1), (3, .int x3), (5, .int x5)]) S.1 S.2.1 dX12_worked_149 hl (k := 4) rfl (by rw [ey149]; rfl) (by decide) rfl (fun ls hl => ?_)
              refine lv_aload_n S.1 S.2.1 dX12_worked_152 rfl (lv_at hl 2 rfl) ?_
              refine m_get S hin hI 0 (W12_at0 h r cs u) rfl 23 (Nat.le_of_ble_eq_true rfl) (List.mem_of_getElem? (i := 2) rfl) rfl (Ff12_at23 r u) dX12_worked_153 ?_
              refine lv_iload S.1 S.2.1 dX12_worked_156 (lv_at hl 0 rfl) ?_
              refine lv_iconst (v := 1) S.1 S.2.1 dX12_worked_158 (by decide) ?_
              refine lv_isub S.1 S.2.1 dX12_worked_159 ?_
              refine lv_topi (fun y159 ey159 => ?_)
              have hw := hw y159 ey159
              refine lv_iload S.1 S.2.1 dX12_worked_160 (lv_at hl 1 rfl) ?_
              refine lv_aload_n S.1 S.2.1 dX12_worked_162 rfl (lv_at hl 2 rfl) ?_
              refine m_get S hin hI 0 (W12_at0 h r cs u) rfl 23 (Nat.le_of_ble_eq_true rfl) (List.mem_of_getElem? (i := 2) rfl) rfl (Ff12_at23 r u) dX12_worked_163 ?_
              refine lv_iload S.1 S.2.1 dX12_worked_166 (lv_at hl 0 rfl) ?_
              refine lv_iconst (v := 1) S.1 S.2.1 dX12_worked_168 (by decide) ?_
              refine lv_isub S.1 S.2.1 dX12_worked_169 ?_
              refine lv_topi (fun y169 ey169 => ?_)
              have hw := hw y169 ey169
              refine m_iald S hI 12 0 (W12_at12 h r cs u) rfl hw.1 dX12_worked_170 ?_
              refine lv_topi (fun y170 ey170 => ?_)
              have hw := hw.2 y170 ey170
              refine lv_aload_n S.1 S.2.1 dX12_worked_171 rfl (lv_at hl 2 rfl) ?_
              refine m_get S hin hI 0 (W12_at0 h r cs u) rfl 23 (Nat.le_of_ble_eq_true rfl) (List.mem_of_getElem? (i := 2) rfl) rfl (Ff12_at23 r u) dX12_worked_172 ?_
              refine lv_iload S.1 S.2.1 dX12_worked_175 (lv_at hl 0 rfl) ?_
              refine m_iald S hI 12 0 (W12_at12 h r cs u) rfl hw.1 dX12_worked_177 ?_
              refine lv_topi (fun y177 ey177 => ?_)
              have hw := hw.2 y177 ey177
              refine m_si (As := [.int y30, .int y170, .int y177]) (rest := [.int y159, .ref (r 23)]) S hI.2.2.2.1.2.1 (c_X12_twoOf l y30 y170 y177 _ hw) (va_cwS 3 S.2.2.2.2 gX12_worked_X12_twoOf rfl rfl rfl (by decide +kernel) ⟨Nat.le_of_ble_eq_true rfl, Nat.le_of_ble_eq_true rfl⟩) rfl hl.1 rfl (Nat.le_of_ble_eq_true rfl) dX12_worked_178 ⟨Nat.zero_le _, Nat.zero_le _⟩ (fun y178 hw => ?_)
              obtain ⟨u181, eu181⟩ : ∃ z : ST, z = sA u 23 (upd (gA u 23) y159.toNatClampNeg y178) := ⟨_, rfl⟩
              refine m_iast S hI 12 0 (W12_at12 h r cs u) rfl hw.1 (W12_sA23 h r cs u u181 _ eu181) dX12_worked_181 (fun H locs hI => ?_)
              have hw := hw.2 u181 eu181
              exact b182 B12 hB12 x1 x3 y149 x5 u181 hw H locs ls hI (lv_sub hl [2, 3, 4, 0, 5] rfl)
            · have hw := hw.2 c124
              refine lv_aload_n S.1 S.2.1 dX12_worked_127 rfl (lv_at hl 1 rfl) ?_
              refine m_get S hin hI 0 (W12_at0 h r cs u) rfl 23 (Nat.le_of_ble_eq_true rfl) (List.mem_of_getElem? (i := 2) rfl) rfl (Ff12_at23 r u) dX12_worked_128 ?_
              refine lv_iload S.1 S.2.1 dX12_worked_131 (lv_at hl 4 rfl) ?_
              refine lv_iconst (v := 1) S.1 S.2.1 dX12_worked_133 (by decide) ?_
              refine lv_isub S.1 S.2.1 dX12_worked_134 ?_
              refine lv_topi (fun y134 ey134 => ?_)
              have hw := hw y134 ey134
              refine lv_aload_n S.1 S.2.1 dX12_worked_135 rfl (lv_at hl 1 rfl) ?_
              refine m_get S hin hI 0 (W12_at0 h r cs u) rfl 23 (Nat.le_of_ble_eq_true rfl) (List.mem_of_getElem? (i := 2) rfl) rfl (Ff12_at23 r u) dX12_worked_136 ?_
              refine lv_iload S.1 S.2.1 dX12_worked_139 (lv_at hl 4 rfl) ?_
              refine lv_iconst (v := 1) S.1 S.2.1 dX12_worked_141 (by decide) ?_
              refine lv_isub S.1 S.2.1 dX12_worked_142 ?_
              refine lv_topi (fun y142 ey142 => ?_)
              have hw := hw y142 ey142
              refine m_iald S hI 12 0 (W12_at12 h r cs u) rfl hw.1 dX12_worked_143 ?_
              refine lv_topi (fun y143 ey143 => ?_)
              have hw := hw.2 y143 ey143
              refine lv_ineg S.1 S.2.1 dX12_worked_144 ?_
              refine lv_topi (fun y144 ey144 => ?_)
              have hw := hw y144 ey144
              obtain ⟨u145, eu145⟩ : ∃ z : ST, z = sA u 23 (upd (gA u 23) y134.toNatClampNeg y144) := ⟨_, rfl⟩
              refine m_iast S hI 12 0 (W12_at12 h r cs u) rfl hw.1 (W12_sA23 h r cs u u145 _ eu145) dX12_worked_145 (fun H locs hI => ?_)
              have hw := hw.2 u145 eu145
              refine lv_goto (tgt := 182) S.1 S.2.1 dX12_worked_146 (by decide) ?_
              exact b182 B12 hB12 x1 x3 x4 x5 u145 hw H locs ls hI (lv_sub hl [1, 2, 3, 4, 5] rfl)
          · have hw := hw.2 c89
            refine lv_aload_n S.1 S.2.1 dX12_worked_92 rfl (lv_at hl 1 rfl) ?_
            refine m_get S hin hI 0 (W12_at0 h r cs u) rfl 23 (Nat.le_of_ble_eq_true rfl) (List.mem_of_getElem? (i := 2) rfl) rfl (Ff12_at23 r u) dX12_worked_93 ?_
            refine lv_iload S.1 S.2.1 dX12_worked_96 (lv_at hl 4 rfl) ?_
            refine lv_iconst (v := 1) S.1 S.2.1 dX12_worked_98 (by decide) ?_
            refine lv_isub S.1 S.2.1 dX12_worked_99 ?_
            refine lv_topi (fun y99 ey99 => ?_)
            have hw := hw y99 ey99
            refine lv_aload_n S.1 S.2.1 dX12_worked_100 rfl (lv_at hl 1 rfl) ?_
            refine m_get S hin hI 0 (W12_at0 h r cs u) rfl 23 (Nat.le_of_ble_eq_true rfl) (List.mem_of_getElem? (i := 2) rfl) rfl (Ff12_at23 r u) dX12_worked_101 ?_
            refine lv_iload S.1 S.2.1 dX12_worked_104 (lv_at hl 4 rfl) ?_
            refine lv_iconst (v := 1) S.1 S.2.1 dX12_worked_106 (by decide) ?_
            refine lv_isub S.1 S.2.1 dX12_worked_107 ?_
            refine lv_topi (fun y107 ey107 => ?_)
            have hw := hw y107 ey107
            refine m_iald S hI 12 0 (W12_at12 h r cs u) rfl hw.1 dX12_worked_108 ?_
            refine lv_topi (fun y108 ey108 => ?_)
            have hw := hw.2 y108 ey108
            refine lv_if_ne (tgt := 116) S.1 S.2.1 dX12_worked_109 (by decide) (fun c109 => ?_) (fun c109 => ?_)
            · have hw := hw.1 c109
              refine lv_iconst (v := 0) S.1 S.2.1 dX12_worked_116 (by decide) ?_
              exact b117 B12 hB12 x1 x3 x4 x5 y99 (0 : Int32) u hw H locs ls hI (lv_sub hl [1, 2, 3, 4, 5] rfl)
            · have hw := hw.2 c109
              refine lv_iconst (v := 1) S.1 S.2.1 dX12_worked_112 (by decide) ?_
              refine lv_goto (tgt := 117) S.1 S.2.1 dX12_worked_113 (by decide) ?_
              exact b117 B12 hB12 x1 x3 x4 x5 y99 (1 : Int32) u hw H locs ls hI (lv_sub hl [1, 2, 3, 4, 5] rfl)
        · have hw := hw.2 c42
          exact b45 B12 hB12 x1 x3 x4 x5 y30 u hw H locs ls hI (lv_sub hl [1, 2, 3, 4, 5, 0] rfl)
  have b12 : ∀ (x1 : Int32) (x3 : Int32) (x4 : Int32) (x5 : Int32) (u : ST), wp_X12_worked_p12 x1 x3 x4 x5 u Q → mGo p l e ({ frames := 1, cells := 0, slots := 0, locals := 22 } : Room) s m args below meth c A Z 7 D (mT cs) (W12 h r cs) 12 [(0, .ref h), (1, .int x1), (3, .int x3), (4, .int x4), (5, .int x5)] [] u := by
    intro x1 x3 x4 x5 u hw
    obtain ⟨I, μ, h0, hs⟩ := hw
    have key : ∀ (n : Nat) (x1 : Int32) (x3 : Int32) (x4 : Int32) (x5 : Int32) (u : ST), μ x1 x3 x4 x5 u = n → I x1 x3 x4 x5 u → mGo p l e ({ frames := 1, cells := 0, slots := 0, locals := 22 } : Room) s m args below meth c A Z 7 D (mT cs) (W12 h r cs) 12 [(0, .ref h), (1, .int x1), (3, .int x3), (4, .int x4), (5, .int x5)] [] u := by
      intro n
      induction n using Nat.strongRecOn with
      | ind n ih =>
        intro x1 x3 x4 x5 u hn hi
        exact b12b (fun yx1 yx3 yx4 yx5 yu => I yx1 yx3 yx4 yx5 yu ∧ μ yx1 yx3 yx4 yx5 yu < μ x1 x3 x4 x5 u) (fun yx1 yx3 yx4 yx5 yu hb => ih _ (hn ▸ hb.2) yx1 yx3 yx4 yx5 yu rfl hb.1) x1 x3 x4 x5 u (hs x1 x3 x4 x5 u hi)
    exact key _ x1 x3 x4 x5 u rfl h0
  unfold wp_X12_worked at hw
  obtain ⟨H, hH⟩ : ∃ z : Heap, z = s.heap := ⟨_, rfl⟩
  obtain ⟨locs, hL⟩ : ∃ z : List Loc, z = [] := ⟨_, rfl⟩
  rw [show W p l e ({ frames := 1, cells := 0, slots := 0, locals := 22 } : Room) s m args below meth c s.heap [] 0 0 Z (F0 m 0 ls []) = W p l e ({ frames := 1, cells := 0, slots := 0, locals := 22 } : Room) s m args below meth c H locs 0 0 Z (F0 m 0 ls []) by rw [hH, hL]]
  replace hI : mI D (mT cs) A s.heap s (W12 h r cs u) H locs := by rw [hH, hL]; exact hI
  refine lv_iconst (v := 0) S.1 S.2.1 dX12_worked_0 (by decide) ?_
  refine lv_istore (lv' := [(4, .int (0 : Int32)), (0, .ref h), (1, .int a1), (2, .int a2), (3, .int a3)]) S.1 S.2.1 dX12_worked_1 hl (by decide) rfl (fun ls hl => ?_)
  refine lv_sipush (v := 130) S.1 S.2.1 dX12_worked_3 (by decide) ?_
  refine lv_iload_n S.1 S.2.1 dX12_worked_6 rfl (lv_at hl 2 rfl) ?_
  refine lv_imul S.1 S.2.1 dX12_worked_7 ?_
  refine lv_topi (fun y7 ey7 => ?_)
  have hw := hw y7 ey7
  refine lv_iload_n S.1 S.2.1 dX12_worked_8 rfl (lv_at hl 3 rfl) ?_
  refine lv_iadd S.1 S.2.1 dX12_worked_9 ?_
  refine lv_topi (fun y9 ey9 => ?_)
  have hw := hw y9 ey9
  refine lv_istore (lv' := [(5, .int y9), (4, .int (0 : Int32)), (0, .ref h), (1, .int a1), (2, .int a2), (3, .int a3)]) S.1 S.2.1 dX12_worked_10 hl (by decide) rfl (fun ls hl => ?_)
  exact b12 a1 a3 (0 : Int32) y9 u hw H locs ls hI (lv_sub hl [2, 3, 5, 1, 0] rfl)

def wp_X12_gives_p47 (x1 : Int32) (x3 : Int32) (u : ST) (Q : Int32 → ST → Prop) : Prop :=
  (vp_in x3 122 ∧ ∀ y54 : Int32, y54 = gA u 20 x3.toNatClampNeg → (vp_in x3 122 ∧ ∀ y60 : Int32, y60 = gA u 21 x3.toNatClampNeg → (wp_X12_worked x1 y54 y60 u (fun y61 u61 => Q y61 u61))))
def wp_X12_gives_p7b (x1 : Int32) (x2 : Int32) (x3 : Int32) (u : ST) (B7 : Int32 → Int32 → Int32 → ST → Prop) (Q : Int32 → ST → Prop) : Prop :=
  (∀ y11 : Int32, y11 = (61 : Int32) * x1 → (vp_in x1 2 ∧ ∀ y17 : Int32, y17 = gA u 19 x1.toNatClampNeg → (∀ y18 : Int32, y18 = y11 + y17 → ((y18 ≤ x3 → Q (0 : Int32) u) ∧ (¬ y18 ≤ x3 → (vp_in x3 122 ∧ ∀ y27 : Int32, y27 = gA u 20 x3.toNatClampNeg → ((y27 = x2 → wp_X12_gives_p47 x1 x3 u Q) ∧ (¬ y27 = x2 → (vp_in x3 122 ∧ ∀ y40 : Int32, y40 = gA u 20 x3.toNatClampNeg → (wp_X12_worked x1 x2 y40 u (fun y41 u41 => ((y41 = 0 → (vp_in x3 122 ∧ ∀ y70 : Int32, y70 = gA u41 21 x3.toNatClampNeg → (∀ y72 : Int32, y72 = x3 + 1 → B7 x1 y70 y72 u41))) ∧ (¬ y41 = 0 → wp_X12_gives_p47 x1 x3 u41 Q)))))))))))))
def wp_X12_gives_p7 (x1 : Int32) (x2 : Int32) (x3 : Int32) (u : ST) (Q : Int32 → ST → Prop) : Prop := ∃ (I : Int32 → Int32 → Int32 → ST → Prop) (μ : Int32 → Int32 → Int32 → ST → Nat), I x1 x2 x3 u ∧ ∀ (x1 : Int32) (x2 : Int32) (x3 : Int32) (u : ST), I x1 x2 x3 u → wp_X12_gives_p7b x1 x2 x3 u (fun yx1 yx2 yx3 yu => I yx1 yx2 yx3 yu ∧ μ yx1 yx2 yx3 yu < μ x1 x2 x3 u) Q
def wp_X12_gives (a1 : Int32) (u : ST) (Q : Int32 → ST → Prop) : Prop :=
  (∀ y5 : Int32, y5 = (61 : Int32) * a1 → wp_X12_gives_p7 a1 (0 : Int32) y5 u Q)
set_option maxHeartbeats 4000000 in
set_option maxRecDepth 100000 in
theorem c_X12_gives (l : Launch) (D : va_G) (h : Nat) (r : Nat → Nat) (cs : Nat → ClassId) (a1 : Int32) (u : ST) (Q : Int32 → ST → Prop) (hw : wp_X12_gives a1 u Q) : mCi l yX12_gives wsX12_gives ({ frames := 2, cells := 0, slots := 0, locals := 48 } : Room) 0 0 D (mT cs) (W12 h r cs) [.ref h, .int a1] u Q := by
  unfold mCi
  refine m_enter (QQ := fun A => va_Qi Q (mPos D (mT cs) A (W12 h r cs)) A) (cc := cX12_gives) (maxL := 4) (ret := (some .int)) (by decide) rfl (Nat.le_of_ble_eq_true rfl) ?_
  intro p e s m args below meth c A ls S hr hlocks hname hl hI
  have S : CallFix p m c cX12_gives 4 s args wsX12_gives RX12 := S
  show W p l e ({ frames := 2, cells := 0, slots := 0, locals := 48 } : Room) s m args below meth c s.heap [] 0 0 (MQ below (va_Qi Q (mPos D (mT cs) A (W12 h r cs)) A) args s 0 0 A) (F0 m 0 ls [])
  generalize hZ : MQ below (va_Qi Q (mPos D (mT cs) A (W12 h r cs)) A) args s 0 0 A = Z
  have hin : ∀ w ∈ wsX120, w ∈ wsX12_gives := fun _ h => List.mem_cons_of_mem _ (List.mem_append_right _ h)
  have hl : lv_has ls 4 [(0, .ref h), (1, .int a1)] := hl
  have b47 : ∀ (x1 : Int32) (x3 : Int32) (u : ST), wp_X12_gives_p47 x1 x3 u Q → mGo p l e ({ frames := 2, cells := 0, slots := 0, locals := 48 } : Room) s m args below meth c A Z 4 D (mT cs) (W12 h r cs) 47 [(0, .ref h), (1, .int x1), (3, .int x3)] [] u := by
    intro x1 x3 u hw H locs ls hI hl
    unfold wp_X12_gives_p47 at hw
    refine lv_aload_n S.1 S.2.1 dX12_gives_47 rfl (lv_at hl 0 rfl) ?_
    refine lv_iload_n S.1 S.2.1 dX12_gives_48 rfl (lv_at hl 1 rfl) ?_
    refine lv_aload_n S.1 S.2.1 dX12_gives_49 rfl (lv_at hl 0 rfl) ?_
    refine m_get S hin hI 0 (W12_at0 h r cs u) rfl 20 (Nat.le_of_ble_eq_true rfl) (List.mem_of_getElem? (i := 2) rfl) rfl (Ff12_at20 r u) dX12_gives_50 ?_
    refine lv_iload_n S.1 S.2.1 dX12_gives_53 rfl (lv_at hl 2 rfl) ?_
    refine m_sald S hI 9 2 (W12_at9 h r cs u) rfl hw.1 dX12_gives_54 ?_
    refine lv_topi (fun y54 ey54 => ?_)
    have hw := hw.2 y54 ey54
    refine lv_aload_n S.1 S.2.1 dX12_gives_55 rfl (lv_at hl 0 rfl) ?_
    refine m_get S hin hI 0 (W12_at0 h r cs u) rfl 21 (Nat.le_of_ble_eq_true rfl) (List.mem_of_getElem? (i := 3) rfl) rfl (Ff12_at21 r u) dX12_gives_56 ?_
    refine lv_iload_n S.1 S.2.1 dX12_gives_59 rfl (lv_at hl 2 rfl) ?_
    refine m_sald S hI 10 2 (W12_at10 h r cs u) rfl hw.1 dX12_gives_60 ?_
    refine lv_topi (fun y60 ey60 => ?_)
    have hw := hw.2 y60 ey60
    refine m_vi (As := [.int x1, .int y54, .int y60]) (rest := []) S (W12_self h r cs) hI rfl (c_X12_worked l D h r cs x1 y54 y60 u _ hw) (cwV 3 S.2.2.2.2 gX12_gives_X12_worked rfl rfl rfl (by decide +kernel) ⟨Nat.le_of_ble_eq_true rfl, Nat.le_of_ble_eq_true rfl⟩) (W12_at0 h r cs u) rfl rfl hl.1 rfl (Nat.le_of_ble_eq_true rfl) dX12_gives_61 ⟨Nat.zero_le _, Nat.zero_le _⟩ (fun y61 u61 H locs hw hI => ?_)
    subst hZ
    exact m_iret S hr hlocks hI hw dX12_gives_64
  have b7b : ∀ (B7 : Int32 → Int32 → Int32 → ST → Prop), (∀ (x1 : Int32) (x2 : Int32) (x3 : Int32) (u : ST), B7 x1 x2 x3 u → mGo p l e ({ frames := 2, cells := 0, slots := 0, locals := 48 } : Room) s m args below meth c A Z 4 D (mT cs) (W12 h r cs) 7 [(0, .ref h), (1, .int x1), (2, .int x2), (3, .int x3)] [] u) → ∀ (x1 : Int32) (x2 : Int32) (x3 : Int32) (u : ST), wp_X12_gives_p7b x1 x2 x3 u B7 Q → mGo p l e ({ frames := 2, cells := 0, slots := 0, locals := 48 } : Room) s m args below meth c A Z 4 D (mT cs) (W12 h r cs) 7 [(0, .ref h), (1, .int x1), (2, .int x2), (3, .int x3)] [] u := by
    intro B7 hB7 x1 x2 x3 u hw H locs ls hI hl
    unfold wp_X12_gives_p7b at hw
    refine lv_iload_n S.1 S.2.1 dX12_gives_7 rfl (lv_at hl 3 rfl) ?_
    refine lv_bipush (v := 61) S.1 S.2.1 dX12_gives_8 (by decide) ?_
    refine lv_iload_n S.1 S.2.1 dX12_gives_10 rfl (lv_at hl 1 rfl) ?_
    refine lv_imul S.1 S.2.1 dX12_gives_11 ?_
    refine lv_topi (fun y11 ey11 => ?_)
    have hw := hw y11 ey11
    refine lv_aload_n S.1 S.2.1 dX12_gives_12 rfl (lv_at hl 0 rfl) ?_
    refine m_get S hin hI 0 (W12_at0 h r cs u) rfl 19 (Nat.le_of_ble_eq_true rfl) (List.mem_of_getElem? (i := 1) rfl) rfl (Ff12_at19 r u) dX12_gives_13 ?_
    refine lv_iload_n S.1 S.2.1 dX12_gives_16 rfl (lv_at hl 1 rfl) ?_
    refine m_iald S hI 8 0 (W12_at8 h r cs u) rfl hw.1 dX12_gives_17 ?_
    refine lv_topi (fun y17 ey17 => ?_)
    have hw := hw.2 y17 ey17
    refine lv_iadd S.1 S.2.1 dX12_gives_18 ?_
    refine lv_topi (fun y18 ey18 => ?_)
    have hw := hw y18 ey18
    refine lv_icmp_ge (tgt := 78) S.1 S.2.1 dX12_gives_19 (by decide) (fun c19 => ?_) (fun c19 => ?_)
    · have hw := hw.1 c19
      refine lv_iconst (v := 0) S.1 S.2.1 dX12_gives_78 (by decide) ?_
      subst hZ
      exact m_iret S hr hlocks hI hw dX12_gives_79
    · have hw := hw.2 c19
      refine lv_aload_n S.1 S.2.1 dX12_gives_22 rfl (lv_at hl 0 rfl) ?_
      refine m_get S hin hI 0 (W12_at0 h r cs u) rfl 20 (Nat.le_of_ble_eq_true rfl) (List.mem_of_getElem? (i := 2) rfl) rfl (Ff12_at20 r u) dX12_gives_23 ?_
      refine lv_iload_n S.1 S.2.1 dX12_gives_26 rfl (lv_at hl 3 rfl) ?_
      refine m_sald S hI 9 2 (W12_at9 h r cs u) rfl hw.1 dX12_gives_27 ?_
      refine lv_topi (fun y27 ey27 => ?_)
      have hw := hw.2 y27 ey27
      refine lv_iload_n S.1 S.2.1 dX12_gives_28 rfl (lv_at hl 2 rfl) ?_
      refine lv_icmp_eq (tgt := 47) S.1 S.2.1 dX12_gives_29 (by decide) (fun c29 => ?_) (fun c29 => ?_)
      · have hw := hw.1 c29
        exact b47 x1 x3 u hw H locs ls hI (lv_sub hl [0, 1, 3] rfl)
      · have hw := hw.2 c29
        refine lv_aload_n S.1 S.2.1 dX12_gives_32 rfl (lv_at hl 0 rfl) ?_
        refine lv_iload_n S.1 S.2.1 dX12_gives_33 rfl (lv_at hl 1 rfl) ?_
        refine lv_iload_n S.1 S.2.1 dX12_gives_34 rfl (lv_at hl 2 rfl) ?_
        refine lv_aload_n S.1 S.2.1 dX12_gives_35 rfl (lv_at hl 0 rfl) ?_
        refine m_get S hin hI 0 (W12_at0 h r cs u) rfl 20 (Nat.le_of_ble_eq_true rfl) (List.mem_of_getElem? (i := 2) rfl) rfl (Ff12_at20 r u) dX12_gives_36 ?_
        refine lv_iload_n S.1 S.2.1 dX12_gives_39 rfl (lv_at hl 3 rfl) ?_
        refine m_sald S hI 9 2 (W12_at9 h r cs u) rfl hw.1 dX12_gives_40 ?_
        refine lv_topi (fun y40 ey40 => ?_)
        have hw := hw.2 y40 ey40
        refine m_vi (As := [.int x1, .int x2, .int y40]) (rest := []) S (W12_self h r cs) hI rfl (c_X12_worked l D h r cs x1 x2 y40 u _ hw) (cwV 3 S.2.2.2.2 gX12_gives_X12_worked rfl rfl rfl (by decide +kernel) ⟨Nat.le_of_ble_eq_true rfl, Nat.le_of_ble_eq_true rfl⟩) (W12_at0 h r cs u) rfl rfl hl.1 rfl (Nat.le_of_ble_eq_true rfl) dX12_gives_41 ⟨Nat.zero_le _, Nat.zero_le _⟩ (fun y41 u41 H locs hw hI => ?_)
        refine lv_if_eq (tgt := 65) S.1 S.2.1 dX12_gives_44 (by decide) (fun c44 => ?_) (fun c44 => ?_)
        · have hw := hw.1 c44
          refine lv_aload_n S.1 S.2.1 dX12_gives_65 rfl (lv_at hl 0 rfl) ?_
          refine m_get S hin hI 0 (W12_at0 h r cs u41) rfl 21 (Nat.le_of_ble_eq_true rfl) (List.mem_of_getElem? (i := 3) rfl) rfl (Ff12_at21 r u41) dX12_gives_66 ?_
          refine lv_iload_n S.1 S.2.1 dX12_gives_69 rfl (lv_at hl 3 rfl) ?_
          refine m_sald S hI 10 2 (W12_at10 h r cs u41) rfl hw.1 dX12_gives_70 ?_
          refine lv_topi (fun y70 ey70 => ?_)
          have hw := hw.2 y70 ey70
          refine lv_istore_n (lv' := [(2, .int y70), (0, .ref h), (1, .int x1), (3, .int x3)]) S.1 S.2.1 dX12_gives_71 rfl hl (by decide) rfl (fun ls hl => ?_)
          obtain ⟨y72, ey72⟩ : ∃ z : Int32, z = x3 + 1 := ⟨_, rfl⟩
          have hw := hw y72 ey72
          refine lv_iinc (v := y72) (lv' := [(3, .int y72), (2, .int y70), (0, .ref h), (1, .int x1)]) S.1 S.2.1 dX12_gives_72 hl (k := 3) rfl (by rw [ey72]; rfl) (by decide) rfl (fun ls hl => ?_)
          refine lv_goto (tgt := 7) S.1 S.2.1 dX12_gives_75 (by decide) ?_
          exact hB7 x1 y70 y72 u41 hw H locs ls hI (lv_sub hl [2, 3, 1, 0] rfl)
        · have hw := hw.2 c44
          exact b47 x1 x3 u41 hw H locs ls hI (lv_sub hl [0, 1, 3] rfl)
  have b7 : ∀ (x1 : Int32) (x2 : Int32) (x3 : Int32) (u : ST), wp_X12_gives_p7 x1 x2 x3 u Q → mGo p l e ({ frames := 2, cells := 0, slots := 0, locals := 48 } : Room) s m args below meth c A Z 4 D (mT cs) (W12 h r cs) 7 [(0, .ref h), (1, .int x1), (2, .int x2), (3, .int x3)] [] u := by
    intro x1 x2 x3 u hw
    obtain ⟨I, μ, h0, hs⟩ := hw
    have key : ∀ (n : Nat) (x1 : Int32) (x2 : Int32) (x3 : Int32) (u : ST), μ x1 x2 x3 u = n → I x1 x2 x3 u → mGo p l e ({ frames := 2, cells := 0, slots := 0, locals := 48 } : Room) s m args below meth c A Z 4 D (mT cs) (W12 h r cs) 7 [(0, .ref h), (1, .int x1), (2, .int x2), (3, .int x3)] [] u := by
      intro n
      induction n using Nat.strongRecOn with
      | ind n ih =>
        intro x1 x2 x3 u hn hi
        exact b7b (fun yx1 yx2 yx3 yu => I yx1 yx2 yx3 yu ∧ μ yx1 yx2 yx3 yu < μ x1 x2 x3 u) (fun yx1 yx2 yx3 yu hb => ih _ (hn ▸ hb.2) yx1 yx2 yx3 yu rfl hb.1) x1 x2 x3 u (hs x1 x2 x3 u hi)
    exact key _ x1 x2 x3 u rfl h0
  unfold wp_X12_gives at hw
  obtain ⟨H, hH⟩ : ∃ z : Heap, z = s.heap := ⟨_, rfl⟩
  obtain ⟨locs, hL⟩ : ∃ z : List Loc, z = [] := ⟨_, rfl⟩
  rw [show W p l e ({ frames := 2, cells := 0, slots := 0, locals := 48 } : Room) s m args below meth c s.heap [] 0 0 Z (F0 m 0 ls []) = W p l e ({ frames := 2, cells := 0, slots := 0, locals := 48 } : Room) s m args below meth c H locs 0 0 Z (F0 m 0 ls []) by rw [hH, hL]]
  replace hI : mI D (mT cs) A s.heap s (W12 h r cs u) H locs := by rw [hH, hL]; exact hI
  refine lv_iconst (v := 0) S.1 S.2.1 dX12_gives_0 (by decide) ?_
  refine lv_istore_n (lv' := [(2, .int (0 : Int32)), (0, .ref h), (1, .int a1)]) S.1 S.2.1 dX12_gives_1 rfl hl (by decide) rfl (fun ls hl => ?_)
  refine lv_bipush (v := 61) S.1 S.2.1 dX12_gives_2 (by decide) ?_
  refine lv_iload_n S.1 S.2.1 dX12_gives_4 rfl (lv_at hl 2 rfl) ?_
  refine lv_imul S.1 S.2.1 dX12_gives_5 ?_
  refine lv_topi (fun y5 ey5 => ?_)
  have hw := hw y5 ey5
  refine lv_istore_n (lv' := [(3, .int y5), (2, .int (0 : Int32)), (0, .ref h), (1, .int a1)]) S.1 S.2.1 dX12_gives_6 rfl hl (by decide) rfl (fun ls hl => ?_)
  exact b7 a1 (0 : Int32) y5 u hw H locs ls hI (lv_sub hl [2, 3, 1, 0] rfl)

def wp_X12_law (u : ST) (Q : Int32 → ST → Prop) : Prop :=
  (wp_X12_readText (0 : Int32) u (fun y2 u2 => ((y2 < 0 → (∀ u17 : ST, u17 = sI u2 24 (1 : Int32) → Q (1 : Int32) u17)) ∧ (¬ y2 < 0 → (∀ y13 : Int32, y13 = ((-100) : Int32) - y2 → Q y13 u2)))))
set_option maxHeartbeats 4000000 in
set_option maxRecDepth 100000 in
theorem c_X12_law (l : Launch) (D : va_G) (h : Nat) (r : Nat → Nat) (cs : Nat → ClassId) (u : ST) (Q : Int32 → ST → Prop) (hw : wp_X12_law u Q) : mCi l yX12_law wsX12_law ({ frames := 66, cells := 0, slots := 0, locals := 1683 } : Room) 0 0 D (mT cs) (W12 h r cs) [.ref h] u Q := by
  unfold mCi
  refine m_enter (QQ := fun A => va_Qi Q (mPos D (mT cs) A (W12 h r cs)) A) (cc := cX12_law) (maxL := 2) (ret := (some .int)) (by decide) rfl (Nat.le_of_ble_eq_true rfl) ?_
  intro p e s m args below meth c A ls S hr hlocks hname hl hI
  have S : CallFix p m c cX12_law 2 s args wsX12_law RX12 := S
  show W p l e ({ frames := 66, cells := 0, slots := 0, locals := 1683 } : Room) s m args below meth c s.heap [] 0 0 (MQ below (va_Qi Q (mPos D (mT cs) A (W12 h r cs)) A) args s 0 0 A) (F0 m 0 ls [])
  generalize hZ : MQ below (va_Qi Q (mPos D (mT cs) A (W12 h r cs)) A) args s 0 0 A = Z
  have hin : ∀ w ∈ wsX120, w ∈ wsX12_law := fun _ h => List.mem_cons_of_mem _ (List.mem_append_right _ h)
  have hl : lv_has ls 2 [(0, .ref h)] := hl
  unfold wp_X12_law at hw
  obtain ⟨H, hH⟩ : ∃ z : Heap, z = s.heap := ⟨_, rfl⟩
  obtain ⟨locs, hL⟩ : ∃ z : List Loc, z = [] := ⟨_, rfl⟩
  rw [show W p l e ({ frames := 66, cells := 0, slots := 0, locals := 1683 } : Room) s m args below meth c s.heap [] 0 0 Z (F0 m 0 ls []) = W p l e ({ frames := 66, cells := 0, slots := 0, locals := 1683 } : Room) s m args below meth c H locs 0 0 Z (F0 m 0 ls []) by rw [hH, hL]]
  replace hI : mI D (mT cs) A s.heap s (W12 h r cs u) H locs := by rw [hH, hL]; exact hI
  refine lv_aload_n S.1 S.2.1 dX12_law_0 rfl (lv_at hl 0 rfl) ?_
  refine lv_iconst (v := 0) S.1 S.2.1 dX12_law_1 (by decide) ?_
  refine m_vi (As := [.int (0 : Int32)]) (rest := []) S (W12_self h r cs) hI rfl (c_X12_readText l D h r cs (0 : Int32) u _ hw) (cwV 1 S.2.2.2.2 gX12_law_X12_readText rfl rfl rfl (by decide +kernel) ⟨Nat.le_of_ble_eq_true rfl, Nat.le_of_ble_eq_true rfl⟩) (W12_at0 h r cs u) rfl rfl hl.1 rfl (Nat.le_of_ble_eq_true rfl) dX12_law_2 ⟨Nat.zero_le _, Nat.zero_le _⟩ (fun y2 u2 H locs hw hI => ?_)
  refine lv_istore_n (lv' := [(1, .int y2), (0, .ref h)]) S.1 S.2.1 dX12_law_5 rfl hl (by decide) rfl (fun ls hl => ?_)
  refine lv_iload_n S.1 S.2.1 dX12_law_6 rfl (lv_at hl 0 rfl) ?_
  refine lv_if_lt (tgt := 15) S.1 S.2.1 dX12_law_7 (by decide) (fun c7 => ?_) (fun c7 => ?_)
  · have hw := hw.1 c7
    refine lv_aload_n S.1 S.2.1 dX12_law_15 rfl (lv_at hl 1 rfl) ?_
    refine lv_iconst (v := 1) S.1 S.2.1 dX12_law_16 (by decide) ?_
    obtain ⟨u17, eu17⟩ : ∃ z : ST, z = sI u2 24 (1 : Int32) := ⟨_, rfl⟩
    have hw := hw u17 eu17
    refine m_put S hin tyX12_ok nmX12 hI 0 (W12_at0 h r cs u2) rfl 24 (Nat.le_of_ble_eq_true rfl) (List.mem_of_getElem? (i := 1) rfl) rfl rfl (by show Value.int ((1 : Int32) &&& 1) = _; rfl) rfl (Nat.le_of_ble_eq_true rfl) (W12_sI24 h r cs u2 u17 (1 : Int32) eu17) dX12_law_17 (fun H locs hI => ?_)
    refine lv_iconst (v := 1) S.1 S.2.1 dX12_law_20 (by decide) ?_
    subst hZ
    exact m_iret S hr hlocks hI hw dX12_law_21
  · have hw := hw.2 c7
    refine lv_bipush (v := (-100)) S.1 S.2.1 dX12_law_10 (by decide) ?_
    refine lv_iload_n S.1 S.2.1 dX12_law_12 rfl (lv_at hl 0 rfl) ?_
    refine lv_isub S.1 S.2.1 dX12_law_13 ?_
    refine lv_topi (fun y13 ey13 => ?_)
    have hw := hw y13 ey13
    subst hZ
    exact m_iret S hr hlocks hI hw dX12_law_14

def wp_X12_weightOf_p62 (t0 : Int32) (u : ST) (Q : Int32 → ST → Prop) : Prop :=
  Q t0 u
def wp_X12_weightOf (a1 : Int32) (u : ST) (Q : Int32 → ST → Prop) : Prop :=
  ((¬ (gI u 24) = 0 → (vp_in (0 : Int32) 3 ∧ ∀ u15 : ST, u15 = sA u 22 (upd (gA u 22) (0 : Int32).toNatClampNeg a1) → (vp_in (1 : Int32) 3 ∧ ∀ u25 : ST, u25 = sA u15 22 (upd (gA u15 22) (1 : Int32).toNatClampNeg (gI u15 1)) → (vp_in (2 : Int32) 3 ∧ ∀ u35 : ST, u35 = sA u25 22 (upd (gA u25 22) (2 : Int32).toNatClampNeg (gI u25 2)) → (wp_X12_gives (0 : Int32) u35 (fun y38 u38 => ((0 ≤ y38 → ((y38 ≤ (9 : Int32) → wp_X12_weightOf_p62 y38 u38 Q) ∧ (¬ y38 ≤ (9 : Int32) → wp_X12_weightOf_p62 (9 : Int32) u38 Q))) ∧ (¬ 0 ≤ y38 → wp_X12_weightOf_p62 (0 : Int32) u38 Q)))))))) ∧ ((gI u 24) = 0 → Q (1 : Int32) u))
set_option maxHeartbeats 4000000 in
set_option maxRecDepth 100000 in
theorem c_X12_weightOf (l : Launch) (D : va_G) (h : Nat) (r : Nat → Nat) (cs : Nat → ClassId) (a1 : Int32) (u : ST) (Q : Int32 → ST → Prop) (hw : wp_X12_weightOf a1 u Q) : mCi l yX12_weightOf wsX12_weightOf ({ frames := 3, cells := 0, slots := 0, locals := 71 } : Room) 0 0 D (mT cs) (W12 h r cs) [.ref h, .int a1] u Q := by
  unfold mCi
  refine m_enter (QQ := fun A => va_Qi Q (mPos D (mT cs) A (W12 h r cs)) A) (cc := cX12_weightOf) (maxL := 3) (ret := (some .int)) (by decide) rfl (Nat.le_of_ble_eq_true rfl) ?_
  intro p e s m args below meth c A ls S hr hlocks hname hl hI
  have S : CallFix p m c cX12_weightOf 3 s args wsX12_weightOf RX12 := S
  show W p l e ({ frames := 3, cells := 0, slots := 0, locals := 71 } : Room) s m args below meth c s.heap [] 0 0 (MQ below (va_Qi Q (mPos D (mT cs) A (W12 h r cs)) A) args s 0 0 A) (F0 m 0 ls [])
  generalize hZ : MQ below (va_Qi Q (mPos D (mT cs) A (W12 h r cs)) A) args s 0 0 A = Z
  have hin : ∀ w ∈ wsX120, w ∈ wsX12_weightOf := fun _ h => List.mem_cons_of_mem _ (List.mem_append_right _ h)
  have hl : lv_has ls 3 [(0, .ref h), (1, .int a1)] := hl
  have b62 : ∀ (t0 : Int32) (u : ST), wp_X12_weightOf_p62 t0 u Q → mGo p l e ({ frames := 3, cells := 0, slots := 0, locals := 71 } : Room) s m args below meth c A Z 3 D (mT cs) (W12 h r cs) 62 [(0, .ref h)] [.int t0] u := by
    intro t0 u hw H locs ls hI hl
    unfold wp_X12_weightOf_p62 at hw
    subst hZ
    exact m_iret S hr hlocks hI hw dX12_weightOf_62
  unfold wp_X12_weightOf at hw
  obtain ⟨H, hH⟩ : ∃ z : Heap, z = s.heap := ⟨_, rfl⟩
  obtain ⟨locs, hL⟩ : ∃ z : List Loc, z = [] := ⟨_, rfl⟩
  rw [show W p l e ({ frames := 3, cells := 0, slots := 0, locals := 71 } : Room) s m args below meth c s.heap [] 0 0 Z (F0 m 0 ls []) = W p l e ({ frames := 3, cells := 0, slots := 0, locals := 71 } : Room) s m args below meth c H locs 0 0 Z (F0 m 0 ls []) by rw [hH, hL]]
  replace hI : mI D (mT cs) A s.heap s (W12 h r cs u) H locs := by rw [hH, hL]; exact hI
  refine lv_aload_n S.1 S.2.1 dX12_weightOf_0 rfl (lv_at hl 0 rfl) ?_
  refine m_get S hin hI 0 (W12_at0 h r cs u) rfl 24 (Nat.le_of_ble_eq_true rfl) (List.mem_of_getElem? (i := 1) rfl) rfl (Ff12_at24 r u) dX12_weightOf_1 ?_
  refine lv_if_ne (tgt := 9) S.1 S.2.1 dX12_weightOf_4 (by decide) (fun c4 => ?_) (fun c4 => ?_)
  · have hw := hw.1 c4
    refine lv_aload_n S.1 S.2.1 dX12_weightOf_9 rfl (lv_at hl 0 rfl) ?_
    refine m_get S hin hI 0 (W12_at0 h r cs u) rfl 22 (Nat.le_of_ble_eq_true rfl) (List.mem_of_getElem? (i := 2) rfl) rfl (Ff12_at22 r u) dX12_weightOf_10 ?_
    refine lv_iconst (v := 0) S.1 S.2.1 dX12_weightOf_13 (by decide) ?_
    refine lv_iload_n S.1 S.2.1 dX12_weightOf_14 rfl (lv_at hl 1 rfl) ?_
    obtain ⟨u15, eu15⟩ : ∃ z : ST, z = sA u 22 (upd (gA u 22) (0 : Int32).toNatClampNeg a1) := ⟨_, rfl⟩
    refine m_iast S hI 11 0 (W12_at11 h r cs u) rfl hw.1 (W12_sA22 h r cs u u15 _ eu15) dX12_weightOf_15 (fun H locs hI => ?_)
    have hw := hw.2 u15 eu15
    refine lv_aload_n S.1 S.2.1 dX12_weightOf_16 rfl (lv_at hl 0 rfl) ?_
    refine m_get S hin hI 0 (W12_at0 h r cs u15) rfl 22 (Nat.le_of_ble_eq_true rfl) (List.mem_of_getElem? (i := 2) rfl) rfl (Ff12_at22 r u15) dX12_weightOf_17 ?_
    refine lv_iconst (v := 1) S.1 S.2.1 dX12_weightOf_20 (by decide) ?_
    refine lv_aload_n S.1 S.2.1 dX12_weightOf_21 rfl (lv_at hl 0 rfl) ?_
    refine m_get S hin hI 0 (W12_at0 h r cs u15) rfl 1 (Nat.le_of_ble_eq_true rfl) (List.mem_of_getElem? (i := 3) rfl) rfl (Ff12_at1 r u15) dX12_weightOf_22 ?_
    obtain ⟨u25, eu25⟩ : ∃ z : ST, z = sA u15 22 (upd (gA u15 22) (1 : Int32).toNatClampNeg (gI u15 1)) := ⟨_, rfl⟩
    refine m_iast S hI 11 0 (W12_at11 h r cs u15) rfl hw.1 (W12_sA22 h r cs u15 u25 _ eu25) dX12_weightOf_25 (fun H locs hI => ?_)
    have hw := hw.2 u25 eu25
    refine lv_aload_n S.1 S.2.1 dX12_weightOf_26 rfl (lv_at hl 0 rfl) ?_
    refine m_get S hin hI 0 (W12_at0 h r cs u25) rfl 22 (Nat.le_of_ble_eq_true rfl) (List.mem_of_getElem? (i := 2) rfl) rfl (Ff12_at22 r u25) dX12_weightOf_27 ?_
    refine lv_iconst (v := 2) S.1 S.2.1 dX12_weightOf_30 (by decide) ?_
    refine lv_aload_n S.1 S.2.1 dX12_weightOf_31 rfl (lv_at hl 0 rfl) ?_
    refine m_get S hin hI 0 (W12_at0 h r cs u25) rfl 2 (Nat.le_of_ble_eq_true rfl) (List.mem_of_getElem? (i := 4) rfl) rfl (Ff12_at2 r u25) dX12_weightOf_32 ?_
    obtain ⟨u35, eu35⟩ : ∃ z : ST, z = sA u25 22 (upd (gA u25 22) (2 : Int32).toNatClampNeg (gI u25 2)) := ⟨_, rfl⟩
    refine m_iast S hI 11 0 (W12_at11 h r cs u25) rfl hw.1 (W12_sA22 h r cs u25 u35 _ eu35) dX12_weightOf_35 (fun H locs hI => ?_)
    have hw := hw.2 u35 eu35
    refine lv_aload_n S.1 S.2.1 dX12_weightOf_36 rfl (lv_at hl 0 rfl) ?_
    refine lv_iconst (v := 0) S.1 S.2.1 dX12_weightOf_37 (by decide) ?_
    refine m_vi (As := [.int (0 : Int32)]) (rest := []) S (W12_self h r cs) hI rfl (c_X12_gives l D h r cs (0 : Int32) u35 _ hw) (cwV 1 S.2.2.2.2 gX12_weightOf_X12_gives rfl rfl rfl (by decide +kernel) ⟨Nat.le_of_ble_eq_true rfl, Nat.le_of_ble_eq_true rfl⟩) (W12_at0 h r cs u35) rfl rfl hl.1 rfl (Nat.le_of_ble_eq_true rfl) dX12_weightOf_38 ⟨Nat.zero_le _, Nat.zero_le _⟩ (fun y38 u38 H locs hw hI => ?_)
    refine lv_istore_n (lv' := [(2, .int y38), (0, .ref h), (1, .int a1)]) S.1 S.2.1 dX12_weightOf_41 rfl hl (by decide) rfl (fun ls hl => ?_)
    refine lv_iload_n S.1 S.2.1 dX12_weightOf_42 rfl (lv_at hl 0 rfl) ?_
    refine lv_if_ge (tgt := 50) S.1 S.2.1 dX12_weightOf_43 (by decide) (fun c43 => ?_) (fun c43 => ?_)
    · have hw := hw.1 c43
      refine lv_iload_n S.1 S.2.1 dX12_weightOf_50 rfl (lv_at hl 0 rfl) ?_
      refine lv_bipush (v := 9) S.1 S.2.1 dX12_weightOf_51 (by decide) ?_
      refine lv_icmp_le (tgt := 61) S.1 S.2.1 dX12_weightOf_53 (by decide) (fun c53 => ?_) (fun c53 => ?_)
      · have hw := hw.1 c53
        refine lv_iload_n S.1 S.2.1 dX12_weightOf_61 rfl (lv_at hl 0 rfl) ?_
        exact b62 y38 u38 hw H locs ls hI (lv_sub hl [1] rfl)
      · have hw := hw.2 c53
        refine lv_bipush (v := 9) S.1 S.2.1 dX12_weightOf_56 (by decide) ?_
        refine lv_goto (tgt := 62) S.1 S.2.1 dX12_weightOf_58 (by decide) ?_
        exact b62 (9 : Int32) u38 hw H locs ls hI (lv_sub hl [1] rfl)
    · have hw := hw.2 c43
      refine lv_iconst (v := 0) S.1 S.2.1 dX12_weightOf_46 (by decide) ?_
      refine lv_goto (tgt := 62) S.1 S.2.1 dX12_weightOf_47 (by decide) ?_
      exact b62 (0 : Int32) u38 hw H locs ls hI (lv_sub hl [1] rfl)
  · have hw := hw.2 c4
    refine lv_iconst (v := 1) S.1 S.2.1 dX12_weightOf_7 (by decide) ?_
    subst hZ
    exact m_iret S hr hlocks hI hw dX12_weightOf_8

def wp_X12_weight_p21 (t0 : Int32) (u : ST) (Q : Int32 → ST → Prop) : Prop :=
  Q t0 u
def wp_X12_weight (a1 : Int32) (u : ST) (Q : Int32 → ST → Prop) : Prop :=
  (wp_X12_in a1 (0 : Int32) (gI u 1) (fun y6 => ((y6 = 0 → wp_X12_weight_p21 ((-1) : Int32) u Q) ∧ (¬ y6 = 0 → (wp_X12_weightOf a1 u (fun y14 u14 => wp_X12_weight_p21 y14 u14 Q))))))
set_option maxHeartbeats 4000000 in
set_option maxRecDepth 100000 in
theorem c_X12_weight (l : Launch) (D : va_G) (h : Nat) (r : Nat → Nat) (cs : Nat → ClassId) (a1 : Int32) (u : ST) (Q : Int32 → ST → Prop) (hw : wp_X12_weight a1 u Q) : mCi l yX12_weight wsX12_weight ({ frames := 4, cells := 0, slots := 0, locals := 93 } : Room) 0 0 D (mT cs) (W12 h r cs) [.ref h, .int a1] u Q := by
  unfold mCi
  refine m_enter (QQ := fun A => va_Qi Q (mPos D (mT cs) A (W12 h r cs)) A) (cc := cX12_weight) (maxL := 2) (ret := (some .int)) (by decide) rfl (Nat.le_of_ble_eq_true rfl) ?_
  intro p e s m args below meth c A ls S hr hlocks hname hl hI
  have S : CallFix p m c cX12_weight 2 s args wsX12_weight RX12 := S
  show W p l e ({ frames := 4, cells := 0, slots := 0, locals := 93 } : Room) s m args below meth c s.heap [] 0 0 (MQ below (va_Qi Q (mPos D (mT cs) A (W12 h r cs)) A) args s 0 0 A) (F0 m 0 ls [])
  generalize hZ : MQ below (va_Qi Q (mPos D (mT cs) A (W12 h r cs)) A) args s 0 0 A = Z
  have hin : ∀ w ∈ wsX120, w ∈ wsX12_weight := fun _ h => List.mem_cons_of_mem _ (List.mem_append_right _ h)
  have hl : lv_has ls 2 [(0, .ref h), (1, .int a1)] := hl
  have b21 : ∀ (t0 : Int32) (u : ST), wp_X12_weight_p21 t0 u Q → mGo p l e ({ frames := 4, cells := 0, slots := 0, locals := 93 } : Room) s m args below meth c A Z 2 D (mT cs) (W12 h r cs) 21 [(0, .ref h)] [.int t0] u := by
    intro t0 u hw H locs ls hI hl
    unfold wp_X12_weight_p21 at hw
    subst hZ
    exact m_iret S hr hlocks hI hw dX12_weight_21
  unfold wp_X12_weight at hw
  obtain ⟨H, hH⟩ : ∃ z : Heap, z = s.heap := ⟨_, rfl⟩
  obtain ⟨locs, hL⟩ : ∃ z : List Loc, z = [] := ⟨_, rfl⟩
  rw [show W p l e ({ frames := 4, cells := 0, slots := 0, locals := 93 } : Room) s m args below meth c s.heap [] 0 0 Z (F0 m 0 ls []) = W p l e ({ frames := 4, cells := 0, slots := 0, locals := 93 } : Room) s m args below meth c H locs 0 0 Z (F0 m 0 ls []) by rw [hH, hL]]
  replace hI : mI D (mT cs) A s.heap s (W12 h r cs u) H locs := by rw [hH, hL]; exact hI
  refine lv_iload_n S.1 S.2.1 dX12_weight_0 rfl (lv_at hl 1 rfl) ?_
  refine lv_iconst (v := 0) S.1 S.2.1 dX12_weight_1 (by decide) ?_
  refine lv_aload_n S.1 S.2.1 dX12_weight_2 rfl (lv_at hl 0 rfl) ?_
  refine m_get S hin hI 0 (W12_at0 h r cs u) rfl 1 (Nat.le_of_ble_eq_true rfl) (List.mem_of_getElem? (i := 1) rfl) rfl (Ff12_at1 r u) dX12_weight_3 ?_
  refine m_si (As := [.int a1, .int (0 : Int32), .int (gI u 1)]) (rest := []) S hI.2.2.2.1.2.1 (c_X12_in l a1 (0 : Int32) (gI u 1) _ hw) (va_cwS 3 S.2.2.2.2 gX12_weight_X12_in rfl rfl rfl (by decide +kernel) ⟨Nat.le_of_ble_eq_true rfl, Nat.le_of_ble_eq_true rfl⟩) rfl hl.1 rfl (Nat.le_of_ble_eq_true rfl) dX12_weight_6 ⟨Nat.zero_le _, Nat.zero_le _⟩ (fun y6 hw => ?_)
  refine lv_if_eq (tgt := 20) S.1 S.2.1 dX12_weight_9 (by decide) (fun c9 => ?_) (fun c9 => ?_)
  · have hw := hw.1 c9
    refine lv_iconst (v := (-1)) S.1 S.2.1 dX12_weight_20 (by decide) ?_
    exact b21 ((-1) : Int32) u hw H locs ls hI (lv_sub hl [0] rfl)
  · have hw := hw.2 c9
    refine lv_aload_n S.1 S.2.1 dX12_weight_12 rfl (lv_at hl 0 rfl) ?_
    refine lv_iload_n S.1 S.2.1 dX12_weight_13 rfl (lv_at hl 1 rfl) ?_
    refine m_vi (As := [.int a1]) (rest := []) S (W12_self h r cs) hI rfl (c_X12_weightOf l D h r cs a1 u _ hw) (cwV 1 S.2.2.2.2 gX12_weight_X12_weightOf rfl rfl rfl (by decide +kernel) ⟨Nat.le_of_ble_eq_true rfl, Nat.le_of_ble_eq_true rfl⟩) (W12_at0 h r cs u) rfl rfl hl.1 rfl (Nat.le_of_ble_eq_true rfl) dX12_weight_14 ⟨Nat.zero_le _, Nat.zero_le _⟩ (fun y14 u14 H locs hw hI => ?_)
    refine lv_goto (tgt := 21) S.1 S.2.1 dX12_weight_17 (by decide) ?_
    exact b21 y14 u14 hw H locs ls hI (lv_sub hl [0] rfl)

def wp_X12_greater_p10 (t0 : Int32) (Q : Int32 → Prop) : Prop :=
  Q t0
def wp_X12_greater (a0 : Int32) (a1 : Int32) (Q : Int32 → Prop) : Prop :=
  ((a0 ≤ a1 → wp_X12_greater_p10 a1 Q) ∧ (¬ a0 ≤ a1 → wp_X12_greater_p10 a0 Q))
set_option maxHeartbeats 4000000 in
set_option maxRecDepth 100000 in
theorem c_X12_greater (l : Launch) (a0 : Int32) (a1 : Int32) (Q : Int32 → Prop) (hw : wp_X12_greater a0 a1 Q) : mTi l yX12_greater wsX12_greater ({ frames := 0, cells := 0, slots := 0, locals := 0 } : Room) [.int a0, .int a1] Q := by
  refine m_enterT (cc := cX12_greater) (maxL := 2) (ret := (some .int)) (by decide) rfl (Nat.le_of_ble_eq_true rfl) ?_
  intro p e s m args below meth c ls S hr hlocks hname hl hN
  have S : CallFix p m c cX12_greater 2 s args wsX12_greater RX12 := S
  generalize hZ : MQ below (vp_Si Q) args s 0 0 (fun _ => False) = Z
  have hl : lv_has ls 2 [(0, .int a0), (1, .int a1)] := hl
  have b10 : ∀ (t0 : Int32), wp_X12_greater_p10 t0 Q → mGt p l e ({ frames := 0, cells := 0, slots := 0, locals := 0 } : Room) s m args below meth c Z 2 10 [] [.int t0] := by
    intro t0 hw ls hl
    unfold wp_X12_greater_p10 at hw
    subst hZ
    exact m_tiret S hr hlocks hw dX12_greater_10
  unfold wp_X12_greater at hw
  refine lv_iload_n S.1 S.2.1 dX12_greater_0 rfl (lv_at hl 0 rfl) ?_
  refine lv_iload_n S.1 S.2.1 dX12_greater_1 rfl (lv_at hl 1 rfl) ?_
  refine lv_icmp_le (tgt := 9) S.1 S.2.1 dX12_greater_2 (by decide) (fun c2 => ?_) (fun c2 => ?_)
  · have hw := hw.1 c2
    refine lv_iload_n S.1 S.2.1 dX12_greater_9 rfl (lv_at hl 1 rfl) ?_
    exact b10 a1 hw ls (lv_sub hl [] rfl)
  · have hw := hw.2 c2
    refine lv_iload_n S.1 S.2.1 dX12_greater_5 rfl (lv_at hl 0 rfl) ?_
    refine lv_goto (tgt := 10) S.1 S.2.1 dX12_greater_6 (by decide) ?_
    exact b10 a0 hw ls (lv_sub hl [] rfl)

def wp_X12_findWorst_p115 (x1 : Int32) (x2 : Int32) (x3 : Int32) (x4 : Int32) (u : ST) (B15 : Int32 → ST → Prop) (B23 : Int32 → Int32 → ST → Prop) (Q : ST → Prop) : Prop :=
  (∀ y122 : Int32, y122 = (7 : Int32) * x1 → (∀ y124 : Int32, y124 = y122 + x2 → (vp_in y124 434 ∧ ∀ u126 : ST, u126 = sA u 25 (upd (gA u 25) y124.toNatClampNeg x3) → (∀ y134 : Int32, y134 = (7 : Int32) * x1 → (∀ y136 : Int32, y136 = y134 + x2 → (vp_in y136 434 ∧ ∀ u139 : ST, u139 = sA u126 26 (upd (gA u126 26) y136.toNatClampNeg x4) → (∀ y140 : Int32, y140 = x2 + 1 → B23 x1 y140 u139)))))))
def wp_X12_findWorst_p109 (x1 : Int32) (x2 : Int32) (x3 : Int32) (x4 : Int32) (x5 : Int32) (u : ST) (B15 : Int32 → ST → Prop) (B23 : Int32 → Int32 → ST → Prop) (B48 : Int32 → Int32 → Int32 → Int32 → Int32 → ST → Prop) (Q : ST → Prop) : Prop :=
  (∀ y109 : Int32, y109 = x5 + 1 → B48 x1 x2 x3 x4 y109 u)
def wp_X12_findWorst_p48b (x1 : Int32) (x2 : Int32) (x3 : Int32) (x4 : Int32) (x5 : Int32) (u : ST) (B15 : Int32 → ST → Prop) (B23 : Int32 → Int32 → ST → Prop) (B48 : Int32 → Int32 → Int32 → Int32 → Int32 → ST → Prop) (Q : ST → Prop) : Prop :=
  ((x1 ≤ x5 → wp_X12_findWorst_p115 x1 x2 x3 x4 u B15 B23 Q) ∧ (¬ x1 ≤ x5 → ((x2 ≤ 0 → wp_X12_findWorst_p115 x1 x2 x3 x4 u B15 B23 Q) ∧ (¬ x2 ≤ 0 → (∀ y67 : Int32, y67 = (7 : Int32) * x5 → (∀ y69 : Int32, y69 = y67 + x2 → (∀ y71 : Int32, y71 = y69 - (1 : Int32) → (vp_in y71 434 ∧ ∀ y72 : Int32, y72 = gA u 25 y71.toNatClampNeg → (∀ y82 : Int32, y82 = x1 - x5 → (∀ y83 : Int32, y83 = (7 : Int32) * y82 → (∀ y85 : Int32, y85 = y83 + x2 → (vp_in y85 434 ∧ ∀ y86 : Int32, y86 = gA u 25 y85.toNatClampNeg → (wp_X12_greater y72 y86 (fun y87 => (∀ y90 : Int32, y90 = (1 : Int32) + y87 → ((y90 < x3 → wp_X12_findWorst_p109 x1 x2 y90 x5 x5 u B15 B23 B48 Q) ∧ (¬ y90 < x3 → wp_X12_findWorst_p109 x1 x2 x3 x4 x5 u B15 B23 B48 Q)))))))))))))))))
def wp_X12_findWorst_p48 (x1 : Int32) (x2 : Int32) (x3 : Int32) (x4 : Int32) (x5 : Int32) (u : ST) (B15 : Int32 → ST → Prop) (B23 : Int32 → Int32 → ST → Prop) (Q : ST → Prop) : Prop := ∃ (I : Int32 → Int32 → Int32 → Int32 → Int32 → ST → Prop) (μ : Int32 → Int32 → Int32 → Int32 → Int32 → ST → Nat), I x1 x2 x3 x4 x5 u ∧ ∀ (x1 : Int32) (x2 : Int32) (x3 : Int32) (x4 : Int32) (x5 : Int32) (u : ST), I x1 x2 x3 x4 x5 u → wp_X12_findWorst_p48b x1 x2 x3 x4 x5 u B15 B23 (fun yx1 yx2 yx3 yx4 yx5 yu => I yx1 yx2 yx3 yx4 yx5 yu ∧ μ yx1 yx2 yx3 yx4 yx5 yu < μ x1 x2 x3 x4 x5 u) Q
def wp_X12_findWorst_p40 (x1 : Int32) (x2 : Int32) (t0 : Int32) (u : ST) (B15 : Int32 → ST → Prop) (B23 : Int32 → Int32 → ST → Prop) (Q : ST → Prop) : Prop :=
  wp_X12_findWorst_p48 x1 x2 t0 ((-2) : Int32) (1 : Int32) u B15 B23 Q
def wp_X12_findWorst_p23b (x1 : Int32) (x2 : Int32) (u : ST) (B15 : Int32 → ST → Prop) (B23 : Int32 → Int32 → ST → Prop) (Q : ST → Prop) : Prop :=
  (((6 : Int32) < x2 → (∀ y146 : Int32, y146 = x1 + 1 → B15 y146 u)) ∧ (¬ (6 : Int32) < x2 → ((¬ x1 = (1 : Int32) → wp_X12_findWorst_p40 x1 x2 (1000000 : Int32) u B15 B23 Q) ∧ (x1 = (1 : Int32) → wp_X12_findWorst_p40 x1 x2 (0 : Int32) u B15 B23 Q))))
def wp_X12_findWorst_p23 (x1 : Int32) (x2 : Int32) (u : ST) (B15 : Int32 → ST → Prop) (Q : ST → Prop) : Prop := ∃ (I : Int32 → Int32 → ST → Prop) (μ : Int32 → Int32 → ST → Nat), I x1 x2 u ∧ ∀ (x1 : Int32) (x2 : Int32) (u : ST), I x1 x2 u → wp_X12_findWorst_p23b x1 x2 u B15 (fun yx1 yx2 yu => I yx1 yx2 yu ∧ μ yx1 yx2 yu < μ x1 x2 u) Q
def wp_X12_findWorst_p15b (x1 : Int32) (u : ST) (B15 : Int32 → ST → Prop) (Q : ST → Prop) : Prop :=
  (((61 : Int32) < x1 → Q u) ∧ (¬ (61 : Int32) < x1 → wp_X12_findWorst_p23 x1 (0 : Int32) u B15 Q))
def wp_X12_findWorst_p15 (x1 : Int32) (u : ST) (Q : ST → Prop) : Prop := ∃ (I : Int32 → ST → Prop) (μ : Int32 → ST → Nat), I x1 u ∧ ∀ (x1 : Int32) (u : ST), I x1 u → wp_X12_findWorst_p15b x1 u (fun yx1 yu => I yx1 yu ∧ μ yx1 yu < μ x1 u) Q
def wp_X12_findWorst (u : ST) (Q : ST → Prop) : Prop :=
  (((gI u 27) = 0 → (∀ u10 : ST, u10 = sI u 27 (1 : Int32) → wp_X12_findWorst_p15 (1 : Int32) u10 Q)) ∧ (¬ (gI u 27) = 0 → Q u))
set_option maxHeartbeats 4000000 in
set_option maxRecDepth 100000 in
theorem c_X12_findWorst (l : Launch) (D : va_G) (h : Nat) (r : Nat → Nat) (cs : Nat → ClassId) (u : ST) (Q : ST → Prop) (hw : wp_X12_findWorst u Q) : mCv l yX12_findWorst wsX12_findWorst ({ frames := 1, cells := 0, slots := 0, locals := 21 } : Room) 0 0 D (mT cs) (W12 h r cs) [.ref h] u Q := by
  unfold mCv
  refine m_enter (QQ := fun A => va_Qv Q (mPos D (mT cs) A (W12 h r cs)) A) (cc := cX12_findWorst) (maxL := 7) (ret := none) (by decide) rfl (Nat.le_of_ble_eq_true rfl) ?_
  intro p e s m args below meth c A ls S hr hlocks hname hl hI
  have S : CallFix p m c cX12_findWorst 7 s args wsX12_findWorst RX12 := S
  show W p l e ({ frames := 1, cells := 0, slots := 0, locals := 21 } : Room) s m args below meth c s.heap [] 0 0 (MQ below (va_Qv Q (mPos D (mT cs) A (W12 h r cs)) A) args s 0 0 A) (F0 m 0 ls [])
  generalize hZ : MQ below (va_Qv Q (mPos D (mT cs) A (W12 h r cs)) A) args s 0 0 A = Z
  have hin : ∀ w ∈ wsX120, w ∈ wsX12_findWorst := fun _ h => List.mem_cons_of_mem _ (List.mem_append_right _ h)
  have hl : lv_has ls 7 [(0, .ref h)] := hl
  have b115 : ∀ (B15 : Int32 → ST → Prop), (∀ (x1 : Int32) (u : ST), B15 x1 u → mGo p l e ({ frames := 1, cells := 0, slots := 0, locals := 21 } : Room) s m args below meth c A Z 7 D (mT cs) (W12 h r cs) 15 [(0, .ref h), (1, .int x1)] [] u) → ∀ (B23 : Int32 → Int32 → ST → Prop), (∀ (x1 : Int32) (x2 : Int32) (u : ST), B23 x1 x2 u → mGo p l e ({ frames := 1, cells := 0, slots := 0, locals := 21 } : Room) s m args below meth c A Z 7 D (mT cs) (W12 h r cs) 23 [(0, .ref h), (1, .int x1), (2, .int x2)] [] u) → ∀ (x1 : Int32) (x2 : Int32) (x3 : Int32) (x4 : Int32) (u : ST), wp_X12_findWorst_p115 x1 x2 x3 x4 u B15 B23 Q → mGo p l e ({ frames := 1, cells := 0, slots := 0, locals := 21 } : Room) s m args below meth c A Z 7 D (mT cs) (W12 h r cs) 115 [(0, .ref h), (1, .int x1), (2, .int x2), (3, .int x3), (4, .int x4)] [] u := by
    intro B15 hB15 B23 hB23 x1 x2 x3 x4 u hw H locs ls hI hl
    unfold wp_X12_findWorst_p115 at hw
    refine lv_aload_n S.1 S.2.1 dX12_findWorst_115 rfl (lv_at hl 0 rfl) ?_
    refine m_get S hin hI 0 (W12_at0 h r cs u) rfl 25 (Nat.le_of_ble_eq_true rfl) (List.mem_of_getElem? (i := 3) rfl) rfl (Ff12_at25 r u) dX12_findWorst_116 ?_
    refine lv_bipush (v := 7) S.1 S.2.1 dX12_findWorst_119 (by decide) ?_
    refine lv_iload_n S.1 S.2.1 dX12_findWorst_121 rfl (lv_at hl 1 rfl) ?_
    refine lv_imul S.1 S.2.1 dX12_findWorst_122 ?_
    refine lv_topi (fun y122 ey122 => ?_)
    have hw := hw y122 ey122
    refine lv_iload_n S.1 S.2.1 dX12_findWorst_123 rfl (lv_at hl 2 rfl) ?_
    refine lv_iadd S.1 S.2.1 dX12_findWorst_124 ?_
    refine lv_topi (fun y124 ey124 => ?_)
    have hw := hw y124 ey124
    refine lv_iload_n S.1 S.2.1 dX12_findWorst_125 rfl (lv_at hl 3 rfl) ?_
    obtain ⟨u126, eu126⟩ : ∃ z : ST, z = sA u 25 (upd (gA u 25) y124.toNatClampNeg x3) := ⟨_, rfl⟩
    refine m_iast S hI 13 0 (W12_at13 h r cs u) rfl hw.1 (W12_sA25 h r cs u u126 _ eu126) dX12_findWorst_126 (fun H locs hI => ?_)
    have hw := hw.2 u126 eu126
    refine lv_aload_n S.1 S.2.1 dX12_findWorst_127 rfl (lv_at hl 0 rfl) ?_
    refine m_get S hin hI 0 (W12_at0 h r cs u126) rfl 26 (Nat.le_of_ble_eq_true rfl) (List.mem_of_getElem? (i := 4) rfl) rfl (Ff12_at26 r u126) dX12_findWorst_128 ?_
    refine lv_bipush (v := 7) S.1 S.2.1 dX12_findWorst_131 (by decide) ?_
    refine lv_iload_n S.1 S.2.1 dX12_findWorst_133 rfl (lv_at hl 1 rfl) ?_
    refine lv_imul S.1 S.2.1 dX12_findWorst_134 ?_
    refine lv_topi (fun y134 ey134 => ?_)
    have hw := hw y134 ey134
    refine lv_iload_n S.1 S.2.1 dX12_findWorst_135 rfl (lv_at hl 2 rfl) ?_
    refine lv_iadd S.1 S.2.1 dX12_findWorst_136 ?_
    refine lv_topi (fun y136 ey136 => ?_)
    have hw := hw y136 ey136
    refine lv_iload S.1 S.2.1 dX12_findWorst_137 (lv_at hl 4 rfl) ?_
    obtain ⟨u139, eu139⟩ : ∃ z : ST, z = sA u126 26 (upd (gA u126 26) y136.toNatClampNeg x4) := ⟨_, rfl⟩
    refine m_iast S hI 14 0 (W12_at14 h r cs u126) rfl hw.1 (W12_sA26 h r cs u126 u139 _ eu139) dX12_findWorst_139 (fun H locs hI => ?_)
    have hw := hw.2 u139 eu139
    obtain ⟨y140, ey140⟩ : ∃ z : Int32, z = x2 + 1 := ⟨_, rfl⟩
    have hw := hw y140 ey140
    refine lv_iinc (v := y140) (lv' := [(2, .int y140), (0, .ref h), (1, .int x1), (3, .int x3), (4, .int x4)]) S.1 S.2.1 dX12_findWorst_140 hl (k := 2) rfl (by rw [ey140]; rfl) (by decide) rfl (fun ls hl => ?_)
    refine lv_goto (tgt := 23) S.1 S.2.1 dX12_findWorst_143 (by decide) ?_
    exact hB23 x1 y140 u139 hw H locs ls hI (lv_sub hl [1, 2, 0] rfl)
  have b109 : ∀ (B15 : Int32 → ST → Prop), (∀ (x1 : Int32) (u : ST), B15 x1 u → mGo p l e ({ frames := 1, cells := 0, slots := 0, locals := 21 } : Room) s m args below meth c A Z 7 D (mT cs) (W12 h r cs) 15 [(0, .ref h), (1, .int x1)] [] u) → ∀ (B23 : Int32 → Int32 → ST → Prop), (∀ (x1 : Int32) (x2 : Int32) (u : ST), B23 x1 x2 u → mGo p l e ({ frames := 1, cells := 0, slots := 0, locals := 21 } : Room) s m args below meth c A Z 7 D (mT cs) (W12 h r cs) 23 [(0, .ref h), (1, .int x1), (2, .int x2)] [] u) → ∀ (B48 : Int32 → Int32 → Int32 → Int32 → Int32 → ST → Prop), (∀ (x1 : Int32) (x2 : Int32) (x3 : Int32) (x4 : Int32) (x5 : Int32) (u : ST), B48 x1 x2 x3 x4 x5 u → mGo p l e ({ frames := 1, cells := 0, slots := 0, locals := 21 } : Room) s m args below meth c A Z 7 D (mT cs) (W12 h r cs) 48 [(0, .ref h), (1, .int x1), (2, .int x2), (3, .int x3), (4, .int x4), (5, .int x5)] [] u) → ∀ (x1 : Int32) (x2 : Int32) (x3 : Int32) (x4 : Int32) (x5 : Int32) (u : ST), wp_X12_findWorst_p109 x1 x2 x3 x4 x5 u B15 B23 B48 Q → mGo p l e ({ frames := 1, cells := 0, slots := 0, locals := 21 } : Room) s m args below meth c A Z 7 D (mT cs) (W12 h r cs) 109 [(0, .ref h), (1, .int x1), (2, .int x2), (3, .int x3), (4, .int x4), (5, .int x5)] [] u := by
    intro B15 hB15 B23 hB23 B48 hB48 x1 x2 x3 x4 x5 u hw H locs ls hI hl
    unfold wp_X12_findWorst_p109 at hw
    obtain ⟨y109, ey109⟩ : ∃ z : Int32, z = x5 + 1 := ⟨_, rfl⟩
    have hw := hw y109 ey109
    refine lv_iinc (v := y109) (lv' := [(5, .int y109), (0, .ref h), (1, .int x1), (2, .int x2), (3, .int x3), (4, .int x4)]) S.1 S.2.1 dX12_findWorst_109 hl (k := 5) rfl (by rw [ey109]; rfl) (by decide) rfl (fun ls hl => ?_)
    refine lv_goto (tgt := 48) S.1 S.2.1 dX12_findWorst_112 (by decide) ?_
    exact hB48 x1 x2 x3 x4 y109 u hw H locs ls hI (lv_sub hl [1, 2, 3, 4, 5, 0] rfl)
  have b48b : ∀ (B15 : Int32 → ST → Prop), (∀ (x1 : Int32) (u : ST), B15 x1 u → mGo p l e ({ frames := 1, cells := 0, slots := 0, locals := 21 } : Room) s m args below meth c A Z 7 D (mT cs) (W12 h r cs) 15 [(0, .ref h), (1, .int x1)] [] u) → ∀ (B23 : Int32 → Int32 → ST → Prop), (∀ (x1 : Int32) (x2 : Int32) (u : ST), B23 x1 x2 u → mGo p l e ({ frames := 1, cells := 0, slots := 0, locals := 21 } : Room) s m args below meth c A Z 7 D (mT cs) (W12 h r cs) 23 [(0, .ref h), (1, .int x1), (2, .int x2)] [] u) → ∀ (B48 : Int32 → Int32 → Int32 → Int32 → Int32 → ST → Prop), (∀ (x1 : Int32) (x2 : Int32) (x3 : Int32) (x4 : Int32) (x5 : Int32) (u : ST), B48 x1 x2 x3 x4 x5 u → mGo p l e ({ frames := 1, cells := 0, slots := 0, locals := 21 } : Room) s m args below meth c A Z 7 D (mT cs) (W12 h r cs) 48 [(0, .ref h), (1, .int x1), (2, .int x2), (3, .int x3), (4, .int x4), (5, .int x5)] [] u) → ∀ (x1 : Int32) (x2 : Int32) (x3 : Int32) (x4 : Int32) (x5 : Int32) (u : ST), wp_X12_findWorst_p48b x1 x2 x3 x4 x5 u B15 B23 B48 Q → mGo p l e ({ frames := 1, cells := 0, slots := 0, locals := 21 } : Room) s m args below meth c A Z 7 D (mT cs) (W12 h r cs) 48 [(0, .ref h), (1, .int x1), (2, .int x2), (3, .int x3), (4, .int x4), (5, .int x5)] [] u := by
    intro B15 hB15 B23 hB23 B48 hB48 x1 x2 x3 x4 x5 u hw H locs ls hI hl
    unfold wp_X12_findWorst_p48b at hw
    refine lv_iload S.1 S.2.1 dX12_findWorst_48 (lv_at hl 5 rfl) ?_
    refine lv_iload_n S.1 S.2.1 dX12_findWorst_50 rfl (lv_at hl 1 rfl) ?_
    refine lv_icmp_ge (tgt := 115) S.1 S.2.1 dX12_findWorst_51 (by decide) (fun c51 => ?_) (fun c51 => ?_)
    · have hw := hw.1 c51
      exact b115 B15 hB15 B23 hB23 x1 x2 x3 x4 u hw H locs ls hI (lv_sub hl [0, 1, 2, 3, 4] rfl)
    · have hw := hw.2 c51
      refine lv_iload_n S.1 S.2.1 dX12_findWorst_54 rfl (lv_at hl 2 rfl) ?_
      refine lv_if_le (tgt := 115) S.1 S.2.1 dX12_findWorst_55 (by decide) (fun c55 => ?_) (fun c55 => ?_)
      · have hw := hw.1 c55
        exact b115 B15 hB15 B23 hB23 x1 x2 x3 x4 u hw H locs ls hI (lv_sub hl [0, 1, 2, 3, 4] rfl)
      · have hw := hw.2 c55
        refine lv_iconst (v := 1) S.1 S.2.1 dX12_findWorst_58 (by decide) ?_
        refine lv_aload_n S.1 S.2.1 dX12_findWorst_59 rfl (lv_at hl 0 rfl) ?_
        refine m_get S hin hI 0 (W12_at0 h r cs u) rfl 25 (Nat.le_of_ble_eq_true rfl) (List.mem_of_getElem? (i := 3) rfl) rfl (Ff12_at25 r u) dX12_findWorst_60 ?_
        refine lv_bipush (v := 7) S.1 S.2.1 dX12_findWorst_63 (by decide) ?_
        refine lv_iload S.1 S.2.1 dX12_findWorst_65 (lv_at hl 5 rfl) ?_
        refine lv_imul S.1 S.2.1 dX12_findWorst_67 ?_
        refine lv_topi (fun y67 ey67 => ?_)
        have hw := hw y67 ey67
        refine lv_iload_n S.1 S.2.1 dX12_findWorst_68 rfl (lv_at hl 2 rfl) ?_
        refine lv_iadd S.1 S.2.1 dX12_findWorst_69 ?_
        refine lv_topi (fun y69 ey69 => ?_)
        have hw := hw y69 ey69
        refine lv_iconst (v := 1) S.1 S.2.1 dX12_findWorst_70 (by decide) ?_
        refine lv_isub S.1 S.2.1 dX12_findWorst_71 ?_
        refine lv_topi (fun y71 ey71 => ?_)
        have hw := hw y71 ey71
        refine m_iald S hI 13 0 (W12_at13 h r cs u) rfl hw.1 dX12_findWorst_72 ?_
        refine lv_topi (fun y72 ey72 => ?_)
        have hw := hw.2 y72 ey72
        refine lv_aload_n S.1 S.2.1 dX12_findWorst_73 rfl (lv_at hl 0 rfl) ?_
        refine m_get S hin hI 0 (W12_at0 h r cs u) rfl 25 (Nat.le_of_ble_eq_true rfl) (List.mem_of_getElem? (i := 3) rfl) rfl (Ff12_at25 r u) dX12_findWorst_74 ?_
        refine lv_bipush (v := 7) S.1 S.2.1 dX12_findWorst_77 (by decide) ?_
        refine lv_iload_n S.1 S.2.1 dX12_findWorst_79 rfl (lv_at hl 1 rfl) ?_
        refine lv_iload S.1 S.2.1 dX12_findWorst_80 (lv_at hl 5 rfl) ?_
        refine lv_isub S.1 S.2.1 dX12_findWorst_82 ?_
        refine lv_topi (fun y82 ey82 => ?_)
        have hw := hw y82 ey82
        refine lv_imul S.1 S.2.1 dX12_findWorst_83 ?_
        refine lv_topi (fun y83 ey83 => ?_)
        have hw := hw y83 ey83
        refine lv_iload_n S.1 S.2.1 dX12_findWorst_84 rfl (lv_at hl 2 rfl) ?_
        refine lv_iadd S.1 S.2.1 dX12_findWorst_85 ?_
        refine lv_topi (fun y85 ey85 => ?_)
        have hw := hw y85 ey85
        refine m_iald S hI 13 0 (W12_at13 h r cs u) rfl hw.1 dX12_findWorst_86 ?_
        refine lv_topi (fun y86 ey86 => ?_)
        have hw := hw.2 y86 ey86
        refine m_si (As := [.int y72, .int y86]) (rest := [.int (1 : Int32)]) S hI.2.2.2.1.2.1 (c_X12_greater l y72 y86 _ hw) (va_cwS 2 S.2.2.2.2 gX12_findWorst_X12_greater rfl rfl rfl (by decide +kernel) ⟨Nat.le_of_ble_eq_true rfl, Nat.le_of_ble_eq_true rfl⟩) rfl hl.1 rfl (Nat.le_of_ble_eq_true rfl) dX12_findWorst_87 ⟨Nat.zero_le _, Nat.zero_le _⟩ (fun y87 hw => ?_)
        refine lv_iadd S.1 S.2.1 dX12_findWorst_90 ?_
        refine lv_topi (fun y90 ey90 => ?_)
        have hw := hw y90 ey90
        refine lv_istore (lv' := [(6, .int y90), (0, .ref h), (1, .int x1), (2, .int x2), (3, .int x3), (4, .int x4), (5, .int x5)]) S.1 S.2.1 dX12_findWorst_91 hl (by decide) rfl (fun ls hl => ?_)
        refine lv_iload S.1 S.2.1 dX12_findWorst_93 (lv_at hl 0 rfl) ?_
        refine lv_iload_n S.1 S.2.1 dX12_findWorst_95 rfl (lv_at hl 4 rfl) ?_
        refine lv_icmp_lt (tgt := 102) S.1 S.2.1 dX12_findWorst_96 (by decide) (fun c96 => ?_) (fun c96 => ?_)
        · have hw := hw.1 c96
          refine lv_iload S.1 S.2.1 dX12_findWorst_102 (lv_at hl 0 rfl) ?_
          refine lv_istore_n (lv' := [(3, .int y90), (6, .int y90), (0, .ref h), (1, .int x1), (2, .int x2), (4, .int x4), (5, .int x5)]) S.1 S.2.1 dX12_findWorst_104 rfl hl (by decide) rfl (fun ls hl => ?_)
          refine lv_iload S.1 S.2.1 dX12_findWorst_105 (lv_at hl 6 rfl) ?_
          refine lv_istore (lv' := [(4, .int x5), (3, .int y90), (6, .int y90), (0, .ref h), (1, .int x1), (2, .int x2), (5, .int x5)]) S.1 S.2.1 dX12_findWorst_107 hl (by decide) rfl (fun ls hl => ?_)
          exact b109 B15 hB15 B23 hB23 B48 hB48 x1 x2 y90 x5 x5 u hw H locs ls hI (lv_sub hl [3, 4, 5, 1, 0, 6] rfl)
        · have hw := hw.2 c96
          refine lv_goto (tgt := 109) S.1 S.2.1 dX12_findWorst_99 (by decide) ?_
          exact b109 B15 hB15 B23 hB23 B48 hB48 x1 x2 x3 x4 x5 u hw H locs ls hI (lv_sub hl [1, 2, 3, 4, 5, 6] rfl)
  have b48 : ∀ (B15 : Int32 → ST → Prop), (∀ (x1 : Int32) (u : ST), B15 x1 u → mGo p l e ({ frames := 1, cells := 0, slots := 0, locals := 21 } : Room) s m args below meth c A Z 7 D (mT cs) (W12 h r cs) 15 [(0, .ref h), (1, .int x1)] [] u) → ∀ (B23 : Int32 → Int32 → ST → Prop), (∀ (x1 : Int32) (x2 : Int32) (u : ST), B23 x1 x2 u → mGo p l e ({ frames := 1, cells := 0, slots := 0, locals := 21 } : Room) s m args below meth c A Z 7 D (mT cs) (W12 h r cs) 23 [(0, .ref h), (1, .int x1), (2, .int x2)] [] u) → ∀ (x1 : Int32) (x2 : Int32) (x3 : Int32) (x4 : Int32) (x5 : Int32) (u : ST), wp_X12_findWorst_p48 x1 x2 x3 x4 x5 u B15 B23 Q → mGo p l e ({ frames := 1, cells := 0, slots := 0, locals := 21 } : Room) s m args below meth c A Z 7 D (mT cs) (W12 h r cs) 48 [(0, .ref h), (1, .int x1), (2, .int x2), (3, .int x3), (4, .int x4), (5, .int x5)] [] u := by
    intro B15 hB15 B23 hB23 x1 x2 x3 x4 x5 u hw
    obtain ⟨I, μ, h0, hs⟩ := hw
    have key : ∀ (n : Nat) (x1 : Int32) (x2 : Int32) (x3 : Int32) (x4 : Int32) (x5 : Int32) (u : ST), μ x1 x2 x3 x4 x5 u = n → I x1 x2 x3 x4 x5 u → mGo p l e ({ frames := 1, cells := 0, slots := 0, locals := 21 } : Room) s m args below meth c A Z 7 D (mT cs) (W12 h r cs) 48 [(0, .ref h), (1, .int x1), (2, .int x2), (3, .int x3), (4, .int x4), (5, .int x5)] [] u := by
      intro n
      induction n using Nat.strongRecOn with
      | ind n ih =>
        intro x1 x2 x3 x4 x5 u hn hi
        exact b48b B15 hB15 B23 hB23 (fun yx1 yx2 yx3 yx4 yx5 yu => I yx1 yx2 yx3 yx4 yx5 yu ∧ μ yx1 yx2 yx3 yx4 yx5 yu < μ x1 x2 x3 x4 x5 u) (fun yx1 yx2 yx3 yx4 yx5 yu hb => ih _ (hn ▸ hb.2) yx1 yx2 yx3 yx4 yx5 yu rfl hb.1) x1 x2 x3 x4 x5 u (hs x1 x2 x3 x4 x5 u hi)
    exact key _ x1 x2 x3 x4 x5 u rfl h0
  have b40 : ∀ (B15 : Int32 → ST → Prop), (∀ (x1 : Int32) (u : ST), B15 x1 u → mGo p l e ({ frames := 1, cells := 0, slots := 0, locals := 21 } : Room) s m args below meth c A Z 7 D (mT cs) (W12 h r cs) 15 [(0, .ref h), (1, .int x1)] [] u) → ∀ (B23 : Int32 → Int32 → ST → Prop), (∀ (x1 : Int32) (x2 : Int32) (u : ST), B23 x1 x2 u → mGo p l e ({ frames := 1, cells := 0, slots := 0, locals := 21 } : Room) s m args below meth c A Z 7 D (mT cs) (W12 h r cs) 23 [(0, .ref h), (1, .int x1), (2, .int x2)] [] u) → ∀ (x1 : Int32) (x2 : Int32) (t0 : Int32) (u : ST), wp_X12_findWorst_p40 x1 x2 t0 u B15 B23 Q → mGo p l e ({ frames := 1, cells := 0, slots := 0, locals := 21 } : Room) s m args below meth c A Z 7 D (mT cs) (W12 h r cs) 40 [(0, .ref h), (1, .int x1), (2, .int x2)] [.int t0] u := by
    intro B15 hB15 B23 hB23 x1 x2 t0 u hw H locs ls hI hl
    unfold wp_X12_findWorst_p40 at hw
    refine lv_istore_n (lv' := [(3, .int t0), (0, .ref h), (1, .int x1), (2, .int x2)]) S.1 S.2.1 dX12_findWorst_40 rfl hl (by decide) rfl (fun ls hl => ?_)
    refine lv_bipush (v := (-2)) S.1 S.2.1 dX12_findWorst_41 (by decide) ?_
    refine lv_istore (lv' := [(4, .int ((-2) : Int32)), (3, .int t0), (0, .ref h), (1, .int x1), (2, .int x2)]) S.1 S.2.1 dX12_findWorst_43 hl (by decide) rfl (fun ls hl => ?_)
    refine lv_iconst (v := 1) S.1 S.2.1 dX12_findWorst_45 (by decide) ?_
    refine lv_istore (lv' := [(5, .int (1 : Int32)), (4, .int ((-2) : Int32)), (3, .int t0), (0, .ref h), (1, .int x1), (2, .int x2)]) S.1 S.2.1 dX12_findWorst_46 hl (by decide) rfl (fun ls hl => ?_)
    exact b48 B15 hB15 B23 hB23 x1 x2 t0 ((-2) : Int32) (1 : Int32) u hw H locs ls hI (lv_sub hl [3, 4, 5, 2, 1, 0] rfl)
  have b23b : ∀ (B15 : Int32 → ST → Prop), (∀ (x1 : Int32) (u : ST), B15 x1 u → mGo p l e ({ frames := 1, cells := 0, slots := 0, locals := 21 } : Room) s m args below meth c A Z 7 D (mT cs) (W12 h r cs) 15 [(0, .ref h), (1, .int x1)] [] u) → ∀ (B23 : Int32 → Int32 → ST → Prop), (∀ (x1 : Int32) (x2 : Int32) (u : ST), B23 x1 x2 u → mGo p l e ({ frames := 1, cells := 0, slots := 0, locals := 21 } : Room) s m args below meth c A Z 7 D (mT cs) (W12 h r cs) 23 [(0, .ref h), (1, .int x1), (2, .int x2)] [] u) → ∀ (x1 : Int32) (x2 : Int32) (u : ST), wp_X12_findWorst_p23b x1 x2 u B15 B23 Q → mGo p l e ({ frames := 1, cells := 0, slots := 0, locals := 21 } : Room) s m args below meth c A Z 7 D (mT cs) (W12 h r cs) 23 [(0, .ref h), (1, .int x1), (2, .int x2)] [] u := by
    intro B15 hB15 B23 hB23 x1 x2 u hw H locs ls hI hl
    unfold wp_X12_findWorst_p23b at hw
    refine lv_iload_n S.1 S.2.1 dX12_findWorst_23 rfl (lv_at hl 2 rfl) ?_
    refine lv_bipush (v := 6) S.1 S.2.1 dX12_findWorst_24 (by decide) ?_
    refine lv_icmp_gt (tgt := 146) S.1 S.2.1 dX12_findWorst_26 (by decide) (fun c26 => ?_) (fun c26 => ?_)
    · have hw := hw.1 c26
      obtain ⟨y146, ey146⟩ : ∃ z : Int32, z = x1 + 1 := ⟨_, rfl⟩
      have hw := hw y146 ey146
      refine lv_iinc (v := y146) (lv' := [(1, .int y146), (0, .ref h), (2, .int x2)]) S.1 S.2.1 dX12_findWorst_146 hl (k := 1) rfl (by rw [ey146]; rfl) (by decide) rfl (fun ls hl => ?_)
      refine lv_goto (tgt := 15) S.1 S.2.1 dX12_findWorst_149 (by decide) ?_
      exact hB15 y146 u hw H locs ls hI (lv_sub hl [1, 0] rfl)
    · have hw := hw.2 c26
      refine lv_iload_n S.1 S.2.1 dX12_findWorst_29 rfl (lv_at hl 1 rfl) ?_
      refine lv_iconst (v := 1) S.1 S.2.1 dX12_findWorst_30 (by decide) ?_
      refine lv_icmp_ne (tgt := 38) S.1 S.2.1 dX12_findWorst_31 (by decide) (fun c31 => ?_) (fun c31 => ?_)
      · have hw := hw.1 c31
        refine lv_ldc S.1 S.2.1 S.2.2.2.1 (S.2.2.2.2 _ (List.mem_of_getElem? (i := 2) rfl)) dX12_findWorst_38 ?_
        exact b40 B15 hB15 B23 hB23 x1 x2 (1000000 : Int32) u hw H locs ls hI (lv_sub hl [0, 1, 2] rfl)
      · have hw := hw.2 c31
        refine lv_iconst (v := 0) S.1 S.2.1 dX12_findWorst_34 (by decide) ?_
        refine lv_goto (tgt := 40) S.1 S.2.1 dX12_findWorst_35 (by decide) ?_
        exact b40 B15 hB15 B23 hB23 x1 x2 (0 : Int32) u hw H locs ls hI (lv_sub hl [0, 1, 2] rfl)
  have b23 : ∀ (B15 : Int32 → ST → Prop), (∀ (x1 : Int32) (u : ST), B15 x1 u → mGo p l e ({ frames := 1, cells := 0, slots := 0, locals := 21 } : Room) s m args below meth c A Z 7 D (mT cs) (W12 h r cs) 15 [(0, .ref h), (1, .int x1)] [] u) → ∀ (x1 : Int32) (x2 : Int32) (u : ST), wp_X12_findWorst_p23 x1 x2 u B15 Q → mGo p l e ({ frames := 1, cells := 0, slots := 0, locals := 21 } : Room) s m args below meth c A Z 7 D (mT cs) (W12 h r cs) 23 [(0, .ref h), (1, .int x1), (2, .int x2)] [] u := by
    intro B15 hB15 x1 x2 u hw
    obtain ⟨I, μ, h0, hs⟩ := hw
    have key : ∀ (n : Nat) (x1 : Int32) (x2 : Int32) (u : ST), μ x1 x2 u = n → I x1 x2 u → mGo p l e ({ frames := 1, cells := 0, slots := 0, locals := 21 } : Room) s m args below meth c A Z 7 D (mT cs) (W12 h r cs) 23 [(0, .ref h), (1, .int x1), (2, .int x2)] [] u := by
      intro n
      induction n using Nat.strongRecOn with
      | ind n ih =>
        intro x1 x2 u hn hi
        exact b23b B15 hB15 (fun yx1 yx2 yu => I yx1 yx2 yu ∧ μ yx1 yx2 yu < μ x1 x2 u) (fun yx1 yx2 yu hb => ih _ (hn ▸ hb.2) yx1 yx2 yu rfl hb.1) x1 x2 u (hs x1 x2 u hi)
    exact key _ x1 x2 u rfl h0
  have b15b : ∀ (B15 : Int32 → ST → Prop), (∀ (x1 : Int32) (u : ST), B15 x1 u → mGo p l e ({ frames := 1, cells := 0, slots := 0, locals := 21 } : Room) s m args below meth c A Z 7 D (mT cs) (W12 h r cs) 15 [(0, .ref h), (1, .int x1)] [] u) → ∀ (x1 : Int32) (u : ST), wp_X12_findWorst_p15b x1 u B15 Q → mGo p l e ({ frames := 1, cells := 0, slots := 0, locals := 21 } : Room) s m args below meth c A Z 7 D (mT cs) (W12 h r cs) 15 [(0, .ref h), (1, .int x1)] [] u := by
    intro B15 hB15 x1 u hw H locs ls hI hl
    unfold wp_X12_findWorst_p15b at hw
    refine lv_iload_n S.1 S.2.1 dX12_findWorst_15 rfl (lv_at hl 1 rfl) ?_
    refine lv_bipush (v := 61) S.1 S.2.1 dX12_findWorst_16 (by decide) ?_
    refine lv_icmp_gt (tgt := 152) S.1 S.2.1 dX12_findWorst_18 (by decide) (fun c18 => ?_) (fun c18 => ?_)
    · have hw := hw.1 c18
      subst hZ
      exact m_vret S hr hlocks hI hw dX12_findWorst_152
    · have hw := hw.2 c18
      refine lv_iconst (v := 0) S.1 S.2.1 dX12_findWorst_21 (by decide) ?_
      refine lv_istore_n (lv' := [(2, .int (0 : Int32)), (0, .ref h), (1, .int x1)]) S.1 S.2.1 dX12_findWorst_22 rfl hl (by decide) rfl (fun ls hl => ?_)
      exact b23 B15 hB15 x1 (0 : Int32) u hw H locs ls hI (lv_sub hl [1, 2, 0] rfl)
  have b15 : ∀ (x1 : Int32) (u : ST), wp_X12_findWorst_p15 x1 u Q → mGo p l e ({ frames := 1, cells := 0, slots := 0, locals := 21 } : Room) s m args below meth c A Z 7 D (mT cs) (W12 h r cs) 15 [(0, .ref h), (1, .int x1)] [] u := by
    intro x1 u hw
    obtain ⟨I, μ, h0, hs⟩ := hw
    have key : ∀ (n : Nat) (x1 : Int32) (u : ST), μ x1 u = n → I x1 u → mGo p l e ({ frames := 1, cells := 0, slots := 0, locals := 21 } : Room) s m args below meth c A Z 7 D (mT cs) (W12 h r cs) 15 [(0, .ref h), (1, .int x1)] [] u := by
      intro n
      induction n using Nat.strongRecOn with
      | ind n ih =>
        intro x1 u hn hi
        exact b15b (fun yx1 yu => I yx1 yu ∧ μ yx1 yu < μ x1 u) (fun yx1 yu hb => ih _ (hn ▸ hb.2) yx1 yu rfl hb.1) x1 u (hs x1 u hi)
    exact key _ x1 u rfl h0
  unfold wp_X12_findWorst at hw
  obtain ⟨H, hH⟩ : ∃ z : Heap, z = s.heap := ⟨_, rfl⟩
  obtain ⟨locs, hL⟩ : ∃ z : List Loc, z = [] := ⟨_, rfl⟩
  rw [show W p l e ({ frames := 1, cells := 0, slots := 0, locals := 21 } : Room) s m args below meth c s.heap [] 0 0 Z (F0 m 0 ls []) = W p l e ({ frames := 1, cells := 0, slots := 0, locals := 21 } : Room) s m args below meth c H locs 0 0 Z (F0 m 0 ls []) by rw [hH, hL]]
  replace hI : mI D (mT cs) A s.heap s (W12 h r cs u) H locs := by rw [hH, hL]; exact hI
  refine lv_aload_n S.1 S.2.1 dX12_findWorst_0 rfl (lv_at hl 0 rfl) ?_
  refine m_get S hin hI 0 (W12_at0 h r cs u) rfl 27 (Nat.le_of_ble_eq_true rfl) (List.mem_of_getElem? (i := 1) rfl) rfl (Ff12_at27 r u) dX12_findWorst_1 ?_
  refine lv_if_eq (tgt := 8) S.1 S.2.1 dX12_findWorst_4 (by decide) (fun c4 => ?_) (fun c4 => ?_)
  · have hw := hw.1 c4
    refine lv_aload_n S.1 S.2.1 dX12_findWorst_8 rfl (lv_at hl 0 rfl) ?_
    refine lv_iconst (v := 1) S.1 S.2.1 dX12_findWorst_9 (by decide) ?_
    obtain ⟨u10, eu10⟩ : ∃ z : ST, z = sI u 27 (1 : Int32) := ⟨_, rfl⟩
    have hw := hw u10 eu10
    refine m_put S hin tyX12_ok nmX12 hI 0 (W12_at0 h r cs u) rfl 27 (Nat.le_of_ble_eq_true rfl) (List.mem_of_getElem? (i := 1) rfl) rfl rfl (by show Value.int ((1 : Int32) &&& 1) = _; rfl) rfl (Nat.le_of_ble_eq_true rfl) (W12_sI27 h r cs u u10 (1 : Int32) eu10) dX12_findWorst_10 (fun H locs hI => ?_)
    refine lv_iconst (v := 1) S.1 S.2.1 dX12_findWorst_13 (by decide) ?_
    refine lv_istore_n (lv' := [(1, .int (1 : Int32)), (0, .ref h)]) S.1 S.2.1 dX12_findWorst_14 rfl hl (by decide) rfl (fun ls hl => ?_)
    exact b15 (1 : Int32) u10 hw H locs ls hI (lv_sub hl [1, 0] rfl)
  · have hw := hw.2 c4
    subst hZ
    exact m_vret S hr hlocks hI hw dX12_findWorst_7

def wp_X12_isSpan_p31 (t0 : Int32) (Q : Int32 → Prop) : Prop :=
  t0 &&& 1 = t0 ∧ Q t0
def wp_X12_isSpan_p30 (Q : Int32 → Prop) : Prop :=
  wp_X12_isSpan_p31 (0 : Int32) Q
def wp_X12_isSpan (a0 : Int32) (Q : Int32 → Prop) : Prop :=
  ((a0 < 0 → wp_X12_isSpan_p30 Q) ∧ (¬ a0 < 0 → (¬ (10 : Int32) = 0 ∧ ∀ y7 : Int32, y7 = a0 / (10 : Int32) → (wp_X12_in y7 (1 : Int32) (61 : Int32) (fun y11 => ((y11 = 0 → wp_X12_isSpan_p30 Q) ∧ (¬ y11 = 0 → (¬ (10 : Int32) = 0 ∧ ∀ y20 : Int32, y20 = a0 - a0 / (10 : Int32) * (10 : Int32) → (((6 : Int32) < y20 → wp_X12_isSpan_p30 Q) ∧ (¬ (6 : Int32) < y20 → wp_X12_isSpan_p31 (1 : Int32) Q))))))))))
set_option maxHeartbeats 4000000 in
set_option maxRecDepth 100000 in
theorem c_X12_isSpan (l : Launch) (a0 : Int32) (Q : Int32 → Prop) (hw : wp_X12_isSpan a0 Q) : mTi l yX12_isSpan wsX12_isSpan ({ frames := 1, cells := 0, slots := 0, locals := 22 } : Room) [.int a0] Q := by
  refine m_enterT (cc := cX12_isSpan) (maxL := 1) (ret := (some .boolean)) (by decide) rfl (Nat.le_of_ble_eq_true rfl) ?_
  intro p e s m args below meth c ls S hr hlocks hname hl hN
  have S : CallFix p m c cX12_isSpan 1 s args wsX12_isSpan RX12 := S
  generalize hZ : MQ below (vp_Si Q) args s 0 0 (fun _ => False) = Z
  have hl : lv_has ls 1 [(0, .int a0)] := hl
  have b31 : ∀ (t0 : Int32), wp_X12_isSpan_p31 t0 Q → mGt p l e ({ frames := 1, cells := 0, slots := 0, locals := 22 } : Room) s m args below meth c Z 1 31 [] [.int t0] := by
    intro t0 hw ls hl
    unfold wp_X12_isSpan_p31 at hw
    subst hZ
    exact m_tzret S hr hlocks hw.1 hw.2 dX12_isSpan_31
  have b30 : wp_X12_isSpan_p30 Q → mGt p l e ({ frames := 1, cells := 0, slots := 0, locals := 22 } : Room) s m args below meth c Z 1 30 [] [] := by
    intro hw ls hl
    unfold wp_X12_isSpan_p30 at hw
    refine lv_iconst (v := 0) S.1 S.2.1 dX12_isSpan_30 (by decide) ?_
    exact b31 (0 : Int32) hw ls (lv_sub hl [] rfl)
  unfold wp_X12_isSpan at hw
  refine lv_iload_n S.1 S.2.1 dX12_isSpan_0 rfl (lv_at hl 0 rfl) ?_
  refine lv_if_lt (tgt := 30) S.1 S.2.1 dX12_isSpan_1 (by decide) (fun c1 => ?_) (fun c1 => ?_)
  · have hw := hw.1 c1
    exact b30 hw ls (lv_sub hl [] rfl)
  · have hw := hw.2 c1
    refine lv_iload_n S.1 S.2.1 dX12_isSpan_4 rfl (lv_at hl 0 rfl) ?_
    refine lv_bipush (v := 10) S.1 S.2.1 dX12_isSpan_5 (by decide) ?_
    refine lv_idiv S.1 S.2.1 dX12_isSpan_7 hw.1 ?_
    have hw := hw.2
    refine lv_topi (fun y7 ey7 => ?_)
    have hw := hw y7 ey7
    refine lv_iconst (v := 1) S.1 S.2.1 dX12_isSpan_8 (by decide) ?_
    refine lv_bipush (v := 61) S.1 S.2.1 dX12_isSpan_9 (by decide) ?_
    refine m_si (As := [.int y7, .int (1 : Int32), .int (61 : Int32)]) (rest := []) S hN (c_X12_in l y7 (1 : Int32) (61 : Int32) _ hw) (va_cwS 3 S.2.2.2.2 gX12_isSpan_X12_in rfl rfl rfl (by decide +kernel) ⟨Nat.le_of_ble_eq_true rfl, Nat.le_of_ble_eq_true rfl⟩) rfl hl.1 rfl (Nat.le_of_ble_eq_true rfl) dX12_isSpan_11 ⟨Nat.zero_le _, Nat.zero_le _⟩ (fun y11 hw => ?_)
    refine lv_if_eq (tgt := 30) S.1 S.2.1 dX12_isSpan_14 (by decide) (fun c14 => ?_) (fun c14 => ?_)
    · have hw := hw.1 c14
      exact b30 hw ls (lv_sub hl [] rfl)
    · have hw := hw.2 c14
      refine lv_iload_n S.1 S.2.1 dX12_isSpan_17 rfl (lv_at hl 0 rfl) ?_
      refine lv_bipush (v := 10) S.1 S.2.1 dX12_isSpan_18 (by decide) ?_
      refine lv_irem S.1 S.2.1 dX12_isSpan_20 hw.1 ?_
      have hw := hw.2
      refine lv_topi (fun y20 ey20 => ?_)
      have hw := hw y20 ey20
      refine lv_bipush (v := 6) S.1 S.2.1 dX12_isSpan_21 (by decide) ?_
      refine lv_icmp_gt (tgt := 30) S.1 S.2.1 dX12_isSpan_23 (by decide) (fun c23 => ?_) (fun c23 => ?_)
      · have hw := hw.1 c23
        exact b30 hw ls (lv_sub hl [] rfl)
      · have hw := hw.2 c23
        refine lv_iconst (v := 1) S.1 S.2.1 dX12_isSpan_26 (by decide) ?_
        refine lv_goto (tgt := 31) S.1 S.2.1 dX12_isSpan_27 (by decide) ?_
        exact b31 (1 : Int32) hw ls (lv_sub hl [] rfl)

def wp_X12_worst_p16 (u : ST) (Q : Int32 → ST → Prop) : Prop :=
  Q ((-1) : Int32) u
def wp_X12_worst_p70 (t0 : Int32) (u : ST) (Q : Int32 → ST → Prop) : Prop :=
  Q t0 u
def wp_X12_worst (a1 : Int32) (a2 : Int32) (u : ST) (Q : Int32 → ST → Prop) : Prop :=
  (wp_X12_isSpan a1 (fun y1 => ((y1 = 0 → wp_X12_worst_p16 u Q) ∧ (¬ y1 = 0 → (wp_X12_in a2 (0 : Int32) (1 : Int32) (fun y10 => ((¬ y10 = 0 → (wp_X12_findWorst u (fun u19 => (¬ (10 : Int32) = 0 ∧ ∀ y27 : Int32, y27 = a1 / (10 : Int32) → (∀ y28 : Int32, y28 = (7 : Int32) * y27 → (¬ (10 : Int32) = 0 ∧ ∀ y32 : Int32, y32 = a1 - a1 / (10 : Int32) * (10 : Int32) → (∀ y33 : Int32, y33 = y28 + y32 → (vp_in y33 434 ∧ ∀ y40 : Int32, y40 = gA u19 25 y33.toNatClampNeg → ((y40 < (1000000 : Int32) → ((¬ a2 = 0 → (vp_in y33 434 ∧ ∀ y69 : Int32, y69 = gA u19 26 y33.toNatClampNeg → wp_X12_worst_p70 y69 u19 Q)) ∧ (a2 = 0 → (vp_in y33 434 ∧ ∀ y60 : Int32, y60 = gA u19 25 y33.toNatClampNeg → wp_X12_worst_p70 y60 u19 Q)))) ∧ (¬ y40 < (1000000 : Int32) → wp_X12_worst_p70 ((-2) : Int32) u19 Q)))))))))) ∧ (y10 = 0 → wp_X12_worst_p16 u Q))))))))
set_option maxHeartbeats 4000000 in
set_option maxRecDepth 100000 in
theorem c_X12_worst (l : Launch) (D : va_G) (h : Nat) (r : Nat → Nat) (cs : Nat → ClassId) (a1 : Int32) (a2 : Int32) (u : ST) (Q : Int32 → ST → Prop) (hw : wp_X12_worst a1 a2 u Q) : mCi l yX12_worst wsX12_worst ({ frames := 2, cells := 0, slots := 0, locals := 47 } : Room) 0 0 D (mT cs) (W12 h r cs) [.ref h, .int a1, .int a2] u Q := by
  unfold mCi
  refine m_enter (QQ := fun A => va_Qi Q (mPos D (mT cs) A (W12 h r cs)) A) (cc := cX12_worst) (maxL := 4) (ret := (some .int)) (by decide) rfl (Nat.le_of_ble_eq_true rfl) ?_
  intro p e s m args below meth c A ls S hr hlocks hname hl hI
  have S : CallFix p m c cX12_worst 4 s args wsX12_worst RX12 := S
  show W p l e ({ frames := 2, cells := 0, slots := 0, locals := 47 } : Room) s m args below meth c s.heap [] 0 0 (MQ below (va_Qi Q (mPos D (mT cs) A (W12 h r cs)) A) args s 0 0 A) (F0 m 0 ls [])
  generalize hZ : MQ below (va_Qi Q (mPos D (mT cs) A (W12 h r cs)) A) args s 0 0 A = Z
  have hin : ∀ w ∈ wsX120, w ∈ wsX12_worst := fun _ h => List.mem_cons_of_mem _ (List.mem_append_right _ h)
  have hl : lv_has ls 4 [(0, .ref h), (1, .int a1), (2, .int a2)] := hl
  have b16 : ∀ (u : ST), wp_X12_worst_p16 u Q → mGo p l e ({ frames := 2, cells := 0, slots := 0, locals := 47 } : Room) s m args below meth c A Z 4 D (mT cs) (W12 h r cs) 16 [(0, .ref h)] [] u := by
    intro u hw H locs ls hI hl
    unfold wp_X12_worst_p16 at hw
    refine lv_iconst (v := (-1)) S.1 S.2.1 dX12_worst_16 (by decide) ?_
    subst hZ
    exact m_iret S hr hlocks hI hw dX12_worst_17
  have b70 : ∀ (t0 : Int32) (u : ST), wp_X12_worst_p70 t0 u Q → mGo p l e ({ frames := 2, cells := 0, slots := 0, locals := 47 } : Room) s m args below meth c A Z 4 D (mT cs) (W12 h r cs) 70 [(0, .ref h)] [.int t0] u := by
    intro t0 u hw H locs ls hI hl
    unfold wp_X12_worst_p70 at hw
    subst hZ
    exact m_iret S hr hlocks hI hw dX12_worst_70
  unfold wp_X12_worst at hw
  obtain ⟨H, hH⟩ : ∃ z : Heap, z = s.heap := ⟨_, rfl⟩
  obtain ⟨locs, hL⟩ : ∃ z : List Loc, z = [] := ⟨_, rfl⟩
  rw [show W p l e ({ frames := 2, cells := 0, slots := 0, locals := 47 } : Room) s m args below meth c s.heap [] 0 0 Z (F0 m 0 ls []) = W p l e ({ frames := 2, cells := 0, slots := 0, locals := 47 } : Room) s m args below meth c H locs 0 0 Z (F0 m 0 ls []) by rw [hH, hL]]
  replace hI : mI D (mT cs) A s.heap s (W12 h r cs u) H locs := by rw [hH, hL]; exact hI
  refine lv_iload_n S.1 S.2.1 dX12_worst_0 rfl (lv_at hl 1 rfl) ?_
  refine m_si (As := [.int a1]) (rest := []) S hI.2.2.2.1.2.1 (c_X12_isSpan l a1 _ hw) (va_cwS 1 S.2.2.2.2 gX12_worst_X12_isSpan rfl rfl rfl (by decide +kernel) ⟨Nat.le_of_ble_eq_true rfl, Nat.le_of_ble_eq_true rfl⟩) rfl hl.1 rfl (Nat.le_of_ble_eq_true rfl) dX12_worst_1 ⟨Nat.zero_le _, Nat.zero_le _⟩ (fun y1 hw => ?_)
  refine lv_if_eq (tgt := 16) S.1 S.2.1 dX12_worst_4 (by decide) (fun c4 => ?_) (fun c4 => ?_)
  · have hw := hw.1 c4
    exact b16 u hw H locs ls hI (lv_sub hl [0] rfl)
  · have hw := hw.2 c4
    refine lv_iload_n S.1 S.2.1 dX12_worst_7 rfl (lv_at hl 2 rfl) ?_
    refine lv_iconst (v := 0) S.1 S.2.1 dX12_worst_8 (by decide) ?_
    refine lv_iconst (v := 1) S.1 S.2.1 dX12_worst_9 (by decide) ?_
    refine m_si (As := [.int a2, .int (0 : Int32), .int (1 : Int32)]) (rest := []) S hI.2.2.2.1.2.1 (c_X12_in l a2 (0 : Int32) (1 : Int32) _ hw) (va_cwS 3 S.2.2.2.2 gX12_worst_X12_in rfl rfl rfl (by decide +kernel) ⟨Nat.le_of_ble_eq_true rfl, Nat.le_of_ble_eq_true rfl⟩) rfl hl.1 rfl (Nat.le_of_ble_eq_true rfl) dX12_worst_10 ⟨Nat.zero_le _, Nat.zero_le _⟩ (fun y10 hw => ?_)
    refine lv_if_ne (tgt := 18) S.1 S.2.1 dX12_worst_13 (by decide) (fun c13 => ?_) (fun c13 => ?_)
    · have hw := hw.1 c13
      refine lv_aload_n S.1 S.2.1 dX12_worst_18 rfl (lv_at hl 0 rfl) ?_
      refine m_vv (As := []) (rest := []) S (W12_self h r cs) hI rfl (c_X12_findWorst l D h r cs u _ hw) (cwV 0 S.2.2.2.2 gX12_worst_X12_findWorst rfl rfl rfl (by decide +kernel) ⟨Nat.le_of_ble_eq_true rfl, Nat.le_of_ble_eq_true rfl⟩) (W12_at0 h r cs u) rfl rfl hl.1 rfl (Nat.le_of_ble_eq_true rfl) dX12_worst_19 ⟨Nat.zero_le _, Nat.zero_le _⟩ (fun u19 H locs hw hI => ?_)
      refine lv_bipush (v := 7) S.1 S.2.1 dX12_worst_22 (by decide) ?_
      refine lv_iload_n S.1 S.2.1 dX12_worst_24 rfl (lv_at hl 1 rfl) ?_
      refine lv_bipush (v := 10) S.1 S.2.1 dX12_worst_25 (by decide) ?_
      refine lv_idiv S.1 S.2.1 dX12_worst_27 hw.1 ?_
      have hw := hw.2
      refine lv_topi (fun y27 ey27 => ?_)
      have hw := hw y27 ey27
      refine lv_imul S.1 S.2.1 dX12_worst_28 ?_
      refine lv_topi (fun y28 ey28 => ?_)
      have hw := hw y28 ey28
      refine lv_iload_n S.1 S.2.1 dX12_worst_29 rfl (lv_at hl 1 rfl) ?_
      refine lv_bipush (v := 10) S.1 S.2.1 dX12_worst_30 (by decide) ?_
      refine lv_irem S.1 S.2.1 dX12_worst_32 hw.1 ?_
      have hw := hw.2
      refine lv_topi (fun y32 ey32 => ?_)
      have hw := hw y32 ey32
      refine lv_iadd S.1 S.2.1 dX12_worst_33 ?_
      refine lv_topi (fun y33 ey33 => ?_)
      have hw := hw y33 ey33
      refine lv_istore_n (lv' := [(3, .int y33), (0, .ref h), (1, .int a1), (2, .int a2)]) S.1 S.2.1 dX12_worst_34 rfl hl (by decide) rfl (fun ls hl => ?_)
      refine lv_aload_n S.1 S.2.1 dX12_worst_35 rfl (lv_at hl 1 rfl) ?_
      refine m_get S hin hI 0 (W12_at0 h r cs u19) rfl 25 (Nat.le_of_ble_eq_true rfl) (List.mem_of_getElem? (i := 1) rfl) rfl (Ff12_at25 r u19) dX12_worst_36 ?_
      refine lv_iload_n S.1 S.2.1 dX12_worst_39 rfl (lv_at hl 0 rfl) ?_
      refine m_iald S hI 13 0 (W12_at13 h r cs u19) rfl hw.1 dX12_worst_40 ?_
      refine lv_topi (fun y40 ey40 => ?_)
      have hw := hw.2 y40 ey40
      refine lv_ldc S.1 S.2.1 S.2.2.2.1 (S.2.2.2.2 _ (List.mem_of_getElem? (i := 2) rfl)) dX12_worst_41 ?_
      refine lv_icmp_lt (tgt := 51) S.1 S.2.1 dX12_worst_43 (by decide) (fun c43 => ?_) (fun c43 => ?_)
      · have hw := hw.1 c43
        refine lv_iload_n S.1 S.2.1 dX12_worst_51 rfl (lv_at hl 3 rfl) ?_
        refine lv_if_ne (tgt := 64) S.1 S.2.1 dX12_worst_52 (by decide) (fun c52 => ?_) (fun c52 => ?_)
        · have hw := hw.1 c52
          refine lv_aload_n S.1 S.2.1 dX12_worst_64 rfl (lv_at hl 1 rfl) ?_
          refine m_get S hin hI 0 (W12_at0 h r cs u19) rfl 26 (Nat.le_of_ble_eq_true rfl) (List.mem_of_getElem? (i := 3) rfl) rfl (Ff12_at26 r u19) dX12_worst_65 ?_
          refine lv_iload_n S.1 S.2.1 dX12_worst_68 rfl (lv_at hl 0 rfl) ?_
          refine m_iald S hI 14 0 (W12_at14 h r cs u19) rfl hw.1 dX12_worst_69 ?_
          refine lv_topi (fun y69 ey69 => ?_)
          have hw := hw.2 y69 ey69
          exact b70 y69 u19 hw H locs ls hI (lv_sub hl [1] rfl)
        · have hw := hw.2 c52
          refine lv_aload_n S.1 S.2.1 dX12_worst_55 rfl (lv_at hl 1 rfl) ?_
          refine m_get S hin hI 0 (W12_at0 h r cs u19) rfl 25 (Nat.le_of_ble_eq_true rfl) (List.mem_of_getElem? (i := 1) rfl) rfl (Ff12_at25 r u19) dX12_worst_56 ?_
          refine lv_iload_n S.1 S.2.1 dX12_worst_59 rfl (lv_at hl 0 rfl) ?_
          refine m_iald S hI 13 0 (W12_at13 h r cs u19) rfl hw.1 dX12_worst_60 ?_
          refine lv_topi (fun y60 ey60 => ?_)
          have hw := hw.2 y60 ey60
          refine lv_goto (tgt := 70) S.1 S.2.1 dX12_worst_61 (by decide) ?_
          exact b70 y60 u19 hw H locs ls hI (lv_sub hl [1] rfl)
      · have hw := hw.2 c43
        refine lv_bipush (v := (-2)) S.1 S.2.1 dX12_worst_46 (by decide) ?_
        refine lv_goto (tgt := 70) S.1 S.2.1 dX12_worst_48 (by decide) ?_
        exact b70 ((-2) : Int32) u19 hw H locs ls hI (lv_sub hl [1] rfl)
    · have hw := hw.2 c13
      exact b16 u hw H locs ls hI (lv_sub hl [0] rfl)

def wp_X12_reach_p22 (u : ST) (Q : Int32 → ST → Prop) : Prop :=
  Q ((-1) : Int32) u
def wp_X12_reach_p74 (x2 : Int32) (u : ST) (Q : Int32 → ST → Prop) : Prop :=
  Q x2 u
def wp_X12_reach_p31b (x1 : Int32) (x2 : Int32) (x3 : Int32) (x4 : Int32) (u : ST) (B31 : Int32 → Int32 → Int32 → Int32 → ST → Prop) (Q : Int32 → ST → Prop) : Prop :=
  (¬ (10 : Int32) = 0 ∧ ∀ y36 : Int32, y36 = x1 - x1 / (10 : Int32) * (10 : Int32) → ((y36 < x4 → wp_X12_reach_p74 x2 u Q) ∧ (¬ y36 < x4 → (¬ (10 : Int32) = 0 ∧ ∀ y45 : Int32, y45 = x1 / (10 : Int32) → ((y45 < x4 → wp_X12_reach_p74 x2 u Q) ∧ (¬ y45 < x4 → (∀ y51 : Int32, y51 = x2 + x3 → (¬ (10 : Int32) = 0 ∧ ∀ y57 : Int32, y57 = x1 / (10 : Int32) → (∀ y60 : Int32, y60 = y57 - x4 → (∀ y61 : Int32, y61 = x3 * y60 → (∀ y65 : Int32, y65 = x4 + (1 : Int32) → (¬ y65 = 0 ∧ ∀ y66 : Int32, y66 = y61 / y65 → (∀ y68 : Int32, y68 = x4 + 1 → B31 x1 y51 y66 y68 u)))))))))))))
def wp_X12_reach_p31 (x1 : Int32) (x2 : Int32) (x3 : Int32) (x4 : Int32) (u : ST) (Q : Int32 → ST → Prop) : Prop := ∃ (I : Int32 → Int32 → Int32 → Int32 → ST → Prop) (μ : Int32 → Int32 → Int32 → Int32 → ST → Nat), I x1 x2 x3 x4 u ∧ ∀ (x1 : Int32) (x2 : Int32) (x3 : Int32) (x4 : Int32) (u : ST), I x1 x2 x3 x4 u → wp_X12_reach_p31b x1 x2 x3 x4 u (fun yx1 yx2 yx3 yx4 yu => I yx1 yx2 yx3 yx4 yu ∧ μ yx1 yx2 yx3 yx4 yu < μ x1 x2 x3 x4 u) Q
def wp_X12_reach (a1 : Int32) (u : ST) (Q : Int32 → ST → Prop) : Prop :=
  ((a1 < 0 → wp_X12_reach_p22 u Q) ∧ (¬ a1 < 0 → (¬ (10 : Int32) = 0 ∧ ∀ y7 : Int32, y7 = a1 / (10 : Int32) → (((20 : Int32) < y7 → wp_X12_reach_p22 u Q) ∧ (¬ (20 : Int32) < y7 → (¬ (10 : Int32) = 0 ∧ ∀ y16 : Int32, y16 = a1 - a1 / (10 : Int32) * (10 : Int32) → ((y16 ≤ (6 : Int32) → wp_X12_reach_p31 a1 (0 : Int32) (1 : Int32) (0 : Int32) u Q) ∧ (¬ y16 ≤ (6 : Int32) → wp_X12_reach_p22 u Q))))))))
set_option maxHeartbeats 4000000 in
set_option maxRecDepth 100000 in
theorem c_X12_reach (l : Launch) (D : va_G) (h : Nat) (r : Nat → Nat) (cs : Nat → ClassId) (a1 : Int32) (u : ST) (Q : Int32 → ST → Prop) (hw : wp_X12_reach a1 u Q) : mCi l yX12_reach wsX12_reach ({ frames := 0, cells := 0, slots := 0, locals := 0 } : Room) 0 0 D (mT cs) (W12 h r cs) [.ref h, .int a1] u Q := by
  unfold mCi
  refine m_enter (QQ := fun A => va_Qi Q (mPos D (mT cs) A (W12 h r cs)) A) (cc := cX12_reach) (maxL := 5) (ret := (some .int)) (by decide) rfl (Nat.le_of_ble_eq_true rfl) ?_
  intro p e s m args below meth c A ls S hr hlocks hname hl hI
  have S : CallFix p m c cX12_reach 5 s args wsX12_reach RX12 := S
  show W p l e ({ frames := 0, cells := 0, slots := 0, locals := 0 } : Room) s m args below meth c s.heap [] 0 0 (MQ below (va_Qi Q (mPos D (mT cs) A (W12 h r cs)) A) args s 0 0 A) (F0 m 0 ls [])
  generalize hZ : MQ below (va_Qi Q (mPos D (mT cs) A (W12 h r cs)) A) args s 0 0 A = Z
  have hl : lv_has ls 5 [(0, .ref h), (1, .int a1)] := hl
  have b22 : ∀ (u : ST), wp_X12_reach_p22 u Q → mGo p l e ({ frames := 0, cells := 0, slots := 0, locals := 0 } : Room) s m args below meth c A Z 5 D (mT cs) (W12 h r cs) 22 [(0, .ref h)] [] u := by
    intro u hw H locs ls hI hl
    unfold wp_X12_reach_p22 at hw
    refine lv_iconst (v := (-1)) S.1 S.2.1 dX12_reach_22 (by decide) ?_
    subst hZ
    exact m_iret S hr hlocks hI hw dX12_reach_23
  have b74 : ∀ (x2 : Int32) (u : ST), wp_X12_reach_p74 x2 u Q → mGo p l e ({ frames := 0, cells := 0, slots := 0, locals := 0 } : Room) s m args below meth c A Z 5 D (mT cs) (W12 h r cs) 74 [(0, .ref h), (2, .int x2)] [] u := by
    intro x2 u hw H locs ls hI hl
    unfold wp_X12_reach_p74 at hw
    refine lv_iload_n S.1 S.2.1 dX12_reach_74 rfl (lv_at hl 1 rfl) ?_
    subst hZ
    exact m_iret S hr hlocks hI hw dX12_reach_75
  have b31b : ∀ (B31 : Int32 → Int32 → Int32 → Int32 → ST → Prop), (∀ (x1 : Int32) (x2 : Int32) (x3 : Int32) (x4 : Int32) (u : ST), B31 x1 x2 x3 x4 u → mGo p l e ({ frames := 0, cells := 0, slots := 0, locals := 0 } : Room) s m args below meth c A Z 5 D (mT cs) (W12 h r cs) 31 [(0, .ref h), (1, .int x1), (2, .int x2), (3, .int x3), (4, .int x4)] [] u) → ∀ (x1 : Int32) (x2 : Int32) (x3 : Int32) (x4 : Int32) (u : ST), wp_X12_reach_p31b x1 x2 x3 x4 u B31 Q → mGo p l e ({ frames := 0, cells := 0, slots := 0, locals := 0 } : Room) s m args below meth c A Z 5 D (mT cs) (W12 h r cs) 31 [(0, .ref h), (1, .int x1), (2, .int x2), (3, .int x3), (4, .int x4)] [] u := by
    intro B31 hB31 x1 x2 x3 x4 u hw H locs ls hI hl
    unfold wp_X12_reach_p31b at hw
    refine lv_iload S.1 S.2.1 dX12_reach_31 (lv_at hl 4 rfl) ?_
    refine lv_iload_n S.1 S.2.1 dX12_reach_33 rfl (lv_at hl 1 rfl) ?_
    refine lv_bipush (v := 10) S.1 S.2.1 dX12_reach_34 (by decide) ?_
    refine lv_irem S.1 S.2.1 dX12_reach_36 hw.1 ?_
    have hw := hw.2
    refine lv_topi (fun y36 ey36 => ?_)
    have hw := hw y36 ey36
    refine lv_icmp_gt (tgt := 74) S.1 S.2.1 dX12_reach_37 (by decide) (fun c37 => ?_) (fun c37 => ?_)
    · have hw := hw.1 c37
      exact b74 x2 u hw H locs ls hI (lv_sub hl [0, 2] rfl)
    · have hw := hw.2 c37
      refine lv_iload S.1 S.2.1 dX12_reach_40 (lv_at hl 4 rfl) ?_
      refine lv_iload_n S.1 S.2.1 dX12_reach_42 rfl (lv_at hl 1 rfl) ?_
      refine lv_bipush (v := 10) S.1 S.2.1 dX12_reach_43 (by decide) ?_
      refine lv_idiv S.1 S.2.1 dX12_reach_45 hw.1 ?_
      have hw := hw.2
      refine lv_topi (fun y45 ey45 => ?_)
      have hw := hw y45 ey45
      refine lv_icmp_gt (tgt := 74) S.1 S.2.1 dX12_reach_46 (by decide) (fun c46 => ?_) (fun c46 => ?_)
      · have hw := hw.1 c46
        exact b74 x2 u hw H locs ls hI (lv_sub hl [0, 2] rfl)
      · have hw := hw.2 c46
        refine lv_iload_n S.1 S.2.1 dX12_reach_49 rfl (lv_at hl 2 rfl) ?_
        refine lv_iload_n S.1 S.2.1 dX12_reach_50 rfl (lv_at hl 3 rfl) ?_
        refine lv_iadd S.1 S.2.1 dX12_reach_51 ?_
        refine lv_topi (fun y51 ey51 => ?_)
        have hw := hw y51 ey51
        refine lv_istore_n (lv' := [(2, .int y51), (0, .ref h), (1, .int x1), (3, .int x3), (4, .int x4)]) S.1 S.2.1 dX12_reach_52 rfl hl (by decide) rfl (fun ls hl => ?_)
        refine lv_iload_n S.1 S.2.1 dX12_reach_53 rfl (lv_at hl 3 rfl) ?_
        refine lv_iload_n S.1 S.2.1 dX12_reach_54 rfl (lv_at hl 2 rfl) ?_
        refine lv_bipush (v := 10) S.1 S.2.1 dX12_reach_55 (by decide) ?_
        refine lv_idiv S.1 S.2.1 dX12_reach_57 hw.1 ?_
        have hw := hw.2
        refine lv_topi (fun y57 ey57 => ?_)
        have hw := hw y57 ey57
        refine lv_iload S.1 S.2.1 dX12_reach_58 (lv_at hl 4 rfl) ?_
        refine lv_isub S.1 S.2.1 dX12_reach_60 ?_
        refine lv_topi (fun y60 ey60 => ?_)
        have hw := hw y60 ey60
        refine lv_imul S.1 S.2.1 dX12_reach_61 ?_
        refine lv_topi (fun y61 ey61 => ?_)
        have hw := hw y61 ey61
        refine lv_iload S.1 S.2.1 dX12_reach_62 (lv_at hl 4 rfl) ?_
        refine lv_iconst (v := 1) S.1 S.2.1 dX12_reach_64 (by decide) ?_
        refine lv_iadd S.1 S.2.1 dX12_reach_65 ?_
        refine lv_topi (fun y65 ey65 => ?_)
        have hw := hw y65 ey65
        refine lv_idiv S.1 S.2.1 dX12_reach_66 hw.1 ?_
        have hw := hw.2
        refine lv_topi (fun y66 ey66 => ?_)
        have hw := hw y66 ey66
        refine lv_istore_n (lv' := [(3, .int y66), (2, .int y51), (0, .ref h), (1, .int x1), (4, .int x4)]) S.1 S.2.1 dX12_reach_67 rfl hl (by decide) rfl (fun ls hl => ?_)
        obtain ⟨y68, ey68⟩ : ∃ z : Int32, z = x4 + 1 := ⟨_, rfl⟩
        have hw := hw y68 ey68
        refine lv_iinc (v := y68) (lv' := [(4, .int y68), (3, .int y66), (2, .int y51), (0, .ref h), (1, .int x1)]) S.1 S.2.1 dX12_reach_68 hl (k := 4) rfl (by rw [ey68]; rfl) (by decide) rfl (fun ls hl => ?_)
        refine lv_goto (tgt := 31) S.1 S.2.1 dX12_reach_71 (by decide) ?_
        exact hB31 x1 y51 y66 y68 u hw H locs ls hI (lv_sub hl [3, 4, 2, 1, 0] rfl)
  have b31 : ∀ (x1 : Int32) (x2 : Int32) (x3 : Int32) (x4 : Int32) (u : ST), wp_X12_reach_p31 x1 x2 x3 x4 u Q → mGo p l e ({ frames := 0, cells := 0, slots := 0, locals := 0 } : Room) s m args below meth c A Z 5 D (mT cs) (W12 h r cs) 31 [(0, .ref h), (1, .int x1), (2, .int x2), (3, .int x3), (4, .int x4)] [] u := by
    intro x1 x2 x3 x4 u hw
    obtain ⟨I, μ, h0, hs⟩ := hw
    have key : ∀ (n : Nat) (x1 : Int32) (x2 : Int32) (x3 : Int32) (x4 : Int32) (u : ST), μ x1 x2 x3 x4 u = n → I x1 x2 x3 x4 u → mGo p l e ({ frames := 0, cells := 0, slots := 0, locals := 0 } : Room) s m args below meth c A Z 5 D (mT cs) (W12 h r cs) 31 [(0, .ref h), (1, .int x1), (2, .int x2), (3, .int x3), (4, .int x4)] [] u := by
      intro n
      induction n using Nat.strongRecOn with
      | ind n ih =>
        intro x1 x2 x3 x4 u hn hi
        exact b31b (fun yx1 yx2 yx3 yx4 yu => I yx1 yx2 yx3 yx4 yu ∧ μ yx1 yx2 yx3 yx4 yu < μ x1 x2 x3 x4 u) (fun yx1 yx2 yx3 yx4 yu hb => ih _ (hn ▸ hb.2) yx1 yx2 yx3 yx4 yu rfl hb.1) x1 x2 x3 x4 u (hs x1 x2 x3 x4 u hi)
    exact key _ x1 x2 x3 x4 u rfl h0
  unfold wp_X12_reach at hw
  obtain ⟨H, hH⟩ : ∃ z : Heap, z = s.heap := ⟨_, rfl⟩
  obtain ⟨locs, hL⟩ : ∃ z : List Loc, z = [] := ⟨_, rfl⟩
  rw [show W p l e ({ frames := 0, cells := 0, slots := 0, locals := 0 } : Room) s m args below meth c s.heap [] 0 0 Z (F0 m 0 ls []) = W p l e ({ frames := 0, cells := 0, slots := 0, locals := 0 } : Room) s m args below meth c H locs 0 0 Z (F0 m 0 ls []) by rw [hH, hL]]
  replace hI : mI D (mT cs) A s.heap s (W12 h r cs u) H locs := by rw [hH, hL]; exact hI
  refine lv_iload_n S.1 S.2.1 dX12_reach_0 rfl (lv_at hl 1 rfl) ?_
  refine lv_if_lt (tgt := 22) S.1 S.2.1 dX12_reach_1 (by decide) (fun c1 => ?_) (fun c1 => ?_)
  · have hw := hw.1 c1
    exact b22 u hw H locs ls hI (lv_sub hl [0] rfl)
  · have hw := hw.2 c1
    refine lv_iload_n S.1 S.2.1 dX12_reach_4 rfl (lv_at hl 1 rfl) ?_
    refine lv_bipush (v := 10) S.1 S.2.1 dX12_reach_5 (by decide) ?_
    refine lv_idiv S.1 S.2.1 dX12_reach_7 hw.1 ?_
    have hw := hw.2
    refine lv_topi (fun y7 ey7 => ?_)
    have hw := hw y7 ey7
    refine lv_bipush (v := 20) S.1 S.2.1 dX12_reach_8 (by decide) ?_
    refine lv_icmp_gt (tgt := 22) S.1 S.2.1 dX12_reach_10 (by decide) (fun c10 => ?_) (fun c10 => ?_)
    · have hw := hw.1 c10
      exact b22 u hw H locs ls hI (lv_sub hl [0] rfl)
    · have hw := hw.2 c10
      refine lv_iload_n S.1 S.2.1 dX12_reach_13 rfl (lv_at hl 1 rfl) ?_
      refine lv_bipush (v := 10) S.1 S.2.1 dX12_reach_14 (by decide) ?_
      refine lv_irem S.1 S.2.1 dX12_reach_16 hw.1 ?_
      have hw := hw.2
      refine lv_topi (fun y16 ey16 => ?_)
      have hw := hw y16 ey16
      refine lv_bipush (v := 6) S.1 S.2.1 dX12_reach_17 (by decide) ?_
      refine lv_icmp_le (tgt := 24) S.1 S.2.1 dX12_reach_19 (by decide) (fun c19 => ?_) (fun c19 => ?_)
      · have hw := hw.1 c19
        refine lv_iconst (v := 0) S.1 S.2.1 dX12_reach_24 (by decide) ?_
        refine lv_istore_n (lv' := [(2, .int (0 : Int32)), (0, .ref h), (1, .int a1)]) S.1 S.2.1 dX12_reach_25 rfl hl (by decide) rfl (fun ls hl => ?_)
        refine lv_iconst (v := 1) S.1 S.2.1 dX12_reach_26 (by decide) ?_
        refine lv_istore_n (lv' := [(3, .int (1 : Int32)), (2, .int (0 : Int32)), (0, .ref h), (1, .int a1)]) S.1 S.2.1 dX12_reach_27 rfl hl (by decide) rfl (fun ls hl => ?_)
        refine lv_iconst (v := 0) S.1 S.2.1 dX12_reach_28 (by decide) ?_
        refine lv_istore (lv' := [(4, .int (0 : Int32)), (3, .int (1 : Int32)), (2, .int (0 : Int32)), (0, .ref h), (1, .int a1)]) S.1 S.2.1 dX12_reach_29 hl (by decide) rfl (fun ls hl => ?_)
        exact b31 a1 (0 : Int32) (1 : Int32) (0 : Int32) u hw H locs ls hI (lv_sub hl [3, 4, 2, 1, 0] rfl)
      · have hw := hw.2 c19
        exact b22 u hw H locs ls hI (lv_sub hl [0] rfl)

def wp_X12_at (a0 : Int32) (a1 : Int32) (Q : Int32 → Prop) : Prop :=
  (∀ y3 : Int32, y3 = (61 : Int32) * a0 → (∀ y5 : Int32, y5 = y3 + a1 → Q y5))
set_option maxHeartbeats 4000000 in
set_option maxRecDepth 100000 in
theorem c_X12_at (l : Launch) (a0 : Int32) (a1 : Int32) (Q : Int32 → Prop) (hw : wp_X12_at a0 a1 Q) : mTi l yX12_at wsX12_at ({ frames := 0, cells := 0, slots := 0, locals := 0 } : Room) [.int a0, .int a1] Q := by
  refine m_enterT (cc := cX12_at) (maxL := 2) (ret := (some .int)) (by decide) rfl (Nat.le_of_ble_eq_true rfl) ?_
  intro p e s m args below meth c ls S hr hlocks hname hl hN
  have S : CallFix p m c cX12_at 2 s args wsX12_at RX12 := S
  generalize hZ : MQ below (vp_Si Q) args s 0 0 (fun _ => False) = Z
  have hl : lv_has ls 2 [(0, .int a0), (1, .int a1)] := hl
  unfold wp_X12_at at hw
  refine lv_bipush (v := 61) S.1 S.2.1 dX12_at_0 (by decide) ?_
  refine lv_iload_n S.1 S.2.1 dX12_at_2 rfl (lv_at hl 0 rfl) ?_
  refine lv_imul S.1 S.2.1 dX12_at_3 ?_
  refine lv_topi (fun y3 ey3 => ?_)
  have hw := hw y3 ey3
  refine lv_iload_n S.1 S.2.1 dX12_at_4 rfl (lv_at hl 1 rfl) ?_
  refine lv_iadd S.1 S.2.1 dX12_at_5 ?_
  refine lv_topi (fun y5 ey5 => ?_)
  have hw := hw y5 ey5
  subst hZ
  exact m_tiret S hr hlocks hw dX12_at_6

def wp_X12_findWeights_p71 (x2 : Int32) (x3 : Int32) (x4 : Int32) (t1 : Int32) (t2 : Int32) (t3 : Int32) (u : ST) (B36 : Int32 → Int32 → Int32 → ST → Prop) (Q : Int32 → ST → Prop) : Prop :=
  (∀ y71 : Int32, y71 = t2 + t3 → (vp_in t1 62 ∧ ∀ u72 : ST, u72 = sA u 30 (upd (gA u 30) t1.toNatClampNeg y71) → (∀ y73 : Int32, y73 = x4 + 1 → B36 x2 x3 y73 u72)))
def wp_X12_findWeights_p36b (x2 : Int32) (x3 : Int32) (x4 : Int32) (u : ST) (B36 : Int32 → Int32 → Int32 → ST → Prop) (Q : Int32 → ST → Prop) : Prop :=
  ((x2 < x4 → (∀ y85 : Int32, y85 = x2 + (1 : Int32) → (vp_in y85 62 ∧ ∀ y86 : Int32, y86 = gA u 30 y85.toNatClampNeg → Q y86 u))) ∧ (¬ x2 < x4 → (∀ y49 : Int32, y49 = x4 + (1 : Int32) → (vp_in x4 62 ∧ ∀ y56 : Int32, y56 = gA u 30 x4.toNatClampNeg → ((¬ x3 = 0 → (wp_X12_weightOf x4 u (fun y68 u68 => wp_X12_findWeights_p71 x2 x3 x4 y49 y56 y68 u68 B36 Q))) ∧ (x3 = 0 → wp_X12_findWeights_p71 x2 x3 x4 y49 y56 (1 : Int32) u B36 Q))))))
def wp_X12_findWeights_p36 (x2 : Int32) (x3 : Int32) (x4 : Int32) (u : ST) (Q : Int32 → ST → Prop) : Prop := ∃ (I : Int32 → Int32 → Int32 → ST → Prop) (μ : Int32 → Int32 → Int32 → ST → Nat), I x2 x3 x4 u ∧ ∀ (x2 : Int32) (x3 : Int32) (x4 : Int32) (u : ST), I x2 x3 x4 u → wp_X12_findWeights_p36b x2 x3 x4 u (fun yx2 yx3 yx4 yu => I yx2 yx3 yx4 yu ∧ μ yx2 yx3 yx4 yu < μ x2 x3 x4 u) Q
def wp_X12_findWeights_p5b (x1 : Int32) (x2 : Int32) (x3 : Int32) (x4 : Int32) (u : ST) (B5 : Int32 → Int32 → Int32 → Int32 → ST → Prop) (Q : Int32 → ST → Prop) : Prop :=
  ((x2 < x4 → (vp_in x1 62 ∧ ∀ u32 : ST, u32 = sA u 30 (upd (gA u 30) x1.toNatClampNeg (0 : Int32)) → wp_X12_findWeights_p36 x2 x3 x1 u32 Q)) ∧ (¬ x2 < x4 → (wp_X12_weightOf x4 u (fun y15 u15 => (∀ y18 : Int32, y18 = x3 + y15 → (∀ y20 : Int32, y20 = x4 + 1 → B5 x1 x2 y18 y20 u15))))))
def wp_X12_findWeights_p5 (x1 : Int32) (x2 : Int32) (x3 : Int32) (x4 : Int32) (u : ST) (Q : Int32 → ST → Prop) : Prop := ∃ (I : Int32 → Int32 → Int32 → Int32 → ST → Prop) (μ : Int32 → Int32 → Int32 → Int32 → ST → Nat), I x1 x2 x3 x4 u ∧ ∀ (x1 : Int32) (x2 : Int32) (x3 : Int32) (x4 : Int32) (u : ST), I x1 x2 x3 x4 u → wp_X12_findWeights_p5b x1 x2 x3 x4 u (fun yx1 yx2 yx3 yx4 yu => I yx1 yx2 yx3 yx4 yu ∧ μ yx1 yx2 yx3 yx4 yu < μ x1 x2 x3 x4 u) Q
def wp_X12_findWeights (a1 : Int32) (a2 : Int32) (u : ST) (Q : Int32 → ST → Prop) : Prop :=
  wp_X12_findWeights_p5 a1 a2 (0 : Int32) a1 u Q
set_option maxHeartbeats 4000000 in
set_option maxRecDepth 100000 in
theorem c_X12_findWeights (l : Launch) (D : va_G) (h : Nat) (r : Nat → Nat) (cs : Nat → ClassId) (a1 : Int32) (a2 : Int32) (u : ST) (Q : Int32 → ST → Prop) (hw : wp_X12_findWeights a1 a2 u Q) : mCi l yX12_findWeights wsX12_findWeights ({ frames := 4, cells := 0, slots := 0, locals := 93 } : Room) 0 0 D (mT cs) (W12 h r cs) [.ref h, .int a1, .int a2] u Q := by
  unfold mCi
  refine m_enter (QQ := fun A => va_Qi Q (mPos D (mT cs) A (W12 h r cs)) A) (cc := cX12_findWeights) (maxL := 5) (ret := (some .int)) (by decide) rfl (Nat.le_of_ble_eq_true rfl) ?_
  intro p e s m args below meth c A ls S hr hlocks hname hl hI
  have S : CallFix p m c cX12_findWeights 5 s args wsX12_findWeights RX12 := S
  show W p l e ({ frames := 4, cells := 0, slots := 0, locals := 93 } : Room) s m args below meth c s.heap [] 0 0 (MQ below (va_Qi Q (mPos D (mT cs) A (W12 h r cs)) A) args s 0 0 A) (F0 m 0 ls [])
  generalize hZ : MQ below (va_Qi Q (mPos D (mT cs) A (W12 h r cs)) A) args s 0 0 A = Z
  have hin : ∀ w ∈ wsX120, w ∈ wsX12_findWeights := fun _ h => List.mem_cons_of_mem _ (List.mem_append_right _ h)
  have hl : lv_has ls 5 [(0, .ref h), (1, .int a1), (2, .int a2)] := hl
  have b71 : ∀ (B36 : Int32 → Int32 → Int32 → ST → Prop), (∀ (x2 : Int32) (x3 : Int32) (x4 : Int32) (u : ST), B36 x2 x3 x4 u → mGo p l e ({ frames := 4, cells := 0, slots := 0, locals := 93 } : Room) s m args below meth c A Z 5 D (mT cs) (W12 h r cs) 36 [(0, .ref h), (2, .int x2), (3, .int x3), (4, .int x4)] [] u) → ∀ (x2 : Int32) (x3 : Int32) (x4 : Int32) (t1 : Int32) (t2 : Int32) (t3 : Int32) (u : ST), wp_X12_findWeights_p71 x2 x3 x4 t1 t2 t3 u B36 Q → mGo p l e ({ frames := 4, cells := 0, slots := 0, locals := 93 } : Room) s m args below meth c A Z 5 D (mT cs) (W12 h r cs) 71 [(0, .ref h), (2, .int x2), (3, .int x3), (4, .int x4)] [.int t3, .int t2, .int t1, .ref (r 30)] u := by
    intro B36 hB36 x2 x3 x4 t1 t2 t3 u hw H locs ls hI hl
    unfold wp_X12_findWeights_p71 at hw
    refine lv_iadd S.1 S.2.1 dX12_findWeights_71 ?_
    refine lv_topi (fun y71 ey71 => ?_)
    have hw := hw y71 ey71
    obtain ⟨u72, eu72⟩ : ∃ z : ST, z = sA u 30 (upd (gA u 30) t1.toNatClampNeg y71) := ⟨_, rfl⟩
    refine m_iast S hI 17 0 (W12_at17 h r cs u) rfl hw.1 (W12_sA30 h r cs u u72 _ eu72) dX12_findWeights_72 (fun H locs hI => ?_)
    have hw := hw.2 u72 eu72
    obtain ⟨y73, ey73⟩ : ∃ z : Int32, z = x4 + 1 := ⟨_, rfl⟩
    have hw := hw y73 ey73
    refine lv_iinc (v := y73) (lv' := [(4, .int y73), (0, .ref h), (2, .int x2), (3, .int x3)]) S.1 S.2.1 dX12_findWeights_73 hl (k := 3) rfl (by rw [ey73]; rfl) (by decide) rfl (fun ls hl => ?_)
    refine lv_goto (tgt := 36) S.1 S.2.1 dX12_findWeights_76 (by decide) ?_
    exact hB36 x2 x3 y73 u72 hw H locs ls hI (lv_sub hl [1, 2, 3, 0] rfl)
  have b36b : ∀ (B36 : Int32 → Int32 → Int32 → ST → Prop), (∀ (x2 : Int32) (x3 : Int32) (x4 : Int32) (u : ST), B36 x2 x3 x4 u → mGo p l e ({ frames := 4, cells := 0, slots := 0, locals := 93 } : Room) s m args below meth c A Z 5 D (mT cs) (W12 h r cs) 36 [(0, .ref h), (2, .int x2), (3, .int x3), (4, .int x4)] [] u) → ∀ (x2 : Int32) (x3 : Int32) (x4 : Int32) (u : ST), wp_X12_findWeights_p36b x2 x3 x4 u B36 Q → mGo p l e ({ frames := 4, cells := 0, slots := 0, locals := 93 } : Room) s m args below meth c A Z 5 D (mT cs) (W12 h r cs) 36 [(0, .ref h), (2, .int x2), (3, .int x3), (4, .int x4)] [] u := by
    intro B36 hB36 x2 x3 x4 u hw H locs ls hI hl
    unfold wp_X12_findWeights_p36b at hw
    refine lv_iload S.1 S.2.1 dX12_findWeights_36 (lv_at hl 3 rfl) ?_
    refine lv_iload_n S.1 S.2.1 dX12_findWeights_38 rfl (lv_at hl 1 rfl) ?_
    refine lv_icmp_gt (tgt := 79) S.1 S.2.1 dX12_findWeights_39 (by decide) (fun c39 => ?_) (fun c39 => ?_)
    · have hw := hw.1 c39
      refine lv_aload_n S.1 S.2.1 dX12_findWeights_79 rfl (lv_at hl 0 rfl) ?_
      refine m_get S hin hI 0 (W12_at0 h r cs u) rfl 30 (Nat.le_of_ble_eq_true rfl) (List.mem_of_getElem? (i := 1) rfl) rfl (Ff12_at30 r u) dX12_findWeights_80 ?_
      refine lv_iload_n S.1 S.2.1 dX12_findWeights_83 rfl (lv_at hl 1 rfl) ?_
      refine lv_iconst (v := 1) S.1 S.2.1 dX12_findWeights_84 (by decide) ?_
      refine lv_iadd S.1 S.2.1 dX12_findWeights_85 ?_
      refine lv_topi (fun y85 ey85 => ?_)
      have hw := hw y85 ey85
      refine m_iald S hI 17 0 (W12_at17 h r cs u) rfl hw.1 dX12_findWeights_86 ?_
      refine lv_topi (fun y86 ey86 => ?_)
      have hw := hw.2 y86 ey86
      subst hZ
      exact m_iret S hr hlocks hI hw dX12_findWeights_87
    · have hw := hw.2 c39
      refine lv_aload_n S.1 S.2.1 dX12_findWeights_42 rfl (lv_at hl 0 rfl) ?_
      refine m_get S hin hI 0 (W12_at0 h r cs u) rfl 30 (Nat.le_of_ble_eq_true rfl) (List.mem_of_getElem? (i := 1) rfl) rfl (Ff12_at30 r u) dX12_findWeights_43 ?_
      refine lv_iload S.1 S.2.1 dX12_findWeights_46 (lv_at hl 3 rfl) ?_
      refine lv_iconst (v := 1) S.1 S.2.1 dX12_findWeights_48 (by decide) ?_
      refine lv_iadd S.1 S.2.1 dX12_findWeights_49 ?_
      refine lv_topi (fun y49 ey49 => ?_)
      have hw := hw y49 ey49
      refine lv_aload_n S.1 S.2.1 dX12_findWeights_50 rfl (lv_at hl 0 rfl) ?_
      refine m_get S hin hI 0 (W12_at0 h r cs u) rfl 30 (Nat.le_of_ble_eq_true rfl) (List.mem_of_getElem? (i := 1) rfl) rfl (Ff12_at30 r u) dX12_findWeights_51 ?_
      refine lv_iload S.1 S.2.1 dX12_findWeights_54 (lv_at hl 3 rfl) ?_
      refine m_iald S hI 17 0 (W12_at17 h r cs u) rfl hw.1 dX12_findWeights_56 ?_
      refine lv_topi (fun y56 ey56 => ?_)
      have hw := hw.2 y56 ey56
      refine lv_iload_n S.1 S.2.1 dX12_findWeights_57 rfl (lv_at hl 2 rfl) ?_
      refine lv_if_ne (tgt := 65) S.1 S.2.1 dX12_findWeights_58 (by decide) (fun c58 => ?_) (fun c58 => ?_)
      · have hw := hw.1 c58
        refine lv_aload_n S.1 S.2.1 dX12_findWeights_65 rfl (lv_at hl 0 rfl) ?_
        refine lv_iload S.1 S.2.1 dX12_findWeights_66 (lv_at hl 3 rfl) ?_
        refine m_vi (As := [.int x4]) (rest := [.int y56, .int y49, .ref (r 30)]) S (W12_self h r cs) hI rfl (c_X12_weightOf l D h r cs x4 u _ hw) (cwV 1 S.2.2.2.2 gX12_findWeights_X12_weightOf rfl rfl rfl (by decide +kernel) ⟨Nat.le_of_ble_eq_true rfl, Nat.le_of_ble_eq_true rfl⟩) (W12_at0 h r cs u) rfl rfl hl.1 rfl (Nat.le_of_ble_eq_true rfl) dX12_findWeights_68 ⟨Nat.zero_le _, Nat.zero_le _⟩ (fun y68 u68 H locs hw hI => ?_)
        exact b71 B36 hB36 x2 x3 x4 y49 y56 y68 u68 hw H locs ls hI (lv_sub hl [0, 1, 2, 3] rfl)
      · have hw := hw.2 c58
        refine lv_iconst (v := 1) S.1 S.2.1 dX12_findWeights_61 (by decide) ?_
        refine lv_goto (tgt := 71) S.1 S.2.1 dX12_findWeights_62 (by decide) ?_
        exact b71 B36 hB36 x2 x3 x4 y49 y56 (1 : Int32) u hw H locs ls hI (lv_sub hl [0, 1, 2, 3] rfl)
  have b36 : ∀ (x2 : Int32) (x3 : Int32) (x4 : Int32) (u : ST), wp_X12_findWeights_p36 x2 x3 x4 u Q → mGo p l e ({ frames := 4, cells := 0, slots := 0, locals := 93 } : Room) s m args below meth c A Z 5 D (mT cs) (W12 h r cs) 36 [(0, .ref h), (2, .int x2), (3, .int x3), (4, .int x4)] [] u := by
    intro x2 x3 x4 u hw
    obtain ⟨I, μ, h0, hs⟩ := hw
    have key : ∀ (n : Nat) (x2 : Int32) (x3 : Int32) (x4 : Int32) (u : ST), μ x2 x3 x4 u = n → I x2 x3 x4 u → mGo p l e ({ frames := 4, cells := 0, slots := 0, locals := 93 } : Room) s m args below meth c A Z 5 D (mT cs) (W12 h r cs) 36 [(0, .ref h), (2, .int x2), (3, .int x3), (4, .int x4)] [] u := by
      intro n
      induction n using Nat.strongRecOn with
      | ind n ih =>
        intro x2 x3 x4 u hn hi
        exact b36b (fun yx2 yx3 yx4 yu => I yx2 yx3 yx4 yu ∧ μ yx2 yx3 yx4 yu < μ x2 x3 x4 u) (fun yx2 yx3 yx4 yu hb => ih _ (hn ▸ hb.2) yx2 yx3 yx4 yu rfl hb.1) x2 x3 x4 u (hs x2 x3 x4 u hi)
    exact key _ x2 x3 x4 u rfl h0
  have b5b : ∀ (B5 : Int32 → Int32 → Int32 → Int32 → ST → Prop), (∀ (x1 : Int32) (x2 : Int32) (x3 : Int32) (x4 : Int32) (u : ST), B5 x1 x2 x3 x4 u → mGo p l e ({ frames := 4, cells := 0, slots := 0, locals := 93 } : Room) s m args below meth c A Z 5 D (mT cs) (W12 h r cs) 5 [(0, .ref h), (1, .int x1), (2, .int x2), (3, .int x3), (4, .int x4)] [] u) → ∀ (x1 : Int32) (x2 : Int32) (x3 : Int32) (x4 : Int32) (u : ST), wp_X12_findWeights_p5b x1 x2 x3 x4 u B5 Q → mGo p l e ({ frames := 4, cells := 0, slots := 0, locals := 93 } : Room) s m args below meth c A Z 5 D (mT cs) (W12 h r cs) 5 [(0, .ref h), (1, .int x1), (2, .int x2), (3, .int x3), (4, .int x4)] [] u := by
    intro B5 hB5 x1 x2 x3 x4 u hw H locs ls hI hl
    unfold wp_X12_findWeights_p5b at hw
    refine lv_iload S.1 S.2.1 dX12_findWeights_5 (lv_at hl 4 rfl) ?_
    refine lv_iload_n S.1 S.2.1 dX12_findWeights_7 rfl (lv_at hl 2 rfl) ?_
    refine lv_icmp_gt (tgt := 26) S.1 S.2.1 dX12_findWeights_8 (by decide) (fun c8 => ?_) (fun c8 => ?_)
    · have hw := hw.1 c8
      refine lv_aload_n S.1 S.2.1 dX12_findWeights_26 rfl (lv_at hl 0 rfl) ?_
      refine m_get S hin hI 0 (W12_at0 h r cs u) rfl 30 (Nat.le_of_ble_eq_true rfl) (List.mem_of_getElem? (i := 1) rfl) rfl (Ff12_at30 r u) dX12_findWeights_27 ?_
      refine lv_iload_n S.1 S.2.1 dX12_findWeights_30 rfl (lv_at hl 1 rfl) ?_
      refine lv_iconst (v := 0) S.1 S.2.1 dX12_findWeights_31 (by decide) ?_
      obtain ⟨u32, eu32⟩ : ∃ z : ST, z = sA u 30 (upd (gA u 30) x1.toNatClampNeg (0 : Int32)) := ⟨_, rfl⟩
      refine m_iast S hI 17 0 (W12_at17 h r cs u) rfl hw.1 (W12_sA30 h r cs u u32 _ eu32) dX12_findWeights_32 (fun H locs hI => ?_)
      have hw := hw.2 u32 eu32
      refine lv_iload_n S.1 S.2.1 dX12_findWeights_33 rfl (lv_at hl 1 rfl) ?_
      refine lv_istore (lv' := [(4, .int x1), (0, .ref h), (1, .int x1), (2, .int x2), (3, .int x3)]) S.1 S.2.1 dX12_findWeights_34 hl (by decide) rfl (fun ls hl => ?_)
      exact b36 x2 x3 x1 u32 hw H locs ls hI (lv_sub hl [1, 3, 4, 0] rfl)
    · have hw := hw.2 c8
      refine lv_iload_n S.1 S.2.1 dX12_findWeights_11 rfl (lv_at hl 3 rfl) ?_
      refine lv_aload_n S.1 S.2.1 dX12_findWeights_12 rfl (lv_at hl 0 rfl) ?_
      refine lv_iload S.1 S.2.1 dX12_findWeights_13 (lv_at hl 4 rfl) ?_
      refine m_vi (As := [.int x4]) (rest := [.int x3]) S (W12_self h r cs) hI rfl (c_X12_weightOf l D h r cs x4 u _ hw) (cwV 1 S.2.2.2.2 gX12_findWeights_X12_weightOf rfl rfl rfl (by decide +kernel) ⟨Nat.le_of_ble_eq_true rfl, Nat.le_of_ble_eq_true rfl⟩) (W12_at0 h r cs u) rfl rfl hl.1 rfl (Nat.le_of_ble_eq_true rfl) dX12_findWeights_15 ⟨Nat.zero_le _, Nat.zero_le _⟩ (fun y15 u15 H locs hw hI => ?_)
      refine lv_iadd S.1 S.2.1 dX12_findWeights_18 ?_
      refine lv_topi (fun y18 ey18 => ?_)
      have hw := hw y18 ey18
      refine lv_istore_n (lv' := [(3, .int y18), (0, .ref h), (1, .int x1), (2, .int x2), (4, .int x4)]) S.1 S.2.1 dX12_findWeights_19 rfl hl (by decide) rfl (fun ls hl => ?_)
      obtain ⟨y20, ey20⟩ : ∃ z : Int32, z = x4 + 1 := ⟨_, rfl⟩
      have hw := hw y20 ey20
      refine lv_iinc (v := y20) (lv' := [(4, .int y20), (3, .int y18), (0, .ref h), (1, .int x1), (2, .int x2)]) S.1 S.2.1 dX12_findWeights_20 hl (k := 4) rfl (by rw [ey20]; rfl) (by decide) rfl (fun ls hl => ?_)
      refine lv_goto (tgt := 5) S.1 S.2.1 dX12_findWeights_23 (by decide) ?_
      exact hB5 x1 x2 y18 y20 u15 hw H locs ls hI (lv_sub hl [2, 3, 4, 1, 0] rfl)
  have b5 : ∀ (x1 : Int32) (x2 : Int32) (x3 : Int32) (x4 : Int32) (u : ST), wp_X12_findWeights_p5 x1 x2 x3 x4 u Q → mGo p l e ({ frames := 4, cells := 0, slots := 0, locals := 93 } : Room) s m args below meth c A Z 5 D (mT cs) (W12 h r cs) 5 [(0, .ref h), (1, .int x1), (2, .int x2), (3, .int x3), (4, .int x4)] [] u := by
    intro x1 x2 x3 x4 u hw
    obtain ⟨I, μ, h0, hs⟩ := hw
    have key : ∀ (n : Nat) (x1 : Int32) (x2 : Int32) (x3 : Int32) (x4 : Int32) (u : ST), μ x1 x2 x3 x4 u = n → I x1 x2 x3 x4 u → mGo p l e ({ frames := 4, cells := 0, slots := 0, locals := 93 } : Room) s m args below meth c A Z 5 D (mT cs) (W12 h r cs) 5 [(0, .ref h), (1, .int x1), (2, .int x2), (3, .int x3), (4, .int x4)] [] u := by
      intro n
      induction n using Nat.strongRecOn with
      | ind n ih =>
        intro x1 x2 x3 x4 u hn hi
        exact b5b (fun yx1 yx2 yx3 yx4 yu => I yx1 yx2 yx3 yx4 yu ∧ μ yx1 yx2 yx3 yx4 yu < μ x1 x2 x3 x4 u) (fun yx1 yx2 yx3 yx4 yu hb => ih _ (hn ▸ hb.2) yx1 yx2 yx3 yx4 yu rfl hb.1) x1 x2 x3 x4 u (hs x1 x2 x3 x4 u hi)
    exact key _ x1 x2 x3 x4 u rfl h0
  unfold wp_X12_findWeights at hw
  obtain ⟨H, hH⟩ : ∃ z : Heap, z = s.heap := ⟨_, rfl⟩
  obtain ⟨locs, hL⟩ : ∃ z : List Loc, z = [] := ⟨_, rfl⟩
  rw [show W p l e ({ frames := 4, cells := 0, slots := 0, locals := 93 } : Room) s m args below meth c s.heap [] 0 0 Z (F0 m 0 ls []) = W p l e ({ frames := 4, cells := 0, slots := 0, locals := 93 } : Room) s m args below meth c H locs 0 0 Z (F0 m 0 ls []) by rw [hH, hL]]
  replace hI : mI D (mT cs) A s.heap s (W12 h r cs u) H locs := by rw [hH, hL]; exact hI
  refine lv_iconst (v := 0) S.1 S.2.1 dX12_findWeights_0 (by decide) ?_
  refine lv_istore_n (lv' := [(3, .int (0 : Int32)), (0, .ref h), (1, .int a1), (2, .int a2)]) S.1 S.2.1 dX12_findWeights_1 rfl hl (by decide) rfl (fun ls hl => ?_)
  refine lv_iload_n S.1 S.2.1 dX12_findWeights_2 rfl (lv_at hl 2 rfl) ?_
  refine lv_istore (lv' := [(4, .int a1), (3, .int (0 : Int32)), (0, .ref h), (1, .int a1), (2, .int a2)]) S.1 S.2.1 dX12_findWeights_3 hl (by decide) rfl (fun ls hl => ?_)
  exact b5 a1 a2 (0 : Int32) a1 u hw H locs ls hI (lv_sub hl [2, 3, 4, 1, 0] rfl)

def wp_X12_findSum_p102 (t1 : Int32) (t2 : Int32) (u : ST) (Q : ST → Prop) : Prop :=
  (vp_in t1 3721 ∧ ∀ u102 : ST, u102 = sA u 28 (upd (gA u 28) t1.toNatClampNeg t2) → Q u102)
def wp_X12_findSum_p59 (x1 : Int32) (x2 : Int32) (x3 : Int32) (x4 : Int32) (u : ST) (B8 : Int32 → Int32 → Int32 → Int32 → ST → Prop) (Q : ST → Prop) : Prop :=
  (∀ y59 : Int32, y59 = x4 + 1 → B8 x1 x2 x3 y59 u)
def wp_X12_findSum_p8b (x1 : Int32) (x2 : Int32) (x3 : Int32) (x4 : Int32) (u : ST) (B8 : Int32 → Int32 → Int32 → Int32 → ST → Prop) (Q : ST → Prop) : Prop :=
  ((x2 < x4 → (wp_X12_at x1 x2 (fun y71 => ((x3 < (1000000 : Int32) → (∀ y92 : Int32, y92 = x2 + (1 : Int32) → (vp_in y92 62 ∧ ∀ y93 : Int32, y93 = gA u 30 y92.toNatClampNeg → (∀ y94 : Int32, y94 = x3 + y93 → (vp_in x1 62 ∧ ∀ y100 : Int32, y100 = gA u 30 x1.toNatClampNeg → (∀ y101 : Int32, y101 = y94 - y100 → wp_X12_findSum_p102 y71 y101 u Q)))))) ∧ (¬ x3 < (1000000 : Int32) → wp_X12_findSum_p102 y71 (1000000 : Int32) u Q))))) ∧ (¬ x2 < x4 → (∀ y22 : Int32, y22 = x4 - (1 : Int32) → (wp_X12_at x1 y22 (fun y23 => (vp_in y23 3721 ∧ ∀ y26 : Int32, y26 = gA u 29 y23.toNatClampNeg → (wp_X12_at x4 x2 (fun y34 => (vp_in y34 3721 ∧ ∀ y37 : Int32, y37 = gA u 28 y34.toNatClampNeg → (∀ y38 : Int32, y38 = y26 + y37 → ((y38 < x3 → (∀ u56 : ST, u56 = sI u 31 x4 → wp_X12_findSum_p59 x1 x2 y38 x4 u56 B8 Q)) ∧ (¬ y38 < x3 → wp_X12_findSum_p59 x1 x2 x3 x4 u B8 Q))))))))))))
def wp_X12_findSum_p8 (x1 : Int32) (x2 : Int32) (x3 : Int32) (x4 : Int32) (u : ST) (Q : ST → Prop) : Prop := ∃ (I : Int32 → Int32 → Int32 → Int32 → ST → Prop) (μ : Int32 → Int32 → Int32 → Int32 → ST → Nat), I x1 x2 x3 x4 u ∧ ∀ (x1 : Int32) (x2 : Int32) (x3 : Int32) (x4 : Int32) (u : ST), I x1 x2 x3 x4 u → wp_X12_findSum_p8b x1 x2 x3 x4 u (fun yx1 yx2 yx3 yx4 yu => I yx1 yx2 yx3 yx4 yu ∧ μ yx1 yx2 yx3 yx4 yu < μ x1 x2 x3 x4 u) Q
def wp_X12_findSum (a1 : Int32) (a2 : Int32) (u : ST) (Q : ST → Prop) : Prop :=
  (∀ y5 : Int32, y5 = a1 + (1 : Int32) → wp_X12_findSum_p8 a1 a2 (1000000 : Int32) y5 u Q)
set_option maxHeartbeats 4000000 in
set_option maxRecDepth 100000 in
theorem c_X12_findSum (l : Launch) (D : va_G) (h : Nat) (r : Nat → Nat) (cs : Nat → ClassId) (a1 : Int32) (a2 : Int32) (u : ST) (Q : ST → Prop) (hw : wp_X12_findSum a1 a2 u Q) : mCv l yX12_findSum wsX12_findSum ({ frames := 1, cells := 0, slots := 0, locals := 21 } : Room) 0 0 D (mT cs) (W12 h r cs) [.ref h, .int a1, .int a2] u Q := by
  unfold mCv
  refine m_enter (QQ := fun A => va_Qv Q (mPos D (mT cs) A (W12 h r cs)) A) (cc := cX12_findSum) (maxL := 6) (ret := none) (by decide) rfl (Nat.le_of_ble_eq_true rfl) ?_
  intro p e s m args below meth c A ls S hr hlocks hname hl hI
  have S : CallFix p m c cX12_findSum 6 s args wsX12_findSum RX12 := S
  show W p l e ({ frames := 1, cells := 0, slots := 0, locals := 21 } : Room) s m args below meth c s.heap [] 0 0 (MQ below (va_Qv Q (mPos D (mT cs) A (W12 h r cs)) A) args s 0 0 A) (F0 m 0 ls [])
  generalize hZ : MQ below (va_Qv Q (mPos D (mT cs) A (W12 h r cs)) A) args s 0 0 A = Z
  have hin : ∀ w ∈ wsX120, w ∈ wsX12_findSum := fun _ h => List.mem_cons_of_mem _ (List.mem_append_right _ h)
  have hl : lv_has ls 6 [(0, .ref h), (1, .int a1), (2, .int a2)] := hl
  have b102 : ∀ (t1 : Int32) (t2 : Int32) (u : ST), wp_X12_findSum_p102 t1 t2 u Q → mGo p l e ({ frames := 1, cells := 0, slots := 0, locals := 21 } : Room) s m args below meth c A Z 6 D (mT cs) (W12 h r cs) 102 [(0, .ref h)] [.int t2, .int t1, .ref (r 28)] u := by
    intro t1 t2 u hw H locs ls hI hl
    unfold wp_X12_findSum_p102 at hw
    obtain ⟨u102, eu102⟩ : ∃ z : ST, z = sA u 28 (upd (gA u 28) t1.toNatClampNeg t2) := ⟨_, rfl⟩
    refine m_iast S hI 15 0 (W12_at15 h r cs u) rfl hw.1 (W12_sA28 h r cs u u102 _ eu102) dX12_findSum_102 (fun H locs hI => ?_)
    have hw := hw.2 u102 eu102
    subst hZ
    exact m_vret S hr hlocks hI hw dX12_findSum_103
  have b59 : ∀ (B8 : Int32 → Int32 → Int32 → Int32 → ST → Prop), (∀ (x1 : Int32) (x2 : Int32) (x3 : Int32) (x4 : Int32) (u : ST), B8 x1 x2 x3 x4 u → mGo p l e ({ frames := 1, cells := 0, slots := 0, locals := 21 } : Room) s m args below meth c A Z 6 D (mT cs) (W12 h r cs) 8 [(0, .ref h), (1, .int x1), (2, .int x2), (3, .int x3), (4, .int x4)] [] u) → ∀ (x1 : Int32) (x2 : Int32) (x3 : Int32) (x4 : Int32) (u : ST), wp_X12_findSum_p59 x1 x2 x3 x4 u B8 Q → mGo p l e ({ frames := 1, cells := 0, slots := 0, locals := 21 } : Room) s m args below meth c A Z 6 D (mT cs) (W12 h r cs) 59 [(0, .ref h), (1, .int x1), (2, .int x2), (3, .int x3), (4, .int x4)] [] u := by
    intro B8 hB8 x1 x2 x3 x4 u hw H locs ls hI hl
    unfold wp_X12_findSum_p59 at hw
    obtain ⟨y59, ey59⟩ : ∃ z : Int32, z = x4 + 1 := ⟨_, rfl⟩
    have hw := hw y59 ey59
    refine lv_iinc (v := y59) (lv' := [(4, .int y59), (0, .ref h), (1, .int x1), (2, .int x2), (3, .int x3)]) S.1 S.2.1 dX12_findSum_59 hl (k := 4) rfl (by rw [ey59]; rfl) (by decide) rfl (fun ls hl => ?_)
    refine lv_goto (tgt := 8) S.1 S.2.1 dX12_findSum_62 (by decide) ?_
    exact hB8 x1 x2 x3 y59 u hw H locs ls hI (lv_sub hl [1, 2, 3, 4, 0] rfl)
  have b8b : ∀ (B8 : Int32 → Int32 → Int32 → Int32 → ST → Prop), (∀ (x1 : Int32) (x2 : Int32) (x3 : Int32) (x4 : Int32) (u : ST), B8 x1 x2 x3 x4 u → mGo p l e ({ frames := 1, cells := 0, slots := 0, locals := 21 } : Room) s m args below meth c A Z 6 D (mT cs) (W12 h r cs) 8 [(0, .ref h), (1, .int x1), (2, .int x2), (3, .int x3), (4, .int x4)] [] u) → ∀ (x1 : Int32) (x2 : Int32) (x3 : Int32) (x4 : Int32) (u : ST), wp_X12_findSum_p8b x1 x2 x3 x4 u B8 Q → mGo p l e ({ frames := 1, cells := 0, slots := 0, locals := 21 } : Room) s m args below meth c A Z 6 D (mT cs) (W12 h r cs) 8 [(0, .ref h), (1, .int x1), (2, .int x2), (3, .int x3), (4, .int x4)] [] u := by
    intro B8 hB8 x1 x2 x3 x4 u hw H locs ls hI hl
    unfold wp_X12_findSum_p8b at hw
    refine lv_iload S.1 S.2.1 dX12_findSum_8 (lv_at hl 4 rfl) ?_
    refine lv_iload_n S.1 S.2.1 dX12_findSum_10 rfl (lv_at hl 2 rfl) ?_
    refine lv_icmp_gt (tgt := 65) S.1 S.2.1 dX12_findSum_11 (by decide) (fun c11 => ?_) (fun c11 => ?_)
    · have hw := hw.1 c11
      refine lv_aload_n S.1 S.2.1 dX12_findSum_65 rfl (lv_at hl 0 rfl) ?_
      refine m_get S hin hI 0 (W12_at0 h r cs u) rfl 28 (Nat.le_of_ble_eq_true rfl) (List.mem_of_getElem? (i := 3) rfl) rfl (Ff12_at28 r u) dX12_findSum_66 ?_
      refine lv_iload_n S.1 S.2.1 dX12_findSum_69 rfl (lv_at hl 1 rfl) ?_
      refine lv_iload_n S.1 S.2.1 dX12_findSum_70 rfl (lv_at hl 2 rfl) ?_
      refine m_si (As := [.int x1, .int x2]) (rest := [.ref (r 28)]) S hI.2.2.2.1.2.1 (c_X12_at l x1 x2 _ hw) (va_cwS 2 S.2.2.2.2 gX12_findSum_X12_at rfl rfl rfl (by decide +kernel) ⟨Nat.le_of_ble_eq_true rfl, Nat.le_of_ble_eq_true rfl⟩) rfl hl.1 rfl (Nat.le_of_ble_eq_true rfl) dX12_findSum_71 ⟨Nat.zero_le _, Nat.zero_le _⟩ (fun y71 hw => ?_)
      refine lv_iload_n S.1 S.2.1 dX12_findSum_74 rfl (lv_at hl 3 rfl) ?_
      refine lv_ldc S.1 S.2.1 S.2.2.2.1 (S.2.2.2.2 _ (List.mem_of_getElem? (i := 1) rfl)) dX12_findSum_75 ?_
      refine lv_icmp_lt (tgt := 85) S.1 S.2.1 dX12_findSum_77 (by decide) (fun c77 => ?_) (fun c77 => ?_)
      · have hw := hw.1 c77
        refine lv_iload_n S.1 S.2.1 dX12_findSum_85 rfl (lv_at hl 3 rfl) ?_
        refine lv_aload_n S.1 S.2.1 dX12_findSum_86 rfl (lv_at hl 0 rfl) ?_
        refine m_get S hin hI 0 (W12_at0 h r cs u) rfl 30 (Nat.le_of_ble_eq_true rfl) (List.mem_of_getElem? (i := 5) rfl) rfl (Ff12_at30 r u) dX12_findSum_87 ?_
        refine lv_iload_n S.1 S.2.1 dX12_findSum_90 rfl (lv_at hl 2 rfl) ?_
        refine lv_iconst (v := 1) S.1 S.2.1 dX12_findSum_91 (by decide) ?_
        refine lv_iadd S.1 S.2.1 dX12_findSum_92 ?_
        refine lv_topi (fun y92 ey92 => ?_)
        have hw := hw y92 ey92
        refine m_iald S hI 17 0 (W12_at17 h r cs u) rfl hw.1 dX12_findSum_93 ?_
        refine lv_topi (fun y93 ey93 => ?_)
        have hw := hw.2 y93 ey93
        refine lv_iadd S.1 S.2.1 dX12_findSum_94 ?_
        refine lv_topi (fun y94 ey94 => ?_)
        have hw := hw y94 ey94
        refine lv_aload_n S.1 S.2.1 dX12_findSum_95 rfl (lv_at hl 0 rfl) ?_
        refine m_get S hin hI 0 (W12_at0 h r cs u) rfl 30 (Nat.le_of_ble_eq_true rfl) (List.mem_of_getElem? (i := 5) rfl) rfl (Ff12_at30 r u) dX12_findSum_96 ?_
        refine lv_iload_n S.1 S.2.1 dX12_findSum_99 rfl (lv_at hl 1 rfl) ?_
        refine m_iald S hI 17 0 (W12_at17 h r cs u) rfl hw.1 dX12_findSum_100 ?_
        refine lv_topi (fun y100 ey100 => ?_)
        have hw := hw.2 y100 ey100
        refine lv_isub S.1 S.2.1 dX12_findSum_101 ?_
        refine lv_topi (fun y101 ey101 => ?_)
        have hw := hw y101 ey101
        exact b102 y71 y101 u hw H locs ls hI (lv_sub hl [0] rfl)
      · have hw := hw.2 c77
        refine lv_ldc S.1 S.2.1 S.2.2.2.1 (S.2.2.2.2 _ (List.mem_of_getElem? (i := 1) rfl)) dX12_findSum_80 ?_
        refine lv_goto (tgt := 102) S.1 S.2.1 dX12_findSum_82 (by decide) ?_
        exact b102 y71 (1000000 : Int32) u hw H locs ls hI (lv_sub hl [0] rfl)
    · have hw := hw.2 c11
      refine lv_aload_n S.1 S.2.1 dX12_findSum_14 rfl (lv_at hl 0 rfl) ?_
      refine m_get S hin hI 0 (W12_at0 h r cs u) rfl 29 (Nat.le_of_ble_eq_true rfl) (List.mem_of_getElem? (i := 2) rfl) rfl (Ff12_at29 r u) dX12_findSum_15 ?_
      refine lv_iload_n S.1 S.2.1 dX12_findSum_18 rfl (lv_at hl 1 rfl) ?_
      refine lv_iload S.1 S.2.1 dX12_findSum_19 (lv_at hl 4 rfl) ?_
      refine lv_iconst (v := 1) S.1 S.2.1 dX12_findSum_21 (by decide) ?_
      refine lv_isub S.1 S.2.1 dX12_findSum_22 ?_
      refine lv_topi (fun y22 ey22 => ?_)
      have hw := hw y22 ey22
      refine m_si (As := [.int x1, .int y22]) (rest := [.ref (r 29)]) S hI.2.2.2.1.2.1 (c_X12_at l x1 y22 _ hw) (va_cwS 2 S.2.2.2.2 gX12_findSum_X12_at rfl rfl rfl (by decide +kernel) ⟨Nat.le_of_ble_eq_true rfl, Nat.le_of_ble_eq_true rfl⟩) rfl hl.1 rfl (Nat.le_of_ble_eq_true rfl) dX12_findSum_23 ⟨Nat.zero_le _, Nat.zero_le _⟩ (fun y23 hw => ?_)
      refine m_iald S hI 16 0 (W12_at16 h r cs u) rfl hw.1 dX12_findSum_26 ?_
      refine lv_topi (fun y26 ey26 => ?_)
      have hw := hw.2 y26 ey26
      refine lv_aload_n S.1 S.2.1 dX12_findSum_27 rfl (lv_at hl 0 rfl) ?_
      refine m_get S hin hI 0 (W12_at0 h r cs u) rfl 28 (Nat.le_of_ble_eq_true rfl) (List.mem_of_getElem? (i := 3) rfl) rfl (Ff12_at28 r u) dX12_findSum_28 ?_
      refine lv_iload S.1 S.2.1 dX12_findSum_31 (lv_at hl 4 rfl) ?_
      refine lv_iload_n S.1 S.2.1 dX12_findSum_33 rfl (lv_at hl 2 rfl) ?_
      refine m_si (As := [.int x4, .int x2]) (rest := [.ref (r 28), .int y26]) S hI.2.2.2.1.2.1 (c_X12_at l x4 x2 _ hw) (va_cwS 2 S.2.2.2.2 gX12_findSum_X12_at rfl rfl rfl (by decide +kernel) ⟨Nat.le_of_ble_eq_true rfl, Nat.le_of_ble_eq_true rfl⟩) rfl hl.1 rfl (Nat.le_of_ble_eq_true rfl) dX12_findSum_34 ⟨Nat.zero_le _, Nat.zero_le _⟩ (fun y34 hw => ?_)
      refine m_iald S hI 15 0 (W12_at15 h r cs u) rfl hw.1 dX12_findSum_37 ?_
      refine lv_topi (fun y37 ey37 => ?_)
      have hw := hw.2 y37 ey37
      refine lv_iadd S.1 S.2.1 dX12_findSum_38 ?_
      refine lv_topi (fun y38 ey38 => ?_)
      have hw := hw y38 ey38
      refine lv_istore (lv' := [(5, .int y38), (0, .ref h), (1, .int x1), (2, .int x2), (3, .int x3), (4, .int x4)]) S.1 S.2.1 dX12_findSum_39 hl (by decide) rfl (fun ls hl => ?_)
      refine lv_iload S.1 S.2.1 dX12_findSum_41 (lv_at hl 0 rfl) ?_
      refine lv_iload_n S.1 S.2.1 dX12_findSum_43 rfl (lv_at hl 4 rfl) ?_
      refine lv_icmp_lt (tgt := 50) S.1 S.2.1 dX12_findSum_44 (by decide) (fun c44 => ?_) (fun c44 => ?_)
      · have hw := hw.1 c44
        refine lv_iload S.1 S.2.1 dX12_findSum_50 (lv_at hl 0 rfl) ?_
        refine lv_istore_n (lv' := [(3, .int y38), (5, .int y38), (0, .ref h), (1, .int x1), (2, .int x2), (4, .int x4)]) S.1 S.2.1 dX12_findSum_52 rfl hl (by decide) rfl (fun ls hl => ?_)
        refine lv_aload_n S.1 S.2.1 dX12_findSum_53 rfl (lv_at hl 2 rfl) ?_
        refine lv_iload S.1 S.2.1 dX12_findSum_54 (lv_at hl 5 rfl) ?_
        obtain ⟨u56, eu56⟩ : ∃ z : ST, z = sI u 31 x4 := ⟨_, rfl⟩
        have hw := hw u56 eu56
        refine m_put S hin tyX12_ok nmX12 hI 0 (W12_at0 h r cs u) rfl 31 (Nat.le_of_ble_eq_true rfl) (List.mem_of_getElem? (i := 4) rfl) rfl rfl rfl rfl (Nat.le_of_ble_eq_true rfl) (W12_sI31 h r cs u u56 x4 eu56) dX12_findSum_56 (fun H locs hI => ?_)
        exact b59 B8 hB8 x1 x2 y38 x4 u56 hw H locs ls hI (lv_sub hl [2, 3, 4, 0, 5] rfl)
      · have hw := hw.2 c44
        refine lv_goto (tgt := 59) S.1 S.2.1 dX12_findSum_47 (by decide) ?_
        exact b59 B8 hB8 x1 x2 x3 x4 u hw H locs ls hI (lv_sub hl [1, 2, 3, 4, 5] rfl)
  have b8 : ∀ (x1 : Int32) (x2 : Int32) (x3 : Int32) (x4 : Int32) (u : ST), wp_X12_findSum_p8 x1 x2 x3 x4 u Q → mGo p l e ({ frames := 1, cells := 0, slots := 0, locals := 21 } : Room) s m args below meth c A Z 6 D (mT cs) (W12 h r cs) 8 [(0, .ref h), (1, .int x1), (2, .int x2), (3, .int x3), (4, .int x4)] [] u := by
    intro x1 x2 x3 x4 u hw
    obtain ⟨I, μ, h0, hs⟩ := hw
    have key : ∀ (n : Nat) (x1 : Int32) (x2 : Int32) (x3 : Int32) (x4 : Int32) (u : ST), μ x1 x2 x3 x4 u = n → I x1 x2 x3 x4 u → mGo p l e ({ frames := 1, cells := 0, slots := 0, locals := 21 } : Room) s m args below meth c A Z 6 D (mT cs) (W12 h r cs) 8 [(0, .ref h), (1, .int x1), (2, .int x2), (3, .int x3), (4, .int x4)] [] u := by
      intro n
      induction n using Nat.strongRecOn with
      | ind n ih =>
        intro x1 x2 x3 x4 u hn hi
        exact b8b (fun yx1 yx2 yx3 yx4 yu => I yx1 yx2 yx3 yx4 yu ∧ μ yx1 yx2 yx3 yx4 yu < μ x1 x2 x3 x4 u) (fun yx1 yx2 yx3 yx4 yu hb => ih _ (hn ▸ hb.2) yx1 yx2 yx3 yx4 yu rfl hb.1) x1 x2 x3 x4 u (hs x1 x2 x3 x4 u hi)
    exact key _ x1 x2 x3 x4 u rfl h0
  unfold wp_X12_findSum at hw
  obtain ⟨H, hH⟩ : ∃ z : Heap, z = s.heap := ⟨_, rfl⟩
  obtain ⟨locs, hL⟩ : ∃ z : List Loc, z = [] := ⟨_, rfl⟩
  rw [show W p l e ({ frames := 1, cells := 0, slots := 0, locals := 21 } : Room) s m args below meth c s.heap [] 0 0 Z (F0 m 0 ls []) = W p l e ({ frames := 1, cells := 0, slots := 0, locals := 21 } : Room) s m args below meth c H locs 0 0 Z (F0 m 0 ls []) by rw [hH, hL]]
  replace hI : mI D (mT cs) A s.heap s (W12 h r cs u) H locs := by rw [hH, hL]; exact hI
  refine lv_ldc S.1 S.2.1 S.2.2.2.1 (S.2.2.2.2 _ (List.mem_of_getElem? (i := 1) rfl)) dX12_findSum_0 ?_
  refine lv_istore_n (lv' := [(3, .int (1000000 : Int32)), (0, .ref h), (1, .int a1), (2, .int a2)]) S.1 S.2.1 dX12_findSum_2 rfl hl (by decide) rfl (fun ls hl => ?_)
  refine lv_iload_n S.1 S.2.1 dX12_findSum_3 rfl (lv_at hl 2 rfl) ?_
  refine lv_iconst (v := 1) S.1 S.2.1 dX12_findSum_4 (by decide) ?_
  refine lv_iadd S.1 S.2.1 dX12_findSum_5 ?_
  refine lv_topi (fun y5 ey5 => ?_)
  have hw := hw y5 ey5
  refine lv_istore (lv' := [(4, .int y5), (3, .int (1000000 : Int32)), (0, .ref h), (1, .int a1), (2, .int a2)]) S.1 S.2.1 dX12_findSum_6 hl (by decide) rfl (fun ls hl => ?_)
  exact b8 a1 a2 (1000000 : Int32) y5 u hw H locs ls hI (lv_sub hl [2, 3, 4, 1, 0] rfl)

/-! laid by program: X12_meanOf, X12_isPart, X12_common, X12_mean, X12_meanFirst, X12_spot, X12_leastTrodden, X12_trodden -/
def wp_X12_meanOf_p147b (x1 : Int32) (x2 : Int32) (x3 : Int32) (x4 : Int32) (x5 : Int32) (x6 : Int32) (u : ST) (B72 : Int32 → Int32 → Int32 → Int32 → ST → Prop) (B136 : Int32 → Int32 → Int32 → Int32 → Int32 → ST → Prop) (B147 : Int32 → Int32 → Int32 → Int32 → Int32 → Int32 → ST → Prop) (Q : Int32 → ST → Prop) : Prop :=
  (∀ y151 : Int32, y151 = x6 + x5 → ((x2 < y151 → (∀ y173 : Int32, y173 = x5 + 1 → B136 x1 x2 x3 x4 y173 u)) ∧ (¬ x2 < y151 → (∀ y163 : Int32, y163 = x6 + x5 → (wp_X12_findSum x6 y163 u (fun u164 => (∀ y167 : Int32, y167 = x6 + 1 → B147 x1 x2 x3 x4 x5 y167 u164)))))))
def wp_X12_meanOf_p147 (x1 : Int32) (x2 : Int32) (x3 : Int32) (x4 : Int32) (x5 : Int32) (x6 : Int32) (u : ST) (B72 : Int32 → Int32 → Int32 → Int32 → ST → Prop) (B136 : Int32 → Int32 → Int32 → Int32 → Int32 → ST → Prop) (Q : Int32 → ST → Prop) : Prop := ∃ (I : Int32 → Int32 → Int32 → Int32 → Int32 → Int32 → ST → Prop) (μ : Int32 → Int32 → Int32 → Int32 → Int32 → Int32 → ST → Nat), I x1 x2 x3 x4 x5 x6 u ∧ ∀ (x1 : Int32) (x2 : Int32) (x3 : Int32) (x4 : Int32) (x5 : Int32) (x6 : Int32) (u : ST), I x1 x2 x3 x4 x5 x6 u → wp_X12_meanOf_p147b x1 x2 x3 x4 x5 x6 u B72 B136 (fun yx1 yx2 yx3 yx4 yx5 yx6 yu => I yx1 yx2 yx3 yx4 yx5 yx6 yu ∧ μ yx1 yx2 yx3 yx4 yx5 yx6 yu < μ x1 x2 x3 x4 x5 x6 u) Q
def wp_X12_meanOf_p136b (x1 : Int32) (x2 : Int32) (x3 : Int32) (x4 : Int32) (x5 : Int32) (u : ST) (B72 : Int32 → Int32 → Int32 → Int32 → ST → Prop) (B136 : Int32 → Int32 → Int32 → Int32 → Int32 → ST → Prop) (Q : Int32 → ST → Prop) : Prop :=
  (∀ y140 : Int32, y140 = x2 - x1 → ((y140 < x5 → (∀ y179 : Int32, y179 = x4 + 1 → B72 x1 x2 x3 y179 u)) ∧ (¬ y140 < x5 → wp_X12_meanOf_p147 x1 x2 x3 x4 x5 x1 u B72 B136 Q)))
def wp_X12_meanOf_p136 (x1 : Int32) (x2 : Int32) (x3 : Int32) (x4 : Int32) (x5 : Int32) (u : ST) (B72 : Int32 → Int32 → Int32 → Int32 → ST → Prop) (Q : Int32 → ST → Prop) : Prop := ∃ (I : Int32 → Int32 → Int32 → Int32 → Int32 → ST → Prop) (μ : Int32 → Int32 → Int32 → Int32 → Int32 → ST → Nat), I x1 x2 x3 x4 x5 u ∧ ∀ (x1 : Int32) (x2 : Int32) (x3 : Int32) (x4 : Int32) (x5 : Int32) (u : ST), I x1 x2 x3 x4 x5 u → wp_X12_meanOf_p136b x1 x2 x3 x4 x5 u B72 (fun yx1 yx2 yx3 yx4 yx5 yu => I yx1 yx2 yx3 yx4 yx5 yu ∧ μ yx1 yx2 yx3 yx4 yx5 yu < μ x1 x2 x3 x4 x5 u) Q
def wp_X12_meanOf_p91b (x1 : Int32) (x2 : Int32) (x3 : Int32) (x4 : Int32) (x5 : Int32) (x6 : Int32) (u : ST) (B72 : Int32 → Int32 → Int32 → Int32 → ST → Prop) (B81 : Int32 → Int32 → Int32 → Int32 → Int32 → ST → Prop) (B91 : Int32 → Int32 → Int32 → Int32 → Int32 → Int32 → ST → Prop) (Q : Int32 → ST → Prop) : Prop :=
  ((x2 < x6 → (∀ y127 : Int32, y127 = x5 + 1 → B81 x1 x2 x3 x4 y127 u)) ∧ (¬ x2 < x6 → (wp_X12_at x5 x6 (fun y105 => (wp_X12_at x5 x6 (fun y116 => (vp_in y116 3721 ∧ ∀ y119 : Int32, y119 = gA u 28 y116.toNatClampNeg → (vp_in y105 3721 ∧ ∀ u120 : ST, u120 = sA u 29 (upd (gA u 29) y105.toNatClampNeg y119) → (∀ y121 : Int32, y121 = x6 + 1 → B91 x1 x2 x3 x4 x5 y121 u120)))))))))
def wp_X12_meanOf_p91 (x1 : Int32) (x2 : Int32) (x3 : Int32) (x4 : Int32) (x5 : Int32) (x6 : Int32) (u : ST) (B72 : Int32 → Int32 → Int32 → Int32 → ST → Prop) (B81 : Int32 → Int32 → Int32 → Int32 → Int32 → ST → Prop) (Q : Int32 → ST → Prop) : Prop := ∃ (I : Int32 → Int32 → Int32 → Int32 → Int32 → Int32 → ST → Prop) (μ : Int32 → Int32 → Int32 → Int32 → Int32 → Int32 → ST → Nat), I x1 x2 x3 x4 x5 x6 u ∧ ∀ (x1 : Int32) (x2 : Int32) (x3 : Int32) (x4 : Int32) (x5 : Int32) (x6 : Int32) (u : ST), I x1 x2 x3 x4 x5 x6 u → wp_X12_meanOf_p91b x1 x2 x3 x4 x5 x6 u B72 B81 (fun yx1 yx2 yx3 yx4 yx5 yx6 yu => I yx1 yx2 yx3 yx4 yx5 yx6 yu ∧ μ yx1 yx2 yx3 yx4 yx5 yx6 yu < μ x1 x2 x3 x4 x5 x6 u) Q
def wp_X12_meanOf_p81b (x1 : Int32) (x2 : Int32) (x3 : Int32) (x4 : Int32) (x5 : Int32) (u : ST) (B72 : Int32 → Int32 → Int32 → Int32 → ST → Prop) (B81 : Int32 → Int32 → Int32 → Int32 → Int32 → ST → Prop) (Q : Int32 → ST → Prop) : Prop :=
  ((x2 < x5 → wp_X12_meanOf_p136 x1 x2 x3 x4 (1 : Int32) u B72 Q) ∧ (¬ x2 < x5 → wp_X12_meanOf_p91 x1 x2 x3 x4 x5 x5 u B72 B81 Q))
def wp_X12_meanOf_p81 (x1 : Int32) (x2 : Int32) (x3 : Int32) (x4 : Int32) (x5 : Int32) (u : ST) (B72 : Int32 → Int32 → Int32 → Int32 → ST → Prop) (Q : Int32 → ST → Prop) : Prop := ∃ (I : Int32 → Int32 → Int32 → Int32 → Int32 → ST → Prop) (μ : Int32 → Int32 → Int32 → Int32 → Int32 → ST → Nat), I x1 x2 x3 x4 x5 u ∧ ∀ (x1 : Int32) (x2 : Int32) (x3 : Int32) (x4 : Int32) (x5 : Int32) (u : ST), I x1 x2 x3 x4 x5 u → wp_X12_meanOf_p81b x1 x2 x3 x4 x5 u B72 (fun yx1 yx2 yx3 yx4 yx5 yu => I yx1 yx2 yx3 yx4 yx5 yu ∧ μ yx1 yx2 yx3 yx4 yx5 yu < μ x1 x2 x3 x4 x5 u) Q
def wp_X12_meanOf_p72b (x1 : Int32) (x2 : Int32) (x3 : Int32) (x4 : Int32) (u : ST) (B72 : Int32 → Int32 → Int32 → Int32 → ST → Prop) (Q : Int32 → ST → Prop) : Prop :=
  ((x3 < x4 → (wp_X12_at x1 x2 (fun y191 => (vp_in y191 3721 ∧ ∀ y194 : Int32, y194 = gA u 28 y191.toNatClampNeg → Q y194 u)))) ∧ (¬ x3 < x4 → wp_X12_meanOf_p81 x1 x2 x3 x4 x1 u B72 Q))
def wp_X12_meanOf_p72 (x1 : Int32) (x2 : Int32) (x3 : Int32) (x4 : Int32) (u : ST) (Q : Int32 → ST → Prop) : Prop := ∃ (I : Int32 → Int32 → Int32 → Int32 → ST → Prop) (μ : Int32 → Int32 → Int32 → Int32 → ST → Nat), I x1 x2 x3 x4 u ∧ ∀ (x1 : Int32) (x2 : Int32) (x3 : Int32) (x4 : Int32) (u : ST), I x1 x2 x3 x4 u → wp_X12_meanOf_p72b x1 x2 x3 x4 u (fun yx1 yx2 yx3 yx4 yu => I yx1 yx2 yx3 yx4 yu ∧ μ yx1 yx2 yx3 yx4 yu < μ x1 x2 x3 x4 u) Q
def wp_X12_meanOf_p56 (x1 : Int32) (x2 : Int32) (x3 : Int32) (x4 : Int32) (x5 : Int32) (t1 : Int32) (t2 : Int32) (u : ST) (B16 : Int32 → Int32 → Int32 → Int32 → ST → Prop) (B26 : Int32 → Int32 → Int32 → Int32 → Int32 → ST → Prop) (Q : Int32 → ST → Prop) : Prop :=
  (vp_in t1 3721 ∧ ∀ u56 : ST, u56 = sA u 28 (upd (gA u 28) t1.toNatClampNeg t2) → (∀ y57 : Int32, y57 = x5 + 1 → B26 x1 x2 x3 x4 y57 u56))
def wp_X12_meanOf_p26b (x1 : Int32) (x2 : Int32) (x3 : Int32) (x4 : Int32) (x5 : Int32) (u : ST) (B16 : Int32 → Int32 → Int32 → Int32 → ST → Prop) (B26 : Int32 → Int32 → Int32 → Int32 → Int32 → ST → Prop) (Q : Int32 → ST → Prop) : Prop :=
  ((x2 < x5 → (∀ y63 : Int32, y63 = x4 + 1 → B16 x1 x2 x3 y63 u)) ∧ (¬ x2 < x5 → (wp_X12_at x4 x5 (fun y40 => ((¬ x4 = x5 → wp_X12_meanOf_p56 x1 x2 x3 x4 x5 y40 (1000000 : Int32) u B16 B26 Q) ∧ (x4 = x5 → wp_X12_meanOf_p56 x1 x2 x3 x4 x5 y40 (0 : Int32) u B16 B26 Q))))))
def wp_X12_meanOf_p26 (x1 : Int32) (x2 : Int32) (x3 : Int32) (x4 : Int32) (x5 : Int32) (u : ST) (B16 : Int32 → Int32 → Int32 → Int32 → ST → Prop) (Q : Int32 → ST → Prop) : Prop := ∃ (I : Int32 → Int32 → Int32 → Int32 → Int32 → ST → Prop) (μ : Int32 → Int32 → Int32 → Int32 → Int32 → ST → Nat), I x1 x2 x3 x4 x5 u ∧ ∀ (x1 : Int32) (x2 : Int32) (x3 : Int32) (x4 : Int32) (x5 : Int32) (u : ST), I x1 x2 x3 x4 x5 u → wp_X12_meanOf_p26b x1 x2 x3 x4 x5 u B16 (fun yx1 yx2 yx3 yx4 yx5 yu => I yx1 yx2 yx3 yx4 yx5 yu ∧ μ yx1 yx2 yx3 yx4 yx5 yu < μ x1 x2 x3 x4 x5 u) Q
def wp_X12_meanOf_p16b (x1 : Int32) (x2 : Int32) (x3 : Int32) (x4 : Int32) (u : ST) (B16 : Int32 → Int32 → Int32 → Int32 → ST → Prop) (Q : Int32 → ST → Prop) : Prop :=
  ((x2 < x4 → wp_X12_meanOf_p72 x1 x2 x3 (1 : Int32) u Q) ∧ (¬ x2 < x4 → wp_X12_meanOf_p26 x1 x2 x3 x4 x4 u B16 Q))
def wp_X12_meanOf_p16 (x1 : Int32) (x2 : Int32) (x3 : Int32) (x4 : Int32) (u : ST) (Q : Int32 → ST → Prop) : Prop := ∃ (I : Int32 → Int32 → Int32 → Int32 → ST → Prop) (μ : Int32 → Int32 → Int32 → Int32 → ST → Nat), I x1 x2 x3 x4 u ∧ ∀ (x1 : Int32) (x2 : Int32) (x3 : Int32) (x4 : Int32) (u : ST), I x1 x2 x3 x4 u → wp_X12_meanOf_p16b x1 x2 x3 x4 u (fun yx1 yx2 yx3 yx4 yu => I yx1 yx2 yx3 yx4 yu ∧ μ yx1 yx2 yx3 yx4 yu < μ x1 x2 x3 x4 u) Q
def wp_X12_meanOf (a1 : Int32) (a2 : Int32) (a3 : Int32) (u : ST) (Q : Int32 → ST → Prop) : Prop :=
  (wp_X12_findWeights a1 a2 u (fun y3 u3 => (∀ u10 : ST, u10 = sI u3 31 ((-2) : Int32) → wp_X12_meanOf_p16 a1 a2 a3 a1 u10 Q)))
set_option maxHeartbeats 4000000 in
set_option maxRecDepth 100000 in
theorem c_X12_meanOf (l : Launch) (D : va_G) (h : Nat) (r : Nat → Nat) (cs : Nat → ClassId) (a1 : Int32) (a2 : Int32) (a3 : Int32) (u : ST) (Q : Int32 → ST → Prop) (hw : wp_X12_meanOf a1 a2 a3 u Q) : mCi l yX12_meanOf wsX12_meanOf ({ frames := 5, cells := 0, slots := 0, locals := 117 } : Room) 0 0 D (mT cs) (W12 h r cs) [.ref h, .int a1, .int a2, .int a3] u Q := by
  unfold mCi
  refine m_enter (QQ := fun A => va_Qi Q (mPos D (mT cs) A (W12 h r cs)) A) (cc := cX12_meanOf) (maxL := 7) (ret := (some .int)) (by decide) rfl (Nat.le_of_ble_eq_true rfl) ?_
  intro p e s m args below meth c A ls S hr hlocks hname hl hI
  have S : CallFix p m c cX12_meanOf 7 s args wsX12_meanOf RX12 := S
  show W p l e ({ frames := 5, cells := 0, slots := 0, locals := 117 } : Room) s m args below meth c s.heap [] 0 0 (MQ below (va_Qi Q (mPos D (mT cs) A (W12 h r cs)) A) args s 0 0 A) (F0 m 0 ls [])
  generalize hZ : MQ below (va_Qi Q (mPos D (mT cs) A (W12 h r cs)) A) args s 0 0 A = Z
  have hin : ∀ w ∈ wsX120, w ∈ wsX12_meanOf := fun _ h => List.mem_cons_of_mem _ (List.mem_append_right _ h)
  have hl : lv_has ls 7 [(0, .ref h), (1, .int a1), (2, .int a2), (3, .int a3)] := hl
  have b147b : ∀ (B72 : Int32 → Int32 → Int32 → Int32 → ST → Prop), (∀ (x1 : Int32) (x2 : Int32) (x3 : Int32) (x4 : Int32) (u : ST), B72 x1 x2 x3 x4 u → mGo p l e ({ frames := 5, cells := 0, slots := 0, locals := 117 } : Room) s m args below meth c A Z 7 D (mT cs) (W12 h r cs) 72 [(0, .ref h), (1, .int x1), (2, .int x2), (3, .int x3), (4, .int x4)] [] u) → ∀ (B136 : Int32 → Int32 → Int32 → Int32 → Int32 → ST → Prop), (∀ (x1 : Int32) (x2 : Int32) (x3 : Int32) (x4 : Int32) (x5 : Int32) (u : ST), B136 x1 x2 x3 x4 x5 u → mGo p l e ({ frames := 5, cells := 0, slots := 0, locals := 117 } : Room) s m args below meth c A Z 7 D (mT cs) (W12 h r cs) 136 [(0, .ref h), (1, .int x1), (2, .int x2), (3, .int x3), (4, .int x4), (5, .int x5)] [] u) → ∀ (B147 : Int32 → Int32 → Int32 → Int32 → Int32 → Int32 → ST → Prop), (∀ (x1 : Int32) (x2 : Int32) (x3 : Int32) (x4 : Int32) (x5 : Int32) (x6 : Int32) (u : ST), B147 x1 x2 x3 x4 x5 x6 u → mGo p l e ({ frames := 5, cells := 0, slots := 0, locals := 117 } : Room) s m args below meth c A Z 7 D (mT cs) (W12 h r cs) 147 [(0, .ref h), (1, .int x1), (2, .int x2), (3, .int x3), (4, .int x4), (5, .int x5), (6, .int x6)] [] u) → ∀ (x1 : Int32) (x2 : Int32) (x3 : Int32) (x4 : Int32) (x5 : Int32) (x6 : Int32) (u : ST), wp_X12_meanOf_p147b x1 x2 x3 x4 x5 x6 u B72 B136 B147 Q → mGo p l e ({ frames := 5, cells := 0, slots := 0, locals := 117 } : Room) s m args below meth c A Z 7 D (mT cs) (W12 h r cs) 147 [(0, .ref h), (1, .int x1), (2, .int x2), (3, .int x3), (4, .int x4), (5, .int x5), (6, .int x6)] [] u := by
    intro B72 hB72 B136 hB136 B147 hB147 x1 x2 x3 x4 x5 x6 u hw H locs ls hI hl
    unfold wp_X12_meanOf_p147b at hw
    refine lv_iload S.1 S.2.1 dX12_meanOf_147 (lv_at hl 6 rfl) ?_
    refine lv_iload S.1 S.2.1 dX12_meanOf_149 (lv_at hl 5 rfl) ?_
    refine lv_iadd S.1 S.2.1 dX12_meanOf_151 ?_
    refine lv_topi (fun y151 ey151 => ?_)
    have hw := hw y151 ey151
    refine lv_iload_n S.1 S.2.1 dX12_meanOf_152 rfl (lv_at hl 2 rfl) ?_
    refine lv_icmp_gt (tgt := 173) S.1 S.2.1 dX12_meanOf_153 (by decide) (fun c153 => ?_) (fun c153 => ?_)
    · have hw := hw.1 c153
      obtain ⟨y173, ey173⟩ : ∃ z : Int32, z = x5 + 1 := ⟨_, rfl⟩
      have hw := hw y173 ey173
      refine lv_iinc (v := y173) (lv' := [(5, .int y173), (0, .ref h), (1, .int x1), (2, .int x2), (3, .int x3), (4, .int x4), (6, .int x6)]) S.1 S.2.1 dX12_meanOf_173 hl (k := 5) rfl (by rw [ey173]; rfl) (by decide) rfl (fun ls hl => ?_)
      refine lv_goto (tgt := 136) S.1 S.2.1 dX12_meanOf_176 (by decide) ?_
      exact hB136 x1 x2 x3 x4 y173 u hw H locs ls hI (lv_sub hl [1, 2, 3, 4, 5, 0] rfl)
    · have hw := hw.2 c153
      refine lv_aload_n S.1 S.2.1 dX12_meanOf_156 rfl (lv_at hl 0 rfl) ?_
      refine lv_iload S.1 S.2.1 dX12_meanOf_157 (lv_at hl 6 rfl) ?_
      refine lv_iload S.1 S.2.1 dX12_meanOf_159 (lv_at hl 6 rfl) ?_
      refine lv_iload S.1 S.2.1 dX12_meanOf_161 (lv_at hl 5 rfl) ?_
      refine lv_iadd S.1 S.2.1 dX12_meanOf_163 ?_
      refine lv_topi (fun y163 ey163 => ?_)
      have hw := hw y163 ey163
      refine m_vv (As := [.int x6, .int y163]) (rest := []) S (W12_self h r cs) hI rfl (c_X12_findSum l D h r cs x6 y163 u _ hw) (cwV 2 S.2.2.2.2 gX12_meanOf_X12_findSum rfl rfl rfl (by decide +kernel) ⟨Nat.le_of_ble_eq_true rfl, Nat.le_of_ble_eq_true rfl⟩) (W12_at0 h r cs u) rfl rfl hl.1 rfl (Nat.le_of_ble_eq_true rfl) dX12_meanOf_164 ⟨Nat.zero_le _, Nat.zero_le _⟩ (fun u164 H locs hw hI => ?_)
      obtain ⟨y167, ey167⟩ : ∃ z : Int32, z = x6 + 1 := ⟨_, rfl⟩
      have hw := hw y167 ey167
      refine lv_iinc (v := y167) (lv' := [(6, .int y167), (0, .ref h), (1, .int x1), (2, .int x2), (3, .int x3), (4, .int x4), (5, .int x5)]) S.1 S.2.1 dX12_meanOf_167 hl (k := 6) rfl (by rw [ey167]; rfl) (by decide) rfl (fun ls hl => ?_)
      refine lv_goto (tgt := 147) S.1 S.2.1 dX12_meanOf_170 (by decide) ?_
      exact hB147 x1 x2 x3 x4 x5 y167 u164 hw H locs ls hI (lv_sub hl [1, 2, 3, 4, 5, 6, 0] rfl)
  have b147 : ∀ (B72 : Int32 → Int32 → Int32 → Int32 → ST → Prop), (∀ (x1 : Int32) (x2 : Int32) (x3 : Int32) (x4 : Int32) (u : ST), B72 x1 x2 x3 x4 u → mGo p l e ({ frames := 5, cells := 0, slots := 0, locals := 117 } : Room) s m args below meth c A Z 7 D (mT cs) (W12 h r cs) 72 [(0, .ref h), (1, .int x1), (2, .int x2), (3, .int x3), (4, .int x4)] [] u) → ∀ (B136 : Int32 → Int32 → Int32 → Int32 → Int32 → ST → Prop), (∀ (x1 : Int32) (x2 : Int32) (x3 : Int32) (x4 : Int32) (x5 : Int32) (u : ST), B136 x1 x2 x3 x4 x5 u → mGo p l e ({ frames := 5, cells := 0, slots := 0, locals := 117 } : Room) s m args below meth c A Z 7 D (mT cs) (W12 h r cs) 136 [(0, .ref h), (1, .int x1), (2, .int x2), (3, .int x3), (4, .int x4), (5, .int x5)] [] u) → ∀ (x1 : Int32) (x2 : Int32) (x3 : Int32) (x4 : Int32) (x5 : Int32) (x6 : Int32) (u : ST), wp_X12_meanOf_p147 x1 x2 x3 x4 x5 x6 u B72 B136 Q → mGo p l e ({ frames := 5, cells := 0, slots := 0, locals := 117 } : Room) s m args below meth c A Z 7 D (mT cs) (W12 h r cs) 147 [(0, .ref h), (1, .int x1), (2, .int x2), (3, .int x3), (4, .int x4), (5, .int x5), (6, .int x6)] [] u := by
    intro B72 hB72 B136 hB136 x1 x2 x3 x4 x5 x6 u hw
    obtain ⟨I, μ, h0, hs⟩ := hw
    have key : ∀ (n : Nat) (x1 : Int32) (x2 : Int32) (x3 : Int32) (x4 : Int32) (x5 : Int32) (x6 : Int32) (u : ST), μ x1 x2 x3 x4 x5 x6 u = n → I x1 x2 x3 x4 x5 x6 u → mGo p l e ({ frames := 5, cells := 0, slots := 0, locals := 117 } : Room) s m args below meth c A Z 7 D (mT cs) (W12 h r cs) 147 [(0, .ref h), (1, .int x1), (2, .int x2), (3, .int x3), (4, .int x4), (5, .int x5), (6, .int x6)] [] u := by
      intro n
      induction n using Nat.strongRecOn with
      | ind n ih =>
        intro x1 x2 x3 x4 x5 x6 u hn hi
        exact b147b B72 hB72 B136 hB136 (fun yx1 yx2 yx3 yx4 yx5 yx6 yu => I yx1 yx2 yx3 yx4 yx5 yx6 yu ∧ μ yx1 yx2 yx3 yx4 yx5 yx6 yu < μ x1 x2 x3 x4 x5 x6 u) (fun yx1 yx2 yx3 yx4 yx5 yx6 yu hb => ih _ (hn ▸ hb.2) yx1 yx2 yx3 yx4 yx5 yx6 yu rfl hb.1) x1 x2 x3 x4 x5 x6 u (hs x1 x2 x3 x4 x5 x6 u hi)
    exact key _ x1 x2 x3 x4 x5 x6 u rfl h0
  have b136b : ∀ (B72 : Int32 → Int32 → Int32 → Int32 → ST → Prop), (∀ (x1 : Int32) (x2 : Int32) (x3 : Int32) (x4 : Int32) (u : ST), B72 x1 x2 x3 x4 u → mGo p l e ({ frames := 5, cells := 0, slots := 0, locals := 117 } : Room) s m args below meth c A Z 7 D (mT cs) (W12 h r cs) 72 [(0, .ref h), (1, .int x1), (2, .int x2), (3, .int x3), (4, .int x4)] [] u) → ∀ (B136 : Int32 → Int32 → Int32 → Int32 → Int32 → ST → Prop), (∀ (x1 : Int32) (x2 : Int32) (x3 : Int32) (x4 : Int32) (x5 : Int32) (u : ST), B136 x1 x2 x3 x4 x5 u → mGo p l e ({ frames := 5, cells := 0, slots := 0, locals := 117 } : Room) s m args below meth c A Z 7 D (mT cs) (W12 h r cs) 136 [(0, .ref h), (1, .int x1), (2, .int x2), (3, .int x3), (4, .int x4), (5, .int x5)] [] u) → ∀ (x1 : Int32) (x2 : Int32) (x3 : Int32) (x4 : Int32) (x5 : Int32) (u : ST), wp_X12_meanOf_p136b x1 x2 x3 x4 x5 u B72 B136 Q → mGo p l e ({ frames := 5, cells := 0, slots := 0, locals := 117 } : Room) s m args below meth c A Z 7 D (mT cs) (W12 h r cs) 136 [(0, .ref h), (1, .int x1), (2, .int x2), (3, .int x3), (4, .int x4), (5, .int x5)] [] u := by
    intro B72 hB72 B136 hB136 x1 x2 x3 x4 x5 u hw H locs ls hI hl
    unfold wp_X12_meanOf_p136b at hw
    refine lv_iload S.1 S.2.1 dX12_meanOf_136 (lv_at hl 5 rfl) ?_
    refine lv_iload_n S.1 S.2.1 dX12_meanOf_138 rfl (lv_at hl 2 rfl) ?_
    refine lv_iload_n S.1 S.2.1 dX12_meanOf_139 rfl (lv_at hl 1 rfl) ?_
    refine lv_isub S.1 S.2.1 dX12_meanOf_140 ?_
    refine lv_topi (fun y140 ey140 => ?_)
    have hw := hw y140 ey140
    refine lv_icmp_gt (tgt := 179) S.1 S.2.1 dX12_meanOf_141 (by decide) (fun c141 => ?_) (fun c141 => ?_)
    · have hw := hw.1 c141
      obtain ⟨y179, ey179⟩ : ∃ z : Int32, z = x4 + 1 := ⟨_, rfl⟩
      have hw := hw y179 ey179
      refine lv_iinc (v := y179) (lv' := [(4, .int y179), (0, .ref h), (1, .int x1), (2, .int x2), (3, .int x3), (5, .int x5)]) S.1 S.2.1 dX12_meanOf_179 hl (k := 4) rfl (by rw [ey179]; rfl) (by decide) rfl (fun ls hl => ?_)
      refine lv_goto (tgt := 72) S.1 S.2.1 dX12_meanOf_182 (by decide) ?_
      exact hB72 x1 x2 x3 y179 u hw H locs ls hI (lv_sub hl [1, 2, 3, 4, 0] rfl)
    · have hw := hw.2 c141
      refine lv_iload_n S.1 S.2.1 dX12_meanOf_144 rfl (lv_at hl 1 rfl) ?_
      refine lv_istore (lv' := [(6, .int x1), (0, .ref h), (1, .int x1), (2, .int x2), (3, .int x3), (4, .int x4), (5, .int x5)]) S.1 S.2.1 dX12_meanOf_145 hl (by decide) rfl (fun ls hl => ?_)
      exact b147 B72 hB72 B136 hB136 x1 x2 x3 x4 x5 x1 u hw H locs ls hI (lv_sub hl [1, 2, 3, 4, 5, 6, 0] rfl)
  have b136 : ∀ (B72 : Int32 → Int32 → Int32 → Int32 → ST → Prop), (∀ (x1 : Int32) (x2 : Int32) (x3 : Int32) (x4 : Int32) (u : ST), B72 x1 x2 x3 x4 u → mGo p l e ({ frames := 5, cells := 0, slots := 0, locals := 117 } : Room) s m args below meth c A Z 7 D (mT cs) (W12 h r cs) 72 [(0, .ref h), (1, .int x1), (2, .int x2), (3, .int x3), (4, .int x4)] [] u) → ∀ (x1 : Int32) (x2 : Int32) (x3 : Int32) (x4 : Int32) (x5 : Int32) (u : ST), wp_X12_meanOf_p136 x1 x2 x3 x4 x5 u B72 Q → mGo p l e ({ frames := 5, cells := 0, slots := 0, locals := 117 } : Room) s m args below meth c A Z 7 D (mT cs) (W12 h r cs) 136 [(0, .ref h), (1, .int x1), (2, .int x2), (3, .int x3), (4, .int x4), (5, .int x5)] [] u := by
    intro B72 hB72 x1 x2 x3 x4 x5 u hw
    obtain ⟨I, μ, h0, hs⟩ := hw
    have key : ∀ (n : Nat) (x1 : Int32) (x2 : Int32) (x3 : Int32) (x4 : Int32) (x5 : Int32) (u : ST), μ x1 x2 x3 x4 x5 u = n → I x1 x2 x3 x4 x5 u → mGo p l e ({ frames := 5, cells := 0, slots := 0, locals := 117 } : Room) s m args below meth c A Z 7 D (mT cs) (W12 h r cs) 136 [(0, .ref h), (1, .int x1), (2, .int x2), (3, .int x3), (4, .int x4), (5, .int x5)] [] u := by
      intro n
      induction n using Nat.strongRecOn with
      | ind n ih =>
        intro x1 x2 x3 x4 x5 u hn hi
        exact b136b B72 hB72 (fun yx1 yx2 yx3 yx4 yx5 yu => I yx1 yx2 yx3 yx4 yx5 yu ∧ μ yx1 yx2 yx3 yx4 yx5 yu < μ x1 x2 x3 x4 x5 u) (fun yx1 yx2 yx3 yx4 yx5 yu hb => ih _ (hn ▸ hb.2) yx1 yx2 yx3 yx4 yx5 yu rfl hb.1) x1 x2 x3 x4 x5 u (hs x1 x2 x3 x4 x5 u hi)
    exact key _ x1 x2 x3 x4 x5 u rfl h0
  have b91b : ∀ (B72 : Int32 → Int32 → Int32 → Int32 → ST → Prop), (∀ (x1 : Int32) (x2 : Int32) (x3 : Int32) (x4 : Int32) (u : ST), B72 x1 x2 x3 x4 u → mGo p l e ({ frames := 5, cells := 0, slots := 0, locals := 117 } : Room) s m args below meth c A Z 7 D (mT cs) (W12 h r cs) 72 [(0, .ref h), (1, .int x1), (2, .int x2), (3, .int x3), (4, .int x4)] [] u) → ∀ (B81 : Int32 → Int32 → Int32 → Int32 → Int32 → ST → Prop), (∀ (x1 : Int32) (x2 : Int32) (x3 : Int32) (x4 : Int32) (x5 : Int32) (u : ST), B81 x1 x2 x3 x4 x5 u → mGo p l e ({ frames := 5, cells := 0, slots := 0, locals := 117 } : Room) s m args below meth c A Z 7 D (mT cs) (W12 h r cs) 81 [(0, .ref h), (1, .int x1), (2, .int x2), (3, .int x3), (4, .int x4), (5, .int x5)] [] u) → ∀ (B91 : Int32 → Int32 → Int32 → Int32 → Int32 → Int32 → ST → Prop), (∀ (x1 : Int32) (x2 : Int32) (x3 : Int32) (x4 : Int32) (x5 : Int32) (x6 : Int32) (u : ST), B91 x1 x2 x3 x4 x5 x6 u → mGo p l e ({ frames := 5, cells := 0, slots := 0, locals := 117 } : Room) s m args below meth c A Z 7 D (mT cs) (W12 h r cs) 91 [(0, .ref h), (1, .int x1), (2, .int x2), (3, .int x3), (4, .int x4), (5, .int x5), (6, .int x6)] [] u) → ∀ (x1 : Int32) (x2 : Int32) (x3 : Int32) (x4 : Int32) (x5 : Int32) (x6 : Int32) (u : ST), wp_X12_meanOf_p91b x1 x2 x3 x4 x5 x6 u B72 B81 B91 Q → mGo p l e ({ frames := 5, cells := 0, slots := 0, locals := 117 } : Room) s m args below meth c A Z 7 D (mT cs) (W12 h r cs) 91 [(0, .ref h), (1, .int x1), (2, .int x2), (3, .int x3), (4, .int x4), (5, .int x5), (6, .int x6)] [] u := by
    intro B72 hB72 B81 hB81 B91 hB91 x1 x2 x3 x4 x5 x6 u hw H locs ls hI hl
    unfold wp_X12_meanOf_p91b at hw
    refine lv_iload S.1 S.2.1 dX12_meanOf_91 (lv_at hl 6 rfl) ?_
    refine lv_iload_n S.1 S.2.1 dX12_meanOf_93 rfl (lv_at hl 2 rfl) ?_
    refine lv_icmp_gt (tgt := 127) S.1 S.2.1 dX12_meanOf_94 (by decide) (fun c94 => ?_) (fun c94 => ?_)
    · have hw := hw.1 c94
      obtain ⟨y127, ey127⟩ : ∃ z : Int32, z = x5 + 1 := ⟨_, rfl⟩
      have hw := hw y127 ey127
      refine lv_iinc (v := y127) (lv' := [(5, .int y127), (0, .ref h), (1, .int x1), (2, .int x2), (3, .int x3), (4, .int x4), (6, .int x6)]) S.1 S.2.1 dX12_meanOf_127 hl (k := 5) rfl (by rw [ey127]; rfl) (by decide) rfl (fun ls hl => ?_)
      refine lv_goto (tgt := 81) S.1 S.2.1 dX12_meanOf_130 (by decide) ?_
      exact hB81 x1 x2 x3 x4 y127 u hw H locs ls hI (lv_sub hl [1, 2, 3, 4, 5, 0] rfl)
    · have hw := hw.2 c94
      refine lv_aload_n S.1 S.2.1 dX12_meanOf_97 rfl (lv_at hl 0 rfl) ?_
      refine m_get S hin hI 0 (W12_at0 h r cs u) rfl 29 (Nat.le_of_ble_eq_true rfl) (List.mem_of_getElem? (i := 4) rfl) rfl (Ff12_at29 r u) dX12_meanOf_98 ?_
      refine lv_iload S.1 S.2.1 dX12_meanOf_101 (lv_at hl 5 rfl) ?_
      refine lv_iload S.1 S.2.1 dX12_meanOf_103 (lv_at hl 6 rfl) ?_
      refine m_si (As := [.int x5, .int x6]) (rest := [.ref (r 29)]) S hI.2.2.2.1.2.1 (c_X12_at l x5 x6 _ hw) (va_cwS 2 S.2.2.2.2 gX12_meanOf_X12_at rfl rfl rfl (by decide +kernel) ⟨Nat.le_of_ble_eq_true rfl, Nat.le_of_ble_eq_true rfl⟩) rfl hl.1 rfl (Nat.le_of_ble_eq_true rfl) dX12_meanOf_105 ⟨Nat.zero_le _, Nat.zero_le _⟩ (fun y105 hw => ?_)
      refine lv_aload_n S.1 S.2.1 dX12_meanOf_108 rfl (lv_at hl 0 rfl) ?_
      refine m_get S hin hI 0 (W12_at0 h r cs u) rfl 28 (Nat.le_of_ble_eq_true rfl) (List.mem_of_getElem? (i := 2) rfl) rfl (Ff12_at28 r u) dX12_meanOf_109 ?_
      refine lv_iload S.1 S.2.1 dX12_meanOf_112 (lv_at hl 5 rfl) ?_
      refine lv_iload S.1 S.2.1 dX12_meanOf_114 (lv_at hl 6 rfl) ?_
      refine m_si (As := [.int x5, .int x6]) (rest := [.ref (r 28), .int y105, .ref (r 29)]) S hI.2.2.2.1.2.1 (c_X12_at l x5 x6 _ hw) (va_cwS 2 S.2.2.2.2 gX12_meanOf_X12_at rfl rfl rfl (by decide +kernel) ⟨Nat.le_of_ble_eq_true rfl, Nat.le_of_ble_eq_true rfl⟩) rfl hl.1 rfl (Nat.le_of_ble_eq_true rfl) dX12_meanOf_116 ⟨Nat.zero_le _, Nat.zero_le _⟩ (fun y116 hw => ?_)
      refine m_iald S hI 15 0 (W12_at15 h r cs u) rfl hw.1 dX12_meanOf_119 ?_
      refine lv_topi (fun y119 ey119 => ?_)
      have hw := hw.2 y119 ey119
      obtain ⟨u120, eu120⟩ : ∃ z : ST, z = sA u 29 (upd (gA u 29) y105.toNatClampNeg y119) := ⟨_, rfl⟩
      refine m_iast S hI 16 0 (W12_at16 h r cs u) rfl hw.1 (W12_sA29 h r cs u u120 _ eu120) dX12_meanOf_120 (fun H locs hI => ?_)
      have hw := hw.2 u120 eu120
      obtain ⟨y121, ey121⟩ : ∃ z : Int32, z = x6 + 1 := ⟨_, rfl⟩
      have hw := hw y121 ey121
      refine lv_iinc (v := y121) (lv' := [(6, .int y121), (0, .ref h), (1, .int x1), (2, .int x2), (3, .int x3), (4, .int x4), (5, .int x5)]) S.1 S.2.1 dX12_meanOf_121 hl (k := 6) rfl (by rw [ey121]; rfl) (by decide) rfl (fun ls hl => ?_)
      refine lv_goto (tgt := 91) S.1 S.2.1 dX12_meanOf_124 (by decide) ?_
      exact hB91 x1 x2 x3 x4 x5 y121 u120 hw H locs ls hI (lv_sub hl [1, 2, 3, 4, 5, 6, 0] rfl)
  have b91 : ∀ (B72 : Int32 → Int32 → Int32 → Int32 → ST → Prop), (∀ (x1 : Int32) (x2 : Int32) (x3 : Int32) (x4 : Int32) (u : ST), B72 x1 x2 x3 x4 u → mGo p l e ({ frames := 5, cells := 0, slots := 0, locals := 117 } : Room) s m args below meth c A Z 7 D (mT cs) (W12 h r cs) 72 [(0, .ref h), (1, .int x1), (2, .int x2), (3, .int x3), (4, .int x4)] [] u) → ∀ (B81 : Int32 → Int32 → Int32 → Int32 → Int32 → ST → Prop), (∀ (x1 : Int32) (x2 : Int32) (x3 : Int32) (x4 : Int32) (x5 : Int32) (u : ST), B81 x1 x2 x3 x4 x5 u → mGo p l e ({ frames := 5, cells := 0, slots := 0, locals := 117 } : Room) s m args below meth c A Z 7 D (mT cs) (W12 h r cs) 81 [(0, .ref h), (1, .int x1), (2, .int x2), (3, .int x3), (4, .int x4), (5, .int x5)] [] u) → ∀ (x1 : Int32) (x2 : Int32) (x3 : Int32) (x4 : Int32) (x5 : Int32) (x6 : Int32) (u : ST), wp_X12_meanOf_p91 x1 x2 x3 x4 x5 x6 u B72 B81 Q → mGo p l e ({ frames := 5, cells := 0, slots := 0, locals := 117 } : Room) s m args below meth c A Z 7 D (mT cs) (W12 h r cs) 91 [(0, .ref h), (1, .int x1), (2, .int x2), (3, .int x3), (4, .int x4), (5, .int x5), (6, .int x6)] [] u := by
    intro B72 hB72 B81 hB81 x1 x2 x3 x4 x5 x6 u hw
    obtain ⟨I, μ, h0, hs⟩ := hw
    have key : ∀ (n : Nat) (x1 : Int32) (x2 : Int32) (x3 : Int32) (x4 : Int32) (x5 : Int32) (x6 : Int32) (u : ST), μ x1 x2 x3 x4 x5 x6 u = n → I x1 x2 x3 x4 x5 x6 u → mGo p l e ({ frames := 5, cells := 0, slots := 0, locals := 117 } : Room) s m args below meth c A Z 7 D (mT cs) (W12 h r cs) 91 [(0, .ref h), (1, .int x1), (2, .int x2), (3, .int x3), (4, .int x4), (5, .int x5), (6, .int x6)] [] u := by
      intro n
      induction n using Nat.strongRecOn with
      | ind n ih =>
        intro x1 x2 x3 x4 x5 x6 u hn hi
        exact b91b B72 hB72 B81 hB81 (fun yx1 yx2 yx3 yx4 yx5 yx6 yu => I yx1 yx2 yx3 yx4 yx5 yx6 yu ∧ μ yx1 yx2 yx3 yx4 yx5 yx6 yu < μ x1 x2 x3 x4 x5 x6 u) (fun yx1 yx2 yx3 yx4 yx5 yx6 yu hb => ih _ (hn ▸ hb.2) yx1 yx2 yx3 yx4 yx5 yx6 yu rfl hb.1) x1 x2 x3 x4 x5 x6 u (hs x1 x2 x3 x4 x5 x6 u hi)
    exact key _ x1 x2 x3 x4 x5 x6 u rfl h0
  have b81b : ∀ (B72 : Int32 → Int32 → Int32 → Int32 → ST → Prop), (∀ (x1 : Int32) (x2 : Int32) (x3 : Int32) (x4 : Int32) (u : ST), B72 x1 x2 x3 x4 u → mGo p l e ({ frames := 5, cells := 0, slots := 0, locals := 117 } : Room) s m args below meth c A Z 7 D (mT cs) (W12 h r cs) 72 [(0, .ref h), (1, .int x1), (2, .int x2), (3, .int x3), (4, .int x4)] [] u) → ∀ (B81 : Int32 → Int32 → Int32 → Int32 → Int32 → ST → Prop), (∀ (x1 : Int32) (x2 : Int32) (x3 : Int32) (x4 : Int32) (x5 : Int32) (u : ST), B81 x1 x2 x3 x4 x5 u → mGo p l e ({ frames := 5, cells := 0, slots := 0, locals := 117 } : Room) s m args below meth c A Z 7 D (mT cs) (W12 h r cs) 81 [(0, .ref h), (1, .int x1), (2, .int x2), (3, .int x3), (4, .int x4), (5, .int x5)] [] u) → ∀ (x1 : Int32) (x2 : Int32) (x3 : Int32) (x4 : Int32) (x5 : Int32) (u : ST), wp_X12_meanOf_p81b x1 x2 x3 x4 x5 u B72 B81 Q → mGo p l e ({ frames := 5, cells := 0, slots := 0, locals := 117 } : Room) s m args below meth c A Z 7 D (mT cs) (W12 h r cs) 81 [(0, .ref h), (1, .int x1), (2, .int x2), (3, .int x3), (4, .int x4), (5, .int x5)] [] u := by
    intro B72 hB72 B81 hB81 x1 x2 x3 x4 x5 u hw H locs ls hI hl
    unfold wp_X12_meanOf_p81b at hw
    refine lv_iload S.1 S.2.1 dX12_meanOf_81 (lv_at hl 5 rfl) ?_
    refine lv_iload_n S.1 S.2.1 dX12_meanOf_83 rfl (lv_at hl 2 rfl) ?_
    refine lv_icmp_gt (tgt := 133) S.1 S.2.1 dX12_meanOf_84 (by decide) (fun c84 => ?_) (fun c84 => ?_)
    · have hw := hw.1 c84
      refine lv_iconst (v := 1) S.1 S.2.1 dX12_meanOf_133 (by decide) ?_
      refine lv_istore (lv' := [(5, .int (1 : Int32)), (0, .ref h), (1, .int x1), (2, .int x2), (3, .int x3), (4, .int x4)]) S.1 S.2.1 dX12_meanOf_134 hl (by decide) rfl (fun ls hl => ?_)
      exact b136 B72 hB72 x1 x2 x3 x4 (1 : Int32) u hw H locs ls hI (lv_sub hl [1, 2, 3, 4, 5, 0] rfl)
    · have hw := hw.2 c84
      refine lv_iload S.1 S.2.1 dX12_meanOf_87 (lv_at hl 5 rfl) ?_
      refine lv_istore (lv' := [(6, .int x5), (0, .ref h), (1, .int x1), (2, .int x2), (3, .int x3), (4, .int x4), (5, .int x5)]) S.1 S.2.1 dX12_meanOf_89 hl (by decide) rfl (fun ls hl => ?_)
      exact b91 B72 hB72 B81 hB81 x1 x2 x3 x4 x5 x5 u hw H locs ls hI (lv_sub hl [1, 2, 3, 4, 5, 6, 0] rfl)
  have b81 : ∀ (B72 : Int32 → Int32 → Int32 → Int32 → ST → Prop), (∀ (x1 : Int32) (x2 : Int32) (x3 : Int32) (x4 : Int32) (u : ST), B72 x1 x2 x3 x4 u → mGo p l e ({ frames := 5, cells := 0, slots := 0, locals := 117 } : Room) s m args below meth c A Z 7 D (mT cs) (W12 h r cs) 72 [(0, .ref h), (1, .int x1), (2, .int x2), (3, .int x3), (4, .int x4)] [] u) → ∀ (x1 : Int32) (x2 : Int32) (x3 : Int32) (x4 : Int32) (x5 : Int32) (u : ST), wp_X12_meanOf_p81 x1 x2 x3 x4 x5 u B72 Q → mGo p l e ({ frames := 5, cells := 0, slots := 0, locals := 117 } : Room) s m args below meth c A Z 7 D (mT cs) (W12 h r cs) 81 [(0, .ref h), (1, .int x1), (2, .int x2), (3, .int x3), (4, .int x4), (5, .int x5)] [] u := by
    intro B72 hB72 x1 x2 x3 x4 x5 u hw
    obtain ⟨I, μ, h0, hs⟩ := hw
    have key : ∀ (n : Nat) (x1 : Int32) (x2 : Int32) (x3 : Int32) (x4 : Int32) (x5 : Int32) (u : ST), μ x1 x2 x3 x4 x5 u = n → I x1 x2 x3 x4 x5 u → mGo p l e ({ frames := 5, cells := 0, slots := 0, locals := 117 } : Room) s m args below meth c A Z 7 D (mT cs) (W12 h r cs) 81 [(0, .ref h), (1, .int x1), (2, .int x2), (3, .int x3), (4, .int x4), (5, .int x5)] [] u := by
      intro n
      induction n using Nat.strongRecOn with
      | ind n ih =>
        intro x1 x2 x3 x4 x5 u hn hi
        exact b81b B72 hB72 (fun yx1 yx2 yx3 yx4 yx5 yu => I yx1 yx2 yx3 yx4 yx5 yu ∧ μ yx1 yx2 yx3 yx4 yx5 yu < μ x1 x2 x3 x4 x5 u) (fun yx1 yx2 yx3 yx4 yx5 yu hb => ih _ (hn ▸ hb.2) yx1 yx2 yx3 yx4 yx5 yu rfl hb.1) x1 x2 x3 x4 x5 u (hs x1 x2 x3 x4 x5 u hi)
    exact key _ x1 x2 x3 x4 x5 u rfl h0
  have b72b : ∀ (B72 : Int32 → Int32 → Int32 → Int32 → ST → Prop), (∀ (x1 : Int32) (x2 : Int32) (x3 : Int32) (x4 : Int32) (u : ST), B72 x1 x2 x3 x4 u → mGo p l e ({ frames := 5, cells := 0, slots := 0, locals := 117 } : Room) s m args below meth c A Z 7 D (mT cs) (W12 h r cs) 72 [(0, .ref h), (1, .int x1), (2, .int x2), (3, .int x3), (4, .int x4)] [] u) → ∀ (x1 : Int32) (x2 : Int32) (x3 : Int32) (x4 : Int32) (u : ST), wp_X12_meanOf_p72b x1 x2 x3 x4 u B72 Q → mGo p l e ({ frames := 5, cells := 0, slots := 0, locals := 117 } : Room) s m args below meth c A Z 7 D (mT cs) (W12 h r cs) 72 [(0, .ref h), (1, .int x1), (2, .int x2), (3, .int x3), (4, .int x4)] [] u := by
    intro B72 hB72 x1 x2 x3 x4 u hw H locs ls hI hl
    unfold wp_X12_meanOf_p72b at hw
    refine lv_iload S.1 S.2.1 dX12_meanOf_72 (lv_at hl 4 rfl) ?_
    refine lv_iload_n S.1 S.2.1 dX12_meanOf_74 rfl (lv_at hl 3 rfl) ?_
    refine lv_icmp_gt (tgt := 185) S.1 S.2.1 dX12_meanOf_75 (by decide) (fun c75 => ?_) (fun c75 => ?_)
    · have hw := hw.1 c75
      refine lv_aload_n S.1 S.2.1 dX12_meanOf_185 rfl (lv_at hl 0 rfl) ?_
      refine m_get S hin hI 0 (W12_at0 h r cs u) rfl 28 (Nat.le_of_ble_eq_true rfl) (List.mem_of_getElem? (i := 2) rfl) rfl (Ff12_at28 r u) dX12_meanOf_186 ?_
      refine lv_iload_n S.1 S.2.1 dX12_meanOf_189 rfl (lv_at hl 1 rfl) ?_
      refine lv_iload_n S.1 S.2.1 dX12_meanOf_190 rfl (lv_at hl 2 rfl) ?_
      refine m_si (As := [.int x1, .int x2]) (rest := [.ref (r 28)]) S hI.2.2.2.1.2.1 (c_X12_at l x1 x2 _ hw) (va_cwS 2 S.2.2.2.2 gX12_meanOf_X12_at rfl rfl rfl (by decide +kernel) ⟨Nat.le_of_ble_eq_true rfl, Nat.le_of_ble_eq_true rfl⟩) rfl hl.1 rfl (Nat.le_of_ble_eq_true rfl) dX12_meanOf_191 ⟨Nat.zero_le _, Nat.zero_le _⟩ (fun y191 hw => ?_)
      refine m_iald S hI 15 0 (W12_at15 h r cs u) rfl hw.1 dX12_meanOf_194 ?_
      refine lv_topi (fun y194 ey194 => ?_)
      have hw := hw.2 y194 ey194
      subst hZ
      exact m_iret S hr hlocks hI hw dX12_meanOf_195
    · have hw := hw.2 c75
      refine lv_iload_n S.1 S.2.1 dX12_meanOf_78 rfl (lv_at hl 1 rfl) ?_
      refine lv_istore (lv' := [(5, .int x1), (0, .ref h), (1, .int x1), (2, .int x2), (3, .int x3), (4, .int x4)]) S.1 S.2.1 dX12_meanOf_79 hl (by decide) rfl (fun ls hl => ?_)
      exact b81 B72 hB72 x1 x2 x3 x4 x1 u hw H locs ls hI (lv_sub hl [1, 2, 3, 4, 5, 0] rfl)
  have b72 : ∀ (x1 : Int32) (x2 : Int32) (x3 : Int32) (x4 : Int32) (u : ST), wp_X12_meanOf_p72 x1 x2 x3 x4 u Q → mGo p l e ({ frames := 5, cells := 0, slots := 0, locals := 117 } : Room) s m args below meth c A Z 7 D (mT cs) (W12 h r cs) 72 [(0, .ref h), (1, .int x1), (2, .int x2), (3, .int x3), (4, .int x4)] [] u := by
    intro x1 x2 x3 x4 u hw
    obtain ⟨I, μ, h0, hs⟩ := hw
    have key : ∀ (n : Nat) (x1 : Int32) (x2 : Int32) (x3 : Int32) (x4 : Int32) (u : ST), μ x1 x2 x3 x4 u = n → I x1 x2 x3 x4 u → mGo p l e ({ frames := 5, cells := 0, slots := 0, locals := 117 } : Room) s m args below meth c A Z 7 D (mT cs) (W12 h r cs) 72 [(0, .ref h), (1, .int x1), (2, .int x2), (3, .int x3), (4, .int x4)] [] u := by
      intro n
      induction n using Nat.strongRecOn with
      | ind n ih =>
        intro x1 x2 x3 x4 u hn hi
        exact b72b (fun yx1 yx2 yx3 yx4 yu => I yx1 yx2 yx3 yx4 yu ∧ μ yx1 yx2 yx3 yx4 yu < μ x1 x2 x3 x4 u) (fun yx1 yx2 yx3 yx4 yu hb => ih _ (hn ▸ hb.2) yx1 yx2 yx3 yx4 yu rfl hb.1) x1 x2 x3 x4 u (hs x1 x2 x3 x4 u hi)
    exact key _ x1 x2 x3 x4 u rfl h0
  have b56 : ∀ (B16 : Int32 → Int32 → Int32 → Int32 → ST → Prop), (∀ (x1 : Int32) (x2 : Int32) (x3 : Int32) (x4 : Int32) (u : ST), B16 x1 x2 x3 x4 u → mGo p l e ({ frames := 5, cells := 0, slots := 0, locals := 117 } : Room) s m args below meth c A Z 7 D (mT cs) (W12 h r cs) 16 [(0, .ref h), (1, .int x1), (2, .int x2), (3, .int x3), (4, .int x4)] [] u) → ∀ (B26 : Int32 → Int32 → Int32 → Int32 → Int32 → ST → Prop), (∀ (x1 : Int32) (x2 : Int32) (x3 : Int32) (x4 : Int32) (x5 : Int32) (u : ST), B26 x1 x2 x3 x4 x5 u → mGo p l e ({ frames := 5, cells := 0, slots := 0, locals := 117 } : Room) s m args below meth c A Z 7 D (mT cs) (W12 h r cs) 26 [(0, .ref h), (1, .int x1), (2, .int x2), (3, .int x3), (4, .int x4), (5, .int x5)] [] u) → ∀ (x1 : Int32) (x2 : Int32) (x3 : Int32) (x4 : Int32) (x5 : Int32) (t1 : Int32) (t2 : Int32) (u : ST), wp_X12_meanOf_p56 x1 x2 x3 x4 x5 t1 t2 u B16 B26 Q → mGo p l e ({ frames := 5, cells := 0, slots := 0, locals := 117 } : Room) s m args below meth c A Z 7 D (mT cs) (W12 h r cs) 56 [(0, .ref h), (1, .int x1), (2, .int x2), (3, .int x3), (4, .int x4), (5, .int x5)] [.int t2, .int t1, .ref (r 28)] u := by
    intro B16 hB16 B26 hB26 x1 x2 x3 x4 x5 t1 t2 u hw H locs ls hI hl
    unfold wp_X12_meanOf_p56 at hw
    obtain ⟨u56, eu56⟩ : ∃ z : ST, z = sA u 28 (upd (gA u 28) t1.toNatClampNeg t2) := ⟨_, rfl⟩
    refine m_iast S hI 15 0 (W12_at15 h r cs u) rfl hw.1 (W12_sA28 h r cs u u56 _ eu56) dX12_meanOf_56 (fun H locs hI => ?_)
    have hw := hw.2 u56 eu56
    obtain ⟨y57, ey57⟩ : ∃ z : Int32, z = x5 + 1 := ⟨_, rfl⟩
    have hw := hw y57 ey57
    refine lv_iinc (v := y57) (lv' := [(5, .int y57), (0, .ref h), (1, .int x1), (2, .int x2), (3, .int x3), (4, .int x4)]) S.1 S.2.1 dX12_meanOf_57 hl (k := 5) rfl (by rw [ey57]; rfl) (by decide) rfl (fun ls hl => ?_)
    refine lv_goto (tgt := 26) S.1 S.2.1 dX12_meanOf_60 (by decide) ?_
    exact hB26 x1 x2 x3 x4 y57 u56 hw H locs ls hI (lv_sub hl [1, 2, 3, 4, 5, 0] rfl)
  have b26b : ∀ (B16 : Int32 → Int32 → Int32 → Int32 → ST → Prop), (∀ (x1 : Int32) (x2 : Int32) (x3 : Int32) (x4 : Int32) (u : ST), B16 x1 x2 x3 x4 u → mGo p l e ({ frames := 5, cells := 0, slots := 0, locals := 117 } : Room) s m args below meth c A Z 7 D (mT cs) (W12 h r cs) 16 [(0, .ref h), (1, .int x1), (2, .int x2), (3, .int x3), (4, .int x4)] [] u) → ∀ (B26 : Int32 → Int32 → Int32 → Int32 → Int32 → ST → Prop), (∀ (x1 : Int32) (x2 : Int32) (x3 : Int32) (x4 : Int32) (x5 : Int32) (u : ST), B26 x1 x2 x3 x4 x5 u → mGo p l e ({ frames := 5, cells := 0, slots := 0, locals := 117 } : Room) s m args below meth c A Z 7 D (mT cs) (W12 h r cs) 26 [(0, .ref h), (1, .int x1), (2, .int x2), (3, .int x3), (4, .int x4), (5, .int x5)] [] u) → ∀ (x1 : Int32) (x2 : Int32) (x3 : Int32) (x4 : Int32) (x5 : Int32) (u : ST), wp_X12_meanOf_p26b x1 x2 x3 x4 x5 u B16 B26 Q → mGo p l e ({ frames := 5, cells := 0, slots := 0, locals := 117 } : Room) s m args below meth c A Z 7 D (mT cs) (W12 h r cs) 26 [(0, .ref h), (1, .int x1), (2, .int x2), (3, .int x3), (4, .int x4), (5, .int x5)] [] u := by
    intro B16 hB16 B26 hB26 x1 x2 x3 x4 x5 u hw H locs ls hI hl
    unfold wp_X12_meanOf_p26b at hw
    refine lv_iload S.1 S.2.1 dX12_meanOf_26 (lv_at hl 5 rfl) ?_
    refine lv_iload_n S.1 S.2.1 dX12_meanOf_28 rfl (lv_at hl 2 rfl) ?_
    refine lv_icmp_gt (tgt := 63) S.1 S.2.1 dX12_meanOf_29 (by decide) (fun c29 => ?_) (fun c29 => ?_)
    · have hw := hw.1 c29
      obtain ⟨y63, ey63⟩ : ∃ z : Int32, z = x4 + 1 := ⟨_, rfl⟩
      have hw := hw y63 ey63
      refine lv_iinc (v := y63) (lv' := [(4, .int y63), (0, .ref h), (1, .int x1), (2, .int x2), (3, .int x3), (5, .int x5)]) S.1 S.2.1 dX12_meanOf_63 hl (k := 4) rfl (by rw [ey63]; rfl) (by decide) rfl (fun ls hl => ?_)
      refine lv_goto (tgt := 16) S.1 S.2.1 dX12_meanOf_66 (by decide) ?_
      exact hB16 x1 x2 x3 y63 u hw H locs ls hI (lv_sub hl [1, 2, 3, 4, 0] rfl)
    · have hw := hw.2 c29
      refine lv_aload_n S.1 S.2.1 dX12_meanOf_32 rfl (lv_at hl 0 rfl) ?_
      refine m_get S hin hI 0 (W12_at0 h r cs u) rfl 28 (Nat.le_of_ble_eq_true rfl) (List.mem_of_getElem? (i := 2) rfl) rfl (Ff12_at28 r u) dX12_meanOf_33 ?_
      refine lv_iload S.1 S.2.1 dX12_meanOf_36 (lv_at hl 4 rfl) ?_
      refine lv_iload S.1 S.2.1 dX12_meanOf_38 (lv_at hl 5 rfl) ?_
      refine m_si (As := [.int x4, .int x5]) (rest := [.ref (r 28)]) S hI.2.2.2.1.2.1 (c_X12_at l x4 x5 _ hw) (va_cwS 2 S.2.2.2.2 gX12_meanOf_X12_at rfl rfl rfl (by decide +kernel) ⟨Nat.le_of_ble_eq_true rfl, Nat.le_of_ble_eq_true rfl⟩) rfl hl.1 rfl (Nat.le_of_ble_eq_true rfl) dX12_meanOf_40 ⟨Nat.zero_le _, Nat.zero_le _⟩ (fun y40 hw => ?_)
      refine lv_iload S.1 S.2.1 dX12_meanOf_43 (lv_at hl 4 rfl) ?_
      refine lv_iload S.1 S.2.1 dX12_meanOf_45 (lv_at hl 5 rfl) ?_
      refine lv_icmp_ne (tgt := 54) S.1 S.2.1 dX12_meanOf_47 (by decide) (fun c47 => ?_) (fun c47 => ?_)
      · have hw := hw.1 c47
        refine lv_ldc S.1 S.2.1 S.2.2.2.1 (S.2.2.2.2 _ (List.mem_of_getElem? (i := 3) rfl)) dX12_meanOf_54 ?_
        exact b56 B16 hB16 B26 hB26 x1 x2 x3 x4 x5 y40 (1000000 : Int32) u hw H locs ls hI (lv_sub hl [0, 1, 2, 3, 4, 5] rfl)
      · have hw := hw.2 c47
        refine lv_iconst (v := 0) S.1 S.2.1 dX12_meanOf_50 (by decide) ?_
        refine lv_goto (tgt := 56) S.1 S.2.1 dX12_meanOf_51 (by decide) ?_
        exact b56 B16 hB16 B26 hB26 x1 x2 x3 x4 x5 y40 (0 : Int32) u hw H locs ls hI (lv_sub hl [0, 1, 2, 3, 4, 5] rfl)
  have b26 : ∀ (B16 : Int32 → Int32 → Int32 → Int32 → ST → Prop), (∀ (x1 : Int32) (x2 : Int32) (x3 : Int32) (x4 : Int32) (u : ST), B16 x1 x2 x3 x4 u → mGo p l e ({ frames := 5, cells := 0, slots := 0, locals := 117 } : Room) s m args below meth c A Z 7 D (mT cs) (W12 h r cs) 16 [(0, .ref h), (1, .int x1), (2, .int x2), (3, .int x3), (4, .int x4)] [] u) → ∀ (x1 : Int32) (x2 : Int32) (x3 : Int32) (x4 : Int32) (x5 : Int32) (u : ST), wp_X12_meanOf_p26 x1 x2 x3 x4 x5 u B16 Q → mGo p l e ({ frames := 5, cells := 0, slots := 0, locals := 117 } : Room) s m args below meth c A Z 7 D (mT cs) (W12 h r cs) 26 [(0, .ref h), (1, .int x1), (2, .int x2), (3, .int x3), (4, .int x4), (5, .int x5)] [] u := by
    intro B16 hB16 x1 x2 x3 x4 x5 u hw
    obtain ⟨I, μ, h0, hs⟩ := hw
    have key : ∀ (n : Nat) (x1 : Int32) (x2 : Int32) (x3 : Int32) (x4 : Int32) (x5 : Int32) (u : ST), μ x1 x2 x3 x4 x5 u = n → I x1 x2 x3 x4 x5 u → mGo p l e ({ frames := 5, cells := 0, slots := 0, locals := 117 } : Room) s m args below meth c A Z 7 D (mT cs) (W12 h r cs) 26 [(0, .ref h), (1, .int x1), (2, .int x2), (3, .int x3), (4, .int x4), (5, .int x5)] [] u := by
      intro n
      induction n using Nat.strongRecOn with
      | ind n ih =>
        intro x1 x2 x3 x4 x5 u hn hi
        exact b26b B16 hB16 (fun yx1 yx2 yx3 yx4 yx5 yu => I yx1 yx2 yx3 yx4 yx5 yu ∧ μ yx1 yx2 yx3 yx4 yx5 yu < μ x1 x2 x3 x4 x5 u) (fun yx1 yx2 yx3 yx4 yx5 yu hb => ih _ (hn ▸ hb.2) yx1 yx2 yx3 yx4 yx5 yu rfl hb.1) x1 x2 x3 x4 x5 u (hs x1 x2 x3 x4 x5 u hi)
    exact key _ x1 x2 x3 x4 x5 u rfl h0
  have b16b : ∀ (B16 : Int32 → Int32 → Int32 → Int32 → ST → Prop), (∀ (x1 : Int32) (x2 : Int32) (x3 : Int32) (x4 : Int32) (u : ST), B16 x1 x2 x3 x4 u → mGo p l e ({ frames := 5, cells := 0, slots := 0, locals := 117 } : Room) s m args below meth c A Z 7 D (mT cs) (W12 h r cs) 16 [(0, .ref h), (1, .int x1), (2, .int x2), (3, .int x3), (4, .int x4)] [] u) → ∀ (x1 : Int32) (x2 : Int32) (x3 : Int32) (x4 : Int32) (u : ST), wp_X12_meanOf_p16b x1 x2 x3 x4 u B16 Q → mGo p l e ({ frames := 5, cells := 0, slots := 0, locals := 117 } : Room) s m args below meth c A Z 7 D (mT cs) (W12 h r cs) 16 [(0, .ref h), (1, .int x1), (2, .int x2), (3, .int x3), (4, .int x4)] [] u := by
    intro B16 hB16 x1 x2 x3 x4 u hw H locs ls hI hl
    unfold wp_X12_meanOf_p16b at hw
    refine lv_iload S.1 S.2.1 dX12_meanOf_16 (lv_at hl 4 rfl) ?_
    refine lv_iload_n S.1 S.2.1 dX12_meanOf_18 rfl (lv_at hl 2 rfl) ?_
    refine lv_icmp_gt (tgt := 69) S.1 S.2.1 dX12_meanOf_19 (by decide) (fun c19 => ?_) (fun c19 => ?_)
    · have hw := hw.1 c19
      refine lv_iconst (v := 1) S.1 S.2.1 dX12_meanOf_69 (by decide) ?_
      refine lv_istore (lv' := [(4, .int (1 : Int32)), (0, .ref h), (1, .int x1), (2, .int x2), (3, .int x3)]) S.1 S.2.1 dX12_meanOf_70 hl (by decide) rfl (fun ls hl => ?_)
      exact b72 x1 x2 x3 (1 : Int32) u hw H locs ls hI (lv_sub hl [1, 2, 3, 4, 0] rfl)
    · have hw := hw.2 c19
      refine lv_iload S.1 S.2.1 dX12_meanOf_22 (lv_at hl 4 rfl) ?_
      refine lv_istore (lv' := [(5, .int x4), (0, .ref h), (1, .int x1), (2, .int x2), (3, .int x3), (4, .int x4)]) S.1 S.2.1 dX12_meanOf_24 hl (by decide) rfl (fun ls hl => ?_)
      exact b26 B16 hB16 x1 x2 x3 x4 x4 u hw H locs ls hI (lv_sub hl [1, 2, 3, 4, 5, 0] rfl)
  have b16 : ∀ (x1 : Int32) (x2 : Int32) (x3 : Int32) (x4 : Int32) (u : ST), wp_X12_meanOf_p16 x1 x2 x3 x4 u Q → mGo p l e ({ frames := 5, cells := 0, slots := 0, locals := 117 } : Room) s m args below meth c A Z 7 D (mT cs) (W12 h r cs) 16 [(0, .ref h), (1, .int x1), (2, .int x2), (3, .int x3), (4, .int x4)] [] u := by
    intro x1 x2 x3 x4 u hw
    obtain ⟨I, μ, h0, hs⟩ := hw
    have key : ∀ (n : Nat) (x1 : Int32) (x2 : Int32) (x3 : Int32) (x4 : Int32) (u : ST), μ x1 x2 x3 x4 u = n → I x1 x2 x3 x4 u → mGo p l e ({ frames := 5, cells := 0, slots := 0, locals := 117 } : Room) s m args below meth c A Z 7 D (mT cs) (W12 h r cs) 16 [(0, .ref h), (1, .int x1), (2, .int x2), (3, .int x3), (4, .int x4)] [] u := by
      intro n
      induction n using Nat.strongRecOn with
      | ind n ih =>
        intro x1 x2 x3 x4 u hn hi
        exact b16b (fun yx1 yx2 yx3 yx4 yu => I yx1 yx2 yx3 yx4 yu ∧ μ yx1 yx2 yx3 yx4 yu < μ x1 x2 x3 x4 u) (fun yx1 yx2 yx3 yx4 yu hb => ih _ (hn ▸ hb.2) yx1 yx2 yx3 yx4 yu rfl hb.1) x1 x2 x3 x4 u (hs x1 x2 x3 x4 u hi)
    exact key _ x1 x2 x3 x4 u rfl h0
  unfold wp_X12_meanOf at hw
  obtain ⟨H, hH⟩ : ∃ z : Heap, z = s.heap := ⟨_, rfl⟩
  obtain ⟨locs, hL⟩ : ∃ z : List Loc, z = [] := ⟨_, rfl⟩
  rw [show W p l e ({ frames := 5, cells := 0, slots := 0, locals := 117 } : Room) s m args below meth c s.heap [] 0 0 Z (F0 m 0 ls []) = W p l e ({ frames := 5, cells := 0, slots := 0, locals := 117 } : Room) s m args below meth c H locs 0 0 Z (F0 m 0 ls []) by rw [hH, hL]]
  replace hI : mI D (mT cs) A s.heap s (W12 h r cs u) H locs := by rw [hH, hL]; exact hI
  refine lv_aload_n S.1 S.2.1 dX12_meanOf_0 rfl (lv_at hl 0 rfl) ?_
  refine lv_iload_n S.1 S.2.1 dX12_meanOf_1 rfl (lv_at hl 1 rfl) ?_
  refine lv_iload_n S.1 S.2.1 dX12_meanOf_2 rfl (lv_at hl 2 rfl) ?_
  refine m_vi (As := [.int a1, .int a2]) (rest := []) S (W12_self h r cs) hI rfl (c_X12_findWeights l D h r cs a1 a2 u _ hw) (cwV 2 S.2.2.2.2 gX12_meanOf_X12_findWeights rfl rfl rfl (by decide +kernel) ⟨Nat.le_of_ble_eq_true rfl, Nat.le_of_ble_eq_true rfl⟩) (W12_at0 h r cs u) rfl rfl hl.1 rfl (Nat.le_of_ble_eq_true rfl) dX12_meanOf_3 ⟨Nat.zero_le _, Nat.zero_le _⟩ (fun y3 u3 H locs hw hI => ?_)
  refine lv_pop S.1 S.2.1 dX12_meanOf_6 rfl ?_
  refine lv_aload_n S.1 S.2.1 dX12_meanOf_7 rfl (lv_at hl 0 rfl) ?_
  refine lv_bipush (v := (-2)) S.1 S.2.1 dX12_meanOf_8 (by decide) ?_
  obtain ⟨u10, eu10⟩ : ∃ z : ST, z = sI u3 31 ((-2) : Int32) := ⟨_, rfl⟩
  have hw := hw u10 eu10
  refine m_put S hin tyX12_ok nmX12 hI 0 (W12_at0 h r cs u3) rfl 31 (Nat.le_of_ble_eq_true rfl) (List.mem_of_getElem? (i := 1) rfl) rfl rfl rfl rfl (Nat.le_of_ble_eq_true rfl) (W12_sI31 h r cs u3 u10 ((-2) : Int32) eu10) dX12_meanOf_10 (fun H locs hI => ?_)
  refine lv_iload_n S.1 S.2.1 dX12_meanOf_13 rfl (lv_at hl 1 rfl) ?_
  refine lv_istore (lv' := [(4, .int a1), (0, .ref h), (1, .int a1), (2, .int a2), (3, .int a3)]) S.1 S.2.1 dX12_meanOf_14 hl (by decide) rfl (fun ls hl => ?_)
  exact b16 a1 a2 a3 a1 u10 hw H locs ls hI (lv_sub hl [1, 2, 3, 4, 0] rfl)

def wp_X12_isPart_p31 (t0 : Int32) (u : ST) (Q : Int32 → ST → Prop) : Prop :=
  (t0 &&& 1 = t0 ∧ Q t0 u)
def wp_X12_isPart_p30 (u : ST) (Q : Int32 → ST → Prop) : Prop :=
  wp_X12_isPart_p31 (0 : Int32) u Q
def wp_X12_isPart (a1 : Int32) (u : ST) (Q : Int32 → ST → Prop) : Prop :=
  ((a1 < 0 → wp_X12_isPart_p30 u Q) ∧ (¬ a1 < 0 → (¬ (100 : Int32) = 0 ∧ ∀ y7 : Int32, y7 = a1 / (100 : Int32) → (¬ (100 : Int32) = 0 ∧ ∀ y11 : Int32, y11 = a1 - a1 / (100 : Int32) * (100 : Int32) → ((y11 < y7 → wp_X12_isPart_p30 u Q) ∧ (¬ y11 < y7 → (¬ (100 : Int32) = 0 ∧ ∀ y18 : Int32, y18 = a1 - a1 / (100 : Int32) * (100 : Int32) → (((gI u 1) < y18 → wp_X12_isPart_p30 u Q) ∧ (¬ (gI u 1) < y18 → wp_X12_isPart_p31 (1 : Int32) u Q)))))))))
set_option maxHeartbeats 4000000 in
set_option maxRecDepth 100000 in
theorem c_X12_isPart (l : Launch) (D : va_G) (h : Nat) (r : Nat → Nat) (cs : Nat → ClassId) (a1 : Int32) (u : ST) (Q : Int32 → ST → Prop) (hw : wp_X12_isPart a1 u Q) : mCi l yX12_isPart wsX12_isPart ({ frames := 0, cells := 0, slots := 0, locals := 0 } : Room) 0 0 D (mT cs) (W12 h r cs) [.ref h, .int a1] u Q := by
  unfold mCi
  refine m_enter (QQ := fun A => va_Qi Q (mPos D (mT cs) A (W12 h r cs)) A) (cc := cX12_isPart) (maxL := 2) (ret := (some .boolean)) (by decide) rfl (Nat.le_of_ble_eq_true rfl) ?_
  intro p e s m args below meth c A ls S hr hlocks hname hl hI
  have S : CallFix p m c cX12_isPart 2 s args wsX12_isPart RX12 := S
  show W p l e ({ frames := 0, cells := 0, slots := 0, locals := 0 } : Room) s m args below meth c s.heap [] 0 0 (MQ below (va_Qi Q (mPos D (mT cs) A (W12 h r cs)) A) args s 0 0 A) (F0 m 0 ls [])
  generalize hZ : MQ below (va_Qi Q (mPos D (mT cs) A (W12 h r cs)) A) args s 0 0 A = Z
  have hin : ∀ w ∈ wsX120, w ∈ wsX12_isPart := fun _ h => List.mem_cons_of_mem _ (List.mem_append_right _ h)
  have hl : lv_has ls 2 [(0, .ref h), (1, .int a1)] := hl
  have b31 : ∀ (t0 : Int32) (u : ST), wp_X12_isPart_p31 t0 u Q → mGo p l e ({ frames := 0, cells := 0, slots := 0, locals := 0 } : Room) s m args below meth c A Z 2 D (mT cs) (W12 h r cs) 31 [(0, .ref h)] [.int t0] u := by
    intro t0 u hw H locs ls hI hl
    unfold wp_X12_isPart_p31 at hw
    subst hZ
    exact m_zret S hr hlocks hI hw.1 hw.2 dX12_isPart_31
  have b30 : ∀ (u : ST), wp_X12_isPart_p30 u Q → mGo p l e ({ frames := 0, cells := 0, slots := 0, locals := 0 } : Room) s m args below meth c A Z 2 D (mT cs) (W12 h r cs) 30 [(0, .ref h)] [] u := by
    intro u hw H locs ls hI hl
    unfold wp_X12_isPart_p30 at hw
    refine lv_iconst (v := 0) S.1 S.2.1 dX12_isPart_30 (by decide) ?_
    exact b31 (0 : Int32) u hw H locs ls hI (lv_sub hl [0] rfl)
  unfold wp_X12_isPart at hw
  obtain ⟨H, hH⟩ : ∃ z : Heap, z = s.heap := ⟨_, rfl⟩
  obtain ⟨locs, hL⟩ : ∃ z : List Loc, z = [] := ⟨_, rfl⟩
  rw [show W p l e ({ frames := 0, cells := 0, slots := 0, locals := 0 } : Room) s m args below meth c s.heap [] 0 0 Z (F0 m 0 ls []) = W p l e ({ frames := 0, cells := 0, slots := 0, locals := 0 } : Room) s m args below meth c H locs 0 0 Z (F0 m 0 ls []) by rw [hH, hL]]
  replace hI : mI D (mT cs) A s.heap s (W12 h r cs u) H locs := by rw [hH, hL]; exact hI
  refine lv_iload_n S.1 S.2.1 dX12_isPart_0 rfl (lv_at hl 1 rfl) ?_
  refine lv_if_lt (tgt := 30) S.1 S.2.1 dX12_isPart_1 (by decide) (fun c1 => ?_) (fun c1 => ?_)
  · have hw := hw.1 c1
    exact b30 u hw H locs ls hI (lv_sub hl [0] rfl)
  · have hw := hw.2 c1
    refine lv_iload_n S.1 S.2.1 dX12_isPart_4 rfl (lv_at hl 1 rfl) ?_
    refine lv_bipush (v := 100) S.1 S.2.1 dX12_isPart_5 (by decide) ?_
    refine lv_idiv S.1 S.2.1 dX12_isPart_7 hw.1 ?_
    have hw := hw.2
    refine lv_topi (fun y7 ey7 => ?_)
    have hw := hw y7 ey7
    refine lv_iload_n S.1 S.2.1 dX12_isPart_8 rfl (lv_at hl 1 rfl) ?_
    refine lv_bipush (v := 100) S.1 S.2.1 dX12_isPart_9 (by decide) ?_
    refine lv_irem S.1 S.2.1 dX12_isPart_11 hw.1 ?_
    have hw := hw.2
    refine lv_topi (fun y11 ey11 => ?_)
    have hw := hw y11 ey11
    refine lv_icmp_gt (tgt := 30) S.1 S.2.1 dX12_isPart_12 (by decide) (fun c12 => ?_) (fun c12 => ?_)
    · have hw := hw.1 c12
      exact b30 u hw H locs ls hI (lv_sub hl [0] rfl)
    · have hw := hw.2 c12
      refine lv_iload_n S.1 S.2.1 dX12_isPart_15 rfl (lv_at hl 1 rfl) ?_
      refine lv_bipush (v := 100) S.1 S.2.1 dX12_isPart_16 (by decide) ?_
      refine lv_irem S.1 S.2.1 dX12_isPart_18 hw.1 ?_
      have hw := hw.2
      refine lv_topi (fun y18 ey18 => ?_)
      have hw := hw y18 ey18
      refine lv_aload_n S.1 S.2.1 dX12_isPart_19 rfl (lv_at hl 0 rfl) ?_
      refine m_get S hin hI 0 (W12_at0 h r cs u) rfl 1 (Nat.le_of_ble_eq_true rfl) (List.mem_of_getElem? (i := 1) rfl) rfl (Ff12_at1 r u) dX12_isPart_20 ?_
      refine lv_icmp_gt (tgt := 30) S.1 S.2.1 dX12_isPart_23 (by decide) (fun c23 => ?_) (fun c23 => ?_)
      · have hw := hw.1 c23
        exact b30 u hw H locs ls hI (lv_sub hl [0] rfl)
      · have hw := hw.2 c23
        refine lv_iconst (v := 1) S.1 S.2.1 dX12_isPart_26 (by decide) ?_
        refine lv_goto (tgt := 31) S.1 S.2.1 dX12_isPart_27 (by decide) ?_
        exact b31 (1 : Int32) u hw H locs ls hI (lv_sub hl [0] rfl)

def wp_X12_common_p4b (x2 : Int32) (x3 : Int32) (B4 : Int32 → Int32 → Prop) (Q : Int32 → Prop) : Prop :=
  ((x3 = 0 → Q x2) ∧ (¬ x3 = 0 → (¬ x3 = 0 ∧ ∀ y10 : Int32, y10 = x2 - x2 / x3 * x3 → B4 x3 y10)))
def wp_X12_common_p4 (x2 : Int32) (x3 : Int32) (Q : Int32 → Prop) : Prop := ∃ (I : Int32 → Int32 → Prop) (μ : Int32 → Int32 → Nat), I x2 x3 ∧ ∀ (x2 : Int32) (x3 : Int32), I x2 x3 → wp_X12_common_p4b x2 x3 (fun yx2 yx3 => I yx2 yx3 ∧ μ yx2 yx3 < μ x2 x3) Q
def wp_X12_common (a0 : Int32) (a1 : Int32) (Q : Int32 → Prop) : Prop :=
  wp_X12_common_p4 a0 a1 Q
set_option maxHeartbeats 4000000 in
set_option maxRecDepth 100000 in
theorem c_X12_common (l : Launch) (a0 : Int32) (a1 : Int32) (Q : Int32 → Prop) (hw : wp_X12_common a0 a1 Q) : mTi l yX12_common wsX12_common ({ frames := 0, cells := 0, slots := 0, locals := 0 } : Room) [.int a0, .int a1] Q := by
  refine m_enterT (cc := cX12_common) (maxL := 5) (ret := (some .int)) (by decide) rfl (Nat.le_of_ble_eq_true rfl) ?_
  intro p e s m args below meth c ls S hr hlocks hname hl hN
  have S : CallFix p m c cX12_common 5 s args wsX12_common RX12 := S
  generalize hZ : MQ below (vp_Si Q) args s 0 0 (fun _ => False) = Z
  have hl : lv_has ls 5 [(0, .int a0), (1, .int a1)] := hl
  have b4b : ∀ (B4 : Int32 → Int32 → Prop), (∀ (x2 : Int32) (x3 : Int32), B4 x2 x3 → mGt p l e ({ frames := 0, cells := 0, slots := 0, locals := 0 } : Room) s m args below meth c Z 5 4 [(2, .int x2), (3, .int x3)] []) → ∀ (x2 : Int32) (x3 : Int32), wp_X12_common_p4b x2 x3 B4 Q → mGt p l e ({ frames := 0, cells := 0, slots := 0, locals := 0 } : Room) s m args below meth c Z 5 4 [(2, .int x2), (3, .int x3)] [] := by
    intro B4 hB4 x2 x3 hw ls hl
    unfold wp_X12_common_p4b at hw
    refine lv_iload_n S.1 S.2.1 dX12_common_4 rfl (lv_at hl 1 rfl) ?_
    refine lv_if_eq (tgt := 21) S.1 S.2.1 dX12_common_5 (by decide) (fun c5 => ?_) (fun c5 => ?_)
    · have hw := hw.1 c5
      refine lv_iload_n S.1 S.2.1 dX12_common_21 rfl (lv_at hl 0 rfl) ?_
      subst hZ
      exact m_tiret S hr hlocks hw dX12_common_22
    · have hw := hw.2 c5
      refine lv_iload_n S.1 S.2.1 dX12_common_8 rfl (lv_at hl 0 rfl) ?_
      refine lv_iload_n S.1 S.2.1 dX12_common_9 rfl (lv_at hl 1 rfl) ?_
      refine lv_irem S.1 S.2.1 dX12_common_10 hw.1 ?_
      have hw := hw.2
      refine lv_topi (fun y10 ey10 => ?_)
      have hw := hw y10 ey10
      refine lv_istore (lv' := [(4, .int y10), (2, .int x2), (3, .int x3)]) S.1 S.2.1 dX12_common_11 hl (by decide) rfl (fun ls hl => ?_)
      refine lv_iload_n S.1 S.2.1 dX12_common_13 rfl (lv_at hl 2 rfl) ?_
      refine lv_istore_n (lv' := [(2, .int x3), (4, .int y10), (3, .int x3)]) S.1 S.2.1 dX12_common_14 rfl hl (by decide) rfl (fun ls hl => ?_)
      refine lv_iload S.1 S.2.1 dX12_common_15 (lv_at hl 1 rfl) ?_
      refine lv_istore_n (lv' := [(3, .int y10), (2, .int x3), (4, .int y10)]) S.1 S.2.1 dX12_common_17 rfl hl (by decide) rfl (fun ls hl => ?_)
      refine lv_goto (tgt := 4) S.1 S.2.1 dX12_common_18 (by decide) ?_
      exact hB4 x3 y10 hw ls (lv_sub hl [1, 0] rfl)
  have b4 : ∀ (x2 : Int32) (x3 : Int32), wp_X12_common_p4 x2 x3 Q → mGt p l e ({ frames := 0, cells := 0, slots := 0, locals := 0 } : Room) s m args below meth c Z 5 4 [(2, .int x2), (3, .int x3)] [] := by
    intro x2 x3 hw
    obtain ⟨I, μ, h0, hs⟩ := hw
    have key : ∀ (n : Nat) (x2 : Int32) (x3 : Int32), μ x2 x3 = n → I x2 x3 → mGt p l e ({ frames := 0, cells := 0, slots := 0, locals := 0 } : Room) s m args below meth c Z 5 4 [(2, .int x2), (3, .int x3)] [] := by
      intro n
      induction n using Nat.strongRecOn with
      | ind n ih =>
        intro x2 x3 hn hi
        exact b4b (fun yx2 yx3 => I yx2 yx3 ∧ μ yx2 yx3 < μ x2 x3) (fun yx2 yx3 hb => ih _ (hn ▸ hb.2) yx2 yx3 rfl hb.1) x2 x3 (hs x2 x3 hi)
    exact key _ x2 x3 rfl h0
  unfold wp_X12_common at hw
  refine lv_iload_n S.1 S.2.1 dX12_common_0 rfl (lv_at hl 0 rfl) ?_
  refine lv_istore_n (lv' := [(2, .int a0), (0, .int a0), (1, .int a1)]) S.1 S.2.1 dX12_common_1 rfl hl (by decide) rfl (fun ls hl => ?_)
  refine lv_iload_n S.1 S.2.1 dX12_common_2 rfl (lv_at hl 2 rfl) ?_
  refine lv_istore_n (lv' := [(3, .int a1), (2, .int a0), (0, .int a0), (1, .int a1)]) S.1 S.2.1 dX12_common_3 rfl hl (by decide) rfl (fun ls hl => ?_)
  exact b4 a0 a1 hw ls (lv_sub hl [1, 0] rfl)

def wp_X12_mean_p27 (u : ST) (Q : Int32 → ST → Prop) : Prop :=
  Q ((-1) : Int32) u
def wp_X12_mean_p93 (t0 : Int32) (u : ST) (Q : Int32 → ST → Prop) : Prop :=
  Q t0 u
def wp_X12_mean (a1 : Int32) (a2 : Int32) (a3 : Int32) (u : ST) (Q : Int32 → ST → Prop) : Prop :=
  (wp_X12_isPart a1 u (fun y2 u2 => ((y2 = 0 → wp_X12_mean_p27 u2 Q) ∧ (¬ y2 = 0 → (wp_X12_in a2 (0 : Int32) (6 : Int32) (fun y12 => ((y12 = 0 → wp_X12_mean_p27 u2 Q) ∧ (¬ y12 = 0 → (wp_X12_in a3 (0 : Int32) (1 : Int32) (fun y21 => ((¬ y21 = 0 → (¬ (100 : Int32) = 0 ∧ ∀ y33 : Int32, y33 = a1 / (100 : Int32) → (¬ (100 : Int32) = 0 ∧ ∀ y37 : Int32, y37 = a1 - a1 / (100 : Int32) * (100 : Int32) → (wp_X12_meanOf y33 y37 a2 u2 (fun y39 u39 => ((y39 < (1000000 : Int32) → (¬ (100 : Int32) = 0 ∧ ∀ y61 : Int32, y61 = a1 - a1 / (100 : Int32) * (100 : Int32) → (∀ y63 : Int32, y63 = y61 + (1 : Int32) → (vp_in y63 62 ∧ ∀ y64 : Int32, y64 = gA u39 30 y63.toNatClampNeg → (wp_X12_common y39 y64 (fun y71 => ((¬ a3 = 0 → (¬ y71 = 0 ∧ ∀ y92 : Int32, y92 = y64 / y71 → wp_X12_mean_p93 y92 u39 Q)) ∧ (a3 = 0 → (¬ y71 = 0 ∧ ∀ y84 : Int32, y84 = y39 / y71 → wp_X12_mean_p93 y84 u39 Q))))))))) ∧ (¬ y39 < (1000000 : Int32) → Q ((-2) : Int32) u39))))))) ∧ (y21 = 0 → wp_X12_mean_p27 u2 Q))))))))))))
set_option maxHeartbeats 4000000 in
set_option maxRecDepth 100000 in
theorem c_X12_mean (l : Launch) (D : va_G) (h : Nat) (r : Nat → Nat) (cs : Nat → ClassId) (a1 : Int32) (a2 : Int32) (a3 : Int32) (u : ST) (Q : Int32 → ST → Prop) (hw : wp_X12_mean a1 a2 a3 u Q) : mCi l yX12_mean wsX12_mean ({ frames := 6, cells := 0, slots := 0, locals := 143 } : Room) 0 0 D (mT cs) (W12 h r cs) [.ref h, .int a1, .int a2, .int a3] u Q := by
  unfold mCi
  refine m_enter (QQ := fun A => va_Qi Q (mPos D (mT cs) A (W12 h r cs)) A) (cc := cX12_mean) (maxL := 7) (ret := (some .int)) (by decide) rfl (Nat.le_of_ble_eq_true rfl) ?_
  intro p e s m args below meth c A ls S hr hlocks hname hl hI
  have S : CallFix p m c cX12_mean 7 s args wsX12_mean RX12 := S
  show W p l e ({ frames := 6, cells := 0, slots := 0, locals := 143 } : Room) s m args below meth c s.heap [] 0 0 (MQ below (va_Qi Q (mPos D (mT cs) A (W12 h r cs)) A) args s 0 0 A) (F0 m 0 ls [])
  generalize hZ : MQ below (va_Qi Q (mPos D (mT cs) A (W12 h r cs)) A) args s 0 0 A = Z
  have hin : ∀ w ∈ wsX120, w ∈ wsX12_mean := fun _ h => List.mem_cons_of_mem _ (List.mem_append_right _ h)
  have hl : lv_has ls 7 [(0, .ref h), (1, .int a1), (2, .int a2), (3, .int a3)] := hl
  have b27 : ∀ (u : ST), wp_X12_mean_p27 u Q → mGo p l e ({ frames := 6, cells := 0, slots := 0, locals := 143 } : Room) s m args below meth c A Z 7 D (mT cs) (W12 h r cs) 27 [(0, .ref h)] [] u := by
    intro u hw H locs ls hI hl
    unfold wp_X12_mean_p27 at hw
    refine lv_iconst (v := (-1)) S.1 S.2.1 dX12_mean_27 (by decide) ?_
    subst hZ
    exact m_iret S hr hlocks hI hw dX12_mean_28
  have b93 : ∀ (t0 : Int32) (u : ST), wp_X12_mean_p93 t0 u Q → mGo p l e ({ frames := 6, cells := 0, slots := 0, locals := 143 } : Room) s m args below meth c A Z 7 D (mT cs) (W12 h r cs) 93 [(0, .ref h)] [.int t0] u := by
    intro t0 u hw H locs ls hI hl
    unfold wp_X12_mean_p93 at hw
    subst hZ
    exact m_iret S hr hlocks hI hw dX12_mean_93
  unfold wp_X12_mean at hw
  obtain ⟨H, hH⟩ : ∃ z : Heap, z = s.heap := ⟨_, rfl⟩
  obtain ⟨locs, hL⟩ : ∃ z : List Loc, z = [] := ⟨_, rfl⟩
  rw [show W p l e ({ frames := 6, cells := 0, slots := 0, locals := 143 } : Room) s m args below meth c s.heap [] 0 0 Z (F0 m 0 ls []) = W p l e ({ frames := 6, cells := 0, slots := 0, locals := 143 } : Room) s m args below meth c H locs 0 0 Z (F0 m 0 ls []) by rw [hH, hL]]
  replace hI : mI D (mT cs) A s.heap s (W12 h r cs u) H locs := by rw [hH, hL]; exact hI
  refine lv_aload_n S.1 S.2.1 dX12_mean_0 rfl (lv_at hl 0 rfl) ?_
  refine lv_iload_n S.1 S.2.1 dX12_mean_1 rfl (lv_at hl 1 rfl) ?_
  refine m_vi (As := [.int a1]) (rest := []) S (W12_self h r cs) hI rfl (c_X12_isPart l D h r cs a1 u _ hw) (cwV 1 S.2.2.2.2 gX12_mean_X12_isPart rfl rfl rfl (by decide +kernel) ⟨Nat.le_of_ble_eq_true rfl, Nat.le_of_ble_eq_true rfl⟩) (W12_at0 h r cs u) rfl rfl hl.1 rfl (Nat.le_of_ble_eq_true rfl) dX12_mean_2 ⟨Nat.zero_le _, Nat.zero_le _⟩ (fun y2 u2 H locs hw hI => ?_)
  refine lv_if_eq (tgt := 27) S.1 S.2.1 dX12_mean_5 (by decide) (fun c5 => ?_) (fun c5 => ?_)
  · have hw := hw.1 c5
    exact b27 u2 hw H locs ls hI (lv_sub hl [0] rfl)
  · have hw := hw.2 c5
    refine lv_iload_n S.1 S.2.1 dX12_mean_8 rfl (lv_at hl 2 rfl) ?_
    refine lv_iconst (v := 0) S.1 S.2.1 dX12_mean_9 (by decide) ?_
    refine lv_bipush (v := 6) S.1 S.2.1 dX12_mean_10 (by decide) ?_
    refine m_si (As := [.int a2, .int (0 : Int32), .int (6 : Int32)]) (rest := []) S hI.2.2.2.1.2.1 (c_X12_in l a2 (0 : Int32) (6 : Int32) _ hw) (va_cwS 3 S.2.2.2.2 gX12_mean_X12_in rfl rfl rfl (by decide +kernel) ⟨Nat.le_of_ble_eq_true rfl, Nat.le_of_ble_eq_true rfl⟩) rfl hl.1 rfl (Nat.le_of_ble_eq_true rfl) dX12_mean_12 ⟨Nat.zero_le _, Nat.zero_le _⟩ (fun y12 hw => ?_)
    refine lv_if_eq (tgt := 27) S.1 S.2.1 dX12_mean_15 (by decide) (fun c15 => ?_) (fun c15 => ?_)
    · have hw := hw.1 c15
      exact b27 u2 hw H locs ls hI (lv_sub hl [0] rfl)
    · have hw := hw.2 c15
      refine lv_iload_n S.1 S.2.1 dX12_mean_18 rfl (lv_at hl 3 rfl) ?_
      refine lv_iconst (v := 0) S.1 S.2.1 dX12_mean_19 (by decide) ?_
      refine lv_iconst (v := 1) S.1 S.2.1 dX12_mean_20 (by decide) ?_
      refine m_si (As := [.int a3, .int (0 : Int32), .int (1 : Int32)]) (rest := []) S hI.2.2.2.1.2.1 (c_X12_in l a3 (0 : Int32) (1 : Int32) _ hw) (va_cwS 3 S.2.2.2.2 gX12_mean_X12_in rfl rfl rfl (by decide +kernel) ⟨Nat.le_of_ble_eq_true rfl, Nat.le_of_ble_eq_true rfl⟩) rfl hl.1 rfl (Nat.le_of_ble_eq_true rfl) dX12_mean_21 ⟨Nat.zero_le _, Nat.zero_le _⟩ (fun y21 hw => ?_)
      refine lv_if_ne (tgt := 29) S.1 S.2.1 dX12_mean_24 (by decide) (fun c24 => ?_) (fun c24 => ?_)
      · have hw := hw.1 c24
        refine lv_aload_n S.1 S.2.1 dX12_mean_29 rfl (lv_at hl 0 rfl) ?_
        refine lv_iload_n S.1 S.2.1 dX12_mean_30 rfl (lv_at hl 1 rfl) ?_
        refine lv_bipush (v := 100) S.1 S.2.1 dX12_mean_31 (by decide) ?_
        refine lv_idiv S.1 S.2.1 dX12_mean_33 hw.1 ?_
        have hw := hw.2
        refine lv_topi (fun y33 ey33 => ?_)
        have hw := hw y33 ey33
        refine lv_iload_n S.1 S.2.1 dX12_mean_34 rfl (lv_at hl 1 rfl) ?_
        refine lv_bipush (v := 100) S.1 S.2.1 dX12_mean_35 (by decide) ?_
        refine lv_irem S.1 S.2.1 dX12_mean_37 hw.1 ?_
        have hw := hw.2
        refine lv_topi (fun y37 ey37 => ?_)
        have hw := hw y37 ey37
        refine lv_iload_n S.1 S.2.1 dX12_mean_38 rfl (lv_at hl 2 rfl) ?_
        refine m_vi (As := [.int y33, .int y37, .int a2]) (rest := []) S (W12_self h r cs) hI rfl (c_X12_meanOf l D h r cs y33 y37 a2 u2 _ hw) (cwV 3 S.2.2.2.2 gX12_mean_X12_meanOf rfl rfl rfl (by decide +kernel) ⟨Nat.le_of_ble_eq_true rfl, Nat.le_of_ble_eq_true rfl⟩) (W12_at0 h r cs u2) rfl rfl hl.1 rfl (Nat.le_of_ble_eq_true rfl) dX12_mean_39 ⟨Nat.zero_le _, Nat.zero_le _⟩ (fun y39 u39 H locs hw hI => ?_)
        refine lv_istore (lv' := [(4, .int y39), (0, .ref h), (1, .int a1), (2, .int a2), (3, .int a3)]) S.1 S.2.1 dX12_mean_42 hl (by decide) rfl (fun ls hl => ?_)
        refine lv_iload S.1 S.2.1 dX12_mean_44 (lv_at hl 0 rfl) ?_
        refine lv_ldc S.1 S.2.1 S.2.2.2.1 (S.2.2.2.2 _ (List.mem_of_getElem? (i := 1) rfl)) dX12_mean_46 ?_
        refine lv_icmp_lt (tgt := 54) S.1 S.2.1 dX12_mean_48 (by decide) (fun c48 => ?_) (fun c48 => ?_)
        · have hw := hw.1 c48
          refine lv_aload_n S.1 S.2.1 dX12_mean_54 rfl (lv_at hl 1 rfl) ?_
          refine m_get S hin hI 0 (W12_at0 h r cs u39) rfl 30 (Nat.le_of_ble_eq_true rfl) (List.mem_of_getElem? (i := 2) rfl) rfl (Ff12_at30 r u39) dX12_mean_55 ?_
          refine lv_iload_n S.1 S.2.1 dX12_mean_58 rfl (lv_at hl 2 rfl) ?_
          refine lv_bipush (v := 100) S.1 S.2.1 dX12_mean_59 (by decide) ?_
          refine lv_irem S.1 S.2.1 dX12_mean_61 hw.1 ?_
          have hw := hw.2
          refine lv_topi (fun y61 ey61 => ?_)
          have hw := hw y61 ey61
          refine lv_iconst (v := 1) S.1 S.2.1 dX12_mean_62 (by decide) ?_
          refine lv_iadd S.1 S.2.1 dX12_mean_63 ?_
          refine lv_topi (fun y63 ey63 => ?_)
          have hw := hw y63 ey63
          refine m_iald S hI 17 0 (W12_at17 h r cs u39) rfl hw.1 dX12_mean_64 ?_
          refine lv_topi (fun y64 ey64 => ?_)
          have hw := hw.2 y64 ey64
          refine lv_istore (lv' := [(5, .int y64), (4, .int y39), (0, .ref h), (1, .int a1), (2, .int a2), (3, .int a3)]) S.1 S.2.1 dX12_mean_65 hl (by decide) rfl (fun ls hl => ?_)
          refine lv_iload S.1 S.2.1 dX12_mean_67 (lv_at hl 1 rfl) ?_
          refine lv_iload S.1 S.2.1 dX12_mean_69 (lv_at hl 0 rfl) ?_
          refine m_si (As := [.int y39, .int y64]) (rest := []) S hI.2.2.2.1.2.1 (c_X12_common l y39 y64 _ hw) (va_cwS 2 S.2.2.2.2 gX12_mean_X12_common rfl rfl rfl (by decide +kernel) ⟨Nat.le_of_ble_eq_true rfl, Nat.le_of_ble_eq_true rfl⟩) rfl hl.1 rfl (Nat.le_of_ble_eq_true rfl) dX12_mean_71 ⟨Nat.zero_le _, Nat.zero_le _⟩ (fun y71 hw => ?_)
          refine lv_istore (lv' := [(6, .int y71), (5, .int y64), (4, .int y39), (0, .ref h), (1, .int a1), (2, .int a2), (3, .int a3)]) S.1 S.2.1 dX12_mean_74 hl (by decide) rfl (fun ls hl => ?_)
          refine lv_iload_n S.1 S.2.1 dX12_mean_76 rfl (lv_at hl 6 rfl) ?_
          refine lv_if_ne (tgt := 88) S.1 S.2.1 dX12_mean_77 (by decide) (fun c77 => ?_) (fun c77 => ?_)
          · have hw := hw.1 c77
            refine lv_iload S.1 S.2.1 dX12_mean_88 (lv_at hl 1 rfl) ?_
            refine lv_iload S.1 S.2.1 dX12_mean_90 (lv_at hl 0 rfl) ?_
            refine lv_idiv S.1 S.2.1 dX12_mean_92 hw.1 ?_
            have hw := hw.2
            refine lv_topi (fun y92 ey92 => ?_)
            have hw := hw y92 ey92
            exact b93 y92 u39 hw H locs ls hI (lv_sub hl [3] rfl)
          · have hw := hw.2 c77
            refine lv_iload S.1 S.2.1 dX12_mean_80 (lv_at hl 2 rfl) ?_
            refine lv_iload S.1 S.2.1 dX12_mean_82 (lv_at hl 0 rfl) ?_
            refine lv_idiv S.1 S.2.1 dX12_mean_84 hw.1 ?_
            have hw := hw.2
            refine lv_topi (fun y84 ey84 => ?_)
            have hw := hw y84 ey84
            refine lv_goto (tgt := 93) S.1 S.2.1 dX12_mean_85 (by decide) ?_
            exact b93 y84 u39 hw H locs ls hI (lv_sub hl [3] rfl)
        · have hw := hw.2 c48
          refine lv_bipush (v := (-2)) S.1 S.2.1 dX12_mean_51 (by decide) ?_
          subst hZ
          exact m_iret S hr hlocks hI hw dX12_mean_53
      · have hw := hw.2 c24
        exact b27 u2 hw H locs ls hI (lv_sub hl [0] rfl)

def wp_X12_meanFirst_p18 (u : ST) (Q : Int32 → ST → Prop) : Prop :=
  Q ((-1) : Int32) u
def wp_X12_meanFirst_p49 (u : ST) (Q : Int32 → ST → Prop) : Prop :=
  Q ((-2) : Int32) u
def wp_X12_meanFirst (a1 : Int32) (a2 : Int32) (u : ST) (Q : Int32 → ST → Prop) : Prop :=
  (wp_X12_isPart a1 u (fun y2 u2 => ((y2 = 0 → wp_X12_meanFirst_p18 u2 Q) ∧ (¬ y2 = 0 → (wp_X12_in a2 (0 : Int32) (6 : Int32) (fun y12 => ((¬ y12 = 0 → (¬ (100 : Int32) = 0 ∧ ∀ y23 : Int32, y23 = a1 / (100 : Int32) → (¬ (100 : Int32) = 0 ∧ ∀ y27 : Int32, y27 = a1 - a1 / (100 : Int32) * (100 : Int32) → ((y23 = y27 → wp_X12_meanFirst_p49 u2 Q) ∧ (¬ y23 = y27 → (¬ (100 : Int32) = 0 ∧ ∀ y35 : Int32, y35 = a1 / (100 : Int32) → (¬ (100 : Int32) = 0 ∧ ∀ y39 : Int32, y39 = a1 - a1 / (100 : Int32) * (100 : Int32) → (wp_X12_meanOf y35 y39 a2 u2 (fun y41 u41 => ((y41 < (1000000 : Int32) → Q (gI u41 31) u41) ∧ (¬ y41 < (1000000 : Int32) → wp_X12_meanFirst_p49 u41 Q))))))))))) ∧ (y12 = 0 → wp_X12_meanFirst_p18 u2 Q))))))))
set_option maxHeartbeats 4000000 in
set_option maxRecDepth 100000 in
theorem c_X12_meanFirst (l : Launch) (D : va_G) (h : Nat) (r : Nat → Nat) (cs : Nat → ClassId) (a1 : Int32) (a2 : Int32) (u : ST) (Q : Int32 → ST → Prop) (hw : wp_X12_meanFirst a1 a2 u Q) : mCi l yX12_meanFirst wsX12_meanFirst ({ frames := 6, cells := 0, slots := 0, locals := 143 } : Room) 0 0 D (mT cs) (W12 h r cs) [.ref h, .int a1, .int a2] u Q := by
  unfold mCi
  refine m_enter (QQ := fun A => va_Qi Q (mPos D (mT cs) A (W12 h r cs)) A) (cc := cX12_meanFirst) (maxL := 3) (ret := (some .int)) (by decide) rfl (Nat.le_of_ble_eq_true rfl) ?_
  intro p e s m args below meth c A ls S hr hlocks hname hl hI
  have S : CallFix p m c cX12_meanFirst 3 s args wsX12_meanFirst RX12 := S
  show W p l e ({ frames := 6, cells := 0, slots := 0, locals := 143 } : Room) s m args below meth c s.heap [] 0 0 (MQ below (va_Qi Q (mPos D (mT cs) A (W12 h r cs)) A) args s 0 0 A) (F0 m 0 ls [])
  generalize hZ : MQ below (va_Qi Q (mPos D (mT cs) A (W12 h r cs)) A) args s 0 0 A = Z
  have hin : ∀ w ∈ wsX120, w ∈ wsX12_meanFirst := fun _ h => List.mem_cons_of_mem _ (List.mem_append_right _ h)
  have hl : lv_has ls 3 [(0, .ref h), (1, .int a1), (2, .int a2)] := hl
  have b18 : ∀ (u : ST), wp_X12_meanFirst_p18 u Q → mGo p l e ({ frames := 6, cells := 0, slots := 0, locals := 143 } : Room) s m args below meth c A Z 3 D (mT cs) (W12 h r cs) 18 [(0, .ref h)] [] u := by
    intro u hw H locs ls hI hl
    unfold wp_X12_meanFirst_p18 at hw
    refine lv_iconst (v := (-1)) S.1 S.2.1 dX12_meanFirst_18 (by decide) ?_
    subst hZ
    exact m_iret S hr hlocks hI hw dX12_meanFirst_19
  have b49 : ∀ (u : ST), wp_X12_meanFirst_p49 u Q → mGo p l e ({ frames := 6, cells := 0, slots := 0, locals := 143 } : Room) s m args below meth c A Z 3 D (mT cs) (W12 h r cs) 49 [(0, .ref h)] [] u := by
    intro u hw H locs ls hI hl
    unfold wp_X12_meanFirst_p49 at hw
    refine lv_bipush (v := (-2)) S.1 S.2.1 dX12_meanFirst_49 (by decide) ?_
    subst hZ
    exact m_iret S hr hlocks hI hw dX12_meanFirst_51
  unfold wp_X12_meanFirst at hw
  obtain ⟨H, hH⟩ : ∃ z : Heap, z = s.heap := ⟨_, rfl⟩
  obtain ⟨locs, hL⟩ : ∃ z : List Loc, z = [] := ⟨_, rfl⟩
  rw [show W p l e ({ frames := 6, cells := 0, slots := 0, locals := 143 } : Room) s m args below meth c s.heap [] 0 0 Z (F0 m 0 ls []) = W p l e ({ frames := 6, cells := 0, slots := 0, locals := 143 } : Room) s m args below meth c H locs 0 0 Z (F0 m 0 ls []) by rw [hH, hL]]
  replace hI : mI D (mT cs) A s.heap s (W12 h r cs u) H locs := by rw [hH, hL]; exact hI
  refine lv_aload_n S.1 S.2.1 dX12_meanFirst_0 rfl (lv_at hl 0 rfl) ?_
  refine lv_iload_n S.1 S.2.1 dX12_meanFirst_1 rfl (lv_at hl 1 rfl) ?_
  refine m_vi (As := [.int a1]) (rest := []) S (W12_self h r cs) hI rfl (c_X12_isPart l D h r cs a1 u _ hw) (cwV 1 S.2.2.2.2 gX12_meanFirst_X12_isPart rfl rfl rfl (by decide +kernel) ⟨Nat.le_of_ble_eq_true rfl, Nat.le_of_ble_eq_true rfl⟩) (W12_at0 h r cs u) rfl rfl hl.1 rfl (Nat.le_of_ble_eq_true rfl) dX12_meanFirst_2 ⟨Nat.zero_le _, Nat.zero_le _⟩ (fun y2 u2 H locs hw hI => ?_)
  refine lv_if_eq (tgt := 18) S.1 S.2.1 dX12_meanFirst_5 (by decide) (fun c5 => ?_) (fun c5 => ?_)
  · have hw := hw.1 c5
    exact b18 u2 hw H locs ls hI (lv_sub hl [0] rfl)
  · have hw := hw.2 c5
    refine lv_iload_n S.1 S.2.1 dX12_meanFirst_8 rfl (lv_at hl 2 rfl) ?_
    refine lv_iconst (v := 0) S.1 S.2.1 dX12_meanFirst_9 (by decide) ?_
    refine lv_bipush (v := 6) S.1 S.2.1 dX12_meanFirst_10 (by decide) ?_
    refine m_si (As := [.int a2, .int (0 : Int32), .int (6 : Int32)]) (rest := []) S hI.2.2.2.1.2.1 (c_X12_in l a2 (0 : Int32) (6 : Int32) _ hw) (va_cwS 3 S.2.2.2.2 gX12_meanFirst_X12_in rfl rfl rfl (by decide +kernel) ⟨Nat.le_of_ble_eq_true rfl, Nat.le_of_ble_eq_true rfl⟩) rfl hl.1 rfl (Nat.le_of_ble_eq_true rfl) dX12_meanFirst_12 ⟨Nat.zero_le _, Nat.zero_le _⟩ (fun y12 hw => ?_)
    refine lv_if_ne (tgt := 20) S.1 S.2.1 dX12_meanFirst_15 (by decide) (fun c15 => ?_) (fun c15 => ?_)
    · have hw := hw.1 c15
      refine lv_iload_n S.1 S.2.1 dX12_meanFirst_20 rfl (lv_at hl 1 rfl) ?_
      refine lv_bipush (v := 100) S.1 S.2.1 dX12_meanFirst_21 (by decide) ?_
      refine lv_idiv S.1 S.2.1 dX12_meanFirst_23 hw.1 ?_
      have hw := hw.2
      refine lv_topi (fun y23 ey23 => ?_)
      have hw := hw y23 ey23
      refine lv_iload_n S.1 S.2.1 dX12_meanFirst_24 rfl (lv_at hl 1 rfl) ?_
      refine lv_bipush (v := 100) S.1 S.2.1 dX12_meanFirst_25 (by decide) ?_
      refine lv_irem S.1 S.2.1 dX12_meanFirst_27 hw.1 ?_
      have hw := hw.2
      refine lv_topi (fun y27 ey27 => ?_)
      have hw := hw y27 ey27
      refine lv_icmp_eq (tgt := 49) S.1 S.2.1 dX12_meanFirst_28 (by decide) (fun c28 => ?_) (fun c28 => ?_)
      · have hw := hw.1 c28
        exact b49 u2 hw H locs ls hI (lv_sub hl [0] rfl)
      · have hw := hw.2 c28
        refine lv_aload_n S.1 S.2.1 dX12_meanFirst_31 rfl (lv_at hl 0 rfl) ?_
        refine lv_iload_n S.1 S.2.1 dX12_meanFirst_32 rfl (lv_at hl 1 rfl) ?_
        refine lv_bipush (v := 100) S.1 S.2.1 dX12_meanFirst_33 (by decide) ?_
        refine lv_idiv S.1 S.2.1 dX12_meanFirst_35 hw.1 ?_
        have hw := hw.2
        refine lv_topi (fun y35 ey35 => ?_)
        have hw := hw y35 ey35
        refine lv_iload_n S.1 S.2.1 dX12_meanFirst_36 rfl (lv_at hl 1 rfl) ?_
        refine lv_bipush (v := 100) S.1 S.2.1 dX12_meanFirst_37 (by decide) ?_
        refine lv_irem S.1 S.2.1 dX12_meanFirst_39 hw.1 ?_
        have hw := hw.2
        refine lv_topi (fun y39 ey39 => ?_)
        have hw := hw y39 ey39
        refine lv_iload_n S.1 S.2.1 dX12_meanFirst_40 rfl (lv_at hl 2 rfl) ?_
        refine m_vi (As := [.int y35, .int y39, .int a2]) (rest := []) S (W12_self h r cs) hI rfl (c_X12_meanOf l D h r cs y35 y39 a2 u2 _ hw) (cwV 3 S.2.2.2.2 gX12_meanFirst_X12_meanOf rfl rfl rfl (by decide +kernel) ⟨Nat.le_of_ble_eq_true rfl, Nat.le_of_ble_eq_true rfl⟩) (W12_at0 h r cs u2) rfl rfl hl.1 rfl (Nat.le_of_ble_eq_true rfl) dX12_meanFirst_41 ⟨Nat.zero_le _, Nat.zero_le _⟩ (fun y41 u41 H locs hw hI => ?_)
        refine lv_ldc S.1 S.2.1 S.2.2.2.1 (S.2.2.2.2 _ (List.mem_of_getElem? (i := 1) rfl)) dX12_meanFirst_44 ?_
        refine lv_icmp_lt (tgt := 52) S.1 S.2.1 dX12_meanFirst_46 (by decide) (fun c46 => ?_) (fun c46 => ?_)
        · have hw := hw.1 c46
          refine lv_aload_n S.1 S.2.1 dX12_meanFirst_52 rfl (lv_at hl 0 rfl) ?_
          refine m_get S hin hI 0 (W12_at0 h r cs u41) rfl 31 (Nat.le_of_ble_eq_true rfl) (List.mem_of_getElem? (i := 2) rfl) rfl (Ff12_at31 r u41) dX12_meanFirst_53 ?_
          subst hZ
          exact m_iret S hr hlocks hI hw dX12_meanFirst_56
        · have hw := hw.2 c46
          exact b49 u41 hw H locs ls hI (lv_sub hl [0] rfl)
    · have hw := hw.2 c15
      exact b18 u2 hw H locs ls hI (lv_sub hl [0] rfl)

def wp_X12_spot (a0 : Int32) (a1 : Int32) (a2 : Int32) (a3 : Int32) (Q : Int32 → Prop) : Prop :=
  (∀ y3 : Int32, y3 = (25 : Int32) * a0 → (∀ y5 : Int32, y5 = y3 + a1 → (∀ y7 : Int32, y7 = y5 * (2 : Int32) → (∀ y9 : Int32, y9 = y7 + a2 → (∀ y12 : Int32, y12 = y9 * (7 : Int32) → (∀ y14 : Int32, y14 = y12 + a3 → Q y14))))))
set_option maxHeartbeats 4000000 in
set_option maxRecDepth 100000 in
theorem c_X12_spot (l : Launch) (a0 : Int32) (a1 : Int32) (a2 : Int32) (a3 : Int32) (Q : Int32 → Prop) (hw : wp_X12_spot a0 a1 a2 a3 Q) : mTi l yX12_spot wsX12_spot ({ frames := 0, cells := 0, slots := 0, locals := 0 } : Room) [.int a0, .int a1, .int a2, .int a3] Q := by
  refine m_enterT (cc := cX12_spot) (maxL := 4) (ret := (some .int)) (by decide) rfl (Nat.le_of_ble_eq_true rfl) ?_
  intro p e s m args below meth c ls S hr hlocks hname hl hN
  have S : CallFix p m c cX12_spot 4 s args wsX12_spot RX12 := S
  generalize hZ : MQ below (vp_Si Q) args s 0 0 (fun _ => False) = Z
  have hl : lv_has ls 4 [(0, .int a0), (1, .int a1), (2, .int a2), (3, .int a3)] := hl
  unfold wp_X12_spot at hw
  refine lv_bipush (v := 25) S.1 S.2.1 dX12_spot_0 (by decide) ?_
  refine lv_iload_n S.1 S.2.1 dX12_spot_2 rfl (lv_at hl 0 rfl) ?_
  refine lv_imul S.1 S.2.1 dX12_spot_3 ?_
  refine lv_topi (fun y3 ey3 => ?_)
  have hw := hw y3 ey3
  refine lv_iload_n S.1 S.2.1 dX12_spot_4 rfl (lv_at hl 1 rfl) ?_
  refine lv_iadd S.1 S.2.1 dX12_spot_5 ?_
  refine lv_topi (fun y5 ey5 => ?_)
  have hw := hw y5 ey5
  refine lv_iconst (v := 2) S.1 S.2.1 dX12_spot_6 (by decide) ?_
  refine lv_imul S.1 S.2.1 dX12_spot_7 ?_
  refine lv_topi (fun y7 ey7 => ?_)
  have hw := hw y7 ey7
  refine lv_iload_n S.1 S.2.1 dX12_spot_8 rfl (lv_at hl 2 rfl) ?_
  refine lv_iadd S.1 S.2.1 dX12_spot_9 ?_
  refine lv_topi (fun y9 ey9 => ?_)
  have hw := hw y9 ey9
  refine lv_bipush (v := 7) S.1 S.2.1 dX12_spot_10 (by decide) ?_
  refine lv_imul S.1 S.2.1 dX12_spot_12 ?_
  refine lv_topi (fun y12 ey12 => ?_)
  have hw := hw y12 ey12
  refine lv_iload_n S.1 S.2.1 dX12_spot_13 rfl (lv_at hl 3 rfl) ?_
  refine lv_iadd S.1 S.2.1 dX12_spot_14 ?_
  refine lv_topi (fun y14 ey14 => ?_)
  have hw := hw y14 ey14
  subst hZ
  exact m_tiret S hr hlocks hw dX12_spot_15

def wp_X12_leastTrodden_p134 (t0 : Int32) (u : ST) (Q : Int32 → ST → Prop) : Prop :=
  Q t0 u
def wp_X12_leastTrodden_p120 (x5 : Int32) (u : ST) (Q : Int32 → ST → Prop) : Prop :=
  ((x5 ≤ (1000000 : Int32) → wp_X12_leastTrodden_p134 x5 u Q) ∧ (¬ x5 ≤ (1000000 : Int32) → wp_X12_leastTrodden_p134 (1000000 : Int32) u Q))
def wp_X12_leastTrodden_p114 (x1 : Int32) (x2 : Int32) (x3 : Int32) (x4 : Int32) (x5 : Int32) (x6 : Int32) (u : ST) (B24 : Int32 → Int32 → Int32 → Int32 → Int32 → Int32 → ST → Prop) (Q : Int32 → ST → Prop) : Prop :=
  (∀ y114 : Int32, y114 = x6 + 1 → B24 x1 x2 x3 x4 x5 y114 u)
def wp_X12_leastTrodden_p52 (x1 : Int32) (x2 : Int32) (x3 : Int32) (x4 : Int32) (x5 : Int32) (x6 : Int32) (t0 : Int32) (u : ST) (B24 : Int32 → Int32 → Int32 → Int32 → Int32 → Int32 → ST → Prop) (Q : Int32 → ST → Prop) : Prop :=
  (∀ y64 : Int32, y64 = x6 - (1 : Int32) → (∀ y69 : Int32, y69 = x4 - (1 : Int32) → (wp_X12_spot x1 y64 (1 : Int32) y69 (fun y70 => (vp_in y70 8750 ∧ ∀ y73 : Int32, y73 = gA u 32 y70.toNatClampNeg → (wp_X12_spot x6 x2 (0 : Int32) x4 (fun y84 => (vp_in y84 8750 ∧ ∀ y87 : Int32, y87 = gA u 32 y84.toNatClampNeg → (wp_X12_greater y73 y87 (fun y88 => (∀ y91 : Int32, y91 = t0 + y88 → ((y91 < x5 → (∀ u111 : ST, u111 = sI u 33 x6 → wp_X12_leastTrodden_p114 x1 x2 x3 x4 y91 x6 u111 B24 Q)) ∧ (¬ y91 < x5 → wp_X12_leastTrodden_p114 x1 x2 x3 x4 x5 x6 u B24 Q)))))))))))))
def wp_X12_leastTrodden_p24b (x1 : Int32) (x2 : Int32) (x3 : Int32) (x4 : Int32) (x5 : Int32) (x6 : Int32) (u : ST) (B24 : Int32 → Int32 → Int32 → Int32 → Int32 → Int32 → ST → Prop) (Q : Int32 → ST → Prop) : Prop :=
  ((x2 < x6 → wp_X12_leastTrodden_p120 x5 u Q) ∧ (¬ x2 < x6 → ((x4 ≤ 0 → wp_X12_leastTrodden_p120 x5 u Q) ∧ (¬ x4 ≤ 0 → ((x6 ≤ x3 → (∀ y51 : Int32, y51 = x3 - x6 → wp_X12_leastTrodden_p52 x1 x2 x3 x4 x5 x6 y51 u B24 Q)) ∧ (¬ x6 ≤ x3 → (∀ y44 : Int32, y44 = x6 - x3 → wp_X12_leastTrodden_p52 x1 x2 x3 x4 x5 x6 y44 u B24 Q)))))))
def wp_X12_leastTrodden_p24 (x1 : Int32) (x2 : Int32) (x3 : Int32) (x4 : Int32) (x5 : Int32) (x6 : Int32) (u : ST) (Q : Int32 → ST → Prop) : Prop := ∃ (I : Int32 → Int32 → Int32 → Int32 → Int32 → Int32 → ST → Prop) (μ : Int32 → Int32 → Int32 → Int32 → Int32 → Int32 → ST → Nat), I x1 x2 x3 x4 x5 x6 u ∧ ∀ (x1 : Int32) (x2 : Int32) (x3 : Int32) (x4 : Int32) (x5 : Int32) (x6 : Int32) (u : ST), I x1 x2 x3 x4 x5 x6 u → wp_X12_leastTrodden_p24b x1 x2 x3 x4 x5 x6 u (fun yx1 yx2 yx3 yx4 yx5 yx6 yu => I yx1 yx2 yx3 yx4 yx5 yx6 yu ∧ μ yx1 yx2 yx3 yx4 yx5 yx6 yu < μ x1 x2 x3 x4 x5 x6 u) Q
def wp_X12_leastTrodden_p11 (x1 : Int32) (x2 : Int32) (x3 : Int32) (x4 : Int32) (t0 : Int32) (u : ST) (Q : Int32 → ST → Prop) : Prop :=
  (∀ u16 : ST, u16 = sI u 33 ((-2) : Int32) → (∀ y21 : Int32, y21 = x1 + (1 : Int32) → wp_X12_leastTrodden_p24 x1 x2 x3 x4 t0 y21 u16 Q))
def wp_X12_leastTrodden (a1 : Int32) (a2 : Int32) (a3 : Int32) (a4 : Int32) (u : ST) (Q : Int32 → ST → Prop) : Prop :=
  ((¬ a1 = a2 → wp_X12_leastTrodden_p11 a1 a2 a3 a4 (1000000 : Int32) u Q) ∧ (a1 = a2 → wp_X12_leastTrodden_p11 a1 a2 a3 a4 (0 : Int32) u Q))
set_option maxHeartbeats 4000000 in
set_option maxRecDepth 100000 in
theorem c_X12_leastTrodden (l : Launch) (D : va_G) (h : Nat) (r : Nat → Nat) (cs : Nat → ClassId) (a1 : Int32) (a2 : Int32) (a3 : Int32) (a4 : Int32) (u : ST) (Q : Int32 → ST → Prop) (hw : wp_X12_leastTrodden a1 a2 a3 a4 u Q) : mCi l yX12_leastTrodden wsX12_leastTrodden ({ frames := 1, cells := 0, slots := 0, locals := 23 } : Room) 0 0 D (mT cs) (W12 h r cs) [.ref h, .int a1, .int a2, .int a3, .int a4] u Q := by
  unfold mCi
  refine m_enter (QQ := fun A => va_Qi Q (mPos D (mT cs) A (W12 h r cs)) A) (cc := cX12_leastTrodden) (maxL := 9) (ret := (some .int)) (by decide) rfl (Nat.le_of_ble_eq_true rfl) ?_
  intro p e s m args below meth c A ls S hr hlocks hname hl hI
  have S : CallFix p m c cX12_leastTrodden 9 s args wsX12_leastTrodden RX12 := S
  show W p l e ({ frames := 1, cells := 0, slots := 0, locals := 23 } : Room) s m args below meth c s.heap [] 0 0 (MQ below (va_Qi Q (mPos D (mT cs) A (W12 h r cs)) A) args s 0 0 A) (F0 m 0 ls [])
  generalize hZ : MQ below (va_Qi Q (mPos D (mT cs) A (W12 h r cs)) A) args s 0 0 A = Z
  have hin : ∀ w ∈ wsX120, w ∈ wsX12_leastTrodden := fun _ h => List.mem_cons_of_mem _ (List.mem_append_right _ h)
  have hl : lv_has ls 9 [(0, .ref h), (1, .int a1), (2, .int a2), (3, .int a3), (4, .int a4)] := hl
  have b134 : ∀ (t0 : Int32) (u : ST), wp_X12_leastTrodden_p134 t0 u Q → mGo p l e ({ frames := 1, cells := 0, slots := 0, locals := 23 } : Room) s m args below meth c A Z 9 D (mT cs) (W12 h r cs) 134 [(0, .ref h)] [.int t0] u := by
    intro t0 u hw H locs ls hI hl
    unfold wp_X12_leastTrodden_p134 at hw
    subst hZ
    exact m_iret S hr hlocks hI hw dX12_leastTrodden_134
  have b120 : ∀ (x5 : Int32) (u : ST), wp_X12_leastTrodden_p120 x5 u Q → mGo p l e ({ frames := 1, cells := 0, slots := 0, locals := 23 } : Room) s m args below meth c A Z 9 D (mT cs) (W12 h r cs) 120 [(0, .ref h), (5, .int x5)] [] u := by
    intro x5 u hw H locs ls hI hl
    unfold wp_X12_leastTrodden_p120 at hw
    refine lv_iload S.1 S.2.1 dX12_leastTrodden_120 (lv_at hl 1 rfl) ?_
    refine lv_ldc S.1 S.2.1 S.2.2.2.1 (S.2.2.2.2 _ (List.mem_of_getElem? (i := 1) rfl)) dX12_leastTrodden_122 ?_
    refine lv_icmp_le (tgt := 132) S.1 S.2.1 dX12_leastTrodden_124 (by decide) (fun c124 => ?_) (fun c124 => ?_)
    · have hw := hw.1 c124
      refine lv_iload S.1 S.2.1 dX12_leastTrodden_132 (lv_at hl 1 rfl) ?_
      exact b134 x5 u hw H locs ls hI (lv_sub hl [0] rfl)
    · have hw := hw.2 c124
      refine lv_ldc S.1 S.2.1 S.2.2.2.1 (S.2.2.2.2 _ (List.mem_of_getElem? (i := 1) rfl)) dX12_leastTrodden_127 ?_
      refine lv_goto (tgt := 134) S.1 S.2.1 dX12_leastTrodden_129 (by decide) ?_
      exact b134 (1000000 : Int32) u hw H locs ls hI (lv_sub hl [0] rfl)
  have b114 : ∀ (B24 : Int32 → Int32 → Int32 → Int32 → Int32 → Int32 → ST → Prop), (∀ (x1 : Int32) (x2 : Int32) (x3 : Int32) (x4 : Int32) (x5 : Int32) (x6 : Int32) (u : ST), B24 x1 x2 x3 x4 x5 x6 u → mGo p l e ({ frames := 1, cells := 0, slots := 0, locals := 23 } : Room) s m args below meth c A Z 9 D (mT cs) (W12 h r cs) 24 [(0, .ref h), (1, .int x1), (2, .int x2), (3, .int x3), (4, .int x4), (5, .int x5), (6, .int x6)] [] u) → ∀ (x1 : Int32) (x2 : Int32) (x3 : Int32) (x4 : Int32) (x5 : Int32) (x6 : Int32) (u : ST), wp_X12_leastTrodden_p114 x1 x2 x3 x4 x5 x6 u B24 Q → mGo p l e ({ frames := 1, cells := 0, slots := 0, locals := 23 } : Room) s m args below meth c A Z 9 D (mT cs) (W12 h r cs) 114 [(0, .ref h), (1, .int x1), (2, .int x2), (3, .int x3), (4, .int x4), (5, .int x5), (6, .int x6)] [] u := by
    intro B24 hB24 x1 x2 x3 x4 x5 x6 u hw H locs ls hI hl
    unfold wp_X12_leastTrodden_p114 at hw
    obtain ⟨y114, ey114⟩ : ∃ z : Int32, z = x6 + 1 := ⟨_, rfl⟩
    have hw := hw y114 ey114
    refine lv_iinc (v := y114) (lv' := [(6, .int y114), (0, .ref h), (1, .int x1), (2, .int x2), (3, .int x3), (4, .int x4), (5, .int x5)]) S.1 S.2.1 dX12_leastTrodden_114 hl (k := 6) rfl (by rw [ey114]; rfl) (by decide) rfl (fun ls hl => ?_)
    refine lv_goto (tgt := 24) S.1 S.2.1 dX12_leastTrodden_117 (by decide) ?_
    exact hB24 x1 x2 x3 x4 x5 y114 u hw H locs ls hI (lv_sub hl [1, 2, 3, 4, 5, 6, 0] rfl)
  have b52 : ∀ (B24 : Int32 → Int32 → Int32 → Int32 → Int32 → Int32 → ST → Prop), (∀ (x1 : Int32) (x2 : Int32) (x3 : Int32) (x4 : Int32) (x5 : Int32) (x6 : Int32) (u : ST), B24 x1 x2 x3 x4 x5 x6 u → mGo p l e ({ frames := 1, cells := 0, slots := 0, locals := 23 } : Room) s m args below meth c A Z 9 D (mT cs) (W12 h r cs) 24 [(0, .ref h), (1, .int x1), (2, .int x2), (3, .int x3), (4, .int x4), (5, .int x5), (6, .int x6)] [] u) → ∀ (x1 : Int32) (x2 : Int32) (x3 : Int32) (x4 : Int32) (x5 : Int32) (x6 : Int32) (t0 : Int32) (u : ST), wp_X12_leastTrodden_p52 x1 x2 x3 x4 x5 x6 t0 u B24 Q → mGo p l e ({ frames := 1, cells := 0, slots := 0, locals := 23 } : Room) s m args below meth c A Z 9 D (mT cs) (W12 h r cs) 52 [(0, .ref h), (1, .int x1), (2, .int x2), (3, .int x3), (4, .int x4), (5, .int x5), (6, .int x6)] [.int t0] u := by
    intro B24 hB24 x1 x2 x3 x4 x5 x6 t0 u hw H locs ls hI hl
    unfold wp_X12_leastTrodden_p52 at hw
    refine lv_istore (lv' := [(7, .int t0), (0, .ref h), (1, .int x1), (2, .int x2), (3, .int x3), (4, .int x4), (5, .int x5), (6, .int x6)]) S.1 S.2.1 dX12_leastTrodden_52 hl (by decide) rfl (fun ls hl => ?_)
    refine lv_iload S.1 S.2.1 dX12_leastTrodden_54 (lv_at hl 0 rfl) ?_
    refine lv_aload_n S.1 S.2.1 dX12_leastTrodden_56 rfl (lv_at hl 1 rfl) ?_
    refine m_get S hin hI 0 (W12_at0 h r cs u) rfl 32 (Nat.le_of_ble_eq_true rfl) (List.mem_of_getElem? (i := 3) rfl) rfl (Ff12_at32 r u) dX12_leastTrodden_57 ?_
    refine lv_iload_n S.1 S.2.1 dX12_leastTrodden_60 rfl (lv_at hl 2 rfl) ?_
    refine lv_iload S.1 S.2.1 dX12_leastTrodden_61 (lv_at hl 7 rfl) ?_
    refine lv_iconst (v := 1) S.1 S.2.1 dX12_leastTrodden_63 (by decide) ?_
    refine lv_isub S.1 S.2.1 dX12_leastTrodden_64 ?_
    refine lv_topi (fun y64 ey64 => ?_)
    have hw := hw y64 ey64
    refine lv_iconst (v := 1) S.1 S.2.1 dX12_leastTrodden_65 (by decide) ?_
    refine lv_iload S.1 S.2.1 dX12_leastTrodden_66 (lv_at hl 5 rfl) ?_
    refine lv_iconst (v := 1) S.1 S.2.1 dX12_leastTrodden_68 (by decide) ?_
    refine lv_isub S.1 S.2.1 dX12_leastTrodden_69 ?_
    refine lv_topi (fun y69 ey69 => ?_)
    have hw := hw y69 ey69
    refine m_si (As := [.int x1, .int y64, .int (1 : Int32), .int y69]) (rest := [.ref (r 32), .int t0]) S hI.2.2.2.1.2.1 (c_X12_spot l x1 y64 (1 : Int32) y69 _ hw) (va_cwS 4 S.2.2.2.2 gX12_leastTrodden_X12_spot rfl rfl rfl (by decide +kernel) ⟨Nat.le_of_ble_eq_true rfl, Nat.le_of_ble_eq_true rfl⟩) rfl hl.1 rfl (Nat.le_of_ble_eq_true rfl) dX12_leastTrodden_70 ⟨Nat.zero_le _, Nat.zero_le _⟩ (fun y70 hw => ?_)
    refine m_iald S hI 18 0 (W12_at18 h r cs u) rfl hw.1 dX12_leastTrodden_73 ?_
    refine lv_topi (fun y73 ey73 => ?_)
    have hw := hw.2 y73 ey73
    refine lv_aload_n S.1 S.2.1 dX12_leastTrodden_74 rfl (lv_at hl 1 rfl) ?_
    refine m_get S hin hI 0 (W12_at0 h r cs u) rfl 32 (Nat.le_of_ble_eq_true rfl) (List.mem_of_getElem? (i := 3) rfl) rfl (Ff12_at32 r u) dX12_leastTrodden_75 ?_
    refine lv_iload S.1 S.2.1 dX12_leastTrodden_78 (lv_at hl 7 rfl) ?_
    refine lv_iload_n S.1 S.2.1 dX12_leastTrodden_80 rfl (lv_at hl 3 rfl) ?_
    refine lv_iconst (v := 0) S.1 S.2.1 dX12_leastTrodden_81 (by decide) ?_
    refine lv_iload S.1 S.2.1 dX12_leastTrodden_82 (lv_at hl 5 rfl) ?_
    refine m_si (As := [.int x6, .int x2, .int (0 : Int32), .int x4]) (rest := [.ref (r 32), .int y73, .int t0]) S hI.2.2.2.1.2.1 (c_X12_spot l x6 x2 (0 : Int32) x4 _ hw) (va_cwS 4 S.2.2.2.2 gX12_leastTrodden_X12_spot rfl rfl rfl (by decide +kernel) ⟨Nat.le_of_ble_eq_true rfl, Nat.le_of_ble_eq_true rfl⟩) rfl hl.1 rfl (Nat.le_of_ble_eq_true rfl) dX12_leastTrodden_84 ⟨Nat.zero_le _, Nat.zero_le _⟩ (fun y84 hw => ?_)
    refine m_iald S hI 18 0 (W12_at18 h r cs u) rfl hw.1 dX12_leastTrodden_87 ?_
    refine lv_topi (fun y87 ey87 => ?_)
    have hw := hw.2 y87 ey87
    refine m_si (As := [.int y73, .int y87]) (rest := [.int t0]) S hI.2.2.2.1.2.1 (c_X12_greater l y73 y87 _ hw) (va_cwS 2 S.2.2.2.2 gX12_leastTrodden_X12_greater rfl rfl rfl (by decide +kernel) ⟨Nat.le_of_ble_eq_true rfl, Nat.le_of_ble_eq_true rfl⟩) rfl hl.1 rfl (Nat.le_of_ble_eq_true rfl) dX12_leastTrodden_88 ⟨Nat.zero_le _, Nat.zero_le _⟩ (fun y88 hw => ?_)
    refine lv_iadd S.1 S.2.1 dX12_leastTrodden_91 ?_
    refine lv_topi (fun y91 ey91 => ?_)
    have hw := hw y91 ey91
    refine lv_istore (lv' := [(8, .int y91), (7, .int t0), (0, .ref h), (1, .int x1), (2, .int x2), (3, .int x3), (4, .int x4), (5, .int x5), (6, .int x6)]) S.1 S.2.1 dX12_leastTrodden_92 hl (by decide) rfl (fun ls hl => ?_)
    refine lv_iload S.1 S.2.1 dX12_leastTrodden_94 (lv_at hl 0 rfl) ?_
    refine lv_iload S.1 S.2.1 dX12_leastTrodden_96 (lv_at hl 7 rfl) ?_
    refine lv_icmp_lt (tgt := 104) S.1 S.2.1 dX12_leastTrodden_98 (by decide) (fun c98 => ?_) (fun c98 => ?_)
    · have hw := hw.1 c98
      refine lv_iload S.1 S.2.1 dX12_leastTrodden_104 (lv_at hl 0 rfl) ?_
      refine lv_istore (lv' := [(5, .int y91), (8, .int y91), (7, .int t0), (0, .ref h), (1, .int x1), (2, .int x2), (3, .int x3), (4, .int x4), (6, .int x6)]) S.1 S.2.1 dX12_leastTrodden_106 hl (by decide) rfl (fun ls hl => ?_)
      refine lv_aload_n S.1 S.2.1 dX12_leastTrodden_108 rfl (lv_at hl 3 rfl) ?_
      refine lv_iload S.1 S.2.1 dX12_leastTrodden_109 (lv_at hl 8 rfl) ?_
      obtain ⟨u111, eu111⟩ : ∃ z : ST, z = sI u 33 x6 := ⟨_, rfl⟩
      have hw := hw u111 eu111
      refine m_put S hin tyX12_ok nmX12 hI 0 (W12_at0 h r cs u) rfl 33 (Nat.le_of_ble_eq_true rfl) (List.mem_of_getElem? (i := 2) rfl) rfl rfl rfl rfl (Nat.le_of_ble_eq_true rfl) (W12_sI33 h r cs u u111 x6 eu111) dX12_leastTrodden_111 (fun H locs hI => ?_)
      exact b114 B24 hB24 x1 x2 x3 x4 y91 x6 u111 hw H locs ls hI (lv_sub hl [3, 4, 5, 6, 7, 0, 8] rfl)
    · have hw := hw.2 c98
      refine lv_goto (tgt := 114) S.1 S.2.1 dX12_leastTrodden_101 (by decide) ?_
      exact b114 B24 hB24 x1 x2 x3 x4 x5 x6 u hw H locs ls hI (lv_sub hl [2, 3, 4, 5, 6, 7, 8] rfl)
  have b24b : ∀ (B24 : Int32 → Int32 → Int32 → Int32 → Int32 → Int32 → ST → Prop), (∀ (x1 : Int32) (x2 : Int32) (x3 : Int32) (x4 : Int32) (x5 : Int32) (x6 : Int32) (u : ST), B24 x1 x2 x3 x4 x5 x6 u → mGo p l e ({ frames := 1, cells := 0, slots := 0, locals := 23 } : Room) s m args below meth c A Z 9 D (mT cs) (W12 h r cs) 24 [(0, .ref h), (1, .int x1), (2, .int x2), (3, .int x3), (4, .int x4), (5, .int x5), (6, .int x6)] [] u) → ∀ (x1 : Int32) (x2 : Int32) (x3 : Int32) (x4 : Int32) (x5 : Int32) (x6 : Int32) (u : ST), wp_X12_leastTrodden_p24b x1 x2 x3 x4 x5 x6 u B24 Q → mGo p l e ({ frames := 1, cells := 0, slots := 0, locals := 23 } : Room) s m args below meth c A Z 9 D (mT cs) (W12 h r cs) 24 [(0, .ref h), (1, .int x1), (2, .int x2), (3, .int x3), (4, .int x4), (5, .int x5), (6, .int x6)] [] u := by
    intro B24 hB24 x1 x2 x3 x4 x5 x6 u hw H locs ls hI hl
    unfold wp_X12_leastTrodden_p24b at hw
    refine lv_iload S.1 S.2.1 dX12_leastTrodden_24 (lv_at hl 6 rfl) ?_
    refine lv_iload_n S.1 S.2.1 dX12_leastTrodden_26 rfl (lv_at hl 2 rfl) ?_
    refine lv_icmp_gt (tgt := 120) S.1 S.2.1 dX12_leastTrodden_27 (by decide) (fun c27 => ?_) (fun c27 => ?_)
    · have hw := hw.1 c27
      exact b120 x5 u hw H locs ls hI (lv_sub hl [0, 5] rfl)
    · have hw := hw.2 c27
      refine lv_iload S.1 S.2.1 dX12_leastTrodden_30 (lv_at hl 4 rfl) ?_
      refine lv_if_le (tgt := 120) S.1 S.2.1 dX12_leastTrodden_32 (by decide) (fun c32 => ?_) (fun c32 => ?_)
      · have hw := hw.1 c32
        exact b120 x5 u hw H locs ls hI (lv_sub hl [0, 5] rfl)
      · have hw := hw.2 c32
        refine lv_iload S.1 S.2.1 dX12_leastTrodden_35 (lv_at hl 6 rfl) ?_
        refine lv_iload_n S.1 S.2.1 dX12_leastTrodden_37 rfl (lv_at hl 3 rfl) ?_
        refine lv_icmp_le (tgt := 48) S.1 S.2.1 dX12_leastTrodden_38 (by decide) (fun c38 => ?_) (fun c38 => ?_)
        · have hw := hw.1 c38
          refine lv_iload_n S.1 S.2.1 dX12_leastTrodden_48 rfl (lv_at hl 3 rfl) ?_
          refine lv_iload S.1 S.2.1 dX12_leastTrodden_49 (lv_at hl 6 rfl) ?_
          refine lv_isub S.1 S.2.1 dX12_leastTrodden_51 ?_
          refine lv_topi (fun y51 ey51 => ?_)
          have hw := hw y51 ey51
          exact b52 B24 hB24 x1 x2 x3 x4 x5 x6 y51 u hw H locs ls hI (lv_sub hl [0, 1, 2, 3, 4, 5, 6] rfl)
        · have hw := hw.2 c38
          refine lv_iload S.1 S.2.1 dX12_leastTrodden_41 (lv_at hl 6 rfl) ?_
          refine lv_iload_n S.1 S.2.1 dX12_leastTrodden_43 rfl (lv_at hl 3 rfl) ?_
          refine lv_isub S.1 S.2.1 dX12_leastTrodden_44 ?_
          refine lv_topi (fun y44 ey44 => ?_)
          have hw := hw y44 ey44
          refine lv_goto (tgt := 52) S.1 S.2.1 dX12_leastTrodden_45 (by decide) ?_
          exact b52 B24 hB24 x1 x2 x3 x4 x5 x6 y44 u hw H locs ls hI (lv_sub hl [0, 1, 2, 3, 4, 5, 6] rfl)
  have b24 : ∀ (x1 : Int32) (x2 : Int32) (x3 : Int32) (x4 : Int32) (x5 : Int32) (x6 : Int32) (u : ST), wp_X12_leastTrodden_p24 x1 x2 x3 x4 x5 x6 u Q → mGo p l e ({ frames := 1, cells := 0, slots := 0, locals := 23 } : Room) s m args below meth c A Z 9 D (mT cs) (W12 h r cs) 24 [(0, .ref h), (1, .int x1), (2, .int x2), (3, .int x3), (4, .int x4), (5, .int x5), (6, .int x6)] [] u := by
    intro x1 x2 x3 x4 x5 x6 u hw
    obtain ⟨I, μ, h0, hs⟩ := hw
    have key : ∀ (n : Nat) (x1 : Int32) (x2 : Int32) (x3 : Int32) (x4 : Int32) (x5 : Int32) (x6 : Int32) (u : ST), μ x1 x2 x3 x4 x5 x6 u = n → I x1 x2 x3 x4 x5 x6 u → mGo p l e ({ frames := 1, cells := 0, slots := 0, locals := 23 } : Room) s m args below meth c A Z 9 D (mT cs) (W12 h r cs) 24 [(0, .ref h), (1, .int x1), (2, .int x2), (3, .int x3), (4, .int x4), (5, .int x5), (6, .int x6)] [] u := by
      intro n
      induction n using Nat.strongRecOn with
      | ind n ih =>
        intro x1 x2 x3 x4 x5 x6 u hn hi
        exact b24b (fun yx1 yx2 yx3 yx4 yx5 yx6 yu => I yx1 yx2 yx3 yx4 yx5 yx6 yu ∧ μ yx1 yx2 yx3 yx4 yx5 yx6 yu < μ x1 x2 x3 x4 x5 x6 u) (fun yx1 yx2 yx3 yx4 yx5 yx6 yu hb => ih _ (hn ▸ hb.2) yx1 yx2 yx3 yx4 yx5 yx6 yu rfl hb.1) x1 x2 x3 x4 x5 x6 u (hs x1 x2 x3 x4 x5 x6 u hi)
    exact key _ x1 x2 x3 x4 x5 x6 u rfl h0
  have b11 : ∀ (x1 : Int32) (x2 : Int32) (x3 : Int32) (x4 : Int32) (t0 : Int32) (u : ST), wp_X12_leastTrodden_p11 x1 x2 x3 x4 t0 u Q → mGo p l e ({ frames := 1, cells := 0, slots := 0, locals := 23 } : Room) s m args below meth c A Z 9 D (mT cs) (W12 h r cs) 11 [(0, .ref h), (1, .int x1), (2, .int x2), (3, .int x3), (4, .int x4)] [.int t0] u := by
    intro x1 x2 x3 x4 t0 u hw H locs ls hI hl
    unfold wp_X12_leastTrodden_p11 at hw
    refine lv_istore (lv' := [(5, .int t0), (0, .ref h), (1, .int x1), (2, .int x2), (3, .int x3), (4, .int x4)]) S.1 S.2.1 dX12_leastTrodden_11 hl (by decide) rfl (fun ls hl => ?_)
    refine lv_aload_n S.1 S.2.1 dX12_leastTrodden_13 rfl (lv_at hl 1 rfl) ?_
    refine lv_bipush (v := (-2)) S.1 S.2.1 dX12_leastTrodden_14 (by decide) ?_
    obtain ⟨u16, eu16⟩ : ∃ z : ST, z = sI u 33 ((-2) : Int32) := ⟨_, rfl⟩
    have hw := hw u16 eu16
    refine m_put S hin tyX12_ok nmX12 hI 0 (W12_at0 h r cs u) rfl 33 (Nat.le_of_ble_eq_true rfl) (List.mem_of_getElem? (i := 2) rfl) rfl rfl rfl rfl (Nat.le_of_ble_eq_true rfl) (W12_sI33 h r cs u u16 ((-2) : Int32) eu16) dX12_leastTrodden_16 (fun H locs hI => ?_)
    refine lv_iload_n S.1 S.2.1 dX12_leastTrodden_19 rfl (lv_at hl 2 rfl) ?_
    refine lv_iconst (v := 1) S.1 S.2.1 dX12_leastTrodden_20 (by decide) ?_
    refine lv_iadd S.1 S.2.1 dX12_leastTrodden_21 ?_
    refine lv_topi (fun y21 ey21 => ?_)
    have hw := hw y21 ey21
    refine lv_istore (lv' := [(6, .int y21), (5, .int t0), (0, .ref h), (1, .int x1), (2, .int x2), (3, .int x3), (4, .int x4)]) S.1 S.2.1 dX12_leastTrodden_22 hl (by decide) rfl (fun ls hl => ?_)
    exact b24 x1 x2 x3 x4 t0 y21 u16 hw H locs ls hI (lv_sub hl [2, 3, 4, 5, 6, 1, 0] rfl)
  unfold wp_X12_leastTrodden at hw
  obtain ⟨H, hH⟩ : ∃ z : Heap, z = s.heap := ⟨_, rfl⟩
  obtain ⟨locs, hL⟩ : ∃ z : List Loc, z = [] := ⟨_, rfl⟩
  rw [show W p l e ({ frames := 1, cells := 0, slots := 0, locals := 23 } : Room) s m args below meth c s.heap [] 0 0 Z (F0 m 0 ls []) = W p l e ({ frames := 1, cells := 0, slots := 0, locals := 23 } : Room) s m args below meth c H locs 0 0 Z (F0 m 0 ls []) by rw [hH, hL]]
  replace hI : mI D (mT cs) A s.heap s (W12 h r cs u) H locs := by rw [hH, hL]; exact hI
  refine lv_iload_n S.1 S.2.1 dX12_leastTrodden_0 rfl (lv_at hl 1 rfl) ?_
  refine lv_iload_n S.1 S.2.1 dX12_leastTrodden_1 rfl (lv_at hl 2 rfl) ?_
  refine lv_icmp_ne (tgt := 9) S.1 S.2.1 dX12_leastTrodden_2 (by decide) (fun c2 => ?_) (fun c2 => ?_)
  · have hw := hw.1 c2
    refine lv_ldc S.1 S.2.1 S.2.2.2.1 (S.2.2.2.2 _ (List.mem_of_getElem? (i := 1) rfl)) dX12_leastTrodden_9 ?_
    exact b11 a1 a2 a3 a4 (1000000 : Int32) u hw H locs ls hI (lv_sub hl [0, 1, 2, 3, 4] rfl)
  · have hw := hw.2 c2
    refine lv_iconst (v := 0) S.1 S.2.1 dX12_leastTrodden_5 (by decide) ?_
    refine lv_goto (tgt := 11) S.1 S.2.1 dX12_leastTrodden_6 (by decide) ?_
    exact b11 a1 a2 a3 a4 (0 : Int32) u hw H locs ls hI (lv_sub hl [0, 1, 2, 3, 4] rfl)

def wp_X12_trodden_p41 (u : ST) (Q : Int32 → ST → Prop) : Prop :=
  Q ((-1) : Int32) u
def wp_X12_trodden_p228 (t0 : Int32) (u : ST) (Q : Int32 → ST → Prop) : Prop :=
  Q t0 u
def wp_X12_trodden_p85b (x1 : Int32) (x2 : Int32) (x3 : Int32) (x4 : Int32) (x5 : Int32) (x6 : Int32) (u : ST) (B58 : Int32 → Int32 → Int32 → Int32 → ST → Prop) (B70 : Int32 → Int32 → Int32 → Int32 → Int32 → ST → Prop) (B85 : Int32 → Int32 → Int32 → Int32 → Int32 → Int32 → ST → Prop) (Q : Int32 → ST → Prop) : Prop :=
  (((6 : Int32) < x6 → (∀ y169 : Int32, y169 = x5 + 1 → B70 x1 x2 x3 x4 y169 u)) ∧ (¬ (6 : Int32) < x6 → (∀ y102 : Int32, y102 = x5 + x4 → (wp_X12_spot x5 y102 (0 : Int32) x6 (fun y106 => (∀ y116 : Int32, y116 = x5 + x4 → (wp_X12_leastTrodden x5 y116 x5 x6 u (fun y121 u121 => (vp_in y106 8750 ∧ ∀ u124 : ST, u124 = sA u121 32 (upd (gA u121 32) y106.toNatClampNeg y121) → (∀ y135 : Int32, y135 = x5 + x4 → (wp_X12_spot x5 y135 (1 : Int32) x6 (fun y139 => (∀ y149 : Int32, y149 = x5 + x4 → (∀ y154 : Int32, y154 = x5 + x4 → (∀ y156 : Int32, y156 = y154 + (1 : Int32) → (wp_X12_leastTrodden x5 y149 y156 x6 u124 (fun y159 u159 => (vp_in y139 8750 ∧ ∀ u162 : ST, u162 = sA u159 32 (upd (gA u159 32) y139.toNatClampNeg y159) → (∀ y163 : Int32, y163 = x6 + 1 → B85 x1 x2 x3 x4 x5 y163 u162)))))))))))))))))))
def wp_X12_trodden_p85 (x1 : Int32) (x2 : Int32) (x3 : Int32) (x4 : Int32) (x5 : Int32) (x6 : Int32) (u : ST) (B58 : Int32 → Int32 → Int32 → Int32 → ST → Prop) (B70 : Int32 → Int32 → Int32 → Int32 → Int32 → ST → Prop) (Q : Int32 → ST → Prop) : Prop := ∃ (I : Int32 → Int32 → Int32 → Int32 → Int32 → Int32 → ST → Prop) (μ : Int32 → Int32 → Int32 → Int32 → Int32 → Int32 → ST → Nat), I x1 x2 x3 x4 x5 x6 u ∧ ∀ (x1 : Int32) (x2 : Int32) (x3 : Int32) (x4 : Int32) (x5 : Int32) (x6 : Int32) (u : ST), I x1 x2 x3 x4 x5 x6 u → wp_X12_trodden_p85b x1 x2 x3 x4 x5 x6 u B58 B70 (fun yx1 yx2 yx3 yx4 yx5 yx6 yu => I yx1 yx2 yx3 yx4 yx5 yx6 yu ∧ μ yx1 yx2 yx3 yx4 yx5 yx6 yu < μ x1 x2 x3 x4 x5 x6 u) Q
def wp_X12_trodden_p70b (x1 : Int32) (x2 : Int32) (x3 : Int32) (x4 : Int32) (x5 : Int32) (u : ST) (B58 : Int32 → Int32 → Int32 → Int32 → ST → Prop) (B70 : Int32 → Int32 → Int32 → Int32 → Int32 → ST → Prop) (Q : Int32 → ST → Prop) : Prop :=
  (∀ y74 : Int32, y74 = x5 + x4 → (((gI u 1) < y74 → (∀ y175 : Int32, y175 = x4 + 1 → B58 x1 x2 x3 y175 u)) ∧ (¬ (gI u 1) < y74 → wp_X12_trodden_p85 x1 x2 x3 x4 x5 (0 : Int32) u B58 B70 Q)))
def wp_X12_trodden_p70 (x1 : Int32) (x2 : Int32) (x3 : Int32) (x4 : Int32) (x5 : Int32) (u : ST) (B58 : Int32 → Int32 → Int32 → Int32 → ST → Prop) (Q : Int32 → ST → Prop) : Prop := ∃ (I : Int32 → Int32 → Int32 → Int32 → Int32 → ST → Prop) (μ : Int32 → Int32 → Int32 → Int32 → Int32 → ST → Nat), I x1 x2 x3 x4 x5 u ∧ ∀ (x1 : Int32) (x2 : Int32) (x3 : Int32) (x4 : Int32) (x5 : Int32) (u : ST), I x1 x2 x3 x4 x5 u → wp_X12_trodden_p70b x1 x2 x3 x4 x5 u B58 (fun yx1 yx2 yx3 yx4 yx5 yu => I yx1 yx2 yx3 yx4 yx5 yu ∧ μ yx1 yx2 yx3 yx4 yx5 yu < μ x1 x2 x3 x4 x5 u) Q
def wp_X12_trodden_p58b (x1 : Int32) (x2 : Int32) (x3 : Int32) (x4 : Int32) (u : ST) (B58 : Int32 → Int32 → Int32 → Int32 → ST → Prop) (Q : Int32 → ST → Prop) : Prop :=
  (((gI u 1) < x4 → (¬ (100 : Int32) = 0 ∧ ∀ y185 : Int32, y185 = x1 / (100 : Int32) → (¬ (100 : Int32) = 0 ∧ ∀ y189 : Int32, y189 = x1 - x1 / (100 : Int32) * (100 : Int32) → (¬ (10 : Int32) = 0 ∧ ∀ y193 : Int32, y193 = x2 / (10 : Int32) → (¬ (10 : Int32) = 0 ∧ ∀ y197 : Int32, y197 = x2 - x2 / (10 : Int32) * (10 : Int32) → (wp_X12_leastTrodden y185 y189 y193 y197 u (fun y198 u198 => ((y198 < (1000000 : Int32) → ((¬ x3 = 0 → wp_X12_trodden_p228 (gI u198 33) u198 Q) ∧ (x3 = 0 → wp_X12_trodden_p228 y198 u198 Q))) ∧ (¬ y198 < (1000000 : Int32) → wp_X12_trodden_p228 ((-2) : Int32) u198 Q))))))))) ∧ (¬ (gI u 1) < x4 → wp_X12_trodden_p70 x1 x2 x3 x4 (0 : Int32) u B58 Q))
def wp_X12_trodden_p58 (x1 : Int32) (x2 : Int32) (x3 : Int32) (x4 : Int32) (u : ST) (Q : Int32 → ST → Prop) : Prop := ∃ (I : Int32 → Int32 → Int32 → Int32 → ST → Prop) (μ : Int32 → Int32 → Int32 → Int32 → ST → Nat), I x1 x2 x3 x4 u ∧ ∀ (x1 : Int32) (x2 : Int32) (x3 : Int32) (x4 : Int32) (u : ST), I x1 x2 x3 x4 u → wp_X12_trodden_p58b x1 x2 x3 x4 u (fun yx1 yx2 yx3 yx4 yu => I yx1 yx2 yx3 yx4 yu ∧ μ yx1 yx2 yx3 yx4 yu < μ x1 x2 x3 x4 u) Q
def wp_X12_trodden (a1 : Int32) (a2 : Int32) (a3 : Int32) (u : ST) (Q : Int32 → ST → Prop) : Prop :=
  (wp_X12_isPart a1 u (fun y2 u2 => ((y2 = 0 → wp_X12_trodden_p41 u2 Q) ∧ (¬ y2 = 0 → ((a2 < 0 → wp_X12_trodden_p41 u2 Q) ∧ (¬ a2 < 0 → (¬ (10 : Int32) = 0 ∧ ∀ y15 : Int32, y15 = a2 / (10 : Int32) → (((gI u2 1) < y15 → wp_X12_trodden_p41 u2 Q) ∧ (¬ (gI u2 1) < y15 → (¬ (10 : Int32) = 0 ∧ ∀ y26 : Int32, y26 = a2 - a2 / (10 : Int32) * (10 : Int32) → (((6 : Int32) < y26 → wp_X12_trodden_p41 u2 Q) ∧ (¬ (6 : Int32) < y26 → (wp_X12_in a3 (0 : Int32) (1 : Int32) (fun y35 => ((¬ y35 = 0 → (((gI u2 1) ≤ (24 : Int32) → wp_X12_trodden_p58 a1 a2 a3 (0 : Int32) u2 Q) ∧ (¬ (gI u2 1) ≤ (24 : Int32) → Q ((-5) : Int32) u2))) ∧ (y35 = 0 → wp_X12_trodden_p41 u2 Q))))))))))))))))
set_option maxHeartbeats 4000000 in
set_option maxRecDepth 100000 in
theorem c_X12_trodden (l : Launch) (D : va_G) (h : Nat) (r : Nat → Nat) (cs : Nat → ClassId) (a1 : Int32) (a2 : Int32) (a3 : Int32) (u : ST) (Q : Int32 → ST → Prop) (hw : wp_X12_trodden a1 a2 a3 u Q) : mCi l yX12_trodden wsX12_trodden ({ frames := 2, cells := 0, slots := 0, locals := 51 } : Room) 0 0 D (mT cs) (W12 h r cs) [.ref h, .int a1, .int a2, .int a3] u Q := by
  unfold mCi
  refine m_enter (QQ := fun A => va_Qi Q (mPos D (mT cs) A (W12 h r cs)) A) (cc := cX12_trodden) (maxL := 7) (ret := (some .int)) (by decide) rfl (Nat.le_of_ble_eq_true rfl) ?_
  intro p e s m args below meth c A ls S hr hlocks hname hl hI
  have S : CallFix p m c cX12_trodden 7 s args wsX12_trodden RX12 := S
  show W p l e ({ frames := 2, cells := 0, slots := 0, locals := 51 } : Room) s m args below meth c s.heap [] 0 0 (MQ below (va_Qi Q (mPos D (mT cs) A (W12 h r cs)) A) args s 0 0 A) (F0 m 0 ls [])
  generalize hZ : MQ below (va_Qi Q (mPos D (mT cs) A (W12 h r cs)) A) args s 0 0 A = Z
  have hin : ∀ w ∈ wsX120, w ∈ wsX12_trodden := fun _ h => List.mem_cons_of_mem _ (List.mem_append_right _ h)
  have hl : lv_has ls 7 [(0, .ref h), (1, .int a1), (2, .int a2), (3, .int a3)] := hl
  have b41 : ∀ (u : ST), wp_X12_trodden_p41 u Q → mGo p l e ({ frames := 2, cells := 0, slots := 0, locals := 51 } : Room) s m args below meth c A Z 7 D (mT cs) (W12 h r cs) 41 [(0, .ref h)] [] u := by
    intro u hw H locs ls hI hl
    unfold wp_X12_trodden_p41 at hw
    refine lv_iconst (v := (-1)) S.1 S.2.1 dX12_trodden_41 (by decide) ?_
    subst hZ
    exact m_iret S hr hlocks hI hw dX12_trodden_42
  have b228 : ∀ (t0 : Int32) (u : ST), wp_X12_trodden_p228 t0 u Q → mGo p l e ({ frames := 2, cells := 0, slots := 0, locals := 51 } : Room) s m args below meth c A Z 7 D (mT cs) (W12 h r cs) 228 [(0, .ref h)] [.int t0] u := by
    intro t0 u hw H locs ls hI hl
    unfold wp_X12_trodden_p228 at hw
    subst hZ
    exact m_iret S hr hlocks hI hw dX12_trodden_228
  have b85b : ∀ (B58 : Int32 → Int32 → Int32 → Int32 → ST → Prop), (∀ (x1 : Int32) (x2 : Int32) (x3 : Int32) (x4 : Int32) (u : ST), B58 x1 x2 x3 x4 u → mGo p l e ({ frames := 2, cells := 0, slots := 0, locals := 51 } : Room) s m args below meth c A Z 7 D (mT cs) (W12 h r cs) 58 [(0, .ref h), (1, .int x1), (2, .int x2), (3, .int x3), (4, .int x4)] [] u) → ∀ (B70 : Int32 → Int32 → Int32 → Int32 → Int32 → ST → Prop), (∀ (x1 : Int32) (x2 : Int32) (x3 : Int32) (x4 : Int32) (x5 : Int32) (u : ST), B70 x1 x2 x3 x4 x5 u → mGo p l e ({ frames := 2, cells := 0, slots := 0, locals := 51 } : Room) s m args below meth c A Z 7 D (mT cs) (W12 h r cs) 70 [(0, .ref h), (1, .int x1), (2, .int x2), (3, .int x3), (4, .int x4), (5, .int x5)] [] u) → ∀ (B85 : Int32 → Int32 → Int32 → Int32 → Int32 → Int32 → ST → Prop), (∀ (x1 : Int32) (x2 : Int32) (x3 : Int32) (x4 : Int32) (x5 : Int32) (x6 : Int32) (u : ST), B85 x1 x2 x3 x4 x5 x6 u → mGo p l e ({ frames := 2, cells := 0, slots := 0, locals := 51 } : Room) s m args below meth c A Z 7 D (mT cs) (W12 h r cs) 85 [(0, .ref h), (1, .int x1), (2, .int x2), (3, .int x3), (4, .int x4), (5, .int x5), (6, .int x6)] [] u) → ∀ (x1 : Int32) (x2 : Int32) (x3 : Int32) (x4 : Int32) (x5 : Int32) (x6 : Int32) (u : ST), wp_X12_trodden_p85b x1 x2 x3 x4 x5 x6 u B58 B70 B85 Q → mGo p l e ({ frames := 2, cells := 0, slots := 0, locals := 51 } : Room) s m args below meth c A Z 7 D (mT cs) (W12 h r cs) 85 [(0, .ref h), (1, .int x1), (2, .int x2), (3, .int x3), (4, .int x4), (5, .int x5), (6, .int x6)] [] u := by
    intro B58 hB58 B70 hB70 B85 hB85 x1 x2 x3 x4 x5 x6 u hw H locs ls hI hl
    unfold wp_X12_trodden_p85b at hw
    refine lv_iload S.1 S.2.1 dX12_trodden_85 (lv_at hl 6 rfl) ?_
    refine lv_bipush (v := 6) S.1 S.2.1 dX12_trodden_87 (by decide) ?_
    refine lv_icmp_gt (tgt := 169) S.1 S.2.1 dX12_trodden_89 (by decide) (fun c89 => ?_) (fun c89 => ?_)
    · have hw := hw.1 c89
      obtain ⟨y169, ey169⟩ : ∃ z : Int32, z = x5 + 1 := ⟨_, rfl⟩
      have hw := hw y169 ey169
      refine lv_iinc (v := y169) (lv' := [(5, .int y169), (0, .ref h), (1, .int x1), (2, .int x2), (3, .int x3), (4, .int x4), (6, .int x6)]) S.1 S.2.1 dX12_trodden_169 hl (k := 5) rfl (by rw [ey169]; rfl) (by decide) rfl (fun ls hl => ?_)
      refine lv_goto (tgt := 70) S.1 S.2.1 dX12_trodden_172 (by decide) ?_
      exact hB70 x1 x2 x3 x4 y169 u hw H locs ls hI (lv_sub hl [1, 2, 3, 4, 5, 0] rfl)
    · have hw := hw.2 c89
      refine lv_aload_n S.1 S.2.1 dX12_trodden_92 rfl (lv_at hl 0 rfl) ?_
      refine m_get S hin hI 0 (W12_at0 h r cs u) rfl 32 (Nat.le_of_ble_eq_true rfl) (List.mem_of_getElem? (i := 2) rfl) rfl (Ff12_at32 r u) dX12_trodden_93 ?_
      refine lv_iload S.1 S.2.1 dX12_trodden_96 (lv_at hl 5 rfl) ?_
      refine lv_iload S.1 S.2.1 dX12_trodden_98 (lv_at hl 5 rfl) ?_
      refine lv_iload S.1 S.2.1 dX12_trodden_100 (lv_at hl 4 rfl) ?_
      refine lv_iadd S.1 S.2.1 dX12_trodden_102 ?_
      refine lv_topi (fun y102 ey102 => ?_)
      have hw := hw y102 ey102
      refine lv_iconst (v := 0) S.1 S.2.1 dX12_trodden_103 (by decide) ?_
      refine lv_iload S.1 S.2.1 dX12_trodden_104 (lv_at hl 6 rfl) ?_
      refine m_si (As := [.int x5, .int y102, .int (0 : Int32), .int x6]) (rest := [.ref (r 32)]) S hI.2.2.2.1.2.1 (c_X12_spot l x5 y102 (0 : Int32) x6 _ hw) (va_cwS 4 S.2.2.2.2 gX12_trodden_X12_spot rfl rfl rfl (by decide +kernel) ⟨Nat.le_of_ble_eq_true rfl, Nat.le_of_ble_eq_true rfl⟩) rfl hl.1 rfl (Nat.le_of_ble_eq_true rfl) dX12_trodden_106 ⟨Nat.zero_le _, Nat.zero_le _⟩ (fun y106 hw => ?_)
      refine lv_aload_n S.1 S.2.1 dX12_trodden_109 rfl (lv_at hl 0 rfl) ?_
      refine lv_iload S.1 S.2.1 dX12_trodden_110 (lv_at hl 5 rfl) ?_
      refine lv_iload S.1 S.2.1 dX12_trodden_112 (lv_at hl 5 rfl) ?_
      refine lv_iload S.1 S.2.1 dX12_trodden_114 (lv_at hl 4 rfl) ?_
      refine lv_iadd S.1 S.2.1 dX12_trodden_116 ?_
      refine lv_topi (fun y116 ey116 => ?_)
      have hw := hw y116 ey116
      refine lv_iload S.1 S.2.1 dX12_trodden_117 (lv_at hl 5 rfl) ?_
      refine lv_iload S.1 S.2.1 dX12_trodden_119 (lv_at hl 6 rfl) ?_
      refine m_vi (As := [.int x5, .int y116, .int x5, .int x6]) (rest := [.int y106, .ref (r 32)]) S (W12_self h r cs) hI rfl (c_X12_leastTrodden l D h r cs x5 y116 x5 x6 u _ hw) (cwV 4 S.2.2.2.2 gX12_trodden_X12_leastTrodden rfl rfl rfl (by decide +kernel) ⟨Nat.le_of_ble_eq_true rfl, Nat.le_of_ble_eq_true rfl⟩) (W12_at0 h r cs u) rfl rfl hl.1 rfl (Nat.le_of_ble_eq_true rfl) dX12_trodden_121 ⟨Nat.zero_le _, Nat.zero_le _⟩ (fun y121 u121 H locs hw hI => ?_)
      obtain ⟨u124, eu124⟩ : ∃ z : ST, z = sA u121 32 (upd (gA u121 32) y106.toNatClampNeg y121) := ⟨_, rfl⟩
      refine m_iast S hI 18 0 (W12_at18 h r cs u121) rfl hw.1 (W12_sA32 h r cs u121 u124 _ eu124) dX12_trodden_124 (fun H locs hI => ?_)
      have hw := hw.2 u124 eu124
      refine lv_aload_n S.1 S.2.1 dX12_trodden_125 rfl (lv_at hl 0 rfl) ?_
      refine m_get S hin hI 0 (W12_at0 h r cs u124) rfl 32 (Nat.le_of_ble_eq_true rfl) (List.mem_of_getElem? (i := 2) rfl) rfl (Ff12_at32 r u124) dX12_trodden_126 ?_
      refine lv_iload S.1 S.2.1 dX12_trodden_129 (lv_at hl 5 rfl) ?_
      refine lv_iload S.1 S.2.1 dX12_trodden_131 (lv_at hl 5 rfl) ?_
      refine lv_iload S.1 S.2.1 dX12_trodden_133 (lv_at hl 4 rfl) ?_
      refine lv_iadd S.1 S.2.1 dX12_trodden_135 ?_
      refine lv_topi (fun y135 ey135 => ?_)
      have hw := hw y135 ey135
      refine lv_iconst (v := 1) S.1 S.2.1 dX12_trodden_136 (by decide) ?_
      refine lv_iload S.1 S.2.1 dX12_trodden_137 (lv_at hl 6 rfl) ?_
      refine m_si (As := [.int x5, .int y135, .int (1 : Int32), .int x6]) (rest := [.ref (r 32)]) S hI.2.2.2.1.2.1 (c_X12_spot l x5 y135 (1 : Int32) x6 _ hw) (va_cwS 4 S.2.2.2.2 gX12_trodden_X12_spot rfl rfl rfl (by decide +kernel) ⟨Nat.le_of_ble_eq_true rfl, Nat.le_of_ble_eq_true rfl⟩) rfl hl.1 rfl (Nat.le_of_ble_eq_true rfl) dX12_trodden_139 ⟨Nat.zero_le _, Nat.zero_le _⟩ (fun y139 hw => ?_)
      refine lv_aload_n S.1 S.2.1 dX12_trodden_142 rfl (lv_at hl 0 rfl) ?_
      refine lv_iload S.1 S.2.1 dX12_trodden_143 (lv_at hl 5 rfl) ?_
      refine lv_iload S.1 S.2.1 dX12_trodden_145 (lv_at hl 5 rfl) ?_
      refine lv_iload S.1 S.2.1 dX12_trodden_147 (lv_at hl 4 rfl) ?_
      refine lv_iadd S.1 S.2.1 dX12_trodden_149 ?_
      refine lv_topi (fun y149 ey149 => ?_)
      have hw := hw y149 ey149
      refine lv_iload S.1 S.2.1 dX12_trodden_150 (lv_at hl 5 rfl) ?_
      refine lv_iload S.1 S.2.1 dX12_trodden_152 (lv_at hl 4 rfl) ?_
      refine lv_iadd S.1 S.2.1 dX12_trodden_154 ?_
      refine lv_topi (fun y154 ey154 => ?_)
      have hw := hw y154 ey154
      refine lv_iconst (v := 1) S.1 S.2.1 dX12_trodden_155 (by decide) ?_
      refine lv_iadd S.1 S.2.1 dX12_trodden_156 ?_
      refine lv_topi (fun y156 ey156 => ?_)
      have hw := hw y156 ey156
      refine lv_iload S.1 S.2.1 dX12_trodden_157 (lv_at hl 6 rfl) ?_
      refine m_vi (As := [.int x5, .int y149, .int y156, .int x6]) (rest := [.int y139, .ref (r 32)]) S (W12_self h r cs) hI rfl (c_X12_leastTrodden l D h r cs x5 y149 y156 x6 u124 _ hw) (cwV 4 S.2.2.2.2 gX12_trodden_X12_leastTrodden rfl rfl rfl (by decide +kernel) ⟨Nat.le_of_ble_eq_true rfl, Nat.le_of_ble_eq_true rfl⟩) (W12_at0 h r cs u124) rfl rfl hl.1 rfl (Nat.le_of_ble_eq_true rfl) dX12_trodden_159 ⟨Nat.zero_le _, Nat.zero_le _⟩ (fun y159 u159 H locs hw hI => ?_)
      obtain ⟨u162, eu162⟩ : ∃ z : ST, z = sA u159 32 (upd (gA u159 32) y139.toNatClampNeg y159) := ⟨_, rfl⟩
      refine m_iast S hI 18 0 (W12_at18 h r cs u159) rfl hw.1 (W12_sA32 h r cs u159 u162 _ eu162) dX12_trodden_162 (fun H locs hI => ?_)
      have hw := hw.2 u162 eu162
      obtain ⟨y163, ey163⟩ : ∃ z : Int32, z = x6 + 1 := ⟨_, rfl⟩
      have hw := hw y163 ey163
      refine lv_iinc (v := y163) (lv' := [(6, .int y163), (0, .ref h), (1, .int x1), (2, .int x2), (3, .int x3), (4, .int x4), (5, .int x5)]) S.1 S.2.1 dX12_trodden_163 hl (k := 6) rfl (by rw [ey163]; rfl) (by decide) rfl (fun ls hl => ?_)
      refine lv_goto (tgt := 85) S.1 S.2.1 dX12_trodden_166 (by decide) ?_
      exact hB85 x1 x2 x3 x4 x5 y163 u162 hw H locs ls hI (lv_sub hl [1, 2, 3, 4, 5, 6, 0] rfl)
  have b85 : ∀ (B58 : Int32 → Int32 → Int32 → Int32 → ST → Prop), (∀ (x1 : Int32) (x2 : Int32) (x3 : Int32) (x4 : Int32) (u : ST), B58 x1 x2 x3 x4 u → mGo p l e ({ frames := 2, cells := 0, slots := 0, locals := 51 } : Room) s m args below meth c A Z 7 D (mT cs) (W12 h r cs) 58 [(0, .ref h), (1, .int x1), (2, .int x2), (3, .int x3), (4, .int x4)] [] u) → ∀ (B70 : Int32 → Int32 → Int32 → Int32 → Int32 → ST → Prop), (∀ (x1 : Int32) (x2 : Int32) (x3 : Int32) (x4 : Int32) (x5 : Int32) (u : ST), B70 x1 x2 x3 x4 x5 u → mGo p l e ({ frames := 2, cells := 0, slots := 0, locals := 51 } : Room) s m args below meth c A Z 7 D (mT cs) (W12 h r cs) 70 [(0, .ref h), (1, .int x1), (2, .int x2), (3, .int x3), (4, .int x4), (5, .int x5)] [] u) → ∀ (x1 : Int32) (x2 : Int32) (x3 : Int32) (x4 : Int32) (x5 : Int32) (x6 : Int32) (u : ST), wp_X12_trodden_p85 x1 x2 x3 x4 x5 x6 u B58 B70 Q → mGo p l e ({ frames := 2, cells := 0, slots := 0, locals := 51 } : Room) s m args below meth c A Z 7 D (mT cs) (W12 h r cs) 85 [(0, .ref h), (1, .int x1), (2, .int x2), (3, .int x3), (4, .int x4), (5, .int x5), (6, .int x6)] [] u := by
    intro B58 hB58 B70 hB70 x1 x2 x3 x4 x5 x6 u hw
    obtain ⟨I, μ, h0, hs⟩ := hw
    have key : ∀ (n : Nat) (x1 : Int32) (x2 : Int32) (x3 : Int32) (x4 : Int32) (x5 : Int32) (x6 : Int32) (u : ST), μ x1 x2 x3 x4 x5 x6 u = n → I x1 x2 x3 x4 x5 x6 u → mGo p l e ({ frames := 2, cells := 0, slots := 0, locals := 51 } : Room) s m args below meth c A Z 7 D (mT cs) (W12 h r cs) 85 [(0, .ref h), (1, .int x1), (2, .int x2), (3, .int x3), (4, .int x4), (5, .int x5), (6, .int x6)] [] u := by
      intro n
      induction n using Nat.strongRecOn with
      | ind n ih =>
        intro x1 x2 x3 x4 x5 x6 u hn hi
        exact b85b B58 hB58 B70 hB70 (fun yx1 yx2 yx3 yx4 yx5 yx6 yu => I yx1 yx2 yx3 yx4 yx5 yx6 yu ∧ μ yx1 yx2 yx3 yx4 yx5 yx6 yu < μ x1 x2 x3 x4 x5 x6 u) (fun yx1 yx2 yx3 yx4 yx5 yx6 yu hb => ih _ (hn ▸ hb.2) yx1 yx2 yx3 yx4 yx5 yx6 yu rfl hb.1) x1 x2 x3 x4 x5 x6 u (hs x1 x2 x3 x4 x5 x6 u hi)
    exact key _ x1 x2 x3 x4 x5 x6 u rfl h0
  have b70b : ∀ (B58 : Int32 → Int32 → Int32 → Int32 → ST → Prop), (∀ (x1 : Int32) (x2 : Int32) (x3 : Int32) (x4 : Int32) (u : ST), B58 x1 x2 x3 x4 u → mGo p l e ({ frames := 2, cells := 0, slots := 0, locals := 51 } : Room) s m args below meth c A Z 7 D (mT cs) (W12 h r cs) 58 [(0, .ref h), (1, .int x1), (2, .int x2), (3, .int x3), (4, .int x4)] [] u) → ∀ (B70 : Int32 → Int32 → Int32 → Int32 → Int32 → ST → Prop), (∀ (x1 : Int32) (x2 : Int32) (x3 : Int32) (x4 : Int32) (x5 : Int32) (u : ST), B70 x1 x2 x3 x4 x5 u → mGo p l e ({ frames := 2, cells := 0, slots := 0, locals := 51 } : Room) s m args below meth c A Z 7 D (mT cs) (W12 h r cs) 70 [(0, .ref h), (1, .int x1), (2, .int x2), (3, .int x3), (4, .int x4), (5, .int x5)] [] u) → ∀ (x1 : Int32) (x2 : Int32) (x3 : Int32) (x4 : Int32) (x5 : Int32) (u : ST), wp_X12_trodden_p70b x1 x2 x3 x4 x5 u B58 B70 Q → mGo p l e ({ frames := 2, cells := 0, slots := 0, locals := 51 } : Room) s m args below meth c A Z 7 D (mT cs) (W12 h r cs) 70 [(0, .ref h), (1, .int x1), (2, .int x2), (3, .int x3), (4, .int x4), (5, .int x5)] [] u := by
    intro B58 hB58 B70 hB70 x1 x2 x3 x4 x5 u hw H locs ls hI hl
    unfold wp_X12_trodden_p70b at hw
    refine lv_iload S.1 S.2.1 dX12_trodden_70 (lv_at hl 5 rfl) ?_
    refine lv_iload S.1 S.2.1 dX12_trodden_72 (lv_at hl 4 rfl) ?_
    refine lv_iadd S.1 S.2.1 dX12_trodden_74 ?_
    refine lv_topi (fun y74 ey74 => ?_)
    have hw := hw y74 ey74
    refine lv_aload_n S.1 S.2.1 dX12_trodden_75 rfl (lv_at hl 0 rfl) ?_
    refine m_get S hin hI 0 (W12_at0 h r cs u) rfl 1 (Nat.le_of_ble_eq_true rfl) (List.mem_of_getElem? (i := 1) rfl) rfl (Ff12_at1 r u) dX12_trodden_76 ?_
    refine lv_icmp_gt (tgt := 175) S.1 S.2.1 dX12_trodden_79 (by decide) (fun c79 => ?_) (fun c79 => ?_)
    · have hw := hw.1 c79
      obtain ⟨y175, ey175⟩ : ∃ z : Int32, z = x4 + 1 := ⟨_, rfl⟩
      have hw := hw y175 ey175
      refine lv_iinc (v := y175) (lv' := [(4, .int y175), (0, .ref h), (1, .int x1), (2, .int x2), (3, .int x3), (5, .int x5)]) S.1 S.2.1 dX12_trodden_175 hl (k := 4) rfl (by rw [ey175]; rfl) (by decide) rfl (fun ls hl => ?_)
      refine lv_goto (tgt := 58) S.1 S.2.1 dX12_trodden_178 (by decide) ?_
      exact hB58 x1 x2 x3 y175 u hw H locs ls hI (lv_sub hl [1, 2, 3, 4, 0] rfl)
    · have hw := hw.2 c79
      refine lv_iconst (v := 0) S.1 S.2.1 dX12_trodden_82 (by decide) ?_
      refine lv_istore (lv' := [(6, .int (0 : Int32)), (0, .ref h), (1, .int x1), (2, .int x2), (3, .int x3), (4, .int x4), (5, .int x5)]) S.1 S.2.1 dX12_trodden_83 hl (by decide) rfl (fun ls hl => ?_)
      exact b85 B58 hB58 B70 hB70 x1 x2 x3 x4 x5 (0 : Int32) u hw H locs ls hI (lv_sub hl [1, 2, 3, 4, 5, 6, 0] rfl)
  have b70 : ∀ (B58 : Int32 → Int32 → Int32 → Int32 → ST → Prop), (∀ (x1 : Int32) (x2 : Int32) (x3 : Int32) (x4 : Int32) (u : ST), B58 x1 x2 x3 x4 u → mGo p l e ({ frames := 2, cells := 0, slots := 0, locals := 51 } : Room) s m args below meth c A Z 7 D (mT cs) (W12 h r cs) 58 [(0, .ref h), (1, .int x1), (2, .int x2), (3, .int x3), (4, .int x4)] [] u) → ∀ (x1 : Int32) (x2 : Int32) (x3 : Int32) (x4 : Int32) (x5 : Int32) (u : ST), wp_X12_trodden_p70 x1 x2 x3 x4 x5 u B58 Q → mGo p l e ({ frames := 2, cells := 0, slots := 0, locals := 51 } : Room) s m args below meth c A Z 7 D (mT cs) (W12 h r cs) 70 [(0, .ref h), (1, .int x1), (2, .int x2), (3, .int x3), (4, .int x4), (5, .int x5)] [] u := by
    intro B58 hB58 x1 x2 x3 x4 x5 u hw
    obtain ⟨I, μ, h0, hs⟩ := hw
    have key : ∀ (n : Nat) (x1 : Int32) (x2 : Int32) (x3 : Int32) (x4 : Int32) (x5 : Int32) (u : ST), μ x1 x2 x3 x4 x5 u = n → I x1 x2 x3 x4 x5 u → mGo p l e ({ frames := 2, cells := 0, slots := 0, locals := 51 } : Room) s m args below meth c A Z 7 D (mT cs) (W12 h r cs) 70 [(0, .ref h), (1, .int x1), (2, .int x2), (3, .int x3), (4, .int x4), (5, .int x5)] [] u := by
      intro n
      induction n using Nat.strongRecOn with
      | ind n ih =>
        intro x1 x2 x3 x4 x5 u hn hi
        exact b70b B58 hB58 (fun yx1 yx2 yx3 yx4 yx5 yu => I yx1 yx2 yx3 yx4 yx5 yu ∧ μ yx1 yx2 yx3 yx4 yx5 yu < μ x1 x2 x3 x4 x5 u) (fun yx1 yx2 yx3 yx4 yx5 yu hb => ih _ (hn ▸ hb.2) yx1 yx2 yx3 yx4 yx5 yu rfl hb.1) x1 x2 x3 x4 x5 u (hs x1 x2 x3 x4 x5 u hi)
    exact key _ x1 x2 x3 x4 x5 u rfl h0
  have b58b : ∀ (B58 : Int32 → Int32 → Int32 → Int32 → ST → Prop), (∀ (x1 : Int32) (x2 : Int32) (x3 : Int32) (x4 : Int32) (u : ST), B58 x1 x2 x3 x4 u → mGo p l e ({ frames := 2, cells := 0, slots := 0, locals := 51 } : Room) s m args below meth c A Z 7 D (mT cs) (W12 h r cs) 58 [(0, .ref h), (1, .int x1), (2, .int x2), (3, .int x3), (4, .int x4)] [] u) → ∀ (x1 : Int32) (x2 : Int32) (x3 : Int32) (x4 : Int32) (u : ST), wp_X12_trodden_p58b x1 x2 x3 x4 u B58 Q → mGo p l e ({ frames := 2, cells := 0, slots := 0, locals := 51 } : Room) s m args below meth c A Z 7 D (mT cs) (W12 h r cs) 58 [(0, .ref h), (1, .int x1), (2, .int x2), (3, .int x3), (4, .int x4)] [] u := by
    intro B58 hB58 x1 x2 x3 x4 u hw H locs ls hI hl
    unfold wp_X12_trodden_p58b at hw
    refine lv_iload S.1 S.2.1 dX12_trodden_58 (lv_at hl 4 rfl) ?_
    refine lv_aload_n S.1 S.2.1 dX12_trodden_60 rfl (lv_at hl 0 rfl) ?_
    refine m_get S hin hI 0 (W12_at0 h r cs u) rfl 1 (Nat.le_of_ble_eq_true rfl) (List.mem_of_getElem? (i := 1) rfl) rfl (Ff12_at1 r u) dX12_trodden_61 ?_
    refine lv_icmp_gt (tgt := 181) S.1 S.2.1 dX12_trodden_64 (by decide) (fun c64 => ?_) (fun c64 => ?_)
    · have hw := hw.1 c64
      refine lv_aload_n S.1 S.2.1 dX12_trodden_181 rfl (lv_at hl 0 rfl) ?_
      refine lv_iload_n S.1 S.2.1 dX12_trodden_182 rfl (lv_at hl 1 rfl) ?_
      refine lv_bipush (v := 100) S.1 S.2.1 dX12_trodden_183 (by decide) ?_
      refine lv_idiv S.1 S.2.1 dX12_trodden_185 hw.1 ?_
      have hw := hw.2
      refine lv_topi (fun y185 ey185 => ?_)
      have hw := hw y185 ey185
      refine lv_iload_n S.1 S.2.1 dX12_trodden_186 rfl (lv_at hl 1 rfl) ?_
      refine lv_bipush (v := 100) S.1 S.2.1 dX12_trodden_187 (by decide) ?_
      refine lv_irem S.1 S.2.1 dX12_trodden_189 hw.1 ?_
      have hw := hw.2
      refine lv_topi (fun y189 ey189 => ?_)
      have hw := hw y189 ey189
      refine lv_iload_n S.1 S.2.1 dX12_trodden_190 rfl (lv_at hl 2 rfl) ?_
      refine lv_bipush (v := 10) S.1 S.2.1 dX12_trodden_191 (by decide) ?_
      refine lv_idiv S.1 S.2.1 dX12_trodden_193 hw.1 ?_
      have hw := hw.2
      refine lv_topi (fun y193 ey193 => ?_)
      have hw := hw y193 ey193
      refine lv_iload_n S.1 S.2.1 dX12_trodden_194 rfl (lv_at hl 2 rfl) ?_
      refine lv_bipush (v := 10) S.1 S.2.1 dX12_trodden_195 (by decide) ?_
      refine lv_irem S.1 S.2.1 dX12_trodden_197 hw.1 ?_
      have hw := hw.2
      refine lv_topi (fun y197 ey197 => ?_)
      have hw := hw y197 ey197
      refine m_vi (As := [.int y185, .int y189, .int y193, .int y197]) (rest := []) S (W12_self h r cs) hI rfl (c_X12_leastTrodden l D h r cs y185 y189 y193 y197 u _ hw) (cwV 4 S.2.2.2.2 gX12_trodden_X12_leastTrodden rfl rfl rfl (by decide +kernel) ⟨Nat.le_of_ble_eq_true rfl, Nat.le_of_ble_eq_true rfl⟩) (W12_at0 h r cs u) rfl rfl hl.1 rfl (Nat.le_of_ble_eq_true rfl) dX12_trodden_198 ⟨Nat.zero_le _, Nat.zero_le _⟩ (fun y198 u198 H locs hw hI => ?_)
      refine lv_istore (lv' := [(4, .int y198), (0, .ref h), (1, .int x1), (2, .int x2), (3, .int x3)]) S.1 S.2.1 dX12_trodden_201 hl (by decide) rfl (fun ls hl => ?_)
      refine lv_iload S.1 S.2.1 dX12_trodden_203 (lv_at hl 0 rfl) ?_
      refine lv_ldc S.1 S.2.1 S.2.2.2.1 (S.2.2.2.2 _ (List.mem_of_getElem? (i := 3) rfl)) dX12_trodden_205 ?_
      refine lv_icmp_lt (tgt := 215) S.1 S.2.1 dX12_trodden_207 (by decide) (fun c207 => ?_) (fun c207 => ?_)
      · have hw := hw.1 c207
        refine lv_iload_n S.1 S.2.1 dX12_trodden_215 rfl (lv_at hl 4 rfl) ?_
        refine lv_if_ne (tgt := 224) S.1 S.2.1 dX12_trodden_216 (by decide) (fun c216 => ?_) (fun c216 => ?_)
        · have hw := hw.1 c216
          refine lv_aload_n S.1 S.2.1 dX12_trodden_224 rfl (lv_at hl 1 rfl) ?_
          refine m_get S hin hI 0 (W12_at0 h r cs u198) rfl 33 (Nat.le_of_ble_eq_true rfl) (List.mem_of_getElem? (i := 4) rfl) rfl (Ff12_at33 r u198) dX12_trodden_225 ?_
          exact b228 (gI u198 33) u198 hw H locs ls hI (lv_sub hl [1] rfl)
        · have hw := hw.2 c216
          refine lv_iload S.1 S.2.1 dX12_trodden_219 (lv_at hl 0 rfl) ?_
          refine lv_goto (tgt := 228) S.1 S.2.1 dX12_trodden_221 (by decide) ?_
          exact b228 y198 u198 hw H locs ls hI (lv_sub hl [1] rfl)
      · have hw := hw.2 c207
        refine lv_bipush (v := (-2)) S.1 S.2.1 dX12_trodden_210 (by decide) ?_
        refine lv_goto (tgt := 228) S.1 S.2.1 dX12_trodden_212 (by decide) ?_
        exact b228 ((-2) : Int32) u198 hw H locs ls hI (lv_sub hl [1] rfl)
    · have hw := hw.2 c64
      refine lv_iconst (v := 0) S.1 S.2.1 dX12_trodden_67 (by decide) ?_
      refine lv_istore (lv' := [(5, .int (0 : Int32)), (0, .ref h), (1, .int x1), (2, .int x2), (3, .int x3), (4, .int x4)]) S.1 S.2.1 dX12_trodden_68 hl (by decide) rfl (fun ls hl => ?_)
      exact b70 B58 hB58 x1 x2 x3 x4 (0 : Int32) u hw H locs ls hI (lv_sub hl [1, 2, 3, 4, 5, 0] rfl)
  have b58 : ∀ (x1 : Int32) (x2 : Int32) (x3 : Int32) (x4 : Int32) (u : ST), wp_X12_trodden_p58 x1 x2 x3 x4 u Q → mGo p l e ({ frames := 2, cells := 0, slots := 0, locals := 51 } : Room) s m args below meth c A Z 7 D (mT cs) (W12 h r cs) 58 [(0, .ref h), (1, .int x1), (2, .int x2), (3, .int x3), (4, .int x4)] [] u := by
    intro x1 x2 x3 x4 u hw
    obtain ⟨I, μ, h0, hs⟩ := hw
    have key : ∀ (n : Nat) (x1 : Int32) (x2 : Int32) (x3 : Int32) (x4 : Int32) (u : ST), μ x1 x2 x3 x4 u = n → I x1 x2 x3 x4 u → mGo p l e ({ frames := 2, cells := 0, slots := 0, locals := 51 } : Room) s m args below meth c A Z 7 D (mT cs) (W12 h r cs) 58 [(0, .ref h), (1, .int x1), (2, .int x2), (3, .int x3), (4, .int x4)] [] u := by
      intro n
      induction n using Nat.strongRecOn with
      | ind n ih =>
        intro x1 x2 x3 x4 u hn hi
        exact b58b (fun yx1 yx2 yx3 yx4 yu => I yx1 yx2 yx3 yx4 yu ∧ μ yx1 yx2 yx3 yx4 yu < μ x1 x2 x3 x4 u) (fun yx1 yx2 yx3 yx4 yu hb => ih _ (hn ▸ hb.2) yx1 yx2 yx3 yx4 yu rfl hb.1) x1 x2 x3 x4 u (hs x1 x2 x3 x4 u hi)
    exact key _ x1 x2 x3 x4 u rfl h0
  unfold wp_X12_trodden at hw
  obtain ⟨H, hH⟩ : ∃ z : Heap, z = s.heap := ⟨_, rfl⟩
  obtain ⟨locs, hL⟩ : ∃ z : List Loc, z = [] := ⟨_, rfl⟩
  rw [show W p l e ({ frames := 2, cells := 0, slots := 0, locals := 51 } : Room) s m args below meth c s.heap [] 0 0 Z (F0 m 0 ls []) = W p l e ({ frames := 2, cells := 0, slots := 0, locals := 51 } : Room) s m args below meth c H locs 0 0 Z (F0 m 0 ls []) by rw [hH, hL]]
  replace hI : mI D (mT cs) A s.heap s (W12 h r cs u) H locs := by rw [hH, hL]; exact hI
  refine lv_aload_n S.1 S.2.1 dX12_trodden_0 rfl (lv_at hl 0 rfl) ?_
  refine lv_iload_n S.1 S.2.1 dX12_trodden_1 rfl (lv_at hl 1 rfl) ?_
  refine m_vi (As := [.int a1]) (rest := []) S (W12_self h r cs) hI rfl (c_X12_isPart l D h r cs a1 u _ hw) (cwV 1 S.2.2.2.2 gX12_trodden_X12_isPart rfl rfl rfl (by decide +kernel) ⟨Nat.le_of_ble_eq_true rfl, Nat.le_of_ble_eq_true rfl⟩) (W12_at0 h r cs u) rfl rfl hl.1 rfl (Nat.le_of_ble_eq_true rfl) dX12_trodden_2 ⟨Nat.zero_le _, Nat.zero_le _⟩ (fun y2 u2 H locs hw hI => ?_)
  refine lv_if_eq (tgt := 41) S.1 S.2.1 dX12_trodden_5 (by decide) (fun c5 => ?_) (fun c5 => ?_)
  · have hw := hw.1 c5
    exact b41 u2 hw H locs ls hI (lv_sub hl [0] rfl)
  · have hw := hw.2 c5
    refine lv_iload_n S.1 S.2.1 dX12_trodden_8 rfl (lv_at hl 2 rfl) ?_
    refine lv_if_lt (tgt := 41) S.1 S.2.1 dX12_trodden_9 (by decide) (fun c9 => ?_) (fun c9 => ?_)
    · have hw := hw.1 c9
      exact b41 u2 hw H locs ls hI (lv_sub hl [0] rfl)
    · have hw := hw.2 c9
      refine lv_iload_n S.1 S.2.1 dX12_trodden_12 rfl (lv_at hl 2 rfl) ?_
      refine lv_bipush (v := 10) S.1 S.2.1 dX12_trodden_13 (by decide) ?_
      refine lv_idiv S.1 S.2.1 dX12_trodden_15 hw.1 ?_
      have hw := hw.2
      refine lv_topi (fun y15 ey15 => ?_)
      have hw := hw y15 ey15
      refine lv_aload_n S.1 S.2.1 dX12_trodden_16 rfl (lv_at hl 0 rfl) ?_
      refine m_get S hin hI 0 (W12_at0 h r cs u2) rfl 1 (Nat.le_of_ble_eq_true rfl) (List.mem_of_getElem? (i := 1) rfl) rfl (Ff12_at1 r u2) dX12_trodden_17 ?_
      refine lv_icmp_gt (tgt := 41) S.1 S.2.1 dX12_trodden_20 (by decide) (fun c20 => ?_) (fun c20 => ?_)
      · have hw := hw.1 c20
        exact b41 u2 hw H locs ls hI (lv_sub hl [0] rfl)
      · have hw := hw.2 c20
        refine lv_iload_n S.1 S.2.1 dX12_trodden_23 rfl (lv_at hl 2 rfl) ?_
        refine lv_bipush (v := 10) S.1 S.2.1 dX12_trodden_24 (by decide) ?_
        refine lv_irem S.1 S.2.1 dX12_trodden_26 hw.1 ?_
        have hw := hw.2
        refine lv_topi (fun y26 ey26 => ?_)
        have hw := hw y26 ey26
        refine lv_bipush (v := 6) S.1 S.2.1 dX12_trodden_27 (by decide) ?_
        refine lv_icmp_gt (tgt := 41) S.1 S.2.1 dX12_trodden_29 (by decide) (fun c29 => ?_) (fun c29 => ?_)
        · have hw := hw.1 c29
          exact b41 u2 hw H locs ls hI (lv_sub hl [0] rfl)
        · have hw := hw.2 c29
          refine lv_iload_n S.1 S.2.1 dX12_trodden_32 rfl (lv_at hl 3 rfl) ?_
          refine lv_iconst (v := 0) S.1 S.2.1 dX12_trodden_33 (by decide) ?_
          refine lv_iconst (v := 1) S.1 S.2.1 dX12_trodden_34 (by decide) ?_
          refine m_si (As := [.int a3, .int (0 : Int32), .int (1 : Int32)]) (rest := []) S hI.2.2.2.1.2.1 (c_X12_in l a3 (0 : Int32) (1 : Int32) _ hw) (va_cwS 3 S.2.2.2.2 gX12_trodden_X12_in rfl rfl rfl (by decide +kernel) ⟨Nat.le_of_ble_eq_true rfl, Nat.le_of_ble_eq_true rfl⟩) rfl hl.1 rfl (Nat.le_of_ble_eq_true rfl) dX12_trodden_35 ⟨Nat.zero_le _, Nat.zero_le _⟩ (fun y35 hw => ?_)
          refine lv_if_ne (tgt := 43) S.1 S.2.1 dX12_trodden_38 (by decide) (fun c38 => ?_) (fun c38 => ?_)
          · have hw := hw.1 c38
            refine lv_aload_n S.1 S.2.1 dX12_trodden_43 rfl (lv_at hl 0 rfl) ?_
            refine m_get S hin hI 0 (W12_at0 h r cs u2) rfl 1 (Nat.le_of_ble_eq_true rfl) (List.mem_of_getElem? (i := 1) rfl) rfl (Ff12_at1 r u2) dX12_trodden_44 ?_
            refine lv_bipush (v := 24) S.1 S.2.1 dX12_trodden_47 (by decide) ?_
            refine lv_icmp_le (tgt := 55) S.1 S.2.1 dX12_trodden_49 (by decide) (fun c49 => ?_) (fun c49 => ?_)
            · have hw := hw.1 c49
              refine lv_iconst (v := 0) S.1 S.2.1 dX12_trodden_55 (by decide) ?_
              refine lv_istore (lv' := [(4, .int (0 : Int32)), (0, .ref h), (1, .int a1), (2, .int a2), (3, .int a3)]) S.1 S.2.1 dX12_trodden_56 hl (by decide) rfl (fun ls hl => ?_)
              exact b58 a1 a2 a3 (0 : Int32) u2 hw H locs ls hI (lv_sub hl [1, 2, 3, 4, 0] rfl)
            · have hw := hw.2 c49
              refine lv_bipush (v := (-5)) S.1 S.2.1 dX12_trodden_52 (by decide) ?_
              subst hZ
              exact m_iret S hr hlocks hI hw dX12_trodden_54
          · have hw := hw.2 c38
            exact b41 u2 hw H locs ls hI (lv_sub hl [0] rfl)

/-! laid by program: X12_drops, X12_guess, X12_led, X12_image, X12_back, X12_isBody, X12_ran, X12_trace, X12_body, X12_isUnder, X12_plainDrops, X12_toldDrops, X12_dropping, X12_plainBreaks, X12_meanBreaks, X12_plainClimbs, X12_steepClimbs, X12_climbing, X12_breaking, X12_plainTells, X12_telling -/
def wp_X12_drops_p17 (u : ST) (Q : Int32 → ST → Prop) : Prop :=
  Q ((-1) : Int32) u
def wp_X12_drops_p129 (x4 : Int32) (u : ST) (Q : Int32 → ST → Prop) : Prop :=
  Q x4 u
def wp_X12_drops_p70b (x1 : Int32) (x2 : Int32) (x3 : Int32) (x4 : Int32) (u : ST) (B70 : Int32 → Int32 → Int32 → Int32 → ST → Prop) (Q : Int32 → ST → Prop) : Prop :=
  ((x3 ≤ x4 → Q x3 u) ∧ (¬ x3 ≤ x4 → (∀ y77 : Int64, y77 = x2.toInt64 → (∀ y80 : Int64, y80 = x4.toInt64 → (∀ y81 : Int64, y81 = y77 + y80 → (∀ y87 : Int32, y87 = lg_cmp y81 (0 : Int64) → ((y87 < 0 → wp_X12_drops_p129 x4 u Q) ∧ (¬ y87 < 0 → (vp_in x1 6 ∧ ∀ y98 : Int32, y98 = gA u 54 x1.toNatClampNeg → (∀ y99 : Int64, y99 = y98.toInt64 → (∀ y100 : Int32, y100 = lg_cmp y81 y99 → ((0 ≤ y100 → wp_X12_drops_p129 x4 u Q) ∧ (¬ 0 ≤ y100 → (vp_in (2 : Int32) 9 ∧ ∀ y109 : Int32, y109 = gA u 46 (2 : Int32).toNatClampNeg → ((y109 = 0 → wp_X12_drops_p129 x4 u Q) ∧ (¬ y109 = 0 → (vp_in (5 : Int32) 9 ∧ ∀ y118 : Int32, y118 = gA u 46 (5 : Int32).toNatClampNeg → (vp_in (6 : Int32) 9 ∧ ∀ y125 : Int32, y125 = gA u 46 (6 : Int32).toNatClampNeg → ((¬ y118 = y125 → (∀ y139 : Int32, y139 = (60 : Int32) * x1 → (∀ y142 : Int32, y142 = y81.toInt32 → (∀ y143 : Int32, y143 = y139 + y142 → (vp_in y143 360 ∧ ∀ y144 : Int64, y144 = gJ u 55 y143.toNatClampNeg → (∀ y145 : Int32, y145 = y144.toInt32 → (vp_in (1 : Int32) 9 ∧ ∀ y156 : Int32, y156 = gA u 46 (1 : Int32).toNatClampNeg → (wp_X12_in y145 (1 : Int32) y156 (fun y157 => ((¬ y157 = 0 → (wp_X12_drops1 y145 u (fun y169 u169 => (∀ y173 : Int32, y173 = x4 + 1 → B70 x1 x2 x3 y173 u169)))) ∧ (y157 = 0 → Q x4 u))))))))))) ∧ (y118 = y125 → wp_X12_drops_p129 x4 u Q))))))))))))))))))))
def wp_X12_drops_p70 (x1 : Int32) (x2 : Int32) (x3 : Int32) (x4 : Int32) (u : ST) (Q : Int32 → ST → Prop) : Prop := ∃ (I : Int32 → Int32 → Int32 → Int32 → ST → Prop) (μ : Int32 → Int32 → Int32 → Int32 → ST → Nat), I x1 x2 x3 x4 u ∧ ∀ (x1 : Int32) (x2 : Int32) (x3 : Int32) (x4 : Int32) (u : ST), I x1 x2 x3 x4 u → wp_X12_drops_p70b x1 x2 x3 x4 u (fun yx1 yx2 yx3 yx4 yu => I yx1 yx2 yx3 yx4 yu ∧ μ yx1 yx2 yx3 yx4 yu < μ x1 x2 x3 x4 u) Q
def wp_X12_drops_p43 (x1 : Int32) (x2 : Int32) (x3 : Int32) (u : ST) (Q : Int32 → ST → Prop) : Prop :=
  (vp_in (0 : Int32) 9 ∧ ∀ y48 : Int32, y48 = gA u 46 (0 : Int32).toNatClampNeg → ((0 ≤ y48 → (vp_in x1 6 ∧ ∀ y60 : Int32, y60 = gA u 53 x1.toNatClampNeg → ((¬ y60 = ((-1) : Int32) → wp_X12_drops_p70 x1 x2 x3 (0 : Int32) u Q) ∧ (y60 = ((-1) : Int32) → Q (0 : Int32) u)))) ∧ (¬ 0 ≤ y48 → Q ((-5) : Int32) u)))
def wp_X12_drops (a1 : Int32) (a2 : Int32) (a3 : Int32) (u : ST) (Q : Int32 → ST → Prop) : Prop :=
  (wp_X12_isShelf a1 (fun y1 => ((y1 = 0 → wp_X12_drops_p17 u Q) ∧ (¬ y1 = 0 → (wp_X12_in a3 (1 : Int32) (20 : Int32) (fun y11 => ((¬ y11 = 0 → (vp_in a1 6 ∧ ∀ y24 : Int32, y24 = gA u 53 a1.toNatClampNeg → ((y24 = ((-1) : Int32) → wp_X12_drops_p43 a1 a2 a3 u Q) ∧ (¬ y24 = ((-1) : Int32) → (vp_in a1 6 ∧ ∀ y34 : Int32, y34 = gA u 53 a1.toNatClampNeg → ((y34 = ((-2) : Int32) → wp_X12_drops_p43 a1 a2 a3 u Q) ∧ (¬ y34 = ((-2) : Int32) → Q ((-12) : Int32) u))))))) ∧ (y11 = 0 → wp_X12_drops_p17 u Q))))))))
set_option maxHeartbeats 4000000 in
set_option maxRecDepth 100000 in
theorem c_X12_drops (l : Launch) (D : va_G) (h : Nat) (r : Nat → Nat) (cs : Nat → ClassId) (a1 : Int32) (a2 : Int32) (a3 : Int32) (u : ST) (Q : Int32 → ST → Prop) (hw : wp_X12_drops a1 a2 a3 u Q) : mCi l yX12_drops wsX12_drops ({ frames := 2, cells := 0, slots := 0, locals := 42 } : Room) 0 0 D (mT cs) (W12 h r cs) [.ref h, .int a1, .int a2, .int a3] u Q := by
  unfold mCi
  refine m_enter (QQ := fun A => va_Qi Q (mPos D (mT cs) A (W12 h r cs)) A) (cc := cX12_drops) (maxL := 8) (ret := (some .int)) (by decide) rfl (Nat.le_of_ble_eq_true rfl) ?_
  intro p e s m args below meth c A ls S hr hlocks hname hl hI
  have S : CallFix p m c cX12_drops 8 s args wsX12_drops RX12 := S
  show W p l e ({ frames := 2, cells := 0, slots := 0, locals := 42 } : Room) s m args below meth c s.heap [] 0 0 (MQ below (va_Qi Q (mPos D (mT cs) A (W12 h r cs)) A) args s 0 0 A) (F0 m 0 ls [])
  generalize hZ : MQ below (va_Qi Q (mPos D (mT cs) A (W12 h r cs)) A) args s 0 0 A = Z
  have hin : ∀ w ∈ wsX120, w ∈ wsX12_drops := fun _ h => List.mem_cons_of_mem _ (List.mem_append_right _ h)
  have hl : lv_has ls 8 [(0, .ref h), (1, .int a1), (2, .int a2), (3, .int a3)] := hl
  have b17 : ∀ (u : ST), wp_X12_drops_p17 u Q → mGo p l e ({ frames := 2, cells := 0, slots := 0, locals := 42 } : Room) s m args below meth c A Z 8 D (mT cs) (W12 h r cs) 17 [(0, .ref h)] [] u := by
    intro u hw H locs ls hI hl
    unfold wp_X12_drops_p17 at hw
    refine lv_iconst (v := (-1)) S.1 S.2.1 dX12_drops_17 (by decide) ?_
    subst hZ
    exact m_iret S hr hlocks hI hw dX12_drops_18
  have b129 : ∀ (x4 : Int32) (u : ST), wp_X12_drops_p129 x4 u Q → mGo p l e ({ frames := 2, cells := 0, slots := 0, locals := 42 } : Room) s m args below meth c A Z 8 D (mT cs) (W12 h r cs) 129 [(0, .ref h), (4, .int x4)] [] u := by
    intro x4 u hw H locs ls hI hl
    unfold wp_X12_drops_p129 at hw
    refine lv_iload S.1 S.2.1 dX12_drops_129 (lv_at hl 1 rfl) ?_
    subst hZ
    exact m_iret S hr hlocks hI hw dX12_drops_131
  have b70b : ∀ (B70 : Int32 → Int32 → Int32 → Int32 → ST → Prop), (∀ (x1 : Int32) (x2 : Int32) (x3 : Int32) (x4 : Int32) (u : ST), B70 x1 x2 x3 x4 u → mGo p l e ({ frames := 2, cells := 0, slots := 0, locals := 42 } : Room) s m args below meth c A Z 8 D (mT cs) (W12 h r cs) 70 [(0, .ref h), (1, .int x1), (2, .int x2), (3, .int x3), (4, .int x4)] [] u) → ∀ (x1 : Int32) (x2 : Int32) (x3 : Int32) (x4 : Int32) (u : ST), wp_X12_drops_p70b x1 x2 x3 x4 u B70 Q → mGo p l e ({ frames := 2, cells := 0, slots := 0, locals := 42 } : Room) s m args below meth c A Z 8 D (mT cs) (W12 h r cs) 70 [(0, .ref h), (1, .int x1), (2, .int x2), (3, .int x3), (4, .int x4)] [] u := by
    intro B70 hB70 x1 x2 x3 x4 u hw H locs ls hI hl
    unfold wp_X12_drops_p70b at hw
    refine lv_iload S.1 S.2.1 dX12_drops_70 (lv_at hl 4 rfl) ?_
    refine lv_iload_n S.1 S.2.1 dX12_drops_72 rfl (lv_at hl 3 rfl) ?_
    refine lv_icmp_ge (tgt := 179) S.1 S.2.1 dX12_drops_73 (by decide) (fun c73 => ?_) (fun c73 => ?_)
    · have hw := hw.1 c73
      refine lv_iload_n S.1 S.2.1 dX12_drops_179 rfl (lv_at hl 3 rfl) ?_
      subst hZ
      exact m_iret S hr hlocks hI hw dX12_drops_180
    · have hw := hw.2 c73
      refine lv_iload_n S.1 S.2.1 dX12_drops_76 rfl (lv_at hl 2 rfl) ?_
      refine lv_i2l S.1 S.2.1 dX12_drops_77 rfl ?_
      refine lv_topl (fun y77 ey77 => ?_)
      have hw := hw y77 ey77
      refine lv_iload S.1 S.2.1 dX12_drops_78 (lv_at hl 4 rfl) ?_
      refine lv_i2l S.1 S.2.1 dX12_drops_80 rfl ?_
      refine lv_topl (fun y80 ey80 => ?_)
      have hw := hw y80 ey80
      refine lv_ladd S.1 S.2.1 dX12_drops_81 ?_
      refine lv_topl (fun y81 ey81 => ?_)
      have hw := hw y81 ey81
      refine lv_lstore (lv' := [(5, .long y81), (0, .ref h), (1, .int x1), (2, .int x2), (3, .int x3), (4, .int x4)]) S.1 S.2.1 dX12_drops_82 hl (by decide) rfl (fun ls hl => ?_)
      refine lv_lload S.1 S.2.1 dX12_drops_84 (lv_at hl 0 rfl) ?_
      refine lv_lconst (v := 0) S.1 S.2.1 dX12_drops_86 (by decide) ?_
      refine W.lcmp S.1 S.2.1 dX12_drops_87 ?_
      refine lv_topi (fun y87 ey87 => ?_)
      have hw := hw y87 ey87
      refine lv_if_lt (tgt := 129) S.1 S.2.1 dX12_drops_88 (by decide) (fun c88 => ?_) (fun c88 => ?_)
      · have hw := hw.1 c88
        exact b129 x4 u hw H locs ls hI (lv_sub hl [1, 5] rfl)
      · have hw := hw.2 c88
        refine lv_lload S.1 S.2.1 dX12_drops_91 (lv_at hl 0 rfl) ?_
        refine lv_aload_n S.1 S.2.1 dX12_drops_93 rfl (lv_at hl 1 rfl) ?_
        refine m_get S hin hI 0 (W12_at0 h r cs u) rfl 54 (Nat.le_of_ble_eq_true rfl) (List.mem_of_getElem? (i := 3) rfl) rfl (Ff12_at54 r u) dX12_drops_94 ?_
        refine lv_iload_n S.1 S.2.1 dX12_drops_97 rfl (lv_at hl 2 rfl) ?_
        refine m_iald S hI 27 0 (W12_at27 h r cs u) rfl hw.1 dX12_drops_98 ?_
        refine lv_topi (fun y98 ey98 => ?_)
        have hw := hw.2 y98 ey98
        refine lv_i2l S.1 S.2.1 dX12_drops_99 rfl ?_
        refine lv_topl (fun y99 ey99 => ?_)
        have hw := hw y99 ey99
        refine W.lcmp S.1 S.2.1 dX12_drops_100 ?_
        refine lv_topi (fun y100 ey100 => ?_)
        have hw := hw y100 ey100
        refine lv_if_ge (tgt := 129) S.1 S.2.1 dX12_drops_101 (by decide) (fun c101 => ?_) (fun c101 => ?_)
        · have hw := hw.1 c101
          exact b129 x4 u hw H locs ls hI (lv_sub hl [1, 5] rfl)
        · have hw := hw.2 c101
          refine lv_aload_n S.1 S.2.1 dX12_drops_104 rfl (lv_at hl 1 rfl) ?_
          refine m_get S hin hI 0 (W12_at0 h r cs u) rfl 46 (Nat.le_of_ble_eq_true rfl) (List.mem_of_getElem? (i := 2) rfl) rfl (Ff12_at46 r u) dX12_drops_105 ?_
          refine lv_iconst (v := 2) S.1 S.2.1 dX12_drops_108 (by decide) ?_
          refine m_iald S hI 22 0 (W12_at22 h r cs u) rfl hw.1 dX12_drops_109 ?_
          refine lv_topi (fun y109 ey109 => ?_)
          have hw := hw.2 y109 ey109
          refine lv_if_eq (tgt := 129) S.1 S.2.1 dX12_drops_110 (by decide) (fun c110 => ?_) (fun c110 => ?_)
          · have hw := hw.1 c110
            exact b129 x4 u hw H locs ls hI (lv_sub hl [1, 5] rfl)
          · have hw := hw.2 c110
            refine lv_aload_n S.1 S.2.1 dX12_drops_113 rfl (lv_at hl 1 rfl) ?_
            refine m_get S hin hI 0 (W12_at0 h r cs u) rfl 46 (Nat.le_of_ble_eq_true rfl) (List.mem_of_getElem? (i := 2) rfl) rfl (Ff12_at46 r u) dX12_drops_114 ?_
            refine lv_iconst (v := 5) S.1 S.2.1 dX12_drops_117 (by decide) ?_
            refine m_iald S hI 22 0 (W12_at22 h r cs u) rfl hw.1 dX12_drops_118 ?_
            refine lv_topi (fun y118 ey118 => ?_)
            have hw := hw.2 y118 ey118
            refine lv_aload_n S.1 S.2.1 dX12_drops_119 rfl (lv_at hl 1 rfl) ?_
            refine m_get S hin hI 0 (W12_at0 h r cs u) rfl 46 (Nat.le_of_ble_eq_true rfl) (List.mem_of_getElem? (i := 2) rfl) rfl (Ff12_at46 r u) dX12_drops_120 ?_
            refine lv_bipush (v := 6) S.1 S.2.1 dX12_drops_123 (by decide) ?_
            refine m_iald S hI 22 0 (W12_at22 h r cs u) rfl hw.1 dX12_drops_125 ?_
            refine lv_topi (fun y125 ey125 => ?_)
            have hw := hw.2 y125 ey125
            refine lv_icmp_ne (tgt := 132) S.1 S.2.1 dX12_drops_126 (by decide) (fun c126 => ?_) (fun c126 => ?_)
            · have hw := hw.1 c126
              refine lv_aload_n S.1 S.2.1 dX12_drops_132 rfl (lv_at hl 1 rfl) ?_
              refine m_get S hin hI 0 (W12_at0 h r cs u) rfl 55 (Nat.le_of_ble_eq_true rfl) (List.mem_of_getElem? (i := 4) rfl) rfl (Ff12_at55 r u) dX12_drops_133 ?_
              refine lv_bipush (v := 60) S.1 S.2.1 dX12_drops_136 (by decide) ?_
              refine lv_iload_n S.1 S.2.1 dX12_drops_138 rfl (lv_at hl 2 rfl) ?_
              refine lv_imul S.1 S.2.1 dX12_drops_139 ?_
              refine lv_topi (fun y139 ey139 => ?_)
              have hw := hw y139 ey139
              refine lv_lload S.1 S.2.1 dX12_drops_140 (lv_at hl 0 rfl) ?_
              refine lv_l2i S.1 S.2.1 dX12_drops_142 rfl ?_
              refine lv_topi (fun y142 ey142 => ?_)
              have hw := hw y142 ey142
              refine lv_iadd S.1 S.2.1 dX12_drops_143 ?_
              refine lv_topi (fun y143 ey143 => ?_)
              have hw := hw y143 ey143
              refine m_lald S hI 28 3 (W12_at28 h r cs u) rfl hw.1 dX12_drops_144 ?_
              refine lv_topl (fun y144 ey144 => ?_)
              have hw := hw.2 y144 ey144
              refine lv_l2i S.1 S.2.1 dX12_drops_145 rfl ?_
              refine lv_topi (fun y145 ey145 => ?_)
              have hw := hw y145 ey145
              refine lv_istore (lv' := [(7, .int y145), (5, .long y81), (0, .ref h), (1, .int x1), (2, .int x2), (3, .int x3), (4, .int x4)]) S.1 S.2.1 dX12_drops_146 hl (by decide) rfl (fun ls hl => ?_)
              refine lv_iload S.1 S.2.1 dX12_drops_148 (lv_at hl 0 rfl) ?_
              refine lv_iconst (v := 1) S.1 S.2.1 dX12_drops_150 (by decide) ?_
              refine lv_aload_n S.1 S.2.1 dX12_drops_151 rfl (lv_at hl 2 rfl) ?_
              refine m_get S hin hI 0 (W12_at0 h r cs u) rfl 46 (Nat.le_of_ble_eq_true rfl) (List.mem_of_getElem? (i := 2) rfl) rfl (Ff12_at46 r u) dX12_drops_152 ?_
              refine lv_iconst (v := 1) S.1 S.2.1 dX12_drops_155 (by decide) ?_
              refine m_iald S hI 22 0 (W12_at22 h r cs u) rfl hw.1 dX12_drops_156 ?_
              refine lv_topi (fun y156 ey156 => ?_)
              have hw := hw.2 y156 ey156
              refine m_si (As := [.int y145, .int (1 : Int32), .int y156]) (rest := []) S hI.2.2.2.1.2.1 (c_X12_in l y145 (1 : Int32) y156 _ hw) (va_cwS 3 S.2.2.2.2 gX12_drops_X12_in rfl rfl rfl (by decide +kernel) ⟨Nat.le_of_ble_eq_true rfl, Nat.le_of_ble_eq_true rfl⟩) rfl hl.1 rfl (Nat.le_of_ble_eq_true rfl) dX12_drops_157 ⟨Nat.zero_le _, Nat.zero_le _⟩ (fun y157 hw => ?_)
              refine lv_if_ne (tgt := 166) S.1 S.2.1 dX12_drops_160 (by decide) (fun c160 => ?_) (fun c160 => ?_)
              · have hw := hw.1 c160
                refine lv_aload_n S.1 S.2.1 dX12_drops_166 rfl (lv_at hl 2 rfl) ?_
                refine lv_iload S.1 S.2.1 dX12_drops_167 (lv_at hl 0 rfl) ?_
                refine m_vi (As := [.int y145]) (rest := []) S (W12_self h r cs) hI rfl (c_X12_drops1 l D h r cs y145 u _ hw) (cwV 1 S.2.2.2.2 gX12_drops_X12_drops1 rfl rfl rfl (by decide +kernel) ⟨Nat.le_of_ble_eq_true rfl, Nat.le_of_ble_eq_true rfl⟩) (W12_at0 h r cs u) rfl rfl hl.1 rfl (Nat.le_of_ble_eq_true rfl) dX12_drops_169 ⟨Nat.zero_le _, Nat.zero_le _⟩ (fun y169 u169 H locs hw hI => ?_)
                refine lv_pop S.1 S.2.1 dX12_drops_172 rfl ?_
                obtain ⟨y173, ey173⟩ : ∃ z : Int32, z = x4 + 1 := ⟨_, rfl⟩
                have hw := hw y173 ey173
                refine lv_iinc (v := y173) (lv' := [(4, .int y173), (7, .int y145), (5, .long y81), (0, .ref h), (1, .int x1), (2, .int x2), (3, .int x3)]) S.1 S.2.1 dX12_drops_173 hl (k := 6) rfl (by rw [ey173]; rfl) (by decide) rfl (fun ls hl => ?_)
                refine lv_goto (tgt := 70) S.1 S.2.1 dX12_drops_176 (by decide) ?_
                exact hB70 x1 x2 x3 y173 u169 hw H locs ls hI (lv_sub hl [3, 4, 5, 6, 0] rfl)
              · have hw := hw.2 c160
                refine lv_iload S.1 S.2.1 dX12_drops_163 (lv_at hl 6 rfl) ?_
                subst hZ
                exact m_iret S hr hlocks hI hw dX12_drops_165
            · have hw := hw.2 c126
              exact b129 x4 u hw H locs ls hI (lv_sub hl [1, 5] rfl)
  have b70 : ∀ (x1 : Int32) (x2 : Int32) (x3 : Int32) (x4 : Int32) (u : ST), wp_X12_drops_p70 x1 x2 x3 x4 u Q → mGo p l e ({ frames := 2, cells := 0, slots := 0, locals := 42 } : Room) s m args below meth c A Z 8 D (mT cs) (W12 h r cs) 70 [(0, .ref h), (1, .int x1), (2, .int x2), (3, .int x3), (4, .int x4)] [] u := by
    intro x1 x2 x3 x4 u hw
    obtain ⟨I, μ, h0, hs⟩ := hw
    have key : ∀ (n : Nat) (x1 : Int32) (x2 : Int32) (x3 : Int32) (x4 : Int32) (u : ST), μ x1 x2 x3 x4 u = n → I x1 x2 x3 x4 u → mGo p l e ({ frames := 2, cells := 0, slots := 0, locals := 42 } : Room) s m args below meth c A Z 8 D (mT cs) (W12 h r cs) 70 [(0, .ref h), (1, .int x1), (2, .int x2), (3, .int x3), (4, .int x4)] [] u := by
      intro n
      induction n using Nat.strongRecOn with
      | ind n ih =>
        intro x1 x2 x3 x4 u hn hi
        exact b70b (fun yx1 yx2 yx3 yx4 yu => I yx1 yx2 yx3 yx4 yu ∧ μ yx1 yx2 yx3 yx4 yu < μ x1 x2 x3 x4 u) (fun yx1 yx2 yx3 yx4 yu hb => ih _ (hn ▸ hb.2) yx1 yx2 yx3 yx4 yu rfl hb.1) x1 x2 x3 x4 u (hs x1 x2 x3 x4 u hi)
    exact key _ x1 x2 x3 x4 u rfl h0
  have b43 : ∀ (x1 : Int32) (x2 : Int32) (x3 : Int32) (u : ST), wp_X12_drops_p43 x1 x2 x3 u Q → mGo p l e ({ frames := 2, cells := 0, slots := 0, locals := 42 } : Room) s m args below meth c A Z 8 D (mT cs) (W12 h r cs) 43 [(0, .ref h), (1, .int x1), (2, .int x2), (3, .int x3)] [] u := by
    intro x1 x2 x3 u hw H locs ls hI hl
    unfold wp_X12_drops_p43 at hw
    refine lv_aload_n S.1 S.2.1 dX12_drops_43 rfl (lv_at hl 0 rfl) ?_
    refine m_get S hin hI 0 (W12_at0 h r cs u) rfl 46 (Nat.le_of_ble_eq_true rfl) (List.mem_of_getElem? (i := 2) rfl) rfl (Ff12_at46 r u) dX12_drops_44 ?_
    refine lv_iconst (v := 0) S.1 S.2.1 dX12_drops_47 (by decide) ?_
    refine m_iald S hI 22 0 (W12_at22 h r cs u) rfl hw.1 dX12_drops_48 ?_
    refine lv_topi (fun y48 ey48 => ?_)
    have hw := hw.2 y48 ey48
    refine lv_if_ge (tgt := 55) S.1 S.2.1 dX12_drops_49 (by decide) (fun c49 => ?_) (fun c49 => ?_)
    · have hw := hw.1 c49
      refine lv_aload_n S.1 S.2.1 dX12_drops_55 rfl (lv_at hl 0 rfl) ?_
      refine m_get S hin hI 0 (W12_at0 h r cs u) rfl 53 (Nat.le_of_ble_eq_true rfl) (List.mem_of_getElem? (i := 1) rfl) rfl (Ff12_at53 r u) dX12_drops_56 ?_
      refine lv_iload_n S.1 S.2.1 dX12_drops_59 rfl (lv_at hl 1 rfl) ?_
      refine m_iald S hI 26 0 (W12_at26 h r cs u) rfl hw.1 dX12_drops_60 ?_
      refine lv_topi (fun y60 ey60 => ?_)
      have hw := hw.2 y60 ey60
      refine lv_iconst (v := (-1)) S.1 S.2.1 dX12_drops_61 (by decide) ?_
      refine lv_icmp_ne (tgt := 67) S.1 S.2.1 dX12_drops_62 (by decide) (fun c62 => ?_) (fun c62 => ?_)
      · have hw := hw.1 c62
        refine lv_iconst (v := 0) S.1 S.2.1 dX12_drops_67 (by decide) ?_
        refine lv_istore (lv' := [(4, .int (0 : Int32)), (0, .ref h), (1, .int x1), (2, .int x2), (3, .int x3)]) S.1 S.2.1 dX12_drops_68 hl (by decide) rfl (fun ls hl => ?_)
        exact b70 x1 x2 x3 (0 : Int32) u hw H locs ls hI (lv_sub hl [1, 2, 3, 4, 0] rfl)
      · have hw := hw.2 c62
        refine lv_iconst (v := 0) S.1 S.2.1 dX12_drops_65 (by decide) ?_
        subst hZ
        exact m_iret S hr hlocks hI hw dX12_drops_66
    · have hw := hw.2 c49
      refine lv_bipush (v := (-5)) S.1 S.2.1 dX12_drops_52 (by decide) ?_
      subst hZ
      exact m_iret S hr hlocks hI hw dX12_drops_54
  unfold wp_X12_drops at hw
  obtain ⟨H, hH⟩ : ∃ z : Heap, z = s.heap := ⟨_, rfl⟩
  obtain ⟨locs, hL⟩ : ∃ z : List Loc, z = [] := ⟨_, rfl⟩
  rw [show W p l e ({ frames := 2, cells := 0, slots := 0, locals := 42 } : Room) s m args below meth c s.heap [] 0 0 Z (F0 m 0 ls []) = W p l e ({ frames := 2, cells := 0, slots := 0, locals := 42 } : Room) s m args below meth c H locs 0 0 Z (F0 m 0 ls []) by rw [hH, hL]]
  replace hI : mI D (mT cs) A s.heap s (W12 h r cs u) H locs := by rw [hH, hL]; exact hI
  refine lv_iload_n S.1 S.2.1 dX12_drops_0 rfl (lv_at hl 1 rfl) ?_
  refine m_si (As := [.int a1]) (rest := []) S hI.2.2.2.1.2.1 (c_X12_isShelf l a1 _ hw) (va_cwS 1 S.2.2.2.2 gX12_drops_X12_isShelf rfl rfl rfl (by decide +kernel) ⟨Nat.le_of_ble_eq_true rfl, Nat.le_of_ble_eq_true rfl⟩) rfl hl.1 rfl (Nat.le_of_ble_eq_true rfl) dX12_drops_1 ⟨Nat.zero_le _, Nat.zero_le _⟩ (fun y1 hw => ?_)
  refine lv_if_eq (tgt := 17) S.1 S.2.1 dX12_drops_4 (by decide) (fun c4 => ?_) (fun c4 => ?_)
  · have hw := hw.1 c4
    exact b17 u hw H locs ls hI (lv_sub hl [0] rfl)
  · have hw := hw.2 c4
    refine lv_iload_n S.1 S.2.1 dX12_drops_7 rfl (lv_at hl 3 rfl) ?_
    refine lv_iconst (v := 1) S.1 S.2.1 dX12_drops_8 (by decide) ?_
    refine lv_bipush (v := 20) S.1 S.2.1 dX12_drops_9 (by decide) ?_
    refine m_si (As := [.int a3, .int (1 : Int32), .int (20 : Int32)]) (rest := []) S hI.2.2.2.1.2.1 (c_X12_in l a3 (1 : Int32) (20 : Int32) _ hw) (va_cwS 3 S.2.2.2.2 gX12_drops_X12_in rfl rfl rfl (by decide +kernel) ⟨Nat.le_of_ble_eq_true rfl, Nat.le_of_ble_eq_true rfl⟩) rfl hl.1 rfl (Nat.le_of_ble_eq_true rfl) dX12_drops_11 ⟨Nat.zero_le _, Nat.zero_le _⟩ (fun y11 hw => ?_)
    refine lv_if_ne (tgt := 19) S.1 S.2.1 dX12_drops_14 (by decide) (fun c14 => ?_) (fun c14 => ?_)
    · have hw := hw.1 c14
      refine lv_aload_n S.1 S.2.1 dX12_drops_19 rfl (lv_at hl 0 rfl) ?_
      refine m_get S hin hI 0 (W12_at0 h r cs u) rfl 53 (Nat.le_of_ble_eq_true rfl) (List.mem_of_getElem? (i := 1) rfl) rfl (Ff12_at53 r u) dX12_drops_20 ?_
      refine lv_iload_n S.1 S.2.1 dX12_drops_23 rfl (lv_at hl 1 rfl) ?_
      refine m_iald S hI 26 0 (W12_at26 h r cs u) rfl hw.1 dX12_drops_24 ?_
      refine lv_topi (fun y24 ey24 => ?_)
      have hw := hw.2 y24 ey24
      refine lv_iconst (v := (-1)) S.1 S.2.1 dX12_drops_25 (by decide) ?_
      refine lv_icmp_eq (tgt := 43) S.1 S.2.1 dX12_drops_26 (by decide) (fun c26 => ?_) (fun c26 => ?_)
      · have hw := hw.1 c26
        exact b43 a1 a2 a3 u hw H locs ls hI (lv_sub hl [0, 1, 2, 3] rfl)
      · have hw := hw.2 c26
        refine lv_aload_n S.1 S.2.1 dX12_drops_29 rfl (lv_at hl 0 rfl) ?_
        refine m_get S hin hI 0 (W12_at0 h r cs u) rfl 53 (Nat.le_of_ble_eq_true rfl) (List.mem_of_getElem? (i := 1) rfl) rfl (Ff12_at53 r u) dX12_drops_30 ?_
        refine lv_iload_n S.1 S.2.1 dX12_drops_33 rfl (lv_at hl 1 rfl) ?_
        refine m_iald S hI 26 0 (W12_at26 h r cs u) rfl hw.1 dX12_drops_34 ?_
        refine lv_topi (fun y34 ey34 => ?_)
        have hw := hw.2 y34 ey34
        refine lv_bipush (v := (-2)) S.1 S.2.1 dX12_drops_35 (by decide) ?_
        refine lv_icmp_eq (tgt := 43) S.1 S.2.1 dX12_drops_37 (by decide) (fun c37 => ?_) (fun c37 => ?_)
        · have hw := hw.1 c37
          exact b43 a1 a2 a3 u hw H locs ls hI (lv_sub hl [0, 1, 2, 3] rfl)
        · have hw := hw.2 c37
          refine lv_bipush (v := (-12)) S.1 S.2.1 dX12_drops_40 (by decide) ?_
          subst hZ
          exact m_iret S hr hlocks hI hw dX12_drops_42
    · have hw := hw.2 c14
      exact b17 u hw H locs ls hI (lv_sub hl [0] rfl)

def wp_X12_guess_p41 (t0 : Int32) (u : ST) (Q : Int32 → ST → Prop) : Prop :=
  (vp_in (7 : Int32) 9 ∧ ∀ y49 : Int32, y49 = gA u 46 (7 : Int32).toNatClampNeg → (∀ y51 : Int32, y51 = y49 + t0 → (vp_in (7 : Int32) 9 ∧ ∀ u52 : ST, u52 = sA u 46 (upd (gA u 46) (7 : Int32).toNatClampNeg y51) → (vp_in (8 : Int32) 9 ∧ ∀ y60 : Int32, y60 = gA u52 46 (8 : Int32).toNatClampNeg → (∀ y62 : Int32, y62 = y60 + (1 : Int32) → (vp_in (8 : Int32) 9 ∧ ∀ u63 : ST, u63 = sA u52 46 (upd (gA u52 46) (8 : Int32).toNatClampNeg y62) → (vp_in (0 : Int32) 9 ∧ ∀ u70 : ST, u70 = sA u63 46 (upd (gA u63 46) (0 : Int32).toNatClampNeg ((-1) : Int32)) → Q t0 u70)))))))
def wp_X12_guess (a1 : Int32) (u : ST) (Q : Int32 → ST → Prop) : Prop :=
  (wp_X12_stepsNow u (fun y3 u3 => (wp_X12_in a1 (0 : Int32) y3 (fun y6 => ((¬ y6 = 0 → (vp_in (0 : Int32) 9 ∧ ∀ y19 : Int32, y19 = gA u3 46 (0 : Int32).toNatClampNeg → ((0 ≤ y19 → (vp_in (0 : Int32) 9 ∧ ∀ y32 : Int32, y32 = gA u3 46 (0 : Int32).toNatClampNeg → ((¬ a1 = y32 → wp_X12_guess_p41 (0 : Int32) u3 Q) ∧ (a1 = y32 → wp_X12_guess_p41 (1 : Int32) u3 Q)))) ∧ (¬ 0 ≤ y19 → Q ((-5) : Int32) u3)))) ∧ (y6 = 0 → Q ((-1) : Int32) u3))))))
set_option maxHeartbeats 4000000 in
set_option maxRecDepth 100000 in
theorem c_X12_guess (l : Launch) (D : va_G) (h : Nat) (r : Nat → Nat) (cs : Nat → ClassId) (a1 : Int32) (u : ST) (Q : Int32 → ST → Prop) (hw : wp_X12_guess a1 u Q) : mCi l yX12_guess wsX12_guess ({ frames := 1, cells := 0, slots := 0, locals := 22 } : Room) 0 0 D (mT cs) (W12 h r cs) [.ref h, .int a1] u Q := by
  unfold mCi
  refine m_enter (QQ := fun A => va_Qi Q (mPos D (mT cs) A (W12 h r cs)) A) (cc := cX12_guess) (maxL := 3) (ret := (some .int)) (by decide) rfl (Nat.le_of_ble_eq_true rfl) ?_
  intro p e s m args below meth c A ls S hr hlocks hname hl hI
  have S : CallFix p m c cX12_guess 3 s args wsX12_guess RX12 := S
  show W p l e ({ frames := 1, cells := 0, slots := 0, locals := 22 } : Room) s m args below meth c s.heap [] 0 0 (MQ below (va_Qi Q (mPos D (mT cs) A (W12 h r cs)) A) args s 0 0 A) (F0 m 0 ls [])
  generalize hZ : MQ below (va_Qi Q (mPos D (mT cs) A (W12 h r cs)) A) args s 0 0 A = Z
  have hin : ∀ w ∈ wsX120, w ∈ wsX12_guess := fun _ h => List.mem_cons_of_mem _ (List.mem_append_right _ h)
  have hl : lv_has ls 3 [(0, .ref h), (1, .int a1)] := hl
  have b41 : ∀ (t0 : Int32) (u : ST), wp_X12_guess_p41 t0 u Q → mGo p l e ({ frames := 1, cells := 0, slots := 0, locals := 22 } : Room) s m args below meth c A Z 3 D (mT cs) (W12 h r cs) 41 [(0, .ref h)] [.int t0] u := by
    intro t0 u hw H locs ls hI hl
    unfold wp_X12_guess_p41 at hw
    refine lv_istore_n (lv' := [(2, .int t0), (0, .ref h)]) S.1 S.2.1 dX12_guess_41 rfl hl (by decide) rfl (fun ls hl => ?_)
    refine lv_aload_n S.1 S.2.1 dX12_guess_42 rfl (lv_at hl 1 rfl) ?_
    refine m_get S hin hI 0 (W12_at0 h r cs u) rfl 46 (Nat.le_of_ble_eq_true rfl) (List.mem_of_getElem? (i := 1) rfl) rfl (Ff12_at46 r u) dX12_guess_43 ?_
    refine lv_bipush (v := 7) S.1 S.2.1 dX12_guess_46 (by decide) ?_
    refine lv_dup2_11 S.1 S.2.1 dX12_guess_48 rfl rfl ?_
    refine m_iald S hI 22 0 (W12_at22 h r cs u) rfl hw.1 dX12_guess_49 ?_
    refine lv_topi (fun y49 ey49 => ?_)
    have hw := hw.2 y49 ey49
    refine lv_iload_n S.1 S.2.1 dX12_guess_50 rfl (lv_at hl 0 rfl) ?_
    refine lv_iadd S.1 S.2.1 dX12_guess_51 ?_
    refine lv_topi (fun y51 ey51 => ?_)
    have hw := hw y51 ey51
    obtain ⟨u52, eu52⟩ : ∃ z : ST, z = sA u 46 (upd (gA u 46) (7 : Int32).toNatClampNeg y51) := ⟨_, rfl⟩
    refine m_iast S hI 22 0 (W12_at22 h r cs u) rfl hw.1 (W12_sA46 h r cs u u52 _ eu52) dX12_guess_52 (fun H locs hI => ?_)
    have hw := hw.2 u52 eu52
    refine lv_aload_n S.1 S.2.1 dX12_guess_53 rfl (lv_at hl 1 rfl) ?_
    refine m_get S hin hI 0 (W12_at0 h r cs u52) rfl 46 (Nat.le_of_ble_eq_true rfl) (List.mem_of_getElem? (i := 1) rfl) rfl (Ff12_at46 r u52) dX12_guess_54 ?_
    refine lv_bipush (v := 8) S.1 S.2.1 dX12_guess_57 (by decide) ?_
    refine lv_dup2_11 S.1 S.2.1 dX12_guess_59 rfl rfl ?_
    refine m_iald S hI 22 0 (W12_at22 h r cs u52) rfl hw.1 dX12_guess_60 ?_
    refine lv_topi (fun y60 ey60 => ?_)
    have hw := hw.2 y60 ey60
    refine lv_iconst (v := 1) S.1 S.2.1 dX12_guess_61 (by decide) ?_
    refine lv_iadd S.1 S.2.1 dX12_guess_62 ?_
    refine lv_topi (fun y62 ey62 => ?_)
    have hw := hw y62 ey62
    obtain ⟨u63, eu63⟩ : ∃ z : ST, z = sA u52 46 (upd (gA u52 46) (8 : Int32).toNatClampNeg y62) := ⟨_, rfl⟩
    refine m_iast S hI 22 0 (W12_at22 h r cs u52) rfl hw.1 (W12_sA46 h r cs u52 u63 _ eu63) dX12_guess_63 (fun H locs hI => ?_)
    have hw := hw.2 u63 eu63
    refine lv_aload_n S.1 S.2.1 dX12_guess_64 rfl (lv_at hl 1 rfl) ?_
    refine m_get S hin hI 0 (W12_at0 h r cs u63) rfl 46 (Nat.le_of_ble_eq_true rfl) (List.mem_of_getElem? (i := 1) rfl) rfl (Ff12_at46 r u63) dX12_guess_65 ?_
    refine lv_iconst (v := 0) S.1 S.2.1 dX12_guess_68 (by decide) ?_
    refine lv_iconst (v := (-1)) S.1 S.2.1 dX12_guess_69 (by decide) ?_
    obtain ⟨u70, eu70⟩ : ∃ z : ST, z = sA u63 46 (upd (gA u63 46) (0 : Int32).toNatClampNeg ((-1) : Int32)) := ⟨_, rfl⟩
    refine m_iast S hI 22 0 (W12_at22 h r cs u63) rfl hw.1 (W12_sA46 h r cs u63 u70 _ eu70) dX12_guess_70 (fun H locs hI => ?_)
    have hw := hw.2 u70 eu70
    refine lv_iload_n S.1 S.2.1 dX12_guess_71 rfl (lv_at hl 0 rfl) ?_
    subst hZ
    exact m_iret S hr hlocks hI hw dX12_guess_72
  unfold wp_X12_guess at hw
  obtain ⟨H, hH⟩ : ∃ z : Heap, z = s.heap := ⟨_, rfl⟩
  obtain ⟨locs, hL⟩ : ∃ z : List Loc, z = [] := ⟨_, rfl⟩
  rw [show W p l e ({ frames := 1, cells := 0, slots := 0, locals := 22 } : Room) s m args below meth c s.heap [] 0 0 Z (F0 m 0 ls []) = W p l e ({ frames := 1, cells := 0, slots := 0, locals := 22 } : Room) s m args below meth c H locs 0 0 Z (F0 m 0 ls []) by rw [hH, hL]]
  replace hI : mI D (mT cs) A s.heap s (W12 h r cs u) H locs := by rw [hH, hL]; exact hI
  refine lv_iload_n S.1 S.2.1 dX12_guess_0 rfl (lv_at hl 1 rfl) ?_
  refine lv_iconst (v := 0) S.1 S.2.1 dX12_guess_1 (by decide) ?_
  refine lv_aload_n S.1 S.2.1 dX12_guess_2 rfl (lv_at hl 0 rfl) ?_
  refine m_vi (As := []) (rest := [.int (0 : Int32), .int a1]) S (W12_self h r cs) hI rfl (c_X12_stepsNow l D h r cs u _ hw) (cwV 0 S.2.2.2.2 gX12_guess_X12_stepsNow rfl rfl rfl (by decide +kernel) ⟨Nat.le_of_ble_eq_true rfl, Nat.le_of_ble_eq_true rfl⟩) (W12_at0 h r cs u) rfl rfl hl.1 rfl (Nat.le_of_ble_eq_true rfl) dX12_guess_3 ⟨Nat.zero_le _, Nat.zero_le _⟩ (fun y3 u3 H locs hw hI => ?_)
  refine m_si (As := [.int a1, .int (0 : Int32), .int y3]) (rest := []) S hI.2.2.2.1.2.1 (c_X12_in l a1 (0 : Int32) y3 _ hw) (va_cwS 3 S.2.2.2.2 gX12_guess_X12_in rfl rfl rfl (by decide +kernel) ⟨Nat.le_of_ble_eq_true rfl, Nat.le_of_ble_eq_true rfl⟩) rfl hl.1 rfl (Nat.le_of_ble_eq_true rfl) dX12_guess_6 ⟨Nat.zero_le _, Nat.zero_le _⟩ (fun y6 hw => ?_)
  refine lv_if_ne (tgt := 14) S.1 S.2.1 dX12_guess_9 (by decide) (fun c9 => ?_) (fun c9 => ?_)
  · have hw := hw.1 c9
    refine lv_aload_n S.1 S.2.1 dX12_guess_14 rfl (lv_at hl 0 rfl) ?_
    refine m_get S hin hI 0 (W12_at0 h r cs u3) rfl 46 (Nat.le_of_ble_eq_true rfl) (List.mem_of_getElem? (i := 1) rfl) rfl (Ff12_at46 r u3) dX12_guess_15 ?_
    refine lv_iconst (v := 0) S.1 S.2.1 dX12_guess_18 (by decide) ?_
    refine m_iald S hI 22 0 (W12_at22 h r cs u3) rfl hw.1 dX12_guess_19 ?_
    refine lv_topi (fun y19 ey19 => ?_)
    have hw := hw.2 y19 ey19
    refine lv_if_ge (tgt := 26) S.1 S.2.1 dX12_guess_20 (by decide) (fun c20 => ?_) (fun c20 => ?_)
    · have hw := hw.1 c20
      refine lv_iload_n S.1 S.2.1 dX12_guess_26 rfl (lv_at hl 1 rfl) ?_
      refine lv_aload_n S.1 S.2.1 dX12_guess_27 rfl (lv_at hl 0 rfl) ?_
      refine m_get S hin hI 0 (W12_at0 h r cs u3) rfl 46 (Nat.le_of_ble_eq_true rfl) (List.mem_of_getElem? (i := 1) rfl) rfl (Ff12_at46 r u3) dX12_guess_28 ?_
      refine lv_iconst (v := 0) S.1 S.2.1 dX12_guess_31 (by decide) ?_
      refine m_iald S hI 22 0 (W12_at22 h r cs u3) rfl hw.1 dX12_guess_32 ?_
      refine lv_topi (fun y32 ey32 => ?_)
      have hw := hw.2 y32 ey32
      refine lv_icmp_ne (tgt := 40) S.1 S.2.1 dX12_guess_33 (by decide) (fun c33 => ?_) (fun c33 => ?_)
      · have hw := hw.1 c33
        refine lv_iconst (v := 0) S.1 S.2.1 dX12_guess_40 (by decide) ?_
        exact b41 (0 : Int32) u3 hw H locs ls hI (lv_sub hl [0] rfl)
      · have hw := hw.2 c33
        refine lv_iconst (v := 1) S.1 S.2.1 dX12_guess_36 (by decide) ?_
        refine lv_goto (tgt := 41) S.1 S.2.1 dX12_guess_37 (by decide) ?_
        exact b41 (1 : Int32) u3 hw H locs ls hI (lv_sub hl [0] rfl)
    · have hw := hw.2 c20
      refine lv_bipush (v := (-5)) S.1 S.2.1 dX12_guess_23 (by decide) ?_
      subst hZ
      exact m_iret S hr hlocks hI hw dX12_guess_25
  · have hw := hw.2 c9
    refine lv_iconst (v := (-1)) S.1 S.2.1 dX12_guess_12 (by decide) ?_
    subst hZ
    exact m_iret S hr hlocks hI hw dX12_guess_13

def wp_X12_led_p47 (t0 : Int32) (u : ST) (Q : Int32 → ST → Prop) : Prop :=
  Q t0 u
def wp_X12_led (a1 : Int32) (u : ST) (Q : Int32 → ST → Prop) : Prop :=
  (wp_X12_in a1 (0 : Int32) (5 : Int32) (fun y3 => ((¬ y3 = 0 → ((a1 ≤ (3 : Int32) → (vp_in (0 : Int32) 9 ∧ ∀ y30 : Int32, y30 = gA u 46 (0 : Int32).toNatClampNeg → ((0 ≤ y30 → (∀ y45 : Int32, y45 = (3 : Int32) + a1 → (vp_in y45 9 ∧ ∀ y46 : Int32, y46 = gA u 46 y45.toNatClampNeg → wp_X12_led_p47 y46 u Q))) ∧ (¬ 0 ≤ y30 → wp_X12_led_p47 ((-5) : Int32) u Q)))) ∧ (¬ a1 ≤ (3 : Int32) → (∀ y22 : Int32, y22 = (3 : Int32) + a1 → (vp_in y22 9 ∧ ∀ y23 : Int32, y23 = gA u 46 y22.toNatClampNeg → Q y23 u))))) ∧ (y3 = 0 → Q ((-1) : Int32) u))))
set_option maxHeartbeats 4000000 in
set_option maxRecDepth 100000 in
theorem c_X12_led (l : Launch) (D : va_G) (h : Nat) (r : Nat → Nat) (cs : Nat → ClassId) (a1 : Int32) (u : ST) (Q : Int32 → ST → Prop) (hw : wp_X12_led a1 u Q) : mCi l yX12_led wsX12_led ({ frames := 1, cells := 0, slots := 0, locals := 22 } : Room) 0 0 D (mT cs) (W12 h r cs) [.ref h, .int a1] u Q := by
  unfold mCi
  refine m_enter (QQ := fun A => va_Qi Q (mPos D (mT cs) A (W12 h r cs)) A) (cc := cX12_led) (maxL := 2) (ret := (some .int)) (by decide) rfl (Nat.le_of_ble_eq_true rfl) ?_
  intro p e s m args below meth c A ls S hr hlocks hname hl hI
  have S : CallFix p m c cX12_led 2 s args wsX12_led RX12 := S
  show W p l e ({ frames := 1, cells := 0, slots := 0, locals := 22 } : Room) s m args below meth c s.heap [] 0 0 (MQ below (va_Qi Q (mPos D (mT cs) A (W12 h r cs)) A) args s 0 0 A) (F0 m 0 ls [])
  generalize hZ : MQ below (va_Qi Q (mPos D (mT cs) A (W12 h r cs)) A) args s 0 0 A = Z
  have hin : ∀ w ∈ wsX120, w ∈ wsX12_led := fun _ h => List.mem_cons_of_mem _ (List.mem_append_right _ h)
  have hl : lv_has ls 2 [(0, .ref h), (1, .int a1)] := hl
  have b47 : ∀ (t0 : Int32) (u : ST), wp_X12_led_p47 t0 u Q → mGo p l e ({ frames := 1, cells := 0, slots := 0, locals := 22 } : Room) s m args below meth c A Z 2 D (mT cs) (W12 h r cs) 47 [(0, .ref h)] [.int t0] u := by
    intro t0 u hw H locs ls hI hl
    unfold wp_X12_led_p47 at hw
    subst hZ
    exact m_iret S hr hlocks hI hw dX12_led_47
  unfold wp_X12_led at hw
  obtain ⟨H, hH⟩ : ∃ z : Heap, z = s.heap := ⟨_, rfl⟩
  obtain ⟨locs, hL⟩ : ∃ z : List Loc, z = [] := ⟨_, rfl⟩
  rw [show W p l e ({ frames := 1, cells := 0, slots := 0, locals := 22 } : Room) s m args below meth c s.heap [] 0 0 Z (F0 m 0 ls []) = W p l e ({ frames := 1, cells := 0, slots := 0, locals := 22 } : Room) s m args below meth c H locs 0 0 Z (F0 m 0 ls []) by rw [hH, hL]]
  replace hI : mI D (mT cs) A s.heap s (W12 h r cs u) H locs := by rw [hH, hL]; exact hI
  refine lv_iload_n S.1 S.2.1 dX12_led_0 rfl (lv_at hl 1 rfl) ?_
  refine lv_iconst (v := 0) S.1 S.2.1 dX12_led_1 (by decide) ?_
  refine lv_iconst (v := 5) S.1 S.2.1 dX12_led_2 (by decide) ?_
  refine m_si (As := [.int a1, .int (0 : Int32), .int (5 : Int32)]) (rest := []) S hI.2.2.2.1.2.1 (c_X12_in l a1 (0 : Int32) (5 : Int32) _ hw) (va_cwS 3 S.2.2.2.2 gX12_led_X12_in rfl rfl rfl (by decide +kernel) ⟨Nat.le_of_ble_eq_true rfl, Nat.le_of_ble_eq_true rfl⟩) rfl hl.1 rfl (Nat.le_of_ble_eq_true rfl) dX12_led_3 ⟨Nat.zero_le _, Nat.zero_le _⟩ (fun y3 hw => ?_)
  refine lv_if_ne (tgt := 11) S.1 S.2.1 dX12_led_6 (by decide) (fun c6 => ?_) (fun c6 => ?_)
  · have hw := hw.1 c6
    refine lv_iload_n S.1 S.2.1 dX12_led_11 rfl (lv_at hl 1 rfl) ?_
    refine lv_iconst (v := 3) S.1 S.2.1 dX12_led_12 (by decide) ?_
    refine lv_icmp_le (tgt := 25) S.1 S.2.1 dX12_led_13 (by decide) (fun c13 => ?_) (fun c13 => ?_)
    · have hw := hw.1 c13
      refine lv_aload_n S.1 S.2.1 dX12_led_25 rfl (lv_at hl 0 rfl) ?_
      refine m_get S hin hI 0 (W12_at0 h r cs u) rfl 46 (Nat.le_of_ble_eq_true rfl) (List.mem_of_getElem? (i := 1) rfl) rfl (Ff12_at46 r u) dX12_led_26 ?_
      refine lv_iconst (v := 0) S.1 S.2.1 dX12_led_29 (by decide) ?_
      refine m_iald S hI 22 0 (W12_at22 h r cs u) rfl hw.1 dX12_led_30 ?_
      refine lv_topi (fun y30 ey30 => ?_)
      have hw := hw.2 y30 ey30
      refine lv_if_ge (tgt := 39) S.1 S.2.1 dX12_led_31 (by decide) (fun c31 => ?_) (fun c31 => ?_)
      · have hw := hw.1 c31
        refine lv_aload_n S.1 S.2.1 dX12_led_39 rfl (lv_at hl 0 rfl) ?_
        refine m_get S hin hI 0 (W12_at0 h r cs u) rfl 46 (Nat.le_of_ble_eq_true rfl) (List.mem_of_getElem? (i := 1) rfl) rfl (Ff12_at46 r u) dX12_led_40 ?_
        refine lv_iconst (v := 3) S.1 S.2.1 dX12_led_43 (by decide) ?_
        refine lv_iload_n S.1 S.2.1 dX12_led_44 rfl (lv_at hl 1 rfl) ?_
        refine lv_iadd S.1 S.2.1 dX12_led_45 ?_
        refine lv_topi (fun y45 ey45 => ?_)
        have hw := hw y45 ey45
        refine m_iald S hI 22 0 (W12_at22 h r cs u) rfl hw.1 dX12_led_46 ?_
        refine lv_topi (fun y46 ey46 => ?_)
        have hw := hw.2 y46 ey46
        exact b47 y46 u hw H locs ls hI (lv_sub hl [0] rfl)
      · have hw := hw.2 c31
        refine lv_bipush (v := (-5)) S.1 S.2.1 dX12_led_34 (by decide) ?_
        refine lv_goto (tgt := 47) S.1 S.2.1 dX12_led_36 (by decide) ?_
        exact b47 ((-5) : Int32) u hw H locs ls hI (lv_sub hl [0] rfl)
    · have hw := hw.2 c13
      refine lv_aload_n S.1 S.2.1 dX12_led_16 rfl (lv_at hl 0 rfl) ?_
      refine m_get S hin hI 0 (W12_at0 h r cs u) rfl 46 (Nat.le_of_ble_eq_true rfl) (List.mem_of_getElem? (i := 1) rfl) rfl (Ff12_at46 r u) dX12_led_17 ?_
      refine lv_iconst (v := 3) S.1 S.2.1 dX12_led_20 (by decide) ?_
      refine lv_iload_n S.1 S.2.1 dX12_led_21 rfl (lv_at hl 1 rfl) ?_
      refine lv_iadd S.1 S.2.1 dX12_led_22 ?_
      refine lv_topi (fun y22 ey22 => ?_)
      have hw := hw y22 ey22
      refine m_iald S hI 22 0 (W12_at22 h r cs u) rfl hw.1 dX12_led_23 ?_
      refine lv_topi (fun y23 ey23 => ?_)
      have hw := hw.2 y23 ey23
      subst hZ
      exact m_iret S hr hlocks hI hw dX12_led_24
  · have hw := hw.2 c6
    refine lv_iconst (v := (-1)) S.1 S.2.1 dX12_led_9 (by decide) ?_
    subst hZ
    exact m_iret S hr hlocks hI hw dX12_led_10

def wp_X12_image_p50 (t0 : Int32) (u : ST) (Q : Int32 → ST → Prop) : Prop :=
  Q t0 u
def wp_X12_image_p7b (x1 : Int32) (u : ST) (B7 : Int32 → ST → Prop) (Q : Int32 → ST → Prop) : Prop :=
  (((9 : Int32) ≤ x1 → (vp_in (0 : Int32) 9 ∧ ∀ y36 : Int32, y36 = gA u 46 (0 : Int32).toNatClampNeg → ((0 ≤ y36 → (vp_in (3 : Int32) 9 ∧ ∀ y49 : Int32, y49 = gA u 46 (3 : Int32).toNatClampNeg → wp_X12_image_p50 y49 u Q)) ∧ (¬ 0 ≤ y36 → wp_X12_image_p50 (0 : Int32) u Q)))) ∧ (¬ (9 : Int32) ≤ x1 → (vp_in x1 9 ∧ ∀ y23 : Int32, y23 = gA u 46 x1.toNatClampNeg → (vp_in x1 9 ∧ ∀ u24 : ST, u24 = sA u 47 (upd (gA u 47) x1.toNatClampNeg y23) → (∀ y25 : Int32, y25 = x1 + 1 → B7 y25 u24)))))
def wp_X12_image_p7 (x1 : Int32) (u : ST) (Q : Int32 → ST → Prop) : Prop := ∃ (I : Int32 → ST → Prop) (μ : Int32 → ST → Nat), I x1 u ∧ ∀ (x1 : Int32) (u : ST), I x1 u → wp_X12_image_p7b x1 u (fun yx1 yu => I yx1 yu ∧ μ yx1 yu < μ x1 u) Q
def wp_X12_image (u : ST) (Q : Int32 → ST → Prop) : Prop :=
  (∀ u2 : ST, u2 = sI u 48 (1 : Int32) → wp_X12_image_p7 (0 : Int32) u2 Q)
set_option maxHeartbeats 4000000 in
set_option maxRecDepth 100000 in
theorem c_X12_image (l : Launch) (D : va_G) (h : Nat) (r : Nat → Nat) (cs : Nat → ClassId) (u : ST) (Q : Int32 → ST → Prop) (hw : wp_X12_image u Q) : mCi l yX12_image wsX12_image ({ frames := 0, cells := 0, slots := 0, locals := 0 } : Room) 0 0 D (mT cs) (W12 h r cs) [.ref h] u Q := by
  unfold mCi
  refine m_enter (QQ := fun A => va_Qi Q (mPos D (mT cs) A (W12 h r cs)) A) (cc := cX12_image) (maxL := 2) (ret := (some .int)) (by decide) rfl (Nat.le_of_ble_eq_true rfl) ?_
  intro p e s m args below meth c A ls S hr hlocks hname hl hI
  have S : CallFix p m c cX12_image 2 s args wsX12_image RX12 := S
  show W p l e ({ frames := 0, cells := 0, slots := 0, locals := 0 } : Room) s m args below meth c s.heap [] 0 0 (MQ below (va_Qi Q (mPos D (mT cs) A (W12 h r cs)) A) args s 0 0 A) (F0 m 0 ls [])
  generalize hZ : MQ below (va_Qi Q (mPos D (mT cs) A (W12 h r cs)) A) args s 0 0 A = Z
  have hin : ∀ w ∈ wsX120, w ∈ wsX12_image := fun _ h => List.mem_cons_of_mem _ (List.mem_append_right _ h)
  have hl : lv_has ls 2 [(0, .ref h)] := hl
  have b50 : ∀ (t0 : Int32) (u : ST), wp_X12_image_p50 t0 u Q → mGo p l e ({ frames := 0, cells := 0, slots := 0, locals := 0 } : Room) s m args below meth c A Z 2 D (mT cs) (W12 h r cs) 50 [(0, .ref h)] [.int t0] u := by
    intro t0 u hw H locs ls hI hl
    unfold wp_X12_image_p50 at hw
    subst hZ
    exact m_iret S hr hlocks hI hw dX12_image_50
  have b7b : ∀ (B7 : Int32 → ST → Prop), (∀ (x1 : Int32) (u : ST), B7 x1 u → mGo p l e ({ frames := 0, cells := 0, slots := 0, locals := 0 } : Room) s m args below meth c A Z 2 D (mT cs) (W12 h r cs) 7 [(0, .ref h), (1, .int x1)] [] u) → ∀ (x1 : Int32) (u : ST), wp_X12_image_p7b x1 u B7 Q → mGo p l e ({ frames := 0, cells := 0, slots := 0, locals := 0 } : Room) s m args below meth c A Z 2 D (mT cs) (W12 h r cs) 7 [(0, .ref h), (1, .int x1)] [] u := by
    intro B7 hB7 x1 u hw H locs ls hI hl
    unfold wp_X12_image_p7b at hw
    refine lv_iload_n S.1 S.2.1 dX12_image_7 rfl (lv_at hl 1 rfl) ?_
    refine lv_bipush (v := 9) S.1 S.2.1 dX12_image_8 (by decide) ?_
    refine lv_icmp_ge (tgt := 31) S.1 S.2.1 dX12_image_10 (by decide) (fun c10 => ?_) (fun c10 => ?_)
    · have hw := hw.1 c10
      refine lv_aload_n S.1 S.2.1 dX12_image_31 rfl (lv_at hl 0 rfl) ?_
      refine m_get S hin hI 0 (W12_at0 h r cs u) rfl 46 (Nat.le_of_ble_eq_true rfl) (List.mem_of_getElem? (i := 3) rfl) rfl (Ff12_at46 r u) dX12_image_32 ?_
      refine lv_iconst (v := 0) S.1 S.2.1 dX12_image_35 (by decide) ?_
      refine m_iald S hI 22 0 (W12_at22 h r cs u) rfl hw.1 dX12_image_36 ?_
      refine lv_topi (fun y36 ey36 => ?_)
      have hw := hw.2 y36 ey36
      refine lv_if_ge (tgt := 44) S.1 S.2.1 dX12_image_37 (by decide) (fun c37 => ?_) (fun c37 => ?_)
      · have hw := hw.1 c37
        refine lv_aload_n S.1 S.2.1 dX12_image_44 rfl (lv_at hl 0 rfl) ?_
        refine m_get S hin hI 0 (W12_at0 h r cs u) rfl 46 (Nat.le_of_ble_eq_true rfl) (List.mem_of_getElem? (i := 3) rfl) rfl (Ff12_at46 r u) dX12_image_45 ?_
        refine lv_iconst (v := 3) S.1 S.2.1 dX12_image_48 (by decide) ?_
        refine m_iald S hI 22 0 (W12_at22 h r cs u) rfl hw.1 dX12_image_49 ?_
        refine lv_topi (fun y49 ey49 => ?_)
        have hw := hw.2 y49 ey49
        exact b50 y49 u hw H locs ls hI (lv_sub hl [0] rfl)
      · have hw := hw.2 c37
        refine lv_iconst (v := 0) S.1 S.2.1 dX12_image_40 (by decide) ?_
        refine lv_goto (tgt := 50) S.1 S.2.1 dX12_image_41 (by decide) ?_
        exact b50 (0 : Int32) u hw H locs ls hI (lv_sub hl [0] rfl)
    · have hw := hw.2 c10
      refine lv_aload_n S.1 S.2.1 dX12_image_13 rfl (lv_at hl 0 rfl) ?_
      refine m_get S hin hI 0 (W12_at0 h r cs u) rfl 47 (Nat.le_of_ble_eq_true rfl) (List.mem_of_getElem? (i := 2) rfl) rfl (Ff12_at47 r u) dX12_image_14 ?_
      refine lv_iload_n S.1 S.2.1 dX12_image_17 rfl (lv_at hl 1 rfl) ?_
      refine lv_aload_n S.1 S.2.1 dX12_image_18 rfl (lv_at hl 0 rfl) ?_
      refine m_get S hin hI 0 (W12_at0 h r cs u) rfl 46 (Nat.le_of_ble_eq_true rfl) (List.mem_of_getElem? (i := 3) rfl) rfl (Ff12_at46 r u) dX12_image_19 ?_
      refine lv_iload_n S.1 S.2.1 dX12_image_22 rfl (lv_at hl 1 rfl) ?_
      refine m_iald S hI 22 0 (W12_at22 h r cs u) rfl hw.1 dX12_image_23 ?_
      refine lv_topi (fun y23 ey23 => ?_)
      have hw := hw.2 y23 ey23
      obtain ⟨u24, eu24⟩ : ∃ z : ST, z = sA u 47 (upd (gA u 47) x1.toNatClampNeg y23) := ⟨_, rfl⟩
      refine m_iast S hI 23 0 (W12_at23 h r cs u) rfl hw.1 (W12_sA47 h r cs u u24 _ eu24) dX12_image_24 (fun H locs hI => ?_)
      have hw := hw.2 u24 eu24
      obtain ⟨y25, ey25⟩ : ∃ z : Int32, z = x1 + 1 := ⟨_, rfl⟩
      have hw := hw y25 ey25
      refine lv_iinc (v := y25) (lv' := [(1, .int y25), (0, .ref h)]) S.1 S.2.1 dX12_image_25 hl (k := 1) rfl (by rw [ey25]; rfl) (by decide) rfl (fun ls hl => ?_)
      refine lv_goto (tgt := 7) S.1 S.2.1 dX12_image_28 (by decide) ?_
      exact hB7 y25 u24 hw H locs ls hI (lv_sub hl [1, 0] rfl)
  have b7 : ∀ (x1 : Int32) (u : ST), wp_X12_image_p7 x1 u Q → mGo p l e ({ frames := 0, cells := 0, slots := 0, locals := 0 } : Room) s m args below meth c A Z 2 D (mT cs) (W12 h r cs) 7 [(0, .ref h), (1, .int x1)] [] u := by
    intro x1 u hw
    obtain ⟨I, μ, h0, hs⟩ := hw
    have key : ∀ (n : Nat) (x1 : Int32) (u : ST), μ x1 u = n → I x1 u → mGo p l e ({ frames := 0, cells := 0, slots := 0, locals := 0 } : Room) s m args below meth c A Z 2 D (mT cs) (W12 h r cs) 7 [(0, .ref h), (1, .int x1)] [] u := by
      intro n
      induction n using Nat.strongRecOn with
      | ind n ih =>
        intro x1 u hn hi
        exact b7b (fun yx1 yu => I yx1 yu ∧ μ yx1 yu < μ x1 u) (fun yx1 yu hb => ih _ (hn ▸ hb.2) yx1 yu rfl hb.1) x1 u (hs x1 u hi)
    exact key _ x1 u rfl h0
  unfold wp_X12_image at hw
  obtain ⟨H, hH⟩ : ∃ z : Heap, z = s.heap := ⟨_, rfl⟩
  obtain ⟨locs, hL⟩ : ∃ z : List Loc, z = [] := ⟨_, rfl⟩
  rw [show W p l e ({ frames := 0, cells := 0, slots := 0, locals := 0 } : Room) s m args below meth c s.heap [] 0 0 Z (F0 m 0 ls []) = W p l e ({ frames := 0, cells := 0, slots := 0, locals := 0 } : Room) s m args below meth c H locs 0 0 Z (F0 m 0 ls []) by rw [hH, hL]]
  replace hI : mI D (mT cs) A s.heap s (W12 h r cs u) H locs := by rw [hH, hL]; exact hI
  refine lv_aload_n S.1 S.2.1 dX12_image_0 rfl (lv_at hl 0 rfl) ?_
  refine lv_iconst (v := 1) S.1 S.2.1 dX12_image_1 (by decide) ?_
  obtain ⟨u2, eu2⟩ : ∃ z : ST, z = sI u 48 (1 : Int32) := ⟨_, rfl⟩
  have hw := hw u2 eu2
  refine m_put S hin tyX12_ok nmX12 hI 0 (W12_at0 h r cs u) rfl 48 (Nat.le_of_ble_eq_true rfl) (List.mem_of_getElem? (i := 1) rfl) rfl rfl (by show Value.int ((1 : Int32) &&& 1) = _; rfl) rfl (Nat.le_of_ble_eq_true rfl) (W12_sI48 h r cs u u2 (1 : Int32) eu2) dX12_image_2 (fun H locs hI => ?_)
  refine lv_iconst (v := 0) S.1 S.2.1 dX12_image_5 (by decide) ?_
  refine lv_istore_n (lv' := [(1, .int (0 : Int32)), (0, .ref h)]) S.1 S.2.1 dX12_image_6 rfl hl (by decide) rfl (fun ls hl => ?_)
  exact b7 (0 : Int32) u2 hw H locs ls hI (lv_sub hl [1, 0] rfl)

def wp_X12_back_p55 (t0 : Int32) (u : ST) (Q : Int32 → ST → Prop) : Prop :=
  Q t0 u
def wp_X12_back_p12b (x1 : Int32) (u : ST) (B12 : Int32 → ST → Prop) (Q : Int32 → ST → Prop) : Prop :=
  (((9 : Int32) ≤ x1 → (vp_in (0 : Int32) 9 ∧ ∀ y41 : Int32, y41 = gA u 46 (0 : Int32).toNatClampNeg → ((0 ≤ y41 → (vp_in (3 : Int32) 9 ∧ ∀ y54 : Int32, y54 = gA u 46 (3 : Int32).toNatClampNeg → wp_X12_back_p55 y54 u Q)) ∧ (¬ 0 ≤ y41 → wp_X12_back_p55 (0 : Int32) u Q)))) ∧ (¬ (9 : Int32) ≤ x1 → (vp_in x1 9 ∧ ∀ y28 : Int32, y28 = gA u 47 x1.toNatClampNeg → (vp_in x1 9 ∧ ∀ u29 : ST, u29 = sA u 46 (upd (gA u 46) x1.toNatClampNeg y28) → (∀ y30 : Int32, y30 = x1 + 1 → B12 y30 u29)))))
def wp_X12_back_p12 (x1 : Int32) (u : ST) (Q : Int32 → ST → Prop) : Prop := ∃ (I : Int32 → ST → Prop) (μ : Int32 → ST → Nat), I x1 u ∧ ∀ (x1 : Int32) (u : ST), I x1 u → wp_X12_back_p12b x1 u (fun yx1 yu => I yx1 yu ∧ μ yx1 yu < μ x1 u) Q
def wp_X12_back (u : ST) (Q : Int32 → ST → Prop) : Prop :=
  ((¬ (gI u 48) = 0 → wp_X12_back_p12 (0 : Int32) u Q) ∧ ((gI u 48) = 0 → Q ((-5) : Int32) u))
set_option maxHeartbeats 4000000 in
set_option maxRecDepth 100000 in
theorem c_X12_back (l : Launch) (D : va_G) (h : Nat) (r : Nat → Nat) (cs : Nat → ClassId) (u : ST) (Q : Int32 → ST → Prop) (hw : wp_X12_back u Q) : mCi l yX12_back wsX12_back ({ frames := 0, cells := 0, slots := 0, locals := 0 } : Room) 0 0 D (mT cs) (W12 h r cs) [.ref h] u Q := by
  unfold mCi
  refine m_enter (QQ := fun A => va_Qi Q (mPos D (mT cs) A (W12 h r cs)) A) (cc := cX12_back) (maxL := 2) (ret := (some .int)) (by decide) rfl (Nat.le_of_ble_eq_true rfl) ?_
  intro p e s m args below meth c A ls S hr hlocks hname hl hI
  have S : CallFix p m c cX12_back 2 s args wsX12_back RX12 := S
  show W p l e ({ frames := 0, cells := 0, slots := 0, locals := 0 } : Room) s m args below meth c s.heap [] 0 0 (MQ below (va_Qi Q (mPos D (mT cs) A (W12 h r cs)) A) args s 0 0 A) (F0 m 0 ls [])
  generalize hZ : MQ below (va_Qi Q (mPos D (mT cs) A (W12 h r cs)) A) args s 0 0 A = Z
  have hin : ∀ w ∈ wsX120, w ∈ wsX12_back := fun _ h => List.mem_cons_of_mem _ (List.mem_append_right _ h)
  have hl : lv_has ls 2 [(0, .ref h)] := hl
  have b55 : ∀ (t0 : Int32) (u : ST), wp_X12_back_p55 t0 u Q → mGo p l e ({ frames := 0, cells := 0, slots := 0, locals := 0 } : Room) s m args below meth c A Z 2 D (mT cs) (W12 h r cs) 55 [(0, .ref h)] [.int t0] u := by
    intro t0 u hw H locs ls hI hl
    unfold wp_X12_back_p55 at hw
    subst hZ
    exact m_iret S hr hlocks hI hw dX12_back_55
  have b12b : ∀ (B12 : Int32 → ST → Prop), (∀ (x1 : Int32) (u : ST), B12 x1 u → mGo p l e ({ frames := 0, cells := 0, slots := 0, locals := 0 } : Room) s m args below meth c A Z 2 D (mT cs) (W12 h r cs) 12 [(0, .ref h), (1, .int x1)] [] u) → ∀ (x1 : Int32) (u : ST), wp_X12_back_p12b x1 u B12 Q → mGo p l e ({ frames := 0, cells := 0, slots := 0, locals := 0 } : Room) s m args below meth c A Z 2 D (mT cs) (W12 h r cs) 12 [(0, .ref h), (1, .int x1)] [] u := by
    intro B12 hB12 x1 u hw H locs ls hI hl
    unfold wp_X12_back_p12b at hw
    refine lv_iload_n S.1 S.2.1 dX12_back_12 rfl (lv_at hl 1 rfl) ?_
    refine lv_bipush (v := 9) S.1 S.2.1 dX12_back_13 (by decide) ?_
    refine lv_icmp_ge (tgt := 36) S.1 S.2.1 dX12_back_15 (by decide) (fun c15 => ?_) (fun c15 => ?_)
    · have hw := hw.1 c15
      refine lv_aload_n S.1 S.2.1 dX12_back_36 rfl (lv_at hl 0 rfl) ?_
      refine m_get S hin hI 0 (W12_at0 h r cs u) rfl 46 (Nat.le_of_ble_eq_true rfl) (List.mem_of_getElem? (i := 2) rfl) rfl (Ff12_at46 r u) dX12_back_37 ?_
      refine lv_iconst (v := 0) S.1 S.2.1 dX12_back_40 (by decide) ?_
      refine m_iald S hI 22 0 (W12_at22 h r cs u) rfl hw.1 dX12_back_41 ?_
      refine lv_topi (fun y41 ey41 => ?_)
      have hw := hw.2 y41 ey41
      refine lv_if_ge (tgt := 49) S.1 S.2.1 dX12_back_42 (by decide) (fun c42 => ?_) (fun c42 => ?_)
      · have hw := hw.1 c42
        refine lv_aload_n S.1 S.2.1 dX12_back_49 rfl (lv_at hl 0 rfl) ?_
        refine m_get S hin hI 0 (W12_at0 h r cs u) rfl 46 (Nat.le_of_ble_eq_true rfl) (List.mem_of_getElem? (i := 2) rfl) rfl (Ff12_at46 r u) dX12_back_50 ?_
        refine lv_iconst (v := 3) S.1 S.2.1 dX12_back_53 (by decide) ?_
        refine m_iald S hI 22 0 (W12_at22 h r cs u) rfl hw.1 dX12_back_54 ?_
        refine lv_topi (fun y54 ey54 => ?_)
        have hw := hw.2 y54 ey54
        exact b55 y54 u hw H locs ls hI (lv_sub hl [0] rfl)
      · have hw := hw.2 c42
        refine lv_iconst (v := 0) S.1 S.2.1 dX12_back_45 (by decide) ?_
        refine lv_goto (tgt := 55) S.1 S.2.1 dX12_back_46 (by decide) ?_
        exact b55 (0 : Int32) u hw H locs ls hI (lv_sub hl [0] rfl)
    · have hw := hw.2 c15
      refine lv_aload_n S.1 S.2.1 dX12_back_18 rfl (lv_at hl 0 rfl) ?_
      refine m_get S hin hI 0 (W12_at0 h r cs u) rfl 46 (Nat.le_of_ble_eq_true rfl) (List.mem_of_getElem? (i := 2) rfl) rfl (Ff12_at46 r u) dX12_back_19 ?_
      refine lv_iload_n S.1 S.2.1 dX12_back_22 rfl (lv_at hl 1 rfl) ?_
      refine lv_aload_n S.1 S.2.1 dX12_back_23 rfl (lv_at hl 0 rfl) ?_
      refine m_get S hin hI 0 (W12_at0 h r cs u) rfl 47 (Nat.le_of_ble_eq_true rfl) (List.mem_of_getElem? (i := 3) rfl) rfl (Ff12_at47 r u) dX12_back_24 ?_
      refine lv_iload_n S.1 S.2.1 dX12_back_27 rfl (lv_at hl 1 rfl) ?_
      refine m_iald S hI 23 0 (W12_at23 h r cs u) rfl hw.1 dX12_back_28 ?_
      refine lv_topi (fun y28 ey28 => ?_)
      have hw := hw.2 y28 ey28
      obtain ⟨u29, eu29⟩ : ∃ z : ST, z = sA u 46 (upd (gA u 46) x1.toNatClampNeg y28) := ⟨_, rfl⟩
      refine m_iast S hI 22 0 (W12_at22 h r cs u) rfl hw.1 (W12_sA46 h r cs u u29 _ eu29) dX12_back_29 (fun H locs hI => ?_)
      have hw := hw.2 u29 eu29
      obtain ⟨y30, ey30⟩ : ∃ z : Int32, z = x1 + 1 := ⟨_, rfl⟩
      have hw := hw y30 ey30
      refine lv_iinc (v := y30) (lv' := [(1, .int y30), (0, .ref h)]) S.1 S.2.1 dX12_back_30 hl (k := 1) rfl (by rw [ey30]; rfl) (by decide) rfl (fun ls hl => ?_)
      refine lv_goto (tgt := 12) S.1 S.2.1 dX12_back_33 (by decide) ?_
      exact hB12 y30 u29 hw H locs ls hI (lv_sub hl [1, 0] rfl)
  have b12 : ∀ (x1 : Int32) (u : ST), wp_X12_back_p12 x1 u Q → mGo p l e ({ frames := 0, cells := 0, slots := 0, locals := 0 } : Room) s m args below meth c A Z 2 D (mT cs) (W12 h r cs) 12 [(0, .ref h), (1, .int x1)] [] u := by
    intro x1 u hw
    obtain ⟨I, μ, h0, hs⟩ := hw
    have key : ∀ (n : Nat) (x1 : Int32) (u : ST), μ x1 u = n → I x1 u → mGo p l e ({ frames := 0, cells := 0, slots := 0, locals := 0 } : Room) s m args below meth c A Z 2 D (mT cs) (W12 h r cs) 12 [(0, .ref h), (1, .int x1)] [] u := by
      intro n
      induction n using Nat.strongRecOn with
      | ind n ih =>
        intro x1 u hn hi
        exact b12b (fun yx1 yu => I yx1 yu ∧ μ yx1 yu < μ x1 u) (fun yx1 yu hb => ih _ (hn ▸ hb.2) yx1 yu rfl hb.1) x1 u (hs x1 u hi)
    exact key _ x1 u rfl h0
  unfold wp_X12_back at hw
  obtain ⟨H, hH⟩ : ∃ z : Heap, z = s.heap := ⟨_, rfl⟩
  obtain ⟨locs, hL⟩ : ∃ z : List Loc, z = [] := ⟨_, rfl⟩
  rw [show W p l e ({ frames := 0, cells := 0, slots := 0, locals := 0 } : Room) s m args below meth c s.heap [] 0 0 Z (F0 m 0 ls []) = W p l e ({ frames := 0, cells := 0, slots := 0, locals := 0 } : Room) s m args below meth c H locs 0 0 Z (F0 m 0 ls []) by rw [hH, hL]]
  replace hI : mI D (mT cs) A s.heap s (W12 h r cs u) H locs := by rw [hH, hL]; exact hI
  refine lv_aload_n S.1 S.2.1 dX12_back_0 rfl (lv_at hl 0 rfl) ?_
  refine m_get S hin hI 0 (W12_at0 h r cs u) rfl 48 (Nat.le_of_ble_eq_true rfl) (List.mem_of_getElem? (i := 1) rfl) rfl (Ff12_at48 r u) dX12_back_1 ?_
  refine lv_if_ne (tgt := 10) S.1 S.2.1 dX12_back_4 (by decide) (fun c4 => ?_) (fun c4 => ?_)
  · have hw := hw.1 c4
    refine lv_iconst (v := 0) S.1 S.2.1 dX12_back_10 (by decide) ?_
    refine lv_istore_n (lv' := [(1, .int (0 : Int32)), (0, .ref h)]) S.1 S.2.1 dX12_back_11 rfl hl (by decide) rfl (fun ls hl => ?_)
    exact b12 (0 : Int32) u hw H locs ls hI (lv_sub hl [1, 0] rfl)
  · have hw := hw.2 c4
    refine lv_bipush (v := (-5)) S.1 S.2.1 dX12_back_7 (by decide) ?_
    subst hZ
    exact m_iret S hr hlocks hI hw dX12_back_9

def wp_X12_isBody (a1 : Int32) (u : ST) (Q : Int32 → ST → Prop) : Prop :=
  (∀ y7 : Int32, y7 = (gI u 49) - (1 : Int32) → (wp_X12_in a1 (0 : Int32) y7 (fun y8 => (y8 &&& 1 = y8 ∧ Q y8 u))))
set_option maxHeartbeats 4000000 in
set_option maxRecDepth 100000 in
theorem c_X12_isBody (l : Launch) (D : va_G) (h : Nat) (r : Nat → Nat) (cs : Nat → ClassId) (a1 : Int32) (u : ST) (Q : Int32 → ST → Prop) (hw : wp_X12_isBody a1 u Q) : mCi l yX12_isBody wsX12_isBody ({ frames := 1, cells := 0, slots := 0, locals := 22 } : Room) 0 0 D (mT cs) (W12 h r cs) [.ref h, .int a1] u Q := by
  unfold mCi
  refine m_enter (QQ := fun A => va_Qi Q (mPos D (mT cs) A (W12 h r cs)) A) (cc := cX12_isBody) (maxL := 2) (ret := (some .boolean)) (by decide) rfl (Nat.le_of_ble_eq_true rfl) ?_
  intro p e s m args below meth c A ls S hr hlocks hname hl hI
  have S : CallFix p m c cX12_isBody 2 s args wsX12_isBody RX12 := S
  show W p l e ({ frames := 1, cells := 0, slots := 0, locals := 22 } : Room) s m args below meth c s.heap [] 0 0 (MQ below (va_Qi Q (mPos D (mT cs) A (W12 h r cs)) A) args s 0 0 A) (F0 m 0 ls [])
  generalize hZ : MQ below (va_Qi Q (mPos D (mT cs) A (W12 h r cs)) A) args s 0 0 A = Z
  have hin : ∀ w ∈ wsX120, w ∈ wsX12_isBody := fun _ h => List.mem_cons_of_mem _ (List.mem_append_right _ h)
  have hl : lv_has ls 2 [(0, .ref h), (1, .int a1)] := hl
  unfold wp_X12_isBody at hw
  obtain ⟨H, hH⟩ : ∃ z : Heap, z = s.heap := ⟨_, rfl⟩
  obtain ⟨locs, hL⟩ : ∃ z : List Loc, z = [] := ⟨_, rfl⟩
  rw [show W p l e ({ frames := 1, cells := 0, slots := 0, locals := 22 } : Room) s m args below meth c s.heap [] 0 0 Z (F0 m 0 ls []) = W p l e ({ frames := 1, cells := 0, slots := 0, locals := 22 } : Room) s m args below meth c H locs 0 0 Z (F0 m 0 ls []) by rw [hH, hL]]
  replace hI : mI D (mT cs) A s.heap s (W12 h r cs u) H locs := by rw [hH, hL]; exact hI
  refine lv_iload_n S.1 S.2.1 dX12_isBody_0 rfl (lv_at hl 1 rfl) ?_
  refine lv_iconst (v := 0) S.1 S.2.1 dX12_isBody_1 (by decide) ?_
  refine lv_aload_n S.1 S.2.1 dX12_isBody_2 rfl (lv_at hl 0 rfl) ?_
  refine m_get S hin hI 0 (W12_at0 h r cs u) rfl 49 (Nat.le_of_ble_eq_true rfl) (List.mem_of_getElem? (i := 1) rfl) rfl (Ff12_at49 r u) dX12_isBody_3 ?_
  refine lv_iconst (v := 1) S.1 S.2.1 dX12_isBody_6 (by decide) ?_
  refine lv_isub S.1 S.2.1 dX12_isBody_7 ?_
  refine lv_topi (fun y7 ey7 => ?_)
  have hw := hw y7 ey7
  refine m_si (As := [.int a1, .int (0 : Int32), .int y7]) (rest := []) S hI.2.2.2.1.2.1 (c_X12_in l a1 (0 : Int32) y7 _ hw) (va_cwS 3 S.2.2.2.2 gX12_isBody_X12_in rfl rfl rfl (by decide +kernel) ⟨Nat.le_of_ble_eq_true rfl, Nat.le_of_ble_eq_true rfl⟩) rfl hl.1 rfl (Nat.le_of_ble_eq_true rfl) dX12_isBody_8 ⟨Nat.zero_le _, Nat.zero_le _⟩ (fun y8 hw => ?_)
  subst hZ
  exact m_zret S hr hlocks hI hw.1 hw.2 dX12_isBody_11

def wp_X12_ran_p19 (u : ST) (Q : ST → Prop) : Prop :=
  (∀ y25 : Int32, y25 = (gI u 51) + (1 : Int32) → (∀ u26 : ST, u26 = sI u 51 y25 → Q u26))
def wp_X12_ran (a1 : Int32) (u : ST) (Q : ST → Prop) : Prop :=
  (((24 : Int32) ≤ (gI u 51) → wp_X12_ran_p19 u Q) ∧ (¬ (24 : Int32) ≤ (gI u 51) → (vp_in (gI u 51) 24 ∧ ∀ u18 : ST, u18 = sA u 52 (upd (gA u 52) (gI u 51).toNatClampNeg a1) → wp_X12_ran_p19 u18 Q)))
set_option maxHeartbeats 4000000 in
set_option maxRecDepth 100000 in
theorem c_X12_ran (l : Launch) (D : va_G) (h : Nat) (r : Nat → Nat) (cs : Nat → ClassId) (a1 : Int32) (u : ST) (Q : ST → Prop) (hw : wp_X12_ran a1 u Q) : mCv l yX12_ran wsX12_ran ({ frames := 0, cells := 0, slots := 0, locals := 0 } : Room) 0 0 D (mT cs) (W12 h r cs) [.ref h, .int a1] u Q := by
  unfold mCv
  refine m_enter (QQ := fun A => va_Qv Q (mPos D (mT cs) A (W12 h r cs)) A) (cc := cX12_ran) (maxL := 2) (ret := none) (by decide) rfl (Nat.le_of_ble_eq_true rfl) ?_
  intro p e s m args below meth c A ls S hr hlocks hname hl hI
  have S : CallFix p m c cX12_ran 2 s args wsX12_ran RX12 := S
  show W p l e ({ frames := 0, cells := 0, slots := 0, locals := 0 } : Room) s m args below meth c s.heap [] 0 0 (MQ below (va_Qv Q (mPos D (mT cs) A (W12 h r cs)) A) args s 0 0 A) (F0 m 0 ls [])
  generalize hZ : MQ below (va_Qv Q (mPos D (mT cs) A (W12 h r cs)) A) args s 0 0 A = Z
  have hin : ∀ w ∈ wsX120, w ∈ wsX12_ran := fun _ h => List.mem_cons_of_mem _ (List.mem_append_right _ h)
  have hl : lv_has ls 2 [(0, .ref h), (1, .int a1)] := hl
  have b19 : ∀ (u : ST), wp_X12_ran_p19 u Q → mGo p l e ({ frames := 0, cells := 0, slots := 0, locals := 0 } : Room) s m args below meth c A Z 2 D (mT cs) (W12 h r cs) 19 [(0, .ref h)] [] u := by
    intro u hw H locs ls hI hl
    unfold wp_X12_ran_p19 at hw
    refine lv_aload_n S.1 S.2.1 dX12_ran_19 rfl (lv_at hl 0 rfl) ?_
    refine lv_dup S.1 S.2.1 dX12_ran_20 rfl ?_
    refine m_get S hin hI 0 (W12_at0 h r cs u) rfl 51 (Nat.le_of_ble_eq_true rfl) (List.mem_of_getElem? (i := 1) rfl) rfl (Ff12_at51 r u) dX12_ran_21 ?_
    refine lv_iconst (v := 1) S.1 S.2.1 dX12_ran_24 (by decide) ?_
    refine lv_iadd S.1 S.2.1 dX12_ran_25 ?_
    refine lv_topi (fun y25 ey25 => ?_)
    have hw := hw y25 ey25
    obtain ⟨u26, eu26⟩ : ∃ z : ST, z = sI u 51 y25 := ⟨_, rfl⟩
    have hw := hw u26 eu26
    refine m_put S hin tyX12_ok nmX12 hI 0 (W12_at0 h r cs u) rfl 51 (Nat.le_of_ble_eq_true rfl) (List.mem_of_getElem? (i := 1) rfl) rfl rfl rfl rfl (Nat.le_of_ble_eq_true rfl) (W12_sI51 h r cs u u26 y25 eu26) dX12_ran_26 (fun H locs hI => ?_)
    subst hZ
    exact m_vret S hr hlocks hI hw dX12_ran_29
  unfold wp_X12_ran at hw
  obtain ⟨H, hH⟩ : ∃ z : Heap, z = s.heap := ⟨_, rfl⟩
  obtain ⟨locs, hL⟩ : ∃ z : List Loc, z = [] := ⟨_, rfl⟩
  rw [show W p l e ({ frames := 0, cells := 0, slots := 0, locals := 0 } : Room) s m args below meth c s.heap [] 0 0 Z (F0 m 0 ls []) = W p l e ({ frames := 0, cells := 0, slots := 0, locals := 0 } : Room) s m args below meth c H locs 0 0 Z (F0 m 0 ls []) by rw [hH, hL]]
  replace hI : mI D (mT cs) A s.heap s (W12 h r cs u) H locs := by rw [hH, hL]; exact hI
  refine lv_aload_n S.1 S.2.1 dX12_ran_0 rfl (lv_at hl 0 rfl) ?_
  refine m_get S hin hI 0 (W12_at0 h r cs u) rfl 51 (Nat.le_of_ble_eq_true rfl) (List.mem_of_getElem? (i := 1) rfl) rfl (Ff12_at51 r u) dX12_ran_1 ?_
  refine lv_bipush (v := 24) S.1 S.2.1 dX12_ran_4 (by decide) ?_
  refine lv_icmp_ge (tgt := 19) S.1 S.2.1 dX12_ran_6 (by decide) (fun c6 => ?_) (fun c6 => ?_)
  · have hw := hw.1 c6
    exact b19 u hw H locs ls hI (lv_sub hl [0] rfl)
  · have hw := hw.2 c6
    refine lv_aload_n S.1 S.2.1 dX12_ran_9 rfl (lv_at hl 0 rfl) ?_
    refine m_get S hin hI 0 (W12_at0 h r cs u) rfl 52 (Nat.le_of_ble_eq_true rfl) (List.mem_of_getElem? (i := 2) rfl) rfl (Ff12_at52 r u) dX12_ran_10 ?_
    refine lv_aload_n S.1 S.2.1 dX12_ran_13 rfl (lv_at hl 0 rfl) ?_
    refine m_get S hin hI 0 (W12_at0 h r cs u) rfl 51 (Nat.le_of_ble_eq_true rfl) (List.mem_of_getElem? (i := 1) rfl) rfl (Ff12_at51 r u) dX12_ran_14 ?_
    refine lv_iload_n S.1 S.2.1 dX12_ran_17 rfl (lv_at hl 1 rfl) ?_
    obtain ⟨u18, eu18⟩ : ∃ z : ST, z = sA u 52 (upd (gA u 52) (gI u 51).toNatClampNeg a1) := ⟨_, rfl⟩
    refine m_iast S hI 25 0 (W12_at25 h r cs u) rfl hw.1 (W12_sA52 h r cs u u18 _ eu18) dX12_ran_18 (fun H locs hI => ?_)
    have hw := hw.2 u18 eu18
    exact b19 u18 hw H locs ls hI (lv_sub hl [0] rfl)

def wp_X12_trace_p28 (t0 : Int32) (u : ST) (Q : Int32 → ST → Prop) : Prop :=
  Q t0 u
def wp_X12_trace_p27 (u : ST) (Q : Int32 → ST → Prop) : Prop :=
  wp_X12_trace_p28 ((-1) : Int32) u Q
def wp_X12_trace (a1 : Int32) (u : ST) (Q : Int32 → ST → Prop) : Prop :=
  ((a1 < 0 → wp_X12_trace_p27 u Q) ∧ (¬ a1 < 0 → (((gI u 51) ≤ a1 → wp_X12_trace_p27 u Q) ∧ (¬ (gI u 51) ≤ a1 → (((24 : Int32) ≤ a1 → wp_X12_trace_p27 u Q) ∧ (¬ (24 : Int32) ≤ a1 → (vp_in a1 24 ∧ ∀ y23 : Int32, y23 = gA u 52 a1.toNatClampNeg → wp_X12_trace_p28 y23 u Q)))))))
set_option maxHeartbeats 4000000 in
set_option maxRecDepth 100000 in
theorem c_X12_trace (l : Launch) (D : va_G) (h : Nat) (r : Nat → Nat) (cs : Nat → ClassId) (a1 : Int32) (u : ST) (Q : Int32 → ST → Prop) (hw : wp_X12_trace a1 u Q) : mCi l yX12_trace wsX12_trace ({ frames := 0, cells := 0, slots := 0, locals := 0 } : Room) 0 0 D (mT cs) (W12 h r cs) [.ref h, .int a1] u Q := by
  unfold mCi
  refine m_enter (QQ := fun A => va_Qi Q (mPos D (mT cs) A (W12 h r cs)) A) (cc := cX12_trace) (maxL := 2) (ret := (some .int)) (by decide) rfl (Nat.le_of_ble_eq_true rfl) ?_
  intro p e s m args below meth c A ls S hr hlocks hname hl hI
  have S : CallFix p m c cX12_trace 2 s args wsX12_trace RX12 := S
  show W p l e ({ frames := 0, cells := 0, slots := 0, locals := 0 } : Room) s m args below meth c s.heap [] 0 0 (MQ below (va_Qi Q (mPos D (mT cs) A (W12 h r cs)) A) args s 0 0 A) (F0 m 0 ls [])
  generalize hZ : MQ below (va_Qi Q (mPos D (mT cs) A (W12 h r cs)) A) args s 0 0 A = Z
  have hin : ∀ w ∈ wsX120, w ∈ wsX12_trace := fun _ h => List.mem_cons_of_mem _ (List.mem_append_right _ h)
  have hl : lv_has ls 2 [(0, .ref h), (1, .int a1)] := hl
  have b28 : ∀ (t0 : Int32) (u : ST), wp_X12_trace_p28 t0 u Q → mGo p l e ({ frames := 0, cells := 0, slots := 0, locals := 0 } : Room) s m args below meth c A Z 2 D (mT cs) (W12 h r cs) 28 [(0, .ref h)] [.int t0] u := by
    intro t0 u hw H locs ls hI hl
    unfold wp_X12_trace_p28 at hw
    subst hZ
    exact m_iret S hr hlocks hI hw dX12_trace_28
  have b27 : ∀ (u : ST), wp_X12_trace_p27 u Q → mGo p l e ({ frames := 0, cells := 0, slots := 0, locals := 0 } : Room) s m args below meth c A Z 2 D (mT cs) (W12 h r cs) 27 [(0, .ref h)] [] u := by
    intro u hw H locs ls hI hl
    unfold wp_X12_trace_p27 at hw
    refine lv_iconst (v := (-1)) S.1 S.2.1 dX12_trace_27 (by decide) ?_
    exact b28 ((-1) : Int32) u hw H locs ls hI (lv_sub hl [0] rfl)
  unfold wp_X12_trace at hw
  obtain ⟨H, hH⟩ : ∃ z : Heap, z = s.heap := ⟨_, rfl⟩
  obtain ⟨locs, hL⟩ : ∃ z : List Loc, z = [] := ⟨_, rfl⟩
  rw [show W p l e ({ frames := 0, cells := 0, slots := 0, locals := 0 } : Room) s m args below meth c s.heap [] 0 0 Z (F0 m 0 ls []) = W p l e ({ frames := 0, cells := 0, slots := 0, locals := 0 } : Room) s m args below meth c H locs 0 0 Z (F0 m 0 ls []) by rw [hH, hL]]
  replace hI : mI D (mT cs) A s.heap s (W12 h r cs u) H locs := by rw [hH, hL]; exact hI
  refine lv_iload_n S.1 S.2.1 dX12_trace_0 rfl (lv_at hl 1 rfl) ?_
  refine lv_if_lt (tgt := 27) S.1 S.2.1 dX12_trace_1 (by decide) (fun c1 => ?_) (fun c1 => ?_)
  · have hw := hw.1 c1
    exact b27 u hw H locs ls hI (lv_sub hl [0] rfl)
  · have hw := hw.2 c1
    refine lv_iload_n S.1 S.2.1 dX12_trace_4 rfl (lv_at hl 1 rfl) ?_
    refine lv_aload_n S.1 S.2.1 dX12_trace_5 rfl (lv_at hl 0 rfl) ?_
    refine m_get S hin hI 0 (W12_at0 h r cs u) rfl 51 (Nat.le_of_ble_eq_true rfl) (List.mem_of_getElem? (i := 1) rfl) rfl (Ff12_at51 r u) dX12_trace_6 ?_
    refine lv_icmp_ge (tgt := 27) S.1 S.2.1 dX12_trace_9 (by decide) (fun c9 => ?_) (fun c9 => ?_)
    · have hw := hw.1 c9
      exact b27 u hw H locs ls hI (lv_sub hl [0] rfl)
    · have hw := hw.2 c9
      refine lv_iload_n S.1 S.2.1 dX12_trace_12 rfl (lv_at hl 1 rfl) ?_
      refine lv_bipush (v := 24) S.1 S.2.1 dX12_trace_13 (by decide) ?_
      refine lv_icmp_ge (tgt := 27) S.1 S.2.1 dX12_trace_15 (by decide) (fun c15 => ?_) (fun c15 => ?_)
      · have hw := hw.1 c15
        exact b27 u hw H locs ls hI (lv_sub hl [0] rfl)
      · have hw := hw.2 c15
        refine lv_aload_n S.1 S.2.1 dX12_trace_18 rfl (lv_at hl 0 rfl) ?_
        refine m_get S hin hI 0 (W12_at0 h r cs u) rfl 52 (Nat.le_of_ble_eq_true rfl) (List.mem_of_getElem? (i := 2) rfl) rfl (Ff12_at52 r u) dX12_trace_19 ?_
        refine lv_iload_n S.1 S.2.1 dX12_trace_22 rfl (lv_at hl 1 rfl) ?_
        refine m_iald S hI 25 0 (W12_at25 h r cs u) rfl hw.1 dX12_trace_23 ?_
        refine lv_topi (fun y23 ey23 => ?_)
        have hw := hw.2 y23 ey23
        refine lv_goto (tgt := 28) S.1 S.2.1 dX12_trace_24 (by decide) ?_
        exact b28 y23 u hw H locs ls hI (lv_sub hl [0] rfl)

def wp_X12_body (a1 : Int32) (u : ST) (Q : Int32 → ST → Prop) : Prop :=
  (wp_X12_in a1 (0 : Int32) (7 : Int32) (fun y4 => ((¬ y4 = 0 → ((¬ (gI u 49) = (50 : Int32) → (vp_in (gI u 49) 50 ∧ ∀ u33 : ST, u33 = sA u 50 (upd (gA u 50) (gI u 49).toNatClampNeg a1) → (∀ y40 : Int32, y40 = (gI u33 49) + (1 : Int32) → (∀ u41 : ST, u41 = sI u33 49 y40 → (∀ y49 : Int32, y49 = (gI u41 49) - (1 : Int32) → Q y49 u41))))) ∧ ((gI u 49) = (50 : Int32) → Q ((-3) : Int32) u))) ∧ (y4 = 0 → Q ((-1) : Int32) u))))
set_option maxHeartbeats 4000000 in
set_option maxRecDepth 100000 in
theorem c_X12_body (l : Launch) (D : va_G) (h : Nat) (r : Nat → Nat) (cs : Nat → ClassId) (a1 : Int32) (u : ST) (Q : Int32 → ST → Prop) (hw : wp_X12_body a1 u Q) : mCi l yX12_body wsX12_body ({ frames := 1, cells := 0, slots := 0, locals := 22 } : Room) 0 0 D (mT cs) (W12 h r cs) [.ref h, .int a1] u Q := by
  unfold mCi
  refine m_enter (QQ := fun A => va_Qi Q (mPos D (mT cs) A (W12 h r cs)) A) (cc := cX12_body) (maxL := 2) (ret := (some .int)) (by decide) rfl (Nat.le_of_ble_eq_true rfl) ?_
  intro p e s m args below meth c A ls S hr hlocks hname hl hI
  have S : CallFix p m c cX12_body 2 s args wsX12_body RX12 := S
  show W p l e ({ frames := 1, cells := 0, slots := 0, locals := 22 } : Room) s m args below meth c s.heap [] 0 0 (MQ below (va_Qi Q (mPos D (mT cs) A (W12 h r cs)) A) args s 0 0 A) (F0 m 0 ls [])
  generalize hZ : MQ below (va_Qi Q (mPos D (mT cs) A (W12 h r cs)) A) args s 0 0 A = Z
  have hin : ∀ w ∈ wsX120, w ∈ wsX12_body := fun _ h => List.mem_cons_of_mem _ (List.mem_append_right _ h)
  have hl : lv_has ls 2 [(0, .ref h), (1, .int a1)] := hl
  unfold wp_X12_body at hw
  obtain ⟨H, hH⟩ : ∃ z : Heap, z = s.heap := ⟨_, rfl⟩
  obtain ⟨locs, hL⟩ : ∃ z : List Loc, z = [] := ⟨_, rfl⟩
  rw [show W p l e ({ frames := 1, cells := 0, slots := 0, locals := 22 } : Room) s m args below meth c s.heap [] 0 0 Z (F0 m 0 ls []) = W p l e ({ frames := 1, cells := 0, slots := 0, locals := 22 } : Room) s m args below meth c H locs 0 0 Z (F0 m 0 ls []) by rw [hH, hL]]
  replace hI : mI D (mT cs) A s.heap s (W12 h r cs u) H locs := by rw [hH, hL]; exact hI
  refine lv_iload_n S.1 S.2.1 dX12_body_0 rfl (lv_at hl 1 rfl) ?_
  refine lv_iconst (v := 0) S.1 S.2.1 dX12_body_1 (by decide) ?_
  refine lv_bipush (v := 7) S.1 S.2.1 dX12_body_2 (by decide) ?_
  refine m_si (As := [.int a1, .int (0 : Int32), .int (7 : Int32)]) (rest := []) S hI.2.2.2.1.2.1 (c_X12_in l a1 (0 : Int32) (7 : Int32) _ hw) (va_cwS 3 S.2.2.2.2 gX12_body_X12_in rfl rfl rfl (by decide +kernel) ⟨Nat.le_of_ble_eq_true rfl, Nat.le_of_ble_eq_true rfl⟩) rfl hl.1 rfl (Nat.le_of_ble_eq_true rfl) dX12_body_4 ⟨Nat.zero_le _, Nat.zero_le _⟩ (fun y4 hw => ?_)
  refine lv_if_ne (tgt := 12) S.1 S.2.1 dX12_body_7 (by decide) (fun c7 => ?_) (fun c7 => ?_)
  · have hw := hw.1 c7
    refine lv_aload_n S.1 S.2.1 dX12_body_12 rfl (lv_at hl 0 rfl) ?_
    refine m_get S hin hI 0 (W12_at0 h r cs u) rfl 49 (Nat.le_of_ble_eq_true rfl) (List.mem_of_getElem? (i := 1) rfl) rfl (Ff12_at49 r u) dX12_body_13 ?_
    refine lv_bipush (v := 50) S.1 S.2.1 dX12_body_16 (by decide) ?_
    refine lv_icmp_ne (tgt := 24) S.1 S.2.1 dX12_body_18 (by decide) (fun c18 => ?_) (fun c18 => ?_)
    · have hw := hw.1 c18
      refine lv_aload_n S.1 S.2.1 dX12_body_24 rfl (lv_at hl 0 rfl) ?_
      refine m_get S hin hI 0 (W12_at0 h r cs u) rfl 50 (Nat.le_of_ble_eq_true rfl) (List.mem_of_getElem? (i := 2) rfl) rfl (Ff12_at50 r u) dX12_body_25 ?_
      refine lv_aload_n S.1 S.2.1 dX12_body_28 rfl (lv_at hl 0 rfl) ?_
      refine m_get S hin hI 0 (W12_at0 h r cs u) rfl 49 (Nat.le_of_ble_eq_true rfl) (List.mem_of_getElem? (i := 1) rfl) rfl (Ff12_at49 r u) dX12_body_29 ?_
      refine lv_iload_n S.1 S.2.1 dX12_body_32 rfl (lv_at hl 1 rfl) ?_
      obtain ⟨u33, eu33⟩ : ∃ z : ST, z = sA u 50 (upd (gA u 50) (gI u 49).toNatClampNeg a1) := ⟨_, rfl⟩
      refine m_iast S hI 24 0 (W12_at24 h r cs u) rfl hw.1 (W12_sA50 h r cs u u33 _ eu33) dX12_body_33 (fun H locs hI => ?_)
      have hw := hw.2 u33 eu33
      refine lv_aload_n S.1 S.2.1 dX12_body_34 rfl (lv_at hl 0 rfl) ?_
      refine lv_dup S.1 S.2.1 dX12_body_35 rfl ?_
      refine m_get S hin hI 0 (W12_at0 h r cs u33) rfl 49 (Nat.le_of_ble_eq_true rfl) (List.mem_of_getElem? (i := 1) rfl) rfl (Ff12_at49 r u33) dX12_body_36 ?_
      refine lv_iconst (v := 1) S.1 S.2.1 dX12_body_39 (by decide) ?_
      refine lv_iadd S.1 S.2.1 dX12_body_40 ?_
      refine lv_topi (fun y40 ey40 => ?_)
      have hw := hw y40 ey40
      obtain ⟨u41, eu41⟩ : ∃ z : ST, z = sI u33 49 y40 := ⟨_, rfl⟩
      have hw := hw u41 eu41
      refine m_put S hin tyX12_ok nmX12 hI 0 (W12_at0 h r cs u33) rfl 49 (Nat.le_of_ble_eq_true rfl) (List.mem_of_getElem? (i := 1) rfl) rfl rfl rfl rfl (Nat.le_of_ble_eq_true rfl) (W12_sI49 h r cs u33 u41 y40 eu41) dX12_body_41 (fun H locs hI => ?_)
      refine lv_aload_n S.1 S.2.1 dX12_body_44 rfl (lv_at hl 0 rfl) ?_
      refine m_get S hin hI 0 (W12_at0 h r cs u41) rfl 49 (Nat.le_of_ble_eq_true rfl) (List.mem_of_getElem? (i := 1) rfl) rfl (Ff12_at49 r u41) dX12_body_45 ?_
      refine lv_iconst (v := 1) S.1 S.2.1 dX12_body_48 (by decide) ?_
      refine lv_isub S.1 S.2.1 dX12_body_49 ?_
      refine lv_topi (fun y49 ey49 => ?_)
      have hw := hw y49 ey49
      subst hZ
      exact m_iret S hr hlocks hI hw dX12_body_50
    · have hw := hw.2 c18
      refine lv_bipush (v := (-3)) S.1 S.2.1 dX12_body_21 (by decide) ?_
      subst hZ
      exact m_iret S hr hlocks hI hw dX12_body_23
  · have hw := hw.2 c7
    refine lv_iconst (v := (-1)) S.1 S.2.1 dX12_body_10 (by decide) ?_
    subst hZ
    exact m_iret S hr hlocks hI hw dX12_body_11

def wp_X12_isUnder_p61 (t0 : Int32) (Q : Int32 → Prop) : Prop :=
  t0 &&& 1 = t0 ∧ Q t0
def wp_X12_isUnder_p56 (Q : Int32 → Prop) : Prop :=
  wp_X12_isUnder_p61 (1 : Int32) Q
def wp_X12_isUnder_p60 (Q : Int32 → Prop) : Prop :=
  wp_X12_isUnder_p61 (0 : Int32) Q
def wp_X12_isUnder_p44 (x0 : Int32) (x1 : Int32) (Q : Int32 → Prop) : Prop :=
  ((¬ x1 = (6 : Int32) → wp_X12_isUnder_p60 Q) ∧ (x1 = (6 : Int32) → ((¬ x0 = (7 : Int32) → wp_X12_isUnder_p60 Q) ∧ (x0 = (7 : Int32) → wp_X12_isUnder_p56 Q))))
def wp_X12_isUnder_p34 (x0 : Int32) (x1 : Int32) (Q : Int32 → Prop) : Prop :=
  ((¬ x1 = (3 : Int32) → wp_X12_isUnder_p44 x0 x1 Q) ∧ (x1 = (3 : Int32) → ((x0 = (5 : Int32) → wp_X12_isUnder_p56 Q) ∧ (¬ x0 = (5 : Int32) → wp_X12_isUnder_p44 x0 x1 Q))))
def wp_X12_isUnder_p19 (x0 : Int32) (x1 : Int32) (Q : Int32 → Prop) : Prop :=
  ((¬ x1 = (2 : Int32) → wp_X12_isUnder_p34 x0 x1 Q) ∧ (x1 = (2 : Int32) → ((x0 = (3 : Int32) → wp_X12_isUnder_p56 Q) ∧ (¬ x0 = (3 : Int32) → ((x0 = (5 : Int32) → wp_X12_isUnder_p56 Q) ∧ (¬ x0 = (5 : Int32) → wp_X12_isUnder_p34 x0 x1 Q))))))
def wp_X12_isUnder (a0 : Int32) (a1 : Int32) (Q : Int32 → Prop) : Prop :=
  ((a1 = 0 → wp_X12_isUnder_p56 Q) ∧ (¬ a1 = 0 → ((a0 = a1 → wp_X12_isUnder_p56 Q) ∧ (¬ a0 = a1 → ((¬ a1 = (1 : Int32) → wp_X12_isUnder_p19 a0 a1 Q) ∧ (a1 = (1 : Int32) → ((a0 = (4 : Int32) → wp_X12_isUnder_p56 Q) ∧ (¬ a0 = (4 : Int32) → wp_X12_isUnder_p19 a0 a1 Q))))))))
set_option maxHeartbeats 4000000 in
set_option maxRecDepth 100000 in
theorem c_X12_isUnder (l : Launch) (a0 : Int32) (a1 : Int32) (Q : Int32 → Prop) (hw : wp_X12_isUnder a0 a1 Q) : mTi l yX12_isUnder wsX12_isUnder ({ frames := 0, cells := 0, slots := 0, locals := 0 } : Room) [.int a0, .int a1] Q := by
  refine m_enterT (cc := cX12_isUnder) (maxL := 2) (ret := (some .boolean)) (by decide) rfl (Nat.le_of_ble_eq_true rfl) ?_
  intro p e s m args below meth c ls S hr hlocks hname hl hN
  have S : CallFix p m c cX12_isUnder 2 s args wsX12_isUnder RX12 := S
  generalize hZ : MQ below (vp_Si Q) args s 0 0 (fun _ => False) = Z
  have hl : lv_has ls 2 [(0, .int a0), (1, .int a1)] := hl
  have b61 : ∀ (t0 : Int32), wp_X12_isUnder_p61 t0 Q → mGt p l e ({ frames := 0, cells := 0, slots := 0, locals := 0 } : Room) s m args below meth c Z 2 61 [] [.int t0] := by
    intro t0 hw ls hl
    unfold wp_X12_isUnder_p61 at hw
    subst hZ
    exact m_tzret S hr hlocks hw.1 hw.2 dX12_isUnder_61
  have b56 : wp_X12_isUnder_p56 Q → mGt p l e ({ frames := 0, cells := 0, slots := 0, locals := 0 } : Room) s m args below meth c Z 2 56 [] [] := by
    intro hw ls hl
    unfold wp_X12_isUnder_p56 at hw
    refine lv_iconst (v := 1) S.1 S.2.1 dX12_isUnder_56 (by decide) ?_
    refine lv_goto (tgt := 61) S.1 S.2.1 dX12_isUnder_57 (by decide) ?_
    exact b61 (1 : Int32) hw ls (lv_sub hl [] rfl)
  have b60 : wp_X12_isUnder_p60 Q → mGt p l e ({ frames := 0, cells := 0, slots := 0, locals := 0 } : Room) s m args below meth c Z 2 60 [] [] := by
    intro hw ls hl
    unfold wp_X12_isUnder_p60 at hw
    refine lv_iconst (v := 0) S.1 S.2.1 dX12_isUnder_60 (by decide) ?_
    exact b61 (0 : Int32) hw ls (lv_sub hl [] rfl)
  have b44 : ∀ (x0 : Int32) (x1 : Int32), wp_X12_isUnder_p44 x0 x1 Q → mGt p l e ({ frames := 0, cells := 0, slots := 0, locals := 0 } : Room) s m args below meth c Z 2 44 [(0, .int x0), (1, .int x1)] [] := by
    intro x0 x1 hw ls hl
    unfold wp_X12_isUnder_p44 at hw
    refine lv_iload_n S.1 S.2.1 dX12_isUnder_44 rfl (lv_at hl 1 rfl) ?_
    refine lv_bipush (v := 6) S.1 S.2.1 dX12_isUnder_45 (by decide) ?_
    refine lv_icmp_ne (tgt := 60) S.1 S.2.1 dX12_isUnder_47 (by decide) (fun c47 => ?_) (fun c47 => ?_)
    · have hw := hw.1 c47
      exact b60 hw ls (lv_sub hl [] rfl)
    · have hw := hw.2 c47
      refine lv_iload_n S.1 S.2.1 dX12_isUnder_50 rfl (lv_at hl 0 rfl) ?_
      refine lv_bipush (v := 7) S.1 S.2.1 dX12_isUnder_51 (by decide) ?_
      refine lv_icmp_ne (tgt := 60) S.1 S.2.1 dX12_isUnder_53 (by decide) (fun c53 => ?_) (fun c53 => ?_)
      · have hw := hw.1 c53
        exact b60 hw ls (lv_sub hl [] rfl)
      · have hw := hw.2 c53
        exact b56 hw ls (lv_sub hl [] rfl)
  have b34 : ∀ (x0 : Int32) (x1 : Int32), wp_X12_isUnder_p34 x0 x1 Q → mGt p l e ({ frames := 0, cells := 0, slots := 0, locals := 0 } : Room) s m args below meth c Z 2 34 [(0, .int x0), (1, .int x1)] [] := by
    intro x0 x1 hw ls hl
    unfold wp_X12_isUnder_p34 at hw
    refine lv_iload_n S.1 S.2.1 dX12_isUnder_34 rfl (lv_at hl 1 rfl) ?_
    refine lv_iconst (v := 3) S.1 S.2.1 dX12_isUnder_35 (by decide) ?_
    refine lv_icmp_ne (tgt := 44) S.1 S.2.1 dX12_isUnder_36 (by decide) (fun c36 => ?_) (fun c36 => ?_)
    · have hw := hw.1 c36
      exact b44 x0 x1 hw ls (lv_sub hl [0, 1] rfl)
    · have hw := hw.2 c36
      refine lv_iload_n S.1 S.2.1 dX12_isUnder_39 rfl (lv_at hl 0 rfl) ?_
      refine lv_iconst (v := 5) S.1 S.2.1 dX12_isUnder_40 (by decide) ?_
      refine lv_icmp_eq (tgt := 56) S.1 S.2.1 dX12_isUnder_41 (by decide) (fun c41 => ?_) (fun c41 => ?_)
      · have hw := hw.1 c41
        exact b56 hw ls (lv_sub hl [] rfl)
      · have hw := hw.2 c41
        exact b44 x0 x1 hw ls (lv_sub hl [0, 1] rfl)
  have b19 : ∀ (x0 : Int32) (x1 : Int32), wp_X12_isUnder_p19 x0 x1 Q → mGt p l e ({ frames := 0, cells := 0, slots := 0, locals := 0 } : Room) s m args below meth c Z 2 19 [(0, .int x0), (1, .int x1)] [] := by
    intro x0 x1 hw ls hl
    unfold wp_X12_isUnder_p19 at hw
    refine lv_iload_n S.1 S.2.1 dX12_isUnder_19 rfl (lv_at hl 1 rfl) ?_
    refine lv_iconst (v := 2) S.1 S.2.1 dX12_isUnder_20 (by decide) ?_
    refine lv_icmp_ne (tgt := 34) S.1 S.2.1 dX12_isUnder_21 (by decide) (fun c21 => ?_) (fun c21 => ?_)
    · have hw := hw.1 c21
      exact b34 x0 x1 hw ls (lv_sub hl [0, 1] rfl)
    · have hw := hw.2 c21
      refine lv_iload_n S.1 S.2.1 dX12_isUnder_24 rfl (lv_at hl 0 rfl) ?_
      refine lv_iconst (v := 3) S.1 S.2.1 dX12_isUnder_25 (by decide) ?_
      refine lv_icmp_eq (tgt := 56) S.1 S.2.1 dX12_isUnder_26 (by decide) (fun c26 => ?_) (fun c26 => ?_)
      · have hw := hw.1 c26
        exact b56 hw ls (lv_sub hl [] rfl)
      · have hw := hw.2 c26
        refine lv_iload_n S.1 S.2.1 dX12_isUnder_29 rfl (lv_at hl 0 rfl) ?_
        refine lv_iconst (v := 5) S.1 S.2.1 dX12_isUnder_30 (by decide) ?_
        refine lv_icmp_eq (tgt := 56) S.1 S.2.1 dX12_isUnder_31 (by decide) (fun c31 => ?_) (fun c31 => ?_)
        · have hw := hw.1 c31
          exact b56 hw ls (lv_sub hl [] rfl)
        · have hw := hw.2 c31
          exact b34 x0 x1 hw ls (lv_sub hl [0, 1] rfl)
  unfold wp_X12_isUnder at hw
  refine lv_iload_n S.1 S.2.1 dX12_isUnder_0 rfl (lv_at hl 1 rfl) ?_
  refine lv_if_eq (tgt := 56) S.1 S.2.1 dX12_isUnder_1 (by decide) (fun c1 => ?_) (fun c1 => ?_)
  · have hw := hw.1 c1
    exact b56 hw ls (lv_sub hl [] rfl)
  · have hw := hw.2 c1
    refine lv_iload_n S.1 S.2.1 dX12_isUnder_4 rfl (lv_at hl 0 rfl) ?_
    refine lv_iload_n S.1 S.2.1 dX12_isUnder_5 rfl (lv_at hl 1 rfl) ?_
    refine lv_icmp_eq (tgt := 56) S.1 S.2.1 dX12_isUnder_6 (by decide) (fun c6 => ?_) (fun c6 => ?_)
    · have hw := hw.1 c6
      exact b56 hw ls (lv_sub hl [] rfl)
    · have hw := hw.2 c6
      refine lv_iload_n S.1 S.2.1 dX12_isUnder_9 rfl (lv_at hl 1 rfl) ?_
      refine lv_iconst (v := 1) S.1 S.2.1 dX12_isUnder_10 (by decide) ?_
      refine lv_icmp_ne (tgt := 19) S.1 S.2.1 dX12_isUnder_11 (by decide) (fun c11 => ?_) (fun c11 => ?_)
      · have hw := hw.1 c11
        exact b19 a0 a1 hw ls (lv_sub hl [0, 1] rfl)
      · have hw := hw.2 c11
        refine lv_iload_n S.1 S.2.1 dX12_isUnder_14 rfl (lv_at hl 0 rfl) ?_
        refine lv_iconst (v := 4) S.1 S.2.1 dX12_isUnder_15 (by decide) ?_
        refine lv_icmp_eq (tgt := 56) S.1 S.2.1 dX12_isUnder_16 (by decide) (fun c16 => ?_) (fun c16 => ?_)
        · have hw := hw.1 c16
          exact b56 hw ls (lv_sub hl [] rfl)
        · have hw := hw.2 c16
          exact b19 a0 a1 hw ls (lv_sub hl [0, 1] rfl)

def wp_X12_plainDrops (a1 : Int32) (a2 : Int32) (u : ST) (Q : Int32 → ST → Prop) : Prop :=
  (wp_X12_ran (1 : Int32) u (fun u2 => (∀ y7 : Int32, y7 = a2 + a1 → Q y7 u2)))
set_option maxHeartbeats 4000000 in
set_option maxRecDepth 100000 in
theorem c_X12_plainDrops (l : Launch) (D : va_G) (h : Nat) (r : Nat → Nat) (cs : Nat → ClassId) (a1 : Int32) (a2 : Int32) (u : ST) (Q : Int32 → ST → Prop) (hw : wp_X12_plainDrops a1 a2 u Q) : mCi l yX12_plainDrops wsX12_plainDrops ({ frames := 1, cells := 0, slots := 0, locals := 21 } : Room) 0 0 D (mT cs) (W12 h r cs) [.ref h, .int a1, .int a2] u Q := by
  unfold mCi
  refine m_enter (QQ := fun A => va_Qi Q (mPos D (mT cs) A (W12 h r cs)) A) (cc := cX12_plainDrops) (maxL := 3) (ret := (some .int)) (by decide) rfl (Nat.le_of_ble_eq_true rfl) ?_
  intro p e s m args below meth c A ls S hr hlocks hname hl hI
  have S : CallFix p m c cX12_plainDrops 3 s args wsX12_plainDrops RX12 := S
  show W p l e ({ frames := 1, cells := 0, slots := 0, locals := 21 } : Room) s m args below meth c s.heap [] 0 0 (MQ below (va_Qi Q (mPos D (mT cs) A (W12 h r cs)) A) args s 0 0 A) (F0 m 0 ls [])
  generalize hZ : MQ below (va_Qi Q (mPos D (mT cs) A (W12 h r cs)) A) args s 0 0 A = Z
  have hin : ∀ w ∈ wsX120, w ∈ wsX12_plainDrops := fun _ h => List.mem_cons_of_mem _ (List.mem_append_right _ h)
  have hl : lv_has ls 3 [(0, .ref h), (1, .int a1), (2, .int a2)] := hl
  unfold wp_X12_plainDrops at hw
  obtain ⟨H, hH⟩ : ∃ z : Heap, z = s.heap := ⟨_, rfl⟩
  obtain ⟨locs, hL⟩ : ∃ z : List Loc, z = [] := ⟨_, rfl⟩
  rw [show W p l e ({ frames := 1, cells := 0, slots := 0, locals := 21 } : Room) s m args below meth c s.heap [] 0 0 Z (F0 m 0 ls []) = W p l e ({ frames := 1, cells := 0, slots := 0, locals := 21 } : Room) s m args below meth c H locs 0 0 Z (F0 m 0 ls []) by rw [hH, hL]]
  replace hI : mI D (mT cs) A s.heap s (W12 h r cs u) H locs := by rw [hH, hL]; exact hI
  refine lv_aload_n S.1 S.2.1 dX12_plainDrops_0 rfl (lv_at hl 0 rfl) ?_
  refine lv_iconst (v := 1) S.1 S.2.1 dX12_plainDrops_1 (by decide) ?_
  refine m_vv (As := [.int (1 : Int32)]) (rest := []) S (W12_self h r cs) hI rfl (c_X12_ran l D h r cs (1 : Int32) u _ hw) (cwV 1 S.2.2.2.2 gX12_plainDrops_X12_ran rfl rfl rfl (by decide +kernel) ⟨Nat.le_of_ble_eq_true rfl, Nat.le_of_ble_eq_true rfl⟩) (W12_at0 h r cs u) rfl rfl hl.1 rfl (Nat.le_of_ble_eq_true rfl) dX12_plainDrops_2 ⟨Nat.zero_le _, Nat.zero_le _⟩ (fun u2 H locs hw hI => ?_)
  refine lv_iload_n S.1 S.2.1 dX12_plainDrops_5 rfl (lv_at hl 2 rfl) ?_
  refine lv_iload_n S.1 S.2.1 dX12_plainDrops_6 rfl (lv_at hl 1 rfl) ?_
  refine lv_iadd S.1 S.2.1 dX12_plainDrops_7 ?_
  refine lv_topi (fun y7 ey7 => ?_)
  have hw := hw y7 ey7
  subst hZ
  exact m_iret S hr hlocks hI hw dX12_plainDrops_8

def wp_X12_toldDrops (a1 : Int32) (a2 : Int32) (u : ST) (Q : Int32 → ST → Prop) : Prop :=
  (wp_X12_ran (70 : Int32) u (fun u3 => (wp_X12_plainDrops a1 a2 u3 (fun y9 u9 => (∀ y13 : Int32, y13 = y9 * (2 : Int32) → Q y13 u9)))))
set_option maxHeartbeats 4000000 in
set_option maxRecDepth 100000 in
theorem c_X12_toldDrops (l : Launch) (D : va_G) (h : Nat) (r : Nat → Nat) (cs : Nat → ClassId) (a1 : Int32) (a2 : Int32) (u : ST) (Q : Int32 → ST → Prop) (hw : wp_X12_toldDrops a1 a2 u Q) : mCi l yX12_toldDrops wsX12_toldDrops ({ frames := 2, cells := 0, slots := 0, locals := 43 } : Room) 0 0 D (mT cs) (W12 h r cs) [.ref h, .int a1, .int a2] u Q := by
  unfold mCi
  refine m_enter (QQ := fun A => va_Qi Q (mPos D (mT cs) A (W12 h r cs)) A) (cc := cX12_toldDrops) (maxL := 3) (ret := (some .int)) (by decide) rfl (Nat.le_of_ble_eq_true rfl) ?_
  intro p e s m args below meth c A ls S hr hlocks hname hl hI
  have S : CallFix p m c cX12_toldDrops 3 s args wsX12_toldDrops RX12 := S
  show W p l e ({ frames := 2, cells := 0, slots := 0, locals := 43 } : Room) s m args below meth c s.heap [] 0 0 (MQ below (va_Qi Q (mPos D (mT cs) A (W12 h r cs)) A) args s 0 0 A) (F0 m 0 ls [])
  generalize hZ : MQ below (va_Qi Q (mPos D (mT cs) A (W12 h r cs)) A) args s 0 0 A = Z
  have hin : ∀ w ∈ wsX120, w ∈ wsX12_toldDrops := fun _ h => List.mem_cons_of_mem _ (List.mem_append_right _ h)
  have hl : lv_has ls 3 [(0, .ref h), (1, .int a1), (2, .int a2)] := hl
  unfold wp_X12_toldDrops at hw
  obtain ⟨H, hH⟩ : ∃ z : Heap, z = s.heap := ⟨_, rfl⟩
  obtain ⟨locs, hL⟩ : ∃ z : List Loc, z = [] := ⟨_, rfl⟩
  rw [show W p l e ({ frames := 2, cells := 0, slots := 0, locals := 43 } : Room) s m args below meth c s.heap [] 0 0 Z (F0 m 0 ls []) = W p l e ({ frames := 2, cells := 0, slots := 0, locals := 43 } : Room) s m args below meth c H locs 0 0 Z (F0 m 0 ls []) by rw [hH, hL]]
  replace hI : mI D (mT cs) A s.heap s (W12 h r cs u) H locs := by rw [hH, hL]; exact hI
  refine lv_aload_n S.1 S.2.1 dX12_toldDrops_0 rfl (lv_at hl 0 rfl) ?_
  refine lv_bipush (v := 70) S.1 S.2.1 dX12_toldDrops_1 (by decide) ?_
  refine m_vv (As := [.int (70 : Int32)]) (rest := []) S (W12_self h r cs) hI rfl (c_X12_ran l D h r cs (70 : Int32) u _ hw) (cwV 1 S.2.2.2.2 gX12_toldDrops_X12_ran rfl rfl rfl (by decide +kernel) ⟨Nat.le_of_ble_eq_true rfl, Nat.le_of_ble_eq_true rfl⟩) (W12_at0 h r cs u) rfl rfl hl.1 rfl (Nat.le_of_ble_eq_true rfl) dX12_toldDrops_3 ⟨Nat.zero_le _, Nat.zero_le _⟩ (fun u3 H locs hw hI => ?_)
  refine lv_aload_n S.1 S.2.1 dX12_toldDrops_6 rfl (lv_at hl 0 rfl) ?_
  refine lv_iload_n S.1 S.2.1 dX12_toldDrops_7 rfl (lv_at hl 1 rfl) ?_
  refine lv_iload_n S.1 S.2.1 dX12_toldDrops_8 rfl (lv_at hl 2 rfl) ?_
  refine m_vi (As := [.int a1, .int a2]) (rest := []) S (W12_self h r cs) hI rfl (c_X12_plainDrops l D h r cs a1 a2 u3 _ hw) (cwV 2 S.2.2.2.2 gX12_toldDrops_X12_plainDrops rfl rfl rfl (by decide +kernel) ⟨Nat.le_of_ble_eq_true rfl, Nat.le_of_ble_eq_true rfl⟩) (W12_at0 h r cs u3) rfl rfl hl.1 rfl (Nat.le_of_ble_eq_true rfl) dX12_toldDrops_9 ⟨Nat.zero_le _, Nat.zero_le _⟩ (fun y9 u9 H locs hw hI => ?_)
  refine lv_iconst (v := 2) S.1 S.2.1 dX12_toldDrops_12 (by decide) ?_
  refine lv_imul S.1 S.2.1 dX12_toldDrops_13 ?_
  refine lv_topi (fun y13 ey13 => ?_)
  have hw := hw y13 ey13
  subst hZ
  exact m_iret S hr hlocks hI hw dX12_toldDrops_14

def wp_X12_dropping_p80 (t0 : Int32) (u : ST) (Q : Int32 → ST → Prop) : Prop :=
  Q t0 u
def wp_X12_dropping (a1 : Int32) (a2 : Int32) (u : ST) (Q : Int32 → ST → Prop) : Prop :=
  (vp_in a1 50 ∧ ∀ y5 : Int32, y5 = gA u 50 a1.toNatClampNeg → (wp_X12_isUnder y5 (1 : Int32) (fun y7 => ((y7 = 0 → (vp_in a1 50 ∧ ∀ y33 : Int32, y33 = gA u 50 a1.toNatClampNeg → ((¬ y33 = (7 : Int32) → (vp_in a1 50 ∧ ∀ y59 : Int32, y59 = gA u 50 a1.toNatClampNeg → ((¬ y59 = (6 : Int32) → (wp_X12_plainDrops a1 a2 u (fun y77 u77 => wp_X12_dropping_p80 y77 u77 Q))) ∧ (y59 = (6 : Int32) → (wp_X12_toldDrops a1 a2 u (fun y68 u68 => wp_X12_dropping_p80 y68 u68 Q)))))) ∧ (y33 = (7 : Int32) → (wp_X12_ran (81 : Int32) u (fun u42 => (wp_X12_toldDrops a1 a2 u42 (fun y48 u48 => (∀ y52 : Int32, y52 = y48 - (1 : Int32) → Q y52 u48))))))))) ∧ (¬ y7 = 0 → (wp_X12_ran (20 : Int32) u (fun u16 => (wp_X12_plainDrops a1 a2 u16 (fun y22 u22 => (∀ y26 : Int32, y26 = y22 + (3 : Int32) → Q y26 u22))))))))))
set_option maxHeartbeats 4000000 in
set_option maxRecDepth 100000 in
theorem c_X12_dropping (l : Launch) (D : va_G) (h : Nat) (r : Nat → Nat) (cs : Nat → ClassId) (a1 : Int32) (a2 : Int32) (u : ST) (Q : Int32 → ST → Prop) (hw : wp_X12_dropping a1 a2 u Q) : mCi l yX12_dropping wsX12_dropping ({ frames := 3, cells := 0, slots := 0, locals := 65 } : Room) 0 0 D (mT cs) (W12 h r cs) [.ref h, .int a1, .int a2] u Q := by
  unfold mCi
  refine m_enter (QQ := fun A => va_Qi Q (mPos D (mT cs) A (W12 h r cs)) A) (cc := cX12_dropping) (maxL := 3) (ret := (some .int)) (by decide) rfl (Nat.le_of_ble_eq_true rfl) ?_
  intro p e s m args below meth c A ls S hr hlocks hname hl hI
  have S : CallFix p m c cX12_dropping 3 s args wsX12_dropping RX12 := S
  show W p l e ({ frames := 3, cells := 0, slots := 0, locals := 65 } : Room) s m args below meth c s.heap [] 0 0 (MQ below (va_Qi Q (mPos D (mT cs) A (W12 h r cs)) A) args s 0 0 A) (F0 m 0 ls [])
  generalize hZ : MQ below (va_Qi Q (mPos D (mT cs) A (W12 h r cs)) A) args s 0 0 A = Z
  have hin : ∀ w ∈ wsX120, w ∈ wsX12_dropping := fun _ h => List.mem_cons_of_mem _ (List.mem_append_right _ h)
  have hl : lv_has ls 3 [(0, .ref h), (1, .int a1), (2, .int a2)] := hl
  have b80 : ∀ (t0 : Int32) (u : ST), wp_X12_dropping_p80 t0 u Q → mGo p l e ({ frames := 3, cells := 0, slots := 0, locals := 65 } : Room) s m args below meth c A Z 3 D (mT cs) (W12 h r cs) 80 [(0, .ref h)] [.int t0] u := by
    intro t0 u hw H locs ls hI hl
    unfold wp_X12_dropping_p80 at hw
    subst hZ
    exact m_iret S hr hlocks hI hw dX12_dropping_80
  unfold wp_X12_dropping at hw
  obtain ⟨H, hH⟩ : ∃ z : Heap, z = s.heap := ⟨_, rfl⟩
  obtain ⟨locs, hL⟩ : ∃ z : List Loc, z = [] := ⟨_, rfl⟩
  rw [show W p l e ({ frames := 3, cells := 0, slots := 0, locals := 65 } : Room) s m args below meth c s.heap [] 0 0 Z (F0 m 0 ls []) = W p l e ({ frames := 3, cells := 0, slots := 0, locals := 65 } : Room) s m args below meth c H locs 0 0 Z (F0 m 0 ls []) by rw [hH, hL]]
  replace hI : mI D (mT cs) A s.heap s (W12 h r cs u) H locs := by rw [hH, hL]; exact hI
  refine lv_aload_n S.1 S.2.1 dX12_dropping_0 rfl (lv_at hl 0 rfl) ?_
  refine m_get S hin hI 0 (W12_at0 h r cs u) rfl 50 (Nat.le_of_ble_eq_true rfl) (List.mem_of_getElem? (i := 1) rfl) rfl (Ff12_at50 r u) dX12_dropping_1 ?_
  refine lv_iload_n S.1 S.2.1 dX12_dropping_4 rfl (lv_at hl 1 rfl) ?_
  refine m_iald S hI 24 0 (W12_at24 h r cs u) rfl hw.1 dX12_dropping_5 ?_
  refine lv_topi (fun y5 ey5 => ?_)
  have hw := hw.2 y5 ey5
  refine lv_iconst (v := 1) S.1 S.2.1 dX12_dropping_6 (by decide) ?_
  refine m_si (As := [.int y5, .int (1 : Int32)]) (rest := []) S hI.2.2.2.1.2.1 (c_X12_isUnder l y5 (1 : Int32) _ hw) (va_cwS 2 S.2.2.2.2 gX12_dropping_X12_isUnder rfl rfl rfl (by decide +kernel) ⟨Nat.le_of_ble_eq_true rfl, Nat.le_of_ble_eq_true rfl⟩) rfl hl.1 rfl (Nat.le_of_ble_eq_true rfl) dX12_dropping_7 ⟨Nat.zero_le _, Nat.zero_le _⟩ (fun y7 hw => ?_)
  refine lv_if_eq (tgt := 28) S.1 S.2.1 dX12_dropping_10 (by decide) (fun c10 => ?_) (fun c10 => ?_)
  · have hw := hw.1 c10
    refine lv_aload_n S.1 S.2.1 dX12_dropping_28 rfl (lv_at hl 0 rfl) ?_
    refine m_get S hin hI 0 (W12_at0 h r cs u) rfl 50 (Nat.le_of_ble_eq_true rfl) (List.mem_of_getElem? (i := 1) rfl) rfl (Ff12_at50 r u) dX12_dropping_29 ?_
    refine lv_iload_n S.1 S.2.1 dX12_dropping_32 rfl (lv_at hl 1 rfl) ?_
    refine m_iald S hI 24 0 (W12_at24 h r cs u) rfl hw.1 dX12_dropping_33 ?_
    refine lv_topi (fun y33 ey33 => ?_)
    have hw := hw.2 y33 ey33
    refine lv_bipush (v := 7) S.1 S.2.1 dX12_dropping_34 (by decide) ?_
    refine lv_icmp_ne (tgt := 54) S.1 S.2.1 dX12_dropping_36 (by decide) (fun c36 => ?_) (fun c36 => ?_)
    · have hw := hw.1 c36
      refine lv_aload_n S.1 S.2.1 dX12_dropping_54 rfl (lv_at hl 0 rfl) ?_
      refine m_get S hin hI 0 (W12_at0 h r cs u) rfl 50 (Nat.le_of_ble_eq_true rfl) (List.mem_of_getElem? (i := 1) rfl) rfl (Ff12_at50 r u) dX12_dropping_55 ?_
      refine lv_iload_n S.1 S.2.1 dX12_dropping_58 rfl (lv_at hl 1 rfl) ?_
      refine m_iald S hI 24 0 (W12_at24 h r cs u) rfl hw.1 dX12_dropping_59 ?_
      refine lv_topi (fun y59 ey59 => ?_)
      have hw := hw.2 y59 ey59
      refine lv_bipush (v := 6) S.1 S.2.1 dX12_dropping_60 (by decide) ?_
      refine lv_icmp_ne (tgt := 74) S.1 S.2.1 dX12_dropping_62 (by decide) (fun c62 => ?_) (fun c62 => ?_)
      · have hw := hw.1 c62
        refine lv_aload_n S.1 S.2.1 dX12_dropping_74 rfl (lv_at hl 0 rfl) ?_
        refine lv_iload_n S.1 S.2.1 dX12_dropping_75 rfl (lv_at hl 1 rfl) ?_
        refine lv_iload_n S.1 S.2.1 dX12_dropping_76 rfl (lv_at hl 2 rfl) ?_
        refine m_vi (As := [.int a1, .int a2]) (rest := []) S (W12_self h r cs) hI rfl (c_X12_plainDrops l D h r cs a1 a2 u _ hw) (cwV 2 S.2.2.2.2 gX12_dropping_X12_plainDrops rfl rfl rfl (by decide +kernel) ⟨Nat.le_of_ble_eq_true rfl, Nat.le_of_ble_eq_true rfl⟩) (W12_at0 h r cs u) rfl rfl hl.1 rfl (Nat.le_of_ble_eq_true rfl) dX12_dropping_77 ⟨Nat.zero_le _, Nat.zero_le _⟩ (fun y77 u77 H locs hw hI => ?_)
        exact b80 y77 u77 hw H locs ls hI (lv_sub hl [0] rfl)
      · have hw := hw.2 c62
        refine lv_aload_n S.1 S.2.1 dX12_dropping_65 rfl (lv_at hl 0 rfl) ?_
        refine lv_iload_n S.1 S.2.1 dX12_dropping_66 rfl (lv_at hl 1 rfl) ?_
        refine lv_iload_n S.1 S.2.1 dX12_dropping_67 rfl (lv_at hl 2 rfl) ?_
        refine m_vi (As := [.int a1, .int a2]) (rest := []) S (W12_self h r cs) hI rfl (c_X12_toldDrops l D h r cs a1 a2 u _ hw) (cwV 2 S.2.2.2.2 gX12_dropping_X12_toldDrops rfl rfl rfl (by decide +kernel) ⟨Nat.le_of_ble_eq_true rfl, Nat.le_of_ble_eq_true rfl⟩) (W12_at0 h r cs u) rfl rfl hl.1 rfl (Nat.le_of_ble_eq_true rfl) dX12_dropping_68 ⟨Nat.zero_le _, Nat.zero_le _⟩ (fun y68 u68 H locs hw hI => ?_)
        refine lv_goto (tgt := 80) S.1 S.2.1 dX12_dropping_71 (by decide) ?_
        exact b80 y68 u68 hw H locs ls hI (lv_sub hl [0] rfl)
    · have hw := hw.2 c36
      refine lv_aload_n S.1 S.2.1 dX12_dropping_39 rfl (lv_at hl 0 rfl) ?_
      refine lv_bipush (v := 81) S.1 S.2.1 dX12_dropping_40 (by decide) ?_
      refine m_vv (As := [.int (81 : Int32)]) (rest := []) S (W12_self h r cs) hI rfl (c_X12_ran l D h r cs (81 : Int32) u _ hw) (cwV 1 S.2.2.2.2 gX12_dropping_X12_ran rfl rfl rfl (by decide +kernel) ⟨Nat.le_of_ble_eq_true rfl, Nat.le_of_ble_eq_true rfl⟩) (W12_at0 h r cs u) rfl rfl hl.1 rfl (Nat.le_of_ble_eq_true rfl) dX12_dropping_42 ⟨Nat.zero_le _, Nat.zero_le _⟩ (fun u42 H locs hw hI => ?_)
      refine lv_aload_n S.1 S.2.1 dX12_dropping_45 rfl (lv_at hl 0 rfl) ?_
      refine lv_iload_n S.1 S.2.1 dX12_dropping_46 rfl (lv_at hl 1 rfl) ?_
      refine lv_iload_n S.1 S.2.1 dX12_dropping_47 rfl (lv_at hl 2 rfl) ?_
      refine m_vi (As := [.int a1, .int a2]) (rest := []) S (W12_self h r cs) hI rfl (c_X12_toldDrops l D h r cs a1 a2 u42 _ hw) (cwV 2 S.2.2.2.2 gX12_dropping_X12_toldDrops rfl rfl rfl (by decide +kernel) ⟨Nat.le_of_ble_eq_true rfl, Nat.le_of_ble_eq_true rfl⟩) (W12_at0 h r cs u42) rfl rfl hl.1 rfl (Nat.le_of_ble_eq_true rfl) dX12_dropping_48 ⟨Nat.zero_le _, Nat.zero_le _⟩ (fun y48 u48 H locs hw hI => ?_)
      refine lv_iconst (v := 1) S.1 S.2.1 dX12_dropping_51 (by decide) ?_
      refine lv_isub S.1 S.2.1 dX12_dropping_52 ?_
      refine lv_topi (fun y52 ey52 => ?_)
      have hw := hw y52 ey52
      subst hZ
      exact m_iret S hr hlocks hI hw dX12_dropping_53
  · have hw := hw.2 c10
    refine lv_aload_n S.1 S.2.1 dX12_dropping_13 rfl (lv_at hl 0 rfl) ?_
    refine lv_bipush (v := 20) S.1 S.2.1 dX12_dropping_14 (by decide) ?_
    refine m_vv (As := [.int (20 : Int32)]) (rest := []) S (W12_self h r cs) hI rfl (c_X12_ran l D h r cs (20 : Int32) u _ hw) (cwV 1 S.2.2.2.2 gX12_dropping_X12_ran rfl rfl rfl (by decide +kernel) ⟨Nat.le_of_ble_eq_true rfl, Nat.le_of_ble_eq_true rfl⟩) (W12_at0 h r cs u) rfl rfl hl.1 rfl (Nat.le_of_ble_eq_true rfl) dX12_dropping_16 ⟨Nat.zero_le _, Nat.zero_le _⟩ (fun u16 H locs hw hI => ?_)
    refine lv_aload_n S.1 S.2.1 dX12_dropping_19 rfl (lv_at hl 0 rfl) ?_
    refine lv_iload_n S.1 S.2.1 dX12_dropping_20 rfl (lv_at hl 1 rfl) ?_
    refine lv_iload_n S.1 S.2.1 dX12_dropping_21 rfl (lv_at hl 2 rfl) ?_
    refine m_vi (As := [.int a1, .int a2]) (rest := []) S (W12_self h r cs) hI rfl (c_X12_plainDrops l D h r cs a1 a2 u16 _ hw) (cwV 2 S.2.2.2.2 gX12_dropping_X12_plainDrops rfl rfl rfl (by decide +kernel) ⟨Nat.le_of_ble_eq_true rfl, Nat.le_of_ble_eq_true rfl⟩) (W12_at0 h r cs u16) rfl rfl hl.1 rfl (Nat.le_of_ble_eq_true rfl) dX12_dropping_22 ⟨Nat.zero_le _, Nat.zero_le _⟩ (fun y22 u22 H locs hw hI => ?_)
    refine lv_iconst (v := 3) S.1 S.2.1 dX12_dropping_25 (by decide) ?_
    refine lv_iadd S.1 S.2.1 dX12_dropping_26 ?_
    refine lv_topi (fun y26 ey26 => ?_)
    have hw := hw y26 ey26
    subst hZ
    exact m_iret S hr hlocks hI hw dX12_dropping_27

def wp_X12_plainBreaks (a1 : Int32) (a2 : Int32) (u : ST) (Q : Int32 → ST → Prop) : Prop :=
  (wp_X12_ran (10 : Int32) u (fun u3 => (wp_X12_dropping a1 a2 u3 (fun y9 u9 => (∀ y13 : Int32, y13 = y9 * (2 : Int32) → Q y13 u9)))))
set_option maxHeartbeats 4000000 in
set_option maxRecDepth 100000 in
theorem c_X12_plainBreaks (l : Launch) (D : va_G) (h : Nat) (r : Nat → Nat) (cs : Nat → ClassId) (a1 : Int32) (a2 : Int32) (u : ST) (Q : Int32 → ST → Prop) (hw : wp_X12_plainBreaks a1 a2 u Q) : mCi l yX12_plainBreaks wsX12_plainBreaks ({ frames := 4, cells := 0, slots := 0, locals := 87 } : Room) 0 0 D (mT cs) (W12 h r cs) [.ref h, .int a1, .int a2] u Q := by
  unfold mCi
  refine m_enter (QQ := fun A => va_Qi Q (mPos D (mT cs) A (W12 h r cs)) A) (cc := cX12_plainBreaks) (maxL := 3) (ret := (some .int)) (by decide) rfl (Nat.le_of_ble_eq_true rfl) ?_
  intro p e s m args below meth c A ls S hr hlocks hname hl hI
  have S : CallFix p m c cX12_plainBreaks 3 s args wsX12_plainBreaks RX12 := S
  show W p l e ({ frames := 4, cells := 0, slots := 0, locals := 87 } : Room) s m args below meth c s.heap [] 0 0 (MQ below (va_Qi Q (mPos D (mT cs) A (W12 h r cs)) A) args s 0 0 A) (F0 m 0 ls [])
  generalize hZ : MQ below (va_Qi Q (mPos D (mT cs) A (W12 h r cs)) A) args s 0 0 A = Z
  have hin : ∀ w ∈ wsX120, w ∈ wsX12_plainBreaks := fun _ h => List.mem_cons_of_mem _ (List.mem_append_right _ h)
  have hl : lv_has ls 3 [(0, .ref h), (1, .int a1), (2, .int a2)] := hl
  unfold wp_X12_plainBreaks at hw
  obtain ⟨H, hH⟩ : ∃ z : Heap, z = s.heap := ⟨_, rfl⟩
  obtain ⟨locs, hL⟩ : ∃ z : List Loc, z = [] := ⟨_, rfl⟩
  rw [show W p l e ({ frames := 4, cells := 0, slots := 0, locals := 87 } : Room) s m args below meth c s.heap [] 0 0 Z (F0 m 0 ls []) = W p l e ({ frames := 4, cells := 0, slots := 0, locals := 87 } : Room) s m args below meth c H locs 0 0 Z (F0 m 0 ls []) by rw [hH, hL]]
  replace hI : mI D (mT cs) A s.heap s (W12 h r cs u) H locs := by rw [hH, hL]; exact hI
  refine lv_aload_n S.1 S.2.1 dX12_plainBreaks_0 rfl (lv_at hl 0 rfl) ?_
  refine lv_bipush (v := 10) S.1 S.2.1 dX12_plainBreaks_1 (by decide) ?_
  refine m_vv (As := [.int (10 : Int32)]) (rest := []) S (W12_self h r cs) hI rfl (c_X12_ran l D h r cs (10 : Int32) u _ hw) (cwV 1 S.2.2.2.2 gX12_plainBreaks_X12_ran rfl rfl rfl (by decide +kernel) ⟨Nat.le_of_ble_eq_true rfl, Nat.le_of_ble_eq_true rfl⟩) (W12_at0 h r cs u) rfl rfl hl.1 rfl (Nat.le_of_ble_eq_true rfl) dX12_plainBreaks_3 ⟨Nat.zero_le _, Nat.zero_le _⟩ (fun u3 H locs hw hI => ?_)
  refine lv_aload_n S.1 S.2.1 dX12_plainBreaks_6 rfl (lv_at hl 0 rfl) ?_
  refine lv_iload_n S.1 S.2.1 dX12_plainBreaks_7 rfl (lv_at hl 1 rfl) ?_
  refine lv_iload_n S.1 S.2.1 dX12_plainBreaks_8 rfl (lv_at hl 2 rfl) ?_
  refine m_vi (As := [.int a1, .int a2]) (rest := []) S (W12_self h r cs) hI rfl (c_X12_dropping l D h r cs a1 a2 u3 _ hw) (cwV 2 S.2.2.2.2 gX12_plainBreaks_X12_dropping rfl rfl rfl (by decide +kernel) ⟨Nat.le_of_ble_eq_true rfl, Nat.le_of_ble_eq_true rfl⟩) (W12_at0 h r cs u3) rfl rfl hl.1 rfl (Nat.le_of_ble_eq_true rfl) dX12_plainBreaks_9 ⟨Nat.zero_le _, Nat.zero_le _⟩ (fun y9 u9 H locs hw hI => ?_)
  refine lv_iconst (v := 2) S.1 S.2.1 dX12_plainBreaks_12 (by decide) ?_
  refine lv_imul S.1 S.2.1 dX12_plainBreaks_13 ?_
  refine lv_topi (fun y13 ey13 => ?_)
  have hw := hw y13 ey13
  subst hZ
  exact m_iret S hr hlocks hI hw dX12_plainBreaks_14

def wp_X12_meanBreaks (a1 : Int32) (a2 : Int32) (u : ST) (Q : Int32 → ST → Prop) : Prop :=
  (wp_X12_ran (30 : Int32) u (fun u3 => (wp_X12_plainBreaks a1 a2 u3 (fun y9 u9 => (∀ y12 : Int32, y12 = -y9 → Q y12 u9)))))
set_option maxHeartbeats 4000000 in
set_option maxRecDepth 100000 in
theorem c_X12_meanBreaks (l : Launch) (D : va_G) (h : Nat) (r : Nat → Nat) (cs : Nat → ClassId) (a1 : Int32) (a2 : Int32) (u : ST) (Q : Int32 → ST → Prop) (hw : wp_X12_meanBreaks a1 a2 u Q) : mCi l yX12_meanBreaks wsX12_meanBreaks ({ frames := 5, cells := 0, slots := 0, locals := 109 } : Room) 0 0 D (mT cs) (W12 h r cs) [.ref h, .int a1, .int a2] u Q := by
  unfold mCi
  refine m_enter (QQ := fun A => va_Qi Q (mPos D (mT cs) A (W12 h r cs)) A) (cc := cX12_meanBreaks) (maxL := 3) (ret := (some .int)) (by decide) rfl (Nat.le_of_ble_eq_true rfl) ?_
  intro p e s m args below meth c A ls S hr hlocks hname hl hI
  have S : CallFix p m c cX12_meanBreaks 3 s args wsX12_meanBreaks RX12 := S
  show W p l e ({ frames := 5, cells := 0, slots := 0, locals := 109 } : Room) s m args below meth c s.heap [] 0 0 (MQ below (va_Qi Q (mPos D (mT cs) A (W12 h r cs)) A) args s 0 0 A) (F0 m 0 ls [])
  generalize hZ : MQ below (va_Qi Q (mPos D (mT cs) A (W12 h r cs)) A) args s 0 0 A = Z
  have hin : ∀ w ∈ wsX120, w ∈ wsX12_meanBreaks := fun _ h => List.mem_cons_of_mem _ (List.mem_append_right _ h)
  have hl : lv_has ls 3 [(0, .ref h), (1, .int a1), (2, .int a2)] := hl
  unfold wp_X12_meanBreaks at hw
  obtain ⟨H, hH⟩ : ∃ z : Heap, z = s.heap := ⟨_, rfl⟩
  obtain ⟨locs, hL⟩ : ∃ z : List Loc, z = [] := ⟨_, rfl⟩
  rw [show W p l e ({ frames := 5, cells := 0, slots := 0, locals := 109 } : Room) s m args below meth c s.heap [] 0 0 Z (F0 m 0 ls []) = W p l e ({ frames := 5, cells := 0, slots := 0, locals := 109 } : Room) s m args below meth c H locs 0 0 Z (F0 m 0 ls []) by rw [hH, hL]]
  replace hI : mI D (mT cs) A s.heap s (W12 h r cs u) H locs := by rw [hH, hL]; exact hI
  refine lv_aload_n S.1 S.2.1 dX12_meanBreaks_0 rfl (lv_at hl 0 rfl) ?_
  refine lv_bipush (v := 30) S.1 S.2.1 dX12_meanBreaks_1 (by decide) ?_
  refine m_vv (As := [.int (30 : Int32)]) (rest := []) S (W12_self h r cs) hI rfl (c_X12_ran l D h r cs (30 : Int32) u _ hw) (cwV 1 S.2.2.2.2 gX12_meanBreaks_X12_ran rfl rfl rfl (by decide +kernel) ⟨Nat.le_of_ble_eq_true rfl, Nat.le_of_ble_eq_true rfl⟩) (W12_at0 h r cs u) rfl rfl hl.1 rfl (Nat.le_of_ble_eq_true rfl) dX12_meanBreaks_3 ⟨Nat.zero_le _, Nat.zero_le _⟩ (fun u3 H locs hw hI => ?_)
  refine lv_aload_n S.1 S.2.1 dX12_meanBreaks_6 rfl (lv_at hl 0 rfl) ?_
  refine lv_iload_n S.1 S.2.1 dX12_meanBreaks_7 rfl (lv_at hl 1 rfl) ?_
  refine lv_iload_n S.1 S.2.1 dX12_meanBreaks_8 rfl (lv_at hl 2 rfl) ?_
  refine m_vi (As := [.int a1, .int a2]) (rest := []) S (W12_self h r cs) hI rfl (c_X12_plainBreaks l D h r cs a1 a2 u3 _ hw) (cwV 2 S.2.2.2.2 gX12_meanBreaks_X12_plainBreaks rfl rfl rfl (by decide +kernel) ⟨Nat.le_of_ble_eq_true rfl, Nat.le_of_ble_eq_true rfl⟩) (W12_at0 h r cs u3) rfl rfl hl.1 rfl (Nat.le_of_ble_eq_true rfl) dX12_meanBreaks_9 ⟨Nat.zero_le _, Nat.zero_le _⟩ (fun y9 u9 H locs hw hI => ?_)
  refine lv_ineg S.1 S.2.1 dX12_meanBreaks_12 ?_
  refine lv_topi (fun y12 ey12 => ?_)
  have hw := hw y12 ey12
  subst hZ
  exact m_iret S hr hlocks hI hw dX12_meanBreaks_13

def wp_X12_plainClimbs (a1 : Int32) (a2 : Int32) (u : ST) (Q : Int32 → ST → Prop) : Prop :=
  (wp_X12_ran (11 : Int32) u (fun u3 => (∀ y8 : Int32, y8 = a2 ^^^ a1 → Q y8 u3)))
set_option maxHeartbeats 4000000 in
set_option maxRecDepth 100000 in
theorem c_X12_plainClimbs (l : Launch) (D : va_G) (h : Nat) (r : Nat → Nat) (cs : Nat → ClassId) (a1 : Int32) (a2 : Int32) (u : ST) (Q : Int32 → ST → Prop) (hw : wp_X12_plainClimbs a1 a2 u Q) : mCi l yX12_plainClimbs wsX12_plainClimbs ({ frames := 1, cells := 0, slots := 0, locals := 21 } : Room) 0 0 D (mT cs) (W12 h r cs) [.ref h, .int a1, .int a2] u Q := by
  unfold mCi
  refine m_enter (QQ := fun A => va_Qi Q (mPos D (mT cs) A (W12 h r cs)) A) (cc := cX12_plainClimbs) (maxL := 3) (ret := (some .int)) (by decide) rfl (Nat.le_of_ble_eq_true rfl) ?_
  intro p e s m args below meth c A ls S hr hlocks hname hl hI
  have S : CallFix p m c cX12_plainClimbs 3 s args wsX12_plainClimbs RX12 := S
  show W p l e ({ frames := 1, cells := 0, slots := 0, locals := 21 } : Room) s m args below meth c s.heap [] 0 0 (MQ below (va_Qi Q (mPos D (mT cs) A (W12 h r cs)) A) args s 0 0 A) (F0 m 0 ls [])
  generalize hZ : MQ below (va_Qi Q (mPos D (mT cs) A (W12 h r cs)) A) args s 0 0 A = Z
  have hin : ∀ w ∈ wsX120, w ∈ wsX12_plainClimbs := fun _ h => List.mem_cons_of_mem _ (List.mem_append_right _ h)
  have hl : lv_has ls 3 [(0, .ref h), (1, .int a1), (2, .int a2)] := hl
  unfold wp_X12_plainClimbs at hw
  obtain ⟨H, hH⟩ : ∃ z : Heap, z = s.heap := ⟨_, rfl⟩
  obtain ⟨locs, hL⟩ : ∃ z : List Loc, z = [] := ⟨_, rfl⟩
  rw [show W p l e ({ frames := 1, cells := 0, slots := 0, locals := 21 } : Room) s m args below meth c s.heap [] 0 0 Z (F0 m 0 ls []) = W p l e ({ frames := 1, cells := 0, slots := 0, locals := 21 } : Room) s m args below meth c H locs 0 0 Z (F0 m 0 ls []) by rw [hH, hL]]
  replace hI : mI D (mT cs) A s.heap s (W12 h r cs u) H locs := by rw [hH, hL]; exact hI
  refine lv_aload_n S.1 S.2.1 dX12_plainClimbs_0 rfl (lv_at hl 0 rfl) ?_
  refine lv_bipush (v := 11) S.1 S.2.1 dX12_plainClimbs_1 (by decide) ?_
  refine m_vv (As := [.int (11 : Int32)]) (rest := []) S (W12_self h r cs) hI rfl (c_X12_ran l D h r cs (11 : Int32) u _ hw) (cwV 1 S.2.2.2.2 gX12_plainClimbs_X12_ran rfl rfl rfl (by decide +kernel) ⟨Nat.le_of_ble_eq_true rfl, Nat.le_of_ble_eq_true rfl⟩) (W12_at0 h r cs u) rfl rfl hl.1 rfl (Nat.le_of_ble_eq_true rfl) dX12_plainClimbs_3 ⟨Nat.zero_le _, Nat.zero_le _⟩ (fun u3 H locs hw hI => ?_)
  refine lv_iload_n S.1 S.2.1 dX12_plainClimbs_6 rfl (lv_at hl 2 rfl) ?_
  refine lv_iload_n S.1 S.2.1 dX12_plainClimbs_7 rfl (lv_at hl 1 rfl) ?_
  refine lv_ixor S.1 S.2.1 dX12_plainClimbs_8 ?_
  refine lv_topi (fun y8 ey8 => ?_)
  have hw := hw y8 ey8
  subst hZ
  exact m_iret S hr hlocks hI hw dX12_plainClimbs_9

def wp_X12_steepClimbs (a1 : Int32) (a2 : Int32) (u : ST) (Q : Int32 → ST → Prop) : Prop :=
  (wp_X12_ran (40 : Int32) u (fun u3 => (wp_X12_plainClimbs a1 a2 u3 (fun y9 u9 => (∀ y13 : Int32, y13 = y9 * (3 : Int32) → Q y13 u9)))))
set_option maxHeartbeats 4000000 in
set_option maxRecDepth 100000 in
theorem c_X12_steepClimbs (l : Launch) (D : va_G) (h : Nat) (r : Nat → Nat) (cs : Nat → ClassId) (a1 : Int32) (a2 : Int32) (u : ST) (Q : Int32 → ST → Prop) (hw : wp_X12_steepClimbs a1 a2 u Q) : mCi l yX12_steepClimbs wsX12_steepClimbs ({ frames := 2, cells := 0, slots := 0, locals := 43 } : Room) 0 0 D (mT cs) (W12 h r cs) [.ref h, .int a1, .int a2] u Q := by
  unfold mCi
  refine m_enter (QQ := fun A => va_Qi Q (mPos D (mT cs) A (W12 h r cs)) A) (cc := cX12_steepClimbs) (maxL := 3) (ret := (some .int)) (by decide) rfl (Nat.le_of_ble_eq_true rfl) ?_
  intro p e s m args below meth c A ls S hr hlocks hname hl hI
  have S : CallFix p m c cX12_steepClimbs 3 s args wsX12_steepClimbs RX12 := S
  show W p l e ({ frames := 2, cells := 0, slots := 0, locals := 43 } : Room) s m args below meth c s.heap [] 0 0 (MQ below (va_Qi Q (mPos D (mT cs) A (W12 h r cs)) A) args s 0 0 A) (F0 m 0 ls [])
  generalize hZ : MQ below (va_Qi Q (mPos D (mT cs) A (W12 h r cs)) A) args s 0 0 A = Z
  have hin : ∀ w ∈ wsX120, w ∈ wsX12_steepClimbs := fun _ h => List.mem_cons_of_mem _ (List.mem_append_right _ h)
  have hl : lv_has ls 3 [(0, .ref h), (1, .int a1), (2, .int a2)] := hl
  unfold wp_X12_steepClimbs at hw
  obtain ⟨H, hH⟩ : ∃ z : Heap, z = s.heap := ⟨_, rfl⟩
  obtain ⟨locs, hL⟩ : ∃ z : List Loc, z = [] := ⟨_, rfl⟩
  rw [show W p l e ({ frames := 2, cells := 0, slots := 0, locals := 43 } : Room) s m args below meth c s.heap [] 0 0 Z (F0 m 0 ls []) = W p l e ({ frames := 2, cells := 0, slots := 0, locals := 43 } : Room) s m args below meth c H locs 0 0 Z (F0 m 0 ls []) by rw [hH, hL]]
  replace hI : mI D (mT cs) A s.heap s (W12 h r cs u) H locs := by rw [hH, hL]; exact hI
  refine lv_aload_n S.1 S.2.1 dX12_steepClimbs_0 rfl (lv_at hl 0 rfl) ?_
  refine lv_bipush (v := 40) S.1 S.2.1 dX12_steepClimbs_1 (by decide) ?_
  refine m_vv (As := [.int (40 : Int32)]) (rest := []) S (W12_self h r cs) hI rfl (c_X12_ran l D h r cs (40 : Int32) u _ hw) (cwV 1 S.2.2.2.2 gX12_steepClimbs_X12_ran rfl rfl rfl (by decide +kernel) ⟨Nat.le_of_ble_eq_true rfl, Nat.le_of_ble_eq_true rfl⟩) (W12_at0 h r cs u) rfl rfl hl.1 rfl (Nat.le_of_ble_eq_true rfl) dX12_steepClimbs_3 ⟨Nat.zero_le _, Nat.zero_le _⟩ (fun u3 H locs hw hI => ?_)
  refine lv_aload_n S.1 S.2.1 dX12_steepClimbs_6 rfl (lv_at hl 0 rfl) ?_
  refine lv_iload_n S.1 S.2.1 dX12_steepClimbs_7 rfl (lv_at hl 1 rfl) ?_
  refine lv_iload_n S.1 S.2.1 dX12_steepClimbs_8 rfl (lv_at hl 2 rfl) ?_
  refine m_vi (As := [.int a1, .int a2]) (rest := []) S (W12_self h r cs) hI rfl (c_X12_plainClimbs l D h r cs a1 a2 u3 _ hw) (cwV 2 S.2.2.2.2 gX12_steepClimbs_X12_plainClimbs rfl rfl rfl (by decide +kernel) ⟨Nat.le_of_ble_eq_true rfl, Nat.le_of_ble_eq_true rfl⟩) (W12_at0 h r cs u3) rfl rfl hl.1 rfl (Nat.le_of_ble_eq_true rfl) dX12_steepClimbs_9 ⟨Nat.zero_le _, Nat.zero_le _⟩ (fun y9 u9 H locs hw hI => ?_)
  refine lv_iconst (v := 3) S.1 S.2.1 dX12_steepClimbs_12 (by decide) ?_
  refine lv_imul S.1 S.2.1 dX12_steepClimbs_13 ?_
  refine lv_topi (fun y13 ey13 => ?_)
  have hw := hw y13 ey13
  subst hZ
  exact m_iret S hr hlocks hI hw dX12_steepClimbs_14

def wp_X12_climbing_p57 (t0 : Int32) (u : ST) (Q : Int32 → ST → Prop) : Prop :=
  Q t0 u
def wp_X12_climbing (a1 : Int32) (a2 : Int32) (u : ST) (Q : Int32 → ST → Prop) : Prop :=
  (vp_in a1 50 ∧ ∀ y5 : Int32, y5 = gA u 50 a1.toNatClampNeg → ((¬ y5 = (5 : Int32) → (vp_in a1 50 ∧ ∀ y37 : Int32, y37 = gA u 50 a1.toNatClampNeg → ((¬ y37 = (3 : Int32) → (wp_X12_plainClimbs a1 a2 u (fun y54 u54 => wp_X12_climbing_p57 y54 u54 Q))) ∧ (y37 = (3 : Int32) → (wp_X12_steepClimbs a1 a2 u (fun y45 u45 => wp_X12_climbing_p57 y45 u45 Q)))))) ∧ (y5 = (5 : Int32) → (wp_X12_ran (60 : Int32) u (fun u13 => (wp_X12_steepClimbs a1 a2 u13 (fun y19 u19 => (wp_X12_dropping a1 (2 : Int32) u19 (fun y27 u27 => (∀ y30 : Int32, y30 = y19 - y27 → Q y30 u27))))))))))
set_option maxHeartbeats 4000000 in
set_option maxRecDepth 100000 in
theorem c_X12_climbing (l : Launch) (D : va_G) (h : Nat) (r : Nat → Nat) (cs : Nat → ClassId) (a1 : Int32) (a2 : Int32) (u : ST) (Q : Int32 → ST → Prop) (hw : wp_X12_climbing a1 a2 u Q) : mCi l yX12_climbing wsX12_climbing ({ frames := 4, cells := 0, slots := 0, locals := 87 } : Room) 0 0 D (mT cs) (W12 h r cs) [.ref h, .int a1, .int a2] u Q := by
  unfold mCi
  refine m_enter (QQ := fun A => va_Qi Q (mPos D (mT cs) A (W12 h r cs)) A) (cc := cX12_climbing) (maxL := 4) (ret := (some .int)) (by decide) rfl (Nat.le_of_ble_eq_true rfl) ?_
  intro p e s m args below meth c A ls S hr hlocks hname hl hI
  have S : CallFix p m c cX12_climbing 4 s args wsX12_climbing RX12 := S
  show W p l e ({ frames := 4, cells := 0, slots := 0, locals := 87 } : Room) s m args below meth c s.heap [] 0 0 (MQ below (va_Qi Q (mPos D (mT cs) A (W12 h r cs)) A) args s 0 0 A) (F0 m 0 ls [])
  generalize hZ : MQ below (va_Qi Q (mPos D (mT cs) A (W12 h r cs)) A) args s 0 0 A = Z
  have hin : ∀ w ∈ wsX120, w ∈ wsX12_climbing := fun _ h => List.mem_cons_of_mem _ (List.mem_append_right _ h)
  have hl : lv_has ls 4 [(0, .ref h), (1, .int a1), (2, .int a2)] := hl
  have b57 : ∀ (t0 : Int32) (u : ST), wp_X12_climbing_p57 t0 u Q → mGo p l e ({ frames := 4, cells := 0, slots := 0, locals := 87 } : Room) s m args below meth c A Z 4 D (mT cs) (W12 h r cs) 57 [(0, .ref h)] [.int t0] u := by
    intro t0 u hw H locs ls hI hl
    unfold wp_X12_climbing_p57 at hw
    subst hZ
    exact m_iret S hr hlocks hI hw dX12_climbing_57
  unfold wp_X12_climbing at hw
  obtain ⟨H, hH⟩ : ∃ z : Heap, z = s.heap := ⟨_, rfl⟩
  obtain ⟨locs, hL⟩ : ∃ z : List Loc, z = [] := ⟨_, rfl⟩
  rw [show W p l e ({ frames := 4, cells := 0, slots := 0, locals := 87 } : Room) s m args below meth c s.heap [] 0 0 Z (F0 m 0 ls []) = W p l e ({ frames := 4, cells := 0, slots := 0, locals := 87 } : Room) s m args below meth c H locs 0 0 Z (F0 m 0 ls []) by rw [hH, hL]]
  replace hI : mI D (mT cs) A s.heap s (W12 h r cs u) H locs := by rw [hH, hL]; exact hI
  refine lv_aload_n S.1 S.2.1 dX12_climbing_0 rfl (lv_at hl 0 rfl) ?_
  refine m_get S hin hI 0 (W12_at0 h r cs u) rfl 50 (Nat.le_of_ble_eq_true rfl) (List.mem_of_getElem? (i := 1) rfl) rfl (Ff12_at50 r u) dX12_climbing_1 ?_
  refine lv_iload_n S.1 S.2.1 dX12_climbing_4 rfl (lv_at hl 1 rfl) ?_
  refine m_iald S hI 24 0 (W12_at24 h r cs u) rfl hw.1 dX12_climbing_5 ?_
  refine lv_topi (fun y5 ey5 => ?_)
  have hw := hw.2 y5 ey5
  refine lv_iconst (v := 5) S.1 S.2.1 dX12_climbing_6 (by decide) ?_
  refine lv_icmp_ne (tgt := 32) S.1 S.2.1 dX12_climbing_7 (by decide) (fun c7 => ?_) (fun c7 => ?_)
  · have hw := hw.1 c7
    refine lv_aload_n S.1 S.2.1 dX12_climbing_32 rfl (lv_at hl 0 rfl) ?_
    refine m_get S hin hI 0 (W12_at0 h r cs u) rfl 50 (Nat.le_of_ble_eq_true rfl) (List.mem_of_getElem? (i := 1) rfl) rfl (Ff12_at50 r u) dX12_climbing_33 ?_
    refine lv_iload_n S.1 S.2.1 dX12_climbing_36 rfl (lv_at hl 1 rfl) ?_
    refine m_iald S hI 24 0 (W12_at24 h r cs u) rfl hw.1 dX12_climbing_37 ?_
    refine lv_topi (fun y37 ey37 => ?_)
    have hw := hw.2 y37 ey37
    refine lv_iconst (v := 3) S.1 S.2.1 dX12_climbing_38 (by decide) ?_
    refine lv_icmp_ne (tgt := 51) S.1 S.2.1 dX12_climbing_39 (by decide) (fun c39 => ?_) (fun c39 => ?_)
    · have hw := hw.1 c39
      refine lv_aload_n S.1 S.2.1 dX12_climbing_51 rfl (lv_at hl 0 rfl) ?_
      refine lv_iload_n S.1 S.2.1 dX12_climbing_52 rfl (lv_at hl 1 rfl) ?_
      refine lv_iload_n S.1 S.2.1 dX12_climbing_53 rfl (lv_at hl 2 rfl) ?_
      refine m_vi (As := [.int a1, .int a2]) (rest := []) S (W12_self h r cs) hI rfl (c_X12_plainClimbs l D h r cs a1 a2 u _ hw) (cwV 2 S.2.2.2.2 gX12_climbing_X12_plainClimbs rfl rfl rfl (by decide +kernel) ⟨Nat.le_of_ble_eq_true rfl, Nat.le_of_ble_eq_true rfl⟩) (W12_at0 h r cs u) rfl rfl hl.1 rfl (Nat.le_of_ble_eq_true rfl) dX12_climbing_54 ⟨Nat.zero_le _, Nat.zero_le _⟩ (fun y54 u54 H locs hw hI => ?_)
      exact b57 y54 u54 hw H locs ls hI (lv_sub hl [0] rfl)
    · have hw := hw.2 c39
      refine lv_aload_n S.1 S.2.1 dX12_climbing_42 rfl (lv_at hl 0 rfl) ?_
      refine lv_iload_n S.1 S.2.1 dX12_climbing_43 rfl (lv_at hl 1 rfl) ?_
      refine lv_iload_n S.1 S.2.1 dX12_climbing_44 rfl (lv_at hl 2 rfl) ?_
      refine m_vi (As := [.int a1, .int a2]) (rest := []) S (W12_self h r cs) hI rfl (c_X12_steepClimbs l D h r cs a1 a2 u _ hw) (cwV 2 S.2.2.2.2 gX12_climbing_X12_steepClimbs rfl rfl rfl (by decide +kernel) ⟨Nat.le_of_ble_eq_true rfl, Nat.le_of_ble_eq_true rfl⟩) (W12_at0 h r cs u) rfl rfl hl.1 rfl (Nat.le_of_ble_eq_true rfl) dX12_climbing_45 ⟨Nat.zero_le _, Nat.zero_le _⟩ (fun y45 u45 H locs hw hI => ?_)
      refine lv_goto (tgt := 57) S.1 S.2.1 dX12_climbing_48 (by decide) ?_
      exact b57 y45 u45 hw H locs ls hI (lv_sub hl [0] rfl)
  · have hw := hw.2 c7
    refine lv_aload_n S.1 S.2.1 dX12_climbing_10 rfl (lv_at hl 0 rfl) ?_
    refine lv_bipush (v := 60) S.1 S.2.1 dX12_climbing_11 (by decide) ?_
    refine m_vv (As := [.int (60 : Int32)]) (rest := []) S (W12_self h r cs) hI rfl (c_X12_ran l D h r cs (60 : Int32) u _ hw) (cwV 1 S.2.2.2.2 gX12_climbing_X12_ran rfl rfl rfl (by decide +kernel) ⟨Nat.le_of_ble_eq_true rfl, Nat.le_of_ble_eq_true rfl⟩) (W12_at0 h r cs u) rfl rfl hl.1 rfl (Nat.le_of_ble_eq_true rfl) dX12_climbing_13 ⟨Nat.zero_le _, Nat.zero_le _⟩ (fun u13 H locs hw hI => ?_)
    refine lv_aload_n S.1 S.2.1 dX12_climbing_16 rfl (lv_at hl 0 rfl) ?_
    refine lv_iload_n S.1 S.2.1 dX12_climbing_17 rfl (lv_at hl 1 rfl) ?_
    refine lv_iload_n S.1 S.2.1 dX12_climbing_18 rfl (lv_at hl 2 rfl) ?_
    refine m_vi (As := [.int a1, .int a2]) (rest := []) S (W12_self h r cs) hI rfl (c_X12_steepClimbs l D h r cs a1 a2 u13 _ hw) (cwV 2 S.2.2.2.2 gX12_climbing_X12_steepClimbs rfl rfl rfl (by decide +kernel) ⟨Nat.le_of_ble_eq_true rfl, Nat.le_of_ble_eq_true rfl⟩) (W12_at0 h r cs u13) rfl rfl hl.1 rfl (Nat.le_of_ble_eq_true rfl) dX12_climbing_19 ⟨Nat.zero_le _, Nat.zero_le _⟩ (fun y19 u19 H locs hw hI => ?_)
    refine lv_istore_n (lv' := [(3, .int y19), (0, .ref h), (1, .int a1), (2, .int a2)]) S.1 S.2.1 dX12_climbing_22 rfl hl (by decide) rfl (fun ls hl => ?_)
    refine lv_iload_n S.1 S.2.1 dX12_climbing_23 rfl (lv_at hl 0 rfl) ?_
    refine lv_aload_n S.1 S.2.1 dX12_climbing_24 rfl (lv_at hl 1 rfl) ?_
    refine lv_iload_n S.1 S.2.1 dX12_climbing_25 rfl (lv_at hl 2 rfl) ?_
    refine lv_iconst (v := 2) S.1 S.2.1 dX12_climbing_26 (by decide) ?_
    refine m_vi (As := [.int a1, .int (2 : Int32)]) (rest := [.int y19]) S (W12_self h r cs) hI rfl (c_X12_dropping l D h r cs a1 (2 : Int32) u19 _ hw) (cwV 2 S.2.2.2.2 gX12_climbing_X12_dropping rfl rfl rfl (by decide +kernel) ⟨Nat.le_of_ble_eq_true rfl, Nat.le_of_ble_eq_true rfl⟩) (W12_at0 h r cs u19) rfl rfl hl.1 rfl (Nat.le_of_ble_eq_true rfl) dX12_climbing_27 ⟨Nat.zero_le _, Nat.zero_le _⟩ (fun y27 u27 H locs hw hI => ?_)
    refine lv_isub S.1 S.2.1 dX12_climbing_30 ?_
    refine lv_topi (fun y30 ey30 => ?_)
    have hw := hw y30 ey30
    subst hZ
    exact m_iret S hr hlocks hI hw dX12_climbing_31

def wp_X12_breaking_p86 (t0 : Int32) (u : ST) (Q : Int32 → ST → Prop) : Prop :=
  Q t0 u
def wp_X12_breaking (a1 : Int32) (a2 : Int32) (u : ST) (Q : Int32 → ST → Prop) : Prop :=
  (vp_in a1 50 ∧ ∀ y5 : Int32, y5 = gA u 50 a1.toNatClampNeg → (wp_X12_isUnder y5 (3 : Int32) (fun y7 => ((y7 = 0 → (vp_in a1 50 ∧ ∀ y33 : Int32, y33 = gA u 50 a1.toNatClampNeg → ((¬ y33 = (7 : Int32) → (vp_in a1 50 ∧ ∀ y66 : Int32, y66 = gA u 50 a1.toNatClampNeg → ((¬ y66 = (2 : Int32) → (wp_X12_plainBreaks a1 a2 u (fun y83 u83 => wp_X12_breaking_p86 y83 u83 Q))) ∧ (y66 = (2 : Int32) → (wp_X12_meanBreaks a1 a2 u (fun y74 u74 => wp_X12_breaking_p86 y74 u74 Q)))))) ∧ (y33 = (7 : Int32) → (wp_X12_ran (80 : Int32) u (fun u42 => (wp_X12_plainBreaks a1 a2 u42 (fun y48 u48 => (wp_X12_climbing a1 (2 : Int32) u48 (fun y56 u56 => (∀ y59 : Int32, y59 = y48 + y56 → Q y59 u56))))))))))) ∧ (¬ y7 = 0 → (wp_X12_ran (41 : Int32) u (fun u16 => (∀ y23 : Int32, y23 = a2 + (1 : Int32) → (wp_X12_meanBreaks a1 y23 u16 (fun y24 u24 => Q y24 u24))))))))))
set_option maxHeartbeats 4000000 in
set_option maxRecDepth 100000 in
theorem c_X12_breaking (l : Launch) (D : va_G) (h : Nat) (r : Nat → Nat) (cs : Nat → ClassId) (a1 : Int32) (a2 : Int32) (u : ST) (Q : Int32 → ST → Prop) (hw : wp_X12_breaking a1 a2 u Q) : mCi l yX12_breaking wsX12_breaking ({ frames := 6, cells := 0, slots := 0, locals := 131 } : Room) 0 0 D (mT cs) (W12 h r cs) [.ref h, .int a1, .int a2] u Q := by
  unfold mCi
  refine m_enter (QQ := fun A => va_Qi Q (mPos D (mT cs) A (W12 h r cs)) A) (cc := cX12_breaking) (maxL := 4) (ret := (some .int)) (by decide) rfl (Nat.le_of_ble_eq_true rfl) ?_
  intro p e s m args below meth c A ls S hr hlocks hname hl hI
  have S : CallFix p m c cX12_breaking 4 s args wsX12_breaking RX12 := S
  show W p l e ({ frames := 6, cells := 0, slots := 0, locals := 131 } : Room) s m args below meth c s.heap [] 0 0 (MQ below (va_Qi Q (mPos D (mT cs) A (W12 h r cs)) A) args s 0 0 A) (F0 m 0 ls [])
  generalize hZ : MQ below (va_Qi Q (mPos D (mT cs) A (W12 h r cs)) A) args s 0 0 A = Z
  have hin : ∀ w ∈ wsX120, w ∈ wsX12_breaking := fun _ h => List.mem_cons_of_mem _ (List.mem_append_right _ h)
  have hl : lv_has ls 4 [(0, .ref h), (1, .int a1), (2, .int a2)] := hl
  have b86 : ∀ (t0 : Int32) (u : ST), wp_X12_breaking_p86 t0 u Q → mGo p l e ({ frames := 6, cells := 0, slots := 0, locals := 131 } : Room) s m args below meth c A Z 4 D (mT cs) (W12 h r cs) 86 [(0, .ref h)] [.int t0] u := by
    intro t0 u hw H locs ls hI hl
    unfold wp_X12_breaking_p86 at hw
    subst hZ
    exact m_iret S hr hlocks hI hw dX12_breaking_86
  unfold wp_X12_breaking at hw
  obtain ⟨H, hH⟩ : ∃ z : Heap, z = s.heap := ⟨_, rfl⟩
  obtain ⟨locs, hL⟩ : ∃ z : List Loc, z = [] := ⟨_, rfl⟩
  rw [show W p l e ({ frames := 6, cells := 0, slots := 0, locals := 131 } : Room) s m args below meth c s.heap [] 0 0 Z (F0 m 0 ls []) = W p l e ({ frames := 6, cells := 0, slots := 0, locals := 131 } : Room) s m args below meth c H locs 0 0 Z (F0 m 0 ls []) by rw [hH, hL]]
  replace hI : mI D (mT cs) A s.heap s (W12 h r cs u) H locs := by rw [hH, hL]; exact hI
  refine lv_aload_n S.1 S.2.1 dX12_breaking_0 rfl (lv_at hl 0 rfl) ?_
  refine m_get S hin hI 0 (W12_at0 h r cs u) rfl 50 (Nat.le_of_ble_eq_true rfl) (List.mem_of_getElem? (i := 1) rfl) rfl (Ff12_at50 r u) dX12_breaking_1 ?_
  refine lv_iload_n S.1 S.2.1 dX12_breaking_4 rfl (lv_at hl 1 rfl) ?_
  refine m_iald S hI 24 0 (W12_at24 h r cs u) rfl hw.1 dX12_breaking_5 ?_
  refine lv_topi (fun y5 ey5 => ?_)
  have hw := hw.2 y5 ey5
  refine lv_iconst (v := 3) S.1 S.2.1 dX12_breaking_6 (by decide) ?_
  refine m_si (As := [.int y5, .int (3 : Int32)]) (rest := []) S hI.2.2.2.1.2.1 (c_X12_isUnder l y5 (3 : Int32) _ hw) (va_cwS 2 S.2.2.2.2 gX12_breaking_X12_isUnder rfl rfl rfl (by decide +kernel) ⟨Nat.le_of_ble_eq_true rfl, Nat.le_of_ble_eq_true rfl⟩) rfl hl.1 rfl (Nat.le_of_ble_eq_true rfl) dX12_breaking_7 ⟨Nat.zero_le _, Nat.zero_le _⟩ (fun y7 hw => ?_)
  refine lv_if_eq (tgt := 28) S.1 S.2.1 dX12_breaking_10 (by decide) (fun c10 => ?_) (fun c10 => ?_)
  · have hw := hw.1 c10
    refine lv_aload_n S.1 S.2.1 dX12_breaking_28 rfl (lv_at hl 0 rfl) ?_
    refine m_get S hin hI 0 (W12_at0 h r cs u) rfl 50 (Nat.le_of_ble_eq_true rfl) (List.mem_of_getElem? (i := 1) rfl) rfl (Ff12_at50 r u) dX12_breaking_29 ?_
    refine lv_iload_n S.1 S.2.1 dX12_breaking_32 rfl (lv_at hl 1 rfl) ?_
    refine m_iald S hI 24 0 (W12_at24 h r cs u) rfl hw.1 dX12_breaking_33 ?_
    refine lv_topi (fun y33 ey33 => ?_)
    have hw := hw.2 y33 ey33
    refine lv_bipush (v := 7) S.1 S.2.1 dX12_breaking_34 (by decide) ?_
    refine lv_icmp_ne (tgt := 61) S.1 S.2.1 dX12_breaking_36 (by decide) (fun c36 => ?_) (fun c36 => ?_)
    · have hw := hw.1 c36
      refine lv_aload_n S.1 S.2.1 dX12_breaking_61 rfl (lv_at hl 0 rfl) ?_
      refine m_get S hin hI 0 (W12_at0 h r cs u) rfl 50 (Nat.le_of_ble_eq_true rfl) (List.mem_of_getElem? (i := 1) rfl) rfl (Ff12_at50 r u) dX12_breaking_62 ?_
      refine lv_iload_n S.1 S.2.1 dX12_breaking_65 rfl (lv_at hl 1 rfl) ?_
      refine m_iald S hI 24 0 (W12_at24 h r cs u) rfl hw.1 dX12_breaking_66 ?_
      refine lv_topi (fun y66 ey66 => ?_)
      have hw := hw.2 y66 ey66
      refine lv_iconst (v := 2) S.1 S.2.1 dX12_breaking_67 (by decide) ?_
      refine lv_icmp_ne (tgt := 80) S.1 S.2.1 dX12_breaking_68 (by decide) (fun c68 => ?_) (fun c68 => ?_)
      · have hw := hw.1 c68
        refine lv_aload_n S.1 S.2.1 dX12_breaking_80 rfl (lv_at hl 0 rfl) ?_
        refine lv_iload_n S.1 S.2.1 dX12_breaking_81 rfl (lv_at hl 1 rfl) ?_
        refine lv_iload_n S.1 S.2.1 dX12_breaking_82 rfl (lv_at hl 2 rfl) ?_
        refine m_vi (As := [.int a1, .int a2]) (rest := []) S (W12_self h r cs) hI rfl (c_X12_plainBreaks l D h r cs a1 a2 u _ hw) (cwV 2 S.2.2.2.2 gX12_breaking_X12_plainBreaks rfl rfl rfl (by decide +kernel) ⟨Nat.le_of_ble_eq_true rfl, Nat.le_of_ble_eq_true rfl⟩) (W12_at0 h r cs u) rfl rfl hl.1 rfl (Nat.le_of_ble_eq_true rfl) dX12_breaking_83 ⟨Nat.zero_le _, Nat.zero_le _⟩ (fun y83 u83 H locs hw hI => ?_)
        exact b86 y83 u83 hw H locs ls hI (lv_sub hl [0] rfl)
      · have hw := hw.2 c68
        refine lv_aload_n S.1 S.2.1 dX12_breaking_71 rfl (lv_at hl 0 rfl) ?_
        refine lv_iload_n S.1 S.2.1 dX12_breaking_72 rfl (lv_at hl 1 rfl) ?_
        refine lv_iload_n S.1 S.2.1 dX12_breaking_73 rfl (lv_at hl 2 rfl) ?_
        refine m_vi (As := [.int a1, .int a2]) (rest := []) S (W12_self h r cs) hI rfl (c_X12_meanBreaks l D h r cs a1 a2 u _ hw) (cwV 2 S.2.2.2.2 gX12_breaking_X12_meanBreaks rfl rfl rfl (by decide +kernel) ⟨Nat.le_of_ble_eq_true rfl, Nat.le_of_ble_eq_true rfl⟩) (W12_at0 h r cs u) rfl rfl hl.1 rfl (Nat.le_of_ble_eq_true rfl) dX12_breaking_74 ⟨Nat.zero_le _, Nat.zero_le _⟩ (fun y74 u74 H locs hw hI => ?_)
        refine lv_goto (tgt := 86) S.1 S.2.1 dX12_breaking_77 (by decide) ?_
        exact b86 y74 u74 hw H locs ls hI (lv_sub hl [0] rfl)
    · have hw := hw.2 c36
      refine lv_aload_n S.1 S.2.1 dX12_breaking_39 rfl (lv_at hl 0 rfl) ?_
      refine lv_bipush (v := 80) S.1 S.2.1 dX12_breaking_40 (by decide) ?_
      refine m_vv (As := [.int (80 : Int32)]) (rest := []) S (W12_self h r cs) hI rfl (c_X12_ran l D h r cs (80 : Int32) u _ hw) (cwV 1 S.2.2.2.2 gX12_breaking_X12_ran rfl rfl rfl (by decide +kernel) ⟨Nat.le_of_ble_eq_true rfl, Nat.le_of_ble_eq_true rfl⟩) (W12_at0 h r cs u) rfl rfl hl.1 rfl (Nat.le_of_ble_eq_true rfl) dX12_breaking_42 ⟨Nat.zero_le _, Nat.zero_le _⟩ (fun u42 H locs hw hI => ?_)
      refine lv_aload_n S.1 S.2.1 dX12_breaking_45 rfl (lv_at hl 0 rfl) ?_
      refine lv_iload_n S.1 S.2.1 dX12_breaking_46 rfl (lv_at hl 1 rfl) ?_
      refine lv_iload_n S.1 S.2.1 dX12_breaking_47 rfl (lv_at hl 2 rfl) ?_
      refine m_vi (As := [.int a1, .int a2]) (rest := []) S (W12_self h r cs) hI rfl (c_X12_plainBreaks l D h r cs a1 a2 u42 _ hw) (cwV 2 S.2.2.2.2 gX12_breaking_X12_plainBreaks rfl rfl rfl (by decide +kernel) ⟨Nat.le_of_ble_eq_true rfl, Nat.le_of_ble_eq_true rfl⟩) (W12_at0 h r cs u42) rfl rfl hl.1 rfl (Nat.le_of_ble_eq_true rfl) dX12_breaking_48 ⟨Nat.zero_le _, Nat.zero_le _⟩ (fun y48 u48 H locs hw hI => ?_)
      refine lv_istore_n (lv' := [(3, .int y48), (0, .ref h), (1, .int a1), (2, .int a2)]) S.1 S.2.1 dX12_breaking_51 rfl hl (by decide) rfl (fun ls hl => ?_)
      refine lv_iload_n S.1 S.2.1 dX12_breaking_52 rfl (lv_at hl 0 rfl) ?_
      refine lv_aload_n S.1 S.2.1 dX12_breaking_53 rfl (lv_at hl 1 rfl) ?_
      refine lv_iload_n S.1 S.2.1 dX12_breaking_54 rfl (lv_at hl 2 rfl) ?_
      refine lv_iconst (v := 2) S.1 S.2.1 dX12_breaking_55 (by decide) ?_
      refine m_vi (As := [.int a1, .int (2 : Int32)]) (rest := [.int y48]) S (W12_self h r cs) hI rfl (c_X12_climbing l D h r cs a1 (2 : Int32) u48 _ hw) (cwV 2 S.2.2.2.2 gX12_breaking_X12_climbing rfl rfl rfl (by decide +kernel) ⟨Nat.le_of_ble_eq_true rfl, Nat.le_of_ble_eq_true rfl⟩) (W12_at0 h r cs u48) rfl rfl hl.1 rfl (Nat.le_of_ble_eq_true rfl) dX12_breaking_56 ⟨Nat.zero_le _, Nat.zero_le _⟩ (fun y56 u56 H locs hw hI => ?_)
      refine lv_iadd S.1 S.2.1 dX12_breaking_59 ?_
      refine lv_topi (fun y59 ey59 => ?_)
      have hw := hw y59 ey59
      subst hZ
      exact m_iret S hr hlocks hI hw dX12_breaking_60
  · have hw := hw.2 c10
    refine lv_aload_n S.1 S.2.1 dX12_breaking_13 rfl (lv_at hl 0 rfl) ?_
    refine lv_bipush (v := 41) S.1 S.2.1 dX12_breaking_14 (by decide) ?_
    refine m_vv (As := [.int (41 : Int32)]) (rest := []) S (W12_self h r cs) hI rfl (c_X12_ran l D h r cs (41 : Int32) u _ hw) (cwV 1 S.2.2.2.2 gX12_breaking_X12_ran rfl rfl rfl (by decide +kernel) ⟨Nat.le_of_ble_eq_true rfl, Nat.le_of_ble_eq_true rfl⟩) (W12_at0 h r cs u) rfl rfl hl.1 rfl (Nat.le_of_ble_eq_true rfl) dX12_breaking_16 ⟨Nat.zero_le _, Nat.zero_le _⟩ (fun u16 H locs hw hI => ?_)
    refine lv_aload_n S.1 S.2.1 dX12_breaking_19 rfl (lv_at hl 0 rfl) ?_
    refine lv_iload_n S.1 S.2.1 dX12_breaking_20 rfl (lv_at hl 1 rfl) ?_
    refine lv_iload_n S.1 S.2.1 dX12_breaking_21 rfl (lv_at hl 2 rfl) ?_
    refine lv_iconst (v := 1) S.1 S.2.1 dX12_breaking_22 (by decide) ?_
    refine lv_iadd S.1 S.2.1 dX12_breaking_23 ?_
    refine lv_topi (fun y23 ey23 => ?_)
    have hw := hw y23 ey23
    refine m_vi (As := [.int a1, .int y23]) (rest := []) S (W12_self h r cs) hI rfl (c_X12_meanBreaks l D h r cs a1 y23 u16 _ hw) (cwV 2 S.2.2.2.2 gX12_breaking_X12_meanBreaks rfl rfl rfl (by decide +kernel) ⟨Nat.le_of_ble_eq_true rfl, Nat.le_of_ble_eq_true rfl⟩) (W12_at0 h r cs u16) rfl rfl hl.1 rfl (Nat.le_of_ble_eq_true rfl) dX12_breaking_24 ⟨Nat.zero_le _, Nat.zero_le _⟩ (fun y24 u24 H locs hw hI => ?_)
    subst hZ
    exact m_iret S hr hlocks hI hw dX12_breaking_27

def wp_X12_plainTells (a1 : Int32) (a2 : Int32) (u : ST) (Q : Int32 → ST → Prop) : Prop :=
  (wp_X12_ran (2 : Int32) u (fun u2 => (wp_X12_breaking a1 a2 u2 (fun y8 u8 => (wp_X12_climbing a1 (1 : Int32) u8 (fun y16 u16 => (∀ y19 : Int32, y19 = y8 - y16 → Q y19 u16)))))))
set_option maxHeartbeats 4000000 in
set_option maxRecDepth 100000 in
theorem c_X12_plainTells (l : Launch) (D : va_G) (h : Nat) (r : Nat → Nat) (cs : Nat → ClassId) (a1 : Int32) (a2 : Int32) (u : ST) (Q : Int32 → ST → Prop) (hw : wp_X12_plainTells a1 a2 u Q) : mCi l yX12_plainTells wsX12_plainTells ({ frames := 7, cells := 0, slots := 0, locals := 154 } : Room) 0 0 D (mT cs) (W12 h r cs) [.ref h, .int a1, .int a2] u Q := by
  unfold mCi
  refine m_enter (QQ := fun A => va_Qi Q (mPos D (mT cs) A (W12 h r cs)) A) (cc := cX12_plainTells) (maxL := 4) (ret := (some .int)) (by decide) rfl (Nat.le_of_ble_eq_true rfl) ?_
  intro p e s m args below meth c A ls S hr hlocks hname hl hI
  have S : CallFix p m c cX12_plainTells 4 s args wsX12_plainTells RX12 := S
  show W p l e ({ frames := 7, cells := 0, slots := 0, locals := 154 } : Room) s m args below meth c s.heap [] 0 0 (MQ below (va_Qi Q (mPos D (mT cs) A (W12 h r cs)) A) args s 0 0 A) (F0 m 0 ls [])
  generalize hZ : MQ below (va_Qi Q (mPos D (mT cs) A (W12 h r cs)) A) args s 0 0 A = Z
  have hin : ∀ w ∈ wsX120, w ∈ wsX12_plainTells := fun _ h => List.mem_cons_of_mem _ (List.mem_append_right _ h)
  have hl : lv_has ls 4 [(0, .ref h), (1, .int a1), (2, .int a2)] := hl
  unfold wp_X12_plainTells at hw
  obtain ⟨H, hH⟩ : ∃ z : Heap, z = s.heap := ⟨_, rfl⟩
  obtain ⟨locs, hL⟩ : ∃ z : List Loc, z = [] := ⟨_, rfl⟩
  rw [show W p l e ({ frames := 7, cells := 0, slots := 0, locals := 154 } : Room) s m args below meth c s.heap [] 0 0 Z (F0 m 0 ls []) = W p l e ({ frames := 7, cells := 0, slots := 0, locals := 154 } : Room) s m args below meth c H locs 0 0 Z (F0 m 0 ls []) by rw [hH, hL]]
  replace hI : mI D (mT cs) A s.heap s (W12 h r cs u) H locs := by rw [hH, hL]; exact hI
  refine lv_aload_n S.1 S.2.1 dX12_plainTells_0 rfl (lv_at hl 0 rfl) ?_
  refine lv_iconst (v := 2) S.1 S.2.1 dX12_plainTells_1 (by decide) ?_
  refine m_vv (As := [.int (2 : Int32)]) (rest := []) S (W12_self h r cs) hI rfl (c_X12_ran l D h r cs (2 : Int32) u _ hw) (cwV 1 S.2.2.2.2 gX12_plainTells_X12_ran rfl rfl rfl (by decide +kernel) ⟨Nat.le_of_ble_eq_true rfl, Nat.le_of_ble_eq_true rfl⟩) (W12_at0 h r cs u) rfl rfl hl.1 rfl (Nat.le_of_ble_eq_true rfl) dX12_plainTells_2 ⟨Nat.zero_le _, Nat.zero_le _⟩ (fun u2 H locs hw hI => ?_)
  refine lv_aload_n S.1 S.2.1 dX12_plainTells_5 rfl (lv_at hl 0 rfl) ?_
  refine lv_iload_n S.1 S.2.1 dX12_plainTells_6 rfl (lv_at hl 1 rfl) ?_
  refine lv_iload_n S.1 S.2.1 dX12_plainTells_7 rfl (lv_at hl 2 rfl) ?_
  refine m_vi (As := [.int a1, .int a2]) (rest := []) S (W12_self h r cs) hI rfl (c_X12_breaking l D h r cs a1 a2 u2 _ hw) (cwV 2 S.2.2.2.2 gX12_plainTells_X12_breaking rfl rfl rfl (by decide +kernel) ⟨Nat.le_of_ble_eq_true rfl, Nat.le_of_ble_eq_true rfl⟩) (W12_at0 h r cs u2) rfl rfl hl.1 rfl (Nat.le_of_ble_eq_true rfl) dX12_plainTells_8 ⟨Nat.zero_le _, Nat.zero_le _⟩ (fun y8 u8 H locs hw hI => ?_)
  refine lv_istore_n (lv' := [(3, .int y8), (0, .ref h), (1, .int a1), (2, .int a2)]) S.1 S.2.1 dX12_plainTells_11 rfl hl (by decide) rfl (fun ls hl => ?_)
  refine lv_iload_n S.1 S.2.1 dX12_plainTells_12 rfl (lv_at hl 0 rfl) ?_
  refine lv_aload_n S.1 S.2.1 dX12_plainTells_13 rfl (lv_at hl 1 rfl) ?_
  refine lv_iload_n S.1 S.2.1 dX12_plainTells_14 rfl (lv_at hl 2 rfl) ?_
  refine lv_iconst (v := 1) S.1 S.2.1 dX12_plainTells_15 (by decide) ?_
  refine m_vi (As := [.int a1, .int (1 : Int32)]) (rest := [.int y8]) S (W12_self h r cs) hI rfl (c_X12_climbing l D h r cs a1 (1 : Int32) u8 _ hw) (cwV 2 S.2.2.2.2 gX12_plainTells_X12_climbing rfl rfl rfl (by decide +kernel) ⟨Nat.le_of_ble_eq_true rfl, Nat.le_of_ble_eq_true rfl⟩) (W12_at0 h r cs u8) rfl rfl hl.1 rfl (Nat.le_of_ble_eq_true rfl) dX12_plainTells_16 ⟨Nat.zero_le _, Nat.zero_le _⟩ (fun y16 u16 H locs hw hI => ?_)
  refine lv_isub S.1 S.2.1 dX12_plainTells_19 ?_
  refine lv_topi (fun y19 ey19 => ?_)
  have hw := hw y19 ey19
  subst hZ
  exact m_iret S hr hlocks hI hw dX12_plainTells_20

def wp_X12_telling (a1 : Int32) (a2 : Int32) (u : ST) (Q : Int32 → ST → Prop) : Prop :=
  (vp_in a1 50 ∧ ∀ y5 : Int32, y5 = gA u 50 a1.toNatClampNeg → ((¬ y5 = (4 : Int32) → (vp_in a1 50 ∧ ∀ y30 : Int32, y30 = gA u 50 a1.toNatClampNeg → ((¬ y30 = (5 : Int32) → (wp_X12_plainTells a1 a2 u (fun y53 u53 => Q y53 u53))) ∧ (y30 = (5 : Int32) → (wp_X12_ran (61 : Int32) u (fun u38 => (wp_X12_plainTells a1 a2 u38 (fun y44 u44 => (∀ y48 : Int32, y48 = y44 + (1 : Int32) → Q y48 u44))))))))) ∧ (y5 = (4 : Int32) → (wp_X12_ran (50 : Int32) u (fun u13 => (wp_X12_plainTells a1 a2 u13 (fun y19 u19 => (∀ y23 : Int32, y23 = y19 ^^^ (5 : Int32) → Q y23 u19))))))))
set_option maxHeartbeats 4000000 in
set_option maxRecDepth 100000 in
theorem c_X12_telling (l : Launch) (D : va_G) (h : Nat) (r : Nat → Nat) (cs : Nat → ClassId) (a1 : Int32) (a2 : Int32) (u : ST) (Q : Int32 → ST → Prop) (hw : wp_X12_telling a1 a2 u Q) : mCi l yX12_telling wsX12_telling ({ frames := 8, cells := 0, slots := 0, locals := 177 } : Room) 0 0 D (mT cs) (W12 h r cs) [.ref h, .int a1, .int a2] u Q := by
  unfold mCi
  refine m_enter (QQ := fun A => va_Qi Q (mPos D (mT cs) A (W12 h r cs)) A) (cc := cX12_telling) (maxL := 3) (ret := (some .int)) (by decide) rfl (Nat.le_of_ble_eq_true rfl) ?_
  intro p e s m args below meth c A ls S hr hlocks hname hl hI
  have S : CallFix p m c cX12_telling 3 s args wsX12_telling RX12 := S
  show W p l e ({ frames := 8, cells := 0, slots := 0, locals := 177 } : Room) s m args below meth c s.heap [] 0 0 (MQ below (va_Qi Q (mPos D (mT cs) A (W12 h r cs)) A) args s 0 0 A) (F0 m 0 ls [])
  generalize hZ : MQ below (va_Qi Q (mPos D (mT cs) A (W12 h r cs)) A) args s 0 0 A = Z
  have hin : ∀ w ∈ wsX120, w ∈ wsX12_telling := fun _ h => List.mem_cons_of_mem _ (List.mem_append_right _ h)
  have hl : lv_has ls 3 [(0, .ref h), (1, .int a1), (2, .int a2)] := hl
  unfold wp_X12_telling at hw
  obtain ⟨H, hH⟩ : ∃ z : Heap, z = s.heap := ⟨_, rfl⟩
  obtain ⟨locs, hL⟩ : ∃ z : List Loc, z = [] := ⟨_, rfl⟩
  rw [show W p l e ({ frames := 8, cells := 0, slots := 0, locals := 177 } : Room) s m args below meth c s.heap [] 0 0 Z (F0 m 0 ls []) = W p l e ({ frames := 8, cells := 0, slots := 0, locals := 177 } : Room) s m args below meth c H locs 0 0 Z (F0 m 0 ls []) by rw [hH, hL]]
  replace hI : mI D (mT cs) A s.heap s (W12 h r cs u) H locs := by rw [hH, hL]; exact hI
  refine lv_aload_n S.1 S.2.1 dX12_telling_0 rfl (lv_at hl 0 rfl) ?_
  refine m_get S hin hI 0 (W12_at0 h r cs u) rfl 50 (Nat.le_of_ble_eq_true rfl) (List.mem_of_getElem? (i := 1) rfl) rfl (Ff12_at50 r u) dX12_telling_1 ?_
  refine lv_iload_n S.1 S.2.1 dX12_telling_4 rfl (lv_at hl 1 rfl) ?_
  refine m_iald S hI 24 0 (W12_at24 h r cs u) rfl hw.1 dX12_telling_5 ?_
  refine lv_topi (fun y5 ey5 => ?_)
  have hw := hw.2 y5 ey5
  refine lv_iconst (v := 4) S.1 S.2.1 dX12_telling_6 (by decide) ?_
  refine lv_icmp_ne (tgt := 25) S.1 S.2.1 dX12_telling_7 (by decide) (fun c7 => ?_) (fun c7 => ?_)
  · have hw := hw.1 c7
    refine lv_aload_n S.1 S.2.1 dX12_telling_25 rfl (lv_at hl 0 rfl) ?_
    refine m_get S hin hI 0 (W12_at0 h r cs u) rfl 50 (Nat.le_of_ble_eq_true rfl) (List.mem_of_getElem? (i := 1) rfl) rfl (Ff12_at50 r u) dX12_telling_26 ?_
    refine lv_iload_n S.1 S.2.1 dX12_telling_29 rfl (lv_at hl 1 rfl) ?_
    refine m_iald S hI 24 0 (W12_at24 h r cs u) rfl hw.1 dX12_telling_30 ?_
    refine lv_topi (fun y30 ey30 => ?_)
    have hw := hw.2 y30 ey30
    refine lv_iconst (v := 5) S.1 S.2.1 dX12_telling_31 (by decide) ?_
    refine lv_icmp_ne (tgt := 50) S.1 S.2.1 dX12_telling_32 (by decide) (fun c32 => ?_) (fun c32 => ?_)
    · have hw := hw.1 c32
      refine lv_aload_n S.1 S.2.1 dX12_telling_50 rfl (lv_at hl 0 rfl) ?_
      refine lv_iload_n S.1 S.2.1 dX12_telling_51 rfl (lv_at hl 1 rfl) ?_
      refine lv_iload_n S.1 S.2.1 dX12_telling_52 rfl (lv_at hl 2 rfl) ?_
      refine m_vi (As := [.int a1, .int a2]) (rest := []) S (W12_self h r cs) hI rfl (c_X12_plainTells l D h r cs a1 a2 u _ hw) (cwV 2 S.2.2.2.2 gX12_telling_X12_plainTells rfl rfl rfl (by decide +kernel) ⟨Nat.le_of_ble_eq_true rfl, Nat.le_of_ble_eq_true rfl⟩) (W12_at0 h r cs u) rfl rfl hl.1 rfl (Nat.le_of_ble_eq_true rfl) dX12_telling_53 ⟨Nat.zero_le _, Nat.zero_le _⟩ (fun y53 u53 H locs hw hI => ?_)
      subst hZ
      exact m_iret S hr hlocks hI hw dX12_telling_56
    · have hw := hw.2 c32
      refine lv_aload_n S.1 S.2.1 dX12_telling_35 rfl (lv_at hl 0 rfl) ?_
      refine lv_bipush (v := 61) S.1 S.2.1 dX12_telling_36 (by decide) ?_
      refine m_vv (As := [.int (61 : Int32)]) (rest := []) S (W12_self h r cs) hI rfl (c_X12_ran l D h r cs (61 : Int32) u _ hw) (cwV 1 S.2.2.2.2 gX12_telling_X12_ran rfl rfl rfl (by decide +kernel) ⟨Nat.le_of_ble_eq_true rfl, Nat.le_of_ble_eq_true rfl⟩) (W12_at0 h r cs u) rfl rfl hl.1 rfl (Nat.le_of_ble_eq_true rfl) dX12_telling_38 ⟨Nat.zero_le _, Nat.zero_le _⟩ (fun u38 H locs hw hI => ?_)
      refine lv_aload_n S.1 S.2.1 dX12_telling_41 rfl (lv_at hl 0 rfl) ?_
      refine lv_iload_n S.1 S.2.1 dX12_telling_42 rfl (lv_at hl 1 rfl) ?_
      refine lv_iload_n S.1 S.2.1 dX12_telling_43 rfl (lv_at hl 2 rfl) ?_
      refine m_vi (As := [.int a1, .int a2]) (rest := []) S (W12_self h r cs) hI rfl (c_X12_plainTells l D h r cs a1 a2 u38 _ hw) (cwV 2 S.2.2.2.2 gX12_telling_X12_plainTells rfl rfl rfl (by decide +kernel) ⟨Nat.le_of_ble_eq_true rfl, Nat.le_of_ble_eq_true rfl⟩) (W12_at0 h r cs u38) rfl rfl hl.1 rfl (Nat.le_of_ble_eq_true rfl) dX12_telling_44 ⟨Nat.zero_le _, Nat.zero_le _⟩ (fun y44 u44 H locs hw hI => ?_)
      refine lv_iconst (v := 1) S.1 S.2.1 dX12_telling_47 (by decide) ?_
      refine lv_iadd S.1 S.2.1 dX12_telling_48 ?_
      refine lv_topi (fun y48 ey48 => ?_)
      have hw := hw y48 ey48
      subst hZ
      exact m_iret S hr hlocks hI hw dX12_telling_49
  · have hw := hw.2 c7
    refine lv_aload_n S.1 S.2.1 dX12_telling_10 rfl (lv_at hl 0 rfl) ?_
    refine lv_bipush (v := 50) S.1 S.2.1 dX12_telling_11 (by decide) ?_
    refine m_vv (As := [.int (50 : Int32)]) (rest := []) S (W12_self h r cs) hI rfl (c_X12_ran l D h r cs (50 : Int32) u _ hw) (cwV 1 S.2.2.2.2 gX12_telling_X12_ran rfl rfl rfl (by decide +kernel) ⟨Nat.le_of_ble_eq_true rfl, Nat.le_of_ble_eq_true rfl⟩) (W12_at0 h r cs u) rfl rfl hl.1 rfl (Nat.le_of_ble_eq_true rfl) dX12_telling_13 ⟨Nat.zero_le _, Nat.zero_le _⟩ (fun u13 H locs hw hI => ?_)
    refine lv_aload_n S.1 S.2.1 dX12_telling_16 rfl (lv_at hl 0 rfl) ?_
    refine lv_iload_n S.1 S.2.1 dX12_telling_17 rfl (lv_at hl 1 rfl) ?_
    refine lv_iload_n S.1 S.2.1 dX12_telling_18 rfl (lv_at hl 2 rfl) ?_
    refine m_vi (As := [.int a1, .int a2]) (rest := []) S (W12_self h r cs) hI rfl (c_X12_plainTells l D h r cs a1 a2 u13 _ hw) (cwV 2 S.2.2.2.2 gX12_telling_X12_plainTells rfl rfl rfl (by decide +kernel) ⟨Nat.le_of_ble_eq_true rfl, Nat.le_of_ble_eq_true rfl⟩) (W12_at0 h r cs u13) rfl rfl hl.1 rfl (Nat.le_of_ble_eq_true rfl) dX12_telling_19 ⟨Nat.zero_le _, Nat.zero_le _⟩ (fun y19 u19 H locs hw hI => ?_)
    refine lv_iconst (v := 5) S.1 S.2.1 dX12_telling_22 (by decide) ?_
    refine lv_ixor S.1 S.2.1 dX12_telling_23 ?_
    refine lv_topi (fun y23 ey23 => ?_)
    have hw := hw y23 ey23
    subst hZ
    exact m_iret S hr hlocks hI hw dX12_telling_24

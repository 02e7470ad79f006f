/-! laid by program: X4_fillTo -/
def wp_X4_fillTo_p68 (x1 : Int32) (x2 : Int32) (x3 : Int32) (u : ST) (B17 : Int32 → Int32 → Int32 → ST → Prop) (Q : ST → Prop) : Prop :=
  (∀ y68 : Int32, y68 = x3 + (-1) → B17 x1 x2 y68 u)
def wp_X4_fillTo_p17b (x1 : Int32) (x2 : Int32) (x3 : Int32) (u : ST) (B17 : Int32 → Int32 → Int32 → ST → Prop) (Q : ST → Prop) : Prop :=
  ((x3 < 0 → Q u) ∧ (¬ x3 < 0 → ((¬ x1 = 0 → (∀ y49 : Int32, y49 = x1 - (1 : Int32) → (vp_in y49 7 ∧ (vp_in x1 7 ∧ (vp_in x1 7 ∧ (wp_X4_fill y49.toNatClampNeg x1.toNatClampNeg x1.toNatClampNeg x3 x2 u (fun u65 => wp_X4_fillTo_p68 x1 x2 x3 u65 B17 Q))))))) ∧ (x1 = 0 → (vp_in x1 7 ∧ (wp_X4_placeOf x3 x2 (fun y33 => (vp_in y33 1891 ∧ ∀ u38 : ST, u38 = sG u 2 (mu (gG u 2) x1.toNatClampNeg (upd (gG u 2 x1.toNatClampNeg) y33.toNatClampNeg (268435456 : Int32))) → wp_X4_fillTo_p68 x1 x2 x3 u38 B17 Q))))))))
def wp_X4_fillTo_p17 (x1 : Int32) (x2 : Int32) (x3 : Int32) (u : ST) (Q : ST → Prop) : Prop := ∃ (I : Int32 → Int32 → Int32 → ST → Prop) (μ : Int32 → Int32 → Int32 → ST → Nat), I x1 x2 x3 u ∧ ∀ (x1 : Int32) (x2 : Int32) (x3 : Int32) (u : ST), I x1 x2 x3 u → wp_X4_fillTo_p17b x1 x2 x3 u (fun yx1 yx2 yx3 yu => I yx1 yx2 yx3 yu ∧ μ yx1 yx2 yx3 yu < μ x1 x2 x3 u) Q
def wp_X4_fillTo (a1 : Int32) (a2 : Int32) (u : ST) (Q : ST → Prop) : Prop :=
  (vp_in a1 7 ∧ (wp_X4_placeOf a2 a2 (fun y8 => (vp_in y8 1891 ∧ ∀ u12 : ST, u12 = sG u 2 (mu (gG u 2) a1.toNatClampNeg (upd (gG u 2 a1.toNatClampNeg) y8.toNatClampNeg (0 : Int32))) → (∀ y15 : Int32, y15 = a2 - (1 : Int32) → wp_X4_fillTo_p17 a1 a2 y15 u12 Q)))))
set_option maxHeartbeats 4000000 in
set_option maxRecDepth 100000 in
theorem c_X4_fillTo (l : Launch) (D : va_G) (h : Nat) (r : Nat → Nat) (q : Nat → Nat → Nat) (cs : Nat → ClassId) (a1 : Int32) (a2 : Int32) (u : ST) (Q : ST → Prop) (hw : wp_X4_fillTo a1 a2 u Q) : mCv l yX4_fillTo wsX4_fillTo ({ frames := 2, cells := 0, slots := 0, locals := 51 } : Room) 0 0 D (mT cs) (W4 h r q cs) [.ref h, .int a1, .int a2] u Q := by
  unfold mCv
  refine m_enter (QQ := fun A => va_Qv Q (mPos D (mT cs) A (W4 h r q cs)) A) (cc := cX4_fillTo) (maxL := 4) (ret := none) (by decide) rfl (Nat.le_of_ble_eq_true rfl) ?_
  intro p e s m args below meth c A ls S hr hlocks hname hl hI
  have S : CallFix p m c cX4_fillTo 4 s args wsX4_fillTo RX4 := S
  show W p l e ({ frames := 2, cells := 0, slots := 0, locals := 51 } : Room) s m args below meth c s.heap [] 0 0 (MQ below (va_Qv Q (mPos D (mT cs) A (W4 h r q cs)) A) args s 0 0 A) (F0 m 0 ls [])
  generalize hZ : MQ below (va_Qv Q (mPos D (mT cs) A (W4 h r q cs)) A) args s 0 0 A = Z
  have hin : ∀ w ∈ wsX40, w ∈ wsX4_fillTo := fun _ h => List.mem_cons_of_mem _ (List.mem_append_right _ h)
  have hl : lv_has ls 4 [(0, .ref h), (1, .int a1), (2, .int a2)] := hl
  have b68 : ∀ (B17 : Int32 → Int32 → Int32 → ST → Prop), (∀ (x1 : Int32) (x2 : Int32) (x3 : Int32) (u : ST), B17 x1 x2 x3 u → mGo p l e ({ frames := 2, cells := 0, slots := 0, locals := 51 } : Room) s m args below meth c A Z 4 D (mT cs) (W4 h r q cs) 17 [(0, .ref h), (1, .int x1), (2, .int x2), (3, .int x3)] [] u) → ∀ (x1 : Int32) (x2 : Int32) (x3 : Int32) (u : ST), wp_X4_fillTo_p68 x1 x2 x3 u B17 Q → mGo p l e ({ frames := 2, cells := 0, slots := 0, locals := 51 } : Room) s m args below meth c A Z 4 D (mT cs) (W4 h r q cs) 68 [(0, .ref h), (1, .int x1), (2, .int x2), (3, .int x3)] [] u := by
    intro B17 hB17 x1 x2 x3 u hw H locs ls hI hl
    unfold wp_X4_fillTo_p68 at hw
    obtain ⟨y68, ey68⟩ : ∃ z : Int32, z = x3 + (-1) := ⟨_, rfl⟩
    have hw := hw y68 ey68
    refine lv_iinc (v := y68) (lv' := [(3, .int y68), (0, .ref h), (1, .int x1), (2, .int x2)]) S.1 S.2.1 dX4_fillTo_68 hl (k := 3) rfl (by rw [ey68]; rfl) (by decide) rfl (fun ls hl => ?_)
    refine lv_goto (tgt := 17) S.1 S.2.1 dX4_fillTo_71 (by decide) ?_
    exact hB17 x1 x2 y68 u hw H locs ls hI (lv_sub hl [1, 2, 3, 0] rfl)
  have b17b : ∀ (B17 : Int32 → Int32 → Int32 → ST → Prop), (∀ (x1 : Int32) (x2 : Int32) (x3 : Int32) (u : ST), B17 x1 x2 x3 u → mGo p l e ({ frames := 2, cells := 0, slots := 0, locals := 51 } : Room) s m args below meth c A Z 4 D (mT cs) (W4 h r q cs) 17 [(0, .ref h), (1, .int x1), (2, .int x2), (3, .int x3)] [] u) → ∀ (x1 : Int32) (x2 : Int32) (x3 : Int32) (u : ST), wp_X4_fillTo_p17b x1 x2 x3 u B17 Q → mGo p l e ({ frames := 2, cells := 0, slots := 0, locals := 51 } : Room) s m args below meth c A Z 4 D (mT cs) (W4 h r q cs) 17 [(0, .ref h), (1, .int x1), (2, .int x2), (3, .int x3)] [] u := by
    intro B17 hB17 x1 x2 x3 u hw H locs ls hI hl
    unfold wp_X4_fillTo_p17b at hw
    refine lv_iload_n S.1 S.2.1 dX4_fillTo_17 rfl (lv_at hl 3 rfl) ?_
    refine lv_if_lt (tgt := 74) S.1 S.2.1 dX4_fillTo_18 (by decide) (fun c18 => ?_) (fun c18 => ?_)
    · have hw := hw.1 c18
      subst hZ
      exact m_vret S hr hlocks hI hw dX4_fillTo_74
    · have hw := hw.2 c18
      refine lv_iload_n S.1 S.2.1 dX4_fillTo_21 rfl (lv_at hl 1 rfl) ?_
      refine lv_if_ne (tgt := 42) S.1 S.2.1 dX4_fillTo_22 (by decide) (fun c22 => ?_) (fun c22 => ?_)
      · have hw := hw.1 c22
        refine lv_aload_n S.1 S.2.1 dX4_fillTo_42 rfl (lv_at hl 0 rfl) ?_
        refine lv_aload_n S.1 S.2.1 dX4_fillTo_43 rfl (lv_at hl 0 rfl) ?_
        refine m_get S hin hI 0 (W4_at0 h r q cs u) rfl 2 (Nat.le_of_ble_eq_true rfl) (List.mem_of_getElem? (i := 1) rfl) rfl (Ff4_at2 r u) dX4_fillTo_44 ?_
        refine lv_iload_n S.1 S.2.1 dX4_fillTo_47 rfl (lv_at hl 1 rfl) ?_
        refine lv_iconst (v := 1) S.1 S.2.1 dX4_fillTo_48 (by decide) ?_
        refine lv_isub S.1 S.2.1 dX4_fillTo_49 ?_
        refine lv_topi (fun y49 ey49 => ?_)
        have hw := hw y49 ey49
        have hj50 := mlt hw.1
        refine m_aald S hI 3 4 (W4_go2 h r q cs u) rfl hw.1 dX4_fillTo_50 ?_
        have hw := hw.2
        refine lv_aload_n S.1 S.2.1 dX4_fillTo_51 rfl (lv_at hl 0 rfl) ?_
        refine m_get S hin hI 0 (W4_at0 h r q cs u) rfl 2 (Nat.le_of_ble_eq_true rfl) (List.mem_of_getElem? (i := 1) rfl) rfl (Ff4_at2 r u) dX4_fillTo_52 ?_
        refine lv_iload_n S.1 S.2.1 dX4_fillTo_55 rfl (lv_at hl 1 rfl) ?_
        have hj56 := mlt hw.1
        refine m_aald S hI 3 4 (W4_go2 h r q cs u) rfl hw.1 dX4_fillTo_56 ?_
        have hw := hw.2
        refine lv_aload_n S.1 S.2.1 dX4_fillTo_57 rfl (lv_at hl 0 rfl) ?_
        refine m_get S hin hI 0 (W4_at0 h r q cs u) rfl 3 (Nat.le_of_ble_eq_true rfl) (List.mem_of_getElem? (i := 3) rfl) rfl (Ff4_at3 r u) dX4_fillTo_58 ?_
        refine lv_iload_n S.1 S.2.1 dX4_fillTo_61 rfl (lv_at hl 1 rfl) ?_
        have hj62 := mlt hw.1
        refine m_aald S hI 11 4 (W4_go3 h r q cs u) rfl hw.1 dX4_fillTo_62 ?_
        have hw := hw.2
        refine lv_iload_n S.1 S.2.1 dX4_fillTo_63 rfl (lv_at hl 3 rfl) ?_
        refine lv_iload_n S.1 S.2.1 dX4_fillTo_64 rfl (lv_at hl 2 rfl) ?_
        refine m_vv (As := [.ref (q 2 y49.toNatClampNeg), .ref (q 2 x1.toNatClampNeg), .ref (q 3 x1.toNatClampNeg), .int x3, .int x2]) (rest := []) S (W4_self h r q cs) hI rfl (c_X4_fill l D h r q cs y49.toNatClampNeg x1.toNatClampNeg x1.toNatClampNeg hj50 hj56 hj62 x3 x2 u _ hw) (cwV 5 S.2.2.2.2 gX4_fillTo_X4_fill rfl rfl rfl (by decide +kernel) ⟨Nat.le_of_ble_eq_true rfl, Nat.le_of_ble_eq_true rfl⟩) (W4_at0 h r q cs u) rfl rfl hl.1 rfl (Nat.le_of_ble_eq_true rfl) dX4_fillTo_65 ⟨Nat.zero_le _, Nat.zero_le _⟩ (fun u65 H locs hw hI => ?_)
        exact b68 B17 hB17 x1 x2 x3 u65 hw H locs ls hI (lv_sub hl [0, 1, 2, 3] rfl)
      · have hw := hw.2 c22
        refine lv_aload_n S.1 S.2.1 dX4_fillTo_25 rfl (lv_at hl 0 rfl) ?_
        refine m_get S hin hI 0 (W4_at0 h r q cs u) rfl 2 (Nat.le_of_ble_eq_true rfl) (List.mem_of_getElem? (i := 1) rfl) rfl (Ff4_at2 r u) dX4_fillTo_26 ?_
        refine lv_iload_n S.1 S.2.1 dX4_fillTo_29 rfl (lv_at hl 1 rfl) ?_
        have hj30 := mlt hw.1
        refine m_aald S hI 3 4 (W4_go2 h r q cs u) rfl hw.1 dX4_fillTo_30 ?_
        have hw := hw.2
        refine lv_iload_n S.1 S.2.1 dX4_fillTo_31 rfl (lv_at hl 3 rfl) ?_
        refine lv_iload_n S.1 S.2.1 dX4_fillTo_32 rfl (lv_at hl 2 rfl) ?_
        refine m_si (As := [.int x3, .int x2]) (rest := [.ref (q 2 x1.toNatClampNeg)]) S hI.2.2.2.1.2.1 (c_X4_placeOf l x3 x2 _ hw) (va_cwS 2 S.2.2.2.2 gX4_fillTo_X4_placeOf rfl rfl rfl (by decide +kernel) ⟨Nat.le_of_ble_eq_true rfl, Nat.le_of_ble_eq_true rfl⟩) rfl hl.1 rfl (Nat.le_of_ble_eq_true rfl) dX4_fillTo_33 ⟨Nat.zero_le _, Nat.zero_le _⟩ (fun y33 hw => ?_)
        refine lv_ldc S.1 S.2.1 S.2.2.2.1 (S.2.2.2.2 _ (List.mem_of_getElem? (i := 2) rfl)) dX4_fillTo_36 ?_
        obtain ⟨u38, eu38⟩ : ∃ z : ST, z = sG u 2 (mu (gG u 2) x1.toNatClampNeg (upd (gG u 2 x1.toNatClampNeg) y33.toNatClampNeg (268435456 : Int32))) := ⟨_, rfl⟩
        refine m_iast S hI (4 + x1.toNatClampNeg) 0 (W4_gr2 h r q cs u hj30) rfl hw.1 (W4_sG2 h r q cs u u38 hj30 _ eu38) dX4_fillTo_38 (fun H locs hI => ?_)
        have hw := hw.2 u38 eu38
        refine lv_goto (tgt := 68) S.1 S.2.1 dX4_fillTo_39 (by decide) ?_
        exact b68 B17 hB17 x1 x2 x3 u38 hw H locs ls hI (lv_sub hl [0, 1, 2, 3] rfl)
  have b17 : ∀ (x1 : Int32) (x2 : Int32) (x3 : Int32) (u : ST), wp_X4_fillTo_p17 x1 x2 x3 u Q → mGo p l e ({ frames := 2, cells := 0, slots := 0, locals := 51 } : Room) s m args below meth c A Z 4 D (mT cs) (W4 h r q cs) 17 [(0, .ref h), (1, .int x1), (2, .int x2), (3, .int x3)] [] u := by
    intro x1 x2 x3 u hw
    obtain ⟨I, μ, h0, hs⟩ := hw
    have key : ∀ (n : Nat) (x1 : Int32) (x2 : Int32) (x3 : Int32) (u : ST), μ x1 x2 x3 u = n → I x1 x2 x3 u → mGo p l e ({ frames := 2, cells := 0, slots := 0, locals := 51 } : Room) s m args below meth c A Z 4 D (mT cs) (W4 h r q cs) 17 [(0, .ref h), (1, .int x1), (2, .int x2), (3, .int x3)] [] u := by
      intro n
      induction n using Nat.strongRecOn with
      | ind n ih =>
        intro x1 x2 x3 u hn hi
        exact b17b (fun yx1 yx2 yx3 yu => I yx1 yx2 yx3 yu ∧ μ yx1 yx2 yx3 yu < μ x1 x2 x3 u) (fun yx1 yx2 yx3 yu hb => ih _ (hn ▸ hb.2) yx1 yx2 yx3 yu rfl hb.1) x1 x2 x3 u (hs x1 x2 x3 u hi)
    exact key _ x1 x2 x3 u rfl h0
  unfold wp_X4_fillTo at hw
  obtain ⟨H, hH⟩ : ∃ z : Heap, z = s.heap := ⟨_, rfl⟩
  obtain ⟨locs, hL⟩ : ∃ z : List Loc, z = [] := ⟨_, rfl⟩
  rw [show W p l e ({ frames := 2, cells := 0, slots := 0, locals := 51 } : Room) s m args below meth c s.heap [] 0 0 Z (F0 m 0 ls []) = W p l e ({ frames := 2, cells := 0, slots := 0, locals := 51 } : Room) s m args below meth c H locs 0 0 Z (F0 m 0 ls []) by rw [hH, hL]]
  replace hI : mI D (mT cs) A s.heap s (W4 h r q cs u) H locs := by rw [hH, hL]; exact hI
  refine lv_aload_n S.1 S.2.1 dX4_fillTo_0 rfl (lv_at hl 0 rfl) ?_
  refine m_get S hin hI 0 (W4_at0 h r q cs u) rfl 2 (Nat.le_of_ble_eq_true rfl) (List.mem_of_getElem? (i := 1) rfl) rfl (Ff4_at2 r u) dX4_fillTo_1 ?_
  refine lv_iload_n S.1 S.2.1 dX4_fillTo_4 rfl (lv_at hl 1 rfl) ?_
  have hj5 := mlt hw.1
  refine m_aald S hI 3 4 (W4_go2 h r q cs u) rfl hw.1 dX4_fillTo_5 ?_
  have hw := hw.2
  refine lv_iload_n S.1 S.2.1 dX4_fillTo_6 rfl (lv_at hl 2 rfl) ?_
  refine lv_iload_n S.1 S.2.1 dX4_fillTo_7 rfl (lv_at hl 2 rfl) ?_
  refine m_si (As := [.int a2, .int a2]) (rest := [.ref (q 2 a1.toNatClampNeg)]) S hI.2.2.2.1.2.1 (c_X4_placeOf l a2 a2 _ hw) (va_cwS 2 S.2.2.2.2 gX4_fillTo_X4_placeOf rfl rfl rfl (by decide +kernel) ⟨Nat.le_of_ble_eq_true rfl, Nat.le_of_ble_eq_true rfl⟩) rfl hl.1 rfl (Nat.le_of_ble_eq_true rfl) dX4_fillTo_8 ⟨Nat.zero_le _, Nat.zero_le _⟩ (fun y8 hw => ?_)
  refine lv_iconst (v := 0) S.1 S.2.1 dX4_fillTo_11 (by decide) ?_
  obtain ⟨u12, eu12⟩ : ∃ z : ST, z = sG u 2 (mu (gG u 2) a1.toNatClampNeg (upd (gG u 2 a1.toNatClampNeg) y8.toNatClampNeg (0 : Int32))) := ⟨_, rfl⟩
  refine m_iast S hI (4 + a1.toNatClampNeg) 0 (W4_gr2 h r q cs u hj5) rfl hw.1 (W4_sG2 h r q cs u u12 hj5 _ eu12) dX4_fillTo_12 (fun H locs hI => ?_)
  have hw := hw.2 u12 eu12
  refine lv_iload_n S.1 S.2.1 dX4_fillTo_13 rfl (lv_at hl 2 rfl) ?_
  refine lv_iconst (v := 1) S.1 S.2.1 dX4_fillTo_14 (by decide) ?_
  refine lv_isub S.1 S.2.1 dX4_fillTo_15 ?_
  refine lv_topi (fun y15 ey15 => ?_)
  have hw := hw y15 ey15
  refine lv_istore_n (lv' := [(3, .int y15), (0, .ref h), (1, .int a1), (2, .int a2)]) S.1 S.2.1 dX4_fillTo_16 rfl hl (by decide) rfl (fun ls hl => ?_)
  exact b17 a1 a2 y15 u12 hw H locs ls hI (lv_sub hl [1, 2, 3, 0] rfl)

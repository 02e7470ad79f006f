/-! laid by program: X11_within, X11_isShelf, X11_commonDivisor, X11_nextSeed, world7, X7_become, X7_isSure, X7_heights, X7_part, world2, X2_isThere, X2_after, X2_fill, X2_prepare, X2_cost, X2_first, world5, X5_need, X5_bestIn, X5_fill, X5_prepare, world9, X9_rest -/
def wp_X11_within_p15 (t0 : Int32) (Q : Int32 → Prop) : Prop :=
  t0 &&& 1 = t0 ∧ Q t0
def wp_X11_within_p14 (Q : Int32 → Prop) : Prop :=
  wp_X11_within_p15 (0 : Int32) Q
def wp_X11_within (a0 : Int32) (a1 : Int32) (a2 : Int32) (Q : Int32 → Prop) : Prop :=
  ((a0 < a1 → wp_X11_within_p14 Q) ∧ (¬ a0 < a1 → ((a2 < a0 → wp_X11_within_p14 Q) ∧ (¬ a2 < a0 → wp_X11_within_p15 (1 : Int32) Q))))
set_option maxHeartbeats 4000000 in
set_option maxRecDepth 100000 in
theorem c_X11_within (l : Launch) (a0 : Int32) (a1 : Int32) (a2 : Int32) (Q : Int32 → Prop) (hw : wp_X11_within a0 a1 a2 Q) : mTi l yX11_within wsX11_within ({ frames := 0, cells := 0, slots := 0, locals := 0 } : Room) [.int a0, .int a1, .int a2] Q := by
  refine m_enterT (cc := cX11_within) (maxL := 3) (ret := (some .boolean)) (by decide) rfl (Nat.le_of_ble_eq_true rfl) ?_
  intro p e s m args below meth c ls S hr hlocks hname hl hN
  have S : CallFix p m c cX11_within 3 s args wsX11_within RX11 := S
  generalize hZ : MQ below (vp_Si Q) args s 0 0 (fun _ => False) = Z
  have hl : lv_has ls 3 [(0, .int a0), (1, .int a1), (2, .int a2)] := hl
  have b15 : ∀ (t0 : Int32), wp_X11_within_p15 t0 Q → mGt p l e ({ frames := 0, cells := 0, slots := 0, locals := 0 } : Room) s m args below meth c Z 3 15 [] [.int t0] := by
    intro t0 hw ls hl
    unfold wp_X11_within_p15 at hw
    subst hZ
    exact m_tzret S hr hlocks hw.1 hw.2 dX11_within_15
  have b14 : wp_X11_within_p14 Q → mGt p l e ({ frames := 0, cells := 0, slots := 0, locals := 0 } : Room) s m args below meth c Z 3 14 [] [] := by
    intro hw ls hl
    unfold wp_X11_within_p14 at hw
    refine lv_iconst (v := 0) S.1 S.2.1 dX11_within_14 (by decide) ?_
    exact b15 (0 : Int32) hw ls (lv_sub hl [] rfl)
  unfold wp_X11_within at hw
  refine lv_iload_n S.1 S.2.1 dX11_within_0 rfl (lv_at hl 0 rfl) ?_
  refine lv_iload_n S.1 S.2.1 dX11_within_1 rfl (lv_at hl 1 rfl) ?_
  refine lv_icmp_lt (tgt := 14) S.1 S.2.1 dX11_within_2 (by decide) (fun c2 => ?_) (fun c2 => ?_)
  · have hw := hw.1 c2
    exact b14 hw ls (lv_sub hl [] rfl)
  · have hw := hw.2 c2
    refine lv_iload_n S.1 S.2.1 dX11_within_5 rfl (lv_at hl 0 rfl) ?_
    refine lv_iload_n S.1 S.2.1 dX11_within_6 rfl (lv_at hl 2 rfl) ?_
    refine lv_icmp_gt (tgt := 14) S.1 S.2.1 dX11_within_7 (by decide) (fun c7 => ?_) (fun c7 => ?_)
    · have hw := hw.1 c7
      exact b14 hw ls (lv_sub hl [] rfl)
    · have hw := hw.2 c7
      refine lv_iconst (v := 1) S.1 S.2.1 dX11_within_10 (by decide) ?_
      refine lv_goto (tgt := 15) S.1 S.2.1 dX11_within_11 (by decide) ?_
      exact b15 (1 : Int32) hw ls (lv_sub hl [] rfl)

def wp_X11_isShelf (a0 : Int32) (Q : Int32 → Prop) : Prop :=
  (wp_X11_within a0 (0 : Int32) (5 : Int32) (fun y3 => y3 &&& 1 = y3 ∧ Q y3))
set_option maxHeartbeats 4000000 in
set_option maxRecDepth 100000 in
theorem c_X11_isShelf (l : Launch) (a0 : Int32) (Q : Int32 → Prop) (hw : wp_X11_isShelf a0 Q) : mTi l yX11_isShelf wsX11_isShelf ({ frames := 1, cells := 0, slots := 0, locals := 22 } : Room) [.int a0] Q := by
  refine m_enterT (cc := cX11_isShelf) (maxL := 1) (ret := (some .boolean)) (by decide) rfl (Nat.le_of_ble_eq_true rfl) ?_
  intro p e s m args below meth c ls S hr hlocks hname hl hN
  have S : CallFix p m c cX11_isShelf 1 s args wsX11_isShelf RX11 := S
  generalize hZ : MQ below (vp_Si Q) args s 0 0 (fun _ => False) = Z
  have hl : lv_has ls 1 [(0, .int a0)] := hl
  unfold wp_X11_isShelf at hw
  refine lv_iload_n S.1 S.2.1 dX11_isShelf_0 rfl (lv_at hl 0 rfl) ?_
  refine lv_iconst (v := 0) S.1 S.2.1 dX11_isShelf_1 (by decide) ?_
  refine lv_iconst (v := 5) S.1 S.2.1 dX11_isShelf_2 (by decide) ?_
  refine m_si (As := [.int a0, .int (0 : Int32), .int (5 : Int32)]) (rest := []) S hN (c_X11_within l a0 (0 : Int32) (5 : Int32) _ hw) (va_cwS 3 S.2.2.2.2 gX11_isShelf_X11_within rfl rfl rfl (by decide +kernel) ⟨Nat.le_of_ble_eq_true rfl, Nat.le_of_ble_eq_true rfl⟩) rfl hl.1 rfl (Nat.le_of_ble_eq_true rfl) dX11_isShelf_3 ⟨Nat.zero_le _, Nat.zero_le _⟩ (fun y3 hw => ?_)
  subst hZ
  exact m_tzret S hr hlocks hw.1 hw.2 dX11_isShelf_6

def wp_X11_commonDivisor_p34 (x2 : Int32) (Q : Int32 → Prop) : Prop :=
  Q x2
def wp_X11_commonDivisor_p7b (x2 : Int32) (x3 : Int32) (x4 : Int32) (B7 : Int32 → Int32 → Int32 → Prop) (Q : Int32 → Prop) : Prop :=
  (((64 : Int32) ≤ x4 → wp_X11_commonDivisor_p34 x2 Q) ∧ (¬ (64 : Int32) ≤ x4 → ((x3 = 0 → wp_X11_commonDivisor_p34 x2 Q) ∧ (¬ x3 = 0 → (¬ x3 = 0 ∧ ∀ y20 : Int32, y20 = x2 - x2 / x3 * x3 → (∀ y28 : Int32, y28 = x4 + 1 → B7 x3 y20 y28))))))
def wp_X11_commonDivisor_p7 (x2 : Int32) (x3 : Int32) (x4 : Int32) (Q : Int32 → Prop) : Prop := ∃ (I : Int32 → Int32 → Int32 → Prop) (μ : Int32 → Int32 → Int32 → Nat), I x2 x3 x4 ∧ ∀ (x2 : Int32) (x3 : Int32) (x4 : Int32), I x2 x3 x4 → wp_X11_commonDivisor_p7b x2 x3 x4 (fun yx2 yx3 yx4 => I yx2 yx3 yx4 ∧ μ yx2 yx3 yx4 < μ x2 x3 x4) Q
def wp_X11_commonDivisor (a0 : Int32) (a1 : Int32) (Q : Int32 → Prop) : Prop :=
  wp_X11_commonDivisor_p7 a0 a1 (0 : Int32) Q
set_option maxHeartbeats 4000000 in
set_option maxRecDepth 100000 in
theorem c_X11_commonDivisor (l : Launch) (a0 : Int32) (a1 : Int32) (Q : Int32 → Prop) (hw : wp_X11_commonDivisor a0 a1 Q) : mTi l yX11_commonDivisor wsX11_commonDivisor ({ frames := 0, cells := 0, slots := 0, locals := 0 } : Room) [.int a0, .int a1] Q := by
  refine m_enterT (cc := cX11_commonDivisor) (maxL := 6) (ret := (some .int)) (by decide) rfl (Nat.le_of_ble_eq_true rfl) ?_
  intro p e s m args below meth c ls S hr hlocks hname hl hN
  have S : CallFix p m c cX11_commonDivisor 6 s args wsX11_commonDivisor RX11 := S
  generalize hZ : MQ below (vp_Si Q) args s 0 0 (fun _ => False) = Z
  have hl : lv_has ls 6 [(0, .int a0), (1, .int a1)] := hl
  have b34 : ∀ (x2 : Int32), wp_X11_commonDivisor_p34 x2 Q → mGt p l e ({ frames := 0, cells := 0, slots := 0, locals := 0 } : Room) s m args below meth c Z 6 34 [(2, .int x2)] [] := by
    intro x2 hw ls hl
    unfold wp_X11_commonDivisor_p34 at hw
    refine lv_iload_n S.1 S.2.1 dX11_commonDivisor_34 rfl (lv_at hl 0 rfl) ?_
    subst hZ
    exact m_tiret S hr hlocks hw dX11_commonDivisor_35
  have b7b : ∀ (B7 : Int32 → Int32 → Int32 → Prop), (∀ (x2 : Int32) (x3 : Int32) (x4 : Int32), B7 x2 x3 x4 → mGt p l e ({ frames := 0, cells := 0, slots := 0, locals := 0 } : Room) s m args below meth c Z 6 7 [(2, .int x2), (3, .int x3), (4, .int x4)] []) → ∀ (x2 : Int32) (x3 : Int32) (x4 : Int32), wp_X11_commonDivisor_p7b x2 x3 x4 B7 Q → mGt p l e ({ frames := 0, cells := 0, slots := 0, locals := 0 } : Room) s m args below meth c Z 6 7 [(2, .int x2), (3, .int x3), (4, .int x4)] [] := by
    intro B7 hB7 x2 x3 x4 hw ls hl
    unfold wp_X11_commonDivisor_p7b at hw
    refine lv_iload S.1 S.2.1 dX11_commonDivisor_7 (lv_at hl 2 rfl) ?_
    refine lv_bipush (v := 64) S.1 S.2.1 dX11_commonDivisor_9 (by decide) ?_
    refine lv_icmp_ge (tgt := 34) S.1 S.2.1 dX11_commonDivisor_11 (by decide) (fun c11 => ?_) (fun c11 => ?_)
    · have hw := hw.1 c11
      exact b34 x2 hw ls (lv_sub hl [0] rfl)
    · have hw := hw.2 c11
      refine lv_iload_n S.1 S.2.1 dX11_commonDivisor_14 rfl (lv_at hl 1 rfl) ?_
      refine lv_if_eq (tgt := 34) S.1 S.2.1 dX11_commonDivisor_15 (by decide) (fun c15 => ?_) (fun c15 => ?_)
      · have hw := hw.1 c15
        exact b34 x2 hw ls (lv_sub hl [0] rfl)
      · have hw := hw.2 c15
        refine lv_iload_n S.1 S.2.1 dX11_commonDivisor_18 rfl (lv_at hl 0 rfl) ?_
        refine lv_iload_n S.1 S.2.1 dX11_commonDivisor_19 rfl (lv_at hl 1 rfl) ?_
        refine lv_irem S.1 S.2.1 dX11_commonDivisor_20 hw.1 ?_
        have hw := hw.2
        refine lv_topi (fun y20 ey20 => ?_)
        have hw := hw y20 ey20
        refine lv_istore (lv' := [(5, .int y20), (2, .int x2), (3, .int x3), (4, .int x4)]) S.1 S.2.1 dX11_commonDivisor_21 hl (by decide) rfl (fun ls hl => ?_)
        refine lv_iload_n S.1 S.2.1 dX11_commonDivisor_23 rfl (lv_at hl 2 rfl) ?_
        refine lv_istore_n (lv' := [(2, .int x3), (5, .int y20), (3, .int x3), (4, .int x4)]) S.1 S.2.1 dX11_commonDivisor_24 rfl hl (by decide) rfl (fun ls hl => ?_)
        refine lv_iload S.1 S.2.1 dX11_commonDivisor_25 (lv_at hl 1 rfl) ?_
        refine lv_istore_n (lv' := [(3, .int y20), (2, .int x3), (5, .int y20), (4, .int x4)]) S.1 S.2.1 dX11_commonDivisor_27 rfl hl (by decide) rfl (fun ls hl => ?_)
        obtain ⟨y28, ey28⟩ : ∃ z : Int32, z = x4 + 1 := ⟨_, rfl⟩
        have hw := hw y28 ey28
        refine lv_iinc (v := y28) (lv' := [(4, .int y28), (3, .int y20), (2, .int x3), (5, .int y20)]) S.1 S.2.1 dX11_commonDivisor_28 hl (k := 3) rfl (by rw [ey28]; rfl) (by decide) rfl (fun ls hl => ?_)
        refine lv_goto (tgt := 7) S.1 S.2.1 dX11_commonDivisor_31 (by decide) ?_
        exact hB7 x3 y20 y28 hw ls (lv_sub hl [2, 1, 0] rfl)
  have b7 : ∀ (x2 : Int32) (x3 : Int32) (x4 : Int32), wp_X11_commonDivisor_p7 x2 x3 x4 Q → mGt p l e ({ frames := 0, cells := 0, slots := 0, locals := 0 } : Room) s m args below meth c Z 6 7 [(2, .int x2), (3, .int x3), (4, .int x4)] [] := by
    intro x2 x3 x4 hw
    obtain ⟨I, μ, h0, hs⟩ := hw
    have key : ∀ (n : Nat) (x2 : Int32) (x3 : Int32) (x4 : Int32), μ x2 x3 x4 = n → I x2 x3 x4 → mGt p l e ({ frames := 0, cells := 0, slots := 0, locals := 0 } : Room) s m args below meth c Z 6 7 [(2, .int x2), (3, .int x3), (4, .int x4)] [] := by
      intro n
      induction n using Nat.strongRecOn with
      | ind n ih =>
        intro x2 x3 x4 hn hi
        exact b7b (fun yx2 yx3 yx4 => I yx2 yx3 yx4 ∧ μ yx2 yx3 yx4 < μ x2 x3 x4) (fun yx2 yx3 yx4 hb => ih _ (hn ▸ hb.2) yx2 yx3 yx4 rfl hb.1) x2 x3 x4 (hs x2 x3 x4 hi)
    exact key _ x2 x3 x4 rfl h0
  unfold wp_X11_commonDivisor at hw
  refine lv_iload_n S.1 S.2.1 dX11_commonDivisor_0 rfl (lv_at hl 0 rfl) ?_
  refine lv_istore_n (lv' := [(2, .int a0), (0, .int a0), (1, .int a1)]) S.1 S.2.1 dX11_commonDivisor_1 rfl hl (by decide) rfl (fun ls hl => ?_)
  refine lv_iload_n S.1 S.2.1 dX11_commonDivisor_2 rfl (lv_at hl 2 rfl) ?_
  refine lv_istore_n (lv' := [(3, .int a1), (2, .int a0), (0, .int a0), (1, .int a1)]) S.1 S.2.1 dX11_commonDivisor_3 rfl hl (by decide) rfl (fun ls hl => ?_)
  refine lv_iconst (v := 0) S.1 S.2.1 dX11_commonDivisor_4 (by decide) ?_
  refine lv_istore (lv' := [(4, .int (0 : Int32)), (3, .int a1), (2, .int a0), (0, .int a0), (1, .int a1)]) S.1 S.2.1 dX11_commonDivisor_5 hl (by decide) rfl (fun ls hl => ?_)
  exact b7 a0 a1 (0 : Int32) hw ls (lv_sub hl [2, 1, 0] rfl)

def wp_X11_nextSeed (a0 : Int32) (Q : Int32 → Prop) : Prop :=
  (∀ y4 : Int32, y4 = a0 * (1103515245 : Int32) → (∀ y8 : Int32, y8 = y4 + (12345 : Int32) → Q y8))
set_option maxHeartbeats 4000000 in
set_option maxRecDepth 100000 in
theorem c_X11_nextSeed (l : Launch) (a0 : Int32) (Q : Int32 → Prop) (hw : wp_X11_nextSeed a0 Q) : mTi l yX11_nextSeed wsX11_nextSeed ({ frames := 0, cells := 0, slots := 0, locals := 0 } : Room) [.int a0] Q := by
  refine m_enterT (cc := cX11_nextSeed) (maxL := 1) (ret := (some .int)) (by decide) rfl (Nat.le_of_ble_eq_true rfl) ?_
  intro p e s m args below meth c ls S hr hlocks hname hl hN
  have S : CallFix p m c cX11_nextSeed 1 s args wsX11_nextSeed RX11 := S
  generalize hZ : MQ below (vp_Si Q) args s 0 0 (fun _ => False) = Z
  have hl : lv_has ls 1 [(0, .int a0)] := hl
  unfold wp_X11_nextSeed at hw
  refine lv_iload_n S.1 S.2.1 dX11_nextSeed_0 rfl (lv_at hl 0 rfl) ?_
  refine lv_ldcw S.1 S.2.1 S.2.2.2.1 (S.2.2.2.2 _ (List.mem_of_getElem? (i := 1) rfl)) dX11_nextSeed_1 ?_
  refine lv_imul S.1 S.2.1 dX11_nextSeed_4 ?_
  refine lv_topi (fun y4 ey4 => ?_)
  have hw := hw y4 ey4
  refine lv_sipush (v := 12345) S.1 S.2.1 dX11_nextSeed_5 (by decide) ?_
  refine lv_iadd S.1 S.2.1 dX11_nextSeed_8 ?_
  refine lv_topi (fun y8 ey8 => ?_)
  have hw := hw y8 ey8
  subst hZ
  exact m_tiret S hr hlocks hw dX11_nextSeed_9

/-- TwoJars$Span: what its object holds -/
def Ff7 (r : Nat → Nat) (u : ST) : List Value := [.int (gI u 0), .int (gI u 1), .int (gI u 2)]
def W7 (h : Nat) (r : Nat → Nat) (cs : Nat → ClassId) (u : ST) : va_W := [(h, .inr (7, Ff7 r u))]
theorem W7_at0 (h : Nat) (r : Nat → Nat) (cs : Nat → ClassId) (u : ST) : (W7 h r cs u)[0]? = some (h, .inr (7, Ff7 r u)) := rfl
theorem Ff7_at0 (r : Nat → Nat) (u : ST) : (Ff7 r u)[0]? = some (.int (gI u 0)) := rfl
theorem Ff7_at1 (r : Nat → Nat) (u : ST) : (Ff7 r u)[1]? = some (.int (gI u 1)) := rfl
theorem Ff7_at2 (r : Nat → Nat) (u : ST) : (Ff7 r u)[2]? = some (.int (gI u 2)) := rfl
theorem W7_sI0 (h : Nat) (r : Nat → Nat) (cs : Nat → ClassId) (u u9 : ST) (x : Int32) (e : u9 = sI u 0 x) : (W7 h r cs u).set 0 (h, .inr (7, (Ff7 r u).set 0 (.int x))) = W7 h r cs u9 := by subst e; rfl
theorem W7_sI1 (h : Nat) (r : Nat → Nat) (cs : Nat → ClassId) (u u9 : ST) (x : Int32) (e : u9 = sI u 1 x) : (W7 h r cs u).set 0 (h, .inr (7, (Ff7 r u).set 1 (.int x))) = W7 h r cs u9 := by subst e; rfl
theorem W7_sI2 (h : Nat) (r : Nat → Nat) (cs : Nat → ClassId) (u u9 : ST) (x : Int32) (e : u9 = sI u 2 x) : (W7 h r cs u).set 0 (h, .inr (7, (Ff7 r u).set 2 (.int x))) = W7 h r cs u9 := by subst e; rfl
theorem W7_self (h : Nat) (r : Nat → Nat) (cs : Nat → ClassId) : ∀ v, (W7 h r cs v).Perm ([] ++ (W7 h r cs v ++ [])) := fun v => by rw [List.append_nil, List.nil_append]

def wp_X7_become (a1 : Int32) (a2 : Int32) (a3 : Int32) (u : ST) (Q : ST → Prop) : Prop :=
  (∀ u2 : ST, u2 = sI u 0 a1 → (∀ u7 : ST, u7 = sI u2 1 a2 → (∀ u12 : ST, u12 = sI u7 2 a3 → Q u12)))
set_option maxHeartbeats 4000000 in
set_option maxRecDepth 100000 in
theorem c_X7_become (l : Launch) (D : va_G) (h : Nat) (r : Nat → Nat) (cs : Nat → ClassId) (a1 : Int32) (a2 : Int32) (a3 : Int32) (u : ST) (Q : ST → Prop) (hw : wp_X7_become a1 a2 a3 u Q) : mCv l yX7_become wsX7_become ({ frames := 0, cells := 0, slots := 0, locals := 0 } : Room) 0 0 D (mT cs) (W7 h r cs) [.ref h, .int a1, .int a2, .int a3] u Q := by
  unfold mCv
  refine m_enter (QQ := fun A => va_Qv Q (mPos D (mT cs) A (W7 h r cs)) A) (cc := cX7_become) (maxL := 4) (ret := none) (by decide) rfl (Nat.le_of_ble_eq_true rfl) ?_
  intro p e s m args below meth c A ls S hr hlocks hname hl hI
  have S : CallFix p m c cX7_become 4 s args wsX7_become RX7 := S
  show W p l e ({ frames := 0, cells := 0, slots := 0, locals := 0 } : Room) s m args below meth c s.heap [] 0 0 (MQ below (va_Qv Q (mPos D (mT cs) A (W7 h r cs)) A) args s 0 0 A) (F0 m 0 ls [])
  generalize hZ : MQ below (va_Qv Q (mPos D (mT cs) A (W7 h r cs)) A) args s 0 0 A = Z
  have hin : ∀ w ∈ wsX70, w ∈ wsX7_become := fun _ h => List.mem_cons_of_mem _ (List.mem_append_right _ h)
  have hl : lv_has ls 4 [(0, .ref h), (1, .int a1), (2, .int a2), (3, .int a3)] := hl
  unfold wp_X7_become at hw
  obtain ⟨H, hH⟩ : ∃ z : Heap, z = s.heap := ⟨_, rfl⟩
  obtain ⟨locs, hL⟩ : ∃ z : List Loc, z = [] := ⟨_, rfl⟩
  rw [show W p l e ({ frames := 0, cells := 0, slots := 0, locals := 0 } : Room) s m args below meth c s.heap [] 0 0 Z (F0 m 0 ls []) = W p l e ({ frames := 0, cells := 0, slots := 0, locals := 0 } : Room) s m args below meth c H locs 0 0 Z (F0 m 0 ls []) by rw [hH, hL]]
  replace hI : mI D (mT cs) A s.heap s (W7 h r cs u) H locs := by rw [hH, hL]; exact hI
  refine lv_aload_n S.1 S.2.1 dX7_become_0 rfl (lv_at hl 0 rfl) ?_
  refine lv_iload_n S.1 S.2.1 dX7_become_1 rfl (lv_at hl 1 rfl) ?_
  obtain ⟨u2, eu2⟩ : ∃ z : ST, z = sI u 0 a1 := ⟨_, rfl⟩
  have hw := hw u2 eu2
  refine m_put S hin tyX7_ok nmX7 hI 0 (W7_at0 h r cs u) rfl 0 (Nat.le_of_ble_eq_true rfl) (List.mem_of_getElem? (i := 1) rfl) rfl rfl rfl rfl (Nat.le_of_ble_eq_true rfl) (W7_sI0 h r cs u u2 a1 eu2) dX7_become_2 (fun H locs hI => ?_)
  refine lv_aload_n S.1 S.2.1 dX7_become_5 rfl (lv_at hl 0 rfl) ?_
  refine lv_iload_n S.1 S.2.1 dX7_become_6 rfl (lv_at hl 2 rfl) ?_
  obtain ⟨u7, eu7⟩ : ∃ z : ST, z = sI u2 1 a2 := ⟨_, rfl⟩
  have hw := hw u7 eu7
  refine m_put S hin tyX7_ok nmX7 hI 0 (W7_at0 h r cs u2) rfl 1 (Nat.le_of_ble_eq_true rfl) (List.mem_of_getElem? (i := 2) rfl) rfl rfl rfl rfl (Nat.le_of_ble_eq_true rfl) (W7_sI1 h r cs u2 u7 a2 eu7) dX7_become_7 (fun H locs hI => ?_)
  refine lv_aload_n S.1 S.2.1 dX7_become_10 rfl (lv_at hl 0 rfl) ?_
  refine lv_iload_n S.1 S.2.1 dX7_become_11 rfl (lv_at hl 3 rfl) ?_
  obtain ⟨u12, eu12⟩ : ∃ z : ST, z = sI u7 2 a3 := ⟨_, rfl⟩
  have hw := hw u12 eu12
  refine m_put S hin tyX7_ok nmX7 hI 0 (W7_at0 h r cs u7) rfl 2 (Nat.le_of_ble_eq_true rfl) (List.mem_of_getElem? (i := 3) rfl) rfl rfl rfl rfl (Nat.le_of_ble_eq_true rfl) (W7_sI2 h r cs u7 u12 a3 eu12) dX7_become_12 (fun H locs hI => ?_)
  subst hZ
  exact m_vret S hr hlocks hI hw dX7_become_15

def wp_X7_isSure_p16 (t0 : Int32) (u : ST) (Q : Int32 → ST → Prop) : Prop :=
  (t0 &&& 1 = t0 ∧ Q t0 u)
def wp_X7_isSure (u : ST) (Q : Int32 → ST → Prop) : Prop :=
  ((¬ (gI u 0) = (gI u 1) → wp_X7_isSure_p16 (0 : Int32) u Q) ∧ ((gI u 0) = (gI u 1) → wp_X7_isSure_p16 (1 : Int32) u Q))
set_option maxHeartbeats 4000000 in
set_option maxRecDepth 100000 in
theorem c_X7_isSure (l : Launch) (D : va_G) (h : Nat) (r : Nat → Nat) (cs : Nat → ClassId) (u : ST) (Q : Int32 → ST → Prop) (hw : wp_X7_isSure u Q) : mCi l yX7_isSure wsX7_isSure ({ frames := 0, cells := 0, slots := 0, locals := 0 } : Room) 0 0 D (mT cs) (W7 h r cs) [.ref h] u Q := by
  unfold mCi
  refine m_enter (QQ := fun A => va_Qi Q (mPos D (mT cs) A (W7 h r cs)) A) (cc := cX7_isSure) (maxL := 1) (ret := (some .boolean)) (by decide) rfl (Nat.le_of_ble_eq_true rfl) ?_
  intro p e s m args below meth c A ls S hr hlocks hname hl hI
  have S : CallFix p m c cX7_isSure 1 s args wsX7_isSure RX7 := S
  show W p l e ({ frames := 0, cells := 0, slots := 0, locals := 0 } : Room) s m args below meth c s.heap [] 0 0 (MQ below (va_Qi Q (mPos D (mT cs) A (W7 h r cs)) A) args s 0 0 A) (F0 m 0 ls [])
  generalize hZ : MQ below (va_Qi Q (mPos D (mT cs) A (W7 h r cs)) A) args s 0 0 A = Z
  have hin : ∀ w ∈ wsX70, w ∈ wsX7_isSure := fun _ h => List.mem_cons_of_mem _ (List.mem_append_right _ h)
  have hl : lv_has ls 1 [(0, .ref h)] := hl
  have b16 : ∀ (t0 : Int32) (u : ST), wp_X7_isSure_p16 t0 u Q → mGo p l e ({ frames := 0, cells := 0, slots := 0, locals := 0 } : Room) s m args below meth c A Z 1 D (mT cs) (W7 h r cs) 16 [(0, .ref h)] [.int t0] u := by
    intro t0 u hw H locs ls hI hl
    unfold wp_X7_isSure_p16 at hw
    subst hZ
    exact m_zret S hr hlocks hI hw.1 hw.2 dX7_isSure_16
  unfold wp_X7_isSure at hw
  obtain ⟨H, hH⟩ : ∃ z : Heap, z = s.heap := ⟨_, rfl⟩
  obtain ⟨locs, hL⟩ : ∃ z : List Loc, z = [] := ⟨_, rfl⟩
  rw [show W p l e ({ frames := 0, cells := 0, slots := 0, locals := 0 } : Room) s m args below meth c s.heap [] 0 0 Z (F0 m 0 ls []) = W p l e ({ frames := 0, cells := 0, slots := 0, locals := 0 } : Room) s m args below meth c H locs 0 0 Z (F0 m 0 ls []) by rw [hH, hL]]
  replace hI : mI D (mT cs) A s.heap s (W7 h r cs u) H locs := by rw [hH, hL]; exact hI
  refine lv_aload_n S.1 S.2.1 dX7_isSure_0 rfl (lv_at hl 0 rfl) ?_
  refine m_get S hin hI 0 (W7_at0 h r cs u) rfl 0 (Nat.le_of_ble_eq_true rfl) (List.mem_of_getElem? (i := 1) rfl) rfl (Ff7_at0 r u) dX7_isSure_1 ?_
  refine lv_aload_n S.1 S.2.1 dX7_isSure_4 rfl (lv_at hl 0 rfl) ?_
  refine m_get S hin hI 0 (W7_at0 h r cs u) rfl 1 (Nat.le_of_ble_eq_true rfl) (List.mem_of_getElem? (i := 2) rfl) rfl (Ff7_at1 r u) dX7_isSure_5 ?_
  refine lv_icmp_ne (tgt := 15) S.1 S.2.1 dX7_isSure_8 (by decide) (fun c8 => ?_) (fun c8 => ?_)
  · have hw := hw.1 c8
    refine lv_iconst (v := 0) S.1 S.2.1 dX7_isSure_15 (by decide) ?_
    exact b16 (0 : Int32) u hw H locs ls hI (lv_sub hl [0] rfl)
  · have hw := hw.2 c8
    refine lv_iconst (v := 1) S.1 S.2.1 dX7_isSure_11 (by decide) ?_
    refine lv_goto (tgt := 16) S.1 S.2.1 dX7_isSure_12 (by decide) ?_
    exact b16 (1 : Int32) u hw H locs ls hI (lv_sub hl [0] rfl)

def wp_X7_heights (u : ST) (Q : Int32 → ST → Prop) : Prop :=
  (∀ y8 : Int32, y8 = (gI u 1) - (gI u 0) → (∀ y10 : Int32, y10 = y8 + (1 : Int32) → Q y10 u))
set_option maxHeartbeats 4000000 in
set_option maxRecDepth 100000 in
theorem c_X7_heights (l : Launch) (D : va_G) (h : Nat) (r : Nat → Nat) (cs : Nat → ClassId) (u : ST) (Q : Int32 → ST → Prop) (hw : wp_X7_heights u Q) : mCi l yX7_heights wsX7_heights ({ frames := 0, cells := 0, slots := 0, locals := 0 } : Room) 0 0 D (mT cs) (W7 h r cs) [.ref h] u Q := by
  unfold mCi
  refine m_enter (QQ := fun A => va_Qi Q (mPos D (mT cs) A (W7 h r cs)) A) (cc := cX7_heights) (maxL := 1) (ret := (some .int)) (by decide) rfl (Nat.le_of_ble_eq_true rfl) ?_
  intro p e s m args below meth c A ls S hr hlocks hname hl hI
  have S : CallFix p m c cX7_heights 1 s args wsX7_heights RX7 := S
  show W p l e ({ frames := 0, cells := 0, slots := 0, locals := 0 } : Room) s m args below meth c s.heap [] 0 0 (MQ below (va_Qi Q (mPos D (mT cs) A (W7 h r cs)) A) args s 0 0 A) (F0 m 0 ls [])
  generalize hZ : MQ below (va_Qi Q (mPos D (mT cs) A (W7 h r cs)) A) args s 0 0 A = Z
  have hin : ∀ w ∈ wsX70, w ∈ wsX7_heights := fun _ h => List.mem_cons_of_mem _ (List.mem_append_right _ h)
  have hl : lv_has ls 1 [(0, .ref h)] := hl
  unfold wp_X7_heights at hw
  obtain ⟨H, hH⟩ : ∃ z : Heap, z = s.heap := ⟨_, rfl⟩
  obtain ⟨locs, hL⟩ : ∃ z : List Loc, z = [] := ⟨_, rfl⟩
  rw [show W p l e ({ frames := 0, cells := 0, slots := 0, locals := 0 } : Room) s m args below meth c s.heap [] 0 0 Z (F0 m 0 ls []) = W p l e ({ frames := 0, cells := 0, slots := 0, locals := 0 } : Room) s m args below meth c H locs 0 0 Z (F0 m 0 ls []) by rw [hH, hL]]
  replace hI : mI D (mT cs) A s.heap s (W7 h r cs u) H locs := by rw [hH, hL]; exact hI
  refine lv_aload_n S.1 S.2.1 dX7_heights_0 rfl (lv_at hl 0 rfl) ?_
  refine m_get S hin hI 0 (W7_at0 h r cs u) rfl 1 (Nat.le_of_ble_eq_true rfl) (List.mem_of_getElem? (i := 1) rfl) rfl (Ff7_at1 r u) dX7_heights_1 ?_
  refine lv_aload_n S.1 S.2.1 dX7_heights_4 rfl (lv_at hl 0 rfl) ?_
  refine m_get S hin hI 0 (W7_at0 h r cs u) rfl 0 (Nat.le_of_ble_eq_true rfl) (List.mem_of_getElem? (i := 2) rfl) rfl (Ff7_at0 r u) dX7_heights_5 ?_
  refine lv_isub S.1 S.2.1 dX7_heights_8 ?_
  refine lv_topi (fun y8 ey8 => ?_)
  have hw := hw y8 ey8
  refine lv_iconst (v := 1) S.1 S.2.1 dX7_heights_9 (by decide) ?_
  refine lv_iadd S.1 S.2.1 dX7_heights_10 ?_
  refine lv_topi (fun y10 ey10 => ?_)
  have hw := hw y10 ey10
  subst hZ
  exact m_iret S hr hlocks hI hw dX7_heights_11

def wp_X7_part_p43 (u : ST) (Q : ST → Prop) : Prop :=
  Q u
def wp_X7_part (a1 : Int32) (a2 : Int32) (u : ST) (Q : ST → Prop) : Prop :=
  ((a2 = 0 → (∀ y37 : Int32, y37 = (if (gI u 0) < a1 then a1 else (gI u 0)) → (∀ u40 : ST, u40 = sI u 0 y37 → wp_X7_part_p43 u40 Q))) ∧ (¬ a2 = 0 → (∀ y11 : Int32, y11 = a1 - (1 : Int32) → (∀ y12 : Int32, y12 = (if y11 < (gI u 1) then y11 else (gI u 1)) → (∀ u15 : ST, u15 = sI u 1 y12 → (∀ y24 : Int32, y24 = (gI u15 2) - (1 : Int32) → (∀ u25 : ST, u25 = sI u15 2 y24 → wp_X7_part_p43 u25 Q)))))))
set_option maxHeartbeats 4000000 in
set_option maxRecDepth 100000 in
theorem c_X7_part (l : Launch) (D : va_G) (h : Nat) (r : Nat → Nat) (cs : Nat → ClassId) (a1 : Int32) (a2 : Int32) (u : ST) (Q : ST → Prop) (hw : wp_X7_part a1 a2 u Q) : mCv l yX7_part wsX7_part ({ frames := 1, cells := 0, slots := 0, locals := 14 } : Room) 0 0 D (mT cs) (W7 h r cs) [.ref h, .int a1, .int a2] u Q := by
  unfold mCv
  refine m_enter (QQ := fun A => va_Qv Q (mPos D (mT cs) A (W7 h r cs)) A) (cc := cX7_part) (maxL := 3) (ret := none) (by decide) rfl (Nat.le_of_ble_eq_true rfl) ?_
  intro p e s m args below meth c A ls S hr hlocks hname hl hI
  have S : CallFix p m c cX7_part 3 s args wsX7_part RX7 := S
  show W p l e ({ frames := 1, cells := 0, slots := 0, locals := 14 } : Room) s m args below meth c s.heap [] 0 0 (MQ below (va_Qv Q (mPos D (mT cs) A (W7 h r cs)) A) args s 0 0 A) (F0 m 0 ls [])
  generalize hZ : MQ below (va_Qv Q (mPos D (mT cs) A (W7 h r cs)) A) args s 0 0 A = Z
  have hin : ∀ w ∈ wsX70, w ∈ wsX7_part := fun _ h => List.mem_cons_of_mem _ (List.mem_append_right _ h)
  have hl : lv_has ls 3 [(0, .ref h), (1, .int a1), (2, .int a2)] := hl
  have b43 : ∀ (u : ST), wp_X7_part_p43 u Q → mGo p l e ({ frames := 1, cells := 0, slots := 0, locals := 14 } : Room) s m args below meth c A Z 3 D (mT cs) (W7 h r cs) 43 [(0, .ref h)] [] u := by
    intro u hw H locs ls hI hl
    unfold wp_X7_part_p43 at hw
    subst hZ
    exact m_vret S hr hlocks hI hw dX7_part_43
  unfold wp_X7_part at hw
  obtain ⟨H, hH⟩ : ∃ z : Heap, z = s.heap := ⟨_, rfl⟩
  obtain ⟨locs, hL⟩ : ∃ z : List Loc, z = [] := ⟨_, rfl⟩
  rw [show W p l e ({ frames := 1, cells := 0, slots := 0, locals := 14 } : Room) s m args below meth c s.heap [] 0 0 Z (F0 m 0 ls []) = W p l e ({ frames := 1, cells := 0, slots := 0, locals := 14 } : Room) s m args below meth c H locs 0 0 Z (F0 m 0 ls []) by rw [hH, hL]]
  replace hI : mI D (mT cs) A s.heap s (W7 h r cs u) H locs := by rw [hH, hL]; exact hI
  refine lv_iload_n S.1 S.2.1 dX7_part_0 rfl (lv_at hl 2 rfl) ?_
  refine lv_if_eq (tgt := 31) S.1 S.2.1 dX7_part_1 (by decide) (fun c1 => ?_) (fun c1 => ?_)
  · have hw := hw.1 c1
    refine lv_aload_n S.1 S.2.1 dX7_part_31 rfl (lv_at hl 0 rfl) ?_
    refine lv_aload_n S.1 S.2.1 dX7_part_32 rfl (lv_at hl 0 rfl) ?_
    refine m_get S hin hI 0 (W7_at0 h r cs u) rfl 0 (Nat.le_of_ble_eq_true rfl) (List.mem_of_getElem? (i := 7) rfl) rfl (Ff7_at0 r u) dX7_part_33 ?_
    refine lv_iload_n S.1 S.2.1 dX7_part_36 rfl (lv_at hl 1 rfl) ?_
    refine va_mmax S.1 S.2.1 (S.2.2.1.trans hl.1.symm) S.2.2.2.1 (S.2.2.2.2 _ (List.mem_of_getElem? (i := 8) rfl)) (S.2.2.2.2 _ (List.mem_of_getElem? (i := 9) rfl)) (S.2.2.2.2 _ (List.mem_of_getElem? (i := 4) rfl)) (S.2.2.2.2 _ (List.mem_of_getElem? (i := 10) rfl)) (Nat.le_of_ble_eq_true rfl) (Nat.le_of_ble_eq_true rfl) (Nat.zero_le _) (Nat.zero_le _) dX7_part_37 ?_
    refine lv_topi (fun y37 ey37 => ?_)
    have hw := hw y37 ey37
    obtain ⟨u40, eu40⟩ : ∃ z : ST, z = sI u 0 y37 := ⟨_, rfl⟩
    have hw := hw u40 eu40
    refine m_put S hin tyX7_ok nmX7 hI 0 (W7_at0 h r cs u) rfl 0 (Nat.le_of_ble_eq_true rfl) (List.mem_of_getElem? (i := 7) rfl) rfl rfl rfl rfl (Nat.le_of_ble_eq_true rfl) (W7_sI0 h r cs u u40 y37 eu40) dX7_part_40 (fun H locs hI => ?_)
    exact b43 u40 hw H locs ls hI (lv_sub hl [0] rfl)
  · have hw := hw.2 c1
    refine lv_aload_n S.1 S.2.1 dX7_part_4 rfl (lv_at hl 0 rfl) ?_
    refine lv_aload_n S.1 S.2.1 dX7_part_5 rfl (lv_at hl 0 rfl) ?_
    refine m_get S hin hI 0 (W7_at0 h r cs u) rfl 1 (Nat.le_of_ble_eq_true rfl) (List.mem_of_getElem? (i := 1) rfl) rfl (Ff7_at1 r u) dX7_part_6 ?_
    refine lv_iload_n S.1 S.2.1 dX7_part_9 rfl (lv_at hl 1 rfl) ?_
    refine lv_iconst (v := 1) S.1 S.2.1 dX7_part_10 (by decide) ?_
    refine lv_isub S.1 S.2.1 dX7_part_11 ?_
    refine lv_topi (fun y11 ey11 => ?_)
    have hw := hw y11 ey11
    refine va_mmin S.1 S.2.1 (S.2.2.1.trans hl.1.symm) S.2.2.2.1 (S.2.2.2.2 _ (List.mem_of_getElem? (i := 2) rfl)) (S.2.2.2.2 _ (List.mem_of_getElem? (i := 3) rfl)) (S.2.2.2.2 _ (List.mem_of_getElem? (i := 4) rfl)) (S.2.2.2.2 _ (List.mem_of_getElem? (i := 5) rfl)) (Nat.le_of_ble_eq_true rfl) (Nat.le_of_ble_eq_true rfl) (Nat.zero_le _) (Nat.zero_le _) dX7_part_12 ?_
    refine lv_topi (fun y12 ey12 => ?_)
    have hw := hw y12 ey12
    obtain ⟨u15, eu15⟩ : ∃ z : ST, z = sI u 1 y12 := ⟨_, rfl⟩
    have hw := hw u15 eu15
    refine m_put S hin tyX7_ok nmX7 hI 0 (W7_at0 h r cs u) rfl 1 (Nat.le_of_ble_eq_true rfl) (List.mem_of_getElem? (i := 1) rfl) rfl rfl rfl rfl (Nat.le_of_ble_eq_true rfl) (W7_sI1 h r cs u u15 y12 eu15) dX7_part_15 (fun H locs hI => ?_)
    refine lv_aload_n S.1 S.2.1 dX7_part_18 rfl (lv_at hl 0 rfl) ?_
    refine lv_dup S.1 S.2.1 dX7_part_19 rfl ?_
    refine m_get S hin hI 0 (W7_at0 h r cs u15) rfl 2 (Nat.le_of_ble_eq_true rfl) (List.mem_of_getElem? (i := 6) rfl) rfl (Ff7_at2 r u15) dX7_part_20 ?_
    refine lv_iconst (v := 1) S.1 S.2.1 dX7_part_23 (by decide) ?_
    refine lv_isub S.1 S.2.1 dX7_part_24 ?_
    refine lv_topi (fun y24 ey24 => ?_)
    have hw := hw y24 ey24
    obtain ⟨u25, eu25⟩ : ∃ z : ST, z = sI u15 2 y24 := ⟨_, rfl⟩
    have hw := hw u25 eu25
    refine m_put S hin tyX7_ok nmX7 hI 0 (W7_at0 h r cs u15) rfl 2 (Nat.le_of_ble_eq_true rfl) (List.mem_of_getElem? (i := 6) rfl) rfl rfl rfl rfl (Nat.le_of_ble_eq_true rfl) (W7_sI2 h r cs u15 u25 y24 eu25) dX7_part_25 (fun H locs hI => ?_)
    refine lv_goto (tgt := 43) S.1 S.2.1 dX7_part_28 (by decide) ?_
    exact b43 u25 hw H locs ls hI (lv_sub hl [0] rfl)

/-- TwoJars$Ladder: what its object holds -/
def Ff2 (r : Nat → Nat) (u : ST) : List Value := [.int (gI u 0), .ref (r 1), .ref (r 2), .int (gI u 3), .int (gI u 4)]
def W2 (h : Nat) (r : Nat → Nat) (q : Nat → Nat → Nat) (cs : Nat → ClassId) (u : ST) : va_W := [(h, .inr (2, Ff2 r u)), (r 1, .inl (cs 4, 7, .inr (.inr (.inr (.inr (mrow (q 1))))))), (q 1 0, .inl (cs 0, 62, .inl (gG u 1 0))), (q 1 1, .inl (cs 0, 62, .inl (gG u 1 1))), (q 1 2, .inl (cs 0, 62, .inl (gG u 1 2))), (q 1 3, .inl (cs 0, 62, .inl (gG u 1 3))), (q 1 4, .inl (cs 0, 62, .inl (gG u 1 4))), (q 1 5, .inl (cs 0, 62, .inl (gG u 1 5))), (q 1 6, .inl (cs 0, 62, .inl (gG u 1 6))), (r 2, .inl (cs 4, 7, .inr (.inr (.inr (.inr (mrow (q 2))))))), (q 2 0, .inl (cs 0, 62, .inl (gG u 2 0))), (q 2 1, .inl (cs 0, 62, .inl (gG u 2 1))), (q 2 2, .inl (cs 0, 62, .inl (gG u 2 2))), (q 2 3, .inl (cs 0, 62, .inl (gG u 2 3))), (q 2 4, .inl (cs 0, 62, .inl (gG u 2 4))), (q 2 5, .inl (cs 0, 62, .inl (gG u 2 5))), (q 2 6, .inl (cs 0, 62, .inl (gG u 2 6)))]
theorem W2_at0 (h : Nat) (r : Nat → Nat) (q : Nat → Nat → Nat) (cs : Nat → ClassId) (u : ST) : (W2 h r q cs u)[0]? = some (h, .inr (2, Ff2 r u)) := rfl
theorem Ff2_at0 (r : Nat → Nat) (u : ST) : (Ff2 r u)[0]? = some (.int (gI u 0)) := rfl
theorem Ff2_at1 (r : Nat → Nat) (u : ST) : (Ff2 r u)[1]? = some (.ref (r 1)) := rfl
theorem Ff2_at2 (r : Nat → Nat) (u : ST) : (Ff2 r u)[2]? = some (.ref (r 2)) := rfl
theorem Ff2_at3 (r : Nat → Nat) (u : ST) : (Ff2 r u)[3]? = some (.int (gI u 3)) := rfl
theorem Ff2_at4 (r : Nat → Nat) (u : ST) : (Ff2 r u)[4]? = some (.int (gI u 4)) := rfl
theorem W2_sI0 (h : Nat) (r : Nat → Nat) (q : Nat → Nat → Nat) (cs : Nat → ClassId) (u u9 : ST) (x : Int32) (e : u9 = sI u 0 x) : (W2 h r q cs u).set 0 (h, .inr (2, (Ff2 r u).set 0 (.int x))) = W2 h r q cs u9 := by subst e; rfl
theorem W2_sI3 (h : Nat) (r : Nat → Nat) (q : Nat → Nat → Nat) (cs : Nat → ClassId) (u u9 : ST) (x : Int32) (e : u9 = sI u 3 x) : (W2 h r q cs u).set 0 (h, .inr (2, (Ff2 r u).set 3 (.int x))) = W2 h r q cs u9 := by subst e; rfl
theorem W2_sI4 (h : Nat) (r : Nat → Nat) (q : Nat → Nat → Nat) (cs : Nat → ClassId) (u u9 : ST) (x : Int32) (e : u9 = sI u 4 x) : (W2 h r q cs u).set 0 (h, .inr (2, (Ff2 r u).set 4 (.int x))) = W2 h r q cs u9 := by subst e; rfl
theorem W2_go1 (h : Nat) (r : Nat → Nat) (q : Nat → Nat → Nat) (cs : Nat → ClassId) (u : ST) : (W2 h r q cs u)[1]? = some (r 1, .inl (cs 4, 7, .inr (.inr (.inr (.inr (mrow (q 1))))))) := rfl
theorem W2_gr1 (h : Nat) (r : Nat → Nat) (q : Nat → Nat → Nat) (cs : Nat → ClassId) (u : ST) {j : Nat} (hj : j < 7) : (W2 h r q cs u)[2 + j]? = some (q 1 j, .inl (cs 0, 62, .inl (gG u 1 j))) := by
  match j, hj with
  | 0, _ => rfl
  | 1, _ => rfl
  | 2, _ => rfl
  | 3, _ => rfl
  | 4, _ => rfl
  | 5, _ => rfl
  | 6, _ => rfl
theorem W2_sG1 (h : Nat) (r : Nat → Nat) (q : Nat → Nat → Nat) (cs : Nat → ClassId) (u u9 : ST) {j : Nat} (hj : j < 7) (f : Nat → Int32) (e : u9 = sG u 1 (mu (gG u 1) j f)) : (W2 h r q cs u).set (2 + j) (q 1 j, .inl (cs 0, 62, .inl f)) = W2 h r q cs u9 := by
  subst e
  match j, hj with
  | 0, _ => rfl
  | 1, _ => rfl
  | 2, _ => rfl
  | 3, _ => rfl
  | 4, _ => rfl
  | 5, _ => rfl
  | 6, _ => rfl
theorem W2_go2 (h : Nat) (r : Nat → Nat) (q : Nat → Nat → Nat) (cs : Nat → ClassId) (u : ST) : (W2 h r q cs u)[9]? = some (r 2, .inl (cs 4, 7, .inr (.inr (.inr (.inr (mrow (q 2))))))) := rfl
theorem W2_gr2 (h : Nat) (r : Nat → Nat) (q : Nat → Nat → Nat) (cs : Nat → ClassId) (u : ST) {j : Nat} (hj : j < 7) : (W2 h r q cs u)[10 + j]? = some (q 2 j, .inl (cs 0, 62, .inl (gG u 2 j))) := by
  match j, hj with
  | 0, _ => rfl
  | 1, _ => rfl
  | 2, _ => rfl
  | 3, _ => rfl
  | 4, _ => rfl
  | 5, _ => rfl
  | 6, _ => rfl
theorem W2_sG2 (h : Nat) (r : Nat → Nat) (q : Nat → Nat → Nat) (cs : Nat → ClassId) (u u9 : ST) {j : Nat} (hj : j < 7) (f : Nat → Int32) (e : u9 = sG u 2 (mu (gG u 2) j f)) : (W2 h r q cs u).set (10 + j) (q 2 j, .inl (cs 0, 62, .inl f)) = W2 h r q cs u9 := by
  subst e
  match j, hj with
  | 0, _ => rfl
  | 1, _ => rfl
  | 2, _ => rfl
  | 3, _ => rfl
  | 4, _ => rfl
  | 5, _ => rfl
  | 6, _ => rfl
theorem W2_self (h : Nat) (r : Nat → Nat) (q : Nat → Nat → Nat) (cs : Nat → ClassId) : ∀ v, (W2 h r q cs v).Perm ([] ++ (W2 h r q cs v ++ [])) := fun v => by rw [List.append_nil, List.nil_append]

def wp_X2_isThere_p26 (t0 : Int32) (Q : Int32 → Prop) : Prop :=
  t0 &&& 1 = t0 ∧ Q t0
def wp_X2_isThere_p25 (Q : Int32 → Prop) : Prop :=
  wp_X2_isThere_p26 (0 : Int32) Q
def wp_X2_isThere (a0 : Int32) (a1 : Int32) (Q : Int32 → Prop) : Prop :=
  ((a0 < 0 → wp_X2_isThere_p25 Q) ∧ (¬ a0 < 0 → (((6 : Int32) < a0 → wp_X2_isThere_p25 Q) ∧ (¬ (6 : Int32) < a0 → ((a1 < (1 : Int32) → wp_X2_isThere_p25 Q) ∧ (¬ a1 < (1 : Int32) → (((61 : Int32) < a1 → wp_X2_isThere_p25 Q) ∧ (¬ (61 : Int32) < a1 → wp_X2_isThere_p26 (1 : Int32) Q))))))))
set_option maxHeartbeats 4000000 in
set_option maxRecDepth 100000 in
theorem c_X2_isThere (l : Launch) (a0 : Int32) (a1 : Int32) (Q : Int32 → Prop) (hw : wp_X2_isThere a0 a1 Q) : mTi l yX2_isThere wsX2_isThere ({ frames := 0, cells := 0, slots := 0, locals := 0 } : Room) [.int a0, .int a1] Q := by
  refine m_enterT (cc := cX2_isThere) (maxL := 2) (ret := (some .boolean)) (by decide) rfl (Nat.le_of_ble_eq_true rfl) ?_
  intro p e s m args below meth c ls S hr hlocks hname hl hN
  have S : CallFix p m c cX2_isThere 2 s args wsX2_isThere RX2 := S
  generalize hZ : MQ below (vp_Si Q) args s 0 0 (fun _ => False) = Z
  have hl : lv_has ls 2 [(0, .int a0), (1, .int a1)] := hl
  have b26 : ∀ (t0 : Int32), wp_X2_isThere_p26 t0 Q → mGt p l e ({ frames := 0, cells := 0, slots := 0, locals := 0 } : Room) s m args below meth c Z 2 26 [] [.int t0] := by
    intro t0 hw ls hl
    unfold wp_X2_isThere_p26 at hw
    subst hZ
    exact m_tzret S hr hlocks hw.1 hw.2 dX2_isThere_26
  have b25 : wp_X2_isThere_p25 Q → mGt p l e ({ frames := 0, cells := 0, slots := 0, locals := 0 } : Room) s m args below meth c Z 2 25 [] [] := by
    intro hw ls hl
    unfold wp_X2_isThere_p25 at hw
    refine lv_iconst (v := 0) S.1 S.2.1 dX2_isThere_25 (by decide) ?_
    exact b26 (0 : Int32) hw ls (lv_sub hl [] rfl)
  unfold wp_X2_isThere at hw
  refine lv_iload_n S.1 S.2.1 dX2_isThere_0 rfl (lv_at hl 0 rfl) ?_
  refine lv_if_lt (tgt := 25) S.1 S.2.1 dX2_isThere_1 (by decide) (fun c1 => ?_) (fun c1 => ?_)
  · have hw := hw.1 c1
    exact b25 hw ls (lv_sub hl [] rfl)
  · have hw := hw.2 c1
    refine lv_iload_n S.1 S.2.1 dX2_isThere_4 rfl (lv_at hl 0 rfl) ?_
    refine lv_bipush (v := 6) S.1 S.2.1 dX2_isThere_5 (by decide) ?_
    refine lv_icmp_gt (tgt := 25) S.1 S.2.1 dX2_isThere_7 (by decide) (fun c7 => ?_) (fun c7 => ?_)
    · have hw := hw.1 c7
      exact b25 hw ls (lv_sub hl [] rfl)
    · have hw := hw.2 c7
      refine lv_iload_n S.1 S.2.1 dX2_isThere_10 rfl (lv_at hl 1 rfl) ?_
      refine lv_iconst (v := 1) S.1 S.2.1 dX2_isThere_11 (by decide) ?_
      refine lv_icmp_lt (tgt := 25) S.1 S.2.1 dX2_isThere_12 (by decide) (fun c12 => ?_) (fun c12 => ?_)
      · have hw := hw.1 c12
        exact b25 hw ls (lv_sub hl [] rfl)
      · have hw := hw.2 c12
        refine lv_iload_n S.1 S.2.1 dX2_isThere_15 rfl (lv_at hl 1 rfl) ?_
        refine lv_bipush (v := 61) S.1 S.2.1 dX2_isThere_16 (by decide) ?_
        refine lv_icmp_gt (tgt := 25) S.1 S.2.1 dX2_isThere_18 (by decide) (fun c18 => ?_) (fun c18 => ?_)
        · have hw := hw.1 c18
          exact b25 hw ls (lv_sub hl [] rfl)
        · have hw := hw.2 c18
          refine lv_iconst (v := 1) S.1 S.2.1 dX2_isThere_21 (by decide) ?_
          refine lv_goto (tgt := 26) S.1 S.2.1 dX2_isThere_22 (by decide) ?_
          exact b26 (1 : Int32) hw ls (lv_sub hl [] rfl)

def wp_X2_after_p22 (u : ST) (Q : Int32 → ST → Prop) : Prop :=
  Q (268435456 : Int32) u
def wp_X2_after_p63 (u : ST) (Q : Int32 → ST → Prop) : Prop :=
  Q (268435456 : Int32) u
def wp_X2_after_p100 (t0 : Int32) (u : ST) (Q : Int32 → ST → Prop) : Prop :=
  Q t0 u
def wp_X2_after (a1 : Int32) (a2 : Int32) (a3 : Int32) (u : ST) (Q : Int32 → ST → Prop) : Prop :=
  (wp_X2_isThere a1 a2 (fun y2 => ((y2 = 0 → wp_X2_after_p22 u Q) ∧ (¬ y2 = 0 → ((a1 = 0 → wp_X2_after_p22 u Q) ∧ (¬ a1 = 0 → ((a3 < (1 : Int32) → wp_X2_after_p22 u Q) ∧ (¬ a3 < (1 : Int32) → ((a3 < a2 → (∀ y31 : Int32, y31 = a1 - (1 : Int32) → (vp_in y31 7 ∧ (vp_in a3 62 ∧ ∀ y34 : Int32, y34 = gG u 1 y31.toNatClampNeg a3.toNatClampNeg → (vp_in a1 7 ∧ (∀ y45 : Int32, y45 = a2 - a3 → (vp_in y45 62 ∧ ∀ y46 : Int32, y46 = gG u 1 a1.toNatClampNeg y45.toNatClampNeg → (((268435456 : Int32) ≤ y34 → wp_X2_after_p63 u Q) ∧ (¬ (268435456 : Int32) ≤ y34 → ((y46 < (268435456 : Int32) → (((gI u 0) = 0 → (∀ y93 : Int32, y93 = (gI u 4) + y34 → (∀ y96 : Int32, y96 = (if y93 < y46 then y46 else y93) → (∀ y99 : Int32, y99 = (gI u 3) + y96 → wp_X2_after_p100 y99 u Q)))) ∧ (¬ (gI u 0) = 0 → (∀ y76 : Int32, y76 = a2 + y34 → (∀ y79 : Int32, y79 = y76 + y46 → wp_X2_after_p100 y79 u Q))))) ∧ (¬ y46 < (268435456 : Int32) → wp_X2_after_p63 u Q))))))))))) ∧ (¬ a3 < a2 → wp_X2_after_p22 u Q))))))))))
set_option maxHeartbeats 4000000 in
set_option maxRecDepth 100000 in
theorem c_X2_after (l : Launch) (D : va_G) (h : Nat) (r : Nat → Nat) (q : Nat → Nat → Nat) (cs : Nat → ClassId) (a1 : Int32) (a2 : Int32) (a3 : Int32) (u : ST) (Q : Int32 → ST → Prop) (hw : wp_X2_after a1 a2 a3 u Q) : mCi l yX2_after wsX2_after ({ frames := 1, cells := 0, slots := 0, locals := 21 } : Room) 0 0 D (mT cs) (W2 h r q cs) [.ref h, .int a1, .int a2, .int a3] u Q := by
  unfold mCi
  refine m_enter (QQ := fun A => va_Qi Q (mPos D (mT cs) A (W2 h r q cs)) A) (cc := cX2_after) (maxL := 6) (ret := (some .int)) (by decide) rfl (Nat.le_of_ble_eq_true rfl) ?_
  intro p e s m args below meth c A ls S hr hlocks hname hl hI
  have S : CallFix p m c cX2_after 6 s args wsX2_after RX2 := S
  show W p l e ({ frames := 1, cells := 0, slots := 0, locals := 21 } : Room) s m args below meth c s.heap [] 0 0 (MQ below (va_Qi Q (mPos D (mT cs) A (W2 h r q cs)) A) args s 0 0 A) (F0 m 0 ls [])
  generalize hZ : MQ below (va_Qi Q (mPos D (mT cs) A (W2 h r q cs)) A) args s 0 0 A = Z
  have hin : ∀ w ∈ wsX20, w ∈ wsX2_after := fun _ h => List.mem_cons_of_mem _ (List.mem_append_right _ h)
  have hl : lv_has ls 6 [(0, .ref h), (1, .int a1), (2, .int a2), (3, .int a3)] := hl
  have b22 : ∀ (u : ST), wp_X2_after_p22 u Q → mGo p l e ({ frames := 1, cells := 0, slots := 0, locals := 21 } : Room) s m args below meth c A Z 6 D (mT cs) (W2 h r q cs) 22 [(0, .ref h)] [] u := by
    intro u hw H locs ls hI hl
    unfold wp_X2_after_p22 at hw
    refine lv_ldc S.1 S.2.1 S.2.2.2.1 (S.2.2.2.2 _ (List.mem_of_getElem? (i := 1) rfl)) dX2_after_22 ?_
    subst hZ
    exact m_iret S hr hlocks hI hw dX2_after_24
  have b63 : ∀ (u : ST), wp_X2_after_p63 u Q → mGo p l e ({ frames := 1, cells := 0, slots := 0, locals := 21 } : Room) s m args below meth c A Z 6 D (mT cs) (W2 h r q cs) 63 [(0, .ref h)] [] u := by
    intro u hw H locs ls hI hl
    unfold wp_X2_after_p63 at hw
    refine lv_ldc S.1 S.2.1 S.2.2.2.1 (S.2.2.2.2 _ (List.mem_of_getElem? (i := 1) rfl)) dX2_after_63 ?_
    subst hZ
    exact m_iret S hr hlocks hI hw dX2_after_65
  have b100 : ∀ (t0 : Int32) (u : ST), wp_X2_after_p100 t0 u Q → mGo p l e ({ frames := 1, cells := 0, slots := 0, locals := 21 } : Room) s m args below meth c A Z 6 D (mT cs) (W2 h r q cs) 100 [(0, .ref h)] [.int t0] u := by
    intro t0 u hw H locs ls hI hl
    unfold wp_X2_after_p100 at hw
    subst hZ
    exact m_iret S hr hlocks hI hw dX2_after_100
  unfold wp_X2_after at hw
  obtain ⟨H, hH⟩ : ∃ z : Heap, z = s.heap := ⟨_, rfl⟩
  obtain ⟨locs, hL⟩ : ∃ z : List Loc, z = [] := ⟨_, rfl⟩
  rw [show W p l e ({ frames := 1, cells := 0, slots := 0, locals := 21 } : Room) s m args below meth c s.heap [] 0 0 Z (F0 m 0 ls []) = W p l e ({ frames := 1, cells := 0, slots := 0, locals := 21 } : Room) s m args below meth c H locs 0 0 Z (F0 m 0 ls []) by rw [hH, hL]]
  replace hI : mI D (mT cs) A s.heap s (W2 h r q cs u) H locs := by rw [hH, hL]; exact hI
  refine lv_iload_n S.1 S.2.1 dX2_after_0 rfl (lv_at hl 1 rfl) ?_
  refine lv_iload_n S.1 S.2.1 dX2_after_1 rfl (lv_at hl 2 rfl) ?_
  refine m_si (As := [.int a1, .int a2]) (rest := []) S hI.2.2.2.1.2.1 (c_X2_isThere l a1 a2 _ hw) (va_cwS 2 S.2.2.2.2 gX2_after_X2_isThere rfl rfl rfl (by decide +kernel) ⟨Nat.le_of_ble_eq_true rfl, Nat.le_of_ble_eq_true rfl⟩) rfl hl.1 rfl (Nat.le_of_ble_eq_true rfl) dX2_after_2 ⟨Nat.zero_le _, Nat.zero_le _⟩ (fun y2 hw => ?_)
  refine lv_if_eq (tgt := 22) S.1 S.2.1 dX2_after_5 (by decide) (fun c5 => ?_) (fun c5 => ?_)
  · have hw := hw.1 c5
    exact b22 u hw H locs ls hI (lv_sub hl [0] rfl)
  · have hw := hw.2 c5
    refine lv_iload_n S.1 S.2.1 dX2_after_8 rfl (lv_at hl 1 rfl) ?_
    refine lv_if_eq (tgt := 22) S.1 S.2.1 dX2_after_9 (by decide) (fun c9 => ?_) (fun c9 => ?_)
    · have hw := hw.1 c9
      exact b22 u hw H locs ls hI (lv_sub hl [0] rfl)
    · have hw := hw.2 c9
      refine lv_iload_n S.1 S.2.1 dX2_after_12 rfl (lv_at hl 3 rfl) ?_
      refine lv_iconst (v := 1) S.1 S.2.1 dX2_after_13 (by decide) ?_
      refine lv_icmp_lt (tgt := 22) S.1 S.2.1 dX2_after_14 (by decide) (fun c14 => ?_) (fun c14 => ?_)
      · have hw := hw.1 c14
        exact b22 u hw H locs ls hI (lv_sub hl [0] rfl)
      · have hw := hw.2 c14
        refine lv_iload_n S.1 S.2.1 dX2_after_17 rfl (lv_at hl 3 rfl) ?_
        refine lv_iload_n S.1 S.2.1 dX2_after_18 rfl (lv_at hl 2 rfl) ?_
        refine lv_icmp_lt (tgt := 25) S.1 S.2.1 dX2_after_19 (by decide) (fun c19 => ?_) (fun c19 => ?_)
        · have hw := hw.1 c19
          refine lv_aload_n S.1 S.2.1 dX2_after_25 rfl (lv_at hl 0 rfl) ?_
          refine m_get S hin hI 0 (W2_at0 h r q cs u) rfl 1 (Nat.le_of_ble_eq_true rfl) (List.mem_of_getElem? (i := 2) rfl) rfl (Ff2_at1 r u) dX2_after_26 ?_
          refine lv_iload_n S.1 S.2.1 dX2_after_29 rfl (lv_at hl 1 rfl) ?_
          refine lv_iconst (v := 1) S.1 S.2.1 dX2_after_30 (by decide) ?_
          refine lv_isub S.1 S.2.1 dX2_after_31 ?_
          refine lv_topi (fun y31 ey31 => ?_)
          have hw := hw y31 ey31
          have hj32 := mlt hw.1
          refine m_aald S hI 1 4 (W2_go1 h r q cs u) rfl hw.1 dX2_after_32 ?_
          have hw := hw.2
          refine lv_iload_n S.1 S.2.1 dX2_after_33 rfl (lv_at hl 3 rfl) ?_
          refine m_iald S hI (2 + y31.toNatClampNeg) 0 (W2_gr1 h r q cs u hj32) rfl hw.1 dX2_after_34 ?_
          refine lv_topi (fun y34 ey34 => ?_)
          have hw := hw.2 y34 ey34
          refine lv_istore (lv' := [(4, .int y34), (0, .ref h), (1, .int a1), (2, .int a2), (3, .int a3)]) S.1 S.2.1 dX2_after_35 hl (by decide) rfl (fun ls hl => ?_)
          refine lv_aload_n S.1 S.2.1 dX2_after_37 rfl (lv_at hl 1 rfl) ?_
          refine m_get S hin hI 0 (W2_at0 h r q cs u) rfl 1 (Nat.le_of_ble_eq_true rfl) (List.mem_of_getElem? (i := 2) rfl) rfl (Ff2_at1 r u) dX2_after_38 ?_
          refine lv_iload_n S.1 S.2.1 dX2_after_41 rfl (lv_at hl 2 rfl) ?_
          have hj42 := mlt hw.1
          refine m_aald S hI 1 4 (W2_go1 h r q cs u) rfl hw.1 dX2_after_42 ?_
          have hw := hw.2
          refine lv_iload_n S.1 S.2.1 dX2_after_43 rfl (lv_at hl 3 rfl) ?_
          refine lv_iload_n S.1 S.2.1 dX2_after_44 rfl (lv_at hl 4 rfl) ?_
          refine lv_isub S.1 S.2.1 dX2_after_45 ?_
          refine lv_topi (fun y45 ey45 => ?_)
          have hw := hw y45 ey45
          refine m_iald S hI (2 + a1.toNatClampNeg) 0 (W2_gr1 h r q cs u hj42) rfl hw.1 dX2_after_46 ?_
          refine lv_topi (fun y46 ey46 => ?_)
          have hw := hw.2 y46 ey46
          refine lv_istore (lv' := [(5, .int y46), (4, .int y34), (0, .ref h), (1, .int a1), (2, .int a2), (3, .int a3)]) S.1 S.2.1 dX2_after_47 hl (by decide) rfl (fun ls hl => ?_)
          refine lv_iload S.1 S.2.1 dX2_after_49 (lv_at hl 1 rfl) ?_
          refine lv_ldc S.1 S.2.1 S.2.2.2.1 (S.2.2.2.2 _ (List.mem_of_getElem? (i := 1) rfl)) dX2_after_51 ?_
          refine lv_icmp_ge (tgt := 63) S.1 S.2.1 dX2_after_53 (by decide) (fun c53 => ?_) (fun c53 => ?_)
          · have hw := hw.1 c53
            exact b63 u hw H locs ls hI (lv_sub hl [2] rfl)
          · have hw := hw.2 c53
            refine lv_iload S.1 S.2.1 dX2_after_56 (lv_at hl 0 rfl) ?_
            refine lv_ldc S.1 S.2.1 S.2.2.2.1 (S.2.2.2.2 _ (List.mem_of_getElem? (i := 1) rfl)) dX2_after_58 ?_
            refine lv_icmp_lt (tgt := 66) S.1 S.2.1 dX2_after_60 (by decide) (fun c60 => ?_) (fun c60 => ?_)
            · have hw := hw.1 c60
              refine lv_aload_n S.1 S.2.1 dX2_after_66 rfl (lv_at hl 2 rfl) ?_
              refine m_get S hin hI 0 (W2_at0 h r q cs u) rfl 0 (Nat.le_of_ble_eq_true rfl) (List.mem_of_getElem? (i := 3) rfl) rfl (Ff2_at0 r u) dX2_after_67 ?_
              refine lv_if_eq (tgt := 83) S.1 S.2.1 dX2_after_70 (by decide) (fun c70 => ?_) (fun c70 => ?_)
              · have hw := hw.1 c70
                refine lv_aload_n S.1 S.2.1 dX2_after_83 rfl (lv_at hl 2 rfl) ?_
                refine m_get S hin hI 0 (W2_at0 h r q cs u) rfl 3 (Nat.le_of_ble_eq_true rfl) (List.mem_of_getElem? (i := 4) rfl) rfl (Ff2_at3 r u) dX2_after_84 ?_
                refine lv_aload_n S.1 S.2.1 dX2_after_87 rfl (lv_at hl 2 rfl) ?_
                refine m_get S hin hI 0 (W2_at0 h r q cs u) rfl 4 (Nat.le_of_ble_eq_true rfl) (List.mem_of_getElem? (i := 5) rfl) rfl (Ff2_at4 r u) dX2_after_88 ?_
                refine lv_iload S.1 S.2.1 dX2_after_91 (lv_at hl 1 rfl) ?_
                refine lv_iadd S.1 S.2.1 dX2_after_93 ?_
                refine lv_topi (fun y93 ey93 => ?_)
                have hw := hw y93 ey93
                refine lv_iload S.1 S.2.1 dX2_after_94 (lv_at hl 0 rfl) ?_
                refine va_mmax S.1 S.2.1 (S.2.2.1.trans hl.1.symm) S.2.2.2.1 (S.2.2.2.2 _ (List.mem_of_getElem? (i := 6) rfl)) (S.2.2.2.2 _ (List.mem_of_getElem? (i := 7) rfl)) (S.2.2.2.2 _ (List.mem_of_getElem? (i := 8) rfl)) (S.2.2.2.2 _ (List.mem_of_getElem? (i := 9) rfl)) (Nat.le_of_ble_eq_true rfl) (Nat.le_of_ble_eq_true rfl) (Nat.zero_le _) (Nat.zero_le _) dX2_after_96 ?_
                refine lv_topi (fun y96 ey96 => ?_)
                have hw := hw y96 ey96
                refine lv_iadd S.1 S.2.1 dX2_after_99 ?_
                refine lv_topi (fun y99 ey99 => ?_)
                have hw := hw y99 ey99
                exact b100 y99 u hw H locs ls hI (lv_sub hl [2] rfl)
              · have hw := hw.2 c70
                refine lv_iload_n S.1 S.2.1 dX2_after_73 rfl (lv_at hl 4 rfl) ?_
                refine lv_iload S.1 S.2.1 dX2_after_74 (lv_at hl 1 rfl) ?_
                refine lv_iadd S.1 S.2.1 dX2_after_76 ?_
                refine lv_topi (fun y76 ey76 => ?_)
                have hw := hw y76 ey76
                refine lv_iload S.1 S.2.1 dX2_after_77 (lv_at hl 0 rfl) ?_
                refine lv_iadd S.1 S.2.1 dX2_after_79 ?_
                refine lv_topi (fun y79 ey79 => ?_)
                have hw := hw y79 ey79
                refine lv_goto (tgt := 100) S.1 S.2.1 dX2_after_80 (by decide) ?_
                exact b100 y79 u hw H locs ls hI (lv_sub hl [2] rfl)
            · have hw := hw.2 c60
              exact b63 u hw H locs ls hI (lv_sub hl [2] rfl)
        · have hw := hw.2 c19
          exact b22 u hw H locs ls hI (lv_sub hl [0] rfl)

def wp_X2_fill_p47 (x1 : Int32) (x2 : Int32) (x3 : Int32) (x4 : Int32) (x5 : Int32) (u : ST) (B18 : Int32 → Int32 → Int32 → Int32 → Int32 → ST → Prop) (Q : ST → Prop) : Prop :=
  (∀ y47 : Int32, y47 = x5 + 1 → B18 x1 x2 x3 x4 y47 u)
def wp_X2_fill_p18b (x1 : Int32) (x2 : Int32) (x3 : Int32) (x4 : Int32) (x5 : Int32) (u : ST) (B18 : Int32 → Int32 → Int32 → Int32 → Int32 → ST → Prop) (Q : ST → Prop) : Prop :=
  ((x2 ≤ x5 → (vp_in x1 7 ∧ (vp_in x2 62 ∧ ∀ u61 : ST, u61 = sG u 1 (mu (gG u 1) x1.toNatClampNeg (upd (gG u 1 x1.toNatClampNeg) x2.toNatClampNeg x3)) → (vp_in x1 7 ∧ (vp_in x2 62 ∧ ∀ u71 : ST, u71 = sG u61 2 (mu (gG u61 2) x1.toNatClampNeg (upd (gG u61 2 x1.toNatClampNeg) x2.toNatClampNeg x4)) → Q u71))))) ∧ (¬ x2 ≤ x5 → (wp_X2_after x1 x2 x5 u (fun y29 u29 => ((x3 ≤ y29 → wp_X2_fill_p47 x1 x2 x3 x4 x5 u29 B18 Q) ∧ (¬ x3 ≤ y29 → wp_X2_fill_p47 x1 x2 y29 x5 x5 u29 B18 Q))))))
def wp_X2_fill_p18 (x1 : Int32) (x2 : Int32) (x3 : Int32) (x4 : Int32) (x5 : Int32) (u : ST) (Q : ST → Prop) : Prop := ∃ (I : Int32 → Int32 → Int32 → Int32 → Int32 → ST → Prop) (μ : Int32 → Int32 → Int32 → Int32 → Int32 → ST → Nat), I x1 x2 x3 x4 x5 u ∧ ∀ (x1 : Int32) (x2 : Int32) (x3 : Int32) (x4 : Int32) (x5 : Int32) (u : ST), I x1 x2 x3 x4 x5 u → wp_X2_fill_p18b x1 x2 x3 x4 x5 u (fun yx1 yx2 yx3 yx4 yx5 yu => I yx1 yx2 yx3 yx4 yx5 yu ∧ μ yx1 yx2 yx3 yx4 yx5 yu < μ x1 x2 x3 x4 x5 u) Q
def wp_X2_fill_p11 (x1 : Int32) (x2 : Int32) (t0 : Int32) (u : ST) (Q : ST → Prop) : Prop :=
  wp_X2_fill_p18 x1 x2 t0 (0 : Int32) (1 : Int32) u Q
def wp_X2_fill (a1 : Int32) (a2 : Int32) (u : ST) (Q : ST → Prop) : Prop :=
  ((¬ a2 = (1 : Int32) → wp_X2_fill_p11 a1 a2 (268435456 : Int32) u Q) ∧ (a2 = (1 : Int32) → wp_X2_fill_p11 a1 a2 (0 : Int32) u Q))
set_option maxHeartbeats 4000000 in
set_option maxRecDepth 100000 in
theorem c_X2_fill (l : Launch) (D : va_G) (h : Nat) (r : Nat → Nat) (q : Nat → Nat → Nat) (cs : Nat → ClassId) (a1 : Int32) (a2 : Int32) (u : ST) (Q : ST → Prop) (hw : wp_X2_fill a1 a2 u Q) : mCv l yX2_fill wsX2_fill ({ frames := 2, cells := 0, slots := 0, locals := 46 } : Room) 0 0 D (mT cs) (W2 h r q cs) [.ref h, .int a1, .int a2] u Q := by
  unfold mCv
  refine m_enter (QQ := fun A => va_Qv Q (mPos D (mT cs) A (W2 h r q cs)) A) (cc := cX2_fill) (maxL := 7) (ret := none) (by decide) rfl (Nat.le_of_ble_eq_true rfl) ?_
  intro p e s m args below meth c A ls S hr hlocks hname hl hI
  have S : CallFix p m c cX2_fill 7 s args wsX2_fill RX2 := S
  show W p l e ({ frames := 2, cells := 0, slots := 0, locals := 46 } : Room) s m args below meth c s.heap [] 0 0 (MQ below (va_Qv Q (mPos D (mT cs) A (W2 h r q cs)) A) args s 0 0 A) (F0 m 0 ls [])
  generalize hZ : MQ below (va_Qv Q (mPos D (mT cs) A (W2 h r q cs)) A) args s 0 0 A = Z
  have hin : ∀ w ∈ wsX20, w ∈ wsX2_fill := fun _ h => List.mem_cons_of_mem _ (List.mem_append_right _ h)
  have hl : lv_has ls 7 [(0, .ref h), (1, .int a1), (2, .int a2)] := hl
  have b47 : ∀ (B18 : Int32 → Int32 → Int32 → Int32 → Int32 → ST → Prop), (∀ (x1 : Int32) (x2 : Int32) (x3 : Int32) (x4 : Int32) (x5 : Int32) (u : ST), B18 x1 x2 x3 x4 x5 u → mGo p l e ({ frames := 2, cells := 0, slots := 0, locals := 46 } : Room) s m args below meth c A Z 7 D (mT cs) (W2 h r q cs) 18 [(0, .ref h), (1, .int x1), (2, .int x2), (3, .int x3), (4, .int x4), (5, .int x5)] [] u) → ∀ (x1 : Int32) (x2 : Int32) (x3 : Int32) (x4 : Int32) (x5 : Int32) (u : ST), wp_X2_fill_p47 x1 x2 x3 x4 x5 u B18 Q → mGo p l e ({ frames := 2, cells := 0, slots := 0, locals := 46 } : Room) s m args below meth c A Z 7 D (mT cs) (W2 h r q cs) 47 [(0, .ref h), (1, .int x1), (2, .int x2), (3, .int x3), (4, .int x4), (5, .int x5)] [] u := by
    intro B18 hB18 x1 x2 x3 x4 x5 u hw H locs ls hI hl
    unfold wp_X2_fill_p47 at hw
    obtain ⟨y47, ey47⟩ : ∃ z : Int32, z = x5 + 1 := ⟨_, rfl⟩
    have hw := hw y47 ey47
    refine lv_iinc (v := y47) (lv' := [(5, .int y47), (0, .ref h), (1, .int x1), (2, .int x2), (3, .int x3), (4, .int x4)]) S.1 S.2.1 dX2_fill_47 hl (k := 5) rfl (by rw [ey47]; rfl) (by decide) rfl (fun ls hl => ?_)
    refine lv_goto (tgt := 18) S.1 S.2.1 dX2_fill_50 (by decide) ?_
    exact hB18 x1 x2 x3 x4 y47 u hw H locs ls hI (lv_sub hl [1, 2, 3, 4, 5, 0] rfl)
  have b18b : ∀ (B18 : Int32 → Int32 → Int32 → Int32 → Int32 → ST → Prop), (∀ (x1 : Int32) (x2 : Int32) (x3 : Int32) (x4 : Int32) (x5 : Int32) (u : ST), B18 x1 x2 x3 x4 x5 u → mGo p l e ({ frames := 2, cells := 0, slots := 0, locals := 46 } : Room) s m args below meth c A Z 7 D (mT cs) (W2 h r q cs) 18 [(0, .ref h), (1, .int x1), (2, .int x2), (3, .int x3), (4, .int x4), (5, .int x5)] [] u) → ∀ (x1 : Int32) (x2 : Int32) (x3 : Int32) (x4 : Int32) (x5 : Int32) (u : ST), wp_X2_fill_p18b x1 x2 x3 x4 x5 u B18 Q → mGo p l e ({ frames := 2, cells := 0, slots := 0, locals := 46 } : Room) s m args below meth c A Z 7 D (mT cs) (W2 h r q cs) 18 [(0, .ref h), (1, .int x1), (2, .int x2), (3, .int x3), (4, .int x4), (5, .int x5)] [] u := by
    intro B18 hB18 x1 x2 x3 x4 x5 u hw H locs ls hI hl
    unfold wp_X2_fill_p18b at hw
    refine lv_iload S.1 S.2.1 dX2_fill_18 (lv_at hl 5 rfl) ?_
    refine lv_iload_n S.1 S.2.1 dX2_fill_20 rfl (lv_at hl 2 rfl) ?_
    refine lv_icmp_ge (tgt := 53) S.1 S.2.1 dX2_fill_21 (by decide) (fun c21 => ?_) (fun c21 => ?_)
    · have hw := hw.1 c21
      refine lv_aload_n S.1 S.2.1 dX2_fill_53 rfl (lv_at hl 0 rfl) ?_
      refine m_get S hin hI 0 (W2_at0 h r q cs u) rfl 1 (Nat.le_of_ble_eq_true rfl) (List.mem_of_getElem? (i := 2) rfl) rfl (Ff2_at1 r u) dX2_fill_54 ?_
      refine lv_iload_n S.1 S.2.1 dX2_fill_57 rfl (lv_at hl 1 rfl) ?_
      have hj58 := mlt hw.1
      refine m_aald S hI 1 4 (W2_go1 h r q cs u) rfl hw.1 dX2_fill_58 ?_
      have hw := hw.2
      refine lv_iload_n S.1 S.2.1 dX2_fill_59 rfl (lv_at hl 2 rfl) ?_
      refine lv_iload_n S.1 S.2.1 dX2_fill_60 rfl (lv_at hl 3 rfl) ?_
      obtain ⟨u61, eu61⟩ : ∃ z : ST, z = sG u 1 (mu (gG u 1) x1.toNatClampNeg (upd (gG u 1 x1.toNatClampNeg) x2.toNatClampNeg x3)) := ⟨_, rfl⟩
      refine m_iast S hI (2 + x1.toNatClampNeg) 0 (W2_gr1 h r q cs u hj58) rfl hw.1 (W2_sG1 h r q cs u u61 hj58 _ eu61) dX2_fill_61 (fun H locs hI => ?_)
      have hw := hw.2 u61 eu61
      refine lv_aload_n S.1 S.2.1 dX2_fill_62 rfl (lv_at hl 0 rfl) ?_
      refine m_get S hin hI 0 (W2_at0 h r q cs u61) rfl 2 (Nat.le_of_ble_eq_true rfl) (List.mem_of_getElem? (i := 3) rfl) rfl (Ff2_at2 r u61) dX2_fill_63 ?_
      refine lv_iload_n S.1 S.2.1 dX2_fill_66 rfl (lv_at hl 1 rfl) ?_
      have hj67 := mlt hw.1
      refine m_aald S hI 9 4 (W2_go2 h r q cs u61) rfl hw.1 dX2_fill_67 ?_
      have hw := hw.2
      refine lv_iload_n S.1 S.2.1 dX2_fill_68 rfl (lv_at hl 2 rfl) ?_
      refine lv_iload S.1 S.2.1 dX2_fill_69 (lv_at hl 4 rfl) ?_
      obtain ⟨u71, eu71⟩ : ∃ z : ST, z = sG u61 2 (mu (gG u61 2) x1.toNatClampNeg (upd (gG u61 2 x1.toNatClampNeg) x2.toNatClampNeg x4)) := ⟨_, rfl⟩
      refine m_iast S hI (10 + x1.toNatClampNeg) 0 (W2_gr2 h r q cs u61 hj67) rfl hw.1 (W2_sG2 h r q cs u61 u71 hj67 _ eu71) dX2_fill_71 (fun H locs hI => ?_)
      have hw := hw.2 u71 eu71
      subst hZ
      exact m_vret S hr hlocks hI hw dX2_fill_72
    · have hw := hw.2 c21
      refine lv_aload_n S.1 S.2.1 dX2_fill_24 rfl (lv_at hl 0 rfl) ?_
      refine lv_iload_n S.1 S.2.1 dX2_fill_25 rfl (lv_at hl 1 rfl) ?_
      refine lv_iload_n S.1 S.2.1 dX2_fill_26 rfl (lv_at hl 2 rfl) ?_
      refine lv_iload S.1 S.2.1 dX2_fill_27 (lv_at hl 5 rfl) ?_
      refine m_vi (As := [.int x1, .int x2, .int x5]) (rest := []) S (W2_self h r q cs) hI rfl (c_X2_after l D h r q cs x1 x2 x5 u _ hw) (cwV 3 S.2.2.2.2 gX2_fill_X2_after rfl rfl rfl (by decide +kernel) ⟨Nat.le_of_ble_eq_true rfl, Nat.le_of_ble_eq_true rfl⟩) (W2_at0 h r q cs u) rfl rfl hl.1 rfl (Nat.le_of_ble_eq_true rfl) dX2_fill_29 ⟨Nat.zero_le _, Nat.zero_le _⟩ (fun y29 u29 H locs hw hI => ?_)
      refine lv_istore (lv' := [(6, .int y29), (0, .ref h), (1, .int x1), (2, .int x2), (3, .int x3), (4, .int x4), (5, .int x5)]) S.1 S.2.1 dX2_fill_32 hl (by decide) rfl (fun ls hl => ?_)
      refine lv_iload S.1 S.2.1 dX2_fill_34 (lv_at hl 0 rfl) ?_
      refine lv_iload_n S.1 S.2.1 dX2_fill_36 rfl (lv_at hl 4 rfl) ?_
      refine lv_icmp_ge (tgt := 47) S.1 S.2.1 dX2_fill_37 (by decide) (fun c37 => ?_) (fun c37 => ?_)
      · have hw := hw.1 c37
        exact b47 B18 hB18 x1 x2 x3 x4 x5 u29 hw H locs ls hI (lv_sub hl [1, 2, 3, 4, 5, 6] rfl)
      · have hw := hw.2 c37
        refine lv_iload S.1 S.2.1 dX2_fill_40 (lv_at hl 0 rfl) ?_
        refine lv_istore_n (lv' := [(3, .int y29), (6, .int y29), (0, .ref h), (1, .int x1), (2, .int x2), (4, .int x4), (5, .int x5)]) S.1 S.2.1 dX2_fill_42 rfl hl (by decide) rfl (fun ls hl => ?_)
        refine lv_iload S.1 S.2.1 dX2_fill_43 (lv_at hl 6 rfl) ?_
        refine lv_istore (lv' := [(4, .int x5), (3, .int y29), (6, .int y29), (0, .ref h), (1, .int x1), (2, .int x2), (5, .int x5)]) S.1 S.2.1 dX2_fill_45 hl (by decide) rfl (fun ls hl => ?_)
        exact b47 B18 hB18 x1 x2 y29 x5 x5 u29 hw H locs ls hI (lv_sub hl [3, 4, 5, 1, 0, 6] rfl)
  have b18 : ∀ (x1 : Int32) (x2 : Int32) (x3 : Int32) (x4 : Int32) (x5 : Int32) (u : ST), wp_X2_fill_p18 x1 x2 x3 x4 x5 u Q → mGo p l e ({ frames := 2, cells := 0, slots := 0, locals := 46 } : Room) s m args below meth c A Z 7 D (mT cs) (W2 h r q cs) 18 [(0, .ref h), (1, .int x1), (2, .int x2), (3, .int x3), (4, .int x4), (5, .int x5)] [] u := by
    intro x1 x2 x3 x4 x5 u hw
    obtain ⟨I, μ, h0, hs⟩ := hw
    have key : ∀ (n : Nat) (x1 : Int32) (x2 : Int32) (x3 : Int32) (x4 : Int32) (x5 : Int32) (u : ST), μ x1 x2 x3 x4 x5 u = n → I x1 x2 x3 x4 x5 u → mGo p l e ({ frames := 2, cells := 0, slots := 0, locals := 46 } : Room) s m args below meth c A Z 7 D (mT cs) (W2 h r q cs) 18 [(0, .ref h), (1, .int x1), (2, .int x2), (3, .int x3), (4, .int x4), (5, .int x5)] [] u := by
      intro n
      induction n using Nat.strongRecOn with
      | ind n ih =>
        intro x1 x2 x3 x4 x5 u hn hi
        exact b18b (fun yx1 yx2 yx3 yx4 yx5 yu => I yx1 yx2 yx3 yx4 yx5 yu ∧ μ yx1 yx2 yx3 yx4 yx5 yu < μ x1 x2 x3 x4 x5 u) (fun yx1 yx2 yx3 yx4 yx5 yu hb => ih _ (hn ▸ hb.2) yx1 yx2 yx3 yx4 yx5 yu rfl hb.1) x1 x2 x3 x4 x5 u (hs x1 x2 x3 x4 x5 u hi)
    exact key _ x1 x2 x3 x4 x5 u rfl h0
  have b11 : ∀ (x1 : Int32) (x2 : Int32) (t0 : Int32) (u : ST), wp_X2_fill_p11 x1 x2 t0 u Q → mGo p l e ({ frames := 2, cells := 0, slots := 0, locals := 46 } : Room) s m args below meth c A Z 7 D (mT cs) (W2 h r q cs) 11 [(0, .ref h), (1, .int x1), (2, .int x2)] [.int t0] u := by
    intro x1 x2 t0 u hw H locs ls hI hl
    unfold wp_X2_fill_p11 at hw
    refine lv_istore_n (lv' := [(3, .int t0), (0, .ref h), (1, .int x1), (2, .int x2)]) S.1 S.2.1 dX2_fill_11 rfl hl (by decide) rfl (fun ls hl => ?_)
    refine lv_iconst (v := 0) S.1 S.2.1 dX2_fill_12 (by decide) ?_
    refine lv_istore (lv' := [(4, .int (0 : Int32)), (3, .int t0), (0, .ref h), (1, .int x1), (2, .int x2)]) S.1 S.2.1 dX2_fill_13 hl (by decide) rfl (fun ls hl => ?_)
    refine lv_iconst (v := 1) S.1 S.2.1 dX2_fill_15 (by decide) ?_
    refine lv_istore (lv' := [(5, .int (1 : Int32)), (4, .int (0 : Int32)), (3, .int t0), (0, .ref h), (1, .int x1), (2, .int x2)]) S.1 S.2.1 dX2_fill_16 hl (by decide) rfl (fun ls hl => ?_)
    exact b18 x1 x2 t0 (0 : Int32) (1 : Int32) u hw H locs ls hI (lv_sub hl [3, 4, 5, 2, 1, 0] rfl)
  unfold wp_X2_fill at hw
  obtain ⟨H, hH⟩ : ∃ z : Heap, z = s.heap := ⟨_, rfl⟩
  obtain ⟨locs, hL⟩ : ∃ z : List Loc, z = [] := ⟨_, rfl⟩
  rw [show W p l e ({ frames := 2, cells := 0, slots := 0, locals := 46 } : Room) s m args below meth c s.heap [] 0 0 Z (F0 m 0 ls []) = W p l e ({ frames := 2, cells := 0, slots := 0, locals := 46 } : Room) s m args below meth c H locs 0 0 Z (F0 m 0 ls []) by rw [hH, hL]]
  replace hI : mI D (mT cs) A s.heap s (W2 h r q cs u) H locs := by rw [hH, hL]; exact hI
  refine lv_iload_n S.1 S.2.1 dX2_fill_0 rfl (lv_at hl 2 rfl) ?_
  refine lv_iconst (v := 1) S.1 S.2.1 dX2_fill_1 (by decide) ?_
  refine lv_icmp_ne (tgt := 9) S.1 S.2.1 dX2_fill_2 (by decide) (fun c2 => ?_) (fun c2 => ?_)
  · have hw := hw.1 c2
    refine lv_ldc S.1 S.2.1 S.2.2.2.1 (S.2.2.2.2 _ (List.mem_of_getElem? (i := 1) rfl)) dX2_fill_9 ?_
    exact b11 a1 a2 (268435456 : Int32) u hw H locs ls hI (lv_sub hl [0, 1, 2] rfl)
  · have hw := hw.2 c2
    refine lv_iconst (v := 0) S.1 S.2.1 dX2_fill_5 (by decide) ?_
    refine lv_goto (tgt := 11) S.1 S.2.1 dX2_fill_6 (by decide) ?_
    exact b11 a1 a2 (0 : Int32) u hw H locs ls hI (lv_sub hl [0, 1, 2] rfl)

def wp_X2_prepare_p38b (x3 : Int32) (x4 : Int32) (u : ST) (B29 : Int32 → ST → Prop) (B38 : Int32 → Int32 → ST → Prop) (Q : ST → Prop) : Prop :=
  (((61 : Int32) < x4 → (∀ y58 : Int32, y58 = x3 + 1 → B29 y58 u)) ∧ (¬ (61 : Int32) < x4 → (wp_X2_fill x3 x4 u (fun u49 => (∀ y52 : Int32, y52 = x4 + 1 → B38 x3 y52 u49)))))
def wp_X2_prepare_p38 (x3 : Int32) (x4 : Int32) (u : ST) (B29 : Int32 → ST → Prop) (Q : ST → Prop) : Prop := ∃ (I : Int32 → Int32 → ST → Prop) (μ : Int32 → Int32 → ST → Nat), I x3 x4 u ∧ ∀ (x3 : Int32) (x4 : Int32) (u : ST), I x3 x4 u → wp_X2_prepare_p38b x3 x4 u B29 (fun yx3 yx4 yu => I yx3 yx4 yu ∧ μ yx3 yx4 yu < μ x3 x4 u) Q
def wp_X2_prepare_p29b (x3 : Int32) (u : ST) (B29 : Int32 → ST → Prop) (Q : ST → Prop) : Prop :=
  (((6 : Int32) < x3 → Q u) ∧ (¬ (6 : Int32) < x3 → wp_X2_prepare_p38 x3 (1 : Int32) u B29 Q))
def wp_X2_prepare_p29 (x3 : Int32) (u : ST) (Q : ST → Prop) : Prop := ∃ (I : Int32 → ST → Prop) (μ : Int32 → ST → Nat), I x3 u ∧ ∀ (x3 : Int32) (u : ST), I x3 u → wp_X2_prepare_p29b x3 u (fun yx3 yu => I yx3 yu ∧ μ yx3 yu < μ x3 u) Q
def wp_X2_prepare_p17 (x1 : Int32) (x2 : Int32) (u : ST) (Q : ST → Prop) : Prop :=
  (∀ u19 : ST, u19 = sI u 3 x1 → (∀ u24 : ST, u24 = sI u19 4 x2 → wp_X2_prepare_p29 (0 : Int32) u24 Q))
def wp_X2_prepare (a1 : Int32) (a2 : Int32) (u : ST) (Q : ST → Prop) : Prop :=
  ((¬ a1 = (gI u 3) → wp_X2_prepare_p17 a1 a2 u Q) ∧ (a1 = (gI u 3) → ((¬ a2 = (gI u 4) → wp_X2_prepare_p17 a1 a2 u Q) ∧ (a2 = (gI u 4) → Q u))))
set_option maxHeartbeats 4000000 in
set_option maxRecDepth 100000 in
theorem c_X2_prepare (l : Launch) (D : va_G) (h : Nat) (r : Nat → Nat) (q : Nat → Nat → Nat) (cs : Nat → ClassId) (a1 : Int32) (a2 : Int32) (u : ST) (Q : ST → Prop) (hw : wp_X2_prepare a1 a2 u Q) : mCv l yX2_prepare wsX2_prepare ({ frames := 3, cells := 0, slots := 0, locals := 72 } : Room) 0 0 D (mT cs) (W2 h r q cs) [.ref h, .int a1, .int a2] u Q := by
  unfold mCv
  refine m_enter (QQ := fun A => va_Qv Q (mPos D (mT cs) A (W2 h r q cs)) A) (cc := cX2_prepare) (maxL := 5) (ret := none) (by decide) rfl (Nat.le_of_ble_eq_true rfl) ?_
  intro p e s m args below meth c A ls S hr hlocks hname hl hI
  have S : CallFix p m c cX2_prepare 5 s args wsX2_prepare RX2 := S
  show W p l e ({ frames := 3, cells := 0, slots := 0, locals := 72 } : Room) s m args below meth c s.heap [] 0 0 (MQ below (va_Qv Q (mPos D (mT cs) A (W2 h r q cs)) A) args s 0 0 A) (F0 m 0 ls [])
  generalize hZ : MQ below (va_Qv Q (mPos D (mT cs) A (W2 h r q cs)) A) args s 0 0 A = Z
  have hin : ∀ w ∈ wsX20, w ∈ wsX2_prepare := fun _ h => List.mem_cons_of_mem _ (List.mem_append_right _ h)
  have hl : lv_has ls 5 [(0, .ref h), (1, .int a1), (2, .int a2)] := hl
  have b38b : ∀ (B29 : Int32 → ST → Prop), (∀ (x3 : Int32) (u : ST), B29 x3 u → mGo p l e ({ frames := 3, cells := 0, slots := 0, locals := 72 } : Room) s m args below meth c A Z 5 D (mT cs) (W2 h r q cs) 29 [(0, .ref h), (3, .int x3)] [] u) → ∀ (B38 : Int32 → Int32 → ST → Prop), (∀ (x3 : Int32) (x4 : Int32) (u : ST), B38 x3 x4 u → mGo p l e ({ frames := 3, cells := 0, slots := 0, locals := 72 } : Room) s m args below meth c A Z 5 D (mT cs) (W2 h r q cs) 38 [(0, .ref h), (3, .int x3), (4, .int x4)] [] u) → ∀ (x3 : Int32) (x4 : Int32) (u : ST), wp_X2_prepare_p38b x3 x4 u B29 B38 Q → mGo p l e ({ frames := 3, cells := 0, slots := 0, locals := 72 } : Room) s m args below meth c A Z 5 D (mT cs) (W2 h r q cs) 38 [(0, .ref h), (3, .int x3), (4, .int x4)] [] u := by
    intro B29 hB29 B38 hB38 x3 x4 u hw H locs ls hI hl
    unfold wp_X2_prepare_p38b at hw
    refine lv_iload S.1 S.2.1 dX2_prepare_38 (lv_at hl 2 rfl) ?_
    refine lv_bipush (v := 61) S.1 S.2.1 dX2_prepare_40 (by decide) ?_
    refine lv_icmp_gt (tgt := 58) S.1 S.2.1 dX2_prepare_42 (by decide) (fun c42 => ?_) (fun c42 => ?_)
    · have hw := hw.1 c42
      obtain ⟨y58, ey58⟩ : ∃ z : Int32, z = x3 + 1 := ⟨_, rfl⟩
      have hw := hw y58 ey58
      refine lv_iinc (v := y58) (lv' := [(3, .int y58), (0, .ref h), (4, .int x4)]) S.1 S.2.1 dX2_prepare_58 hl (k := 1) rfl (by rw [ey58]; rfl) (by decide) rfl (fun ls hl => ?_)
      refine lv_goto (tgt := 29) S.1 S.2.1 dX2_prepare_61 (by decide) ?_
      exact hB29 y58 u hw H locs ls hI (lv_sub hl [1, 0] rfl)
    · have hw := hw.2 c42
      refine lv_aload_n S.1 S.2.1 dX2_prepare_45 rfl (lv_at hl 0 rfl) ?_
      refine lv_iload_n S.1 S.2.1 dX2_prepare_46 rfl (lv_at hl 1 rfl) ?_
      refine lv_iload S.1 S.2.1 dX2_prepare_47 (lv_at hl 2 rfl) ?_
      refine m_vv (As := [.int x3, .int x4]) (rest := []) S (W2_self h r q cs) hI rfl (c_X2_fill l D h r q cs x3 x4 u _ hw) (cwV 2 S.2.2.2.2 gX2_prepare_X2_fill rfl rfl rfl (by decide +kernel) ⟨Nat.le_of_ble_eq_true rfl, Nat.le_of_ble_eq_true rfl⟩) (W2_at0 h r q cs u) rfl rfl hl.1 rfl (Nat.le_of_ble_eq_true rfl) dX2_prepare_49 ⟨Nat.zero_le _, Nat.zero_le _⟩ (fun u49 H locs hw hI => ?_)
      obtain ⟨y52, ey52⟩ : ∃ z : Int32, z = x4 + 1 := ⟨_, rfl⟩
      have hw := hw y52 ey52
      refine lv_iinc (v := y52) (lv' := [(4, .int y52), (0, .ref h), (3, .int x3)]) S.1 S.2.1 dX2_prepare_52 hl (k := 2) rfl (by rw [ey52]; rfl) (by decide) rfl (fun ls hl => ?_)
      refine lv_goto (tgt := 38) S.1 S.2.1 dX2_prepare_55 (by decide) ?_
      exact hB38 x3 y52 u49 hw H locs ls hI (lv_sub hl [1, 2, 0] rfl)
  have b38 : ∀ (B29 : Int32 → ST → Prop), (∀ (x3 : Int32) (u : ST), B29 x3 u → mGo p l e ({ frames := 3, cells := 0, slots := 0, locals := 72 } : Room) s m args below meth c A Z 5 D (mT cs) (W2 h r q cs) 29 [(0, .ref h), (3, .int x3)] [] u) → ∀ (x3 : Int32) (x4 : Int32) (u : ST), wp_X2_prepare_p38 x3 x4 u B29 Q → mGo p l e ({ frames := 3, cells := 0, slots := 0, locals := 72 } : Room) s m args below meth c A Z 5 D (mT cs) (W2 h r q cs) 38 [(0, .ref h), (3, .int x3), (4, .int x4)] [] u := by
    intro B29 hB29 x3 x4 u hw
    obtain ⟨I, μ, h0, hs⟩ := hw
    have key : ∀ (n : Nat) (x3 : Int32) (x4 : Int32) (u : ST), μ x3 x4 u = n → I x3 x4 u → mGo p l e ({ frames := 3, cells := 0, slots := 0, locals := 72 } : Room) s m args below meth c A Z 5 D (mT cs) (W2 h r q cs) 38 [(0, .ref h), (3, .int x3), (4, .int x4)] [] u := by
      intro n
      induction n using Nat.strongRecOn with
      | ind n ih =>
        intro x3 x4 u hn hi
        exact b38b B29 hB29 (fun yx3 yx4 yu => I yx3 yx4 yu ∧ μ yx3 yx4 yu < μ x3 x4 u) (fun yx3 yx4 yu hb => ih _ (hn ▸ hb.2) yx3 yx4 yu rfl hb.1) x3 x4 u (hs x3 x4 u hi)
    exact key _ x3 x4 u rfl h0
  have b29b : ∀ (B29 : Int32 → ST → Prop), (∀ (x3 : Int32) (u : ST), B29 x3 u → mGo p l e ({ frames := 3, cells := 0, slots := 0, locals := 72 } : Room) s m args below meth c A Z 5 D (mT cs) (W2 h r q cs) 29 [(0, .ref h), (3, .int x3)] [] u) → ∀ (x3 : Int32) (u : ST), wp_X2_prepare_p29b x3 u B29 Q → mGo p l e ({ frames := 3, cells := 0, slots := 0, locals := 72 } : Room) s m args below meth c A Z 5 D (mT cs) (W2 h r q cs) 29 [(0, .ref h), (3, .int x3)] [] u := by
    intro B29 hB29 x3 u hw H locs ls hI hl
    unfold wp_X2_prepare_p29b at hw
    refine lv_iload_n S.1 S.2.1 dX2_prepare_29 rfl (lv_at hl 1 rfl) ?_
    refine lv_bipush (v := 6) S.1 S.2.1 dX2_prepare_30 (by decide) ?_
    refine lv_icmp_gt (tgt := 64) S.1 S.2.1 dX2_prepare_32 (by decide) (fun c32 => ?_) (fun c32 => ?_)
    · have hw := hw.1 c32
      subst hZ
      exact m_vret S hr hlocks hI hw dX2_prepare_64
    · have hw := hw.2 c32
      refine lv_iconst (v := 1) S.1 S.2.1 dX2_prepare_35 (by decide) ?_
      refine lv_istore (lv' := [(4, .int (1 : Int32)), (0, .ref h), (3, .int x3)]) S.1 S.2.1 dX2_prepare_36 hl (by decide) rfl (fun ls hl => ?_)
      exact b38 B29 hB29 x3 (1 : Int32) u hw H locs ls hI (lv_sub hl [1, 2, 0] rfl)
  have b29 : ∀ (x3 : Int32) (u : ST), wp_X2_prepare_p29 x3 u Q → mGo p l e ({ frames := 3, cells := 0, slots := 0, locals := 72 } : Room) s m args below meth c A Z 5 D (mT cs) (W2 h r q cs) 29 [(0, .ref h), (3, .int x3)] [] u := by
    intro x3 u hw
    obtain ⟨I, μ, h0, hs⟩ := hw
    have key : ∀ (n : Nat) (x3 : Int32) (u : ST), μ x3 u = n → I x3 u → mGo p l e ({ frames := 3, cells := 0, slots := 0, locals := 72 } : Room) s m args below meth c A Z 5 D (mT cs) (W2 h r q cs) 29 [(0, .ref h), (3, .int x3)] [] u := by
      intro n
      induction n using Nat.strongRecOn with
      | ind n ih =>
        intro x3 u hn hi
        exact b29b (fun yx3 yu => I yx3 yu ∧ μ yx3 yu < μ x3 u) (fun yx3 yu hb => ih _ (hn ▸ hb.2) yx3 yu rfl hb.1) x3 u (hs x3 u hi)
    exact key _ x3 u rfl h0
  have b17 : ∀ (x1 : Int32) (x2 : Int32) (u : ST), wp_X2_prepare_p17 x1 x2 u Q → mGo p l e ({ frames := 3, cells := 0, slots := 0, locals := 72 } : Room) s m args below meth c A Z 5 D (mT cs) (W2 h r q cs) 17 [(0, .ref h), (1, .int x1), (2, .int x2)] [] u := by
    intro x1 x2 u hw H locs ls hI hl
    unfold wp_X2_prepare_p17 at hw
    refine lv_aload_n S.1 S.2.1 dX2_prepare_17 rfl (lv_at hl 0 rfl) ?_
    refine lv_iload_n S.1 S.2.1 dX2_prepare_18 rfl (lv_at hl 1 rfl) ?_
    obtain ⟨u19, eu19⟩ : ∃ z : ST, z = sI u 3 x1 := ⟨_, rfl⟩
    have hw := hw u19 eu19
    refine m_put S hin tyX2_ok nmX2 hI 0 (W2_at0 h r q cs u) rfl 3 (Nat.le_of_ble_eq_true rfl) (List.mem_of_getElem? (i := 1) rfl) rfl rfl rfl rfl (Nat.le_of_ble_eq_true rfl) (W2_sI3 h r q cs u u19 x1 eu19) dX2_prepare_19 (fun H locs hI => ?_)
    refine lv_aload_n S.1 S.2.1 dX2_prepare_22 rfl (lv_at hl 0 rfl) ?_
    refine lv_iload_n S.1 S.2.1 dX2_prepare_23 rfl (lv_at hl 2 rfl) ?_
    obtain ⟨u24, eu24⟩ : ∃ z : ST, z = sI u19 4 x2 := ⟨_, rfl⟩
    have hw := hw u24 eu24
    refine m_put S hin tyX2_ok nmX2 hI 0 (W2_at0 h r q cs u19) rfl 4 (Nat.le_of_ble_eq_true rfl) (List.mem_of_getElem? (i := 2) rfl) rfl rfl rfl rfl (Nat.le_of_ble_eq_true rfl) (W2_sI4 h r q cs u19 u24 x2 eu24) dX2_prepare_24 (fun H locs hI => ?_)
    refine lv_iconst (v := 0) S.1 S.2.1 dX2_prepare_27 (by decide) ?_
    refine lv_istore_n (lv' := [(3, .int (0 : Int32)), (0, .ref h), (1, .int x1), (2, .int x2)]) S.1 S.2.1 dX2_prepare_28 rfl hl (by decide) rfl (fun ls hl => ?_)
    exact b29 (0 : Int32) u24 hw H locs ls hI (lv_sub hl [1, 0] rfl)
  unfold wp_X2_prepare at hw
  obtain ⟨H, hH⟩ : ∃ z : Heap, z = s.heap := ⟨_, rfl⟩
  obtain ⟨locs, hL⟩ : ∃ z : List Loc, z = [] := ⟨_, rfl⟩
  rw [show W p l e ({ frames := 3, cells := 0, slots := 0, locals := 72 } : Room) s m args below meth c s.heap [] 0 0 Z (F0 m 0 ls []) = W p l e ({ frames := 3, cells := 0, slots := 0, locals := 72 } : Room) s m args below meth c H locs 0 0 Z (F0 m 0 ls []) by rw [hH, hL]]
  replace hI : mI D (mT cs) A s.heap s (W2 h r q cs u) H locs := by rw [hH, hL]; exact hI
  refine lv_iload_n S.1 S.2.1 dX2_prepare_0 rfl (lv_at hl 1 rfl) ?_
  refine lv_aload_n S.1 S.2.1 dX2_prepare_1 rfl (lv_at hl 0 rfl) ?_
  refine m_get S hin hI 0 (W2_at0 h r q cs u) rfl 3 (Nat.le_of_ble_eq_true rfl) (List.mem_of_getElem? (i := 1) rfl) rfl (Ff2_at3 r u) dX2_prepare_2 ?_
  refine lv_icmp_ne (tgt := 17) S.1 S.2.1 dX2_prepare_5 (by decide) (fun c5 => ?_) (fun c5 => ?_)
  · have hw := hw.1 c5
    exact b17 a1 a2 u hw H locs ls hI (lv_sub hl [0, 1, 2] rfl)
  · have hw := hw.2 c5
    refine lv_iload_n S.1 S.2.1 dX2_prepare_8 rfl (lv_at hl 2 rfl) ?_
    refine lv_aload_n S.1 S.2.1 dX2_prepare_9 rfl (lv_at hl 0 rfl) ?_
    refine m_get S hin hI 0 (W2_at0 h r q cs u) rfl 4 (Nat.le_of_ble_eq_true rfl) (List.mem_of_getElem? (i := 2) rfl) rfl (Ff2_at4 r u) dX2_prepare_10 ?_
    refine lv_icmp_ne (tgt := 17) S.1 S.2.1 dX2_prepare_13 (by decide) (fun c13 => ?_) (fun c13 => ?_)
    · have hw := hw.1 c13
      exact b17 a1 a2 u hw H locs ls hI (lv_sub hl [0, 1, 2] rfl)
    · have hw := hw.2 c13
      subst hZ
      exact m_vret S hr hlocks hI hw dX2_prepare_16

def wp_X2_cost_p21 (t0 : Int32) (u : ST) (Q : Int32 → ST → Prop) : Prop :=
  Q t0 u
def wp_X2_cost (a1 : Int32) (a2 : Int32) (u : ST) (Q : Int32 → ST → Prop) : Prop :=
  (wp_X2_isThere a1 a2 (fun y2 => ((y2 = 0 → wp_X2_cost_p21 (268435456 : Int32) u Q) ∧ (¬ y2 = 0 → (vp_in a1 7 ∧ (vp_in a2 62 ∧ ∀ y15 : Int32, y15 = gG u 1 a1.toNatClampNeg a2.toNatClampNeg → wp_X2_cost_p21 y15 u Q))))))
set_option maxHeartbeats 4000000 in
set_option maxRecDepth 100000 in
theorem c_X2_cost (l : Launch) (D : va_G) (h : Nat) (r : Nat → Nat) (q : Nat → Nat → Nat) (cs : Nat → ClassId) (a1 : Int32) (a2 : Int32) (u : ST) (Q : Int32 → ST → Prop) (hw : wp_X2_cost a1 a2 u Q) : mCi l yX2_cost wsX2_cost ({ frames := 1, cells := 0, slots := 0, locals := 21 } : Room) 0 0 D (mT cs) (W2 h r q cs) [.ref h, .int a1, .int a2] u Q := by
  unfold mCi
  refine m_enter (QQ := fun A => va_Qi Q (mPos D (mT cs) A (W2 h r q cs)) A) (cc := cX2_cost) (maxL := 3) (ret := (some .int)) (by decide) rfl (Nat.le_of_ble_eq_true rfl) ?_
  intro p e s m args below meth c A ls S hr hlocks hname hl hI
  have S : CallFix p m c cX2_cost 3 s args wsX2_cost RX2 := S
  show W p l e ({ frames := 1, cells := 0, slots := 0, locals := 21 } : Room) s m args below meth c s.heap [] 0 0 (MQ below (va_Qi Q (mPos D (mT cs) A (W2 h r q cs)) A) args s 0 0 A) (F0 m 0 ls [])
  generalize hZ : MQ below (va_Qi Q (mPos D (mT cs) A (W2 h r q cs)) A) args s 0 0 A = Z
  have hin : ∀ w ∈ wsX20, w ∈ wsX2_cost := fun _ h => List.mem_cons_of_mem _ (List.mem_append_right _ h)
  have hl : lv_has ls 3 [(0, .ref h), (1, .int a1), (2, .int a2)] := hl
  have b21 : ∀ (t0 : Int32) (u : ST), wp_X2_cost_p21 t0 u Q → mGo p l e ({ frames := 1, cells := 0, slots := 0, locals := 21 } : Room) s m args below meth c A Z 3 D (mT cs) (W2 h r q cs) 21 [(0, .ref h)] [.int t0] u := by
    intro t0 u hw H locs ls hI hl
    unfold wp_X2_cost_p21 at hw
    subst hZ
    exact m_iret S hr hlocks hI hw dX2_cost_21
  unfold wp_X2_cost at hw
  obtain ⟨H, hH⟩ : ∃ z : Heap, z = s.heap := ⟨_, rfl⟩
  obtain ⟨locs, hL⟩ : ∃ z : List Loc, z = [] := ⟨_, rfl⟩
  rw [show W p l e ({ frames := 1, cells := 0, slots := 0, locals := 21 } : Room) s m args below meth c s.heap [] 0 0 Z (F0 m 0 ls []) = W p l e ({ frames := 1, cells := 0, slots := 0, locals := 21 } : Room) s m args below meth c H locs 0 0 Z (F0 m 0 ls []) by rw [hH, hL]]
  replace hI : mI D (mT cs) A s.heap s (W2 h r q cs u) H locs := by rw [hH, hL]; exact hI
  refine lv_iload_n S.1 S.2.1 dX2_cost_0 rfl (lv_at hl 1 rfl) ?_
  refine lv_iload_n S.1 S.2.1 dX2_cost_1 rfl (lv_at hl 2 rfl) ?_
  refine m_si (As := [.int a1, .int a2]) (rest := []) S hI.2.2.2.1.2.1 (c_X2_isThere l a1 a2 _ hw) (va_cwS 2 S.2.2.2.2 gX2_cost_X2_isThere rfl rfl rfl (by decide +kernel) ⟨Nat.le_of_ble_eq_true rfl, Nat.le_of_ble_eq_true rfl⟩) rfl hl.1 rfl (Nat.le_of_ble_eq_true rfl) dX2_cost_2 ⟨Nat.zero_le _, Nat.zero_le _⟩ (fun y2 hw => ?_)
  refine lv_if_eq (tgt := 19) S.1 S.2.1 dX2_cost_5 (by decide) (fun c5 => ?_) (fun c5 => ?_)
  · have hw := hw.1 c5
    refine lv_ldc S.1 S.2.1 S.2.2.2.1 (S.2.2.2.2 _ (List.mem_of_getElem? (i := 2) rfl)) dX2_cost_19 ?_
    exact b21 (268435456 : Int32) u hw H locs ls hI (lv_sub hl [0] rfl)
  · have hw := hw.2 c5
    refine lv_aload_n S.1 S.2.1 dX2_cost_8 rfl (lv_at hl 0 rfl) ?_
    refine m_get S hin hI 0 (W2_at0 h r q cs u) rfl 1 (Nat.le_of_ble_eq_true rfl) (List.mem_of_getElem? (i := 1) rfl) rfl (Ff2_at1 r u) dX2_cost_9 ?_
    refine lv_iload_n S.1 S.2.1 dX2_cost_12 rfl (lv_at hl 1 rfl) ?_
    have hj13 := mlt hw.1
    refine m_aald S hI 1 4 (W2_go1 h r q cs u) rfl hw.1 dX2_cost_13 ?_
    have hw := hw.2
    refine lv_iload_n S.1 S.2.1 dX2_cost_14 rfl (lv_at hl 2 rfl) ?_
    refine m_iald S hI (2 + a1.toNatClampNeg) 0 (W2_gr1 h r q cs u hj13) rfl hw.1 dX2_cost_15 ?_
    refine lv_topi (fun y15 ey15 => ?_)
    have hw := hw.2 y15 ey15
    refine lv_goto (tgt := 21) S.1 S.2.1 dX2_cost_16 (by decide) ?_
    exact b21 y15 u hw H locs ls hI (lv_sub hl [0] rfl)

def wp_X2_first_p20 (t0 : Int32) (u : ST) (Q : Int32 → ST → Prop) : Prop :=
  Q t0 u
def wp_X2_first (a1 : Int32) (a2 : Int32) (u : ST) (Q : Int32 → ST → Prop) : Prop :=
  (wp_X2_isThere a1 a2 (fun y2 => ((y2 = 0 → wp_X2_first_p20 (0 : Int32) u Q) ∧ (¬ y2 = 0 → (vp_in a1 7 ∧ (vp_in a2 62 ∧ ∀ y15 : Int32, y15 = gG u 2 a1.toNatClampNeg a2.toNatClampNeg → wp_X2_first_p20 y15 u Q))))))
set_option maxHeartbeats 4000000 in
set_option maxRecDepth 100000 in
theorem c_X2_first (l : Launch) (D : va_G) (h : Nat) (r : Nat → Nat) (q : Nat → Nat → Nat) (cs : Nat → ClassId) (a1 : Int32) (a2 : Int32) (u : ST) (Q : Int32 → ST → Prop) (hw : wp_X2_first a1 a2 u Q) : mCi l yX2_first wsX2_first ({ frames := 1, cells := 0, slots := 0, locals := 21 } : Room) 0 0 D (mT cs) (W2 h r q cs) [.ref h, .int a1, .int a2] u Q := by
  unfold mCi
  refine m_enter (QQ := fun A => va_Qi Q (mPos D (mT cs) A (W2 h r q cs)) A) (cc := cX2_first) (maxL := 3) (ret := (some .int)) (by decide) rfl (Nat.le_of_ble_eq_true rfl) ?_
  intro p e s m args below meth c A ls S hr hlocks hname hl hI
  have S : CallFix p m c cX2_first 3 s args wsX2_first RX2 := S
  show W p l e ({ frames := 1, cells := 0, slots := 0, locals := 21 } : Room) s m args below meth c s.heap [] 0 0 (MQ below (va_Qi Q (mPos D (mT cs) A (W2 h r q cs)) A) args s 0 0 A) (F0 m 0 ls [])
  generalize hZ : MQ below (va_Qi Q (mPos D (mT cs) A (W2 h r q cs)) A) args s 0 0 A = Z
  have hin : ∀ w ∈ wsX20, w ∈ wsX2_first := fun _ h => List.mem_cons_of_mem _ (List.mem_append_right _ h)
  have hl : lv_has ls 3 [(0, .ref h), (1, .int a1), (2, .int a2)] := hl
  have b20 : ∀ (t0 : Int32) (u : ST), wp_X2_first_p20 t0 u Q → mGo p l e ({ frames := 1, cells := 0, slots := 0, locals := 21 } : Room) s m args below meth c A Z 3 D (mT cs) (W2 h r q cs) 20 [(0, .ref h)] [.int t0] u := by
    intro t0 u hw H locs ls hI hl
    unfold wp_X2_first_p20 at hw
    subst hZ
    exact m_iret S hr hlocks hI hw dX2_first_20
  unfold wp_X2_first at hw
  obtain ⟨H, hH⟩ : ∃ z : Heap, z = s.heap := ⟨_, rfl⟩
  obtain ⟨locs, hL⟩ : ∃ z : List Loc, z = [] := ⟨_, rfl⟩
  rw [show W p l e ({ frames := 1, cells := 0, slots := 0, locals := 21 } : Room) s m args below meth c s.heap [] 0 0 Z (F0 m 0 ls []) = W p l e ({ frames := 1, cells := 0, slots := 0, locals := 21 } : Room) s m args below meth c H locs 0 0 Z (F0 m 0 ls []) by rw [hH, hL]]
  replace hI : mI D (mT cs) A s.heap s (W2 h r q cs u) H locs := by rw [hH, hL]; exact hI
  refine lv_iload_n S.1 S.2.1 dX2_first_0 rfl (lv_at hl 1 rfl) ?_
  refine lv_iload_n S.1 S.2.1 dX2_first_1 rfl (lv_at hl 2 rfl) ?_
  refine m_si (As := [.int a1, .int a2]) (rest := []) S hI.2.2.2.1.2.1 (c_X2_isThere l a1 a2 _ hw) (va_cwS 2 S.2.2.2.2 gX2_first_X2_isThere rfl rfl rfl (by decide +kernel) ⟨Nat.le_of_ble_eq_true rfl, Nat.le_of_ble_eq_true rfl⟩) rfl hl.1 rfl (Nat.le_of_ble_eq_true rfl) dX2_first_2 ⟨Nat.zero_le _, Nat.zero_le _⟩ (fun y2 hw => ?_)
  refine lv_if_eq (tgt := 19) S.1 S.2.1 dX2_first_5 (by decide) (fun c5 => ?_) (fun c5 => ?_)
  · have hw := hw.1 c5
    refine lv_iconst (v := 0) S.1 S.2.1 dX2_first_19 (by decide) ?_
    exact b20 (0 : Int32) u hw H locs ls hI (lv_sub hl [0] rfl)
  · have hw := hw.2 c5
    refine lv_aload_n S.1 S.2.1 dX2_first_8 rfl (lv_at hl 0 rfl) ?_
    refine m_get S hin hI 0 (W2_at0 h r q cs u) rfl 2 (Nat.le_of_ble_eq_true rfl) (List.mem_of_getElem? (i := 1) rfl) rfl (Ff2_at2 r u) dX2_first_9 ?_
    refine lv_iload_n S.1 S.2.1 dX2_first_12 rfl (lv_at hl 1 rfl) ?_
    have hj13 := mlt hw.1
    refine m_aald S hI 9 4 (W2_go2 h r q cs u) rfl hw.1 dX2_first_13 ?_
    have hw := hw.2
    refine lv_iload_n S.1 S.2.1 dX2_first_14 rfl (lv_at hl 2 rfl) ?_
    refine m_iald S hI (10 + a1.toNatClampNeg) 0 (W2_gr2 h r q cs u hj13) rfl hw.1 dX2_first_15 ?_
    refine lv_topi (fun y15 ey15 => ?_)
    have hw := hw.2 y15 ey15
    refine lv_goto (tgt := 20) S.1 S.2.1 dX2_first_16 (by decide) ?_
    exact b20 y15 u hw H locs ls hI (lv_sub hl [0] rfl)

/-- TwoJars$Pair: what its object holds -/
def Ff5 (r : Nat → Nat) (u : ST) : List Value := [.ref (r 0), .int (gI u 1)]
def W5 (h : Nat) (r : Nat → Nat) (q : Nat → Nat → Nat) (cs : Nat → ClassId) (u : ST) : va_W := [(h, .inr (5, Ff5 r u)), (r 0, .inl (cs 4, 7, .inr (.inr (.inr (.inr (mrow (q 0))))))), (q 0 0, .inl (cs 0, 1024, .inl (gG u 0 0))), (q 0 1, .inl (cs 0, 1024, .inl (gG u 0 1))), (q 0 2, .inl (cs 0, 1024, .inl (gG u 0 2))), (q 0 3, .inl (cs 0, 1024, .inl (gG u 0 3))), (q 0 4, .inl (cs 0, 1024, .inl (gG u 0 4))), (q 0 5, .inl (cs 0, 1024, .inl (gG u 0 5))), (q 0 6, .inl (cs 0, 1024, .inl (gG u 0 6)))]
theorem W5_at0 (h : Nat) (r : Nat → Nat) (q : Nat → Nat → Nat) (cs : Nat → ClassId) (u : ST) : (W5 h r q cs u)[0]? = some (h, .inr (5, Ff5 r u)) := rfl
theorem Ff5_at0 (r : Nat → Nat) (u : ST) : (Ff5 r u)[0]? = some (.ref (r 0)) := rfl
theorem Ff5_at1 (r : Nat → Nat) (u : ST) : (Ff5 r u)[1]? = some (.int (gI u 1)) := rfl
theorem W5_sI1 (h : Nat) (r : Nat → Nat) (q : Nat → Nat → Nat) (cs : Nat → ClassId) (u u9 : ST) (x : Int32) (e : u9 = sI u 1 x) : (W5 h r q cs u).set 0 (h, .inr (5, (Ff5 r u).set 1 (.int x))) = W5 h r q cs u9 := by subst e; rfl
theorem W5_go0 (h : Nat) (r : Nat → Nat) (q : Nat → Nat → Nat) (cs : Nat → ClassId) (u : ST) : (W5 h r q cs u)[1]? = some (r 0, .inl (cs 4, 7, .inr (.inr (.inr (.inr (mrow (q 0))))))) := rfl
theorem W5_gr0 (h : Nat) (r : Nat → Nat) (q : Nat → Nat → Nat) (cs : Nat → ClassId) (u : ST) {j : Nat} (hj : j < 7) : (W5 h r q cs u)[2 + j]? = some (q 0 j, .inl (cs 0, 1024, .inl (gG u 0 j))) := by
  match j, hj with
  | 0, _ => rfl
  | 1, _ => rfl
  | 2, _ => rfl
  | 3, _ => rfl
  | 4, _ => rfl
  | 5, _ => rfl
  | 6, _ => rfl
theorem W5_sG0 (h : Nat) (r : Nat → Nat) (q : Nat → Nat → Nat) (cs : Nat → ClassId) (u u9 : ST) {j : Nat} (hj : j < 7) (f : Nat → Int32) (e : u9 = sG u 0 (mu (gG u 0) j f)) : (W5 h r q cs u).set (2 + j) (q 0 j, .inl (cs 0, 1024, .inl f)) = W5 h r q cs u9 := by
  subst e
  match j, hj with
  | 0, _ => rfl
  | 1, _ => rfl
  | 2, _ => rfl
  | 3, _ => rfl
  | 4, _ => rfl
  | 5, _ => rfl
  | 6, _ => rfl
theorem W5_self (h : Nat) (r : Nat → Nat) (q : Nat → Nat → Nat) (cs : Nat → ClassId) : ∀ v, (W5 h r q cs v).Perm ([] ++ (W5 h r q cs v ++ [])) := fun v => by rw [List.append_nil, List.nil_append]

def wp_X5_need_p30 (u : ST) (Q : Int32 → ST → Prop) : Prop :=
  Q (268435456 : Int32) u
def wp_X5_need (a1 : Int32) (a2 : Int32) (a3 : Int32) (u : ST) (Q : Int32 → ST → Prop) : Prop :=
  (wp_X11_within a1 (0 : Int32) (6 : Int32) (fun y4 => ((y4 = 0 → wp_X5_need_p30 u Q) ∧ (¬ y4 = 0 → (wp_X11_within a2 (1 : Int32) (31 : Int32) (fun y14 => ((y14 = 0 → wp_X5_need_p30 u Q) ∧ (¬ y14 = 0 → (wp_X11_within a3 (1 : Int32) (31 : Int32) (fun y24 => ((¬ y24 = 0 → (vp_in a1 7 ∧ (∀ y42 : Int32, y42 = a2 * (32 : Int32) → (∀ y44 : Int32, y44 = y42 + a3 → (vp_in y44 1024 ∧ ∀ y45 : Int32, y45 = gG u 0 a1.toNatClampNeg y44.toNatClampNeg → Q y45 u))))) ∧ (y24 = 0 → wp_X5_need_p30 u Q))))))))))))
set_option maxHeartbeats 4000000 in
set_option maxRecDepth 100000 in
theorem c_X5_need (l : Launch) (D : va_G) (h : Nat) (r : Nat → Nat) (q : Nat → Nat → Nat) (cs : Nat → ClassId) (a1 : Int32) (a2 : Int32) (a3 : Int32) (u : ST) (Q : Int32 → ST → Prop) (hw : wp_X5_need a1 a2 a3 u Q) : mCi l yX5_need wsX5_need ({ frames := 1, cells := 0, slots := 0, locals := 22 } : Room) 0 0 D (mT cs) (W5 h r q cs) [.ref h, .int a1, .int a2, .int a3] u Q := by
  unfold mCi
  refine m_enter (QQ := fun A => va_Qi Q (mPos D (mT cs) A (W5 h r q cs)) A) (cc := cX5_need) (maxL := 4) (ret := (some .int)) (by decide) rfl (Nat.le_of_ble_eq_true rfl) ?_
  intro p e s m args below meth c A ls S hr hlocks hname hl hI
  have S : CallFix p m c cX5_need 4 s args wsX5_need RX5 := S
  show W p l e ({ frames := 1, cells := 0, slots := 0, locals := 22 } : Room) s m args below meth c s.heap [] 0 0 (MQ below (va_Qi Q (mPos D (mT cs) A (W5 h r q cs)) A) args s 0 0 A) (F0 m 0 ls [])
  generalize hZ : MQ below (va_Qi Q (mPos D (mT cs) A (W5 h r q cs)) A) args s 0 0 A = Z
  have hin : ∀ w ∈ wsX50, w ∈ wsX5_need := fun _ h => List.mem_cons_of_mem _ (List.mem_append_right _ h)
  have hl : lv_has ls 4 [(0, .ref h), (1, .int a1), (2, .int a2), (3, .int a3)] := hl
  have b30 : ∀ (u : ST), wp_X5_need_p30 u Q → mGo p l e ({ frames := 1, cells := 0, slots := 0, locals := 22 } : Room) s m args below meth c A Z 4 D (mT cs) (W5 h r q cs) 30 [(0, .ref h)] [] u := by
    intro u hw H locs ls hI hl
    unfold wp_X5_need_p30 at hw
    refine lv_ldc S.1 S.2.1 S.2.2.2.1 (S.2.2.2.2 _ (List.mem_of_getElem? (i := 1) rfl)) dX5_need_30 ?_
    subst hZ
    exact m_iret S hr hlocks hI hw dX5_need_32
  unfold wp_X5_need at hw
  obtain ⟨H, hH⟩ : ∃ z : Heap, z = s.heap := ⟨_, rfl⟩
  obtain ⟨locs, hL⟩ : ∃ z : List Loc, z = [] := ⟨_, rfl⟩
  rw [show W p l e ({ frames := 1, cells := 0, slots := 0, locals := 22 } : Room) s m args below meth c s.heap [] 0 0 Z (F0 m 0 ls []) = W p l e ({ frames := 1, cells := 0, slots := 0, locals := 22 } : Room) s m args below meth c H locs 0 0 Z (F0 m 0 ls []) by rw [hH, hL]]
  replace hI : mI D (mT cs) A s.heap s (W5 h r q cs u) H locs := by rw [hH, hL]; exact hI
  refine lv_iload_n S.1 S.2.1 dX5_need_0 rfl (lv_at hl 1 rfl) ?_
  refine lv_iconst (v := 0) S.1 S.2.1 dX5_need_1 (by decide) ?_
  refine lv_bipush (v := 6) S.1 S.2.1 dX5_need_2 (by decide) ?_
  refine m_siN (As := [.int a1, .int (0 : Int32), .int (6 : Int32)]) (rest := []) S hI.2.2.2.1.2.1 (c_X11_within l a1 (0 : Int32) (6 : Int32) _ hw) 3 gX5_need_X11_within_n34 rfl rfl rfl nm_X5_34 (List.mem_of_getElem? (i := 4) rfl) (List.mem_of_getElem? (i := 3) rfl) (by decide +kernel) ⟨Nat.le_of_ble_eq_true rfl, Nat.le_of_ble_eq_true rfl⟩ rfl hl.1 rfl (Nat.le_of_ble_eq_true rfl) dX5_need_4 ⟨Nat.zero_le _, Nat.zero_le _⟩ (fun y4 hw => ?_)
  refine lv_if_eq (tgt := 30) S.1 S.2.1 dX5_need_7 (by decide) (fun c7 => ?_) (fun c7 => ?_)
  · have hw := hw.1 c7
    exact b30 u hw H locs ls hI (lv_sub hl [0] rfl)
  · have hw := hw.2 c7
    refine lv_iload_n S.1 S.2.1 dX5_need_10 rfl (lv_at hl 2 rfl) ?_
    refine lv_iconst (v := 1) S.1 S.2.1 dX5_need_11 (by decide) ?_
    refine lv_bipush (v := 31) S.1 S.2.1 dX5_need_12 (by decide) ?_
    refine m_siN (As := [.int a2, .int (1 : Int32), .int (31 : Int32)]) (rest := []) S hI.2.2.2.1.2.1 (c_X11_within l a2 (1 : Int32) (31 : Int32) _ hw) 3 gX5_need_X11_within_n34 rfl rfl rfl nm_X5_34 (List.mem_of_getElem? (i := 4) rfl) (List.mem_of_getElem? (i := 3) rfl) (by decide +kernel) ⟨Nat.le_of_ble_eq_true rfl, Nat.le_of_ble_eq_true rfl⟩ rfl hl.1 rfl (Nat.le_of_ble_eq_true rfl) dX5_need_14 ⟨Nat.zero_le _, Nat.zero_le _⟩ (fun y14 hw => ?_)
    refine lv_if_eq (tgt := 30) S.1 S.2.1 dX5_need_17 (by decide) (fun c17 => ?_) (fun c17 => ?_)
    · have hw := hw.1 c17
      exact b30 u hw H locs ls hI (lv_sub hl [0] rfl)
    · have hw := hw.2 c17
      refine lv_iload_n S.1 S.2.1 dX5_need_20 rfl (lv_at hl 3 rfl) ?_
      refine lv_iconst (v := 1) S.1 S.2.1 dX5_need_21 (by decide) ?_
      refine lv_bipush (v := 31) S.1 S.2.1 dX5_need_22 (by decide) ?_
      refine m_siN (As := [.int a3, .int (1 : Int32), .int (31 : Int32)]) (rest := []) S hI.2.2.2.1.2.1 (c_X11_within l a3 (1 : Int32) (31 : Int32) _ hw) 3 gX5_need_X11_within_n34 rfl rfl rfl nm_X5_34 (List.mem_of_getElem? (i := 4) rfl) (List.mem_of_getElem? (i := 3) rfl) (by decide +kernel) ⟨Nat.le_of_ble_eq_true rfl, Nat.le_of_ble_eq_true rfl⟩ rfl hl.1 rfl (Nat.le_of_ble_eq_true rfl) dX5_need_24 ⟨Nat.zero_le _, Nat.zero_le _⟩ (fun y24 hw => ?_)
      refine lv_if_ne (tgt := 33) S.1 S.2.1 dX5_need_27 (by decide) (fun c27 => ?_) (fun c27 => ?_)
      · have hw := hw.1 c27
        refine lv_aload_n S.1 S.2.1 dX5_need_33 rfl (lv_at hl 0 rfl) ?_
        refine m_get S hin hI 0 (W5_at0 h r q cs u) rfl 0 (Nat.le_of_ble_eq_true rfl) (List.mem_of_getElem? (i := 2) rfl) rfl (Ff5_at0 r u) dX5_need_34 ?_
        refine lv_iload_n S.1 S.2.1 dX5_need_37 rfl (lv_at hl 1 rfl) ?_
        have hj38 := mlt hw.1
        refine m_aald S hI 1 4 (W5_go0 h r q cs u) rfl hw.1 dX5_need_38 ?_
        have hw := hw.2
        refine lv_iload_n S.1 S.2.1 dX5_need_39 rfl (lv_at hl 2 rfl) ?_
        refine lv_bipush (v := 32) S.1 S.2.1 dX5_need_40 (by decide) ?_
        refine lv_imul S.1 S.2.1 dX5_need_42 ?_
        refine lv_topi (fun y42 ey42 => ?_)
        have hw := hw y42 ey42
        refine lv_iload_n S.1 S.2.1 dX5_need_43 rfl (lv_at hl 3 rfl) ?_
        refine lv_iadd S.1 S.2.1 dX5_need_44 ?_
        refine lv_topi (fun y44 ey44 => ?_)
        have hw := hw y44 ey44
        refine m_iald S hI (2 + a1.toNatClampNeg) 0 (W5_gr0 h r q cs u hj38) rfl hw.1 dX5_need_45 ?_
        refine lv_topi (fun y45 ey45 => ?_)
        have hw := hw.2 y45 ey45
        subst hZ
        exact m_iret S hr hlocks hI hw dX5_need_46
      · have hw := hw.2 c27
        exact b30 u hw H locs ls hI (lv_sub hl [0] rfl)

def wp_X5_bestIn_p69 (x4 : Int32) (u : ST) (Q : Int32 → ST → Prop) : Prop :=
  Q x4 u
def wp_X5_bestIn_p7b (x1 : Int32) (x2 : Int32) (x3 : Int32) (x4 : Int32) (x5 : Int32) (u : ST) (B7 : Int32 → Int32 → Int32 → Int32 → Int32 → ST → Prop) (Q : Int32 → ST → Prop) : Prop :=
  ((x2 ≤ x5 → wp_X5_bestIn_p69 x4 u Q) ∧ (¬ x2 ≤ x5 → (∀ y16 : Int32, y16 = x1 - (1 : Int32) → (wp_X5_need y16 x5 x3 u (fun y20 u20 => (∀ y30 : Int32, y30 = x2 - x5 → (wp_X5_need x1 y30 x3 u20 (fun y32 u32 => (∀ y44 : Int32, y44 = (if y20 < y32 then y32 else y20) → (∀ y47 : Int32, y47 = (1 : Int32) + y44 → (∀ y48 : Int32, y48 = (if y47 < x4 then y47 else x4) → ((y20 < y32 → (∀ y63 : Int32, y63 = x5 + 1 → B7 x1 x2 x3 y48 y63 u32)) ∧ (¬ y20 < y32 → wp_X5_bestIn_p69 y48 u32 Q)))))))))))))
def wp_X5_bestIn_p7 (x1 : Int32) (x2 : Int32) (x3 : Int32) (x4 : Int32) (x5 : Int32) (u : ST) (Q : Int32 → ST → Prop) : Prop := ∃ (I : Int32 → Int32 → Int32 → Int32 → Int32 → ST → Prop) (μ : Int32 → Int32 → Int32 → Int32 → Int32 → ST → Nat), I x1 x2 x3 x4 x5 u ∧ ∀ (x1 : Int32) (x2 : Int32) (x3 : Int32) (x4 : Int32) (x5 : Int32) (u : ST), I x1 x2 x3 x4 x5 u → wp_X5_bestIn_p7b x1 x2 x3 x4 x5 u (fun yx1 yx2 yx3 yx4 yx5 yu => I yx1 yx2 yx3 yx4 yx5 yu ∧ μ yx1 yx2 yx3 yx4 yx5 yu < μ x1 x2 x3 x4 x5 u) Q
def wp_X5_bestIn (a1 : Int32) (a2 : Int32) (a3 : Int32) (u : ST) (Q : Int32 → ST → Prop) : Prop :=
  wp_X5_bestIn_p7 a1 a2 a3 (268435456 : Int32) (1 : Int32) u Q
set_option maxHeartbeats 4000000 in
set_option maxRecDepth 100000 in
theorem c_X5_bestIn (l : Launch) (D : va_G) (h : Nat) (r : Nat → Nat) (q : Nat → Nat → Nat) (cs : Nat → ClassId) (a1 : Int32) (a2 : Int32) (a3 : Int32) (u : ST) (Q : Int32 → ST → Prop) (hw : wp_X5_bestIn a1 a2 a3 u Q) : mCi l yX5_bestIn wsX5_bestIn ({ frames := 2, cells := 0, slots := 0, locals := 45 } : Room) 0 0 D (mT cs) (W5 h r q cs) [.ref h, .int a1, .int a2, .int a3] u Q := by
  unfold mCi
  refine m_enter (QQ := fun A => va_Qi Q (mPos D (mT cs) A (W5 h r q cs)) A) (cc := cX5_bestIn) (maxL := 8) (ret := (some .int)) (by decide) rfl (Nat.le_of_ble_eq_true rfl) ?_
  intro p e s m args below meth c A ls S hr hlocks hname hl hI
  have S : CallFix p m c cX5_bestIn 8 s args wsX5_bestIn RX5 := S
  show W p l e ({ frames := 2, cells := 0, slots := 0, locals := 45 } : Room) s m args below meth c s.heap [] 0 0 (MQ below (va_Qi Q (mPos D (mT cs) A (W5 h r q cs)) A) args s 0 0 A) (F0 m 0 ls [])
  generalize hZ : MQ below (va_Qi Q (mPos D (mT cs) A (W5 h r q cs)) A) args s 0 0 A = Z
  have hin : ∀ w ∈ wsX50, w ∈ wsX5_bestIn := fun _ h => List.mem_cons_of_mem _ (List.mem_append_right _ h)
  have hl : lv_has ls 8 [(0, .ref h), (1, .int a1), (2, .int a2), (3, .int a3)] := hl
  have b69 : ∀ (x4 : Int32) (u : ST), wp_X5_bestIn_p69 x4 u Q → mGo p l e ({ frames := 2, cells := 0, slots := 0, locals := 45 } : Room) s m args below meth c A Z 8 D (mT cs) (W5 h r q cs) 69 [(0, .ref h), (4, .int x4)] [] u := by
    intro x4 u hw H locs ls hI hl
    unfold wp_X5_bestIn_p69 at hw
    refine lv_iload S.1 S.2.1 dX5_bestIn_69 (lv_at hl 1 rfl) ?_
    subst hZ
    exact m_iret S hr hlocks hI hw dX5_bestIn_71
  have b7b : ∀ (B7 : Int32 → Int32 → Int32 → Int32 → Int32 → ST → Prop), (∀ (x1 : Int32) (x2 : Int32) (x3 : Int32) (x4 : Int32) (x5 : Int32) (u : ST), B7 x1 x2 x3 x4 x5 u → mGo p l e ({ frames := 2, cells := 0, slots := 0, locals := 45 } : Room) s m args below meth c A Z 8 D (mT cs) (W5 h r q cs) 7 [(0, .ref h), (1, .int x1), (2, .int x2), (3, .int x3), (4, .int x4), (5, .int x5)] [] u) → ∀ (x1 : Int32) (x2 : Int32) (x3 : Int32) (x4 : Int32) (x5 : Int32) (u : ST), wp_X5_bestIn_p7b x1 x2 x3 x4 x5 u B7 Q → mGo p l e ({ frames := 2, cells := 0, slots := 0, locals := 45 } : Room) s m args below meth c A Z 8 D (mT cs) (W5 h r q cs) 7 [(0, .ref h), (1, .int x1), (2, .int x2), (3, .int x3), (4, .int x4), (5, .int x5)] [] u := by
    intro B7 hB7 x1 x2 x3 x4 x5 u hw H locs ls hI hl
    unfold wp_X5_bestIn_p7b at hw
    refine lv_iload S.1 S.2.1 dX5_bestIn_7 (lv_at hl 5 rfl) ?_
    refine lv_iload_n S.1 S.2.1 dX5_bestIn_9 rfl (lv_at hl 2 rfl) ?_
    refine lv_icmp_ge (tgt := 69) S.1 S.2.1 dX5_bestIn_10 (by decide) (fun c10 => ?_) (fun c10 => ?_)
    · have hw := hw.1 c10
      exact b69 x4 u hw H locs ls hI (lv_sub hl [0, 4] rfl)
    · have hw := hw.2 c10
      refine lv_aload_n S.1 S.2.1 dX5_bestIn_13 rfl (lv_at hl 0 rfl) ?_
      refine lv_iload_n S.1 S.2.1 dX5_bestIn_14 rfl (lv_at hl 1 rfl) ?_
      refine lv_iconst (v := 1) S.1 S.2.1 dX5_bestIn_15 (by decide) ?_
      refine lv_isub S.1 S.2.1 dX5_bestIn_16 ?_
      refine lv_topi (fun y16 ey16 => ?_)
      have hw := hw y16 ey16
      refine lv_iload S.1 S.2.1 dX5_bestIn_17 (lv_at hl 5 rfl) ?_
      refine lv_iload_n S.1 S.2.1 dX5_bestIn_19 rfl (lv_at hl 3 rfl) ?_
      refine m_vi (As := [.int y16, .int x5, .int x3]) (rest := []) S (W5_self h r q cs) hI rfl (c_X5_need l D h r q cs y16 x5 x3 u _ hw) (cwV 3 S.2.2.2.2 gX5_bestIn_X5_need rfl rfl rfl (by decide +kernel) ⟨Nat.le_of_ble_eq_true rfl, Nat.le_of_ble_eq_true rfl⟩) (W5_at0 h r q cs u) rfl rfl hl.1 rfl (Nat.le_of_ble_eq_true rfl) dX5_bestIn_20 ⟨Nat.zero_le _, Nat.zero_le _⟩ (fun y20 u20 H locs hw hI => ?_)
      refine lv_istore (lv' := [(6, .int y20), (0, .ref h), (1, .int x1), (2, .int x2), (3, .int x3), (4, .int x4), (5, .int x5)]) S.1 S.2.1 dX5_bestIn_23 hl (by decide) rfl (fun ls hl => ?_)
      refine lv_aload_n S.1 S.2.1 dX5_bestIn_25 rfl (lv_at hl 1 rfl) ?_
      refine lv_iload_n S.1 S.2.1 dX5_bestIn_26 rfl (lv_at hl 2 rfl) ?_
      refine lv_iload_n S.1 S.2.1 dX5_bestIn_27 rfl (lv_at hl 3 rfl) ?_
      refine lv_iload S.1 S.2.1 dX5_bestIn_28 (lv_at hl 6 rfl) ?_
      refine lv_isub S.1 S.2.1 dX5_bestIn_30 ?_
      refine lv_topi (fun y30 ey30 => ?_)
      have hw := hw y30 ey30
      refine lv_iload_n S.1 S.2.1 dX5_bestIn_31 rfl (lv_at hl 4 rfl) ?_
      refine m_vi (As := [.int x1, .int y30, .int x3]) (rest := []) S (W5_self h r q cs) hI rfl (c_X5_need l D h r q cs x1 y30 x3 u20 _ hw) (cwV 3 S.2.2.2.2 gX5_bestIn_X5_need rfl rfl rfl (by decide +kernel) ⟨Nat.le_of_ble_eq_true rfl, Nat.le_of_ble_eq_true rfl⟩) (W5_at0 h r q cs u20) rfl rfl hl.1 rfl (Nat.le_of_ble_eq_true rfl) dX5_bestIn_32 ⟨Nat.zero_le _, Nat.zero_le _⟩ (fun y32 u32 H locs hw hI => ?_)
      refine lv_istore (lv' := [(7, .int y32), (6, .int y20), (0, .ref h), (1, .int x1), (2, .int x2), (3, .int x3), (4, .int x4), (5, .int x5)]) S.1 S.2.1 dX5_bestIn_35 hl (by decide) rfl (fun ls hl => ?_)
      refine lv_iload S.1 S.2.1 dX5_bestIn_37 (lv_at hl 6 rfl) ?_
      refine lv_iconst (v := 1) S.1 S.2.1 dX5_bestIn_39 (by decide) ?_
      refine lv_iload S.1 S.2.1 dX5_bestIn_40 (lv_at hl 1 rfl) ?_
      refine lv_iload S.1 S.2.1 dX5_bestIn_42 (lv_at hl 0 rfl) ?_
      refine va_mmax S.1 S.2.1 (S.2.2.1.trans hl.1.symm) S.2.2.2.1 (S.2.2.2.2 _ (List.mem_of_getElem? (i := 2) rfl)) (S.2.2.2.2 _ (List.mem_of_getElem? (i := 3) rfl)) (S.2.2.2.2 _ (List.mem_of_getElem? (i := 4) rfl)) (S.2.2.2.2 _ (List.mem_of_getElem? (i := 5) rfl)) (Nat.le_of_ble_eq_true rfl) (Nat.le_of_ble_eq_true rfl) (Nat.zero_le _) (Nat.zero_le _) dX5_bestIn_44 ?_
      refine lv_topi (fun y44 ey44 => ?_)
      have hw := hw y44 ey44
      refine lv_iadd S.1 S.2.1 dX5_bestIn_47 ?_
      refine lv_topi (fun y47 ey47 => ?_)
      have hw := hw y47 ey47
      refine va_mmin S.1 S.2.1 (S.2.2.1.trans hl.1.symm) S.2.2.2.1 (S.2.2.2.2 _ (List.mem_of_getElem? (i := 6) rfl)) (S.2.2.2.2 _ (List.mem_of_getElem? (i := 7) rfl)) (S.2.2.2.2 _ (List.mem_of_getElem? (i := 4) rfl)) (S.2.2.2.2 _ (List.mem_of_getElem? (i := 8) rfl)) (Nat.le_of_ble_eq_true rfl) (Nat.le_of_ble_eq_true rfl) (Nat.zero_le _) (Nat.zero_le _) dX5_bestIn_48 ?_
      refine lv_topi (fun y48 ey48 => ?_)
      have hw := hw y48 ey48
      refine lv_istore (lv' := [(4, .int y48), (7, .int y32), (6, .int y20), (0, .ref h), (1, .int x1), (2, .int x2), (3, .int x3), (5, .int x5)]) S.1 S.2.1 dX5_bestIn_51 hl (by decide) rfl (fun ls hl => ?_)
      refine lv_iload S.1 S.2.1 dX5_bestIn_53 (lv_at hl 2 rfl) ?_
      refine lv_iload S.1 S.2.1 dX5_bestIn_55 (lv_at hl 1 rfl) ?_
      refine lv_icmp_lt (tgt := 63) S.1 S.2.1 dX5_bestIn_57 (by decide) (fun c57 => ?_) (fun c57 => ?_)
      · have hw := hw.1 c57
        obtain ⟨y63, ey63⟩ : ∃ z : Int32, z = x5 + 1 := ⟨_, rfl⟩
        have hw := hw y63 ey63
        refine lv_iinc (v := y63) (lv' := [(5, .int y63), (4, .int y48), (7, .int y32), (6, .int y20), (0, .ref h), (1, .int x1), (2, .int x2), (3, .int x3)]) S.1 S.2.1 dX5_bestIn_63 hl (k := 7) rfl (by rw [ey63]; rfl) (by decide) rfl (fun ls hl => ?_)
        refine lv_goto (tgt := 7) S.1 S.2.1 dX5_bestIn_66 (by decide) ?_
        exact hB7 x1 x2 x3 y48 y63 u32 hw H locs ls hI (lv_sub hl [4, 5, 6, 7, 1, 0] rfl)
      · have hw := hw.2 c57
        refine lv_goto (tgt := 69) S.1 S.2.1 dX5_bestIn_60 (by decide) ?_
        exact b69 y48 u32 hw H locs ls hI (lv_sub hl [3, 0] rfl)
  have b7 : ∀ (x1 : Int32) (x2 : Int32) (x3 : Int32) (x4 : Int32) (x5 : Int32) (u : ST), wp_X5_bestIn_p7 x1 x2 x3 x4 x5 u Q → mGo p l e ({ frames := 2, cells := 0, slots := 0, locals := 45 } : Room) s m args below meth c A Z 8 D (mT cs) (W5 h r q cs) 7 [(0, .ref h), (1, .int x1), (2, .int x2), (3, .int x3), (4, .int x4), (5, .int x5)] [] u := by
    intro x1 x2 x3 x4 x5 u hw
    obtain ⟨I, μ, h0, hs⟩ := hw
    have key : ∀ (n : Nat) (x1 : Int32) (x2 : Int32) (x3 : Int32) (x4 : Int32) (x5 : Int32) (u : ST), μ x1 x2 x3 x4 x5 u = n → I x1 x2 x3 x4 x5 u → mGo p l e ({ frames := 2, cells := 0, slots := 0, locals := 45 } : Room) s m args below meth c A Z 8 D (mT cs) (W5 h r q cs) 7 [(0, .ref h), (1, .int x1), (2, .int x2), (3, .int x3), (4, .int x4), (5, .int x5)] [] u := by
      intro n
      induction n using Nat.strongRecOn with
      | ind n ih =>
        intro x1 x2 x3 x4 x5 u hn hi
        exact b7b (fun yx1 yx2 yx3 yx4 yx5 yu => I yx1 yx2 yx3 yx4 yx5 yu ∧ μ yx1 yx2 yx3 yx4 yx5 yu < μ x1 x2 x3 x4 x5 u) (fun yx1 yx2 yx3 yx4 yx5 yu hb => ih _ (hn ▸ hb.2) yx1 yx2 yx3 yx4 yx5 yu rfl hb.1) x1 x2 x3 x4 x5 u (hs x1 x2 x3 x4 x5 u hi)
    exact key _ x1 x2 x3 x4 x5 u rfl h0
  unfold wp_X5_bestIn at hw
  obtain ⟨H, hH⟩ : ∃ z : Heap, z = s.heap := ⟨_, rfl⟩
  obtain ⟨locs, hL⟩ : ∃ z : List Loc, z = [] := ⟨_, rfl⟩
  rw [show W p l e ({ frames := 2, cells := 0, slots := 0, locals := 45 } : Room) s m args below meth c s.heap [] 0 0 Z (F0 m 0 ls []) = W p l e ({ frames := 2, cells := 0, slots := 0, locals := 45 } : Room) s m args below meth c H locs 0 0 Z (F0 m 0 ls []) by rw [hH, hL]]
  replace hI : mI D (mT cs) A s.heap s (W5 h r q cs u) H locs := by rw [hH, hL]; exact hI
  refine lv_ldc S.1 S.2.1 S.2.2.2.1 (S.2.2.2.2 _ (List.mem_of_getElem? (i := 1) rfl)) dX5_bestIn_0 ?_
  refine lv_istore (lv' := [(4, .int (268435456 : Int32)), (0, .ref h), (1, .int a1), (2, .int a2), (3, .int a3)]) S.1 S.2.1 dX5_bestIn_2 hl (by decide) rfl (fun ls hl => ?_)
  refine lv_iconst (v := 1) S.1 S.2.1 dX5_bestIn_4 (by decide) ?_
  refine lv_istore (lv' := [(5, .int (1 : Int32)), (4, .int (268435456 : Int32)), (0, .ref h), (1, .int a1), (2, .int a2), (3, .int a3)]) S.1 S.2.1 dX5_bestIn_5 hl (by decide) rfl (fun ls hl => ?_)
  exact b7 a1 a2 a3 (268435456 : Int32) (1 : Int32) u hw H locs ls hI (lv_sub hl [2, 3, 4, 5, 1, 0] rfl)

def wp_X5_fill_p31 (x1 : Int32) (x2 : Int32) (x3 : Int32) (t0 : Int32) (u : ST) (Q : ST → Prop) : Prop :=
  (vp_in x1 7 ∧ (∀ y42 : Int32, y42 = x2 * (32 : Int32) → (∀ y44 : Int32, y44 = y42 + x3 → (vp_in y44 1024 ∧ ∀ u47 : ST, u47 = sG u 0 (mu (gG u 0) x1.toNatClampNeg (upd (gG u 0 x1.toNatClampNeg) y44.toNatClampNeg t0)) → (vp_in x1 7 ∧ (∀ y57 : Int32, y57 = x3 * (32 : Int32) → (∀ y59 : Int32, y59 = y57 + x2 → (vp_in y59 1024 ∧ ∀ u62 : ST, u62 = sG u47 0 (mu (gG u47 0) x1.toNatClampNeg (upd (gG u47 0 x1.toNatClampNeg) y59.toNatClampNeg t0)) → Q u62))))))))
def wp_X5_fill_p14 (x1 : Int32) (x2 : Int32) (x3 : Int32) (u : ST) (Q : ST → Prop) : Prop :=
  (wp_X5_bestIn x1 x2 x3 u (fun y18 u18 => (wp_X5_bestIn x1 x3 x2 u18 (fun y25 u25 => (∀ y28 : Int32, y28 = (if y25 < y18 then y25 else y18) → wp_X5_fill_p31 x1 x2 x3 y28 u25 Q)))))
def wp_X5_fill (a1 : Int32) (a2 : Int32) (a3 : Int32) (u : ST) (Q : ST → Prop) : Prop :=
  ((¬ a2 = (1 : Int32) → wp_X5_fill_p14 a1 a2 a3 u Q) ∧ (a2 = (1 : Int32) → ((¬ a3 = (1 : Int32) → wp_X5_fill_p14 a1 a2 a3 u Q) ∧ (a3 = (1 : Int32) → wp_X5_fill_p31 a1 a2 a3 (0 : Int32) u Q))))
set_option maxHeartbeats 4000000 in
set_option maxRecDepth 100000 in
theorem c_X5_fill (l : Launch) (D : va_G) (h : Nat) (r : Nat → Nat) (q : Nat → Nat → Nat) (cs : Nat → ClassId) (a1 : Int32) (a2 : Int32) (a3 : Int32) (u : ST) (Q : ST → Prop) (hw : wp_X5_fill a1 a2 a3 u Q) : mCv l yX5_fill wsX5_fill ({ frames := 3, cells := 0, slots := 0, locals := 72 } : Room) 0 0 D (mT cs) (W5 h r q cs) [.ref h, .int a1, .int a2, .int a3] u Q := by
  unfold mCv
  refine m_enter (QQ := fun A => va_Qv Q (mPos D (mT cs) A (W5 h r q cs)) A) (cc := cX5_fill) (maxL := 5) (ret := none) (by decide) rfl (Nat.le_of_ble_eq_true rfl) ?_
  intro p e s m args below meth c A ls S hr hlocks hname hl hI
  have S : CallFix p m c cX5_fill 5 s args wsX5_fill RX5 := S
  show W p l e ({ frames := 3, cells := 0, slots := 0, locals := 72 } : Room) s m args below meth c s.heap [] 0 0 (MQ below (va_Qv Q (mPos D (mT cs) A (W5 h r q cs)) A) args s 0 0 A) (F0 m 0 ls [])
  generalize hZ : MQ below (va_Qv Q (mPos D (mT cs) A (W5 h r q cs)) A) args s 0 0 A = Z
  have hin : ∀ w ∈ wsX50, w ∈ wsX5_fill := fun _ h => List.mem_cons_of_mem _ (List.mem_append_right _ h)
  have hl : lv_has ls 5 [(0, .ref h), (1, .int a1), (2, .int a2), (3, .int a3)] := hl
  have b31 : ∀ (x1 : Int32) (x2 : Int32) (x3 : Int32) (t0 : Int32) (u : ST), wp_X5_fill_p31 x1 x2 x3 t0 u Q → mGo p l e ({ frames := 3, cells := 0, slots := 0, locals := 72 } : Room) s m args below meth c A Z 5 D (mT cs) (W5 h r q cs) 31 [(0, .ref h), (1, .int x1), (2, .int x2), (3, .int x3)] [.int t0] u := by
    intro x1 x2 x3 t0 u hw H locs ls hI hl
    unfold wp_X5_fill_p31 at hw
    refine lv_istore (lv' := [(4, .int t0), (0, .ref h), (1, .int x1), (2, .int x2), (3, .int x3)]) S.1 S.2.1 dX5_fill_31 hl (by decide) rfl (fun ls hl => ?_)
    refine lv_aload_n S.1 S.2.1 dX5_fill_33 rfl (lv_at hl 1 rfl) ?_
    refine m_get S hin hI 0 (W5_at0 h r q cs u) rfl 0 (Nat.le_of_ble_eq_true rfl) (List.mem_of_getElem? (i := 5) rfl) rfl (Ff5_at0 r u) dX5_fill_34 ?_
    refine lv_iload_n S.1 S.2.1 dX5_fill_37 rfl (lv_at hl 2 rfl) ?_
    have hj38 := mlt hw.1
    refine m_aald S hI 1 4 (W5_go0 h r q cs u) rfl hw.1 dX5_fill_38 ?_
    have hw := hw.2
    refine lv_iload_n S.1 S.2.1 dX5_fill_39 rfl (lv_at hl 3 rfl) ?_
    refine lv_bipush (v := 32) S.1 S.2.1 dX5_fill_40 (by decide) ?_
    refine lv_imul S.1 S.2.1 dX5_fill_42 ?_
    refine lv_topi (fun y42 ey42 => ?_)
    have hw := hw y42 ey42
    refine lv_iload_n S.1 S.2.1 dX5_fill_43 rfl (lv_at hl 4 rfl) ?_
    refine lv_iadd S.1 S.2.1 dX5_fill_44 ?_
    refine lv_topi (fun y44 ey44 => ?_)
    have hw := hw y44 ey44
    refine lv_iload S.1 S.2.1 dX5_fill_45 (lv_at hl 0 rfl) ?_
    obtain ⟨u47, eu47⟩ : ∃ z : ST, z = sG u 0 (mu (gG u 0) x1.toNatClampNeg (upd (gG u 0 x1.toNatClampNeg) y44.toNatClampNeg t0)) := ⟨_, rfl⟩
    refine m_iast S hI (2 + x1.toNatClampNeg) 0 (W5_gr0 h r q cs u hj38) rfl hw.1 (W5_sG0 h r q cs u u47 hj38 _ eu47) dX5_fill_47 (fun H locs hI => ?_)
    have hw := hw.2 u47 eu47
    refine lv_aload_n S.1 S.2.1 dX5_fill_48 rfl (lv_at hl 1 rfl) ?_
    refine m_get S hin hI 0 (W5_at0 h r q cs u47) rfl 0 (Nat.le_of_ble_eq_true rfl) (List.mem_of_getElem? (i := 5) rfl) rfl (Ff5_at0 r u47) dX5_fill_49 ?_
    refine lv_iload_n S.1 S.2.1 dX5_fill_52 rfl (lv_at hl 2 rfl) ?_
    have hj53 := mlt hw.1
    refine m_aald S hI 1 4 (W5_go0 h r q cs u47) rfl hw.1 dX5_fill_53 ?_
    have hw := hw.2
    refine lv_iload_n S.1 S.2.1 dX5_fill_54 rfl (lv_at hl 4 rfl) ?_
    refine lv_bipush (v := 32) S.1 S.2.1 dX5_fill_55 (by decide) ?_
    refine lv_imul S.1 S.2.1 dX5_fill_57 ?_
    refine lv_topi (fun y57 ey57 => ?_)
    have hw := hw y57 ey57
    refine lv_iload_n S.1 S.2.1 dX5_fill_58 rfl (lv_at hl 3 rfl) ?_
    refine lv_iadd S.1 S.2.1 dX5_fill_59 ?_
    refine lv_topi (fun y59 ey59 => ?_)
    have hw := hw y59 ey59
    refine lv_iload S.1 S.2.1 dX5_fill_60 (lv_at hl 0 rfl) ?_
    obtain ⟨u62, eu62⟩ : ∃ z : ST, z = sG u47 0 (mu (gG u47 0) x1.toNatClampNeg (upd (gG u47 0 x1.toNatClampNeg) y59.toNatClampNeg t0)) := ⟨_, rfl⟩
    refine m_iast S hI (2 + x1.toNatClampNeg) 0 (W5_gr0 h r q cs u47 hj53) rfl hw.1 (W5_sG0 h r q cs u47 u62 hj53 _ eu62) dX5_fill_62 (fun H locs hI => ?_)
    have hw := hw.2 u62 eu62
    subst hZ
    exact m_vret S hr hlocks hI hw dX5_fill_63
  have b14 : ∀ (x1 : Int32) (x2 : Int32) (x3 : Int32) (u : ST), wp_X5_fill_p14 x1 x2 x3 u Q → mGo p l e ({ frames := 3, cells := 0, slots := 0, locals := 72 } : Room) s m args below meth c A Z 5 D (mT cs) (W5 h r q cs) 14 [(0, .ref h), (1, .int x1), (2, .int x2), (3, .int x3)] [] u := by
    intro x1 x2 x3 u hw H locs ls hI hl
    unfold wp_X5_fill_p14 at hw
    refine lv_aload_n S.1 S.2.1 dX5_fill_14 rfl (lv_at hl 0 rfl) ?_
    refine lv_iload_n S.1 S.2.1 dX5_fill_15 rfl (lv_at hl 1 rfl) ?_
    refine lv_iload_n S.1 S.2.1 dX5_fill_16 rfl (lv_at hl 2 rfl) ?_
    refine lv_iload_n S.1 S.2.1 dX5_fill_17 rfl (lv_at hl 3 rfl) ?_
    refine m_vi (As := [.int x1, .int x2, .int x3]) (rest := []) S (W5_self h r q cs) hI rfl (c_X5_bestIn l D h r q cs x1 x2 x3 u _ hw) (cwV 3 S.2.2.2.2 gX5_fill_X5_bestIn rfl rfl rfl (by decide +kernel) ⟨Nat.le_of_ble_eq_true rfl, Nat.le_of_ble_eq_true rfl⟩) (W5_at0 h r q cs u) rfl rfl hl.1 rfl (Nat.le_of_ble_eq_true rfl) dX5_fill_18 ⟨Nat.zero_le _, Nat.zero_le _⟩ (fun y18 u18 H locs hw hI => ?_)
    refine lv_aload_n S.1 S.2.1 dX5_fill_21 rfl (lv_at hl 0 rfl) ?_
    refine lv_iload_n S.1 S.2.1 dX5_fill_22 rfl (lv_at hl 1 rfl) ?_
    refine lv_iload_n S.1 S.2.1 dX5_fill_23 rfl (lv_at hl 3 rfl) ?_
    refine lv_iload_n S.1 S.2.1 dX5_fill_24 rfl (lv_at hl 2 rfl) ?_
    refine m_vi (As := [.int x1, .int x3, .int x2]) (rest := [.int y18]) S (W5_self h r q cs) hI rfl (c_X5_bestIn l D h r q cs x1 x3 x2 u18 _ hw) (cwV 3 S.2.2.2.2 gX5_fill_X5_bestIn rfl rfl rfl (by decide +kernel) ⟨Nat.le_of_ble_eq_true rfl, Nat.le_of_ble_eq_true rfl⟩) (W5_at0 h r q cs u18) rfl rfl hl.1 rfl (Nat.le_of_ble_eq_true rfl) dX5_fill_25 ⟨Nat.zero_le _, Nat.zero_le _⟩ (fun y25 u25 H locs hw hI => ?_)
    refine va_mmin S.1 S.2.1 (S.2.2.1.trans hl.1.symm) S.2.2.2.1 (S.2.2.2.2 _ (List.mem_of_getElem? (i := 1) rfl)) (S.2.2.2.2 _ (List.mem_of_getElem? (i := 2) rfl)) (S.2.2.2.2 _ (List.mem_of_getElem? (i := 3) rfl)) (S.2.2.2.2 _ (List.mem_of_getElem? (i := 4) rfl)) (Nat.le_of_ble_eq_true rfl) (Nat.le_of_ble_eq_true rfl) (Nat.zero_le _) (Nat.zero_le _) dX5_fill_28 ?_
    refine lv_topi (fun y28 ey28 => ?_)
    have hw := hw y28 ey28
    exact b31 x1 x2 x3 y28 u25 hw H locs ls hI (lv_sub hl [0, 1, 2, 3] rfl)
  unfold wp_X5_fill at hw
  obtain ⟨H, hH⟩ : ∃ z : Heap, z = s.heap := ⟨_, rfl⟩
  obtain ⟨locs, hL⟩ : ∃ z : List Loc, z = [] := ⟨_, rfl⟩
  rw [show W p l e ({ frames := 3, cells := 0, slots := 0, locals := 72 } : Room) s m args below meth c s.heap [] 0 0 Z (F0 m 0 ls []) = W p l e ({ frames := 3, cells := 0, slots := 0, locals := 72 } : Room) s m args below meth c H locs 0 0 Z (F0 m 0 ls []) by rw [hH, hL]]
  replace hI : mI D (mT cs) A s.heap s (W5 h r q cs u) H locs := by rw [hH, hL]; exact hI
  refine lv_iload_n S.1 S.2.1 dX5_fill_0 rfl (lv_at hl 2 rfl) ?_
  refine lv_iconst (v := 1) S.1 S.2.1 dX5_fill_1 (by decide) ?_
  refine lv_icmp_ne (tgt := 14) S.1 S.2.1 dX5_fill_2 (by decide) (fun c2 => ?_) (fun c2 => ?_)
  · have hw := hw.1 c2
    exact b14 a1 a2 a3 u hw H locs ls hI (lv_sub hl [0, 1, 2, 3] rfl)
  · have hw := hw.2 c2
    refine lv_iload_n S.1 S.2.1 dX5_fill_5 rfl (lv_at hl 3 rfl) ?_
    refine lv_iconst (v := 1) S.1 S.2.1 dX5_fill_6 (by decide) ?_
    refine lv_icmp_ne (tgt := 14) S.1 S.2.1 dX5_fill_7 (by decide) (fun c7 => ?_) (fun c7 => ?_)
    · have hw := hw.1 c7
      exact b14 a1 a2 a3 u hw H locs ls hI (lv_sub hl [0, 1, 2, 3] rfl)
    · have hw := hw.2 c7
      refine lv_iconst (v := 0) S.1 S.2.1 dX5_fill_10 (by decide) ?_
      refine lv_goto (tgt := 31) S.1 S.2.1 dX5_fill_11 (by decide) ?_
      exact b31 a1 a2 a3 (0 : Int32) u hw H locs ls hI (lv_sub hl [0, 1, 2, 3] rfl)

def wp_X5_prepare_p31b (x1 : Int32) (x2 : Int32) (x3 : Int32) (u : ST) (B15 : Int32 → ST → Prop) (B23 : Int32 → Int32 → ST → Prop) (B31 : Int32 → Int32 → Int32 → ST → Prop) (Q : ST → Prop) : Prop :=
  ((x2 < x3 → (∀ y49 : Int32, y49 = x2 + 1 → B23 x1 y49 u)) ∧ (¬ x2 < x3 → (wp_X5_fill x1 x2 x3 u (fun u40 => (∀ y43 : Int32, y43 = x3 + 1 → B31 x1 x2 y43 u40)))))
def wp_X5_prepare_p31 (x1 : Int32) (x2 : Int32) (x3 : Int32) (u : ST) (B15 : Int32 → ST → Prop) (B23 : Int32 → Int32 → ST → Prop) (Q : ST → Prop) : Prop := ∃ (I : Int32 → Int32 → Int32 → ST → Prop) (μ : Int32 → Int32 → Int32 → ST → Nat), I x1 x2 x3 u ∧ ∀ (x1 : Int32) (x2 : Int32) (x3 : Int32) (u : ST), I x1 x2 x3 u → wp_X5_prepare_p31b x1 x2 x3 u B15 B23 (fun yx1 yx2 yx3 yu => I yx1 yx2 yx3 yu ∧ μ yx1 yx2 yx3 yu < μ x1 x2 x3 u) Q
def wp_X5_prepare_p23b (x1 : Int32) (x2 : Int32) (u : ST) (B15 : Int32 → ST → Prop) (B23 : Int32 → Int32 → ST → Prop) (Q : ST → Prop) : Prop :=
  (((32 : Int32) ≤ x2 → (∀ y55 : Int32, y55 = x1 + 1 → B15 y55 u)) ∧ (¬ (32 : Int32) ≤ x2 → wp_X5_prepare_p31 x1 x2 (1 : Int32) u B15 B23 Q))
def wp_X5_prepare_p23 (x1 : Int32) (x2 : Int32) (u : ST) (B15 : Int32 → ST → Prop) (Q : ST → Prop) : Prop := ∃ (I : Int32 → Int32 → ST → Prop) (μ : Int32 → Int32 → ST → Nat), I x1 x2 u ∧ ∀ (x1 : Int32) (x2 : Int32) (u : ST), I x1 x2 u → wp_X5_prepare_p23b x1 x2 u B15 (fun yx1 yx2 yu => I yx1 yx2 yu ∧ μ yx1 yx2 yu < μ x1 x2 u) Q
def wp_X5_prepare_p15b (x1 : Int32) (u : ST) (B15 : Int32 → ST → Prop) (Q : ST → Prop) : Prop :=
  (((6 : Int32) < x1 → Q u) ∧ (¬ (6 : Int32) < x1 → wp_X5_prepare_p23 x1 (1 : Int32) u B15 Q))
def wp_X5_prepare_p15 (x1 : Int32) (u : ST) (Q : ST → Prop) : Prop := ∃ (I : Int32 → ST → Prop) (μ : Int32 → ST → Nat), I x1 u ∧ ∀ (x1 : Int32) (u : ST), I x1 u → wp_X5_prepare_p15b x1 u (fun yx1 yu => I yx1 yu ∧ μ yx1 yu < μ x1 u) Q
def wp_X5_prepare (u : ST) (Q : ST → Prop) : Prop :=
  (((gI u 1) = 0 → (∀ u10 : ST, u10 = sI u 1 (1 : Int32) → wp_X5_prepare_p15 (0 : Int32) u10 Q)) ∧ (¬ (gI u 1) = 0 → Q u))
set_option maxHeartbeats 4000000 in
set_option maxRecDepth 100000 in
theorem c_X5_prepare (l : Launch) (D : va_G) (h : Nat) (r : Nat → Nat) (q : Nat → Nat → Nat) (cs : Nat → ClassId) (u : ST) (Q : ST → Prop) (hw : wp_X5_prepare u Q) : mCv l yX5_prepare wsX5_prepare ({ frames := 4, cells := 0, slots := 0, locals := 96 } : Room) 0 0 D (mT cs) (W5 h r q cs) [.ref h] u Q := by
  unfold mCv
  refine m_enter (QQ := fun A => va_Qv Q (mPos D (mT cs) A (W5 h r q cs)) A) (cc := cX5_prepare) (maxL := 4) (ret := none) (by decide) rfl (Nat.le_of_ble_eq_true rfl) ?_
  intro p e s m args below meth c A ls S hr hlocks hname hl hI
  have S : CallFix p m c cX5_prepare 4 s args wsX5_prepare RX5 := S
  show W p l e ({ frames := 4, cells := 0, slots := 0, locals := 96 } : Room) s m args below meth c s.heap [] 0 0 (MQ below (va_Qv Q (mPos D (mT cs) A (W5 h r q cs)) A) args s 0 0 A) (F0 m 0 ls [])
  generalize hZ : MQ below (va_Qv Q (mPos D (mT cs) A (W5 h r q cs)) A) args s 0 0 A = Z
  have hin : ∀ w ∈ wsX50, w ∈ wsX5_prepare := fun _ h => List.mem_cons_of_mem _ (List.mem_append_right _ h)
  have hl : lv_has ls 4 [(0, .ref h)] := hl
  have b31b : ∀ (B15 : Int32 → ST → Prop), (∀ (x1 : Int32) (u : ST), B15 x1 u → mGo p l e ({ frames := 4, cells := 0, slots := 0, locals := 96 } : Room) s m args below meth c A Z 4 D (mT cs) (W5 h r q cs) 15 [(0, .ref h), (1, .int x1)] [] u) → ∀ (B23 : Int32 → Int32 → ST → Prop), (∀ (x1 : Int32) (x2 : Int32) (u : ST), B23 x1 x2 u → mGo p l e ({ frames := 4, cells := 0, slots := 0, locals := 96 } : Room) s m args below meth c A Z 4 D (mT cs) (W5 h r q cs) 23 [(0, .ref h), (1, .int x1), (2, .int x2)] [] u) → ∀ (B31 : Int32 → Int32 → Int32 → ST → Prop), (∀ (x1 : Int32) (x2 : Int32) (x3 : Int32) (u : ST), B31 x1 x2 x3 u → mGo p l e ({ frames := 4, cells := 0, slots := 0, locals := 96 } : Room) s m args below meth c A Z 4 D (mT cs) (W5 h r q cs) 31 [(0, .ref h), (1, .int x1), (2, .int x2), (3, .int x3)] [] u) → ∀ (x1 : Int32) (x2 : Int32) (x3 : Int32) (u : ST), wp_X5_prepare_p31b x1 x2 x3 u B15 B23 B31 Q → mGo p l e ({ frames := 4, cells := 0, slots := 0, locals := 96 } : Room) s m args below meth c A Z 4 D (mT cs) (W5 h r q cs) 31 [(0, .ref h), (1, .int x1), (2, .int x2), (3, .int x3)] [] u := by
    intro B15 hB15 B23 hB23 B31 hB31 x1 x2 x3 u hw H locs ls hI hl
    unfold wp_X5_prepare_p31b at hw
    refine lv_iload_n S.1 S.2.1 dX5_prepare_31 rfl (lv_at hl 3 rfl) ?_
    refine lv_iload_n S.1 S.2.1 dX5_prepare_32 rfl (lv_at hl 2 rfl) ?_
    refine lv_icmp_gt (tgt := 49) S.1 S.2.1 dX5_prepare_33 (by decide) (fun c33 => ?_) (fun c33 => ?_)
    · have hw := hw.1 c33
      obtain ⟨y49, ey49⟩ : ∃ z : Int32, z = x2 + 1 := ⟨_, rfl⟩
      have hw := hw y49 ey49
      refine lv_iinc (v := y49) (lv' := [(2, .int y49), (0, .ref h), (1, .int x1), (3, .int x3)]) S.1 S.2.1 dX5_prepare_49 hl (k := 2) rfl (by rw [ey49]; rfl) (by decide) rfl (fun ls hl => ?_)
      refine lv_goto (tgt := 23) S.1 S.2.1 dX5_prepare_52 (by decide) ?_
      exact hB23 x1 y49 u hw H locs ls hI (lv_sub hl [1, 2, 0] rfl)
    · have hw := hw.2 c33
      refine lv_aload_n S.1 S.2.1 dX5_prepare_36 rfl (lv_at hl 0 rfl) ?_
      refine lv_iload_n S.1 S.2.1 dX5_prepare_37 rfl (lv_at hl 1 rfl) ?_
      refine lv_iload_n S.1 S.2.1 dX5_prepare_38 rfl (lv_at hl 2 rfl) ?_
      refine lv_iload_n S.1 S.2.1 dX5_prepare_39 rfl (lv_at hl 3 rfl) ?_
      refine m_vv (As := [.int x1, .int x2, .int x3]) (rest := []) S (W5_self h r q cs) hI rfl (c_X5_fill l D h r q cs x1 x2 x3 u _ hw) (cwV 3 S.2.2.2.2 gX5_prepare_X5_fill rfl rfl rfl (by decide +kernel) ⟨Nat.le_of_ble_eq_true rfl, Nat.le_of_ble_eq_true rfl⟩) (W5_at0 h r q cs u) rfl rfl hl.1 rfl (Nat.le_of_ble_eq_true rfl) dX5_prepare_40 ⟨Nat.zero_le _, Nat.zero_le _⟩ (fun u40 H locs hw hI => ?_)
      obtain ⟨y43, ey43⟩ : ∃ z : Int32, z = x3 + 1 := ⟨_, rfl⟩
      have hw := hw y43 ey43
      refine lv_iinc (v := y43) (lv' := [(3, .int y43), (0, .ref h), (1, .int x1), (2, .int x2)]) S.1 S.2.1 dX5_prepare_43 hl (k := 3) rfl (by rw [ey43]; rfl) (by decide) rfl (fun ls hl => ?_)
      refine lv_goto (tgt := 31) S.1 S.2.1 dX5_prepare_46 (by decide) ?_
      exact hB31 x1 x2 y43 u40 hw H locs ls hI (lv_sub hl [1, 2, 3, 0] rfl)
  have b31 : ∀ (B15 : Int32 → ST → Prop), (∀ (x1 : Int32) (u : ST), B15 x1 u → mGo p l e ({ frames := 4, cells := 0, slots := 0, locals := 96 } : Room) s m args below meth c A Z 4 D (mT cs) (W5 h r q cs) 15 [(0, .ref h), (1, .int x1)] [] u) → ∀ (B23 : Int32 → Int32 → ST → Prop), (∀ (x1 : Int32) (x2 : Int32) (u : ST), B23 x1 x2 u → mGo p l e ({ frames := 4, cells := 0, slots := 0, locals := 96 } : Room) s m args below meth c A Z 4 D (mT cs) (W5 h r q cs) 23 [(0, .ref h), (1, .int x1), (2, .int x2)] [] u) → ∀ (x1 : Int32) (x2 : Int32) (x3 : Int32) (u : ST), wp_X5_prepare_p31 x1 x2 x3 u B15 B23 Q → mGo p l e ({ frames := 4, cells := 0, slots := 0, locals := 96 } : Room) s m args below meth c A Z 4 D (mT cs) (W5 h r q cs) 31 [(0, .ref h), (1, .int x1), (2, .int x2), (3, .int x3)] [] u := by
    intro B15 hB15 B23 hB23 x1 x2 x3 u hw
    obtain ⟨I, μ, h0, hs⟩ := hw
    have key : ∀ (n : Nat) (x1 : Int32) (x2 : Int32) (x3 : Int32) (u : ST), μ x1 x2 x3 u = n → I x1 x2 x3 u → mGo p l e ({ frames := 4, cells := 0, slots := 0, locals := 96 } : Room) s m args below meth c A Z 4 D (mT cs) (W5 h r q cs) 31 [(0, .ref h), (1, .int x1), (2, .int x2), (3, .int x3)] [] u := by
      intro n
      induction n using Nat.strongRecOn with
      | ind n ih =>
        intro x1 x2 x3 u hn hi
        exact b31b B15 hB15 B23 hB23 (fun yx1 yx2 yx3 yu => I yx1 yx2 yx3 yu ∧ μ yx1 yx2 yx3 yu < μ x1 x2 x3 u) (fun yx1 yx2 yx3 yu hb => ih _ (hn ▸ hb.2) yx1 yx2 yx3 yu rfl hb.1) x1 x2 x3 u (hs x1 x2 x3 u hi)
    exact key _ x1 x2 x3 u rfl h0
  have b23b : ∀ (B15 : Int32 → ST → Prop), (∀ (x1 : Int32) (u : ST), B15 x1 u → mGo p l e ({ frames := 4, cells := 0, slots := 0, locals := 96 } : Room) s m args below meth c A Z 4 D (mT cs) (W5 h r q cs) 15 [(0, .ref h), (1, .int x1)] [] u) → ∀ (B23 : Int32 → Int32 → ST → Prop), (∀ (x1 : Int32) (x2 : Int32) (u : ST), B23 x1 x2 u → mGo p l e ({ frames := 4, cells := 0, slots := 0, locals := 96 } : Room) s m args below meth c A Z 4 D (mT cs) (W5 h r q cs) 23 [(0, .ref h), (1, .int x1), (2, .int x2)] [] u) → ∀ (x1 : Int32) (x2 : Int32) (u : ST), wp_X5_prepare_p23b x1 x2 u B15 B23 Q → mGo p l e ({ frames := 4, cells := 0, slots := 0, locals := 96 } : Room) s m args below meth c A Z 4 D (mT cs) (W5 h r q cs) 23 [(0, .ref h), (1, .int x1), (2, .int x2)] [] u := by
    intro B15 hB15 B23 hB23 x1 x2 u hw H locs ls hI hl
    unfold wp_X5_prepare_p23b at hw
    refine lv_iload_n S.1 S.2.1 dX5_prepare_23 rfl (lv_at hl 2 rfl) ?_
    refine lv_bipush (v := 32) S.1 S.2.1 dX5_prepare_24 (by decide) ?_
    refine lv_icmp_ge (tgt := 55) S.1 S.2.1 dX5_prepare_26 (by decide) (fun c26 => ?_) (fun c26 => ?_)
    · have hw := hw.1 c26
      obtain ⟨y55, ey55⟩ : ∃ z : Int32, z = x1 + 1 := ⟨_, rfl⟩
      have hw := hw y55 ey55
      refine lv_iinc (v := y55) (lv' := [(1, .int y55), (0, .ref h), (2, .int x2)]) S.1 S.2.1 dX5_prepare_55 hl (k := 1) rfl (by rw [ey55]; rfl) (by decide) rfl (fun ls hl => ?_)
      refine lv_goto (tgt := 15) S.1 S.2.1 dX5_prepare_58 (by decide) ?_
      exact hB15 y55 u hw H locs ls hI (lv_sub hl [1, 0] rfl)
    · have hw := hw.2 c26
      refine lv_iconst (v := 1) S.1 S.2.1 dX5_prepare_29 (by decide) ?_
      refine lv_istore_n (lv' := [(3, .int (1 : Int32)), (0, .ref h), (1, .int x1), (2, .int x2)]) S.1 S.2.1 dX5_prepare_30 rfl hl (by decide) rfl (fun ls hl => ?_)
      exact b31 B15 hB15 B23 hB23 x1 x2 (1 : Int32) u hw H locs ls hI (lv_sub hl [1, 2, 3, 0] rfl)
  have b23 : ∀ (B15 : Int32 → ST → Prop), (∀ (x1 : Int32) (u : ST), B15 x1 u → mGo p l e ({ frames := 4, cells := 0, slots := 0, locals := 96 } : Room) s m args below meth c A Z 4 D (mT cs) (W5 h r q cs) 15 [(0, .ref h), (1, .int x1)] [] u) → ∀ (x1 : Int32) (x2 : Int32) (u : ST), wp_X5_prepare_p23 x1 x2 u B15 Q → mGo p l e ({ frames := 4, cells := 0, slots := 0, locals := 96 } : Room) s m args below meth c A Z 4 D (mT cs) (W5 h r q cs) 23 [(0, .ref h), (1, .int x1), (2, .int x2)] [] u := by
    intro B15 hB15 x1 x2 u hw
    obtain ⟨I, μ, h0, hs⟩ := hw
    have key : ∀ (n : Nat) (x1 : Int32) (x2 : Int32) (u : ST), μ x1 x2 u = n → I x1 x2 u → mGo p l e ({ frames := 4, cells := 0, slots := 0, locals := 96 } : Room) s m args below meth c A Z 4 D (mT cs) (W5 h r q cs) 23 [(0, .ref h), (1, .int x1), (2, .int x2)] [] u := by
      intro n
      induction n using Nat.strongRecOn with
      | ind n ih =>
        intro x1 x2 u hn hi
        exact b23b B15 hB15 (fun yx1 yx2 yu => I yx1 yx2 yu ∧ μ yx1 yx2 yu < μ x1 x2 u) (fun yx1 yx2 yu hb => ih _ (hn ▸ hb.2) yx1 yx2 yu rfl hb.1) x1 x2 u (hs x1 x2 u hi)
    exact key _ x1 x2 u rfl h0
  have b15b : ∀ (B15 : Int32 → ST → Prop), (∀ (x1 : Int32) (u : ST), B15 x1 u → mGo p l e ({ frames := 4, cells := 0, slots := 0, locals := 96 } : Room) s m args below meth c A Z 4 D (mT cs) (W5 h r q cs) 15 [(0, .ref h), (1, .int x1)] [] u) → ∀ (x1 : Int32) (u : ST), wp_X5_prepare_p15b x1 u B15 Q → mGo p l e ({ frames := 4, cells := 0, slots := 0, locals := 96 } : Room) s m args below meth c A Z 4 D (mT cs) (W5 h r q cs) 15 [(0, .ref h), (1, .int x1)] [] u := by
    intro B15 hB15 x1 u hw H locs ls hI hl
    unfold wp_X5_prepare_p15b at hw
    refine lv_iload_n S.1 S.2.1 dX5_prepare_15 rfl (lv_at hl 1 rfl) ?_
    refine lv_bipush (v := 6) S.1 S.2.1 dX5_prepare_16 (by decide) ?_
    refine lv_icmp_gt (tgt := 61) S.1 S.2.1 dX5_prepare_18 (by decide) (fun c18 => ?_) (fun c18 => ?_)
    · have hw := hw.1 c18
      subst hZ
      exact m_vret S hr hlocks hI hw dX5_prepare_61
    · have hw := hw.2 c18
      refine lv_iconst (v := 1) S.1 S.2.1 dX5_prepare_21 (by decide) ?_
      refine lv_istore_n (lv' := [(2, .int (1 : Int32)), (0, .ref h), (1, .int x1)]) S.1 S.2.1 dX5_prepare_22 rfl hl (by decide) rfl (fun ls hl => ?_)
      exact b23 B15 hB15 x1 (1 : Int32) u hw H locs ls hI (lv_sub hl [1, 2, 0] rfl)
  have b15 : ∀ (x1 : Int32) (u : ST), wp_X5_prepare_p15 x1 u Q → mGo p l e ({ frames := 4, cells := 0, slots := 0, locals := 96 } : Room) s m args below meth c A Z 4 D (mT cs) (W5 h r q cs) 15 [(0, .ref h), (1, .int x1)] [] u := by
    intro x1 u hw
    obtain ⟨I, μ, h0, hs⟩ := hw
    have key : ∀ (n : Nat) (x1 : Int32) (u : ST), μ x1 u = n → I x1 u → mGo p l e ({ frames := 4, cells := 0, slots := 0, locals := 96 } : Room) s m args below meth c A Z 4 D (mT cs) (W5 h r q cs) 15 [(0, .ref h), (1, .int x1)] [] u := by
      intro n
      induction n using Nat.strongRecOn with
      | ind n ih =>
        intro x1 u hn hi
        exact b15b (fun yx1 yu => I yx1 yu ∧ μ yx1 yu < μ x1 u) (fun yx1 yu hb => ih _ (hn ▸ hb.2) yx1 yu rfl hb.1) x1 u (hs x1 u hi)
    exact key _ x1 u rfl h0
  unfold wp_X5_prepare at hw
  obtain ⟨H, hH⟩ : ∃ z : Heap, z = s.heap := ⟨_, rfl⟩
  obtain ⟨locs, hL⟩ : ∃ z : List Loc, z = [] := ⟨_, rfl⟩
  rw [show W p l e ({ frames := 4, cells := 0, slots := 0, locals := 96 } : Room) s m args below meth c s.heap [] 0 0 Z (F0 m 0 ls []) = W p l e ({ frames := 4, cells := 0, slots := 0, locals := 96 } : Room) s m args below meth c H locs 0 0 Z (F0 m 0 ls []) by rw [hH, hL]]
  replace hI : mI D (mT cs) A s.heap s (W5 h r q cs u) H locs := by rw [hH, hL]; exact hI
  refine lv_aload_n S.1 S.2.1 dX5_prepare_0 rfl (lv_at hl 0 rfl) ?_
  refine m_get S hin hI 0 (W5_at0 h r q cs u) rfl 1 (Nat.le_of_ble_eq_true rfl) (List.mem_of_getElem? (i := 1) rfl) rfl (Ff5_at1 r u) dX5_prepare_1 ?_
  refine lv_if_eq (tgt := 8) S.1 S.2.1 dX5_prepare_4 (by decide) (fun c4 => ?_) (fun c4 => ?_)
  · have hw := hw.1 c4
    refine lv_aload_n S.1 S.2.1 dX5_prepare_8 rfl (lv_at hl 0 rfl) ?_
    refine lv_iconst (v := 1) S.1 S.2.1 dX5_prepare_9 (by decide) ?_
    obtain ⟨u10, eu10⟩ : ∃ z : ST, z = sI u 1 (1 : Int32) := ⟨_, rfl⟩
    have hw := hw u10 eu10
    refine m_put S hin tyX5_ok nmX5 hI 0 (W5_at0 h r q cs u) rfl 1 (Nat.le_of_ble_eq_true rfl) (List.mem_of_getElem? (i := 1) rfl) rfl rfl (by show Value.int ((1 : Int32) &&& 1) = _; rfl) rfl (Nat.le_of_ble_eq_true rfl) (W5_sI1 h r q cs u u10 (1 : Int32) eu10) dX5_prepare_10 (fun H locs hI => ?_)
    refine lv_iconst (v := 0) S.1 S.2.1 dX5_prepare_13 (by decide) ?_
    refine lv_istore_n (lv' := [(1, .int (0 : Int32)), (0, .ref h)]) S.1 S.2.1 dX5_prepare_14 rfl hl (by decide) rfl (fun ls hl => ?_)
    exact b15 (0 : Int32) u10 hw H locs ls hI (lv_sub hl [1, 0] rfl)
  · have hw := hw.2 c4
    subst hZ
    exact m_vret S hr hlocks hI hw dX5_prepare_7

/-- TwoJars$Treads: what its object holds -/
def Ff9 (r : Nat → Nat) (u : ST) : List Value := [.ref (r 0), .ref (r 1), .int (gI u 2)]
def W9 (h : Nat) (r : Nat → Nat) (q : Nat → Nat → Nat) (cs : Nat → ClassId) (u : ST) : va_W := [(h, .inr (9, Ff9 r u)), (r 0, .inl (cs 4, 7, .inr (.inr (.inr (.inr (mrow (q 0))))))), (q 0 0, .inl (cs 0, 26, .inl (gG u 0 0))), (q 0 1, .inl (cs 0, 26, .inl (gG u 0 1))), (q 0 2, .inl (cs 0, 26, .inl (gG u 0 2))), (q 0 3, .inl (cs 0, 26, .inl (gG u 0 3))), (q 0 4, .inl (cs 0, 26, .inl (gG u 0 4))), (q 0 5, .inl (cs 0, 26, .inl (gG u 0 5))), (q 0 6, .inl (cs 0, 26, .inl (gG u 0 6))), (r 1, .inl (cs 4, 7, .inr (.inr (.inr (.inr (mrow (q 1))))))), (q 1 0, .inl (cs 0, 26, .inl (gG u 1 0))), (q 1 1, .inl (cs 0, 26, .inl (gG u 1 1))), (q 1 2, .inl (cs 0, 26, .inl (gG u 1 2))), (q 1 3, .inl (cs 0, 26, .inl (gG u 1 3))), (q 1 4, .inl (cs 0, 26, .inl (gG u 1 4))), (q 1 5, .inl (cs 0, 26, .inl (gG u 1 5))), (q 1 6, .inl (cs 0, 26, .inl (gG u 1 6)))]
theorem W9_at0 (h : Nat) (r : Nat → Nat) (q : Nat → Nat → Nat) (cs : Nat → ClassId) (u : ST) : (W9 h r q cs u)[0]? = some (h, .inr (9, Ff9 r u)) := rfl
theorem Ff9_at0 (r : Nat → Nat) (u : ST) : (Ff9 r u)[0]? = some (.ref (r 0)) := rfl
theorem Ff9_at1 (r : Nat → Nat) (u : ST) : (Ff9 r u)[1]? = some (.ref (r 1)) := rfl
theorem Ff9_at2 (r : Nat → Nat) (u : ST) : (Ff9 r u)[2]? = some (.int (gI u 2)) := rfl
theorem W9_sI2 (h : Nat) (r : Nat → Nat) (q : Nat → Nat → Nat) (cs : Nat → ClassId) (u u9 : ST) (x : Int32) (e : u9 = sI u 2 x) : (W9 h r q cs u).set 0 (h, .inr (9, (Ff9 r u).set 2 (.int x))) = W9 h r q cs u9 := by subst e; rfl
theorem W9_go0 (h : Nat) (r : Nat → Nat) (q : Nat → Nat → Nat) (cs : Nat → ClassId) (u : ST) : (W9 h r q cs u)[1]? = some (r 0, .inl (cs 4, 7, .inr (.inr (.inr (.inr (mrow (q 0))))))) := rfl
theorem W9_gr0 (h : Nat) (r : Nat → Nat) (q : Nat → Nat → Nat) (cs : Nat → ClassId) (u : ST) {j : Nat} (hj : j < 7) : (W9 h r q cs u)[2 + j]? = some (q 0 j, .inl (cs 0, 26, .inl (gG u 0 j))) := by
  match j, hj with
  | 0, _ => rfl
  | 1, _ => rfl
  | 2, _ => rfl
  | 3, _ => rfl
  | 4, _ => rfl
  | 5, _ => rfl
  | 6, _ => rfl
theorem W9_sG0 (h : Nat) (r : Nat → Nat) (q : Nat → Nat → Nat) (cs : Nat → ClassId) (u u9 : ST) {j : Nat} (hj : j < 7) (f : Nat → Int32) (e : u9 = sG u 0 (mu (gG u 0) j f)) : (W9 h r q cs u).set (2 + j) (q 0 j, .inl (cs 0, 26, .inl f)) = W9 h r q cs u9 := by
  subst e
  match j, hj with
  | 0, _ => rfl
  | 1, _ => rfl
  | 2, _ => rfl
  | 3, _ => rfl
  | 4, _ => rfl
  | 5, _ => rfl
  | 6, _ => rfl
theorem W9_go1 (h : Nat) (r : Nat → Nat) (q : Nat → Nat → Nat) (cs : Nat → ClassId) (u : ST) : (W9 h r q cs u)[9]? = some (r 1, .inl (cs 4, 7, .inr (.inr (.inr (.inr (mrow (q 1))))))) := rfl
theorem W9_gr1 (h : Nat) (r : Nat → Nat) (q : Nat → Nat → Nat) (cs : Nat → ClassId) (u : ST) {j : Nat} (hj : j < 7) : (W9 h r q cs u)[10 + j]? = some (q 1 j, .inl (cs 0, 26, .inl (gG u 1 j))) := by
  match j, hj with
  | 0, _ => rfl
  | 1, _ => rfl
  | 2, _ => rfl
  | 3, _ => rfl
  | 4, _ => rfl
  | 5, _ => rfl
  | 6, _ => rfl
theorem W9_sG1 (h : Nat) (r : Nat → Nat) (q : Nat → Nat → Nat) (cs : Nat → ClassId) (u u9 : ST) {j : Nat} (hj : j < 7) (f : Nat → Int32) (e : u9 = sG u 1 (mu (gG u 1) j f)) : (W9 h r q cs u).set (10 + j) (q 1 j, .inl (cs 0, 26, .inl f)) = W9 h r q cs u9 := by
  subst e
  match j, hj with
  | 0, _ => rfl
  | 1, _ => rfl
  | 2, _ => rfl
  | 3, _ => rfl
  | 4, _ => rfl
  | 5, _ => rfl
  | 6, _ => rfl
theorem W9_self (h : Nat) (r : Nat → Nat) (q : Nat → Nat → Nat) (cs : Nat → ClassId) : ∀ v, (W9 h r q cs v).Perm ([] ++ (W9 h r q cs v ++ [])) := fun v => by rw [List.append_nil, List.nil_append]

def wp_X9_rest_p26 (u : ST) (Q : Int32 → ST → Prop) : Prop :=
  Q (268435456 : Int32) u
def wp_X9_rest (a1 : Int32) (a2 : Int32) (a3 : Int32) (u : ST) (Q : Int32 → ST → Prop) : Prop :=
  (wp_X11_within a1 (1 : Int32) (6 : Int32) (fun y4 => ((y4 = 0 → wp_X9_rest_p26 u Q) ∧ (¬ y4 = 0 → (((25 : Int32) < a2 → wp_X9_rest_p26 u Q) ∧ (¬ (25 : Int32) < a2 → ((a3 < (1 : Int32) → wp_X9_rest_p26 u Q) ∧ (¬ a3 < (1 : Int32) → ((a3 < a2 → (∀ y37 : Int32, y37 = a1 - (1 : Int32) → (vp_in y37 7 ∧ (vp_in a3 26 ∧ ∀ y40 : Int32, y40 = gG u 1 y37.toNatClampNeg a3.toNatClampNeg → (vp_in a1 7 ∧ (∀ y49 : Int32, y49 = a2 - a3 → (vp_in y49 26 ∧ ∀ y50 : Int32, y50 = gG u 0 a1.toNatClampNeg y49.toNatClampNeg → (∀ y51 : Int32, y51 = (if y40 < y50 then y50 else y40) → (∀ y54 : Int32, y54 = (if y51 < (268435456 : Int32) then y51 else (268435456 : Int32)) → Q y54 u))))))))) ∧ (¬ a3 < a2 → wp_X9_rest_p26 u Q))))))))))
set_option maxHeartbeats 4000000 in
set_option maxRecDepth 100000 in
theorem c_X9_rest (l : Launch) (D : va_G) (h : Nat) (r : Nat → Nat) (q : Nat → Nat → Nat) (cs : Nat → ClassId) (a1 : Int32) (a2 : Int32) (a3 : Int32) (u : ST) (Q : Int32 → ST → Prop) (hw : wp_X9_rest a1 a2 a3 u Q) : mCi l yX9_rest wsX9_rest ({ frames := 1, cells := 0, slots := 0, locals := 22 } : Room) 0 0 D (mT cs) (W9 h r q cs) [.ref h, .int a1, .int a2, .int a3] u Q := by
  unfold mCi
  refine m_enter (QQ := fun A => va_Qi Q (mPos D (mT cs) A (W9 h r q cs)) A) (cc := cX9_rest) (maxL := 4) (ret := (some .int)) (by decide) rfl (Nat.le_of_ble_eq_true rfl) ?_
  intro p e s m args below meth c A ls S hr hlocks hname hl hI
  have S : CallFix p m c cX9_rest 4 s args wsX9_rest RX9 := S
  show W p l e ({ frames := 1, cells := 0, slots := 0, locals := 22 } : Room) s m args below meth c s.heap [] 0 0 (MQ below (va_Qi Q (mPos D (mT cs) A (W9 h r q cs)) A) args s 0 0 A) (F0 m 0 ls [])
  generalize hZ : MQ below (va_Qi Q (mPos D (mT cs) A (W9 h r q cs)) A) args s 0 0 A = Z
  have hin : ∀ w ∈ wsX90, w ∈ wsX9_rest := fun _ h => List.mem_cons_of_mem _ (List.mem_append_right _ h)
  have hl : lv_has ls 4 [(0, .ref h), (1, .int a1), (2, .int a2), (3, .int a3)] := hl
  have b26 : ∀ (u : ST), wp_X9_rest_p26 u Q → mGo p l e ({ frames := 1, cells := 0, slots := 0, locals := 22 } : Room) s m args below meth c A Z 4 D (mT cs) (W9 h r q cs) 26 [(0, .ref h)] [] u := by
    intro u hw H locs ls hI hl
    unfold wp_X9_rest_p26 at hw
    refine lv_ldc S.1 S.2.1 S.2.2.2.1 (S.2.2.2.2 _ (List.mem_of_getElem? (i := 1) rfl)) dX9_rest_26 ?_
    subst hZ
    exact m_iret S hr hlocks hI hw dX9_rest_28
  unfold wp_X9_rest at hw
  obtain ⟨H, hH⟩ : ∃ z : Heap, z = s.heap := ⟨_, rfl⟩
  obtain ⟨locs, hL⟩ : ∃ z : List Loc, z = [] := ⟨_, rfl⟩
  rw [show W p l e ({ frames := 1, cells := 0, slots := 0, locals := 22 } : Room) s m args below meth c s.heap [] 0 0 Z (F0 m 0 ls []) = W p l e ({ frames := 1, cells := 0, slots := 0, locals := 22 } : Room) s m args below meth c H locs 0 0 Z (F0 m 0 ls []) by rw [hH, hL]]
  replace hI : mI D (mT cs) A s.heap s (W9 h r q cs u) H locs := by rw [hH, hL]; exact hI
  refine lv_iload_n S.1 S.2.1 dX9_rest_0 rfl (lv_at hl 1 rfl) ?_
  refine lv_iconst (v := 1) S.1 S.2.1 dX9_rest_1 (by decide) ?_
  refine lv_bipush (v := 6) S.1 S.2.1 dX9_rest_2 (by decide) ?_
  refine m_siN (As := [.int a1, .int (1 : Int32), .int (6 : Int32)]) (rest := []) S hI.2.2.2.1.2.1 (c_X11_within l a1 (1 : Int32) (6 : Int32) _ hw) 3 gX9_rest_X11_within_n38 rfl rfl rfl nm_X9_38 (List.mem_of_getElem? (i := 12) rfl) (List.mem_of_getElem? (i := 11) rfl) (by decide +kernel) ⟨Nat.le_of_ble_eq_true rfl, Nat.le_of_ble_eq_true rfl⟩ rfl hl.1 rfl (Nat.le_of_ble_eq_true rfl) dX9_rest_4 ⟨Nat.zero_le _, Nat.zero_le _⟩ (fun y4 hw => ?_)
  refine lv_if_eq (tgt := 26) S.1 S.2.1 dX9_rest_7 (by decide) (fun c7 => ?_) (fun c7 => ?_)
  · have hw := hw.1 c7
    exact b26 u hw H locs ls hI (lv_sub hl [0] rfl)
  · have hw := hw.2 c7
    refine lv_iload_n S.1 S.2.1 dX9_rest_10 rfl (lv_at hl 2 rfl) ?_
    refine lv_bipush (v := 25) S.1 S.2.1 dX9_rest_11 (by decide) ?_
    refine lv_icmp_gt (tgt := 26) S.1 S.2.1 dX9_rest_13 (by decide) (fun c13 => ?_) (fun c13 => ?_)
    · have hw := hw.1 c13
      exact b26 u hw H locs ls hI (lv_sub hl [0] rfl)
    · have hw := hw.2 c13
      refine lv_iload_n S.1 S.2.1 dX9_rest_16 rfl (lv_at hl 3 rfl) ?_
      refine lv_iconst (v := 1) S.1 S.2.1 dX9_rest_17 (by decide) ?_
      refine lv_icmp_lt (tgt := 26) S.1 S.2.1 dX9_rest_18 (by decide) (fun c18 => ?_) (fun c18 => ?_)
      · have hw := hw.1 c18
        exact b26 u hw H locs ls hI (lv_sub hl [0] rfl)
      · have hw := hw.2 c18
        refine lv_iload_n S.1 S.2.1 dX9_rest_21 rfl (lv_at hl 3 rfl) ?_
        refine lv_iload_n S.1 S.2.1 dX9_rest_22 rfl (lv_at hl 2 rfl) ?_
        refine lv_icmp_lt (tgt := 29) S.1 S.2.1 dX9_rest_23 (by decide) (fun c23 => ?_) (fun c23 => ?_)
        · have hw := hw.1 c23
          refine lv_ldc S.1 S.2.1 S.2.2.2.1 (S.2.2.2.2 _ (List.mem_of_getElem? (i := 1) rfl)) dX9_rest_29 ?_
          refine lv_aload_n S.1 S.2.1 dX9_rest_31 rfl (lv_at hl 0 rfl) ?_
          refine m_get S hin hI 0 (W9_at0 h r q cs u) rfl 1 (Nat.le_of_ble_eq_true rfl) (List.mem_of_getElem? (i := 2) rfl) rfl (Ff9_at1 r u) dX9_rest_32 ?_
          refine lv_iload_n S.1 S.2.1 dX9_rest_35 rfl (lv_at hl 1 rfl) ?_
          refine lv_iconst (v := 1) S.1 S.2.1 dX9_rest_36 (by decide) ?_
          refine lv_isub S.1 S.2.1 dX9_rest_37 ?_
          refine lv_topi (fun y37 ey37 => ?_)
          have hw := hw y37 ey37
          have hj38 := mlt hw.1
          refine m_aald S hI 9 4 (W9_go1 h r q cs u) rfl hw.1 dX9_rest_38 ?_
          have hw := hw.2
          refine lv_iload_n S.1 S.2.1 dX9_rest_39 rfl (lv_at hl 3 rfl) ?_
          refine m_iald S hI (10 + y37.toNatClampNeg) 0 (W9_gr1 h r q cs u hj38) rfl hw.1 dX9_rest_40 ?_
          refine lv_topi (fun y40 ey40 => ?_)
          have hw := hw.2 y40 ey40
          refine lv_aload_n S.1 S.2.1 dX9_rest_41 rfl (lv_at hl 0 rfl) ?_
          refine m_get S hin hI 0 (W9_at0 h r q cs u) rfl 0 (Nat.le_of_ble_eq_true rfl) (List.mem_of_getElem? (i := 3) rfl) rfl (Ff9_at0 r u) dX9_rest_42 ?_
          refine lv_iload_n S.1 S.2.1 dX9_rest_45 rfl (lv_at hl 1 rfl) ?_
          have hj46 := mlt hw.1
          refine m_aald S hI 1 4 (W9_go0 h r q cs u) rfl hw.1 dX9_rest_46 ?_
          have hw := hw.2
          refine lv_iload_n S.1 S.2.1 dX9_rest_47 rfl (lv_at hl 2 rfl) ?_
          refine lv_iload_n S.1 S.2.1 dX9_rest_48 rfl (lv_at hl 3 rfl) ?_
          refine lv_isub S.1 S.2.1 dX9_rest_49 ?_
          refine lv_topi (fun y49 ey49 => ?_)
          have hw := hw y49 ey49
          refine m_iald S hI (2 + a1.toNatClampNeg) 0 (W9_gr0 h r q cs u hj46) rfl hw.1 dX9_rest_50 ?_
          refine lv_topi (fun y50 ey50 => ?_)
          have hw := hw.2 y50 ey50
          refine va_mmax S.1 S.2.1 (S.2.2.1.trans hl.1.symm) S.2.2.2.1 (S.2.2.2.2 _ (List.mem_of_getElem? (i := 4) rfl)) (S.2.2.2.2 _ (List.mem_of_getElem? (i := 5) rfl)) (S.2.2.2.2 _ (List.mem_of_getElem? (i := 6) rfl)) (S.2.2.2.2 _ (List.mem_of_getElem? (i := 7) rfl)) (Nat.le_of_ble_eq_true rfl) (Nat.le_of_ble_eq_true rfl) (Nat.zero_le _) (Nat.zero_le _) dX9_rest_51 ?_
          refine lv_topi (fun y51 ey51 => ?_)
          have hw := hw y51 ey51
          refine va_mmin S.1 S.2.1 (S.2.2.1.trans hl.1.symm) S.2.2.2.1 (S.2.2.2.2 _ (List.mem_of_getElem? (i := 8) rfl)) (S.2.2.2.2 _ (List.mem_of_getElem? (i := 9) rfl)) (S.2.2.2.2 _ (List.mem_of_getElem? (i := 6) rfl)) (S.2.2.2.2 _ (List.mem_of_getElem? (i := 10) rfl)) (Nat.le_of_ble_eq_true rfl) (Nat.le_of_ble_eq_true rfl) (Nat.zero_le _) (Nat.zero_le _) dX9_rest_54 ?_
          refine lv_topi (fun y54 ey54 => ?_)
          have hw := hw y54 ey54
          subst hZ
          exact m_iret S hr hlocks hI hw dX9_rest_57
        · have hw := hw.2 c23
          exact b26 u hw H locs ls hI (lv_sub hl [0] rfl)

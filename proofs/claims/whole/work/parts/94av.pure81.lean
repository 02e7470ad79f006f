theorem nt1_3 {u : ST} {k : Nat} (e : gI u 3 = nI k) (b : Int32) : gI (nt1 u b) 3 = nI (k + 1) := by
  unfold nt1
  split
  · rw [gI_sI, e, nI_1]
  · rw [gI_sI, e, nI_1]
theorem ntL_3 : ∀ (l : List Int32) {u : ST} {k : Nat}, gI u 3 = nI k → gI (ntL u l) 3 = nI (k + l.length)
  | [], _, _, e => e
  | b :: l, u, k, e => by
    have := ntL_3 l (nt1_3 e b)
    rw [show k + (b :: l).length = k + 1 + l.length from by simp only [List.length_cons]; omega]
    exact this
/-- what a call comes to in the class: its value and the bodies noted -/
def CE (b kd : Int32) (D m c a d : Nat) (x val : Int32) (l : List Int32) : Prop := l.length ≤ m ∧ ∀ (u : ST) (k : Nat) (Q : Int32 → ST → Prop), gI u 3 = nI k → k + m ≤ 900 → gI u 4 = b → gI u 5 = kd → Q val (ntL u l) → wpR0 D 0 (kI c) (nI a) x (nI d) u Q
theorem ce_1 {b kd x : Int32} {D c d : Nat} (hc : c < 8) (hd : d < 24) (hf : fndN c 0 = 0) : CE b kd (D + 2) 1 c 0 d x (x + b) [1] :=
  ⟨Nat.le_refl _, fun u k Q e hk e4 e5 h => zstep (D := D) hc (by decide) hd e (by omega) 0 (by decide) 1 hf (by decide) (zres1 (by rintro _ rfl; rw [nt1_I (by decide), e4]; exact h))⟩
theorem ce_11 {b kd x : Int32} {D c d : Nat} (hc : c < 8) (hd : d < 24) (hf : fndN c 2 = 0) : CE b kd (D + 2) 1 c 2 d x (x ^^^ b) [11] :=
  ⟨Nat.le_refl _, fun u k Q e hk e4 e5 h => zstep (D := D) hc (by decide) hd e (by omega) 0 (by decide) 11 hf (by decide) (zres11 (by rintro _ rfl; rw [nt1_I (by decide), e4]; exact h))⟩
/-- a body that calls one act above -/
theorem ce_up {b kd x x' v : Int32} {D m c a a' t d : Nat} {o : Int32} {l : List Int32} (g : Int32 → Int32)
    (hres : ∀ {up d : Int32} {u : ST} {P : Nat → Int32 → Int32 → Int32 → Int32 → ST → (Int32 → ST → Prop) → Prop} {Q : Int32 → ST → Prop}, P 0 up (nI a') x' d u (fun y v => Q (g y) v) → wp_X0_result o up x d u P Q)
    (hc : c < 8) (ha : a < 4) (hd : d < 24) (ht : t < 8) (hf : fndN c a = t) (ho : ownI t a = o) (hs : CE b kd D m (aboveN t) a' (d + 1) x' v l) : CE b kd (D + 2) (m + 1) c a d x (g v) (o :: l) :=
  ⟨Nat.succ_le_succ hs.1, fun u k Q e hk e4 e5 h => zstep (D := D) hc ha hd e (by omega) t ht o hf ho (hres (hs.2 (nt1 u o) (k + 1) _ (nt1_3 e o) (by omega) ((nt1_I (by decide)).trans e4) ((nt1_I (by decide)).trans e5) h))⟩
/-- body 10: the kind's own act -/
theorem ce_10 {b x v : Int32} {D m K c d : Nat} {l : List Int32} (hc : c < 8) (hd : d < 24) (hf : fndN c 1 = 0) (hs : CE b (kI K) D m K 0 (d + 1) x v l) : CE b (kI K) (D + 2) (m + 1) c 1 d x (v * 2) (10 :: l) :=
  ⟨Nat.succ_le_succ hs.1, fun u k Q e hk e4 e5 h => zstep (D := D) hc (by decide) hd e (by omega) 0 (by decide) 10 hf (by decide) (zres10 (by
    rw [nt1_I (by decide), e5]
    exact hs.2 (nt1 u 10) (k + 1) _ (nt1_3 e 10) (by omega) ((nt1_I (by decide)).trans e4) ((nt1_I (by decide)).trans e5) (by rintro _ rfl; exact h)))⟩
/-- two calls, one behind the other -/
theorem ce_seq {b kd x1 x2 v1 v2 : Int32} {D m1 m2 c1 a1 d1 c2 a2 : Nat} {l1 l2 : List Int32} {u : ST} {k : Nat} (e : gI u 3 = nI k) (hk : k + m1 + m2 ≤ 900) (e4 : gI u 4 = b) (e5 : gI u 5 = kd)
    (h1 : CE b kd D m1 c1 a1 d1 x1 v1 l1) (h2 : CE b kd D m2 c2 a2 d1 x2 v2 l2) (g : Int32 → Int32 → Int32) {Q : Int32 → ST → Prop} (ek : kd = kI c2) (h : Q (g v1 v2) (ntL u (l1 ++ l2))) :
    wpR0 D 0 (kI c1) (nI a1) x1 (nI d1) u (fun y v => wpR0 D 0 (gI v 5) (nI a2) x2 (nI d1) v (fun z w => ∀ t : Int32, t = g y z → Q t w)) := by
  have hl := h1.1
  refine h1.2 u k _ e (by omega) e4 e5 ?_
  rw [ntL_I (by decide), e5, ek]
  refine h2.2 (ntL u l1) (k + l1.length) _ (ntL_3 l1 e) (by omega) ((ntL_I (by decide) l1 u).trans e4) ((ntL_I (by decide) l1 u).trans e5) ?_
  rw [ntL_ap u]
  rintro _ rfl
  exact h
theorem ce_2 {b x v1 v2 : Int32} {D m1 m2 K c d : Nat} {l1 l2 : List Int32} (hc : c < 8) (hd : d < 24) (hf : fndN c 3 = 0) (h1 : CE b (kI K) D m1 K 1 (d + 1) x v1 l1) (h2 : CE b (kI K) D m2 K 2 (d + 1) 1 v2 l2) : CE b (kI K) (D + 2) (m1 + m2 + 1) c 3 d x (v1 - v2) (2 :: (l1 ++ l2)) :=
  ⟨by have := h1.1; have := h2.1; simp only [List.length_cons, List.length_append]; omega, fun u k Q e hk e4 e5 h => zstep (D := D) hc (by decide) hd e (by omega) 0 (by decide) 2 hf (by decide) (zres2 (by
    rw [nt1_I (by decide), e5]
    exact ce_seq (nt1_3 e 2) (by omega) ((nt1_I (by decide)).trans e4) ((nt1_I (by decide)).trans e5) h1 h2 (fun y z => y - z) rfl h))⟩
theorem ce_60 {b x v1 v2 : Int32} {D m1 m2 K d : Nat} {l1 l2 : List Int32} (hd : d < 24) (h1 : CE b (kI K) D m1 3 2 (d + 1) x v1 l1) (h2 : CE b (kI K) D m2 K 0 (d + 1) 2 v2 l2) : CE b (kI K) (D + 2) (m1 + m2 + 1) 5 2 d x (v1 - v2) (60 :: (l1 ++ l2)) :=
  ⟨by have := h1.1; have := h2.1; simp only [List.length_cons, List.length_append]; omega, fun u k Q e hk e4 e5 h => zstep (D := D) (by decide) (by decide) hd e (by omega) 5 (by decide) 60 (by decide) (by decide) (zres60 (
    ce_seq (nt1_3 e 60) (by omega) ((nt1_I (by decide)).trans e4) ((nt1_I (by decide)).trans e5) h1 h2 (fun y z => y - z) rfl h))⟩
theorem ce_80 {b x v1 v2 : Int32} {D m1 m2 K d : Nat} {l1 l2 : List Int32} (hd : d < 24) (h1 : CE b (kI K) D m1 6 1 (d + 1) x v1 l1) (h2 : CE b (kI K) D m2 K 2 (d + 1) 2 v2 l2) : CE b (kI K) (D + 2) (m1 + m2 + 1) 7 1 d x (v1 + v2) (80 :: (l1 ++ l2)) :=
  ⟨by have := h1.1; have := h2.1; simp only [List.length_cons, List.length_append]; omega, fun u k Q e hk e4 e5 h => zstep (D := D) (by decide) (by decide) hd e (by omega) 7 (by decide) 80 (by decide) (by decide) (zres80 (
    ce_seq (nt1_3 e 80) (by omega) ((nt1_I (by decide)).trans e4) ((nt1_I (by decide)).trans e5) h1 h2 (fun y z => y + z) rfl h))⟩

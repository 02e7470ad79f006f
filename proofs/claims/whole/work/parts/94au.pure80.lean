theorem zres1 {up x d : Int32} {u : ST} {P : Nat → Int32 → Int32 → Int32 → Int32 → ST → (Int32 → ST → Prop) → Prop} {Q : Int32 → ST → Prop} (h : ∀ t : Int32, t = x + gI u 4 → Q t u) : wp_X0_result 1 up x d u P Q := by
  unfold wp_X0_result
  exact ⟨fun _ => h, fun c => absurd rfl c⟩
theorem zres2 {up x d : Int32} {u : ST} {P : Nat → Int32 → Int32 → Int32 → Int32 → ST → (Int32 → ST → Prop) → Prop} {Q : Int32 → ST → Prop} (h : P 0 (gI u 5) 1 x d u (fun y v => P 0 (gI v 5) 2 1 d v (fun z w => ∀ t : Int32, t = y - z → Q t w))) : wp_X0_result 2 up x d u P Q := by
  unfold wp_X0_result
  exact ⟨fun c => absurd c (by decide), fun _ => ⟨fun _ => h, fun c => absurd rfl c⟩⟩
theorem zres10 {up x d : Int32} {u : ST} {P : Nat → Int32 → Int32 → Int32 → Int32 → ST → (Int32 → ST → Prop) → Prop} {Q : Int32 → ST → Prop} (h : P 0 (gI u 5) 0 x d u (fun y v => ∀ t : Int32, t = y * 2 → Q t v)) : wp_X0_result 10 up x d u P Q := by
  unfold wp_X0_result
  exact ⟨fun c => absurd c (by decide), fun _ => ⟨fun c => absurd c (by decide), fun _ => ⟨fun _ => h, fun c => absurd rfl c⟩⟩⟩
theorem zres11 {up x d : Int32} {u : ST} {P : Nat → Int32 → Int32 → Int32 → Int32 → ST → (Int32 → ST → Prop) → Prop} {Q : Int32 → ST → Prop} (h : ∀ t : Int32, t = x ^^^ gI u 4 → Q t u) : wp_X0_result 11 up x d u P Q := by
  unfold wp_X0_result
  exact ⟨fun c => absurd c (by decide), fun _ => ⟨fun c => absurd c (by decide), fun _ => ⟨fun c => absurd c (by decide), fun _ => ⟨fun _ => h, fun c => absurd rfl c⟩⟩⟩⟩
theorem zres20 {up x d : Int32} {u : ST} {P : Nat → Int32 → Int32 → Int32 → Int32 → ST → (Int32 → ST → Prop) → Prop} {Q : Int32 → ST → Prop} (h : P 0 up 0 x d u (fun y v => ∀ t : Int32, t = y + 3 → Q t v)) : wp_X0_result 20 up x d u P Q := by
  unfold wp_X0_result
  exact ⟨fun c => absurd c (by decide), fun _ => ⟨fun c => absurd c (by decide), fun _ => ⟨fun c => absurd c (by decide), fun _ => ⟨fun c => absurd c (by decide), fun _ => ⟨fun _ => h, fun c => absurd rfl c⟩⟩⟩⟩⟩
theorem zres30 {up x d : Int32} {u : ST} {P : Nat → Int32 → Int32 → Int32 → Int32 → ST → (Int32 → ST → Prop) → Prop} {Q : Int32 → ST → Prop} (h : P 0 up 1 x d u (fun y v => ∀ t : Int32, t = -y → Q t v)) : wp_X0_result 30 up x d u P Q := by
  unfold wp_X0_result
  exact ⟨fun c => absurd c (by decide), fun _ => ⟨fun c => absurd c (by decide), fun _ => ⟨fun c => absurd c (by decide), fun _ => ⟨fun c => absurd c (by decide), fun _ => ⟨fun c => absurd c (by decide), fun _ => ⟨fun _ => h, fun c => absurd rfl c⟩⟩⟩⟩⟩⟩
theorem zres40 {up x d : Int32} {u : ST} {P : Nat → Int32 → Int32 → Int32 → Int32 → ST → (Int32 → ST → Prop) → Prop} {Q : Int32 → ST → Prop} (h : P 0 up 2 x d u (fun y v => ∀ t : Int32, t = y * 3 → Q t v)) : wp_X0_result 40 up x d u P Q := by
  unfold wp_X0_result
  exact ⟨fun c => absurd c (by decide), fun _ => ⟨fun c => absurd c (by decide), fun _ => ⟨fun c => absurd c (by decide), fun _ => ⟨fun c => absurd c (by decide), fun _ => ⟨fun c => absurd c (by decide), fun _ => ⟨fun c => absurd c (by decide), fun _ => ⟨fun _ => h, fun c => absurd rfl c⟩⟩⟩⟩⟩⟩⟩
theorem zres41 {up x d : Int32} {u : ST} {P : Nat → Int32 → Int32 → Int32 → Int32 → ST → (Int32 → ST → Prop) → Prop} {Q : Int32 → ST → Prop} (h : ∀ t : Int32, t = x + 1 → P 0 up 1 t d u (fun y v => Q y v)) : wp_X0_result 41 up x d u P Q := by
  unfold wp_X0_result
  exact ⟨fun c => absurd c (by decide), fun _ => ⟨fun c => absurd c (by decide), fun _ => ⟨fun c => absurd c (by decide), fun _ => ⟨fun c => absurd c (by decide), fun _ => ⟨fun c => absurd c (by decide), fun _ => ⟨fun c => absurd c (by decide), fun _ => ⟨fun c => absurd c (by decide), fun _ => ⟨fun _ => h, fun c => absurd rfl c⟩⟩⟩⟩⟩⟩⟩⟩
theorem zres50 {up x d : Int32} {u : ST} {P : Nat → Int32 → Int32 → Int32 → Int32 → ST → (Int32 → ST → Prop) → Prop} {Q : Int32 → ST → Prop} (h : P 0 up 3 x d u (fun y v => ∀ t : Int32, t = y ^^^ 5 → Q t v)) : wp_X0_result 50 up x d u P Q := by
  unfold wp_X0_result
  exact ⟨fun c => absurd c (by decide), fun _ => ⟨fun c => absurd c (by decide), fun _ => ⟨fun c => absurd c (by decide), fun _ => ⟨fun c => absurd c (by decide), fun _ => ⟨fun c => absurd c (by decide), fun _ => ⟨fun c => absurd c (by decide), fun _ => ⟨fun c => absurd c (by decide), fun _ => ⟨fun c => absurd c (by decide), fun _ => ⟨fun _ => h, fun c => absurd rfl c⟩⟩⟩⟩⟩⟩⟩⟩⟩
theorem zres60 {up x d : Int32} {u : ST} {P : Nat → Int32 → Int32 → Int32 → Int32 → ST → (Int32 → ST → Prop) → Prop} {Q : Int32 → ST → Prop} (h : P 0 up 2 x d u (fun y v => P 0 (gI v 5) 0 2 d v (fun z w => ∀ t : Int32, t = y - z → Q t w))) : wp_X0_result 60 up x d u P Q := by
  unfold wp_X0_result
  exact ⟨fun c => absurd c (by decide), fun _ => ⟨fun c => absurd c (by decide), fun _ => ⟨fun c => absurd c (by decide), fun _ => ⟨fun c => absurd c (by decide), fun _ => ⟨fun c => absurd c (by decide), fun _ => ⟨fun c => absurd c (by decide), fun _ => ⟨fun c => absurd c (by decide), fun _ => ⟨fun c => absurd c (by decide), fun _ => ⟨fun c => absurd c (by decide), fun _ => ⟨fun _ => h, fun c => absurd rfl c⟩⟩⟩⟩⟩⟩⟩⟩⟩⟩
theorem zres61 {up x d : Int32} {u : ST} {P : Nat → Int32 → Int32 → Int32 → Int32 → ST → (Int32 → ST → Prop) → Prop} {Q : Int32 → ST → Prop} (h : P 0 up 3 x d u (fun y v => ∀ t : Int32, t = y + 1 → Q t v)) : wp_X0_result 61 up x d u P Q := by
  unfold wp_X0_result
  exact ⟨fun c => absurd c (by decide), fun _ => ⟨fun c => absurd c (by decide), fun _ => ⟨fun c => absurd c (by decide), fun _ => ⟨fun c => absurd c (by decide), fun _ => ⟨fun c => absurd c (by decide), fun _ => ⟨fun c => absurd c (by decide), fun _ => ⟨fun c => absurd c (by decide), fun _ => ⟨fun c => absurd c (by decide), fun _ => ⟨fun c => absurd c (by decide), fun _ => ⟨fun c => absurd c (by decide), fun _ => ⟨fun _ => h, fun c => absurd rfl c⟩⟩⟩⟩⟩⟩⟩⟩⟩⟩⟩
theorem zres70 {up x d : Int32} {u : ST} {P : Nat → Int32 → Int32 → Int32 → Int32 → ST → (Int32 → ST → Prop) → Prop} {Q : Int32 → ST → Prop} (h : P 0 up 0 x d u (fun y v => ∀ t : Int32, t = y * 2 → Q t v)) : wp_X0_result 70 up x d u P Q := by
  unfold wp_X0_result
  exact ⟨fun c => absurd c (by decide), fun _ => ⟨fun c => absurd c (by decide), fun _ => ⟨fun c => absurd c (by decide), fun _ => ⟨fun c => absurd c (by decide), fun _ => ⟨fun c => absurd c (by decide), fun _ => ⟨fun c => absurd c (by decide), fun _ => ⟨fun c => absurd c (by decide), fun _ => ⟨fun c => absurd c (by decide), fun _ => ⟨fun c => absurd c (by decide), fun _ => ⟨fun c => absurd c (by decide), fun _ => ⟨fun c => absurd c (by decide), fun _ => ⟨fun _ => h, fun c => absurd rfl c⟩⟩⟩⟩⟩⟩⟩⟩⟩⟩⟩⟩
theorem zres80 {up x d : Int32} {u : ST} {P : Nat → Int32 → Int32 → Int32 → Int32 → ST → (Int32 → ST → Prop) → Prop} {Q : Int32 → ST → Prop} (h : P 0 up 1 x d u (fun y v => P 0 (gI v 5) 2 2 d v (fun z w => ∀ t : Int32, t = y + z → Q t w))) : wp_X0_result 80 up x d u P Q := by
  unfold wp_X0_result
  exact ⟨fun c => absurd c (by decide), fun _ => ⟨fun c => absurd c (by decide), fun _ => ⟨fun c => absurd c (by decide), fun _ => ⟨fun c => absurd c (by decide), fun _ => ⟨fun c => absurd c (by decide), fun _ => ⟨fun c => absurd c (by decide), fun _ => ⟨fun c => absurd c (by decide), fun _ => ⟨fun c => absurd c (by decide), fun _ => ⟨fun c => absurd c (by decide), fun _ => ⟨fun c => absurd c (by decide), fun _ => ⟨fun c => absurd c (by decide), fun _ => ⟨fun c => absurd c (by decide), fun _ => ⟨fun _ => h, fun c => absurd rfl c⟩⟩⟩⟩⟩⟩⟩⟩⟩⟩⟩⟩⟩
theorem zres81 {up x d : Int32} {u : ST} {P : Nat → Int32 → Int32 → Int32 → Int32 → ST → (Int32 → ST → Prop) → Prop} {Q : Int32 → ST → Prop} (h : P 0 up 0 x d u (fun y v => ∀ t : Int32, t = y - 1 → Q t v)) : wp_X0_result 81 up x d u P Q := by
  unfold wp_X0_result
  exact ⟨fun c => absurd c (by decide), fun _ => ⟨fun c => absurd c (by decide), fun _ => ⟨fun c => absurd c (by decide), fun _ => ⟨fun c => absurd c (by decide), fun _ => ⟨fun c => absurd c (by decide), fun _ => ⟨fun c => absurd c (by decide), fun _ => ⟨fun c => absurd c (by decide), fun _ => ⟨fun c => absurd c (by decide), fun _ => ⟨fun c => absurd c (by decide), fun _ => ⟨fun c => absurd c (by decide), fun _ => ⟨fun c => absurd c (by decide), fun _ => ⟨fun c => absurd c (by decide), fun _ => ⟨fun c => absurd c (by decide), fun _ => ⟨fun _ => h, fun c => absurd rfl c⟩⟩⟩⟩⟩⟩⟩⟩⟩⟩⟩⟩⟩⟩
theorem zstep {c a d D : Nat} (hc : c < 8) (ha : a < 4) (hd : d < 24) {x : Int32} {u : ST} {k : Nat} (ek : gI u 3 = nI k) (hk : k < 1000) (t : Nat) (ht : t < 8) (o : Int32) (hf : fndN c a = t) (ho : ownI t a = o) {Q : Int32 → ST → Prop}
    (h : wp_X0_result o (kI (aboveN t)) x (nI (d + 1)) (nt1 u o) (wpR0 D) Q) : wpR0 (D + 2) 0 (kI c) (nI a) x (nI d) u Q := by
  show wp_X0_run (kI c) (nI a) x (nI d) u (wpR0 (D + 1)) Q
  refine zrun (by omega) ha hd ek hk (fun c8 => by omega) (fun _ => ?_)
  rw [hf, ho]
  exact h

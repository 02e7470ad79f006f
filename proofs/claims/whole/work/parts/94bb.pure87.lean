/-! what the pieces need of the reference, kept by what doesn't touch it -/
theorem RL0_ag {ks : List Nat} {L V V' : ST} (h : RL0 L V) (ha : Ag ks V' V) (h1 : 11 ∉ ks) (h2 : 12 ∉ ks) : RL0 L V' := by
  unfold RL0
  rw [Ag_I ha 12 h2, Ag_A ha 11 h1]
  exact h
theorem RB_ag {ks : List Nat} {B V V' : ST} (h : RB B V) (ha : Ag ks V' V) (h1 : 49 ∉ ks) (h2 : 50 ∉ ks) (h3 : 51 ∉ ks) (h4 : 52 ∉ ks) : RB B V' := by
  unfold RB
  rw [Ag_I ha 49 h1, Ag_A ha 50 h2, Ag_I ha 51 h3, Ag_A ha 52 h4]
  exact h
theorem RS_ag {ks : List Nat} {U : CS} {V V' : ST} (h : RS U V) (ha : Ag ks V' V) (h1 : 49 ∉ ks) (h2 : 53 ∉ ks) (h3 : 54 ∉ ks) (h4 : 55 ∉ ks) : RS U V' := by
  unfold RS RS1
  rw [Ag_I ha 49 h1, Ag_A ha 53 h2, Ag_A ha 54 h3, Ag_J ha 55 h4]
  exact h
theorem RK_ag {ks : List Nat} {U : CS} {V V' : ST} (h : RK U V) (ha : Ag ks V' V) (h1 : 47 ∉ ks) (h2 : 48 ∉ ks) : RK U V' := by
  unfold RK
  rw [Ag_A ha 47 h1, Ag_I ha 48 h2]
  exact h
theorem RS_U {U U' : CS} {V : ST} (h : RS U V) (e : ∀ s : Nat, s < 6 → U' (18 + s) = U (18 + s)) : RS U' V := by
  obtain ⟨n, hn, e9, hS⟩ := h
  exact ⟨n, hn, e9, fun s hs => by rw [e s hs]; exact hS s hs⟩

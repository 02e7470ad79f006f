/-! The verifier's own kit: a world as one list of cells, with what may be written; a contract by a state and a predicate of what comes back; calls on a stretch of a world. -/
/-- the links between nest mates, of which the tables tell -/
def mNest : Cond → Bool
  | .fieldLinkNest _ _ _ _ _ _ => true
  | .methodLinkNest _ _ _ _ => true
  | _ => false
def mN (U : State) : Prop := ∀ w ∈ tables_1, mNest w = true → va_Nw w U
theorem mN_warm {s U : State} (hW : s.WarmedH U.vm) (hN : mN s) : mN U := by
  intro w hw hn
  have h0 := hN w hw hn
  cases w <;> first | exact Bool.noConfusion (show false = true from hn) | exact va_Nw.warmF hW h0 | exact va_Nw.warmM hW h0
theorem mN_onTables {w : Cond} (hn : mNest w = true) : w.onTables = true := by
  cases w <;> first | exact Bool.noConfusion (show false = true from hn) | rfl
theorem mN_same {u U : State} (h : u.vm = U.vm) (hN : mN u) : mN U := fun w hw hn => va_Nw.same (mN_onTables hn) h (hN w hw hn)
/-- the four rows that the classes hold as static, which nobody writes -/
def xLEAST : Nat → Int32 := fun j => ([1, 0, 0, 0] : List Int32).getD j 0
def xMOST : Nat → Int32 := fun j => ([60, 6, 99, 99] : List Int32).getD j 0
def xABOVE : Nat → Int32 := fun j => ([-1, 0, 0, 2, 1, 3, 0, 6] : List Int32).getD j 0
def xOWN : Nat → Int32 := fun j => ([1, 10, 11, 2, 20, 0, 0, 0, 0, 30, 0, 0, 0, 41, 40, 0, 0, 0, 0, 50, 0, 0, 60, 61, 70, 0, 0, 0, 81, 80, 0, 0] : List Int32).getD j 0
def mZT (C n : String) (N : Nat) (f : Nat → Int32) (A : Nat → Prop) (U : State) (H : Heap) : Prop := ∃ t : Nat, va_Z C n "[I" (.ref t) A U H ∧ va_T .int t N (fun j => .int (f j)) A U H
theorem mZT.kept {C n : String} {N : Nat} {f : Nat → Int32} {A : Nat → Prop} {U : State} {H H1 : Heap} (h : mZT C n N f A U H) (hq : ∀ a : Nat, a < H.size → ¬ A a → H1[a]? = H[a]?) : mZT C n N f A U H1 := by
  obtain ⟨t, h1, h2⟩ := h
  exact ⟨t, h1.kept hq, h2.kept hq⟩
theorem mZT.narrow {C n : String} {N : Nat} {f : Nat → Int32} {A B : Nat → Prop} {U : State} {H : Heap} (h : mZT C n N f A U H) (hq : ∀ q, B q → A q) : mZT C n N f B U H := by
  obtain ⟨t, h1, h2⟩ := h
  exact ⟨t, h1.narrow hq, h2.narrow hq⟩
theorem mZT.moved {C n : String} {N : Nat} {f : Nat → Int32} {A : Nat → Prop} {u U : State} {H : Heap} (hvm : u.vm.Alike U.vm) (h : mZT C n N f A u H) : mZT C n N f A U H := by
  obtain ⟨t, h1, h2⟩ := h
  exact ⟨t, h1.moved hvm, h2.moved hvm⟩
def mSt (A : Nat → Prop) (U : State) (H : Heap) : Prop := mZT "TwoJars$Tower" "LEAST" 4 xLEAST A U H ∧ mZT "TwoJars$Tower" "MOST" 4 xMOST A U H ∧ mZT "TwoJars$Bodies" "ABOVE" 8 xABOVE A U H ∧ mZT "TwoJars$Bodies" "OWN" 32 xOWN A U H
theorem mSt.kept {A : Nat → Prop} {U : State} {H H1 : Heap} (h : mSt A U H) (hq : ∀ a : Nat, a < H.size → ¬ A a → H1[a]? = H[a]?) : mSt A U H1 := ⟨h.1.kept hq, h.2.1.kept hq, h.2.2.1.kept hq, h.2.2.2.kept hq⟩
theorem mSt.narrow {A B : Nat → Prop} {U : State} {H : Heap} (h : mSt A U H) (hq : ∀ q, B q → A q) : mSt B U H := ⟨h.1.narrow hq, h.2.1.narrow hq, h.2.2.1.narrow hq, h.2.2.2.narrow hq⟩
theorem mSt.moved {A : Nat → Prop} {u U : State} {H : Heap} (hvm : u.vm.Alike U.vm) (h : mSt A u H) : mSt A U H := ⟨h.1.moved hvm, h.2.1.moved hvm, h.2.2.1.moved hvm, h.2.2.2.moved hvm⟩
def mI (D : va_G) (tys : List (ClassId × FieldType)) (A : Nat → Prop) (H0 : Heap) (s : State) (ws : va_W) (H : Heap) (locs : List Loc) : Prop :=
  va_P D vwCl ws H ∧ va_D A ws ∧ va_S A H0 H locs ∧ (va_K D vwCl tys s ∧ mN s ∧ mSt A s H0) ∧ ∀ q : Nat, H0.size ≤ q → A q
theorem mP_mem {D : va_G} {cl : List vw_C} {ws : va_W} {H : Heap} : va_P D cl ws H ↔ ∀ q ∈ ws, va_at D cl q H :=
  ⟨fun h q hq => by obtain ⟨i, hi⟩ := List.getElem?_of_mem hq; exact h i q hi, fun h k q hk => h q (List.mem_of_getElem? hk)⟩
theorem mD_iff {A : Nat → Prop} {ws : va_W} : va_D A ws ↔ (ws.map Prod.fst).Nodup ∧ ∀ q ∈ ws, A q.1 := by
  constructor
  · intro h
    refine ⟨?_, fun q hq => by obtain ⟨i, hi⟩ := List.getElem?_of_mem hq; exact h.2 i q hi⟩
    rw [List.Nodup, List.pairwise_map, List.pairwise_iff_getElem]
    intro i j hi hj hij he
    have := h.1 i j _ _ (List.getElem?_eq_getElem hi) (List.getElem?_eq_getElem hj) he
    omega
  · intro h
    have h1 := h.1
    rw [List.Nodup, List.pairwise_map, List.pairwise_iff_getElem] at h1
    refine ⟨fun i j p q hi hj he => ?_, fun k q hk => h.2 q (List.mem_of_getElem? hk)⟩
    obtain ⟨hi1, rfl⟩ := List.getElem?_eq_some_iff.mp hi
    obtain ⟨hj1, rfl⟩ := List.getElem?_eq_some_iff.mp hj
    rcases Nat.lt_trichotomy i j with g | g | g
    · exact absurd he (h1 i j hi1 hj1 g)
    · exact g
    · exact absurd he.symm (h1 j i hj1 hi1 g)
theorem mA_iff {ws : va_W} {sz q : Nat} : va_A ws sz q ↔ q ∈ ws.map Prod.fst ∨ sz ≤ q := by
  constructor
  · intro h
    rcases h with ⟨k, e, h⟩ | h
    · exact Or.inl (List.mem_map.mpr ⟨_, List.mem_of_getElem? h, rfl⟩)
    · exact Or.inr h
  · intro h
    rcases h with h | h
    · obtain ⟨x, hx, rfl⟩ := List.mem_map.mp h
      obtain ⟨i, hi⟩ := List.getElem?_of_mem hx
      exact Or.inl ⟨i, x.2, hi⟩
    · exact Or.inr h
theorem mI_perm {D : va_G} {tys : List (ClassId × FieldType)} {A : Nat → Prop} {H0 : Heap} {s : State} {ws w1 : va_W} {H : Heap} {locs : List Loc} (hp : ws.Perm w1) (hI : mI D tys A H0 s ws H locs) : mI D tys A H0 s w1 H locs := by
  obtain ⟨hP, hD, r⟩ := hI
  rw [mP_mem] at hP
  rw [mD_iff] at hD
  exact ⟨mP_mem.mpr fun q hq => hP q (hp.mem_iff.mpr hq), mD_iff.mpr ⟨(hp.map Prod.fst).nodup_iff.mp hD.1, fun q hq => hD.2 q (hp.mem_iff.mpr hq)⟩, r⟩
theorem mI_free {D : va_G} {tys : List (ClassId × FieldType)} {A : Nat → Prop} {H0 : Heap} {s : State} {X Y wc : va_W} {H : Heap} {locs : List Loc} (hI : mI D tys A H0 s (X ++ (wc ++ Y)) H locs) : ∀ q, va_A wc H.size q → A q := by
  intro q h
  rcases mA_iff.mp h with h | h
  · obtain ⟨x, hx, rfl⟩ := List.mem_map.mp h
    exact (mD_iff.mp hI.2.1).2 x (List.mem_append_right _ (List.mem_append_left _ hx))
  · exact hI.2.2.2.2 q (Nat.le_trans hI.2.2.1.1 h)
theorem mI_mid {D : va_G} {tys : List (ClassId × FieldType)} {A : Nat → Prop} {H0 : Heap} {s : State} {X Y wc : va_W} {H : Heap} {locs : List Loc} (hI : mI D tys A H0 s (X ++ (wc ++ Y)) H locs) : va_P D vwCl wc H ∧ va_D (fun _ => True) wc := by
  refine ⟨mP_mem.mpr fun q hq => mP_mem.mp hI.1 q (List.mem_append_right _ (List.mem_append_left _ hq)), mD_iff.mpr ⟨?_, fun _ _ => trivial⟩⟩
  have hn := (mD_iff.mp hI.2.1).1
  rw [List.map_append, List.map_append, List.nodup_append, List.nodup_append] at hn
  exact hn.2.1.1
theorem mI_join {D : va_G} {tys : List (ClassId × FieldType)} {A : Nat → Prop} {H0 : Heap} {s : State} {X Y wc w1 : va_W} {H H1 : Heap} {locs locs1 : List Loc} (hI : mI D tys A H0 s (X ++ (wc ++ Y)) H locs) (hS : va_S A H0 H1 locs1) (hk : ∀ q : Nat, q < H.size → ¬ va_A wc H.size q → H1[q]? = H[q]?) (hP1 : va_P D vwCl w1 H1) (hD1 : va_D (va_A wc H.size) w1) : mI D tys A H0 s (X ++ (w1 ++ Y)) H1 locs1 := by
  have hF := mI_free hI
  obtain ⟨hP, hD, hS0, hK, hA⟩ := hI
  rw [mP_mem] at hP hP1
  rw [mD_iff] at hD hD1
  obtain ⟨hn, hall⟩ := hD
  rw [List.map_append, List.map_append, List.nodup_append, List.nodup_append] at hn
  obtain ⟨nX, ⟨nC, nY, dCY⟩, dX⟩ := hn
  have offX : ∀ q ∈ X, q.1 < H.size ∧ ¬ va_A wc H.size q.1 := by
    intro q hq
    have hl := (hP q (List.mem_append_left _ hq)).lt
    refine ⟨hl, fun h => ?_⟩
    rcases mA_iff.mp h with h | h
    · exact dX q.1 (List.mem_map.mpr ⟨q, hq, rfl⟩) q.1 (List.mem_append_left _ h) rfl
    · omega
  have offY : ∀ q ∈ Y, q.1 < H.size ∧ ¬ va_A wc H.size q.1 := by
    intro q hq
    have hl := (hP q (List.mem_append_right _ (List.mem_append_right _ hq))).lt
    refine ⟨hl, fun h => ?_⟩
    rcases mA_iff.mp h with h | h
    · exact dCY q.1 h q.1 (List.mem_map.mpr ⟨q, hq, rfl⟩) rfl
    · omega
  have out : ∀ x ∈ w1.map Prod.fst, va_A wc H.size x := by
    intro x hx
    obtain ⟨q, hq, rfl⟩ := List.mem_map.mp hx
    exact hD1.2 q hq
  refine ⟨mP_mem.mpr fun q hq => ?_, mD_iff.mpr ⟨?_, fun q hq => ?_⟩, hS, hK, hA⟩
  · rcases List.mem_append.mp hq with h | h
    · exact (hP q (List.mem_append_left _ h)).kept (hk q.1 (offX q h).1 (offX q h).2)
    · rcases List.mem_append.mp h with h | h
      · exact hP1 q h
      · exact (hP q (List.mem_append_right _ (List.mem_append_right _ h))).kept (hk q.1 (offY q h).1 (offY q h).2)
  · rw [List.map_append, List.map_append, List.nodup_append, List.nodup_append]
    refine ⟨nX, ⟨hD1.1, nY, fun a ha b hb e => ?_⟩, fun a ha b hb e => ?_⟩
    · subst e
      obtain ⟨q, hq, rfl⟩ := List.mem_map.mp hb
      exact (offY q hq).2 (out _ ha)
    · subst e
      obtain ⟨q, hq, rfl⟩ := List.mem_map.mp ha
      rcases List.mem_append.mp hb with h | h
      · exact (offX q hq).2 (out _ h)
      · exact dX q.1 (List.mem_map.mpr ⟨q, hq, rfl⟩) q.1 (List.mem_append_right _ h) rfl
  · rcases List.mem_append.mp hq with h | h
    · exact hall q (List.mem_append_left _ h)
    · rcases List.mem_append.mp h with h | h
      · exact hF q.1 (hD1.2 q h)
      · exact hall q (List.mem_append_right _ (List.mem_append_right _ h))
def mPre {S : Type} (D : va_G) (tys : List (ClassId × FieldType)) (w : S → va_W) (u : S) (sz : Nat) : State → Prop := fun U => U.heap.size = sz ∧ va_P D vwCl (w u) U.heap ∧ (va_K D vwCl tys U ∧ mN U ∧ mSt (va_A (w u) sz) U U.heap) ∧ va_D (fun _ => True) (w u)
def mPos {S : Type} (D : va_G) (tys : List (ClassId × FieldType)) (A : Nat → Prop) (w : S → va_W) (u : S) (t : State) : Prop := va_P D vwCl (w u) t.heap ∧ va_K D vwCl tys t ∧ va_D A (w u)
/-- contracts: from every heap that holds the state u, the method comes back with Q of its answer and of the state then held -/
def mCi {S : Type} (l : Launch) (y : MethodName) (ws : List Cond) (rm : Room) (mc ms : Nat) (D : va_G) (tys : List (ClassId × FieldType)) (w : S → va_W) (av : List Value) (u : S) (Qp : Int32 → S → Prop) : Prop := ∀ sz : Nat, Met l y ws rm (va_Pc av (mPre D tys w u sz)) (va_Qi Qp (mPos D tys (va_A (w u) sz) w) (va_A (w u) sz)) mc ms (va_A (w u) sz)
def mCl {S : Type} (l : Launch) (y : MethodName) (ws : List Cond) (rm : Room) (mc ms : Nat) (D : va_G) (tys : List (ClassId × FieldType)) (w : S → va_W) (av : List Value) (u : S) (Qp : Int64 → S → Prop) : Prop := ∀ sz : Nat, Met l y ws rm (va_Pc av (mPre D tys w u sz)) (va_Ql Qp (mPos D tys (va_A (w u) sz) w) (va_A (w u) sz)) mc ms (va_A (w u) sz)
def mCv {S : Type} (l : Launch) (y : MethodName) (ws : List Cond) (rm : Room) (mc ms : Nat) (D : va_G) (tys : List (ClassId × FieldType)) (w : S → va_W) (av : List Value) (u : S) (Qp : S → Prop) : Prop := ∀ sz : Nat, Met l y ws rm (va_Pc av (mPre D tys w u sz)) (va_Qv Qp (mPos D tys (va_A (w u) sz) w) (va_A (w u) sz)) mc ms (va_A (w u) sz)
/-- contracts of methods that look at no cell -/
def mTi (l : Launch) (y : MethodName) (ws : List Cond) (rm : Room) (av : List Value) (Qp : Int32 → Prop) : Prop := Met l y ws rm (va_Pc av mN) (vp_Si Qp) 0 0 (fun _ => False)
theorem mPre_blind {S : Type} {D : va_G} {tys : List (ClassId × FieldType)} {w : S → va_W} {av : List Value} {u : S} {sz : Nat} : FrameBlind (va_Pc av (mPre D tys w u sz)) := fun a U g mk q => by
  obtain ⟨q0, q1, qP, qK, qD⟩ := q
  exact ⟨q0, q1, qP, ⟨va_K.moved (u := U) (U := U.calling g mk a) (Vm.Alike.refl U.vm) qK.1, mN_same (u := U) (U := U.calling g mk a) rfl qK.2.1, mSt.moved (u := U) (U := U.calling g mk a) (Vm.Alike.refl U.vm) qK.2.2⟩, qD⟩
theorem mPre_of {S : Type} {D : va_G} {tys : List (ClassId × FieldType)} {A : Nat → Prop} {H0 H : Heap} {s : State} {X Y : va_W} {locs : List Loc} {w : S → va_W} {av : List Value} {u : S} (hI : mI D tys A H0 s (X ++ (w u ++ Y)) H locs) : ∀ U : State, U.heap = H → s.WarmedH U.vm → va_Pc av (mPre D tys w u H.size) av.toArray U := fun U hU hW =>
  ⟨rfl, by rw [hU], by rw [hU]; exact (mI_mid hI).1, ⟨va_K.moved hW.alike hI.2.2.2.1.1, mN_warm hW hI.2.2.2.1.2.1, by rw [hU]; exact mSt.moved hW.alike ((hI.2.2.2.1.2.2.kept hI.2.2.1.2.1).narrow (mI_free hI))⟩, (mI_mid hI).2⟩
section MK
variable {p : Program} {l : Launch} {e : Env} {R : Room} {s : State} {m : MethodId} {args : Array Value} {below : List Frame} {meth : Method} {c : Code} {H : Heap} {locs : List Loc} {cells slots : Nat} {Q : State → Prop}
variable {cc : ByteArray} {pc nL : Nat} {ls : Array Slot} {rest st0 As : List Value} {D : va_G} {A : Nat → Prop} {a b : Nat} {tys : List (ClassId × FieldType)} {ws : va_W} {H0 : Heap} {own C : String} {Ts : List Cond}
variable {y : MethodName} {bytes : ByteArray} {maxL mc ms n index : Nat} {ret : Option FieldType} {wds : List Cond} {rm : Room}
/-- a call on an object whose world is a stretch of the caller's -/
theorem m_runV {S' : Type} {w : S' → va_W} {u : S'} {Qc : Array Value → State → Outcome → State → Prop} {fr : Addr → Prop} {X Y : va_W} (S : CallFix p m c cc nL s args Ts own) (hI : mI D tys A H0 s (X ++ (w u ++ Y)) H locs) (hM : Met l y wds rm (va_Pc (.ref b :: As) (mPre D tys w u H.size)) Qc mc ms fr) (cw : CallW R s args own C index y bytes maxL ret wds rm mc ms n) {ci N : Nat} {fs : List Value} {T : u_T} (hrc : (w u)[0]? = some (b, .inr (ci, fs))) (hcl : vwCl[ci]? = some (C, T, N))
    (hn : As.length = n) (hsize : ls.size = nL) (hstack : st0 = As.reverse ++ .ref b :: rest) (hW : (rest.map fun v => v.category).sum ≤ 8) (hdg : decode cc pc = .ok (.invokevirtual index, 3)) (hf : cells + mc ≤ R.cells ∧ slots + ms ≤ R.slots) : va_Run p l e R s m args below meth c H locs cells slots mc ms (F0 m pc ls st0) rest (Qc (Value.ref b :: As).toArray) fr :=
  va_runV S hM cw ⟨mPre_blind, va_recv (q := (C, T, N)) hI.2.2.2.1.1 (mI_mid hI).1 hcl hrc, mPre_of hI⟩ rfl hn hsize hstack (lv_room (pc := pc) (ls := ls) (rest := st0) hW) hdg hf
theorem m_runS {S' : Type} {w : S' → va_W} {u : S'} {Qc : Array Value → State → Outcome → State → Prop} {fr : Addr → Prop} {X Y : va_W} (S : CallFix p m c cc nL s args Ts own) (hI : mI D tys A H0 s (X ++ (w u ++ Y)) H locs) (hM : Met l y wds rm (va_Pc As (mPre D tys w u H.size)) Qc mc ms fr) (cw : CallB R s args own index y bytes maxL ret wds rm mc ms n ∧ (Cond.static y).before args s = true)
    (hn : As.length = n) (hsize : ls.size = nL) (hstack : st0 = As.reverse ++ rest) (hW : (rest.map fun v => v.category).sum ≤ 8) (hdg : decode cc pc = .ok (.invokestatic index, 3)) (hf : cells + mc ≤ R.cells ∧ slots + ms ≤ R.slots) : va_Run p l e R s m args below meth c H locs cells slots mc ms (F0 m pc ls st0) rest (Qc As.toArray) fr :=
  va_runS S hM cw ⟨mPre_blind, mPre_of hI⟩ rfl hn hsize hstack (lv_room (pc := pc) (ls := ls) (rest := st0) hW) hdg hf
theorem m_gi {S' : Type} {w : S' → va_W} {u : S'} {Qp : Int32 → S' → Prop} {av : Array Value} {X Y : va_W} (hI : mI D tys A H0 s (X ++ (w u ++ Y)) H locs)
    (hr : va_Run p l e R s m args below meth c H locs cells slots mc ms (F0 m pc ls st0) rest (va_Qi Qp (mPos D tys (va_A (w u) H.size) w) (va_A (w u) H.size) av) (va_A (w u) H.size))
    (kk : ∀ (r : Int32) (u' : S') (H1 : Heap) (locs1 : List Loc), Qp r u' → mI D tys A H0 s (X ++ (w u' ++ Y)) H1 locs1 → W p l e R s m args below meth c H1 locs1 (cells + mc) (slots + ms) Q (F0 m (pc + 3) ls (.int r :: rest))) : W p l e R s m args below meth c H locs cells slots Q (F0 m pc ls st0) :=
  va_calli hr hI.2.2.1 (fun q _ h => mI_free hI q h) (fun q h => mI_free hI q h) (fun r u' t H1 locs1 ht hvm hq hB hz hk hS => kk r u' H1 locs1 hq (mI_join hI hS hk (by rw [← ht]; exact hB.1) hB.2.2))
theorem m_gl {S' : Type} {w : S' → va_W} {u : S'} {Qp : Int64 → S' → Prop} {av : Array Value} {X Y : va_W} (hI : mI D tys A H0 s (X ++ (w u ++ Y)) H locs)
    (hr : va_Run p l e R s m args below meth c H locs cells slots mc ms (F0 m pc ls st0) rest (va_Ql Qp (mPos D tys (va_A (w u) H.size) w) (va_A (w u) H.size) av) (va_A (w u) H.size))
    (kk : ∀ (r : Int64) (u' : S') (H1 : Heap) (locs1 : List Loc), Qp r u' → mI D tys A H0 s (X ++ (w u' ++ Y)) H1 locs1 → W p l e R s m args below meth c H1 locs1 (cells + mc) (slots + ms) Q (F0 m (pc + 3) ls (.long r :: rest))) : W p l e R s m args below meth c H locs cells slots Q (F0 m pc ls st0) :=
  va_calll hr hI.2.2.1 (fun q _ h => mI_free hI q h) (fun q h => mI_free hI q h) (fun r u' t H1 locs1 ht hvm hq hB hz hk hS => kk r u' H1 locs1 hq (mI_join hI hS hk (by rw [← ht]; exact hB.1) hB.2.2))
theorem m_gv {S' : Type} {w : S' → va_W} {u : S'} {Qp : S' → Prop} {av : Array Value} {X Y : va_W} (hI : mI D tys A H0 s (X ++ (w u ++ Y)) H locs)
    (hr : va_Run p l e R s m args below meth c H locs cells slots mc ms (F0 m pc ls st0) rest (va_Qv Qp (mPos D tys (va_A (w u) H.size) w) (va_A (w u) H.size) av) (va_A (w u) H.size))
    (kk : ∀ (u' : S') (H1 : Heap) (locs1 : List Loc), Qp u' → mI D tys A H0 s (X ++ (w u' ++ Y)) H1 locs1 → W p l e R s m args below meth c H1 locs1 (cells + mc) (slots + ms) Q (F0 m (pc + 3) ls rest)) : W p l e R s m args below meth c H locs cells slots Q (F0 m pc ls st0) :=
  va_callv hr hI.2.2.1 (fun q _ h => mI_free hI q h) (fun q h => mI_free hI q h) (fun u' t H1 locs1 ht hvm hq hB hz hk hS => kk u' H1 locs1 hq (mI_join hI hS hk (by rw [← ht]; exact hB.1) hB.2.2))
/-- the caller's world by the callee's state: cf -/
theorem m_vi {S' : Type} {w cf : S' → va_W} {u : S'} {Qp : Int32 → S' → Prop} {X Y : va_W} (S : CallFix p m c cc nL s args Ts own) (hcf : ∀ v, (cf v).Perm (X ++ (w v ++ Y))) (hI : mI D tys A H0 s ws H locs) (hcu : ws = cf u) (hC : mCi l y wds rm mc ms D tys w (.ref b :: As) u Qp) (cw : CallW R s args own C index y bytes maxL ret wds rm mc ms n) {ci N : Nat} {fs : List Value} {T : u_T} (hrc : (w u)[0]? = some (b, .inr (ci, fs))) (hcl : vwCl[ci]? = some (C, T, N))
    (hn : As.length = n) (hsize : ls.size = nL) (hstack : st0 = As.reverse ++ .ref b :: rest) (hW : (rest.map fun v => v.category).sum ≤ 8) (hdg : decode cc pc = .ok (.invokevirtual index, 3)) (hf : cells + mc ≤ R.cells ∧ slots + ms ≤ R.slots)
    (kk : ∀ (r : Int32) (u' : S') (H1 : Heap) (locs1 : List Loc), Qp r u' → mI D tys A H0 s (cf u') H1 locs1 → W p l e R s m args below meth c H1 locs1 (cells + mc) (slots + ms) Q (F0 m (pc + 3) ls (.int r :: rest))) : W p l e R s m args below meth c H locs cells slots Q (F0 m pc ls st0) := by
  have hI' := mI_perm (hcf u) (hcu ▸ hI)
  exact m_gi hI' (m_runV S hI' (hC H.size) cw hrc hcl hn hsize hstack hW hdg hf) (fun r u' H1 locs1 hq h => kk r u' H1 locs1 hq (mI_perm (hcf u').symm h))
theorem m_vl {S' : Type} {w cf : S' → va_W} {u : S'} {Qp : Int64 → S' → Prop} {X Y : va_W} (S : CallFix p m c cc nL s args Ts own) (hcf : ∀ v, (cf v).Perm (X ++ (w v ++ Y))) (hI : mI D tys A H0 s ws H locs) (hcu : ws = cf u) (hC : mCl l y wds rm mc ms D tys w (.ref b :: As) u Qp) (cw : CallW R s args own C index y bytes maxL ret wds rm mc ms n) {ci N : Nat} {fs : List Value} {T : u_T} (hrc : (w u)[0]? = some (b, .inr (ci, fs))) (hcl : vwCl[ci]? = some (C, T, N))
    (hn : As.length = n) (hsize : ls.size = nL) (hstack : st0 = As.reverse ++ .ref b :: rest) (hW : (rest.map fun v => v.category).sum ≤ 8) (hdg : decode cc pc = .ok (.invokevirtual index, 3)) (hf : cells + mc ≤ R.cells ∧ slots + ms ≤ R.slots)
    (kk : ∀ (r : Int64) (u' : S') (H1 : Heap) (locs1 : List Loc), Qp r u' → mI D tys A H0 s (cf u') H1 locs1 → W p l e R s m args below meth c H1 locs1 (cells + mc) (slots + ms) Q (F0 m (pc + 3) ls (.long r :: rest))) : W p l e R s m args below meth c H locs cells slots Q (F0 m pc ls st0) := by
  have hI' := mI_perm (hcf u) (hcu ▸ hI)
  exact m_gl hI' (m_runV S hI' (hC H.size) cw hrc hcl hn hsize hstack hW hdg hf) (fun r u' H1 locs1 hq h => kk r u' H1 locs1 hq (mI_perm (hcf u').symm h))
theorem m_vv {S' : Type} {w cf : S' → va_W} {u : S'} {Qp : S' → Prop} {X Y : va_W} (S : CallFix p m c cc nL s args Ts own) (hcf : ∀ v, (cf v).Perm (X ++ (w v ++ Y))) (hI : mI D tys A H0 s ws H locs) (hcu : ws = cf u) (hC : mCv l y wds rm mc ms D tys w (.ref b :: As) u Qp) (cw : CallW R s args own C index y bytes maxL ret wds rm mc ms n) {ci N : Nat} {fs : List Value} {T : u_T} (hrc : (w u)[0]? = some (b, .inr (ci, fs))) (hcl : vwCl[ci]? = some (C, T, N))
    (hn : As.length = n) (hsize : ls.size = nL) (hstack : st0 = As.reverse ++ .ref b :: rest) (hW : (rest.map fun v => v.category).sum ≤ 8) (hdg : decode cc pc = .ok (.invokevirtual index, 3)) (hf : cells + mc ≤ R.cells ∧ slots + ms ≤ R.slots)
    (kk : ∀ (u' : S') (H1 : Heap) (locs1 : List Loc), Qp u' → mI D tys A H0 s (cf u') H1 locs1 → W p l e R s m args below meth c H1 locs1 (cells + mc) (slots + ms) Q (F0 m (pc + 3) ls rest)) : W p l e R s m args below meth c H locs cells slots Q (F0 m pc ls st0) := by
  have hI' := mI_perm (hcf u) (hcu ▸ hI)
  exact m_gv hI' (m_runV S hI' (hC H.size) cw hrc hcl hn hsize hstack hW hdg hf) (fun u' H1 locs1 hq h => kk u' H1 locs1 hq (mI_perm (hcf u').symm h))
/-- a call of a static method that looks at no cell -/
theorem m_si {Qp : Int32 → Prop} (S : CallFix p m c cc nL s args Ts own) (hN : mN s) (hC : mTi l y wds rm As Qp) (cw : CallB R s args own index y bytes maxL ret wds rm 0 0 n ∧ (Cond.static y).before args s = true)
    (hn : As.length = n) (hsize : ls.size = nL) (hstack : st0 = As.reverse ++ rest) (hW : (rest.map fun v => v.category).sum ≤ 8) (hdg : decode cc pc = .ok (.invokestatic index, 3)) (hf : cells + 0 ≤ R.cells ∧ slots + 0 ≤ R.slots)
    (kk : ∀ r : Int32, Qp r → W p l e R s m args below meth c H locs cells slots Q (F0 m (pc + 3) ls (.int r :: rest))) : W p l e R s m args below meth c H locs cells slots Q (F0 m pc ls st0) :=
  vp_callSi (W.runS S hC cw ⟨fun a U g mk q => ⟨q.1, mN_same (u := U) (U := U.calling g mk a) rfl q.2⟩, fun _ _ hW => ⟨rfl, mN_warm hW hN⟩⟩ rfl hn hsize hstack (lv_room (pc := pc) (ls := ls) (rest := st0) hW) hdg hf) kk
/-- the rows of cells -/
theorem m_get {ref : String} {T : u_T} {N ci : Nat} (S : CallFix p m c cc nL s args Ts own) (hin : ∀ w ∈ u_ws C T N, w ∈ Ts) (hI : mI D tys A H0 s ws H locs) (q0 : Nat) {fs : List Value} (he : ws[q0]? = some (a, .inr (ci, fs))) (hc : vwCl[ci]? = some (C, T, N)) (k : Nat) (hk : k < N) (hlink : Cond.fieldLink own index ref (T k).2.1 (T k).2.2.1 ∈ Ts) (hsame : ref = (T k).1) {v : Value} (hv : fs[k]? = some v) (hdg : decode cc pc = .ok (.getfield index, 3))
    (kk : W p l e R s m args below meth c H locs cells slots Q (F0 m (pc + 3) ls (v :: rest))) : W p l e R s m args below meth c H locs cells slots Q (F0 m pc ls (.ref a :: rest)) :=
  va_get S.1 S.2.1 S.2.2.2.2 hin S.2.2.2.1 hI.2.2.2.1.1 hI.1 q0 he hc k hk (S.2.2.2.2 _ hlink) (fun _ h => by rw [hsame]; exact h) hv hdg kk
theorem m_put {ref : String} {T : u_T} {N ci : Nat} {ty0 : Nat → FieldType} {ws' : va_W} (S : CallFix p m c cc nL s args Ts own) (hin : ∀ w ∈ u_ws C T N, w ∈ Ts) (hty : ∀ k, k < N → parseFieldDescriptor (T k).2.2.1 = some (ty0 k)) (hnm : ∀ a, a < N → ∀ b, b < N → a ≠ b → (T a).2.1 ≠ (T b).2.1) (hI : mI D tys A H0 s ws H locs) (q0 : Nat) {fs : List Value} (he : ws[q0]? = some (a, .inr (ci, fs))) (hc : vwCl[ci]? = some (C, T, N)) (k : Nat) (hk : k < N) (hlink : Cond.fieldLink own index ref (T k).2.1 (T k).2.2.1 ∈ Ts) (hsame : ref = (T k).1) (hfin : (T k).2.2.2 = false) {v : Value} (hn : narrow (ty0 k) v = v) (hfit : fits (ty0 k) v = true) (hl : k < fs.length) (hset : ws.set q0 (a, .inr (ci, fs.set k v)) = ws') (hdg : decode cc pc = .ok (.putfield index, 3))
    (kk : ∀ (H1 : Heap) (locs1 : List Loc), mI D tys A H0 s ws' H1 locs1 → W p l e R s m args below meth c H1 locs1 cells slots Q (F0 m (pc + 3) ls rest)) : W p l e R s m args below meth c H locs cells slots Q (F0 m pc ls (v :: .ref a :: rest)) :=
  va_put S.1 S.2.1 S.2.2.2.2 hin ty0 hty hnm S.2.2.2.1 hI.2.2.2.1.1 hI.1 hI.2.1 hI.2.2.1 q0 he hc k hk (S.2.2.2.2 _ hlink) (fun _ h => by rw [hsame]; exact h) hfin (hty k hk) hn hfit hl hdg (fun H1 locs1 hP hD hS => kk H1 locs1 ⟨hset ▸ hP, hset ▸ hD, hS, hI.2.2.2.1, hI.2.2.2.2⟩)
theorem m_iald (S : CallFix p m c cc nL s args Ts own) (hI : mI D tys A H0 s ws H locs) (q0 t0 : Nat) {cA : ClassId} {N : Nat} {f : Nat → Int32} (ha : ws[q0]? = some (a, .inl (cA, N, .inl f))) (ht : tys[t0]? = some (cA, .int)) {i : Int32} (hin : vp_in i N) (hdg : decode cc pc = .ok (.iaload, 1))
    (kk : W p l e R s m args below meth c H locs cells slots Q (F0 m (pc + 1) ls (.int (f i.toNatClampNeg) :: rest))) : W p l e R s m args below meth c H locs cells slots Q (F0 m pc ls (.int i :: .ref a :: rest)) := va_iald S.1 S.2.1 hI.2.2.2.1.1 hI.1 q0 t0 ha ht hin hdg kk
theorem m_bald (S : CallFix p m c cc nL s args Ts own) (hI : mI D tys A H0 s ws H locs) (q0 t0 : Nat) {cA : ClassId} {N : Nat} {f : Nat → Int32} (ha : ws[q0]? = some (a, .inl (cA, N, .inl f))) (ht : tys[t0]? = some (cA, .byte)) {i : Int32} (hin : vp_in i N) (hdg : decode cc pc = .ok (.baload, 1))
    (kk : W p l e R s m args below meth c H locs cells slots Q (F0 m (pc + 1) ls (.int (f i.toNatClampNeg) :: rest))) : W p l e R s m args below meth c H locs cells slots Q (F0 m pc ls (.int i :: .ref a :: rest)) := va_bald S.1 S.2.1 hI.2.2.2.1.1 hI.1 q0 t0 ha ht hin hdg kk
theorem m_sald (S : CallFix p m c cc nL s args Ts own) (hI : mI D tys A H0 s ws H locs) (q0 t0 : Nat) {cA : ClassId} {N : Nat} {f : Nat → Int32} (ha : ws[q0]? = some (a, .inl (cA, N, .inl f))) (ht : tys[t0]? = some (cA, .short)) {i : Int32} (hin : vp_in i N) (hdg : decode cc pc = .ok (.saload, 1))
    (kk : W p l e R s m args below meth c H locs cells slots Q (F0 m (pc + 1) ls (.int (f i.toNatClampNeg) :: rest))) : W p l e R s m args below meth c H locs cells slots Q (F0 m pc ls (.int i :: .ref a :: rest)) := va_sald S.1 S.2.1 hI.2.2.2.1.1 hI.1 q0 t0 ha ht hin hdg kk
theorem m_lald (S : CallFix p m c cc nL s args Ts own) (hI : mI D tys A H0 s ws H locs) (q0 t0 : Nat) {cA : ClassId} {N : Nat} {f : Nat → Int64} (ha : ws[q0]? = some (a, .inl (cA, N, .inr (.inl f)))) (ht : tys[t0]? = some (cA, .long)) {i : Int32} (hin : vp_in i N) (hdg : decode cc pc = .ok (.laload, 1))
    (kk : W p l e R s m args below meth c H locs cells slots Q (F0 m (pc + 1) ls (.long (f i.toNatClampNeg) :: rest))) : W p l e R s m args below meth c H locs cells slots Q (F0 m pc ls (.int i :: .ref a :: rest)) := va_lald S.1 S.2.1 hI.2.2.2.1.1 hI.1 q0 t0 ha ht hin hdg kk
theorem m_iast {ws' : va_W} (S : CallFix p m c cc nL s args Ts own) (hI : mI D tys A H0 s ws H locs) (q0 t0 : Nat) {cA : ClassId} {N : Nat} {f : Nat → Int32} (ha : ws[q0]? = some (a, .inl (cA, N, .inl f))) (ht : tys[t0]? = some (cA, .int)) {i x : Int32} (hin : vp_in i N) (hset : ws.set q0 (a, .inl (cA, N, .inl (upd f i.toNatClampNeg x))) = ws') (hdg : decode cc pc = .ok (.iastore, 1))
    (kk : ∀ (H1 : Heap) (locs1 : List Loc), mI D tys A H0 s ws' H1 locs1 → W p l e R s m args below meth c H1 locs1 cells slots Q (F0 m (pc + 1) ls rest)) : W p l e R s m args below meth c H locs cells slots Q (F0 m pc ls (.int x :: .int i :: .ref a :: rest)) :=
  va_iast S.1 S.2.1 hI.2.2.2.1.1 hI.1 hI.2.1 hI.2.2.1 q0 t0 ha ht hin hdg (fun H1 locs1 hP hD hS => kk H1 locs1 ⟨hset ▸ hP, hset ▸ hD, hS, hI.2.2.2.1, hI.2.2.2.2⟩)
theorem m_bast {ws' : va_W} (S : CallFix p m c cc nL s args Ts own) (hI : mI D tys A H0 s ws H locs) (q0 t0 : Nat) {cA : ClassId} {N : Nat} {f : Nat → Int32} (ha : ws[q0]? = some (a, .inl (cA, N, .inl f))) (ht : tys[t0]? = some (cA, .byte)) {i x : Int32} (hin : vp_in i N) (hset : ws.set q0 (a, .inl (cA, N, .inl (upd f i.toNatClampNeg (vp_nar .byte x)))) = ws') (hdg : decode cc pc = .ok (.bastore, 1))
    (kk : ∀ (H1 : Heap) (locs1 : List Loc), mI D tys A H0 s ws' H1 locs1 → W p l e R s m args below meth c H1 locs1 cells slots Q (F0 m (pc + 1) ls rest)) : W p l e R s m args below meth c H locs cells slots Q (F0 m pc ls (.int x :: .int i :: .ref a :: rest)) :=
  va_bast S.1 S.2.1 hI.2.2.2.1.1 hI.1 hI.2.1 hI.2.2.1 q0 t0 ha ht hin hdg (fun H1 locs1 hP hD hS => kk H1 locs1 ⟨hset ▸ hP, hset ▸ hD, hS, hI.2.2.2.1, hI.2.2.2.2⟩)
theorem m_sast {ws' : va_W} (S : CallFix p m c cc nL s args Ts own) (hI : mI D tys A H0 s ws H locs) (q0 t0 : Nat) {cA : ClassId} {N : Nat} {f : Nat → Int32} (ha : ws[q0]? = some (a, .inl (cA, N, .inl f))) (ht : tys[t0]? = some (cA, .short)) {i x : Int32} (hin : vp_in i N) (hset : ws.set q0 (a, .inl (cA, N, .inl (upd f i.toNatClampNeg (vp_nar .short x)))) = ws') (hdg : decode cc pc = .ok (.sastore, 1))
    (kk : ∀ (H1 : Heap) (locs1 : List Loc), mI D tys A H0 s ws' H1 locs1 → W p l e R s m args below meth c H1 locs1 cells slots Q (F0 m (pc + 1) ls rest)) : W p l e R s m args below meth c H locs cells slots Q (F0 m pc ls (.int x :: .int i :: .ref a :: rest)) :=
  va_sast S.1 S.2.1 hI.2.2.2.1.1 hI.1 hI.2.1 hI.2.2.1 q0 t0 ha ht hin hdg (fun H1 locs1 hP hD hS => kk H1 locs1 ⟨hset ▸ hP, hset ▸ hD, hS, hI.2.2.2.1, hI.2.2.2.2⟩)
theorem m_last {ws' : va_W} (S : CallFix p m c cc nL s args Ts own) (hI : mI D tys A H0 s ws H locs) (q0 t0 : Nat) {cA : ClassId} {N : Nat} {f : Nat → Int64} (ha : ws[q0]? = some (a, .inl (cA, N, .inr (.inl f)))) (ht : tys[t0]? = some (cA, .long)) {i : Int32} {x : Int64} (hin : vp_in i N) (hset : ws.set q0 (a, .inl (cA, N, .inr (.inl (vp_updL f i.toNatClampNeg x)))) = ws') (hdg : decode cc pc = .ok (.lastore, 1))
    (kk : ∀ (H1 : Heap) (locs1 : List Loc), mI D tys A H0 s ws' H1 locs1 → W p l e R s m args below meth c H1 locs1 cells slots Q (F0 m (pc + 1) ls rest)) : W p l e R s m args below meth c H locs cells slots Q (F0 m pc ls (.long x :: .int i :: .ref a :: rest)) :=
  va_last S.1 S.2.1 hI.2.2.2.1.1 hI.1 hI.2.1 hI.2.2.1 q0 t0 ha ht hin hdg (fun H1 locs1 hP hD hS => kk H1 locs1 ⟨hset ▸ hP, hset ▸ hD, hS, hI.2.2.2.1, hI.2.2.2.2⟩)
/-- the ends -/
theorem m_iret {S' : Type} {w : S' → va_W} {u : S'} {Qp : Int32 → S' → Prop} {v : Int32} (S : CallFix p m c cc nL s args Ts own) (hr : meth.sig.returnType = some .int) (hlocks : meth.locks = false) (hI : mI D tys A s.heap s (w u) H locs) (hq : Qp v u) (hdg : decode cc pc = .ok (.ireturn, 1)) : W p l e R s m args below meth c H locs cells slots (MQ below (va_Qi Qp (mPos D tys A w) A) args s cells slots A) (F0 m pc ls [.int v]) :=
  W.iret S.1 S.2.1 hr (fun t ht hW => ⟨⟨v, u, rfl, hq, by rw [ht]; exact hI.1, va_K.moved hW.alike hI.2.2.2.1.1, hI.2.1⟩, hI.2.2.1.F ht⟩) hI.2.2.1.2.2 hdg hlocks
theorem m_zret {S' : Type} {w : S' → va_W} {u : S'} {Qp : Int32 → S' → Prop} {v : Int32} (S : CallFix p m c cc nL s args Ts own) (hr : meth.sig.returnType = some .boolean) (hlocks : meth.locks = false) (hI : mI D tys A s.heap s (w u) H locs) (hn : v &&& 1 = v) (hq : Qp v u) (hdg : decode cc pc = .ok (.ireturn, 1)) : W p l e R s m args below meth c H locs cells slots (MQ below (va_Qi Qp (mPos D tys A w) A) args s cells slots A) (F0 m pc ls [.int v]) :=
  W.zret S.1 S.2.1 hr (by show Value.int (v &&& 1) = _; rw [hn]) (fun t ht hW => ⟨⟨v, u, rfl, hq, by rw [ht]; exact hI.1, va_K.moved hW.alike hI.2.2.2.1.1, hI.2.1⟩, hI.2.2.1.F ht⟩) hI.2.2.1.2.2 hdg hlocks
theorem m_lret {S' : Type} {w : S' → va_W} {u : S'} {Qp : Int64 → S' → Prop} {v : Int64} (S : CallFix p m c cc nL s args Ts own) (hr : meth.sig.returnType = some .long) (hlocks : meth.locks = false) (hI : mI D tys A s.heap s (w u) H locs) (hq : Qp v u) (hdg : decode cc pc = .ok (.lreturn, 1)) : W p l e R s m args below meth c H locs cells slots (MQ below (va_Ql Qp (mPos D tys A w) A) args s cells slots A) (F0 m pc ls [.long v]) :=
  W.lret S.1 S.2.1 hr (fun t ht hW => ⟨⟨v, u, rfl, hq, by rw [ht]; exact hI.1, va_K.moved hW.alike hI.2.2.2.1.1, hI.2.1⟩, hI.2.2.1.F ht⟩) hI.2.2.1.2.2 hdg hlocks
theorem m_vret {S' : Type} {w : S' → va_W} {u : S'} {Qp : S' → Prop} (S : CallFix p m c cc nL s args Ts own) (hr : meth.sig.returnType = none) (hlocks : meth.locks = false) (hI : mI D tys A s.heap s (w u) H locs) (hq : Qp u) (hdg : decode cc pc = .ok (.return_, 1)) : W p l e R s m args below meth c H locs cells slots (MQ below (va_Qv Qp (mPos D tys A w) A) args s cells slots A) (F0 m pc ls []) :=
  W.vret S.1 S.2.1 hr (fun t ht hW => ⟨⟨u, rfl, hq, by rw [ht]; exact hI.1, va_K.moved hW.alike hI.2.2.2.1.1, hI.2.1⟩, hI.2.2.1.F ht⟩) hI.2.2.1.2.2 hdg hlocks
theorem m_tiret {Qp : Int32 → Prop} {v : Int32} (S : CallFix p m c cc nL s args Ts own) (hr : meth.sig.returnType = some .int) (hlocks : meth.locks = false) (hq : Qp v) (hdg : decode cc pc = .ok (.ireturn, 1)) : W p l e R s m args below meth c s.heap [] cells slots (MQ below (vp_Si Qp) args s cells slots (fun _ => False)) (F0 m pc ls [.int v]) :=
  W.iret S.1 S.2.1 hr (fun t ht hW => ⟨v, rfl, hq, ht⟩) (fun _ h => by cases h) hdg hlocks
theorem m_tzret {Qp : Int32 → Prop} {v : Int32} (S : CallFix p m c cc nL s args Ts own) (hr : meth.sig.returnType = some .boolean) (hlocks : meth.locks = false) (hn : v &&& 1 = v) (hq : Qp v) (hdg : decode cc pc = .ok (.ireturn, 1)) : W p l e R s m args below meth c s.heap [] cells slots (MQ below (vp_Si Qp) args s cells slots (fun _ => False)) (F0 m pc ls [.int v]) :=
  W.zret S.1 S.2.1 hr (by show Value.int (v &&& 1) = _; rw [hn]) (fun t ht hW => ⟨v, rfl, hq, ht⟩) (fun _ h => by cases h) hdg hlocks
end MK
/-- the heads of methods -/
theorem m_enter {S : Type} {l : Launch} {y : MethodName} {wds wds' : List Cond} {rm : Room} {mc ms : Nat} {D : va_G} {tys : List (ClassId × FieldType)} {w : S → va_W} {av : List Value} {u : S} {QQ : (Nat → Prop) → Array Value → State → Outcome → State → Prop} {cc : ByteArray} {maxL : Nat} {ret : Option FieldType} (hy : plainName y.cls = true) (hw : wds = Cond.code y cc maxL ret :: wds') (hfit : (lg_sl av).length ≤ maxL)
    (body : ∀ (p : Program) (e : Env) (s : State) (m : MethodId) (args : Array Value) (below : List Frame) (meth : Method) (c : Code) (A : Nat → Prop) (ls : Array Slot), CallFix p m c cc maxL s args wds y.cls → meth.sig.returnType = ret → meth.locks = false → meth.name = y.name → lv_has ls maxL (lv_args 0 av) → mI D tys A s.heap s (w u) s.heap [] → W p l e rm s m args below meth c s.heap [] 0 0 (MQ below (QQ A) args s mc ms A) (F0 m 0 ls [])) :
    ∀ sz : Nat, Met l y wds rm (va_Pc av (mPre D tys w u sz)) (QQ (va_A (w u) sz)) mc ms (va_A (w u) sz) := by
  intro sz
  refine Met.ofW (cc := cc) (maxL := maxL) (ret := ret) hy hw ?_
  intro p e s m args below meth c s₁ B hml hv
  obtain ⟨rfl, hsz, hP, hK, hD0⟩ := hv
  have hts := atoms_spec (ws := wds) B.pre
  have hown : s.vm.findClass y.cls = some m.cls := findClass_of_methodNamed B.named
  subst hsz
  have hl := lv_entry av (n := maxL) hfit
  rw [lg_entry_eq]
  exact body p e s m _ below meth c _ _ ⟨B.exec, B.bytes, hml, hown, hts⟩ B.returns B.notSynchronized (name_of_methodNamed B.named B.method).1 hl ⟨hP, hD0.self, va_S.rf, hK, fun q h => Or.inr h⟩
theorem m_enterT {l : Launch} {y : MethodName} {wds wds' : List Cond} {rm : Room} {av : List Value} {Qp : Int32 → Prop} {cc : ByteArray} {maxL : Nat} {ret : Option FieldType} (hy : plainName y.cls = true) (hw : wds = Cond.code y cc maxL ret :: wds') (hfit : (lg_sl av).length ≤ maxL)
    (body : ∀ (p : Program) (e : Env) (s : State) (m : MethodId) (args : Array Value) (below : List Frame) (meth : Method) (c : Code) (ls : Array Slot), CallFix p m c cc maxL s args wds y.cls → meth.sig.returnType = ret → meth.locks = false → meth.name = y.name → lv_has ls maxL (lv_args 0 av) → mN s → W p l e rm s m args below meth c s.heap [] 0 0 (MQ below (vp_Si Qp) args s 0 0 (fun _ => False)) (F0 m 0 ls [])) : mTi l y wds rm av Qp := by
  refine Met.ofW (cc := cc) (maxL := maxL) (ret := ret) hy hw ?_
  intro p e s m args below meth c s₁ B hml hv
  obtain ⟨rfl, hN⟩ := hv
  have hts := atoms_spec (ws := wds) B.pre
  have hown : s.vm.findClass y.cls = some m.cls := findClass_of_methodNamed B.named
  have hl := lv_entry av (n := maxL) hfit
  rw [lg_entry_eq]
  exact body p e s m _ below meth c _ ⟨B.exec, B.bytes, hml, hown, hts⟩ B.returns B.notSynchronized (name_of_methodNamed B.named B.method).1 hl hN
/-- a state: numbers, rows of ints, rows of longs, grids of ints, each by a number -/
abbrev ST : Type := (Nat → Int32) × (Nat → Nat → Int32) × (Nat → Nat → Int64) × (Nat → Nat → Nat → Int32)
def gI (u : ST) (k : Nat) : Int32 := u.1 k
def gA (u : ST) (k : Nat) : Nat → Int32 := u.2.1 k
def gJ (u : ST) (k : Nat) : Nat → Int64 := u.2.2.1 k
def gG (u : ST) (k : Nat) : Nat → Nat → Int32 := u.2.2.2 k
def mu {α : Type} (f : Nat → α) (k : Nat) (x : α) : Nat → α := fun j => if j = k then x else f j
def sI (u : ST) (k : Nat) (x : Int32) : ST := (mu u.1 k x, u.2.1, u.2.2.1, u.2.2.2)
def sA (u : ST) (k : Nat) (x : Nat → Int32) : ST := (u.1, mu u.2.1 k x, u.2.2.1, u.2.2.2)
def sJ (u : ST) (k : Nat) (x : Nat → Int64) : ST := (u.1, u.2.1, mu u.2.2.1 k x, u.2.2.2)
def sG (u : ST) (k : Nat) (x : Nat → Nat → Int32) : ST := (u.1, u.2.1, u.2.2.1, mu u.2.2.2 k x)
theorem mu_at {α : Type} (f : Nat → α) (k : Nat) (x : α) : mu f k x k = x := if_pos rfl
theorem mu_ne {α : Type} (f : Nat → α) {k j : Nat} (x : α) (h : j ≠ k) : mu f k x j = f j := if_neg h
theorem gI_sI (u : ST) (k : Nat) (x : Int32) : gI (sI u k x) k = x := if_pos rfl
theorem gI_sI' (u : ST) {k j : Nat} (x : Int32) (h : j ≠ k) : gI (sI u k x) j = gI u j := if_neg h
theorem gA_sA (u : ST) (k : Nat) (x : Nat → Int32) : gA (sA u k x) k = x := if_pos rfl
theorem gA_sA' (u : ST) {k j : Nat} (x : Nat → Int32) (h : j ≠ k) : gA (sA u k x) j = gA u j := if_neg h
theorem gJ_sJ (u : ST) (k : Nat) (x : Nat → Int64) : gJ (sJ u k x) k = x := if_pos rfl
theorem gJ_sJ' (u : ST) {k j : Nat} (x : Nat → Int64) (h : j ≠ k) : gJ (sJ u k x) j = gJ u j := if_neg h
theorem gG_sG (u : ST) (k : Nat) (x : Nat → Nat → Int32) : gG (sG u k x) k = x := if_pos rfl
theorem gG_sG' (u : ST) {k j : Nat} (x : Nat → Nat → Int32) (h : j ≠ k) : gG (sG u k x) j = gG u j := if_neg h
theorem gI_sA (u : ST) (k j : Nat) (x : Nat → Int32) : gI (sA u k x) j = gI u j := rfl
theorem gI_sJ (u : ST) (k j : Nat) (x : Nat → Int64) : gI (sJ u k x) j = gI u j := rfl
theorem gI_sG (u : ST) (k j : Nat) (x : Nat → Nat → Int32) : gI (sG u k x) j = gI u j := rfl
theorem gA_sI (u : ST) (k j : Nat) (x : Int32) : gA (sI u k x) j = gA u j := rfl
theorem gA_sJ (u : ST) (k j : Nat) (x : Nat → Int64) : gA (sJ u k x) j = gA u j := rfl
theorem gA_sG (u : ST) (k j : Nat) (x : Nat → Nat → Int32) : gA (sG u k x) j = gA u j := rfl
theorem gJ_sI (u : ST) (k j : Nat) (x : Int32) : gJ (sI u k x) j = gJ u j := rfl
theorem gJ_sA (u : ST) (k j : Nat) (x : Nat → Int32) : gJ (sA u k x) j = gJ u j := rfl
theorem gJ_sG (u : ST) (k j : Nat) (x : Nat → Nat → Int32) : gJ (sG u k x) j = gJ u j := rfl
theorem gG_sI (u : ST) (k j : Nat) (x : Int32) : gG (sI u k x) j = gG u j := rfl
theorem gG_sA (u : ST) (k j : Nat) (x : Nat → Int32) : gG (sA u k x) j = gG u j := rfl
theorem gG_sJ (u : ST) (k j : Nat) (x : Nat → Int64) : gG (sJ u k x) j = gG u j := rfl
/-- a walk's goal at a block's head -/
abbrev mGo {S' : Type} (p : Program) (l : Launch) (e : Env) (R : Room) (s : State) (m : MethodId) (args : Array Value) (below : List Frame) (meth : Method) (c : Code) (A : Nat → Prop) (Z : State → Prop) (nL : Nat) (D : va_G) (tys : List (ClassId × FieldType)) (w : S' → va_W) (pc : Nat) (lv : List (Nat × Value)) (st : List Value) (u : S') : Prop :=
  ∀ (H : Heap) (locs : List Loc) (ls : Array Slot), mI D tys A s.heap s (w u) H locs → lv_has ls nL lv → W p l e R s m args below meth c H locs 0 0 Z (F0 m pc ls st)
abbrev mGt (p : Program) (l : Launch) (e : Env) (R : Room) (s : State) (m : MethodId) (args : Array Value) (below : List Frame) (meth : Method) (c : Code) (Z : State → Prop) (nL : Nat) (pc : Nat) (lv : List (Nat × Value)) (st : List Value) : Prop :=
  ∀ (ls : Array Slot), lv_has ls nL lv → W p l e R s m args below meth c s.heap [] 0 0 Z (F0 m pc ls st)
/-- the arrays' classes that a world knows, by their places -/
abbrev mT (cs : Nat → ClassId) : List (ClassId × FieldType) := [(cs 0, .int), (cs 1, .byte), (cs 2, .short), (cs 3, .long), (cs 4, .array .int), (cs 5, .object "TwoJars$Shelf")]
/-- a row of seven addresses -/
def mrow (q : Nat → Nat) : Nat → Option Nat := fun i => if i < 7 then some (q i) else none
theorem mlt {i : Int32} {n : Nat} (h : vp_in i n) : i.toNatClampNeg < n := Nat.not_le.mp fun q => h (Or.inr q)
section MK2
variable {p : Program} {l : Launch} {e : Env} {R : Room} {s : State} {m : MethodId} {args : Array Value} {below : List Frame} {meth : Method} {c : Code} {H : Heap} {locs : List Loc} {cells slots : Nat} {Q : State → Prop}
variable {cc : ByteArray} {pc nL : Nat} {ls : Array Slot} {rest : List Value} {D : va_G} {A : Nat → Prop} {a : Nat} {tys : List (ClassId × FieldType)} {ws : va_W} {H0 : Heap} {own : String} {Ts : List Cond}
theorem m_aald {q : Nat → Nat} (S : CallFix p m c cc nL s args Ts own) (hI : mI D tys A H0 s ws H locs) (q0 t0 : Nat) {cA : ClassId} (ha : ws[q0]? = some (a, .inl (cA, 7, .inr (.inr (.inr (.inr (mrow q))))))) (ht : tys[t0]? = some (cA, .array .int)) {i : Int32} (hin : vp_in i 7) (hdg : decode cc pc = .ok (.aaload, 1))
    (kk : W p l e R s m args below meth c H locs cells slots Q (F0 m (pc + 1) ls (.ref (q i.toNatClampNeg) :: rest))) : W p l e R s m args below meth c H locs cells slots Q (F0 m pc ls (.int i :: .ref a :: rest)) := by
  have hlt := mlt hin
  have he : va_rf (mrow q i.toNatClampNeg) = .ref (q i.toNatClampNeg) := by unfold mrow; rw [if_pos hlt]; rfl
  exact W.aald (v := .ref (q i.toNatClampNeg)) (ty := .array .int) S.1 S.2.1 (hI.1 q0 _ ha) ((hI.2.2.2.1.1.2 t0 _ ht).1 7 (fun j => va_rf (mrow q j))) rfl (fun z => by cases z) (by show ¬ (i < 0 ∨ (arrV _ _ _).slots.size ≤ _); rw [arrV_size]; exact hin) (by show (arrV _ _ _).slots[_]? = _; rw [arrV_read _ _ hlt, he]) rfl rfl hdg kk
end MK2
section MK3
variable {p : Program} {l : Launch} {e : Env} {R : Room} {s : State} {m : MethodId} {args : Array Value} {below : List Frame} {meth : Method} {c : Code} {H : Heap} {locs : List Loc} {cells slots : Nat} {Q : State → Prop}
variable {cc : ByteArray} {pc nL : Nat} {ls : Array Slot} {rest st0 As : List Value} {D : va_G} {A : Nat → Prop} {a : Nat} {tys : List (ClassId × FieldType)} {ws : va_W} {H0 : Heap} {own C host : String} {Ts : List Cond}
variable {y : MethodName} {bytes : ByteArray} {maxL n index : Nat} {ret : Option FieldType} {wds wds' : List Cond} {rm : Room}
/-- a private static method of a nest mate, that looks at no cell -/
theorem m_siN {Qp : Int32 → Prop} (S : CallFix p m c cc nL s args Ts own) (hN : mN s) (hC : mTi l y wds rm As Qp) (n : Nat) (hG : GoodIn Ts wds) (hw : wds = Cond.code y bytes maxL ret :: wds') (hrc : rm.cells = 0) (hrs : rm.slots = 0) (hl : Cond.methodLinkNest own index y host ∈ tables_1) (hini : Cond.initialized y.cls ∈ Ts) (hst : Cond.static y ∈ Ts) (hd : y.cls ≠ "java/lang/invoke/MethodHandle" ∧ y.cls ≠ "java/lang/invoke/VarHandle" ∧ (parseMethodDescriptor y.desc).map (fun d => d.parameters.length) = some n) (hR : rm.frames + 1 ≤ R.frames ∧ 8 + (maxL + 11) + rm.locals ≤ R.locals)
    (hn : As.length = n) (hsize : ls.size = nL) (hstack : st0 = As.reverse ++ rest) (hW : (rest.map fun v => v.category).sum ≤ 8) (hdg : decode cc pc = .ok (.invokestatic index, 3)) (hf : cells + 0 ≤ R.cells ∧ slots + 0 ≤ R.slots)
    (kk : ∀ r : Int32, Qp r → W p l e R s m args below meth c H locs cells slots Q (F0 m (pc + 3) ls (.int r :: rest))) : W p l e R s m args below meth c H locs cells slots Q (F0 m pc ls st0) := by
  have hr := va_runSN (p := p) (l := l) (e := e) (R := R) (below := below) (meth := meth) (H := H) (locs := locs) (cells := cells) (slots := slots) (g := F0 m pc ls st0) (rest := rest) S hC ⟨va_cnB n S.2.2.2.2 hG hw hrc hrs (hN _ hl rfl) (S.2.2.2.2 _ hini) hd hR, S.2.2.2.2 _ hst, trivial⟩ ⟨fun a U g mk q => ⟨q.1, mN_same (u := U) (U := U.calling g mk a) rfl q.2⟩, fun _ _ hW => ⟨rfl, mN_warm hW hN⟩⟩ rfl hn hsize hstack (lv_room (pc := pc) (ls := ls) (rest := st0) hW) hdg hf
  refine vp_callSi (a := As.toArray) (rest := rest) (fun T hT X => ?_) kk
  obtain ⟨v, st₀, t, T', L, h0, X', hL, e1, -, hq, st⟩ := hr T hT X
  exact ⟨v, st₀, t, T', L, h0, X', hL, e1, hq, st⟩
theorem m_getN {ref : String} {T : u_T} {N ci : Nat} (S : CallFix p m c cc nL s args Ts own) (hin : ∀ w ∈ u_ws C T N, w ∈ Ts) (hI : mI D tys A H0 s ws H locs) (q0 : Nat) {fs : List Value} (he : ws[q0]? = some (a, .inr (ci, fs))) (hc : vwCl[ci]? = some (C, T, N)) (k : Nat) (hk : k < N) (hlink : Cond.fieldLinkNest own index ref (T k).2.1 (T k).2.2.1 host ∈ tables_1) (hsame : ref = (T k).1) {v : Value} (hv : fs[k]? = some v) (hdg : decode cc pc = .ok (.getfield index, 3))
    (kk : W p l e R s m args below meth c H locs cells slots Q (F0 m (pc + 3) ls (v :: rest))) : W p l e R s m args below meth c H locs cells slots Q (F0 m pc ls (.ref a :: rest)) :=
  va_getN S.1 S.2.1 S.2.2.2.2 hin S.2.2.2.1 hI.2.2.2.1.1 hI.1 q0 he hc k hk (va_Nw.use rfl (hI.2.2.2.1.2.1 _ hlink rfl)) (fun _ h => by rw [hsame]; exact h) hv hdg kk
/-- a static row: its reference, and its places -/
theorem m_gets {n : String} {N : Nat} {f : Nat → Int32} (S : CallFix p m c cc nL s args Ts own) (hI : mI D tys A s.heap s ws H locs) (hz : mZT C n N f A s s.heap) (hlink : Cond.fieldLink own index C n "[I" ∈ Ts) (hdg : decode cc pc = .ok (.getstatic index, 3))
    (kk : ∀ t : Nat, va_T .int t N (fun j => .int (f j)) A s s.heap → W p l e R s m args below meth c H locs cells slots Q (F0 m (pc + 3) ls (.ref t :: rest))) : W p l e R s m args below meth c H locs cells slots Q (F0 m pc ls rest) := by
  obtain ⟨t, h1, h2⟩ := hz
  exact va_gets S.1 S.2.1 h1 hI.2.2.1 S.2.2.2.1 (S.2.2.2.2 _ hlink) (fun _ h => h) hdg (kk t h2)
theorem m_ti {N t : Nat} {f : Nat → Int32} (S : CallFix p m c cc nL s args Ts own) (hI : mI D tys A s.heap s ws H locs) (hT : va_T .int t N (fun j => .int (f j)) A s s.heap) {i : Int32} (hin : vp_in i N) (hdg : decode cc pc = .ok (.iaload, 1))
    (kk : W p l e R s m args below meth c H locs cells slots Q (F0 m (pc + 1) ls (.int (f i.toNatClampNeg) :: rest))) : W p l e R s m args below meth c H locs cells slots Q (F0 m pc ls (.int i :: .ref t :: rest)) :=
  va_ti S.1 S.2.1 hT hI.2.2.1 hin rfl hdg kk
end MK3
/-- the room of a method that is met again below itself, by how deep it may yet go -/
def rmS (d : Nat) : Room := { frames := 3 + d, cells := 0, slots := 0, locals := 60 + 26 * d }
/-- no cell, and a state that says nothing -/
def mE (_ : ST) : va_W := []
def stz : ST := (fun _ => 0, fun _ _ => 0, fun _ _ => 0, fun _ _ _ => 0)
section MK4
variable {p : Program} {l : Launch} {e : Env} {R : Room} {s : State} {m : MethodId} {args : Array Value} {below : List Frame} {meth : Method} {c : Code} {H : Heap} {locs : List Loc} {cells slots : Nat} {Q : State → Prop}
variable {cc : ByteArray} {pc nL : Nat} {ls : Array Slot} {rest st0 As : List Value} {D : va_G} {A : Nat → Prop} {tys : List (ClassId × FieldType)} {ws : va_W} {H0 : Heap} {own : String} {Ts : List Cond}
variable {y : MethodName} {bytes : ByteArray} {maxL n index : Nat} {ret : Option FieldType} {wds : List Cond} {rm : Room}
theorem m_se {u : ST} {Qp : Int32 → ST → Prop} (S : CallFix p m c cc nL s args Ts own) (hI : mI D tys A H0 s ws H locs) (hC : mCi l y wds rm 0 0 D tys mE As u Qp) (cw : CallB R s args own index y bytes maxL ret wds rm 0 0 n ∧ (Cond.static y).before args s = true)
    (hn : As.length = n) (hsize : ls.size = nL) (hstack : st0 = As.reverse ++ rest) (hW : (rest.map fun v => v.category).sum ≤ 8) (hdg : decode cc pc = .ok (.invokestatic index, 3)) (hf : cells + 0 ≤ R.cells ∧ slots + 0 ≤ R.slots)
    (kk : ∀ (r : Int32) (u' : ST) (H1 : Heap) (locs1 : List Loc), Qp r u' → mI D tys A H0 s ws H1 locs1 → W p l e R s m args below meth c H1 locs1 cells slots Q (F0 m (pc + 3) ls (.int r :: rest))) : W p l e R s m args below meth c H locs cells slots Q (F0 m pc ls st0) := by
  have hI' : mI D tys A H0 s (ws ++ (mE u ++ [])) H locs := by show mI D tys A H0 s (ws ++ []) H locs; rw [List.append_nil]; exact hI
  exact m_gi hI' (m_runS S hI' (hC H.size) cw hn hsize hstack hW hdg hf) (fun r u' H1 locs1 hq h => kk r u' H1 locs1 hq (by
    have h' : mI D tys A H0 s (ws ++ []) H1 locs1 := h
    rw [List.append_nil] at h'
    exact h'))
end MK4
/-! a state of several objects: a state for each, by its number; a stretch of it as a state of its own -/
abbrev CS : Type := Nat → ST
theorem mu_self {α : Type} (f : Nat → α) (k : Nat) : mu f k (f k) = f := by
  funext j
  unfold mu
  split
  · rename_i h
    rw [h]
  · rfl
def ix : List Nat → Nat → Nat
  | [], _ => 0
  | a :: l, k => if a = k then 0 else ix l k + 1
theorem ix_get : ∀ (l : List Nat) (k : Nat), ix l k < l.length → l.getD (ix l k) 0 = k
  | [], k, h => absurd h (Nat.not_lt_zero _)
  | a :: l, k, h => by
    by_cases e : a = k
    · simp [ix, e]
    · have h2 : ix l k < l.length := by
        simp [ix, e] at h
        exact h
      have := ix_get l k h2
      simpa [ix, e] using this
/-- the objects ks of U hold v's -/
def emb (U : CS) (ks : List Nat) (v : CS) : CS := fun k => if ix ks k < ks.length then v (ix ks k) else U k
theorem emb_self (U : CS) (ks : List Nat) : emb U ks (fun i => U (ks.getD i 0)) = U := by
  funext k
  unfold emb
  split
  · rename_i h
    show U (ks.getD (ix ks k) 0) = U k
    rw [ix_get ks k h]
  · rfl
theorem front_perm {α : Type} (f : Nat → List α) {l ks rest : List Nat} (h : l.Perm (ks ++ rest)) : (l.flatMap f).Perm ([] ++ (ks.flatMap f ++ rest.flatMap f)) := by
  rw [List.nil_append, ← List.flatMap_append]
  exact h.flatMap_right f
/-- a row of six addresses -/
def srow (q : Nat → Nat) : Nat → Option Nat := fun i => if i < 6 then some (q i) else none
section MK5
variable {p : Program} {l : Launch} {e : Env} {R : Room} {s : State} {m : MethodId} {args : Array Value} {below : List Frame} {meth : Method} {c : Code} {H : Heap} {locs : List Loc} {cells slots : Nat} {Q : State → Prop}
variable {cc : ByteArray} {pc nL : Nat} {ls : Array Slot} {rest : List Value} {D : va_G} {A : Nat → Prop} {a : Nat} {tys : List (ClassId × FieldType)} {ws : va_W} {H0 : Heap} {own : String} {Ts : List Cond}
theorem m_aals {q : Nat → Nat} {C : String} (S : CallFix p m c cc nL s args Ts own) (hI : mI D tys A H0 s ws H locs) (q0 t0 : Nat) {cA : ClassId} (ha : ws[q0]? = some (a, .inl (cA, 6, .inr (.inr (.inr (.inr (srow q))))))) (ht : tys[t0]? = some (cA, .object C)) {i : Int32} (hin : vp_in i 6) (hdg : decode cc pc = .ok (.aaload, 1))
    (kk : W p l e R s m args below meth c H locs cells slots Q (F0 m (pc + 1) ls (.ref (q i.toNatClampNeg) :: rest))) : W p l e R s m args below meth c H locs cells slots Q (F0 m pc ls (.int i :: .ref a :: rest)) := by
  have hlt := mlt hin
  have he : va_rf (srow q i.toNatClampNeg) = .ref (q i.toNatClampNeg) := by unfold srow; rw [if_pos hlt]; rfl
  exact W.aald (v := .ref (q i.toNatClampNeg)) (ty := .object C) S.1 S.2.1 (hI.1 q0 _ ha) ((hI.2.2.2.1.1.2 t0 _ ht).1 6 (fun j => va_rf (srow q j))) rfl (fun z => by cases z) (by show ¬ (i < 0 ∨ (arrV _ _ _).slots.size ≤ _); rw [arrV_size]; exact hin) (by show (arrV _ _ _).slots[_]? = _; rw [arrV_read _ _ hlt, he]) rfl rfl hdg kk
end MK5

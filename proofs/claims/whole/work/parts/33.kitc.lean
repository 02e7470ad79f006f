/-! the verifier's own kit for constructors: new cells, contracts that begin at a blank object -/
theorem vk_outer (c : ClassId) (N h0 : Nat) : ∀ i : Nat, Jvm.Free.Multi.outerC c N h0 i = arrV c N (fun j => va_rf (if j < i then some (h0 + 1 + j) else none))
  | 0 => by
    show ({ cls := c, slots := Array.replicate N .null, vm := .none } : Cell) = _
    rw [arrV_new]
    refine congrArg (arrV c N) (funext fun j => ?_)
    simp [va_rf]
  | i + 1 => by
    show (Jvm.Free.Multi.outerC c N h0 i).setSlot i (.ref (h0 + 1 + i)) = _
    rw [vk_outer c N h0 i, arrV_store]
    refine congrArg (arrV c N) (funext fun j => ?_)
    by_cases e : j = i
    · subst e
      simp [updV, va_rf]
    · by_cases h : j < i
      · simp [updV, e, h, Nat.lt_succ_of_lt h]
      · simp [updV, e, h, show ¬ j < i + 1 by omega]
/-- what the tables tell of arrays of arrays and of shelves -/
def mO (U : State) : Prop := (Cond.arrayOver (.array .int)).before #[] U = true ∧ va_AO "TwoJars$Shelf" U
theorem mO.moved {u U : State} (hvm : u.vm.Alike U.vm) (h : mO u) : mO U := ⟨Jvm.Stand.arrayOver_alikeB hvm h.1, va_AO.moved hvm h.2⟩
def mKv {S : Type} (l : Launch) (y : MethodName) (ws : List Cond) (rm : Room) (mc ms : Nat) (D : va_G) (tys : List (ClassId × FieldType)) (w : S → va_W) (av : List Value) (u : S) (Qp : S → Prop) : Prop := ∀ sz : Nat, Met l y ws rm (va_Pc av (fun U => mPre D tys w u sz U ∧ mO U)) (va_Qv Qp (mPos D tys (va_A (w u) sz) w) (va_A (w u) sz)) mc ms (va_A (w u) sz)
theorem mK_blind {S : Type} {D : va_G} {tys : List (ClassId × FieldType)} {w : S → va_W} {av : List Value} {u : S} {sz : Nat} : FrameBlind (va_Pc av (fun U => mPre D tys w u sz U ∧ mO U)) := fun a U g mk q =>
  ⟨(mPre_blind a U g mk ⟨q.1, q.2.1⟩).1, (mPre_blind a U g mk ⟨q.1, q.2.1⟩).2, mO.moved (u := U) (U := U.calling g mk a) (Vm.Alike.refl U.vm) q.2.2⟩
theorem mK_of {S : Type} {D : va_G} {tys : List (ClassId × FieldType)} {A : Nat → Prop} {H0 H : Heap} {s : State} {X Y : va_W} {locs : List Loc} {w : S → va_W} {av : List Value} {u : S} (hI : mI D tys A H0 s (X ++ (w u ++ Y)) H locs) (hO : mO s) : ∀ U : State, U.heap = H → s.WarmedH U.vm → va_Pc av (fun U => mPre D tys w u H.size U ∧ mO U) av.toArray U := fun U hU hW =>
  ⟨rfl, (mPre_of (av := av) hI U hU hW).2, mO.moved hW.alike hO⟩
theorem m_enterK {S : Type} {l : Launch} {y : MethodName} {wds wds' : List Cond} {rm : Room} {mc ms : Nat} {D : va_G} {tys : List (ClassId × FieldType)} {w : S → va_W} {av : List Value} {u : S} {Qp : S → Prop} {cc : ByteArray} {maxL : Nat} (hy : plainName y.cls = true) (hw : wds = Cond.code y cc maxL none :: wds') (hfit : (lg_sl av).length ≤ maxL)
    (body : ∀ (p : Program) (e : Env) (s : State) (m : MethodId) (args : Array Value) (below : List Frame) (meth : Method) (c : Code) (A : Nat → Prop) (ls : Array Slot), CallFix p m c cc maxL s args wds y.cls → meth.sig.returnType = none → meth.locks = false → meth.name = y.name → lv_has ls maxL (lv_args 0 av) → mI D tys A s.heap s (w u) s.heap [] → mO s → W p l e rm s m args below meth c s.heap [] 0 0 (MQ below (va_Qv Qp (mPos D tys A w) A) args s mc ms A) (F0 m 0 ls [])) :
    mKv l y wds rm mc ms D tys w av u Qp := by
  intro sz
  refine Met.ofW (cc := cc) (maxL := maxL) (ret := none) hy hw ?_
  intro p e s m args below meth c s₁ B hml hv
  obtain ⟨rfl, ⟨hsz, hP, hK, hD0⟩, hO⟩ := hv
  have hts := atoms_spec (ws := wds) B.pre
  have hown : s.vm.findClass y.cls = some m.cls := findClass_of_methodNamed B.named
  subst hsz
  have hl := lv_entry av (n := maxL) hfit
  rw [lg_entry_eq]
  exact body p e s m _ below meth c _ _ ⟨B.exec, B.bytes, hml, hown, hts⟩ B.returns B.notSynchronized (name_of_methodNamed B.named B.method).1 hl ⟨hP, hD0.self, va_S.rf, hK, fun q h => Or.inr h⟩ hO
section MKC
variable {p : Program} {l : Launch} {e : Env} {R : Room} {s : State} {m : MethodId} {args : Array Value} {below : List Frame} {meth : Method} {c : Code} {H : Heap} {locs : List Loc} {cells slots : Nat} {Q : State → Prop}
variable {cc : ByteArray} {pc nL : Nat} {ls : Array Slot} {rest st0 As : List Value} {D : va_G} {A : Nat → Prop} {a b : Nat} {tys : List (ClassId × FieldType)} {ws : va_W} {H0 : Heap} {own C host : String} {Ts : List Cond}
variable {y : MethodName} {bytes : ByteArray} {maxL mc ms n index : Nat} {wds wds' : List Cond} {rm : Room} {cs : Nat → ClassId}
theorem m_obj (S : CallFix p m c cc nL s args Ts own) (hsz : ls.size = nL) (hlink : Cond.methodLink own index objectInit ∈ Ts) (hinst : Cond.instanceMethod objectInit ∈ Ts) (hcode : Cond.code objectInit ⟨#[0xb1]⟩ 1 none ∈ Ts) (hdg : decode cc pc = .ok (.invokespecial index, 3)) (hframes : 1 ≤ R.frames) (hlocals : (rest.map fun v => v.category).sum + 12 ≤ R.locals)
    (kk : W p l e R s m args below meth c H locs cells slots Q (F0 m (pc + 3) ls rest)) : W p l e R s m args below meth c H locs cells slots Q (F0 m pc ls (.ref a :: rest)) :=
  W.objInit S.1 S.2.1 S.2.2.2.1 (S.2.2.2.2 _ hlink) (S.2.2.2.2 _ hinst) (S.2.2.2.2 _ hcode) rfl (by rw [S.2.2.1]; exact hsz) rfl hdg hframes (by show 2 * 0 + _ + 12 ≤ _; omega) (W.eq (g2 := F0 m (pc + 3) ls rest) rfl kk)
theorem m_new {T : u_T} {N ci : Nat} {ty0 : Nat → FieldType} (S : CallFix p m c cc nL s args Ts own) (hin : ∀ w ∈ u_ws C T N, w ∈ Ts) (hty : ∀ k, k < N → parseFieldDescriptor (T k).2.2.1 = some (ty0 k)) (hcl : Cond.classLink own index C ∈ Ts) (hinst : Cond.instantiable C N ∈ Ts) (hini : Cond.initialized C ∈ Ts) (hI : mI D tys A H0 s ws H locs) (hc : vwCl[ci]? = some (C, T, N)) {fs : List Value} (hfs : ∀ j, j < N → defaultValue (ty0 j) = vp_V fs j) (hcells : cells + 1 ≤ R.cells) (hslots : slots + N ≤ R.slots) (hdg : decode cc pc = .ok (.new index, 3))
    (kk : ∀ (q : Nat) (H1 : Heap), mI D tys A H0 s (ws ++ [(q, .inr (ci, fs))]) H1 locs → W p l e R s m args below meth c H1 locs (cells + 1) (slots + N) Q (F0 m (pc + 3) ls (.ref q :: rest))) : W p l e R s m args below meth c H locs cells slots Q (F0 m pc ls rest) :=
  va_new S.1 S.2.1 S.2.2.2.2 hin ty0 hty S.2.2.2.1 (S.2.2.2.2 _ hcl) (S.2.2.2.2 _ hinst) (S.2.2.2.2 _ hini) hI.2.2.2.1.1 hI.1 hI.2.1 hI.2.2.1 hI.2.2.2.2 hc hfs hcells hslots hdg (fun q H1 hP hD hS => kk q H1 ⟨hP, hD, hS, hI.2.2.2.1, hI.2.2.2.2⟩)
theorem m_newi (S : CallFix p m c cc nL s args Ts own) (harr : Cond.arrayClass .int ∈ Ts) (hI : mI D (mT cs) A H0 s ws H locs) {i : Int32} {N : Nat} (hn : ¬ i < 0) (hN : i.toNatClampNeg = N) (hbytes : N * 4 ≤ 536870912) (hcells : cells + 1 ≤ R.cells) (hslots : slots + N ≤ R.slots) (hdg : decode cc pc = .ok (.newarray .int, 2))
    (kk : ∀ (q : Nat) (H1 : Heap), mI D (mT cs) A H0 s (ws ++ [(q, .inl (cs 0, N, .inl (fun _ => 0)))]) H1 locs → W p l e R s m args below meth c H1 locs (cells + 1) (slots + N) Q (F0 m (pc + 2) ls (.ref q :: rest))) : W p l e R s m args below meth c H locs cells slots Q (F0 m pc ls (.int i :: rest)) := by
  refine va_newa (atype := .int) (ty := .int) (a0 := (N, .inl (fun _ => 0))) S.1 S.2.1 (S.2.2.2.2 _ harr) rfl hI.2.2.2.1.1 hI.1 hI.2.1 hI.2.2.1 hI.2.2.2.2 (fun _ => rfl) hn hN hbytes hcells hslots hdg (fun q cA H1 hK hP hD hS => ?_)
  have e1 : s.vm.findClass ("[" ++ FieldType.int.toString) = some cA := (hK.2 6 (cA, .int) rfl).2
  have e2 : s.vm.findClass ("[" ++ FieldType.int.toString) = some (cs 0) := (hI.2.2.2.1.1.2 0 (cs 0, .int) rfl).2
  have e3 : cA = cs 0 := Option.some.inj (e1.symm.trans e2)
  subst e3
  exact kk q H1 ⟨hP, hD, hS, hI.2.2.2.1, hI.2.2.2.2⟩
theorem m_newb (S : CallFix p m c cc nL s args Ts own) (harr : Cond.arrayClass .byte ∈ Ts) (hI : mI D (mT cs) A H0 s ws H locs) {i : Int32} {N : Nat} (hn : ¬ i < 0) (hN : i.toNatClampNeg = N) (hbytes : N * 1 ≤ 536870912) (hcells : cells + 1 ≤ R.cells) (hslots : slots + N ≤ R.slots) (hdg : decode cc pc = .ok (.newarray .byte, 2))
    (kk : ∀ (q : Nat) (H1 : Heap), mI D (mT cs) A H0 s (ws ++ [(q, .inl (cs 1, N, .inl (fun _ => 0)))]) H1 locs → W p l e R s m args below meth c H1 locs (cells + 1) (slots + N) Q (F0 m (pc + 2) ls (.ref q :: rest))) : W p l e R s m args below meth c H locs cells slots Q (F0 m pc ls (.int i :: rest)) := by
  refine va_newa (atype := .byte) (ty := .byte) (a0 := (N, .inl (fun _ => 0))) S.1 S.2.1 (S.2.2.2.2 _ harr) rfl hI.2.2.2.1.1 hI.1 hI.2.1 hI.2.2.1 hI.2.2.2.2 (fun _ => rfl) hn hN hbytes hcells hslots hdg (fun q cA H1 hK hP hD hS => ?_)
  have e1 : s.vm.findClass ("[" ++ FieldType.byte.toString) = some cA := (hK.2 6 (cA, .byte) rfl).2
  have e2 : s.vm.findClass ("[" ++ FieldType.byte.toString) = some (cs 1) := (hI.2.2.2.1.1.2 1 (cs 1, .byte) rfl).2
  have e3 : cA = cs 1 := Option.some.inj (e1.symm.trans e2)
  subst e3
  exact kk q H1 ⟨hP, hD, hS, hI.2.2.2.1, hI.2.2.2.2⟩
theorem m_news (S : CallFix p m c cc nL s args Ts own) (harr : Cond.arrayClass .short ∈ Ts) (hI : mI D (mT cs) A H0 s ws H locs) {i : Int32} {N : Nat} (hn : ¬ i < 0) (hN : i.toNatClampNeg = N) (hbytes : N * 2 ≤ 536870912) (hcells : cells + 1 ≤ R.cells) (hslots : slots + N ≤ R.slots) (hdg : decode cc pc = .ok (.newarray .short, 2))
    (kk : ∀ (q : Nat) (H1 : Heap), mI D (mT cs) A H0 s (ws ++ [(q, .inl (cs 2, N, .inl (fun _ => 0)))]) H1 locs → W p l e R s m args below meth c H1 locs (cells + 1) (slots + N) Q (F0 m (pc + 2) ls (.ref q :: rest))) : W p l e R s m args below meth c H locs cells slots Q (F0 m pc ls (.int i :: rest)) := by
  refine va_newa (atype := .short) (ty := .short) (a0 := (N, .inl (fun _ => 0))) S.1 S.2.1 (S.2.2.2.2 _ harr) rfl hI.2.2.2.1.1 hI.1 hI.2.1 hI.2.2.1 hI.2.2.2.2 (fun _ => rfl) hn hN hbytes hcells hslots hdg (fun q cA H1 hK hP hD hS => ?_)
  have e1 : s.vm.findClass ("[" ++ FieldType.short.toString) = some cA := (hK.2 6 (cA, .short) rfl).2
  have e2 : s.vm.findClass ("[" ++ FieldType.short.toString) = some (cs 2) := (hI.2.2.2.1.1.2 2 (cs 2, .short) rfl).2
  have e3 : cA = cs 2 := Option.some.inj (e1.symm.trans e2)
  subst e3
  exact kk q H1 ⟨hP, hD, hS, hI.2.2.2.1, hI.2.2.2.2⟩
theorem m_newl (S : CallFix p m c cc nL s args Ts own) (harr : Cond.arrayClass .long ∈ Ts) (hI : mI D (mT cs) A H0 s ws H locs) {i : Int32} {N : Nat} (hn : ¬ i < 0) (hN : i.toNatClampNeg = N) (hbytes : N * 8 ≤ 536870912) (hcells : cells + 1 ≤ R.cells) (hslots : slots + N ≤ R.slots) (hdg : decode cc pc = .ok (.newarray .long, 2))
    (kk : ∀ (q : Nat) (H1 : Heap), mI D (mT cs) A H0 s (ws ++ [(q, .inl (cs 3, N, .inr (.inl (fun _ => 0))))]) H1 locs → W p l e R s m args below meth c H1 locs (cells + 1) (slots + N) Q (F0 m (pc + 2) ls (.ref q :: rest))) : W p l e R s m args below meth c H locs cells slots Q (F0 m pc ls (.int i :: rest)) := by
  refine va_newa (atype := .long) (ty := .long) (a0 := (N, .inr (.inl (fun _ => 0)))) S.1 S.2.1 (S.2.2.2.2 _ harr) rfl hI.2.2.2.1.1 hI.1 hI.2.1 hI.2.2.1 hI.2.2.2.2 (fun _ => rfl) hn hN hbytes hcells hslots hdg (fun q cA H1 hK hP hD hS => ?_)
  have e1 : s.vm.findClass ("[" ++ FieldType.long.toString) = some cA := (hK.2 6 (cA, .long) rfl).2
  have e2 : s.vm.findClass ("[" ++ FieldType.long.toString) = some (cs 3) := (hI.2.2.2.1.1.2 3 (cs 3, .long) rfl).2
  have e3 : cA = cs 3 := Option.some.inj (e1.symm.trans e2)
  subst e3
  exact kk q H1 ⟨hP, hD, hS, hI.2.2.2.1, hI.2.2.2.2⟩
/-- new Shelf[6] -/
theorem m_newq (S : CallFix p m c cc nL s args Ts own) (hcl : Cond.classLink own index "TwoJars$Shelf" ∈ Ts) (hO : mO s) (hI : mI D (mT cs) A H0 s ws H locs) {i : Int32} (hn : ¬ i < 0) (hN : i.toNatClampNeg = 6) (hcells : cells + 1 ≤ R.cells) (hslots : slots + 6 ≤ R.slots) (hdg : decode cc pc = .ok (.anewarray index, 3))
    (kk : ∀ (q : Nat) (H1 : Heap), mI D (mT cs) A H0 s (ws ++ [(q, .inl (cs 5, 6, .inr (.inr (.inr (.inr (fun _ => none))))))]) H1 locs → W p l e R s m args below meth c H1 locs (cells + 1) (slots + 6) Q (F0 m (pc + 3) ls (.ref q :: rest))) : W p l e R s m args below meth c H locs cells slots Q (F0 m pc ls (.int i :: rest)) := by
  refine va_newq S.1 S.2.1 S.2.2.2.1 (S.2.2.2.2 _ hcl) hO.2 hI.2.2.2.1.1 hI.1 hI.2.1 hI.2.2.1 hI.2.2.2.2 hn hN (by decide) hcells hslots hdg (fun q cA H1 hK hP hD hS => ?_)
  obtain ⟨-, -, -, -, -, e1⟩ := (hK.2 6 (cA, .object "TwoJars$Shelf") rfl).2
  obtain ⟨-, -, -, -, -, e2⟩ := (hI.2.2.2.1.1.2 5 (cs 5, .object "TwoJars$Shelf") rfl).2
  have e3 : cA = cs 5 := Option.some.inj (e1.symm.trans e2)
  subst e3
  exact kk q H1 ⟨hP, hD, hS, hI.2.2.2.1, hI.2.2.2.2⟩
theorem m_aast {v qk : Nat} {vs : List Value} {f : Nat → Option Nat} {ws' : va_W} (S : CallFix p m c cc nL s args Ts own) (hI : mI D (mT cs) A H0 s ws H locs) (q0 : Nat) (ha : ws[q0]? = some (a, .inl (cs 5, 6, .inr (.inr (.inr (.inr f)))))) (hv : ws[qk]? = some (v, .inr (6, vs))) {i : Int32} (hin : vp_in i 6) (hset : ws.set q0 (a, .inl (cs 5, 6, .inr (.inr (.inr (.inr (va_up f i.toNatClampNeg (some v))))))) = ws') (hdg : decode cc pc = .ok (.aastore, 1))
    (kk : ∀ (H1 : Heap) (locs1 : List Loc), mI D (mT cs) A H0 s ws' H1 locs1 → W p l e R s m args below meth c H1 locs1 cells slots Q (F0 m (pc + 1) ls rest)) : W p l e R s m args below meth c H locs cells slots Q (F0 m pc ls (.ref v :: .int i :: .ref a :: rest)) :=
  va_astq (r := (RX6, TX6, 4)) S.1 S.2.1 hI.2.2.2.1.1 hI.1 hI.2.1 hI.2.2.1 q0 5 qk 6 ha rfl hv rfl hin hdg (fun H1 locs1 hP hD hS => kk H1 locs1 ⟨hset ▸ hP, hset ▸ hD, hS, hI.2.2.2.1, hI.2.2.2.2⟩)
theorem m_putF {ref : String} {T : u_T} {N ci : Nat} {ty0 : Nat → FieldType} {ws' : va_W} (S : CallFix p m c cc nL s args Ts own) (hin : ∀ w ∈ u_ws C T N, w ∈ Ts) (hty : ∀ k, k < N → parseFieldDescriptor (T k).2.2.1 = some (ty0 k)) (hnm : ∀ a, a < N → ∀ b, b < N → a ≠ b → (T a).2.1 ≠ (T b).2.1) (hI : mI D tys A H0 s ws H locs) (q0 : Nat) {fs : List Value} (he : ws[q0]? = some (a, .inr (ci, fs))) (hc : vwCl[ci]? = some (C, T, N)) (k : Nat) (hk : k < N) (hlink : Cond.fieldLink own index ref (T k).2.1 (T k).2.2.1 ∈ Ts) (hsame : ref = (T k).1) (hfin : (T k).2.2.2 = true) (hin2 : meth.name = "<init>") (hdecl : (T k).1 = own) {v : Value} (hn : narrow (ty0 k) v = v) (hfit : fits (ty0 k) v = true) (hl : k < fs.length) (hset : ws.set q0 (a, .inr (ci, fs.set k v)) = ws') (hdg : decode cc pc = .ok (.putfield index, 3))
    (kk : ∀ (H1 : Heap) (locs1 : List Loc), mI D tys A H0 s ws' H1 locs1 → W p l e R s m args below meth c H1 locs1 cells slots Q (F0 m (pc + 3) ls rest)) : W p l e R s m args below meth c H locs cells slots Q (F0 m pc ls (v :: .ref a :: rest)) :=
  va_putF S.1 S.2.1 S.2.2.2.2 hin ty0 hty hnm S.2.2.2.1 hI.2.2.2.1.1 hI.1 hI.2.1 hI.2.2.1 q0 he hc k hk (S.2.2.2.2 _ hlink) (fun _ h => by rw [hsame]; exact h) hfin hin2 hdecl (hty k hk) hn hfit hl hdg (fun H1 locs1 hP hD hS => kk H1 locs1 ⟨hset ▸ hP, hset ▸ hD, hS, hI.2.2.2.1, hI.2.2.2.2⟩)
/-- new int[7][K] -/
theorem m_mna {K' : Nat} {k : Int32} (S : CallFix p m c cc nL s args Ts own) (hO : mO s) (hI : mI D (mT cs) A H0 s ws H locs) (hcl : Cond.classLink own index "[[I" ∈ Ts) (harr : Cond.arrayClass .int ∈ Ts) (hk : ¬ k < 0) (hM : k.toNatClampNeg = K') (hb2 : K' * 4 ≤ 536870912) (hcells : cells + 8 ≤ R.cells) (hslots : slots + (7 + 7 * K') ≤ R.slots) (hdg : decode cc pc = .ok (.multianewarray index 2, 4))
    (kk : ∀ (q : Nat) (H1 : Heap), mI D (mT cs) A H0 s (ws ++ ((q, .inl (cs 4, 7, .inr (.inr (.inr (.inr (mrow (fun i => q + 1 + i))))))) :: (List.range 7).map (fun i => (q + 1 + i, .inl (cs 0, K', .inl (fun _ => 0)))))) H1 locs → W p l e R s m args below meth c H1 locs (cells + 8) (slots + (7 + 7 * K')) Q (F0 m (pc + 4) ls (.ref q :: rest))) : W p l e R s m args below meth c H locs cells slots Q (F0 m pc ls (.int k :: .int 7 :: rest)) := by
  subst hM
  obtain ⟨hP, hD, hS, hK, hA⟩ := hI
  intro T hT Xs
  have h7 : ((7 : Int32)).toNatClampNeg = 7 := by decide
  obtain ⟨vm₁, cA, comp, -, fA, fC, -, -, X', step⟩ := Xs.multianewarray2F S.1 S.2.2.2.1 (ty := .int) (S.2.2.2.2 _ hcl) hO.1 (S.2.2.2.2 _ harr) (g := F0 m pc ls (.int k :: .int 7 :: rest)) rfl (by rw [S.2.1]; exact hdg) rfl (by decide) hk (by decide) hb2 (by omega) rfl rfl (by rw [h7]; exact hcells) (by rw [h7]; exact hslots)
  rw [h7] at X' step
  have eA : cA = cs 4 := Option.some.inj (fA.symm.trans (hK.1.2 4 (cs 4, .array .int) rfl).2)
  have eC : comp = cs 0 := Option.some.inj (fC.symm.trans (hK.1.2 0 (cs 0, .int) rfl).2)
  subst eA
  subst eC
  generalize hF : Jvm.Free.Multi.fill (T.setVm vm₁) (cs 4) (cs 0) 7 k.toNatClampNeg (defaultValue .int) 7 = F at X' step
  have hTh : (T.setVm vm₁).heap = H := hT
  obtain ⟨f1, f2, -, -⟩ := Jvm.Free.Multi.fill_facts (T.setVm vm₁) (cs 4) (cs 0) 7 k.toNatClampNeg (defaultValue .int) 7
  rw [hF, hTh] at f1 f2
  have hold : ∀ x : Nat, x < H.size → F.heap[x]? = H[x]? := fun x hx => by
    have := Jvm.Free.Multi.fill_old (T.setVm vm₁) (cs 4) (cs 0) 7 k.toNatClampNeg (defaultValue .int) (a := x) (by rw [hTh]; exact hx) 7
    rw [hF, hTh] at this
    exact this
  have hrow : ∀ j : Nat, j < 7 → F.heap[H.size + 1 + j]? = some (vp_cell (cs 0) (k.toNatClampNeg, .inl (fun _ => 0))) := fun j hj => by
    have := Jvm.Free.Multi.fill_inner (T.setVm vm₁) (cs 4) (cs 0) 7 k.toNatClampNeg (defaultValue .int) 7 j hj
    rw [hF, hTh] at this
    rw [this]
    show some ({ cls := cs 0, slots := Array.replicate k.toNatClampNeg (defaultValue .int), vm := .none } : Cell) = some (arrV (cs 0) k.toNatClampNeg (fun _ => .int 0))
    rw [arrV_new]
    rfl
  have hout : F.heap[H.size]? = some (vp_cell (cs 4) (7, .inr (.inr (.inr (.inr (mrow (fun i => H.size + 1 + i))))))) := by
    rw [f2, vk_outer, vp_cell_q]
    rfl
  have hnew : ∀ q ∈ ((H.size, Sum.inl (cs 4, 7, .inr (.inr (.inr (.inr (mrow (fun i => H.size + 1 + i))))))) :: (List.range 7).map (fun i => (H.size + 1 + i, Sum.inl (cs 0, k.toNatClampNeg, .inl (fun _ => 0)))) : va_W), va_at D vwCl q F.heap ∧ H.size ≤ q.1 := by
    intro q hq
    rcases List.mem_cons.mp hq with h | h
    · subst h
      exact ⟨hout, Nat.le_refl _⟩
    · obtain ⟨i, hi, rfl⟩ := List.mem_map.mp h
      exact ⟨hrow i (List.mem_range.mp hi), by show H.size ≤ H.size + 1 + i; omega⟩
  have hPm := mP_mem.mp hP
  obtain ⟨hn, hall⟩ := mD_iff.mp hD
  refine (fun hz => ?_ : mI D (mT cs) A H0 s (ws ++ ((H.size, .inl (cs 4, 7, .inr (.inr (.inr (.inr (mrow (fun i => H.size + 1 + i))))))) :: (List.range 7).map (fun i => (H.size + 1 + i, .inl (cs 0, k.toNatClampNeg, .inl (fun _ => 0)))))) F.heap locs → _) ⟨mP_mem.mpr fun q hq => ?_, mD_iff.mpr ⟨?_, fun q hq => ?_⟩, ⟨by rw [f1]; have := hS.1; omega, fun x h1 h2 => (hold x (Nat.lt_of_lt_of_le h1 hS.1)).trans (hS.2.1 x h1 h2), hS.2.2⟩, hK, hA⟩
  · obtain ⟨t, a1, b1⟩ := kk H.size F.heap hz F rfl (by
      have e1 : cells + 1 + 7 = cells + 8 := by omega
      have e2 : slots + 7 + 7 * k.toNatClampNeg = slots + (7 + 7 * k.toNatClampNeg) := by omega
      rw [e1, e2] at X'
      exact X')
    refine ⟨t, step t ?_, b1⟩
    have e9 : T.heap.size = H.size := by rw [hT]
    rw [e9]
    exact a1
  · rcases List.mem_append.mp hq with h | h
    · exact (hPm q h).kept (hold q.1 (hPm q h).lt)
    · exact (hnew q h).1
  · rw [List.map_append, List.nodup_append]
    refine ⟨hn, ?_, fun x hx z hz e9 => ?_⟩
    · rw [List.map_cons, List.map_map]
      refine List.nodup_cons.mpr ⟨fun h => ?_, ?_⟩
      · obtain ⟨i, -, h⟩ := List.mem_map.mp h
        have h9 : H.size + 1 + i = H.size := h
        omega
      · rw [List.Nodup, List.pairwise_map]
        exact List.nodup_range.imp (fun {i j} hij h => hij (by
          have h9 : H.size + 1 + i = H.size + 1 + j := h
          omega))
    · subst e9
      obtain ⟨q, hq, rfl⟩ := List.mem_map.mp hx
      obtain ⟨q2, hq2, h9⟩ := List.mem_map.mp hz
      have l1 := (hPm q hq).lt
      have l2 := (hnew q2 hq2).2
      omega
  · rcases List.mem_append.mp hq with h | h
    · exact hall q h
    · exact hA q.1 (Nat.le_trans hS.1 (hnew q h).2)
/-- a constructor: of a class whose constructor any class may call; of a nest mate's private one -/
theorem m_gk {S' : Type} {w : S' → va_W} {u : S'} {Qp : S' → Prop} {X Y : va_W} (S : CallFix p m c cc nL s args Ts own) (hO : mO s) (hI : mI D tys A H0 s (X ++ (w u ++ Y)) H locs) (hC : mKv l y wds rm mc ms D tys w (.ref b :: As) u Qp) (cw : CallB R s args own index y bytes maxL none wds rm mc ms n ∧ y.name = "<init>" ∧ (Cond.instanceMethod y).before args s = true)
    (hn : As.length = n) (hsize : ls.size = nL) (hstack : st0 = As.reverse ++ .ref b :: rest) (hW : (rest.map fun v => v.category).sum ≤ 8) (hdg : decode cc pc = .ok (.invokespecial index, 3)) (hf : cells + mc ≤ R.cells ∧ slots + ms ≤ R.slots)
    (kk : ∀ (u' : S') (H1 : Heap) (locs1 : List Loc), Qp u' → mI D tys A H0 s (X ++ (w u' ++ Y)) H1 locs1 → W p l e R s m args below meth c H1 locs1 (cells + mc) (slots + ms) Q (F0 m (pc + 3) ls rest)) : W p l e R s m args below meth c H locs cells slots Q (F0 m pc ls st0) :=
  m_gv hI (va_runI S (hC H.size) cw ⟨mK_blind, mK_of hI hO⟩ rfl hn hsize hstack (lv_room (pc := pc) (ls := ls) (rest := st0) hW) hdg hf) kk
theorem m_gkN {S' : Type} {w : S' → va_W} {u : S'} {Qp : S' → Prop} {X Y : va_W} (S : CallFix p m c cc nL s args Ts own) (hO : mO s) (hI : mI D tys A H0 s (X ++ (w u ++ Y)) H locs) (hC : mKv l y wds rm mc ms D tys w (.ref b :: As) u Qp) (cw : va_CN R s args own index y host bytes maxL none wds rm mc ms n ∧ y.name = "<init>" ∧ (Cond.instanceMethod y).before args s = true)
    (hn : As.length = n) (hsize : ls.size = nL) (hstack : st0 = As.reverse ++ .ref b :: rest) (hW : (rest.map fun v => v.category).sum ≤ 8) (hdg : decode cc pc = .ok (.invokespecial index, 3)) (hf : cells + mc ≤ R.cells ∧ slots + ms ≤ R.slots)
    (kk : ∀ (u' : S') (H1 : Heap) (locs1 : List Loc), Qp u' → mI D tys A H0 s (X ++ (w u' ++ Y)) H1 locs1 → W p l e R s m args below meth c H1 locs1 (cells + mc) (slots + ms) Q (F0 m (pc + 3) ls rest)) : W p l e R s m args below meth c H locs cells slots Q (F0 m pc ls st0) :=
  m_gv hI (va_runIN S (hC H.size) cw ⟨mK_blind, mK_of hI hO⟩ rfl hn hsize hstack (lv_room (pc := pc) (ls := ls) (rest := st0) hW) hdg hf) kk
end MKC
/-- a blank object, or what a constructor made of it -/
def bW {α : Type} (blank : va_W) (w : α → va_W) : Option α → va_W
  | none => blank
  | some a => w a

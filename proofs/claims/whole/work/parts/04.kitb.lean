/-! more of the verifier's own kit (what came after part 02) -/
theorem mz01 {v : Int32} (h : v = 0 ∨ v = 1) : v &&& 1 = v ∧ fits .boolean (.int v) = true := by
  rcases h with h | h
  · subst h
    exact ⟨by decide, by decide⟩
  · subst h
    exact ⟨by decide, by decide⟩
section MKB
variable {p : Program} {l : Launch} {e : Env} {R : Room} {s : State} {m : MethodId} {args : Array Value} {below : List Frame} {meth : Method} {c : Code} {H : Heap} {locs : List Loc} {cells slots : Nat} {Q : State → Prop}
variable {cc : ByteArray} {pc nL : Nat} {ls : Array Slot} {rest st0 As : List Value} {D : va_G} {A : Nat → Prop} {a : Nat} {tys : List (ClassId × FieldType)} {ws : va_W} {H0 : Heap} {own : String} {Ts : List Cond}
variable {y : MethodName} {bytes : ByteArray} {maxL mc ms n index : Nat} {ret : Option FieldType} {wds : List Cond} {rm : Room}
/-- a static method without an answer, over a stretch of the caller's world -/
theorem m_sgv {S' : Type} {w cf : S' → va_W} {u : S'} {Qp : S' → Prop} {X Y : va_W} (S : CallFix p m c cc nL s args Ts own) (hcf : ∀ v, (cf v).Perm (X ++ (w v ++ Y))) (hI : mI D tys A H0 s ws H locs) (hcu : ws = cf u) (hC : mCv l y wds rm mc ms D tys w As u Qp) (cw : CallB R s args own index y bytes maxL ret wds rm mc ms n ∧ (Cond.static y).before args s = true)
    (hn : As.length = n) (hsize : ls.size = nL) (hstack : st0 = As.reverse ++ rest) (hW : (rest.map fun v => v.category).sum ≤ 8) (hdg : decode cc pc = .ok (.invokestatic index, 3)) (hf : cells + mc ≤ R.cells ∧ slots + ms ≤ R.slots)
    (kk : ∀ (u' : S') (H1 : Heap) (locs1 : List Loc), Qp u' → mI D tys A H0 s (cf u') H1 locs1 → W p l e R s m args below meth c H1 locs1 (cells + mc) (slots + ms) Q (F0 m (pc + 3) ls rest)) : W p l e R s m args below meth c H locs cells slots Q (F0 m pc ls st0) := by
  have hI' := mI_perm (hcf u) (hcu ▸ hI)
  exact m_gv hI' (m_runS S hI' (hC H.size) cw hn hsize hstack hW hdg hf) (fun u' H1 locs1 hq h => kk u' H1 locs1 hq (mI_perm (hcf u').symm h))
/-- System.arraycopy from a row of longs to a row of longs -/
theorem m_copyl {ws' : va_W} (S : CallFix p m c cc nL s args Ts own) (hsz : ls.size = nL) (hI : mI D tys A H0 s ws H locs) (hlink : Cond.methodLink own index arraycopyName ∈ Ts) (hnat : Cond.native arraycopyName ∈ Ts) (hstat : Cond.static arraycopyName ∈ Ts) (hini : Cond.initialized "java/lang/System" ∈ Ts) (q0 q1 t0 t1 : Nat) {a0 : Nat} {c0 c1 : ClassId} {n0 n1 : Nat} {f g : Nat → Int64} (ha0 : ws[q0]? = some (a0, .inl (c0, n0, .inr (.inl f)))) (ha1 : ws[q1]? = some (a, .inl (c1, n1, .inr (.inl g)))) (ht0 : tys[t0]? = some (c0, .long)) (ht1 : tys[t1]? = some (c1, .long))
    {sp dp n : Int32} (hq : ¬ sp < 0 ∧ ¬ dp < 0 ∧ ¬ n < 0 ∧ sp.toNatClampNeg + n.toNatClampNeg ≤ n0 ∧ dp.toNatClampNeg + n.toNatClampNeg ≤ n1) (hframes : 1 ≤ R.frames) (hlocals : (rest.map fun v => v.category).sum + (nativeFrameWords "java/lang/System" "arraycopy" 5 + 11) ≤ R.locals) (hset : ws.set q1 (a, .inl (c1, n1, .inr (.inl (va_cpy f g sp.toNatClampNeg dp.toNatClampNeg n.toNatClampNeg)))) = ws') (hdg : decode cc pc = .ok (.invokestatic index, 3))
    (kk : ∀ (H1 : Heap) (locs1 : List Loc), mI D tys A H0 s ws' H1 locs1 → W p l e R s m args below meth c H1 locs1 cells slots Q (F0 m (pc + 3) ls rest)) : W p l e R s m args below meth c H locs cells slots Q (F0 m pc ls (.int n :: .int dp :: .ref a :: .int sp :: .ref a0 :: rest)) :=
  va_copyl S.1 S.2.1 (S.2.2.1.trans hsz.symm) S.2.2.2.1 (S.2.2.2.2 _ hlink) (S.2.2.2.2 _ hnat) (S.2.2.2.2 _ hstat) (S.2.2.2.2 _ hini) hI.2.2.2.1.1 hI.1 hI.2.1 hI.2.2.1 q0 q1 t0 t1 ha0 ha1 ht0 ht1 rfl hq.1 hq.2.1 hq.2.2.1 hq.2.2.2.1 hq.2.2.2.2 (fun _ _ => rfl) hframes hlocals hdg (fun H1 locs1 hP hD hS => kk H1 locs1 ⟨hset ▸ hP, hset ▸ hD, hS, hI.2.2.2.1, hI.2.2.2.2⟩)
end MKB
/-- one row of sixty longs -/
def WJ (a : Nat) (cs : Nat → ClassId) (u : ST) : va_W := [(a, .inl (cs 3, 60, .inr (.inl (gJ u 0))))]
theorem WJ_at0 (a : Nat) (cs : Nat → ClassId) (u : ST) : (WJ a cs u)[0]? = some (a, .inl (cs 3, 60, .inr (.inl (gJ u 0)))) := rfl
theorem WJ_sJ (a : Nat) (cs : Nat → ClassId) (u u9 : ST) (f : Nat → Int64) (e : u9 = sJ u 0 f) : (WJ a cs u).set 0 (a, .inl (cs 3, 60, .inr (.inl f))) = WJ a cs u9 := by
  subst e
  rfl
/-- the two rows of codes change places -/
def lr (r : Nat → Nat) (g : Int32) : Nat → Nat := fun k => if g = 0 then r k else if k = 2 then r 3 else if k = 3 then r 2 else r k
def rE (r : Nat → Nat → Nat) (g : Int32) : Nat → Nat → Nat := fun k => if k = 2 then lr (r 2) g else r k
def msw (g : Int32) : Int32 := if g = 0 then 1 else 0
theorem lr_sw (r : Nat → Nat) (g : Int32) : lr r (msw g) 0 = lr r g 0 ∧ lr r (msw g) 1 = lr r g 1 ∧ lr r (msw g) 2 = lr r g 3 ∧ lr r (msw g) 3 = lr r g 2 := by
  by_cases h : g = 0
  · subst h
    refine ⟨?_, ?_, ?_, ?_⟩ <;> simp [lr, msw]
  · refine ⟨?_, ?_, ?_, ?_⟩ <;> simp [lr, msw, h]
def swS (u : CS) : CS := fun k => if k = 0 then sA (sA (u 0) 2 (gA (u 0) 3)) 3 (gA (u 0) 2) else if k = 1 then sI (u 1) 0 (msw (gI (u 1) 0)) else u k

def i7 : ST := (((fun k => 0), (fun k => (fun _ => 0)), fun _ _ => 0, fun _ _ _ => 0) : ST)
def i8 : ST := (((fun k => 0), (fun k => if k = 0 then (upd (upd (upd (upd (fun _ => 0) (0 : Int32).toNatClampNeg (20 : Int32)) (1 : Int32).toNatClampNeg (2 : Int32)) (2 : Int32).toNatClampNeg (1 : Int32)) (3 : Int32).toNatClampNeg (10 : Int32)) else (fun _ => 0)), fun _ _ => 0, fun _ _ _ => 0) : ST)
def i3 : ST := (((fun k => 0), (fun k => (fun _ => 0)), fun _ _ => 0, fun _ _ _ => 0) : ST)
def i2 (a1 : Int32) : ST := (((fun k => if k = 0 then a1 else if k = 3 then ((-1) : Int32) else if k = 4 then ((-1) : Int32) else 0), (fun k => (fun _ => 0)), fun _ _ => 0, fun _ _ _ => 0) : ST)
def i4 : ST := (((fun k => if k = 5 then ((-1) : Int32) else 0), (fun k => (fun _ => 0)), fun _ _ => 0, fun _ _ _ => 0) : ST)
def i9 : ST := (((fun k => 0), (fun k => (fun _ => 0)), fun _ _ => 0, fun _ _ _ => 0) : ST)
def i5 : ST := (((fun k => 0), (fun k => (fun _ => 0)), fun _ _ => 0, fun _ _ _ => 0) : ST)
def i10 : ST := (((fun k => 0), (fun k => (fun _ => 0)), fun _ _ => 0, fun _ _ _ => 0) : ST)
def i1 : ST := (((fun k => 0), (fun k => (fun _ => 0)), fun _ _ => 0, fun _ _ _ => 0) : ST)
def i0 : ST := (((fun k => 0), (fun k => (fun _ => 0)), fun _ _ => 0, fun _ _ _ => 0) : ST)
def i6 : ST := (((fun k => if k = 1 then ((-1) : Int32) else if k = 2 then ((-1) : Int32) else 0), (fun k => (fun _ => 0)), fun _ _ => 0, fun _ _ _ => 0) : ST)
def i12 : ST := (((fun k => if k = 1 then (20 : Int32) else if k = 2 then (2 : Int32) else if k = 3 then (1 : Int32) else if k = 4 then (10 : Int32) else 0), (fun k => if k = 46 then (upd (upd (upd (upd (upd (upd (upd (upd (upd (fun _ => 0) (0 : Int32).toNatClampNeg ((-1) : Int32)) (1 : Int32).toNatClampNeg (0 : Int32)) (2 : Int32).toNatClampNeg (0 : Int32)) (3 : Int32).toNatClampNeg (0 : Int32)) (4 : Int32).toNatClampNeg (0 : Int32)) (5 : Int32).toNatClampNeg (0 : Int32)) (6 : Int32).toNatClampNeg (0 : Int32)) (7 : Int32).toNatClampNeg (0 : Int32)) (8 : Int32).toNatClampNeg (0 : Int32)) else if k = 53 then (upd (upd (upd (upd (upd (upd (fun _ => 0) (0 : Int32).toNatClampNeg ((-1) : Int32)) (1 : Int32).toNatClampNeg ((-1) : Int32)) (2 : Int32).toNatClampNeg ((-1) : Int32)) (3 : Int32).toNatClampNeg ((-1) : Int32)) (4 : Int32).toNatClampNeg ((-1) : Int32)) (5 : Int32).toNatClampNeg ((-1) : Int32)) else (fun _ => 0)), fun _ _ => 0, fun _ _ _ => 0) : ST)
def U0 : CS := (fun k => if k = 1 then i8 else if k = 2 then i3 else if k = 3 then i2 0 else if k = 4 then i2 0 else if k = 5 then i2 1 else if k = 6 then i4 else if k = 7 then i9 else if k = 8 then i5 else if k = 9 then i7 else if k = 10 then i10 else if k = 11 then i7 else if k = 12 then i7 else if k = 13 then i1 else if k = 14 then i7 else if k = 15 then i1 else if k = 16 then i7 else if k = 17 then i0 else if k = 18 then i6 else if k = 19 then i6 else if k = 20 then i6 else if k = 21 then i6 else if k = 22 then i6 else if k = 23 then i6 else if k = 25 then i12 else stz)
def h00 (hq : Nat) (b : Nat → Nat) (f : Nat → Nat → Nat) (q2 : Nat) : Nat → Nat := fun k => ([hq, b 0, b 1, b 2, b 3, b 4, b 5, b 6, b 7, b 8, b 9, f 9 2, b 10, b 11, f 11 1, b 12, f 12 1, b 13, b 14, b 15, b 16, b 17, b 18, b 19, 0, q2] : List Nat).getD k 0
def r00 (qs : Nat) (f : Nat → Nat → Nat) (f2 : Nat → Nat) : Nat → Nat → Nat := (fun k => if k = 0 then (fun _ => qs) else if k = 1 then (fun j => f 0 (([1, 2, 3, 4] : List Nat).getD j 0)) else if k = 2 then (fun j => f 1 (([1, 2, 3, 4] : List Nat).getD j 0)) else if k = 3 then (fun j => f 2 (([0, 1, 2] : List Nat).getD j 0)) else if k = 4 then (fun j => f 3 (([0, 1, 2] : List Nat).getD j 0)) else if k = 5 then (fun j => f 4 (([0, 1, 2] : List Nat).getD j 0)) else if k = 6 then (fun j => f 5 (([1, 2, 3, 4, 5] : List Nat).getD j 0)) else if k = 7 then (fun j => f 6 (([1, 2] : List Nat).getD j 0)) else if k = 8 then (fun j => f 7 (([1] : List Nat).getD j 0)) else if k = 10 then (fun j => f 9 (([1] : List Nat).getD j 0)) else if k = 17 then (fun j => f 13 (([1, 2] : List Nat).getD j 0)) else if k = 18 then (fun j => f 14 (([1] : List Nat).getD j 0)) else if k = 19 then (fun j => f 15 (([1] : List Nat).getD j 0)) else if k = 20 then (fun j => f 16 (([1] : List Nat).getD j 0)) else if k = 21 then (fun j => f 17 (([1] : List Nat).getD j 0)) else if k = 22 then (fun j => f 18 (([1] : List Nat).getD j 0)) else if k = 23 then (fun j => f 19 (([1] : List Nat).getD j 0)) else if k = 25 then (fun j => f2 (([0, 0, 0, 0, 0, 0, 0, 1, 2, 3, 4, 5, 0, 0, 0, 0, 0, 6, 7, 8, 9, 10, 11, 12, 0, 13, 14, 0, 15, 16, 17, 0, 18, 0, 19, 20, 21, 0, 0, 0, 0, 0, 0, 0, 0, 0, 22, 23, 0, 0, 24, 0, 25, 26, 27, 28, 29] : List Nat).getD j 0)) else (fun _ => 0))
def q00 (qs : Nat) (f : Nat → Nat → Nat) (f2 : Nat → Nat) : Nat → Nat → Nat → Nat := fun a k i => r00 qs f f2 a k + 1 + i
theorem start_srow (hq q2 : Nat) (b : Nat → Nat) (f : Nat → Nat → Nat) : (va_up (va_up (va_up (va_up (va_up (va_up (fun _ => none) (0 : Int32).toNatClampNeg (some (b 14))) (1 : Int32).toNatClampNeg (some (b 15))) (2 : Int32).toNatClampNeg (some (b 16))) (3 : Int32).toNatClampNeg (some (b 17))) (4 : Int32).toNatClampNeg (some (b 18))) (5 : Int32).toNatClampNeg (some (b 19))) = srow (fun i => h00 hq b f q2 (0 + (18 + i))) := funext fun j => by
  match j with
  | 0 => rfl
  | 1 => rfl
  | 2 => rfl
  | 3 => rfl
  | 4 => rfl
  | 5 => rfl
  | k + 6 =>
    unfold srow va_up
    rw [if_neg (show ¬ k + 6 = (5 : Int32).toNatClampNeg from by rw [show (5 : Int32).toNatClampNeg = 5 from by decide]; omega), if_neg (show ¬ k + 6 = (4 : Int32).toNatClampNeg from by rw [show (4 : Int32).toNatClampNeg = 4 from by decide]; omega), if_neg (show ¬ k + 6 = (3 : Int32).toNatClampNeg from by rw [show (3 : Int32).toNatClampNeg = 3 from by decide]; omega), if_neg (show ¬ k + 6 = (2 : Int32).toNatClampNeg from by rw [show (2 : Int32).toNatClampNeg = 2 from by decide]; omega), if_neg (show ¬ k + 6 = (1 : Int32).toNatClampNeg from by rw [show (1 : Int32).toNatClampNeg = 1 from by decide]; omega), if_neg (show ¬ k + 6 = (0 : Int32).toNatClampNeg from by rw [show (0 : Int32).toNatClampNeg = 0 from by decide]; omega), if_neg (by omega)]
theorem start_u1 (hq qs q2 : Nat) (b : Nat → Nat) (f : Nat → Nat → Nat) (f2 : Nat → Nat) (cs : Nat → ClassId) : I8 (b 0) (f 0) cs = (cTL (h00 hq b f q2) (r00 qs f f2) (q00 qs f f2) cs U0 1) := rfl
theorem start_u2 (hq qs q2 : Nat) (b : Nat → Nat) (f : Nat → Nat → Nat) (f2 : Nat → Nat) (cs : Nat → ClassId) : I3 (b 1) (f 1) cs = (cTL (h00 hq b f q2) (r00 qs f f2) (q00 qs f f2) cs U0 2) := rfl
theorem start_u3 (hq qs q2 : Nat) (b : Nat → Nat) (f : Nat → Nat → Nat) (f2 : Nat → Nat) (cs : Nat → ClassId) : I2 (b 2) (f 2) cs (0 : Int32) = (cTL (h00 hq b f q2) (r00 qs f f2) (q00 qs f f2) cs U0 3) := rfl
theorem start_u4 (hq qs q2 : Nat) (b : Nat → Nat) (f : Nat → Nat → Nat) (f2 : Nat → Nat) (cs : Nat → ClassId) : I2 (b 3) (f 3) cs (0 : Int32) = (cTL (h00 hq b f q2) (r00 qs f f2) (q00 qs f f2) cs U0 4) := rfl
theorem start_u5 (hq qs q2 : Nat) (b : Nat → Nat) (f : Nat → Nat → Nat) (f2 : Nat → Nat) (cs : Nat → ClassId) : I2 (b 4) (f 4) cs (1 : Int32) = (cTL (h00 hq b f q2) (r00 qs f f2) (q00 qs f f2) cs U0 5) := rfl
theorem start_u6 (hq qs q2 : Nat) (b : Nat → Nat) (f : Nat → Nat → Nat) (f2 : Nat → Nat) (cs : Nat → ClassId) : I4 (b 5) (f 5) cs = (cTL (h00 hq b f q2) (r00 qs f f2) (q00 qs f f2) cs U0 6) := rfl
theorem start_u7 (hq qs q2 : Nat) (b : Nat → Nat) (f : Nat → Nat → Nat) (f2 : Nat → Nat) (cs : Nat → ClassId) : I9 (b 6) (f 6) cs = (cTL (h00 hq b f q2) (r00 qs f f2) (q00 qs f f2) cs U0 7) := rfl
theorem start_u8 (hq qs q2 : Nat) (b : Nat → Nat) (f : Nat → Nat → Nat) (f2 : Nat → Nat) (cs : Nat → ClassId) : I5 (b 7) (f 7) cs = (cTL (h00 hq b f q2) (r00 qs f f2) (q00 qs f f2) cs U0 8) := rfl
theorem start_u9 (hq qs q2 : Nat) (b : Nat → Nat) (f : Nat → Nat → Nat) (f2 : Nat → Nat) (cs : Nat → ClassId) : I7 (b 8) (f 8) cs = (cTL (h00 hq b f q2) (r00 qs f f2) (q00 qs f f2) cs U0 9) := rfl
theorem start_u12 (hq qs q2 : Nat) (b : Nat → Nat) (f : Nat → Nat → Nat) (f2 : Nat → Nat) (cs : Nat → ClassId) : I7 (b 10) (f 10) cs = (cTL (h00 hq b f q2) (r00 qs f f2) (q00 qs f f2) cs U0 12) := rfl
theorem start_u17 (hq qs q2 : Nat) (b : Nat → Nat) (f : Nat → Nat → Nat) (f2 : Nat → Nat) (cs : Nat → ClassId) : I0 (b 13) (f 13) cs = (cTL (h00 hq b f q2) (r00 qs f f2) (q00 qs f f2) cs U0 17) := rfl
theorem start_u25 (hq qs q2 : Nat) (b : Nat → Nat) (f : Nat → Nat → Nat) (f2 : Nat → Nat) (cs : Nat → ClassId) : I12 q2 f2 cs = (cTL (h00 hq b f q2) (r00 qs f f2) (q00 qs f f2) cs U0 25) := rfl
theorem start_u10 (hq qs q2 : Nat) (b : Nat → Nat) (f : Nat → Nat → Nat) (f2 : Nat → Nat) (cs : Nat → ClassId) : I10 (b 9) (f 9) cs = (cTL (h00 hq b f q2) (r00 qs f f2) (q00 qs f f2) cs U0 10) ++ (cTL (h00 hq b f q2) (r00 qs f f2) (q00 qs f f2) cs U0 11) := rfl
theorem start_u13 (hq qs q2 : Nat) (b : Nat → Nat) (f : Nat → Nat → Nat) (f2 : Nat → Nat) (cs : Nat → ClassId) : I1 (b 11) (f 11) cs = (cTL (h00 hq b f q2) (r00 qs f f2) (q00 qs f f2) cs U0 13) ++ (cTL (h00 hq b f q2) (r00 qs f f2) (q00 qs f f2) cs U0 14) := rfl
theorem start_u15 (hq qs q2 : Nat) (b : Nat → Nat) (f : Nat → Nat → Nat) (f2 : Nat → Nat) (cs : Nat → ClassId) : I1 (b 12) (f 12) cs = (cTL (h00 hq b f q2) (r00 qs f f2) (q00 qs f f2) cs U0 15) ++ (cTL (h00 hq b f q2) (r00 qs f f2) (q00 qs f f2) cs U0 16) := rfl
theorem start_u18 (hq qs q2 : Nat) (b : Nat → Nat) (f : Nat → Nat → Nat) (f2 : Nat → Nat) (cs : Nat → ClassId) : [((b 14), .inr (6, [.ref (f 14 1), .int (-1), .int (-1), .int 0])), ((f 14 1), .inl (cs 3, 60, .inr (.inl (fun _ => 0))))] = (cTL (h00 hq b f q2) (r00 qs f f2) (q00 qs f f2) cs U0 18) := rfl
theorem start_u19 (hq qs q2 : Nat) (b : Nat → Nat) (f : Nat → Nat → Nat) (f2 : Nat → Nat) (cs : Nat → ClassId) : [((b 15), .inr (6, [.ref (f 15 1), .int (-1), .int (-1), .int 0])), ((f 15 1), .inl (cs 3, 60, .inr (.inl (fun _ => 0))))] = (cTL (h00 hq b f q2) (r00 qs f f2) (q00 qs f f2) cs U0 19) := rfl
theorem start_u20 (hq qs q2 : Nat) (b : Nat → Nat) (f : Nat → Nat → Nat) (f2 : Nat → Nat) (cs : Nat → ClassId) : [((b 16), .inr (6, [.ref (f 16 1), .int (-1), .int (-1), .int 0])), ((f 16 1), .inl (cs 3, 60, .inr (.inl (fun _ => 0))))] = (cTL (h00 hq b f q2) (r00 qs f f2) (q00 qs f f2) cs U0 20) := rfl
theorem start_u21 (hq qs q2 : Nat) (b : Nat → Nat) (f : Nat → Nat → Nat) (f2 : Nat → Nat) (cs : Nat → ClassId) : [((b 17), .inr (6, [.ref (f 17 1), .int (-1), .int (-1), .int 0])), ((f 17 1), .inl (cs 3, 60, .inr (.inl (fun _ => 0))))] = (cTL (h00 hq b f q2) (r00 qs f f2) (q00 qs f f2) cs U0 21) := rfl
theorem start_u22 (hq qs q2 : Nat) (b : Nat → Nat) (f : Nat → Nat → Nat) (f2 : Nat → Nat) (cs : Nat → ClassId) : [((b 18), .inr (6, [.ref (f 18 1), .int (-1), .int (-1), .int 0])), ((f 18 1), .inl (cs 3, 60, .inr (.inl (fun _ => 0))))] = (cTL (h00 hq b f q2) (r00 qs f f2) (q00 qs f f2) cs U0 22) := rfl
theorem start_u23 (hq qs q2 : Nat) (b : Nat → Nat) (f : Nat → Nat → Nat) (f2 : Nat → Nat) (cs : Nat → ClassId) : [((b 19), .inr (6, [.ref (f 19 1), .int (-1), .int (-1), .int 0])), ((f 19 1), .inl (cs 3, 60, .inr (.inl (fun _ => 0))))] = (cTL (h00 hq b f q2) (r00 qs f f2) (q00 qs f f2) cs U0 23) := rfl
theorem start_u0 (hq qs q2 : Nat) (b : Nat → Nat) (f : Nat → Nat → Nat) (f2 : Nat → Nat) (cs : Nat → ClassId) : [(hq, .inr (11, [.ref (b 0), .ref (b 1), .ref (b 2), .ref (b 3), .ref (b 4), .ref (b 5), .ref (b 6), .ref (b 7), .ref (b 8), .ref (b 9), .ref (b 10), .ref (b 11), .ref (b 12), .ref (b 13), .ref qs, .int 0, .int 0])), (qs, .inl (cs 5, 6, .inr (.inr (.inr (.inr (va_up (va_up (va_up (va_up (va_up (va_up (fun _ => none) (0 : Int32).toNatClampNeg (some (b 14))) (1 : Int32).toNatClampNeg (some (b 15))) (2 : Int32).toNatClampNeg (some (b 16))) (3 : Int32).toNatClampNeg (some (b 17))) (4 : Int32).toNatClampNeg (some (b 18))) (5 : Int32).toNatClampNeg (some (b 19))))))))] = (cTL (h00 hq b f q2) (r00 qs f f2) (q00 qs f f2) cs U0 0) := by
  rw [start_srow hq q2 b f]
  rfl
theorem start_eq (hq qs q2 : Nat) (b : Nat → Nat) (f : Nat → Nat → Nat) (f2 : Nat → Nat) (cs : Nat → ClassId) : I11 hq qs b f cs ++ I12 q2 f2 cs = [0, 23, 22, 21, 20, 19, 18, 1, 2, 3, 4, 5, 6, 7, 8, 9, 10, 11, 12, 13, 14, 15, 16, 17, 24, 25].flatMap (cTL (h00 hq b f q2) (r00 qs f f2) (q00 qs f f2) cs U0) := by
  have h24 : (cTL (h00 hq b f q2) (r00 qs f f2) (q00 qs f f2) cs U0 24) = [] := rfl
  simp only [List.flatMap_cons, List.flatMap_nil, h24, List.nil_append, List.append_nil]
  unfold I11
  rw [start_u1 hq qs q2 b f f2 cs, start_u2 hq qs q2 b f f2 cs, start_u3 hq qs q2 b f f2 cs, start_u4 hq qs q2 b f f2 cs, start_u5 hq qs q2 b f f2 cs, start_u6 hq qs q2 b f f2 cs, start_u7 hq qs q2 b f f2 cs, start_u8 hq qs q2 b f f2 cs, start_u9 hq qs q2 b f f2 cs, start_u10 hq qs q2 b f f2 cs, start_u12 hq qs q2 b f f2 cs, start_u13 hq qs q2 b f f2 cs, start_u15 hq qs q2 b f f2 cs, start_u17 hq qs q2 b f f2 cs, start_u25 hq qs q2 b f f2 cs]
  rw [← start_u0 hq qs q2 b f f2 cs, ← start_u23 hq qs q2 b f f2 cs, ← start_u22 hq qs q2 b f f2 cs, ← start_u21 hq qs q2 b f f2 cs, ← start_u20 hq qs q2 b f f2 cs, ← start_u19 hq qs q2 b f f2 cs, ← start_u18 hq qs q2 b f f2 cs]
  simp only [List.append_assoc, List.nil_append, List.cons_append]
theorem start_perm (hq qs q2 : Nat) (b : Nat → Nat) (f : Nat → Nat → Nat) (f2 : Nat → Nat) (cs : Nat → ClassId) : (I11 hq qs b f cs ++ I12 q2 f2 cs).Perm (VL (h00 hq b f q2) (r00 qs f f2) (q00 qs f f2) cs U0) :=
  (List.Perm.of_eq (start_eq hq qs q2 b f f2 cs)).trans (List.Perm.flatMap_right _ (by decide))
theorem mZT_of {s : State} {args : Array Value} {b : Nat} (hgv : (Jvm.Cond.and given_1 narrow_1).before args s = true) {C n : String} {N : Nat} {f : Nat → Int32} (hN : N < 2 ^ 31) (hls : (Cond.laysStatic C n "[I").before args s = true) (hini : (Cond.initialized C).before args s = true) (harr : (Cond.arrayOf (.static C n "[I") .int).before args s = true) (hlen : (Cond.eq (.length (.static C n "[I")) (.int (Int32.ofNat N))).before args s = true) (hel : ∀ j : Nat, j < N → (Cond.eq (.elem (.static C n "[I") (.int (Int32.ofNat j))) (.int (f j))).before args s = true) : mZT C n N f (fun q : Nat => s.heap.size ≤ q) s s.heap := by
  have hA : ∀ a : Nat, a < s.heap.size → ¬ (fun q : Nat => s.heap.size ≤ q) a := fun a h => Nat.not_le.mpr h
  obtain ⟨t, ht, hT⟩ := va_Tof (f := fun j => .int (f j)) (A := fun q : Nat => s.heap.size ≤ q) hN harr (va_eqt hlen) (fun j hj => va_eqt (hel j hj)) hA
  exact ⟨t, va_Zof hls hini ht hA, hT⟩
set_option maxRecDepth 100000 in
set_option maxHeartbeats 8000000 in
theorem start_St {s : State} {b : Nat} (hts : ∀ w ∈ lw_tbl, w.before #[Value.ref b] s = true) (hgv : (Jvm.Cond.and given_1 narrow_1).before #[Value.ref b] s = true) : mSt (fun q : Nat => s.heap.size ≤ q) s s.heap := by
  have hs := flat_of_before _ hgv
  have zLEAST : mZT "TwoJars$Tower" "LEAST" 4 xLEAST (fun q : Nat => s.heap.size ≤ q) s s.heap := by
    refine mZT_of (b := b) hgv (by decide) (hts _ (List.mem_of_getElem? (i := 474) (by decide +kernel))) (hts _ (List.mem_of_getElem? (i := 91) (by decide +kernel))) (hs _ (by decide +kernel)) (hs _ (by decide +kernel)) (fun j hj => ?_)
    match j, hj with
    | 0, _ => exact hs (Cond.eq (.elem (.static "TwoJars$Tower" "LEAST" "[I") (.int 0)) (.int 1)) (by decide +kernel)
    | 1, _ => exact hs (Cond.eq (.elem (.static "TwoJars$Tower" "LEAST" "[I") (.int 1)) (.int 0)) (by decide +kernel)
    | 2, _ => exact hs (Cond.eq (.elem (.static "TwoJars$Tower" "LEAST" "[I") (.int 2)) (.int 0)) (by decide +kernel)
    | 3, _ => exact hs (Cond.eq (.elem (.static "TwoJars$Tower" "LEAST" "[I") (.int 3)) (.int 0)) (by decide +kernel)
    | j + 4, h => exact absurd h (by omega)
  have zMOST : mZT "TwoJars$Tower" "MOST" 4 xMOST (fun q : Nat => s.heap.size ≤ q) s s.heap := by
    refine mZT_of (b := b) hgv (by decide) (hts _ (List.mem_of_getElem? (i := 476) (by decide +kernel))) (hts _ (List.mem_of_getElem? (i := 91) (by decide +kernel))) (hs _ (by decide +kernel)) (hs _ (by decide +kernel)) (fun j hj => ?_)
    match j, hj with
    | 0, _ => exact hs (Cond.eq (.elem (.static "TwoJars$Tower" "MOST" "[I") (.int 0)) (.int 60)) (by decide +kernel)
    | 1, _ => exact hs (Cond.eq (.elem (.static "TwoJars$Tower" "MOST" "[I") (.int 1)) (.int 6)) (by decide +kernel)
    | 2, _ => exact hs (Cond.eq (.elem (.static "TwoJars$Tower" "MOST" "[I") (.int 2)) (.int 99)) (by decide +kernel)
    | 3, _ => exact hs (Cond.eq (.elem (.static "TwoJars$Tower" "MOST" "[I") (.int 3)) (.int 99)) (by decide +kernel)
    | j + 4, h => exact absurd h (by omega)
  have zABOVE : mZT "TwoJars$Bodies" "ABOVE" 8 xABOVE (fun q : Nat => s.heap.size ≤ q) s s.heap := by
    refine mZT_of (b := b) hgv (by decide) (hts _ (List.mem_of_getElem? (i := 982) (by decide +kernel))) (hts _ (List.mem_of_getElem? (i := 100) (by decide +kernel))) (hs _ (by decide +kernel)) (hs _ (by decide +kernel)) (fun j hj => ?_)
    match j, hj with
    | 0, _ => exact hs (Cond.eq (.elem (.static "TwoJars$Bodies" "ABOVE" "[I") (.int 0)) (.int (-1))) (by decide +kernel)
    | 1, _ => exact hs (Cond.eq (.elem (.static "TwoJars$Bodies" "ABOVE" "[I") (.int 1)) (.int 0)) (by decide +kernel)
    | 2, _ => exact hs (Cond.eq (.elem (.static "TwoJars$Bodies" "ABOVE" "[I") (.int 2)) (.int 0)) (by decide +kernel)
    | 3, _ => exact hs (Cond.eq (.elem (.static "TwoJars$Bodies" "ABOVE" "[I") (.int 3)) (.int 2)) (by decide +kernel)
    | 4, _ => exact hs (Cond.eq (.elem (.static "TwoJars$Bodies" "ABOVE" "[I") (.int 4)) (.int 1)) (by decide +kernel)
    | 5, _ => exact hs (Cond.eq (.elem (.static "TwoJars$Bodies" "ABOVE" "[I") (.int 5)) (.int 3)) (by decide +kernel)
    | 6, _ => exact hs (Cond.eq (.elem (.static "TwoJars$Bodies" "ABOVE" "[I") (.int 6)) (.int 0)) (by decide +kernel)
    | 7, _ => exact hs (Cond.eq (.elem (.static "TwoJars$Bodies" "ABOVE" "[I") (.int 7)) (.int 6)) (by decide +kernel)
    | j + 8, h => exact absurd h (by omega)
  have zOWN : mZT "TwoJars$Bodies" "OWN" 32 xOWN (fun q : Nat => s.heap.size ≤ q) s s.heap := by
    refine mZT_of (b := b) hgv (by decide) (hts _ (List.mem_of_getElem? (i := 980) (by decide +kernel))) (hts _ (List.mem_of_getElem? (i := 100) (by decide +kernel))) (hs _ (by decide +kernel)) (hs _ (by decide +kernel)) (fun j hj => ?_)
    match j, hj with
    | 0, _ => exact hs (Cond.eq (.elem (.static "TwoJars$Bodies" "OWN" "[I") (.int 0)) (.int 1)) (by decide +kernel)
    | 1, _ => exact hs (Cond.eq (.elem (.static "TwoJars$Bodies" "OWN" "[I") (.int 1)) (.int 10)) (by decide +kernel)
    | 2, _ => exact hs (Cond.eq (.elem (.static "TwoJars$Bodies" "OWN" "[I") (.int 2)) (.int 11)) (by decide +kernel)
    | 3, _ => exact hs (Cond.eq (.elem (.static "TwoJars$Bodies" "OWN" "[I") (.int 3)) (.int 2)) (by decide +kernel)
    | 4, _ => exact hs (Cond.eq (.elem (.static "TwoJars$Bodies" "OWN" "[I") (.int 4)) (.int 20)) (by decide +kernel)
    | 5, _ => exact hs (Cond.eq (.elem (.static "TwoJars$Bodies" "OWN" "[I") (.int 5)) (.int 0)) (by decide +kernel)
    | 6, _ => exact hs (Cond.eq (.elem (.static "TwoJars$Bodies" "OWN" "[I") (.int 6)) (.int 0)) (by decide +kernel)
    | 7, _ => exact hs (Cond.eq (.elem (.static "TwoJars$Bodies" "OWN" "[I") (.int 7)) (.int 0)) (by decide +kernel)
    | 8, _ => exact hs (Cond.eq (.elem (.static "TwoJars$Bodies" "OWN" "[I") (.int 8)) (.int 0)) (by decide +kernel)
    | 9, _ => exact hs (Cond.eq (.elem (.static "TwoJars$Bodies" "OWN" "[I") (.int 9)) (.int 30)) (by decide +kernel)
    | 10, _ => exact hs (Cond.eq (.elem (.static "TwoJars$Bodies" "OWN" "[I") (.int 10)) (.int 0)) (by decide +kernel)
    | 11, _ => exact hs (Cond.eq (.elem (.static "TwoJars$Bodies" "OWN" "[I") (.int 11)) (.int 0)) (by decide +kernel)
    | 12, _ => exact hs (Cond.eq (.elem (.static "TwoJars$Bodies" "OWN" "[I") (.int 12)) (.int 0)) (by decide +kernel)
    | 13, _ => exact hs (Cond.eq (.elem (.static "TwoJars$Bodies" "OWN" "[I") (.int 13)) (.int 41)) (by decide +kernel)
    | 14, _ => exact hs (Cond.eq (.elem (.static "TwoJars$Bodies" "OWN" "[I") (.int 14)) (.int 40)) (by decide +kernel)
    | 15, _ => exact hs (Cond.eq (.elem (.static "TwoJars$Bodies" "OWN" "[I") (.int 15)) (.int 0)) (by decide +kernel)
    | 16, _ => exact hs (Cond.eq (.elem (.static "TwoJars$Bodies" "OWN" "[I") (.int 16)) (.int 0)) (by decide +kernel)
    | 17, _ => exact hs (Cond.eq (.elem (.static "TwoJars$Bodies" "OWN" "[I") (.int 17)) (.int 0)) (by decide +kernel)
    | 18, _ => exact hs (Cond.eq (.elem (.static "TwoJars$Bodies" "OWN" "[I") (.int 18)) (.int 0)) (by decide +kernel)
    | 19, _ => exact hs (Cond.eq (.elem (.static "TwoJars$Bodies" "OWN" "[I") (.int 19)) (.int 50)) (by decide +kernel)
    | 20, _ => exact hs (Cond.eq (.elem (.static "TwoJars$Bodies" "OWN" "[I") (.int 20)) (.int 0)) (by decide +kernel)
    | 21, _ => exact hs (Cond.eq (.elem (.static "TwoJars$Bodies" "OWN" "[I") (.int 21)) (.int 0)) (by decide +kernel)
    | 22, _ => exact hs (Cond.eq (.elem (.static "TwoJars$Bodies" "OWN" "[I") (.int 22)) (.int 60)) (by decide +kernel)
    | 23, _ => exact hs (Cond.eq (.elem (.static "TwoJars$Bodies" "OWN" "[I") (.int 23)) (.int 61)) (by decide +kernel)
    | 24, _ => exact hs (Cond.eq (.elem (.static "TwoJars$Bodies" "OWN" "[I") (.int 24)) (.int 70)) (by decide +kernel)
    | 25, _ => exact hs (Cond.eq (.elem (.static "TwoJars$Bodies" "OWN" "[I") (.int 25)) (.int 0)) (by decide +kernel)
    | 26, _ => exact hs (Cond.eq (.elem (.static "TwoJars$Bodies" "OWN" "[I") (.int 26)) (.int 0)) (by decide +kernel)
    | 27, _ => exact hs (Cond.eq (.elem (.static "TwoJars$Bodies" "OWN" "[I") (.int 27)) (.int 0)) (by decide +kernel)
    | 28, _ => exact hs (Cond.eq (.elem (.static "TwoJars$Bodies" "OWN" "[I") (.int 28)) (.int 81)) (by decide +kernel)
    | 29, _ => exact hs (Cond.eq (.elem (.static "TwoJars$Bodies" "OWN" "[I") (.int 29)) (.int 80)) (by decide +kernel)
    | 30, _ => exact hs (Cond.eq (.elem (.static "TwoJars$Bodies" "OWN" "[I") (.int 30)) (.int 0)) (by decide +kernel)
    | 31, _ => exact hs (Cond.eq (.elem (.static "TwoJars$Bodies" "OWN" "[I") (.int 31)) (.int 0)) (by decide +kernel)
    | j + 32, h => exact absurd h (by omega)
  exact ⟨zLEAST, zMOST, zABOVE, zOWN⟩
theorem start_K {s : State} {b : Nat} (hts : ∀ w ∈ lw_tbl, w.before #[Value.ref b] s = true) : ∃ (D : va_G) (cs : Nat → ClassId), va_K D vwCl (mT cs) s ∧ mN s ∧ mO s := by
  have h : ∀ k : Nat, ∃ (c : ClassId) (i : Nat → Nat), ∀ q : vw_C, vwCl[k]? = some q → u_Kn s q.1 q.2.1 q.2.2 c i := by
    intro k
    match k with
    | 0 =>
      obtain ⟨c, i, h⟩ := u_known (C := RX0) (T := TX0) (N := 6) (n := 6) hts inX0 (hts (.instantiable RX0 6) (List.mem_of_getElem? (i := 360) (by decide +kernel)))
      exact ⟨c, i, fun q hq => by cases hq; exact h⟩
    | 1 =>
      obtain ⟨c, i, h⟩ := u_known (C := RX1) (T := TX1) (N := 8) (n := 8) hts inX1 (hts (.instantiable RX1 8) (List.mem_of_getElem? (i := 320) (by decide +kernel)))
      exact ⟨c, i, fun q hq => by cases hq; exact h⟩
    | 2 =>
      obtain ⟨c, i, h⟩ := u_known (C := RX2) (T := TX2) (N := 5) (n := 5) hts inX2 (hts (.instantiable RX2 5) (List.mem_of_getElem? (i := 181) (by decide +kernel)))
      exact ⟨c, i, fun q hq => by cases hq; exact h⟩
    | 3 =>
      obtain ⟨c, i, h⟩ := u_known (C := RX3) (T := TX3) (N := 10) (n := 10) hts inX3 (hts (.instantiable RX3 10) (List.mem_of_getElem? (i := 142) (by decide +kernel)))
      exact ⟨c, i, fun q hq => by cases hq; exact h⟩
    | 4 =>
      obtain ⟨c, i, h⟩ := u_known (C := RX4) (T := TX4) (N := 8) (n := 8) hts inX4 (hts (.instantiable RX4 8) (List.mem_of_getElem? (i := 205) (by decide +kernel)))
      exact ⟨c, i, fun q hq => by cases hq; exact h⟩
    | 5 =>
      obtain ⟨c, i, h⟩ := u_known (C := RX5) (T := TX5) (N := 2) (n := 2) hts inX5 (hts (.instantiable RX5 2) (List.mem_of_getElem? (i := 254) (by decide +kernel)))
      exact ⟨c, i, fun q hq => by cases hq; exact h⟩
    | 6 =>
      obtain ⟨c, i, h⟩ := u_known (C := RX6) (T := TX6) (N := 4) (n := 4) hts inX6 (hts (.instantiable RX6 4) (List.mem_of_getElem? (i := 388) (by decide +kernel)))
      exact ⟨c, i, fun q hq => by cases hq; exact h⟩
    | 7 =>
      obtain ⟨c, i, h⟩ := u_known (C := RX7) (T := TX7) (N := 3) (n := 3) hts inX7 (hts (.instantiable RX7 3) (List.mem_of_getElem? (i := 268) (by decide +kernel)))
      exact ⟨c, i, fun q hq => by cases hq; exact h⟩
    | 8 =>
      obtain ⟨c, i, h⟩ := u_known (C := RX8) (T := TX8) (N := 6) (n := 6) hts inX8 (hts (.instantiable RX8 6) (List.mem_of_getElem? (i := 115) (by decide +kernel)))
      exact ⟨c, i, fun q hq => by cases hq; exact h⟩
    | 9 =>
      obtain ⟨c, i, h⟩ := u_known (C := RX9) (T := TX9) (N := 3) (n := 3) hts inX9 (hts (.instantiable RX9 3) (List.mem_of_getElem? (i := 237) (by decide +kernel)))
      exact ⟨c, i, fun q hq => by cases hq; exact h⟩
    | 10 =>
      obtain ⟨c, i, h⟩ := u_known (C := RX10) (T := TX10) (N := 4) (n := 4) hts inX10 (hts (.instantiable RX10 4) (List.mem_of_getElem? (i := 296) (by decide +kernel)))
      exact ⟨c, i, fun q hq => by cases hq; exact h⟩
    | 11 =>
      obtain ⟨c, i, h⟩ := u_known (C := RX11) (T := TX11) (N := 17) (n := 17) hts inX11 (hts (.instantiable RX11 17) (List.mem_of_getElem? (i := 107) (by decide +kernel)))
      exact ⟨c, i, fun q hq => by cases hq; exact h⟩
    | 12 =>
      obtain ⟨c, i, h⟩ := u_known (C := RX12) (T := TX12) (N := 57) (n := 57) hts inX12 (hts (.instantiable RX12 57) (List.mem_of_getElem? (i := 1066) (by decide +kernel)))
      exact ⟨c, i, fun q hq => by cases hq; exact h⟩
    | k + 13 => exact ⟨0, fun _ => 0, fun q hq => by simp [vwCl] at hq⟩
  obtain ⟨c0, k0, p0, a0, b0, d0⟩ := Cond.arrayClass_spec (hts (.arrayClass .int) (List.mem_of_getElem? (i := 140) (by decide +kernel)))
  obtain ⟨c1, k1, p1, a1, b1, d1⟩ := Cond.arrayClass_spec (hts (.arrayClass .byte) (List.mem_of_getElem? (i := 1242) (by decide +kernel)))
  obtain ⟨c2, k2, p2, a2, b2, d2⟩ := Cond.arrayClass_spec (hts (.arrayClass .short) (List.mem_of_getElem? (i := 1243) (by decide +kernel)))
  obtain ⟨c3, k3, p3, a3, b3, d3⟩ := Cond.arrayClass_spec (hts (.arrayClass .long) (List.mem_of_getElem? (i := 410) (by decide +kernel)))
  have w4 : (Cond.arrayOver (.array .int)).before #[Value.ref b] s = true := hts _ (List.mem_of_getElem? (i := 187) (by decide +kernel))
  have w5 : (Cond.arrayOver (.object "TwoJars$Shelf")).before #[Value.ref b] s = true := hts _ (List.mem_of_getElem? (i := 387) (by decide +kernel))
  obtain ⟨p4, c4, k4, -, -, b4, d4, a4⟩ := Jvm.Stand.arrayOver_specB w4
  obtain ⟨p5, c5, k5, f5, -, b5, d5, a5⟩ := Cond.arrayOver_spec w5
  refine ⟨(fun k => (h k).choose, fun k => (h k).choose_spec.choose), fun k => ([c0, c1, c2, c3, c4, c5] : List ClassId).getD k 0, ⟨fun k q hq => (h k).choose_spec.choose_spec q hq, fun k q hq => ?_⟩, fun w hw hn => va_Nw.of (mN_onTables hn) (hts w (List.mem_append_right _ hw)), w4, w5⟩
  match k, hq with
  | 0, hq => cases hq; exact ⟨fun N z => ⟨(fun _ h => by cases h), k0, b0, p0, d0⟩, a0⟩
  | 1, hq => cases hq; exact ⟨fun N z => ⟨(fun _ h => by cases h), k1, b1, p1, d1⟩, a1⟩
  | 2, hq => cases hq; exact ⟨fun N z => ⟨(fun _ h => by cases h), k2, b2, p2, d2⟩, a2⟩
  | 3, hq => cases hq; exact ⟨fun N z => ⟨(fun _ h => by cases h), k3, b3, p3, d3⟩, a3⟩
  | 4, hq => cases hq; exact ⟨fun N z => ⟨(fun _ h => by cases h), k4, b4, p4, d4⟩, a4⟩
  | 5, hq => cases hq; exact ⟨fun N z => ⟨(fun _ h => by cases h), k5, b5, p5, d5⟩, k5, p5, b5, d5, f5, a5⟩
  | k + 6, hq => simp at hq
set_option maxRecDepth 100000 in
set_option maxHeartbeats 8000000 in
/-- THE LAW, from its entry, out of the pure statement -/
theorem whole_start_open {p : Program} {e : Env} {s : State} {m : MethodId} {below : List Frame} {meth : Method} {c : Code} (l : Launch) (hpure : ∀ (L : Nat) (xs : Nat → Int32), L ≤ 3072 → wp_L_law_p18 L xs 0 U0 (fun v _ => v = 1)) {b L : Nat} {xs : Nat → Int32} (hL : L ≤ 3072) (C0 : lw_At p s m meth c b L xs) : W p l e room_1 s m #[Value.ref b] below meth c s.heap [] 0 0 (lw_Z below #[Value.ref b] s) (entryFrame m ([Value.ref b] : List Value).toArray 4) := by
  obtain ⟨hx, hb, hr, hml, hown, hts, hX, hbl, hlocks, hgv⟩ := id C0
  have S : CallFix p m c code 4 s #[Value.ref b] lw_tbl RL := ⟨hx, hb, hml, hown, hts⟩
  obtain ⟨D, cs, hK, hN, hO⟩ := start_K hts
  have hl := lv_entry ([.ref b]) (n := 4) (Nat.le_of_ble_eq_true rfl)
  rw [lg_entry_eq]
  generalize (lg_sl ([.ref b]) ++ List.replicate (4 - (lg_sl ([.ref b])).length) Slot.unset).toArray = ls at hl ⊢
  have hl : lv_has ls 4 [(0, .ref b)] := hl
  obtain ⟨H, hH⟩ : ∃ z : Heap, z = s.heap := ⟨_, rfl⟩
  obtain ⟨locs, hL9⟩ : ∃ z : List Loc, z = [] := ⟨_, rfl⟩
  obtain ⟨Z, hZ⟩ : ∃ z, z = lw_Z below #[Value.ref b] s := ⟨_, rfl⟩
  rw [← hZ]
  rw [show W p l e room_1 s m #[Value.ref b] below meth c s.heap [] 0 0 Z (F0 m 0 ls []) = W p l e room_1 s m #[Value.ref b] below meth c H locs 0 0 Z (F0 m 0 ls []) by rw [hH, hL9]]
  have hI : mI D (mT cs) (fun q : Nat => s.heap.size ≤ q) s.heap s [] H locs := ⟨fun k q h => by simp at h, ⟨fun i j p q h => by simp at h, fun k q h => by simp at h⟩, by rw [hH, hL9]; exact va_S.rf, ⟨hK, hN, start_St hts hgv⟩, fun _ h => h⟩
  refine m_new (fs := [.null, .null, .null, .null, .null, .null, .null, .null, .null, .null, .null, .null, .null, .null, .null, .int 0, .int 0]) S inX11 tyX11_ok tb_106 tb_107 tb_90 hI (ci := 11) rfl (fun j hj => by rcases (show j = 0 ∨ j = 1 ∨ j = 2 ∨ j = 3 ∨ j = 4 ∨ j = 5 ∨ j = 6 ∨ j = 7 ∨ j = 8 ∨ j = 9 ∨ j = 10 ∨ j = 11 ∨ j = 12 ∨ j = 13 ∨ j = 14 ∨ j = 15 ∨ j = 16 by omega) with rfl | rfl | rfl | rfl | rfl | rfl | rfl | rfl | rfl | rfl | rfl | rfl | rfl | rfl | rfl | rfl | rfl <;> rfl) (Nat.le_of_ble_eq_true rfl) (Nat.le_of_ble_eq_true rfl) dL_law_0 (fun hq H hI => ?_)
  replace hI : mI D (mT cs) (fun q : Nat => s.heap.size ≤ q) s.heap s (([] : va_W) ++ [(hq, .inr (11, [.null, .null, .null, .null, .null, .null, .null, .null, .null, .null, .null, .null, .null, .null, .null, .int 0, .int 0]))]) H locs := hI
  refine W.widen (k := 1) (n := 17) (Nat.le_of_ble_eq_true rfl) (Nat.le_of_ble_eq_true rfl) ?_
  refine lv_dup S.1 S.2.1 dL_law_3 rfl ?_
  refine m_gk (w := (bW [(hq, .inr (11, [.null, .null, .null, .null, .null, .null, .null, .null, .null, .null, .null, .null, .null, .null, .null, .int 0, .int 0]))] (fun z : Nat × (Nat → Nat) × (Nat → Nat → Nat) => I11 hq z.1 z.2.1 z.2.2 cs))) (u := none) (X := ([] : va_W)) (Y := []) (As := []) (rest := [.ref hq]) S hO hI (c_X11_init l D hq cs) (cwI 0 S.2.2.2.2 gT_X11_init rfl rfl rfl (S.2.2.2.2 _ tb_90) (S.2.2.2.2 _ tb_108) (S.2.2.2.2 _ tb_109) rfl (by decide +kernel) ⟨Nat.le_of_ble_eq_true rfl, Nat.le_of_ble_eq_true rfl⟩) rfl hl.1 rfl (Nat.le_of_ble_eq_true rfl) dL_law_4 ⟨Nat.le_of_ble_eq_true rfl, Nat.le_of_ble_eq_true rfl⟩ (fun o1 H locs ho hI => ?_)
  obtain ⟨⟨qs, bb, ff⟩, rfl⟩ := ho
  replace hI : mI D (mT cs) (fun q : Nat => s.heap.size ≤ q) s.heap s (I11 hq qs bb ff cs) H locs := by
    have h9 : mI D (mT cs) (fun q : Nat => s.heap.size ≤ q) s.heap s (I11 hq qs bb ff cs ++ []) H locs := hI
    rw [List.append_nil] at h9
    exact h9
  refine W.widen (k := 133) (n := 38059) (Nat.le_of_ble_eq_true rfl) (Nat.le_of_ble_eq_true rfl) ?_
  refine lv_astore_n (lv' := [(1, .ref hq), (0, .ref b)]) S.1 S.2.1 dL_law_7 rfl hl (by decide) rfl (fun ls hl => ?_)
  refine m_new (fs := [.int 0, .int 0, .int 0, .int 0, .int 0, .int 0, .int 0, .null, .null, .null, .null, .null, .int 0, .int 0, .int 0, .int 0, .int 0, .null, .null, .null, .null, .null, .null, .null, .int 0, .null, .null, .int 0, .null, .null, .null, .int 0, .null, .int 0, .null, .null, .null, .int 0, .int 0, .int 0, .int 0, .int 0, .int 0, .int 0, .int 0, .int 0, .null, .null, .int 0, .int 0, .null, .int 0, .null, .null, .null, .null, .null]) S inX12 tyX12_ok tb_1065 tb_1066 tb_102 hI (ci := 12) rfl (fun j hj => by rcases (show j = 0 ∨ j = 1 ∨ j = 2 ∨ j = 3 ∨ j = 4 ∨ j = 5 ∨ j = 6 ∨ j = 7 ∨ j = 8 ∨ j = 9 ∨ j = 10 ∨ j = 11 ∨ j = 12 ∨ j = 13 ∨ j = 14 ∨ j = 15 ∨ j = 16 ∨ j = 17 ∨ j = 18 ∨ j = 19 ∨ j = 20 ∨ j = 21 ∨ j = 22 ∨ j = 23 ∨ j = 24 ∨ j = 25 ∨ j = 26 ∨ j = 27 ∨ j = 28 ∨ j = 29 ∨ j = 30 ∨ j = 31 ∨ j = 32 ∨ j = 33 ∨ j = 34 ∨ j = 35 ∨ j = 36 ∨ j = 37 ∨ j = 38 ∨ j = 39 ∨ j = 40 ∨ j = 41 ∨ j = 42 ∨ j = 43 ∨ j = 44 ∨ j = 45 ∨ j = 46 ∨ j = 47 ∨ j = 48 ∨ j = 49 ∨ j = 50 ∨ j = 51 ∨ j = 52 ∨ j = 53 ∨ j = 54 ∨ j = 55 ∨ j = 56 by omega) with rfl | rfl | rfl | rfl | rfl | rfl | rfl | rfl | rfl | rfl | rfl | rfl | rfl | rfl | rfl | rfl | rfl | rfl | rfl | rfl | rfl | rfl | rfl | rfl | rfl | rfl | rfl | rfl | rfl | rfl | rfl | rfl | rfl | rfl | rfl | rfl | rfl | rfl | rfl | rfl | rfl | rfl | rfl | rfl | rfl | rfl | rfl | rfl | rfl | rfl | rfl | rfl | rfl | rfl | rfl | rfl | rfl <;> rfl) (Nat.le_of_ble_eq_true rfl) (Nat.le_of_ble_eq_true rfl) dL_law_8 (fun q2 H hI => ?_)
  replace hI : mI D (mT cs) (fun q : Nat => s.heap.size ≤ q) s.heap s (I11 hq qs bb ff cs ++ [(q2, .inr (12, [.int 0, .int 0, .int 0, .int 0, .int 0, .int 0, .int 0, .null, .null, .null, .null, .null, .int 0, .int 0, .int 0, .int 0, .int 0, .null, .null, .null, .null, .null, .null, .null, .int 0, .null, .null, .int 0, .null, .null, .null, .int 0, .null, .int 0, .null, .null, .null, .int 0, .int 0, .int 0, .int 0, .int 0, .int 0, .int 0, .int 0, .int 0, .null, .null, .int 0, .int 0, .null, .int 0, .null, .null, .null, .null, .null]))]) H locs := hI
  refine W.widen (k := 134) (n := 38116) (Nat.le_of_ble_eq_true rfl) (Nat.le_of_ble_eq_true rfl) ?_
  refine lv_dup S.1 S.2.1 dL_law_11 rfl ?_
  refine m_gk (w := (bW [(q2, .inr (12, [.int 0, .int 0, .int 0, .int 0, .int 0, .int 0, .int 0, .null, .null, .null, .null, .null, .int 0, .int 0, .int 0, .int 0, .int 0, .null, .null, .null, .null, .null, .null, .null, .int 0, .null, .null, .int 0, .null, .null, .null, .int 0, .null, .int 0, .null, .null, .null, .int 0, .int 0, .int 0, .int 0, .int 0, .int 0, .int 0, .int 0, .int 0, .null, .null, .int 0, .int 0, .null, .int 0, .null, .null, .null, .null, .null]))] (fun f => I12 q2 f cs))) (u := none) (X := (I11 hq qs bb ff cs)) (Y := []) (As := []) (rest := [.ref q2]) S hO hI (c_X12_init l D q2 cs) (cwI 0 S.2.2.2.2 gT_X12_init rfl rfl rfl (S.2.2.2.2 _ tb_102) (S.2.2.2.2 _ tb_1067) (S.2.2.2.2 _ tb_1068) rfl (by decide +kernel) ⟨Nat.le_of_ble_eq_true rfl, Nat.le_of_ble_eq_true rfl⟩) rfl hl.1 rfl (Nat.le_of_ble_eq_true rfl) dL_law_12 ⟨Nat.le_of_ble_eq_true rfl, Nat.le_of_ble_eq_true rfl⟩ (fun o2 H locs ho hI => ?_)
  obtain ⟨f2, rfl⟩ := ho
  replace hI : mI D (mT cs) (fun q : Nat => s.heap.size ≤ q) s.heap s (I11 hq qs bb ff cs ++ I12 q2 f2 cs) H locs := by
    have h9 : mI D (mT cs) (fun q : Nat => s.heap.size ≤ q) s.heap s (I11 hq qs bb ff cs ++ (I12 q2 f2 cs ++ [])) H locs := hI
    rw [List.append_nil] at h9
    exact h9
  refine W.widen (k := 163) (n := 64977) (Nat.le_of_ble_eq_true rfl) (Nat.le_of_ble_eq_true rfl) ?_
  refine lv_astore_n (lv' := [(2, .ref q2), (1, .ref hq), (0, .ref b)]) S.1 S.2.1 dL_law_15 rfl hl (by decide) rfl (fun ls hl => ?_)
  refine lv_iconst (v := 0) S.1 S.2.1 dL_law_16 (by decide) ?_
  refine lv_istore_n (lv' := [(3, .int 0), (2, .ref q2), (1, .ref hq), (0, .ref b)]) S.1 S.2.1 dL_law_17 rfl hl (by decide) rfl (fun ls hl => ?_)
  refine W.widen (k := 600000) (n := 7302250) (Nat.le_of_ble_eq_true rfl) (Nat.le_of_ble_eq_true rfl) ?_
  rw [hZ]
  exact law_loop C0 D cs (h00 hq bb ff q2) (r00 qs ff f2) (q00 qs ff f2) 0 U0 (hpure L xs hL) H locs ls (mI_perm (start_perm hq qs q2 bb ff f2 cs) hI) (lv_sub hl [3, 2, 1, 0] rfl)

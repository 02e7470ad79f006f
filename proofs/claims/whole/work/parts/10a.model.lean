/-! laid by program: world, X12_in, X12_valueAt, X12_lays, X12_changes, X12_undo, X12_redo, X12_mend, X12_of, X12_feed, X12_look, X12_faulty, X12_addStep, X12_nameOf, X12_opens, X12_figure, X12_product -/
/-- TwoJarsModel: what its object holds -/
def Ff12 (r : Nat → Nat) (u : ST) : List Value := [.int (gI u 0), .int (gI u 1), .int (gI u 2), .int (gI u 3), .int (gI u 4), .int (gI u 5), .int (gI u 6), .ref (r 7), .ref (r 8), .ref (r 9), .ref (r 10), .ref (r 11), .int (gI u 12), .int (gI u 13), .int (gI u 14), .int (gI u 15), .int (gI u 16), .ref (r 17), .ref (r 18), .ref (r 19), .ref (r 20), .ref (r 21), .ref (r 22), .ref (r 23), .int (gI u 24), .ref (r 25), .ref (r 26), .int (gI u 27), .ref (r 28), .ref (r 29), .ref (r 30), .int (gI u 31), .ref (r 32), .int (gI u 33), .ref (r 34), .ref (r 35), .ref (r 36), .int (gI u 37), .int (gI u 38), .int (gI u 39), .int (gI u 40), .int (gI u 41), .int (gI u 42), .int (gI u 43), .int (gI u 44), .int (gI u 45), .ref (r 46), .ref (r 47), .int (gI u 48), .int (gI u 49), .ref (r 50), .int (gI u 51), .ref (r 52), .ref (r 53), .ref (r 54), .ref (r 55), .ref (r 56)]
def W12 (h : Nat) (r : Nat → Nat) (cs : Nat → ClassId) (u : ST) : va_W := [(h, .inr (12, Ff12 r u)), (r 7, .inl (cs 0, 40, .inl (gA u 7))), (r 8, .inl (cs 0, 40, .inl (gA u 8))), (r 9, .inl (cs 0, 40, .inl (gA u 9))), (r 10, .inl (cs 0, 40, .inl (gA u 10))), (r 11, .inl (cs 1, 120, .inl (gA u 11))), (r 17, .inl (cs 1, 260, .inl (gA u 17))), (r 18, .inl (cs 0, 260, .inl (gA u 18))), (r 19, .inl (cs 0, 2, .inl (gA u 19))), (r 20, .inl (cs 2, 122, .inl (gA u 20))), (r 21, .inl (cs 2, 122, .inl (gA u 21))), (r 22, .inl (cs 0, 3, .inl (gA u 22))), (r 23, .inl (cs 0, 130, .inl (gA u 23))), (r 25, .inl (cs 0, 434, .inl (gA u 25))), (r 26, .inl (cs 0, 434, .inl (gA u 26))), (r 28, .inl (cs 0, 3721, .inl (gA u 28))), (r 29, .inl (cs 0, 3721, .inl (gA u 29))), (r 30, .inl (cs 0, 62, .inl (gA u 30))), (r 32, .inl (cs 0, 8750, .inl (gA u 32))), (r 34, .inl (cs 0, 434, .inl (gA u 34))), (r 35, .inl (cs 0, 434, .inl (gA u 35))), (r 36, .inl (cs 0, 7168, .inl (gA u 36))), (r 46, .inl (cs 0, 9, .inl (gA u 46))), (r 47, .inl (cs 0, 9, .inl (gA u 47))), (r 50, .inl (cs 0, 50, .inl (gA u 50))), (r 52, .inl (cs 0, 24, .inl (gA u 52))), (r 53, .inl (cs 0, 6, .inl (gA u 53))), (r 54, .inl (cs 0, 6, .inl (gA u 54))), (r 55, .inl (cs 3, 360, .inr (.inl (gJ u 55)))), (r 56, .inl (cs 3, 60, .inr (.inl (gJ u 56))))]
theorem W12_at0 (h : Nat) (r : Nat → Nat) (cs : Nat → ClassId) (u : ST) : (W12 h r cs u)[0]? = some (h, .inr (12, Ff12 r u)) := rfl
theorem W12_at1 (h : Nat) (r : Nat → Nat) (cs : Nat → ClassId) (u : ST) : (W12 h r cs u)[1]? = some (r 7, .inl (cs 0, 40, .inl (gA u 7))) := rfl
theorem W12_at2 (h : Nat) (r : Nat → Nat) (cs : Nat → ClassId) (u : ST) : (W12 h r cs u)[2]? = some (r 8, .inl (cs 0, 40, .inl (gA u 8))) := rfl
theorem W12_at3 (h : Nat) (r : Nat → Nat) (cs : Nat → ClassId) (u : ST) : (W12 h r cs u)[3]? = some (r 9, .inl (cs 0, 40, .inl (gA u 9))) := rfl
theorem W12_at4 (h : Nat) (r : Nat → Nat) (cs : Nat → ClassId) (u : ST) : (W12 h r cs u)[4]? = some (r 10, .inl (cs 0, 40, .inl (gA u 10))) := rfl
theorem W12_at5 (h : Nat) (r : Nat → Nat) (cs : Nat → ClassId) (u : ST) : (W12 h r cs u)[5]? = some (r 11, .inl (cs 1, 120, .inl (gA u 11))) := rfl
theorem W12_at6 (h : Nat) (r : Nat → Nat) (cs : Nat → ClassId) (u : ST) : (W12 h r cs u)[6]? = some (r 17, .inl (cs 1, 260, .inl (gA u 17))) := rfl
theorem W12_at7 (h : Nat) (r : Nat → Nat) (cs : Nat → ClassId) (u : ST) : (W12 h r cs u)[7]? = some (r 18, .inl (cs 0, 260, .inl (gA u 18))) := rfl
theorem W12_at8 (h : Nat) (r : Nat → Nat) (cs : Nat → ClassId) (u : ST) : (W12 h r cs u)[8]? = some (r 19, .inl (cs 0, 2, .inl (gA u 19))) := rfl
theorem W12_at9 (h : Nat) (r : Nat → Nat) (cs : Nat → ClassId) (u : ST) : (W12 h r cs u)[9]? = some (r 20, .inl (cs 2, 122, .inl (gA u 20))) := rfl
theorem W12_at10 (h : Nat) (r : Nat → Nat) (cs : Nat → ClassId) (u : ST) : (W12 h r cs u)[10]? = some (r 21, .inl (cs 2, 122, .inl (gA u 21))) := rfl
theorem W12_at11 (h : Nat) (r : Nat → Nat) (cs : Nat → ClassId) (u : ST) : (W12 h r cs u)[11]? = some (r 22, .inl (cs 0, 3, .inl (gA u 22))) := rfl
theorem W12_at12 (h : Nat) (r : Nat → Nat) (cs : Nat → ClassId) (u : ST) : (W12 h r cs u)[12]? = some (r 23, .inl (cs 0, 130, .inl (gA u 23))) := rfl
theorem W12_at13 (h : Nat) (r : Nat → Nat) (cs : Nat → ClassId) (u : ST) : (W12 h r cs u)[13]? = some (r 25, .inl (cs 0, 434, .inl (gA u 25))) := rfl
theorem W12_at14 (h : Nat) (r : Nat → Nat) (cs : Nat → ClassId) (u : ST) : (W12 h r cs u)[14]? = some (r 26, .inl (cs 0, 434, .inl (gA u 26))) := rfl
theorem W12_at15 (h : Nat) (r : Nat → Nat) (cs : Nat → ClassId) (u : ST) : (W12 h r cs u)[15]? = some (r 28, .inl (cs 0, 3721, .inl (gA u 28))) := rfl
theorem W12_at16 (h : Nat) (r : Nat → Nat) (cs : Nat → ClassId) (u : ST) : (W12 h r cs u)[16]? = some (r 29, .inl (cs 0, 3721, .inl (gA u 29))) := rfl
theorem W12_at17 (h : Nat) (r : Nat → Nat) (cs : Nat → ClassId) (u : ST) : (W12 h r cs u)[17]? = some (r 30, .inl (cs 0, 62, .inl (gA u 30))) := rfl
theorem W12_at18 (h : Nat) (r : Nat → Nat) (cs : Nat → ClassId) (u : ST) : (W12 h r cs u)[18]? = some (r 32, .inl (cs 0, 8750, .inl (gA u 32))) := rfl
theorem W12_at19 (h : Nat) (r : Nat → Nat) (cs : Nat → ClassId) (u : ST) : (W12 h r cs u)[19]? = some (r 34, .inl (cs 0, 434, .inl (gA u 34))) := rfl
theorem W12_at20 (h : Nat) (r : Nat → Nat) (cs : Nat → ClassId) (u : ST) : (W12 h r cs u)[20]? = some (r 35, .inl (cs 0, 434, .inl (gA u 35))) := rfl
theorem W12_at21 (h : Nat) (r : Nat → Nat) (cs : Nat → ClassId) (u : ST) : (W12 h r cs u)[21]? = some (r 36, .inl (cs 0, 7168, .inl (gA u 36))) := rfl
theorem W12_at22 (h : Nat) (r : Nat → Nat) (cs : Nat → ClassId) (u : ST) : (W12 h r cs u)[22]? = some (r 46, .inl (cs 0, 9, .inl (gA u 46))) := rfl
theorem W12_at23 (h : Nat) (r : Nat → Nat) (cs : Nat → ClassId) (u : ST) : (W12 h r cs u)[23]? = some (r 47, .inl (cs 0, 9, .inl (gA u 47))) := rfl
theorem W12_at24 (h : Nat) (r : Nat → Nat) (cs : Nat → ClassId) (u : ST) : (W12 h r cs u)[24]? = some (r 50, .inl (cs 0, 50, .inl (gA u 50))) := rfl
theorem W12_at25 (h : Nat) (r : Nat → Nat) (cs : Nat → ClassId) (u : ST) : (W12 h r cs u)[25]? = some (r 52, .inl (cs 0, 24, .inl (gA u 52))) := rfl
theorem W12_at26 (h : Nat) (r : Nat → Nat) (cs : Nat → ClassId) (u : ST) : (W12 h r cs u)[26]? = some (r 53, .inl (cs 0, 6, .inl (gA u 53))) := rfl
theorem W12_at27 (h : Nat) (r : Nat → Nat) (cs : Nat → ClassId) (u : ST) : (W12 h r cs u)[27]? = some (r 54, .inl (cs 0, 6, .inl (gA u 54))) := rfl
theorem W12_at28 (h : Nat) (r : Nat → Nat) (cs : Nat → ClassId) (u : ST) : (W12 h r cs u)[28]? = some (r 55, .inl (cs 3, 360, .inr (.inl (gJ u 55)))) := rfl
theorem W12_at29 (h : Nat) (r : Nat → Nat) (cs : Nat → ClassId) (u : ST) : (W12 h r cs u)[29]? = some (r 56, .inl (cs 3, 60, .inr (.inl (gJ u 56)))) := rfl
theorem Ff12_at0 (r : Nat → Nat) (u : ST) : (Ff12 r u)[0]? = some (.int (gI u 0)) := rfl
theorem Ff12_at1 (r : Nat → Nat) (u : ST) : (Ff12 r u)[1]? = some (.int (gI u 1)) := rfl
theorem Ff12_at2 (r : Nat → Nat) (u : ST) : (Ff12 r u)[2]? = some (.int (gI u 2)) := rfl
theorem Ff12_at3 (r : Nat → Nat) (u : ST) : (Ff12 r u)[3]? = some (.int (gI u 3)) := rfl
theorem Ff12_at4 (r : Nat → Nat) (u : ST) : (Ff12 r u)[4]? = some (.int (gI u 4)) := rfl
theorem Ff12_at5 (r : Nat → Nat) (u : ST) : (Ff12 r u)[5]? = some (.int (gI u 5)) := rfl
theorem Ff12_at6 (r : Nat → Nat) (u : ST) : (Ff12 r u)[6]? = some (.int (gI u 6)) := rfl
theorem Ff12_at7 (r : Nat → Nat) (u : ST) : (Ff12 r u)[7]? = some (.ref (r 7)) := rfl
theorem Ff12_at8 (r : Nat → Nat) (u : ST) : (Ff12 r u)[8]? = some (.ref (r 8)) := rfl
theorem Ff12_at9 (r : Nat → Nat) (u : ST) : (Ff12 r u)[9]? = some (.ref (r 9)) := rfl
theorem Ff12_at10 (r : Nat → Nat) (u : ST) : (Ff12 r u)[10]? = some (.ref (r 10)) := rfl
theorem Ff12_at11 (r : Nat → Nat) (u : ST) : (Ff12 r u)[11]? = some (.ref (r 11)) := rfl
theorem Ff12_at12 (r : Nat → Nat) (u : ST) : (Ff12 r u)[12]? = some (.int (gI u 12)) := rfl
theorem Ff12_at13 (r : Nat → Nat) (u : ST) : (Ff12 r u)[13]? = some (.int (gI u 13)) := rfl
theorem Ff12_at14 (r : Nat → Nat) (u : ST) : (Ff12 r u)[14]? = some (.int (gI u 14)) := rfl
theorem Ff12_at15 (r : Nat → Nat) (u : ST) : (Ff12 r u)[15]? = some (.int (gI u 15)) := rfl
theorem Ff12_at16 (r : Nat → Nat) (u : ST) : (Ff12 r u)[16]? = some (.int (gI u 16)) := rfl
theorem Ff12_at17 (r : Nat → Nat) (u : ST) : (Ff12 r u)[17]? = some (.ref (r 17)) := rfl
theorem Ff12_at18 (r : Nat → Nat) (u : ST) : (Ff12 r u)[18]? = some (.ref (r 18)) := rfl
theorem Ff12_at19 (r : Nat → Nat) (u : ST) : (Ff12 r u)[19]? = some (.ref (r 19)) := rfl
theorem Ff12_at20 (r : Nat → Nat) (u : ST) : (Ff12 r u)[20]? = some (.ref (r 20)) := rfl
theorem Ff12_at21 (r : Nat → Nat) (u : ST) : (Ff12 r u)[21]? = some (.ref (r 21)) := rfl
theorem Ff12_at22 (r : Nat → Nat) (u : ST) : (Ff12 r u)[22]? = some (.ref (r 22)) := rfl
theorem Ff12_at23 (r : Nat → Nat) (u : ST) : (Ff12 r u)[23]? = some (.ref (r 23)) := rfl
theorem Ff12_at24 (r : Nat → Nat) (u : ST) : (Ff12 r u)[24]? = some (.int (gI u 24)) := rfl
theorem Ff12_at25 (r : Nat → Nat) (u : ST) : (Ff12 r u)[25]? = some (.ref (r 25)) := rfl
theorem Ff12_at26 (r : Nat → Nat) (u : ST) : (Ff12 r u)[26]? = some (.ref (r 26)) := rfl
theorem Ff12_at27 (r : Nat → Nat) (u : ST) : (Ff12 r u)[27]? = some (.int (gI u 27)) := rfl
theorem Ff12_at28 (r : Nat → Nat) (u : ST) : (Ff12 r u)[28]? = some (.ref (r 28)) := rfl
theorem Ff12_at29 (r : Nat → Nat) (u : ST) : (Ff12 r u)[29]? = some (.ref (r 29)) := rfl
theorem Ff12_at30 (r : Nat → Nat) (u : ST) : (Ff12 r u)[30]? = some (.ref (r 30)) := rfl
theorem Ff12_at31 (r : Nat → Nat) (u : ST) : (Ff12 r u)[31]? = some (.int (gI u 31)) := rfl
theorem Ff12_at32 (r : Nat → Nat) (u : ST) : (Ff12 r u)[32]? = some (.ref (r 32)) := rfl
theorem Ff12_at33 (r : Nat → Nat) (u : ST) : (Ff12 r u)[33]? = some (.int (gI u 33)) := rfl
theorem Ff12_at34 (r : Nat → Nat) (u : ST) : (Ff12 r u)[34]? = some (.ref (r 34)) := rfl
theorem Ff12_at35 (r : Nat → Nat) (u : ST) : (Ff12 r u)[35]? = some (.ref (r 35)) := rfl
theorem Ff12_at36 (r : Nat → Nat) (u : ST) : (Ff12 r u)[36]? = some (.ref (r 36)) := rfl
theorem Ff12_at37 (r : Nat → Nat) (u : ST) : (Ff12 r u)[37]? = some (.int (gI u 37)) := rfl
theorem Ff12_at38 (r : Nat → Nat) (u : ST) : (Ff12 r u)[38]? = some (.int (gI u 38)) := rfl
theorem Ff12_at39 (r : Nat → Nat) (u : ST) : (Ff12 r u)[39]? = some (.int (gI u 39)) := rfl
theorem Ff12_at40 (r : Nat → Nat) (u : ST) : (Ff12 r u)[40]? = some (.int (gI u 40)) := rfl
theorem Ff12_at41 (r : Nat → Nat) (u : ST) : (Ff12 r u)[41]? = some (.int (gI u 41)) := rfl
theorem Ff12_at42 (r : Nat → Nat) (u : ST) : (Ff12 r u)[42]? = some (.int (gI u 42)) := rfl
theorem Ff12_at43 (r : Nat → Nat) (u : ST) : (Ff12 r u)[43]? = some (.int (gI u 43)) := rfl
theorem Ff12_at44 (r : Nat → Nat) (u : ST) : (Ff12 r u)[44]? = some (.int (gI u 44)) := rfl
theorem Ff12_at45 (r : Nat → Nat) (u : ST) : (Ff12 r u)[45]? = some (.int (gI u 45)) := rfl
theorem Ff12_at46 (r : Nat → Nat) (u : ST) : (Ff12 r u)[46]? = some (.ref (r 46)) := rfl
theorem Ff12_at47 (r : Nat → Nat) (u : ST) : (Ff12 r u)[47]? = some (.ref (r 47)) := rfl
theorem Ff12_at48 (r : Nat → Nat) (u : ST) : (Ff12 r u)[48]? = some (.int (gI u 48)) := rfl
theorem Ff12_at49 (r : Nat → Nat) (u : ST) : (Ff12 r u)[49]? = some (.int (gI u 49)) := rfl
theorem Ff12_at50 (r : Nat → Nat) (u : ST) : (Ff12 r u)[50]? = some (.ref (r 50)) := rfl
theorem Ff12_at51 (r : Nat → Nat) (u : ST) : (Ff12 r u)[51]? = some (.int (gI u 51)) := rfl
theorem Ff12_at52 (r : Nat → Nat) (u : ST) : (Ff12 r u)[52]? = some (.ref (r 52)) := rfl
theorem Ff12_at53 (r : Nat → Nat) (u : ST) : (Ff12 r u)[53]? = some (.ref (r 53)) := rfl
theorem Ff12_at54 (r : Nat → Nat) (u : ST) : (Ff12 r u)[54]? = some (.ref (r 54)) := rfl
theorem Ff12_at55 (r : Nat → Nat) (u : ST) : (Ff12 r u)[55]? = some (.ref (r 55)) := rfl
theorem Ff12_at56 (r : Nat → Nat) (u : ST) : (Ff12 r u)[56]? = some (.ref (r 56)) := rfl
theorem W12_sI0 (h : Nat) (r : Nat → Nat) (cs : Nat → ClassId) (u u9 : ST) (x : Int32) (e : u9 = sI u 0 x) : (W12 h r cs u).set 0 (h, .inr (12, (Ff12 r u).set 0 (.int x))) = W12 h r cs u9 := by subst e; rfl
theorem W12_sI1 (h : Nat) (r : Nat → Nat) (cs : Nat → ClassId) (u u9 : ST) (x : Int32) (e : u9 = sI u 1 x) : (W12 h r cs u).set 0 (h, .inr (12, (Ff12 r u).set 1 (.int x))) = W12 h r cs u9 := by subst e; rfl
theorem W12_sI2 (h : Nat) (r : Nat → Nat) (cs : Nat → ClassId) (u u9 : ST) (x : Int32) (e : u9 = sI u 2 x) : (W12 h r cs u).set 0 (h, .inr (12, (Ff12 r u).set 2 (.int x))) = W12 h r cs u9 := by subst e; rfl
theorem W12_sI3 (h : Nat) (r : Nat → Nat) (cs : Nat → ClassId) (u u9 : ST) (x : Int32) (e : u9 = sI u 3 x) : (W12 h r cs u).set 0 (h, .inr (12, (Ff12 r u).set 3 (.int x))) = W12 h r cs u9 := by subst e; rfl
theorem W12_sI4 (h : Nat) (r : Nat → Nat) (cs : Nat → ClassId) (u u9 : ST) (x : Int32) (e : u9 = sI u 4 x) : (W12 h r cs u).set 0 (h, .inr (12, (Ff12 r u).set 4 (.int x))) = W12 h r cs u9 := by subst e; rfl
theorem W12_sI5 (h : Nat) (r : Nat → Nat) (cs : Nat → ClassId) (u u9 : ST) (x : Int32) (e : u9 = sI u 5 x) : (W12 h r cs u).set 0 (h, .inr (12, (Ff12 r u).set 5 (.int x))) = W12 h r cs u9 := by subst e; rfl
theorem W12_sI6 (h : Nat) (r : Nat → Nat) (cs : Nat → ClassId) (u u9 : ST) (x : Int32) (e : u9 = sI u 6 x) : (W12 h r cs u).set 0 (h, .inr (12, (Ff12 r u).set 6 (.int x))) = W12 h r cs u9 := by subst e; rfl
theorem W12_sI12 (h : Nat) (r : Nat → Nat) (cs : Nat → ClassId) (u u9 : ST) (x : Int32) (e : u9 = sI u 12 x) : (W12 h r cs u).set 0 (h, .inr (12, (Ff12 r u).set 12 (.int x))) = W12 h r cs u9 := by subst e; rfl
theorem W12_sI13 (h : Nat) (r : Nat → Nat) (cs : Nat → ClassId) (u u9 : ST) (x : Int32) (e : u9 = sI u 13 x) : (W12 h r cs u).set 0 (h, .inr (12, (Ff12 r u).set 13 (.int x))) = W12 h r cs u9 := by subst e; rfl
theorem W12_sI14 (h : Nat) (r : Nat → Nat) (cs : Nat → ClassId) (u u9 : ST) (x : Int32) (e : u9 = sI u 14 x) : (W12 h r cs u).set 0 (h, .inr (12, (Ff12 r u).set 14 (.int x))) = W12 h r cs u9 := by subst e; rfl
theorem W12_sI15 (h : Nat) (r : Nat → Nat) (cs : Nat → ClassId) (u u9 : ST) (x : Int32) (e : u9 = sI u 15 x) : (W12 h r cs u).set 0 (h, .inr (12, (Ff12 r u).set 15 (.int x))) = W12 h r cs u9 := by subst e; rfl
theorem W12_sI16 (h : Nat) (r : Nat → Nat) (cs : Nat → ClassId) (u u9 : ST) (x : Int32) (e : u9 = sI u 16 x) : (W12 h r cs u).set 0 (h, .inr (12, (Ff12 r u).set 16 (.int x))) = W12 h r cs u9 := by subst e; rfl
theorem W12_sI24 (h : Nat) (r : Nat → Nat) (cs : Nat → ClassId) (u u9 : ST) (x : Int32) (e : u9 = sI u 24 x) : (W12 h r cs u).set 0 (h, .inr (12, (Ff12 r u).set 24 (.int x))) = W12 h r cs u9 := by subst e; rfl
theorem W12_sI27 (h : Nat) (r : Nat → Nat) (cs : Nat → ClassId) (u u9 : ST) (x : Int32) (e : u9 = sI u 27 x) : (W12 h r cs u).set 0 (h, .inr (12, (Ff12 r u).set 27 (.int x))) = W12 h r cs u9 := by subst e; rfl
theorem W12_sI31 (h : Nat) (r : Nat → Nat) (cs : Nat → ClassId) (u u9 : ST) (x : Int32) (e : u9 = sI u 31 x) : (W12 h r cs u).set 0 (h, .inr (12, (Ff12 r u).set 31 (.int x))) = W12 h r cs u9 := by subst e; rfl
theorem W12_sI33 (h : Nat) (r : Nat → Nat) (cs : Nat → ClassId) (u u9 : ST) (x : Int32) (e : u9 = sI u 33 x) : (W12 h r cs u).set 0 (h, .inr (12, (Ff12 r u).set 33 (.int x))) = W12 h r cs u9 := by subst e; rfl
theorem W12_sI37 (h : Nat) (r : Nat → Nat) (cs : Nat → ClassId) (u u9 : ST) (x : Int32) (e : u9 = sI u 37 x) : (W12 h r cs u).set 0 (h, .inr (12, (Ff12 r u).set 37 (.int x))) = W12 h r cs u9 := by subst e; rfl
theorem W12_sI38 (h : Nat) (r : Nat → Nat) (cs : Nat → ClassId) (u u9 : ST) (x : Int32) (e : u9 = sI u 38 x) : (W12 h r cs u).set 0 (h, .inr (12, (Ff12 r u).set 38 (.int x))) = W12 h r cs u9 := by subst e; rfl
theorem W12_sI39 (h : Nat) (r : Nat → Nat) (cs : Nat → ClassId) (u u9 : ST) (x : Int32) (e : u9 = sI u 39 x) : (W12 h r cs u).set 0 (h, .inr (12, (Ff12 r u).set 39 (.int x))) = W12 h r cs u9 := by subst e; rfl
theorem W12_sI40 (h : Nat) (r : Nat → Nat) (cs : Nat → ClassId) (u u9 : ST) (x : Int32) (e : u9 = sI u 40 x) : (W12 h r cs u).set 0 (h, .inr (12, (Ff12 r u).set 40 (.int x))) = W12 h r cs u9 := by subst e; rfl
theorem W12_sI41 (h : Nat) (r : Nat → Nat) (cs : Nat → ClassId) (u u9 : ST) (x : Int32) (e : u9 = sI u 41 x) : (W12 h r cs u).set 0 (h, .inr (12, (Ff12 r u).set 41 (.int x))) = W12 h r cs u9 := by subst e; rfl
theorem W12_sI42 (h : Nat) (r : Nat → Nat) (cs : Nat → ClassId) (u u9 : ST) (x : Int32) (e : u9 = sI u 42 x) : (W12 h r cs u).set 0 (h, .inr (12, (Ff12 r u).set 42 (.int x))) = W12 h r cs u9 := by subst e; rfl
theorem W12_sI43 (h : Nat) (r : Nat → Nat) (cs : Nat → ClassId) (u u9 : ST) (x : Int32) (e : u9 = sI u 43 x) : (W12 h r cs u).set 0 (h, .inr (12, (Ff12 r u).set 43 (.int x))) = W12 h r cs u9 := by subst e; rfl
theorem W12_sI44 (h : Nat) (r : Nat → Nat) (cs : Nat → ClassId) (u u9 : ST) (x : Int32) (e : u9 = sI u 44 x) : (W12 h r cs u).set 0 (h, .inr (12, (Ff12 r u).set 44 (.int x))) = W12 h r cs u9 := by subst e; rfl
theorem W12_sI45 (h : Nat) (r : Nat → Nat) (cs : Nat → ClassId) (u u9 : ST) (x : Int32) (e : u9 = sI u 45 x) : (W12 h r cs u).set 0 (h, .inr (12, (Ff12 r u).set 45 (.int x))) = W12 h r cs u9 := by subst e; rfl
theorem W12_sI48 (h : Nat) (r : Nat → Nat) (cs : Nat → ClassId) (u u9 : ST) (x : Int32) (e : u9 = sI u 48 x) : (W12 h r cs u).set 0 (h, .inr (12, (Ff12 r u).set 48 (.int x))) = W12 h r cs u9 := by subst e; rfl
theorem W12_sI49 (h : Nat) (r : Nat → Nat) (cs : Nat → ClassId) (u u9 : ST) (x : Int32) (e : u9 = sI u 49 x) : (W12 h r cs u).set 0 (h, .inr (12, (Ff12 r u).set 49 (.int x))) = W12 h r cs u9 := by subst e; rfl
theorem W12_sI51 (h : Nat) (r : Nat → Nat) (cs : Nat → ClassId) (u u9 : ST) (x : Int32) (e : u9 = sI u 51 x) : (W12 h r cs u).set 0 (h, .inr (12, (Ff12 r u).set 51 (.int x))) = W12 h r cs u9 := by subst e; rfl
theorem W12_sA7 (h : Nat) (r : Nat → Nat) (cs : Nat → ClassId) (u u9 : ST) (f : Nat → Int32) (e : u9 = sA u 7 f) : (W12 h r cs u).set 1 (r 7, .inl (cs 0, 40, .inl f)) = W12 h r cs u9 := by subst e; rfl
theorem W12_sA8 (h : Nat) (r : Nat → Nat) (cs : Nat → ClassId) (u u9 : ST) (f : Nat → Int32) (e : u9 = sA u 8 f) : (W12 h r cs u).set 2 (r 8, .inl (cs 0, 40, .inl f)) = W12 h r cs u9 := by subst e; rfl
theorem W12_sA9 (h : Nat) (r : Nat → Nat) (cs : Nat → ClassId) (u u9 : ST) (f : Nat → Int32) (e : u9 = sA u 9 f) : (W12 h r cs u).set 3 (r 9, .inl (cs 0, 40, .inl f)) = W12 h r cs u9 := by subst e; rfl
theorem W12_sA10 (h : Nat) (r : Nat → Nat) (cs : Nat → ClassId) (u u9 : ST) (f : Nat → Int32) (e : u9 = sA u 10 f) : (W12 h r cs u).set 4 (r 10, .inl (cs 0, 40, .inl f)) = W12 h r cs u9 := by subst e; rfl
theorem W12_sA11 (h : Nat) (r : Nat → Nat) (cs : Nat → ClassId) (u u9 : ST) (f : Nat → Int32) (e : u9 = sA u 11 f) : (W12 h r cs u).set 5 (r 11, .inl (cs 1, 120, .inl f)) = W12 h r cs u9 := by subst e; rfl
theorem W12_sA17 (h : Nat) (r : Nat → Nat) (cs : Nat → ClassId) (u u9 : ST) (f : Nat → Int32) (e : u9 = sA u 17 f) : (W12 h r cs u).set 6 (r 17, .inl (cs 1, 260, .inl f)) = W12 h r cs u9 := by subst e; rfl
theorem W12_sA18 (h : Nat) (r : Nat → Nat) (cs : Nat → ClassId) (u u9 : ST) (f : Nat → Int32) (e : u9 = sA u 18 f) : (W12 h r cs u).set 7 (r 18, .inl (cs 0, 260, .inl f)) = W12 h r cs u9 := by subst e; rfl
theorem W12_sA19 (h : Nat) (r : Nat → Nat) (cs : Nat → ClassId) (u u9 : ST) (f : Nat → Int32) (e : u9 = sA u 19 f) : (W12 h r cs u).set 8 (r 19, .inl (cs 0, 2, .inl f)) = W12 h r cs u9 := by subst e; rfl
theorem W12_sA20 (h : Nat) (r : Nat → Nat) (cs : Nat → ClassId) (u u9 : ST) (f : Nat → Int32) (e : u9 = sA u 20 f) : (W12 h r cs u).set 9 (r 20, .inl (cs 2, 122, .inl f)) = W12 h r cs u9 := by subst e; rfl
theorem W12_sA21 (h : Nat) (r : Nat → Nat) (cs : Nat → ClassId) (u u9 : ST) (f : Nat → Int32) (e : u9 = sA u 21 f) : (W12 h r cs u).set 10 (r 21, .inl (cs 2, 122, .inl f)) = W12 h r cs u9 := by subst e; rfl
theorem W12_sA22 (h : Nat) (r : Nat → Nat) (cs : Nat → ClassId) (u u9 : ST) (f : Nat → Int32) (e : u9 = sA u 22 f) : (W12 h r cs u).set 11 (r 22, .inl (cs 0, 3, .inl f)) = W12 h r cs u9 := by subst e; rfl
theorem W12_sA23 (h : Nat) (r : Nat → Nat) (cs : Nat → ClassId) (u u9 : ST) (f : Nat → Int32) (e : u9 = sA u 23 f) : (W12 h r cs u).set 12 (r 23, .inl (cs 0, 130, .inl f)) = W12 h r cs u9 := by subst e; rfl
theorem W12_sA25 (h : Nat) (r : Nat → Nat) (cs : Nat → ClassId) (u u9 : ST) (f : Nat → Int32) (e : u9 = sA u 25 f) : (W12 h r cs u).set 13 (r 25, .inl (cs 0, 434, .inl f)) = W12 h r cs u9 := by subst e; rfl
theorem W12_sA26 (h : Nat) (r : Nat → Nat) (cs : Nat → ClassId) (u u9 : ST) (f : Nat → Int32) (e : u9 = sA u 26 f) : (W12 h r cs u).set 14 (r 26, .inl (cs 0, 434, .inl f)) = W12 h r cs u9 := by subst e; rfl
theorem W12_sA28 (h : Nat) (r : Nat → Nat) (cs : Nat → ClassId) (u u9 : ST) (f : Nat → Int32) (e : u9 = sA u 28 f) : (W12 h r cs u).set 15 (r 28, .inl (cs 0, 3721, .inl f)) = W12 h r cs u9 := by subst e; rfl
theorem W12_sA29 (h : Nat) (r : Nat → Nat) (cs : Nat → ClassId) (u u9 : ST) (f : Nat → Int32) (e : u9 = sA u 29 f) : (W12 h r cs u).set 16 (r 29, .inl (cs 0, 3721, .inl f)) = W12 h r cs u9 := by subst e; rfl
theorem W12_sA30 (h : Nat) (r : Nat → Nat) (cs : Nat → ClassId) (u u9 : ST) (f : Nat → Int32) (e : u9 = sA u 30 f) : (W12 h r cs u).set 17 (r 30, .inl (cs 0, 62, .inl f)) = W12 h r cs u9 := by subst e; rfl
theorem W12_sA32 (h : Nat) (r : Nat → Nat) (cs : Nat → ClassId) (u u9 : ST) (f : Nat → Int32) (e : u9 = sA u 32 f) : (W12 h r cs u).set 18 (r 32, .inl (cs 0, 8750, .inl f)) = W12 h r cs u9 := by subst e; rfl
theorem W12_sA34 (h : Nat) (r : Nat → Nat) (cs : Nat → ClassId) (u u9 : ST) (f : Nat → Int32) (e : u9 = sA u 34 f) : (W12 h r cs u).set 19 (r 34, .inl (cs 0, 434, .inl f)) = W12 h r cs u9 := by subst e; rfl
theorem W12_sA35 (h : Nat) (r : Nat → Nat) (cs : Nat → ClassId) (u u9 : ST) (f : Nat → Int32) (e : u9 = sA u 35 f) : (W12 h r cs u).set 20 (r 35, .inl (cs 0, 434, .inl f)) = W12 h r cs u9 := by subst e; rfl
theorem W12_sA36 (h : Nat) (r : Nat → Nat) (cs : Nat → ClassId) (u u9 : ST) (f : Nat → Int32) (e : u9 = sA u 36 f) : (W12 h r cs u).set 21 (r 36, .inl (cs 0, 7168, .inl f)) = W12 h r cs u9 := by subst e; rfl
theorem W12_sA46 (h : Nat) (r : Nat → Nat) (cs : Nat → ClassId) (u u9 : ST) (f : Nat → Int32) (e : u9 = sA u 46 f) : (W12 h r cs u).set 22 (r 46, .inl (cs 0, 9, .inl f)) = W12 h r cs u9 := by subst e; rfl
theorem W12_sA47 (h : Nat) (r : Nat → Nat) (cs : Nat → ClassId) (u u9 : ST) (f : Nat → Int32) (e : u9 = sA u 47 f) : (W12 h r cs u).set 23 (r 47, .inl (cs 0, 9, .inl f)) = W12 h r cs u9 := by subst e; rfl
theorem W12_sA50 (h : Nat) (r : Nat → Nat) (cs : Nat → ClassId) (u u9 : ST) (f : Nat → Int32) (e : u9 = sA u 50 f) : (W12 h r cs u).set 24 (r 50, .inl (cs 0, 50, .inl f)) = W12 h r cs u9 := by subst e; rfl
theorem W12_sA52 (h : Nat) (r : Nat → Nat) (cs : Nat → ClassId) (u u9 : ST) (f : Nat → Int32) (e : u9 = sA u 52 f) : (W12 h r cs u).set 25 (r 52, .inl (cs 0, 24, .inl f)) = W12 h r cs u9 := by subst e; rfl
theorem W12_sA53 (h : Nat) (r : Nat → Nat) (cs : Nat → ClassId) (u u9 : ST) (f : Nat → Int32) (e : u9 = sA u 53 f) : (W12 h r cs u).set 26 (r 53, .inl (cs 0, 6, .inl f)) = W12 h r cs u9 := by subst e; rfl
theorem W12_sA54 (h : Nat) (r : Nat → Nat) (cs : Nat → ClassId) (u u9 : ST) (f : Nat → Int32) (e : u9 = sA u 54 f) : (W12 h r cs u).set 27 (r 54, .inl (cs 0, 6, .inl f)) = W12 h r cs u9 := by subst e; rfl
theorem W12_sJ55 (h : Nat) (r : Nat → Nat) (cs : Nat → ClassId) (u u9 : ST) (f : Nat → Int64) (e : u9 = sJ u 55 f) : (W12 h r cs u).set 28 (r 55, .inl (cs 3, 360, .inr (.inl f))) = W12 h r cs u9 := by subst e; rfl
theorem W12_sJ56 (h : Nat) (r : Nat → Nat) (cs : Nat → ClassId) (u u9 : ST) (f : Nat → Int64) (e : u9 = sJ u 56 f) : (W12 h r cs u).set 29 (r 56, .inl (cs 3, 60, .inr (.inl f))) = W12 h r cs u9 := by subst e; rfl
theorem W12_self (h : Nat) (r : Nat → Nat) (cs : Nat → ClassId) : ∀ v, (W12 h r cs v).Perm ([] ++ (W12 h r cs v ++ [])) := fun v => by rw [List.append_nil, List.nil_append]

def wp_X12_in_p15 (t0 : Int32) (Q : Int32 → Prop) : Prop :=
  t0 &&& 1 = t0 ∧ Q t0
def wp_X12_in_p14 (Q : Int32 → Prop) : Prop :=
  wp_X12_in_p15 (0 : Int32) Q
def wp_X12_in (a0 : Int32) (a1 : Int32) (a2 : Int32) (Q : Int32 → Prop) : Prop :=
  ((a0 < a1 → wp_X12_in_p14 Q) ∧ (¬ a0 < a1 → ((a2 < a0 → wp_X12_in_p14 Q) ∧ (¬ a2 < a0 → wp_X12_in_p15 (1 : Int32) Q))))
set_option maxHeartbeats 4000000 in
set_option maxRecDepth 100000 in
theorem c_X12_in (l : Launch) (a0 : Int32) (a1 : Int32) (a2 : Int32) (Q : Int32 → Prop) (hw : wp_X12_in a0 a1 a2 Q) : mTi l yX12_in wsX12_in ({ frames := 0, cells := 0, slots := 0, locals := 0 } : Room) [.int a0, .int a1, .int a2] Q := by
  refine m_enterT (cc := cX12_in) (maxL := 3) (ret := (some .boolean)) (by decide) rfl (Nat.le_of_ble_eq_true rfl) ?_
  intro p e s m args below meth c ls S hr hlocks hname hl hN
  have S : CallFix p m c cX12_in 3 s args wsX12_in RX12 := S
  generalize hZ : MQ below (vp_Si Q) args s 0 0 (fun _ => False) = Z
  have hl : lv_has ls 3 [(0, .int a0), (1, .int a1), (2, .int a2)] := hl
  have b15 : ∀ (t0 : Int32), wp_X12_in_p15 t0 Q → mGt p l e ({ frames := 0, cells := 0, slots := 0, locals := 0 } : Room) s m args below meth c Z 3 15 [] [.int t0] := by
    intro t0 hw ls hl
    unfold wp_X12_in_p15 at hw
    subst hZ
    exact m_tzret S hr hlocks hw.1 hw.2 dX12_in_15
  have b14 : wp_X12_in_p14 Q → mGt p l e ({ frames := 0, cells := 0, slots := 0, locals := 0 } : Room) s m args below meth c Z 3 14 [] [] := by
    intro hw ls hl
    unfold wp_X12_in_p14 at hw
    refine lv_iconst (v := 0) S.1 S.2.1 dX12_in_14 (by decide) ?_
    exact b15 (0 : Int32) hw ls (lv_sub hl [] rfl)
  unfold wp_X12_in at hw
  refine lv_iload_n S.1 S.2.1 dX12_in_0 rfl (lv_at hl 0 rfl) ?_
  refine lv_iload_n S.1 S.2.1 dX12_in_1 rfl (lv_at hl 1 rfl) ?_
  refine lv_icmp_lt (tgt := 14) S.1 S.2.1 dX12_in_2 (by decide) (fun c2 => ?_) (fun c2 => ?_)
  · have hw := hw.1 c2
    exact b14 hw ls (lv_sub hl [] rfl)
  · have hw := hw.2 c2
    refine lv_iload_n S.1 S.2.1 dX12_in_5 rfl (lv_at hl 0 rfl) ?_
    refine lv_iload_n S.1 S.2.1 dX12_in_6 rfl (lv_at hl 2 rfl) ?_
    refine lv_icmp_gt (tgt := 14) S.1 S.2.1 dX12_in_7 (by decide) (fun c7 => ?_) (fun c7 => ?_)
    · have hw := hw.1 c7
      exact b14 hw ls (lv_sub hl [] rfl)
    · have hw := hw.2 c7
      refine lv_iconst (v := 1) S.1 S.2.1 dX12_in_10 (by decide) ?_
      refine lv_goto (tgt := 15) S.1 S.2.1 dX12_in_11 (by decide) ?_
      exact b15 (1 : Int32) hw ls (lv_sub hl [] rfl)

def wp_X12_valueAt_p39 (t0 : Int32) (u : ST) (Q : Int32 → ST → Prop) : Prop :=
  Q t0 u
def wp_X12_valueAt (a1 : Int32) (a2 : Int32) (u : ST) (Q : Int32 → ST → Prop) : Prop :=
  ((¬ a1 = 0 → ((¬ a1 = (1 : Int32) → ((¬ a1 = (2 : Int32) → wp_X12_valueAt_p39 (gI u 4) u Q) ∧ (a1 = (2 : Int32) → wp_X12_valueAt_p39 (gI u 3) u Q))) ∧ (a1 = (1 : Int32) → wp_X12_valueAt_p39 (gI u 2) u Q))) ∧ (a1 = 0 → wp_X12_valueAt_p39 (gI u 1) u Q))
set_option maxHeartbeats 4000000 in
set_option maxRecDepth 100000 in
theorem c_X12_valueAt (l : Launch) (D : va_G) (h : Nat) (r : Nat → Nat) (cs : Nat → ClassId) (a1 : Int32) (a2 : Int32) (u : ST) (Q : Int32 → ST → Prop) (hw : wp_X12_valueAt a1 a2 u Q) : mCi l yX12_valueAt wsX12_valueAt ({ frames := 0, cells := 0, slots := 0, locals := 0 } : Room) 0 0 D (mT cs) (W12 h r cs) [.ref h, .int a1, .int a2] u Q := by
  unfold mCi
  refine m_enter (QQ := fun A => va_Qi Q (mPos D (mT cs) A (W12 h r cs)) A) (cc := cX12_valueAt) (maxL := 3) (ret := (some .int)) (by decide) rfl (Nat.le_of_ble_eq_true rfl) ?_
  intro p e s m args below meth c A ls S hr hlocks hname hl hI
  have S : CallFix p m c cX12_valueAt 3 s args wsX12_valueAt RX12 := S
  show W p l e ({ frames := 0, cells := 0, slots := 0, locals := 0 } : Room) s m args below meth c s.heap [] 0 0 (MQ below (va_Qi Q (mPos D (mT cs) A (W12 h r cs)) A) args s 0 0 A) (F0 m 0 ls [])
  generalize hZ : MQ below (va_Qi Q (mPos D (mT cs) A (W12 h r cs)) A) args s 0 0 A = Z
  have hin : ∀ w ∈ wsX120, w ∈ wsX12_valueAt := fun _ h => List.mem_cons_of_mem _ (List.mem_append_right _ h)
  have hl : lv_has ls 3 [(0, .ref h), (1, .int a1), (2, .int a2)] := hl
  have b39 : ∀ (t0 : Int32) (u : ST), wp_X12_valueAt_p39 t0 u Q → mGo p l e ({ frames := 0, cells := 0, slots := 0, locals := 0 } : Room) s m args below meth c A Z 3 D (mT cs) (W12 h r cs) 39 [(0, .ref h)] [.int t0] u := by
    intro t0 u hw H locs ls hI hl
    unfold wp_X12_valueAt_p39 at hw
    subst hZ
    exact m_iret S hr hlocks hI hw dX12_valueAt_39
  unfold wp_X12_valueAt at hw
  obtain ⟨H, hH⟩ : ∃ z : Heap, z = s.heap := ⟨_, rfl⟩
  obtain ⟨locs, hL⟩ : ∃ z : List Loc, z = [] := ⟨_, rfl⟩
  rw [show W p l e ({ frames := 0, cells := 0, slots := 0, locals := 0 } : Room) s m args below meth c s.heap [] 0 0 Z (F0 m 0 ls []) = W p l e ({ frames := 0, cells := 0, slots := 0, locals := 0 } : Room) s m args below meth c H locs 0 0 Z (F0 m 0 ls []) by rw [hH, hL]]
  replace hI : mI D (mT cs) A s.heap s (W12 h r cs u) H locs := by rw [hH, hL]; exact hI
  refine lv_iload_n S.1 S.2.1 dX12_valueAt_0 rfl (lv_at hl 1 rfl) ?_
  refine lv_if_ne (tgt := 11) S.1 S.2.1 dX12_valueAt_1 (by decide) (fun c1 => ?_) (fun c1 => ?_)
  · have hw := hw.1 c1
    refine lv_iload_n S.1 S.2.1 dX12_valueAt_11 rfl (lv_at hl 1 rfl) ?_
    refine lv_iconst (v := 1) S.1 S.2.1 dX12_valueAt_12 (by decide) ?_
    refine lv_icmp_ne (tgt := 23) S.1 S.2.1 dX12_valueAt_13 (by decide) (fun c13 => ?_) (fun c13 => ?_)
    · have hw := hw.1 c13
      refine lv_iload_n S.1 S.2.1 dX12_valueAt_23 rfl (lv_at hl 1 rfl) ?_
      refine lv_iconst (v := 2) S.1 S.2.1 dX12_valueAt_24 (by decide) ?_
      refine lv_icmp_ne (tgt := 35) S.1 S.2.1 dX12_valueAt_25 (by decide) (fun c25 => ?_) (fun c25 => ?_)
      · have hw := hw.1 c25
        refine lv_aload_n S.1 S.2.1 dX12_valueAt_35 rfl (lv_at hl 0 rfl) ?_
        refine m_get S hin hI 0 (W12_at0 h r cs u) rfl 4 (Nat.le_of_ble_eq_true rfl) (List.mem_of_getElem? (i := 4) rfl) rfl (Ff12_at4 r u) dX12_valueAt_36 ?_
        exact b39 (gI u 4) u hw H locs ls hI (lv_sub hl [0] rfl)
      · have hw := hw.2 c25
        refine lv_aload_n S.1 S.2.1 dX12_valueAt_28 rfl (lv_at hl 0 rfl) ?_
        refine m_get S hin hI 0 (W12_at0 h r cs u) rfl 3 (Nat.le_of_ble_eq_true rfl) (List.mem_of_getElem? (i := 3) rfl) rfl (Ff12_at3 r u) dX12_valueAt_29 ?_
        refine lv_goto (tgt := 39) S.1 S.2.1 dX12_valueAt_32 (by decide) ?_
        exact b39 (gI u 3) u hw H locs ls hI (lv_sub hl [0] rfl)
    · have hw := hw.2 c13
      refine lv_aload_n S.1 S.2.1 dX12_valueAt_16 rfl (lv_at hl 0 rfl) ?_
      refine m_get S hin hI 0 (W12_at0 h r cs u) rfl 2 (Nat.le_of_ble_eq_true rfl) (List.mem_of_getElem? (i := 2) rfl) rfl (Ff12_at2 r u) dX12_valueAt_17 ?_
      refine lv_goto (tgt := 39) S.1 S.2.1 dX12_valueAt_20 (by decide) ?_
      exact b39 (gI u 2) u hw H locs ls hI (lv_sub hl [0] rfl)
  · have hw := hw.2 c1
    refine lv_aload_n S.1 S.2.1 dX12_valueAt_4 rfl (lv_at hl 0 rfl) ?_
    refine m_get S hin hI 0 (W12_at0 h r cs u) rfl 1 (Nat.le_of_ble_eq_true rfl) (List.mem_of_getElem? (i := 1) rfl) rfl (Ff12_at1 r u) dX12_valueAt_5 ?_
    refine lv_goto (tgt := 39) S.1 S.2.1 dX12_valueAt_8 (by decide) ?_
    exact b39 (gI u 1) u hw H locs ls hI (lv_sub hl [0] rfl)

def wp_X12_lays_p43 (u : ST) (Q : ST → Prop) : Prop :=
  Q u
def wp_X12_lays (a1 : Int32) (a2 : Int32) (a3 : Int32) (u : ST) (Q : ST → Prop) : Prop :=
  ((¬ a1 = 0 → ((¬ a1 = (1 : Int32) → ((¬ a1 = (2 : Int32) → (∀ u40 : ST, u40 = sI u 4 a3 → wp_X12_lays_p43 u40 Q)) ∧ (a1 = (2 : Int32) → (∀ u32 : ST, u32 = sI u 3 a3 → wp_X12_lays_p43 u32 Q)))) ∧ (a1 = (1 : Int32) → (∀ u19 : ST, u19 = sI u 2 a3 → wp_X12_lays_p43 u19 Q)))) ∧ (a1 = 0 → (∀ u6 : ST, u6 = sI u 1 a3 → wp_X12_lays_p43 u6 Q)))
set_option maxHeartbeats 4000000 in
set_option maxRecDepth 100000 in
theorem c_X12_lays (l : Launch) (D : va_G) (h : Nat) (r : Nat → Nat) (cs : Nat → ClassId) (a1 : Int32) (a2 : Int32) (a3 : Int32) (u : ST) (Q : ST → Prop) (hw : wp_X12_lays a1 a2 a3 u Q) : mCv l yX12_lays wsX12_lays ({ frames := 0, cells := 0, slots := 0, locals := 0 } : Room) 0 0 D (mT cs) (W12 h r cs) [.ref h, .int a1, .int a2, .int a3] u Q := by
  unfold mCv
  refine m_enter (QQ := fun A => va_Qv Q (mPos D (mT cs) A (W12 h r cs)) A) (cc := cX12_lays) (maxL := 4) (ret := none) (by decide) rfl (Nat.le_of_ble_eq_true rfl) ?_
  intro p e s m args below meth c A ls S hr hlocks hname hl hI
  have S : CallFix p m c cX12_lays 4 s args wsX12_lays RX12 := S
  show W p l e ({ frames := 0, cells := 0, slots := 0, locals := 0 } : Room) s m args below meth c s.heap [] 0 0 (MQ below (va_Qv Q (mPos D (mT cs) A (W12 h r cs)) A) args s 0 0 A) (F0 m 0 ls [])
  generalize hZ : MQ below (va_Qv Q (mPos D (mT cs) A (W12 h r cs)) A) args s 0 0 A = Z
  have hin : ∀ w ∈ wsX120, w ∈ wsX12_lays := fun _ h => List.mem_cons_of_mem _ (List.mem_append_right _ h)
  have hl : lv_has ls 4 [(0, .ref h), (1, .int a1), (2, .int a2), (3, .int a3)] := hl
  have b43 : ∀ (u : ST), wp_X12_lays_p43 u Q → mGo p l e ({ frames := 0, cells := 0, slots := 0, locals := 0 } : Room) s m args below meth c A Z 4 D (mT cs) (W12 h r cs) 43 [(0, .ref h)] [] u := by
    intro u hw H locs ls hI hl
    unfold wp_X12_lays_p43 at hw
    subst hZ
    exact m_vret S hr hlocks hI hw dX12_lays_43
  unfold wp_X12_lays at hw
  obtain ⟨H, hH⟩ : ∃ z : Heap, z = s.heap := ⟨_, rfl⟩
  obtain ⟨locs, hL⟩ : ∃ z : List Loc, z = [] := ⟨_, rfl⟩
  rw [show W p l e ({ frames := 0, cells := 0, slots := 0, locals := 0 } : Room) s m args below meth c s.heap [] 0 0 Z (F0 m 0 ls []) = W p l e ({ frames := 0, cells := 0, slots := 0, locals := 0 } : Room) s m args below meth c H locs 0 0 Z (F0 m 0 ls []) by rw [hH, hL]]
  replace hI : mI D (mT cs) A s.heap s (W12 h r cs u) H locs := by rw [hH, hL]; exact hI
  refine lv_iload_n S.1 S.2.1 dX12_lays_0 rfl (lv_at hl 1 rfl) ?_
  refine lv_if_ne (tgt := 12) S.1 S.2.1 dX12_lays_1 (by decide) (fun c1 => ?_) (fun c1 => ?_)
  · have hw := hw.1 c1
    refine lv_iload_n S.1 S.2.1 dX12_lays_12 rfl (lv_at hl 1 rfl) ?_
    refine lv_iconst (v := 1) S.1 S.2.1 dX12_lays_13 (by decide) ?_
    refine lv_icmp_ne (tgt := 25) S.1 S.2.1 dX12_lays_14 (by decide) (fun c14 => ?_) (fun c14 => ?_)
    · have hw := hw.1 c14
      refine lv_iload_n S.1 S.2.1 dX12_lays_25 rfl (lv_at hl 1 rfl) ?_
      refine lv_iconst (v := 2) S.1 S.2.1 dX12_lays_26 (by decide) ?_
      refine lv_icmp_ne (tgt := 38) S.1 S.2.1 dX12_lays_27 (by decide) (fun c27 => ?_) (fun c27 => ?_)
      · have hw := hw.1 c27
        refine lv_aload_n S.1 S.2.1 dX12_lays_38 rfl (lv_at hl 0 rfl) ?_
        refine lv_iload_n S.1 S.2.1 dX12_lays_39 rfl (lv_at hl 3 rfl) ?_
        obtain ⟨u40, eu40⟩ : ∃ z : ST, z = sI u 4 a3 := ⟨_, rfl⟩
        have hw := hw u40 eu40
        refine m_put S hin tyX12_ok nmX12 hI 0 (W12_at0 h r cs u) rfl 4 (Nat.le_of_ble_eq_true rfl) (List.mem_of_getElem? (i := 4) rfl) rfl rfl rfl rfl (Nat.le_of_ble_eq_true rfl) (W12_sI4 h r cs u u40 a3 eu40) dX12_lays_40 (fun H locs hI => ?_)
        exact b43 u40 hw H locs ls hI (lv_sub hl [0] rfl)
      · have hw := hw.2 c27
        refine lv_aload_n S.1 S.2.1 dX12_lays_30 rfl (lv_at hl 0 rfl) ?_
        refine lv_iload_n S.1 S.2.1 dX12_lays_31 rfl (lv_at hl 3 rfl) ?_
        obtain ⟨u32, eu32⟩ : ∃ z : ST, z = sI u 3 a3 := ⟨_, rfl⟩
        have hw := hw u32 eu32
        refine m_put S hin tyX12_ok nmX12 hI 0 (W12_at0 h r cs u) rfl 3 (Nat.le_of_ble_eq_true rfl) (List.mem_of_getElem? (i := 3) rfl) rfl rfl rfl rfl (Nat.le_of_ble_eq_true rfl) (W12_sI3 h r cs u u32 a3 eu32) dX12_lays_32 (fun H locs hI => ?_)
        refine lv_goto (tgt := 43) S.1 S.2.1 dX12_lays_35 (by decide) ?_
        exact b43 u32 hw H locs ls hI (lv_sub hl [0] rfl)
    · have hw := hw.2 c14
      refine lv_aload_n S.1 S.2.1 dX12_lays_17 rfl (lv_at hl 0 rfl) ?_
      refine lv_iload_n S.1 S.2.1 dX12_lays_18 rfl (lv_at hl 3 rfl) ?_
      obtain ⟨u19, eu19⟩ : ∃ z : ST, z = sI u 2 a3 := ⟨_, rfl⟩
      have hw := hw u19 eu19
      refine m_put S hin tyX12_ok nmX12 hI 0 (W12_at0 h r cs u) rfl 2 (Nat.le_of_ble_eq_true rfl) (List.mem_of_getElem? (i := 2) rfl) rfl rfl rfl rfl (Nat.le_of_ble_eq_true rfl) (W12_sI2 h r cs u u19 a3 eu19) dX12_lays_19 (fun H locs hI => ?_)
      refine lv_goto (tgt := 43) S.1 S.2.1 dX12_lays_22 (by decide) ?_
      exact b43 u19 hw H locs ls hI (lv_sub hl [0] rfl)
  · have hw := hw.2 c1
    refine lv_aload_n S.1 S.2.1 dX12_lays_4 rfl (lv_at hl 0 rfl) ?_
    refine lv_iload_n S.1 S.2.1 dX12_lays_5 rfl (lv_at hl 3 rfl) ?_
    obtain ⟨u6, eu6⟩ : ∃ z : ST, z = sI u 1 a3 := ⟨_, rfl⟩
    have hw := hw u6 eu6
    refine m_put S hin tyX12_ok nmX12 hI 0 (W12_at0 h r cs u) rfl 1 (Nat.le_of_ble_eq_true rfl) (List.mem_of_getElem? (i := 1) rfl) rfl rfl rfl rfl (Nat.le_of_ble_eq_true rfl) (W12_sI1 h r cs u u6 a3 eu6) dX12_lays_6 (fun H locs hI => ?_)
    refine lv_goto (tgt := 43) S.1 S.2.1 dX12_lays_9 (by decide) ?_
    exact b43 u6 hw H locs ls hI (lv_sub hl [0] rfl)

def wp_X12_changes_p121 (x1 : Int32) (x2 : Int32) (x3 : Int32) (x4 : Int32) (u : ST) (Q : Int32 → ST → Prop) : Prop :=
  (vp_in (gI u 5) 40 ∧ ∀ u130 : ST, u130 = sA u 7 (upd (gA u 7) (gI u 5).toNatClampNeg x1) → (vp_in (gI u130 5) 40 ∧ ∀ u140 : ST, u140 = sA u130 8 (upd (gA u130 8) (gI u130 5).toNatClampNeg x2) → (vp_in (gI u140 5) 40 ∧ ∀ u151 : ST, u151 = sA u140 9 (upd (gA u140 9) (gI u140 5).toNatClampNeg x4) → (vp_in (gI u151 5) 40 ∧ ∀ u161 : ST, u161 = sA u151 10 (upd (gA u151 10) (gI u151 5).toNatClampNeg x3) → (∀ y168 : Int32, y168 = (gI u161 5) + (1 : Int32) → (∀ u169 : ST, u169 = sI u161 5 y168 → (wp_X12_lays x1 x2 x3 u169 (fun u176 => Q x4 u176))))))))
def wp_X12_changes_p34b (x1 : Int32) (x2 : Int32) (x3 : Int32) (x4 : Int32) (x5 : Int32) (u : ST) (B34 : Int32 → Int32 → Int32 → Int32 → Int32 → ST → Prop) (Q : Int32 → ST → Prop) : Prop :=
  (((40 : Int32) ≤ x5 → (∀ y117 : Int32, y117 = (gI u 5) - (1 : Int32) → (∀ u118 : ST, u118 = sI u 5 y117 → wp_X12_changes_p121 x1 x2 x3 x4 u118 Q))) ∧ (¬ (40 : Int32) ≤ x5 → (∀ y48 : Int32, y48 = x5 - (1 : Int32) → (vp_in x5 40 ∧ ∀ y55 : Int32, y55 = gA u 7 x5.toNatClampNeg → (vp_in y48 40 ∧ ∀ u56 : ST, u56 = sA u 7 (upd (gA u 7) y48.toNatClampNeg y55) → (∀ y64 : Int32, y64 = x5 - (1 : Int32) → (vp_in x5 40 ∧ ∀ y71 : Int32, y71 = gA u56 8 x5.toNatClampNeg → (vp_in y64 40 ∧ ∀ u72 : ST, u72 = sA u56 8 (upd (gA u56 8) y64.toNatClampNeg y71) → (∀ y80 : Int32, y80 = x5 - (1 : Int32) → (vp_in x5 40 ∧ ∀ y87 : Int32, y87 = gA u72 9 x5.toNatClampNeg → (vp_in y80 40 ∧ ∀ u88 : ST, u88 = sA u72 9 (upd (gA u72 9) y80.toNatClampNeg y87) → (∀ y96 : Int32, y96 = x5 - (1 : Int32) → (vp_in x5 40 ∧ ∀ y103 : Int32, y103 = gA u88 10 x5.toNatClampNeg → (vp_in y96 40 ∧ ∀ u104 : ST, u104 = sA u88 10 (upd (gA u88 10) y96.toNatClampNeg y103) → (∀ y105 : Int32, y105 = x5 + 1 → B34 x1 x2 x3 x4 y105 u104)))))))))))))))
def wp_X12_changes_p34 (x1 : Int32) (x2 : Int32) (x3 : Int32) (x4 : Int32) (x5 : Int32) (u : ST) (Q : Int32 → ST → Prop) : Prop := ∃ (I : Int32 → Int32 → Int32 → Int32 → Int32 → ST → Prop) (μ : Int32 → Int32 → Int32 → Int32 → Int32 → ST → Nat), I x1 x2 x3 x4 x5 u ∧ ∀ (x1 : Int32) (x2 : Int32) (x3 : Int32) (x4 : Int32) (x5 : Int32) (u : ST), I x1 x2 x3 x4 x5 u → wp_X12_changes_p34b x1 x2 x3 x4 x5 u (fun yx1 yx2 yx3 yx4 yx5 yu => I yx1 yx2 yx3 yx4 yx5 yu ∧ μ yx1 yx2 yx3 yx4 yx5 yu < μ x1 x2 x3 x4 x5 u) Q
def wp_X12_changes (a1 : Int32) (a2 : Int32) (a3 : Int32) (u : ST) (Q : Int32 → ST → Prop) : Prop :=
  (wp_X12_valueAt a1 a2 u (fun y3 u3 => ((¬ y3 = a3 → (∀ u19 : ST, u19 = sI u3 6 (0 : Int32) → ((¬ (gI u19 5) = (40 : Int32) → wp_X12_changes_p121 a1 a2 a3 y3 u19 Q) ∧ ((gI u19 5) = (40 : Int32) → wp_X12_changes_p34 a1 a2 a3 y3 (1 : Int32) u19 Q)))) ∧ (y3 = a3 → Q y3 u3))))
set_option maxHeartbeats 4000000 in
set_option maxRecDepth 100000 in
theorem c_X12_changes (l : Launch) (D : va_G) (h : Nat) (r : Nat → Nat) (cs : Nat → ClassId) (a1 : Int32) (a2 : Int32) (a3 : Int32) (u : ST) (Q : Int32 → ST → Prop) (hw : wp_X12_changes a1 a2 a3 u Q) : mCi l yX12_changes wsX12_changes ({ frames := 1, cells := 0, slots := 0, locals := 23 } : Room) 0 0 D (mT cs) (W12 h r cs) [.ref h, .int a1, .int a2, .int a3] u Q := by
  unfold mCi
  refine m_enter (QQ := fun A => va_Qi Q (mPos D (mT cs) A (W12 h r cs)) A) (cc := cX12_changes) (maxL := 6) (ret := (some .int)) (by decide) rfl (Nat.le_of_ble_eq_true rfl) ?_
  intro p e s m args below meth c A ls S hr hlocks hname hl hI
  have S : CallFix p m c cX12_changes 6 s args wsX12_changes RX12 := S
  show W p l e ({ frames := 1, cells := 0, slots := 0, locals := 23 } : Room) s m args below meth c s.heap [] 0 0 (MQ below (va_Qi Q (mPos D (mT cs) A (W12 h r cs)) A) args s 0 0 A) (F0 m 0 ls [])
  generalize hZ : MQ below (va_Qi Q (mPos D (mT cs) A (W12 h r cs)) A) args s 0 0 A = Z
  have hin : ∀ w ∈ wsX120, w ∈ wsX12_changes := fun _ h => List.mem_cons_of_mem _ (List.mem_append_right _ h)
  have hl : lv_has ls 6 [(0, .ref h), (1, .int a1), (2, .int a2), (3, .int a3)] := hl
  have b121 : ∀ (x1 : Int32) (x2 : Int32) (x3 : Int32) (x4 : Int32) (u : ST), wp_X12_changes_p121 x1 x2 x3 x4 u Q → mGo p l e ({ frames := 1, cells := 0, slots := 0, locals := 23 } : Room) s m args below meth c A Z 6 D (mT cs) (W12 h r cs) 121 [(0, .ref h), (1, .int x1), (2, .int x2), (3, .int x3), (4, .int x4)] [] u := by
    intro x1 x2 x3 x4 u hw H locs ls hI hl
    unfold wp_X12_changes_p121 at hw
    refine lv_aload_n S.1 S.2.1 dX12_changes_121 rfl (lv_at hl 0 rfl) ?_
    refine m_get S hin hI 0 (W12_at0 h r cs u) rfl 7 (Nat.le_of_ble_eq_true rfl) (List.mem_of_getElem? (i := 3) rfl) rfl (Ff12_at7 r u) dX12_changes_122 ?_
    refine lv_aload_n S.1 S.2.1 dX12_changes_125 rfl (lv_at hl 0 rfl) ?_
    refine m_get S hin hI 0 (W12_at0 h r cs u) rfl 5 (Nat.le_of_ble_eq_true rfl) (List.mem_of_getElem? (i := 2) rfl) rfl (Ff12_at5 r u) dX12_changes_126 ?_
    refine lv_iload_n S.1 S.2.1 dX12_changes_129 rfl (lv_at hl 1 rfl) ?_
    obtain ⟨u130, eu130⟩ : ∃ z : ST, z = sA u 7 (upd (gA u 7) (gI u 5).toNatClampNeg x1) := ⟨_, rfl⟩
    refine m_iast S hI 1 0 (W12_at1 h r cs u) rfl hw.1 (W12_sA7 h r cs u u130 _ eu130) dX12_changes_130 (fun H locs hI => ?_)
    have hw := hw.2 u130 eu130
    refine lv_aload_n S.1 S.2.1 dX12_changes_131 rfl (lv_at hl 0 rfl) ?_
    refine m_get S hin hI 0 (W12_at0 h r cs u130) rfl 8 (Nat.le_of_ble_eq_true rfl) (List.mem_of_getElem? (i := 4) rfl) rfl (Ff12_at8 r u130) dX12_changes_132 ?_
    refine lv_aload_n S.1 S.2.1 dX12_changes_135 rfl (lv_at hl 0 rfl) ?_
    refine m_get S hin hI 0 (W12_at0 h r cs u130) rfl 5 (Nat.le_of_ble_eq_true rfl) (List.mem_of_getElem? (i := 2) rfl) rfl (Ff12_at5 r u130) dX12_changes_136 ?_
    refine lv_iload_n S.1 S.2.1 dX12_changes_139 rfl (lv_at hl 2 rfl) ?_
    obtain ⟨u140, eu140⟩ : ∃ z : ST, z = sA u130 8 (upd (gA u130 8) (gI u130 5).toNatClampNeg x2) := ⟨_, rfl⟩
    refine m_iast S hI 2 0 (W12_at2 h r cs u130) rfl hw.1 (W12_sA8 h r cs u130 u140 _ eu140) dX12_changes_140 (fun H locs hI => ?_)
    have hw := hw.2 u140 eu140
    refine lv_aload_n S.1 S.2.1 dX12_changes_141 rfl (lv_at hl 0 rfl) ?_
    refine m_get S hin hI 0 (W12_at0 h r cs u140) rfl 9 (Nat.le_of_ble_eq_true rfl) (List.mem_of_getElem? (i := 5) rfl) rfl (Ff12_at9 r u140) dX12_changes_142 ?_
    refine lv_aload_n S.1 S.2.1 dX12_changes_145 rfl (lv_at hl 0 rfl) ?_
    refine m_get S hin hI 0 (W12_at0 h r cs u140) rfl 5 (Nat.le_of_ble_eq_true rfl) (List.mem_of_getElem? (i := 2) rfl) rfl (Ff12_at5 r u140) dX12_changes_146 ?_
    refine lv_iload S.1 S.2.1 dX12_changes_149 (lv_at hl 4 rfl) ?_
    obtain ⟨u151, eu151⟩ : ∃ z : ST, z = sA u140 9 (upd (gA u140 9) (gI u140 5).toNatClampNeg x4) := ⟨_, rfl⟩
    refine m_iast S hI 3 0 (W12_at3 h r cs u140) rfl hw.1 (W12_sA9 h r cs u140 u151 _ eu151) dX12_changes_151 (fun H locs hI => ?_)
    have hw := hw.2 u151 eu151
    refine lv_aload_n S.1 S.2.1 dX12_changes_152 rfl (lv_at hl 0 rfl) ?_
    refine m_get S hin hI 0 (W12_at0 h r cs u151) rfl 10 (Nat.le_of_ble_eq_true rfl) (List.mem_of_getElem? (i := 6) rfl) rfl (Ff12_at10 r u151) dX12_changes_153 ?_
    refine lv_aload_n S.1 S.2.1 dX12_changes_156 rfl (lv_at hl 0 rfl) ?_
    refine m_get S hin hI 0 (W12_at0 h r cs u151) rfl 5 (Nat.le_of_ble_eq_true rfl) (List.mem_of_getElem? (i := 2) rfl) rfl (Ff12_at5 r u151) dX12_changes_157 ?_
    refine lv_iload_n S.1 S.2.1 dX12_changes_160 rfl (lv_at hl 3 rfl) ?_
    obtain ⟨u161, eu161⟩ : ∃ z : ST, z = sA u151 10 (upd (gA u151 10) (gI u151 5).toNatClampNeg x3) := ⟨_, rfl⟩
    refine m_iast S hI 4 0 (W12_at4 h r cs u151) rfl hw.1 (W12_sA10 h r cs u151 u161 _ eu161) dX12_changes_161 (fun H locs hI => ?_)
    have hw := hw.2 u161 eu161
    refine lv_aload_n S.1 S.2.1 dX12_changes_162 rfl (lv_at hl 0 rfl) ?_
    refine lv_dup S.1 S.2.1 dX12_changes_163 rfl ?_
    refine m_get S hin hI 0 (W12_at0 h r cs u161) rfl 5 (Nat.le_of_ble_eq_true rfl) (List.mem_of_getElem? (i := 2) rfl) rfl (Ff12_at5 r u161) dX12_changes_164 ?_
    refine lv_iconst (v := 1) S.1 S.2.1 dX12_changes_167 (by decide) ?_
    refine lv_iadd S.1 S.2.1 dX12_changes_168 ?_
    refine lv_topi (fun y168 ey168 => ?_)
    have hw := hw y168 ey168
    obtain ⟨u169, eu169⟩ : ∃ z : ST, z = sI u161 5 y168 := ⟨_, rfl⟩
    have hw := hw u169 eu169
    refine m_put S hin tyX12_ok nmX12 hI 0 (W12_at0 h r cs u161) rfl 5 (Nat.le_of_ble_eq_true rfl) (List.mem_of_getElem? (i := 2) rfl) rfl rfl rfl rfl (Nat.le_of_ble_eq_true rfl) (W12_sI5 h r cs u161 u169 y168 eu169) dX12_changes_169 (fun H locs hI => ?_)
    refine lv_aload_n S.1 S.2.1 dX12_changes_172 rfl (lv_at hl 0 rfl) ?_
    refine lv_iload_n S.1 S.2.1 dX12_changes_173 rfl (lv_at hl 1 rfl) ?_
    refine lv_iload_n S.1 S.2.1 dX12_changes_174 rfl (lv_at hl 2 rfl) ?_
    refine lv_iload_n S.1 S.2.1 dX12_changes_175 rfl (lv_at hl 3 rfl) ?_
    refine m_vv (As := [.int x1, .int x2, .int x3]) (rest := []) S (W12_self h r cs) hI rfl (c_X12_lays l D h r cs x1 x2 x3 u169 _ hw) (cwV 3 S.2.2.2.2 gX12_changes_X12_lays rfl rfl rfl (by decide +kernel) ⟨Nat.le_of_ble_eq_true rfl, Nat.le_of_ble_eq_true rfl⟩) (W12_at0 h r cs u169) rfl rfl hl.1 rfl (Nat.le_of_ble_eq_true rfl) dX12_changes_176 ⟨Nat.zero_le _, Nat.zero_le _⟩ (fun u176 H locs hw hI => ?_)
    refine lv_iload S.1 S.2.1 dX12_changes_179 (lv_at hl 4 rfl) ?_
    subst hZ
    exact m_iret S hr hlocks hI hw dX12_changes_181
  have b34b : ∀ (B34 : Int32 → Int32 → Int32 → Int32 → Int32 → ST → Prop), (∀ (x1 : Int32) (x2 : Int32) (x3 : Int32) (x4 : Int32) (x5 : Int32) (u : ST), B34 x1 x2 x3 x4 x5 u → mGo p l e ({ frames := 1, cells := 0, slots := 0, locals := 23 } : Room) s m args below meth c A Z 6 D (mT cs) (W12 h r cs) 34 [(0, .ref h), (1, .int x1), (2, .int x2), (3, .int x3), (4, .int x4), (5, .int x5)] [] u) → ∀ (x1 : Int32) (x2 : Int32) (x3 : Int32) (x4 : Int32) (x5 : Int32) (u : ST), wp_X12_changes_p34b x1 x2 x3 x4 x5 u B34 Q → mGo p l e ({ frames := 1, cells := 0, slots := 0, locals := 23 } : Room) s m args below meth c A Z 6 D (mT cs) (W12 h r cs) 34 [(0, .ref h), (1, .int x1), (2, .int x2), (3, .int x3), (4, .int x4), (5, .int x5)] [] u := by
    intro B34 hB34 x1 x2 x3 x4 x5 u hw H locs ls hI hl
    unfold wp_X12_changes_p34b at hw
    refine lv_iload S.1 S.2.1 dX12_changes_34 (lv_at hl 5 rfl) ?_
    refine lv_bipush (v := 40) S.1 S.2.1 dX12_changes_36 (by decide) ?_
    refine lv_icmp_ge (tgt := 111) S.1 S.2.1 dX12_changes_38 (by decide) (fun c38 => ?_) (fun c38 => ?_)
    · have hw := hw.1 c38
      refine lv_aload_n S.1 S.2.1 dX12_changes_111 rfl (lv_at hl 0 rfl) ?_
      refine lv_dup S.1 S.2.1 dX12_changes_112 rfl ?_
      refine m_get S hin hI 0 (W12_at0 h r cs u) rfl 5 (Nat.le_of_ble_eq_true rfl) (List.mem_of_getElem? (i := 2) rfl) rfl (Ff12_at5 r u) dX12_changes_113 ?_
      refine lv_iconst (v := 1) S.1 S.2.1 dX12_changes_116 (by decide) ?_
      refine lv_isub S.1 S.2.1 dX12_changes_117 ?_
      refine lv_topi (fun y117 ey117 => ?_)
      have hw := hw y117 ey117
      obtain ⟨u118, eu118⟩ : ∃ z : ST, z = sI u 5 y117 := ⟨_, rfl⟩
      have hw := hw u118 eu118
      refine m_put S hin tyX12_ok nmX12 hI 0 (W12_at0 h r cs u) rfl 5 (Nat.le_of_ble_eq_true rfl) (List.mem_of_getElem? (i := 2) rfl) rfl rfl rfl rfl (Nat.le_of_ble_eq_true rfl) (W12_sI5 h r cs u u118 y117 eu118) dX12_changes_118 (fun H locs hI => ?_)
      exact b121 x1 x2 x3 x4 u118 hw H locs ls hI (lv_sub hl [0, 1, 2, 3, 4] rfl)
    · have hw := hw.2 c38
      refine lv_aload_n S.1 S.2.1 dX12_changes_41 rfl (lv_at hl 0 rfl) ?_
      refine m_get S hin hI 0 (W12_at0 h r cs u) rfl 7 (Nat.le_of_ble_eq_true rfl) (List.mem_of_getElem? (i := 3) rfl) rfl (Ff12_at7 r u) dX12_changes_42 ?_
      refine lv_iload S.1 S.2.1 dX12_changes_45 (lv_at hl 5 rfl) ?_
      refine lv_iconst (v := 1) S.1 S.2.1 dX12_changes_47 (by decide) ?_
      refine lv_isub S.1 S.2.1 dX12_changes_48 ?_
      refine lv_topi (fun y48 ey48 => ?_)
      have hw := hw y48 ey48
      refine lv_aload_n S.1 S.2.1 dX12_changes_49 rfl (lv_at hl 0 rfl) ?_
      refine m_get S hin hI 0 (W12_at0 h r cs u) rfl 7 (Nat.le_of_ble_eq_true rfl) (List.mem_of_getElem? (i := 3) rfl) rfl (Ff12_at7 r u) dX12_changes_50 ?_
      refine lv_iload S.1 S.2.1 dX12_changes_53 (lv_at hl 5 rfl) ?_
      refine m_iald S hI 1 0 (W12_at1 h r cs u) rfl hw.1 dX12_changes_55 ?_
      refine lv_topi (fun y55 ey55 => ?_)
      have hw := hw.2 y55 ey55
      obtain ⟨u56, eu56⟩ : ∃ z : ST, z = sA u 7 (upd (gA u 7) y48.toNatClampNeg y55) := ⟨_, rfl⟩
      refine m_iast S hI 1 0 (W12_at1 h r cs u) rfl hw.1 (W12_sA7 h r cs u u56 _ eu56) dX12_changes_56 (fun H locs hI => ?_)
      have hw := hw.2 u56 eu56
      refine lv_aload_n S.1 S.2.1 dX12_changes_57 rfl (lv_at hl 0 rfl) ?_
      refine m_get S hin hI 0 (W12_at0 h r cs u56) rfl 8 (Nat.le_of_ble_eq_true rfl) (List.mem_of_getElem? (i := 4) rfl) rfl (Ff12_at8 r u56) dX12_changes_58 ?_
      refine lv_iload S.1 S.2.1 dX12_changes_61 (lv_at hl 5 rfl) ?_
      refine lv_iconst (v := 1) S.1 S.2.1 dX12_changes_63 (by decide) ?_
      refine lv_isub S.1 S.2.1 dX12_changes_64 ?_
      refine lv_topi (fun y64 ey64 => ?_)
      have hw := hw y64 ey64
      refine lv_aload_n S.1 S.2.1 dX12_changes_65 rfl (lv_at hl 0 rfl) ?_
      refine m_get S hin hI 0 (W12_at0 h r cs u56) rfl 8 (Nat.le_of_ble_eq_true rfl) (List.mem_of_getElem? (i := 4) rfl) rfl (Ff12_at8 r u56) dX12_changes_66 ?_
      refine lv_iload S.1 S.2.1 dX12_changes_69 (lv_at hl 5 rfl) ?_
      refine m_iald S hI 2 0 (W12_at2 h r cs u56) rfl hw.1 dX12_changes_71 ?_
      refine lv_topi (fun y71 ey71 => ?_)
      have hw := hw.2 y71 ey71
      obtain ⟨u72, eu72⟩ : ∃ z : ST, z = sA u56 8 (upd (gA u56 8) y64.toNatClampNeg y71) := ⟨_, rfl⟩
      refine m_iast S hI 2 0 (W12_at2 h r cs u56) rfl hw.1 (W12_sA8 h r cs u56 u72 _ eu72) dX12_changes_72 (fun H locs hI => ?_)
      have hw := hw.2 u72 eu72
      refine lv_aload_n S.1 S.2.1 dX12_changes_73 rfl (lv_at hl 0 rfl) ?_
      refine m_get S hin hI 0 (W12_at0 h r cs u72) rfl 9 (Nat.le_of_ble_eq_true rfl) (List.mem_of_getElem? (i := 5) rfl) rfl (Ff12_at9 r u72) dX12_changes_74 ?_
      refine lv_iload S.1 S.2.1 dX12_changes_77 (lv_at hl 5 rfl) ?_
      refine lv_iconst (v := 1) S.1 S.2.1 dX12_changes_79 (by decide) ?_
      refine lv_isub S.1 S.2.1 dX12_changes_80 ?_
      refine lv_topi (fun y80 ey80 => ?_)
      have hw := hw y80 ey80
      refine lv_aload_n S.1 S.2.1 dX12_changes_81 rfl (lv_at hl 0 rfl) ?_
      refine m_get S hin hI 0 (W12_at0 h r cs u72) rfl 9 (Nat.le_of_ble_eq_true rfl) (List.mem_of_getElem? (i := 5) rfl) rfl (Ff12_at9 r u72) dX12_changes_82 ?_
      refine lv_iload S.1 S.2.1 dX12_changes_85 (lv_at hl 5 rfl) ?_
      refine m_iald S hI 3 0 (W12_at3 h r cs u72) rfl hw.1 dX12_changes_87 ?_
      refine lv_topi (fun y87 ey87 => ?_)
      have hw := hw.2 y87 ey87
      obtain ⟨u88, eu88⟩ : ∃ z : ST, z = sA u72 9 (upd (gA u72 9) y80.toNatClampNeg y87) := ⟨_, rfl⟩
      refine m_iast S hI 3 0 (W12_at3 h r cs u72) rfl hw.1 (W12_sA9 h r cs u72 u88 _ eu88) dX12_changes_88 (fun H locs hI => ?_)
      have hw := hw.2 u88 eu88
      refine lv_aload_n S.1 S.2.1 dX12_changes_89 rfl (lv_at hl 0 rfl) ?_
      refine m_get S hin hI 0 (W12_at0 h r cs u88) rfl 10 (Nat.le_of_ble_eq_true rfl) (List.mem_of_getElem? (i := 6) rfl) rfl (Ff12_at10 r u88) dX12_changes_90 ?_
      refine lv_iload S.1 S.2.1 dX12_changes_93 (lv_at hl 5 rfl) ?_
      refine lv_iconst (v := 1) S.1 S.2.1 dX12_changes_95 (by decide) ?_
      refine lv_isub S.1 S.2.1 dX12_changes_96 ?_
      refine lv_topi (fun y96 ey96 => ?_)
      have hw := hw y96 ey96
      refine lv_aload_n S.1 S.2.1 dX12_changes_97 rfl (lv_at hl 0 rfl) ?_
      refine m_get S hin hI 0 (W12_at0 h r cs u88) rfl 10 (Nat.le_of_ble_eq_true rfl) (List.mem_of_getElem? (i := 6) rfl) rfl (Ff12_at10 r u88) dX12_changes_98 ?_
      refine lv_iload S.1 S.2.1 dX12_changes_101 (lv_at hl 5 rfl) ?_
      refine m_iald S hI 4 0 (W12_at4 h r cs u88) rfl hw.1 dX12_changes_103 ?_
      refine lv_topi (fun y103 ey103 => ?_)
      have hw := hw.2 y103 ey103
      obtain ⟨u104, eu104⟩ : ∃ z : ST, z = sA u88 10 (upd (gA u88 10) y96.toNatClampNeg y103) := ⟨_, rfl⟩
      refine m_iast S hI 4 0 (W12_at4 h r cs u88) rfl hw.1 (W12_sA10 h r cs u88 u104 _ eu104) dX12_changes_104 (fun H locs hI => ?_)
      have hw := hw.2 u104 eu104
      obtain ⟨y105, ey105⟩ : ∃ z : Int32, z = x5 + 1 := ⟨_, rfl⟩
      have hw := hw y105 ey105
      refine lv_iinc (v := y105) (lv' := [(5, .int y105), (0, .ref h), (1, .int x1), (2, .int x2), (3, .int x3), (4, .int x4)]) S.1 S.2.1 dX12_changes_105 hl (k := 5) rfl (by rw [ey105]; rfl) (by decide) rfl (fun ls hl => ?_)
      refine lv_goto (tgt := 34) S.1 S.2.1 dX12_changes_108 (by decide) ?_
      exact hB34 x1 x2 x3 x4 y105 u104 hw H locs ls hI (lv_sub hl [1, 2, 3, 4, 5, 0] rfl)
  have b34 : ∀ (x1 : Int32) (x2 : Int32) (x3 : Int32) (x4 : Int32) (x5 : Int32) (u : ST), wp_X12_changes_p34 x1 x2 x3 x4 x5 u Q → mGo p l e ({ frames := 1, cells := 0, slots := 0, locals := 23 } : Room) s m args below meth c A Z 6 D (mT cs) (W12 h r cs) 34 [(0, .ref h), (1, .int x1), (2, .int x2), (3, .int x3), (4, .int x4), (5, .int x5)] [] u := by
    intro x1 x2 x3 x4 x5 u hw
    obtain ⟨I, μ, h0, hs⟩ := hw
    have key : ∀ (n : Nat) (x1 : Int32) (x2 : Int32) (x3 : Int32) (x4 : Int32) (x5 : Int32) (u : ST), μ x1 x2 x3 x4 x5 u = n → I x1 x2 x3 x4 x5 u → mGo p l e ({ frames := 1, cells := 0, slots := 0, locals := 23 } : Room) s m args below meth c A Z 6 D (mT cs) (W12 h r cs) 34 [(0, .ref h), (1, .int x1), (2, .int x2), (3, .int x3), (4, .int x4), (5, .int x5)] [] u := by
      intro n
      induction n using Nat.strongRecOn with
      | ind n ih =>
        intro x1 x2 x3 x4 x5 u hn hi
        exact b34b (fun yx1 yx2 yx3 yx4 yx5 yu => I yx1 yx2 yx3 yx4 yx5 yu ∧ μ yx1 yx2 yx3 yx4 yx5 yu < μ x1 x2 x3 x4 x5 u) (fun yx1 yx2 yx3 yx4 yx5 yu hb => ih _ (hn ▸ hb.2) yx1 yx2 yx3 yx4 yx5 yu rfl hb.1) x1 x2 x3 x4 x5 u (hs x1 x2 x3 x4 x5 u hi)
    exact key _ x1 x2 x3 x4 x5 u rfl h0
  unfold wp_X12_changes at hw
  obtain ⟨H, hH⟩ : ∃ z : Heap, z = s.heap := ⟨_, rfl⟩
  obtain ⟨locs, hL⟩ : ∃ z : List Loc, z = [] := ⟨_, rfl⟩
  rw [show W p l e ({ frames := 1, cells := 0, slots := 0, locals := 23 } : Room) s m args below meth c s.heap [] 0 0 Z (F0 m 0 ls []) = W p l e ({ frames := 1, cells := 0, slots := 0, locals := 23 } : Room) s m args below meth c H locs 0 0 Z (F0 m 0 ls []) by rw [hH, hL]]
  replace hI : mI D (mT cs) A s.heap s (W12 h r cs u) H locs := by rw [hH, hL]; exact hI
  refine lv_aload_n S.1 S.2.1 dX12_changes_0 rfl (lv_at hl 0 rfl) ?_
  refine lv_iload_n S.1 S.2.1 dX12_changes_1 rfl (lv_at hl 1 rfl) ?_
  refine lv_iload_n S.1 S.2.1 dX12_changes_2 rfl (lv_at hl 2 rfl) ?_
  refine m_vi (As := [.int a1, .int a2]) (rest := []) S (W12_self h r cs) hI rfl (c_X12_valueAt l D h r cs a1 a2 u _ hw) (cwV 2 S.2.2.2.2 gX12_changes_X12_valueAt rfl rfl rfl (by decide +kernel) ⟨Nat.le_of_ble_eq_true rfl, Nat.le_of_ble_eq_true rfl⟩) (W12_at0 h r cs u) rfl rfl hl.1 rfl (Nat.le_of_ble_eq_true rfl) dX12_changes_3 ⟨Nat.zero_le _, Nat.zero_le _⟩ (fun y3 u3 H locs hw hI => ?_)
  refine lv_istore (lv' := [(4, .int y3), (0, .ref h), (1, .int a1), (2, .int a2), (3, .int a3)]) S.1 S.2.1 dX12_changes_6 hl (by decide) rfl (fun ls hl => ?_)
  refine lv_iload S.1 S.2.1 dX12_changes_8 (lv_at hl 0 rfl) ?_
  refine lv_iload_n S.1 S.2.1 dX12_changes_10 rfl (lv_at hl 4 rfl) ?_
  refine lv_icmp_ne (tgt := 17) S.1 S.2.1 dX12_changes_11 (by decide) (fun c11 => ?_) (fun c11 => ?_)
  · have hw := hw.1 c11
    refine lv_aload_n S.1 S.2.1 dX12_changes_17 rfl (lv_at hl 1 rfl) ?_
    refine lv_iconst (v := 0) S.1 S.2.1 dX12_changes_18 (by decide) ?_
    obtain ⟨u19, eu19⟩ : ∃ z : ST, z = sI u3 6 (0 : Int32) := ⟨_, rfl⟩
    have hw := hw u19 eu19
    refine m_put S hin tyX12_ok nmX12 hI 0 (W12_at0 h r cs u3) rfl 6 (Nat.le_of_ble_eq_true rfl) (List.mem_of_getElem? (i := 1) rfl) rfl rfl rfl rfl (Nat.le_of_ble_eq_true rfl) (W12_sI6 h r cs u3 u19 (0 : Int32) eu19) dX12_changes_19 (fun H locs hI => ?_)
    refine lv_aload_n S.1 S.2.1 dX12_changes_22 rfl (lv_at hl 1 rfl) ?_
    refine m_get S hin hI 0 (W12_at0 h r cs u19) rfl 5 (Nat.le_of_ble_eq_true rfl) (List.mem_of_getElem? (i := 2) rfl) rfl (Ff12_at5 r u19) dX12_changes_23 ?_
    refine lv_bipush (v := 40) S.1 S.2.1 dX12_changes_26 (by decide) ?_
    refine lv_icmp_ne (tgt := 121) S.1 S.2.1 dX12_changes_28 (by decide) (fun c28 => ?_) (fun c28 => ?_)
    · have hw := hw.1 c28
      exact b121 a1 a2 a3 y3 u19 hw H locs ls hI (lv_sub hl [1, 2, 3, 4, 0] rfl)
    · have hw := hw.2 c28
      refine lv_iconst (v := 1) S.1 S.2.1 dX12_changes_31 (by decide) ?_
      refine lv_istore (lv' := [(5, .int (1 : Int32)), (4, .int y3), (0, .ref h), (1, .int a1), (2, .int a2), (3, .int a3)]) S.1 S.2.1 dX12_changes_32 hl (by decide) rfl (fun ls hl => ?_)
      exact b34 a1 a2 a3 y3 (1 : Int32) u19 hw H locs ls hI (lv_sub hl [2, 3, 4, 5, 1, 0] rfl)
  · have hw := hw.2 c11
    refine lv_iload S.1 S.2.1 dX12_changes_14 (lv_at hl 0 rfl) ?_
    subst hZ
    exact m_iret S hr hlocks hI hw dX12_changes_16

def wp_X12_undo (u : ST) (Q : Int32 → ST → Prop) : Prop :=
  ((¬ (gI u 5) = 0 → (∀ y16 : Int32, y16 = (gI u 5) - (1 : Int32) → (∀ u17 : ST, u17 = sI u 5 y16 → (∀ y26 : Int32, y26 = (gI u17 6) + (1 : Int32) → (∀ u27 : ST, u27 = sI u17 6 y26 → (vp_in (gI u27 5) 40 ∧ ∀ y39 : Int32, y39 = gA u27 7 (gI u27 5).toNatClampNeg → (vp_in (gI u27 5) 40 ∧ ∀ y48 : Int32, y48 = gA u27 8 (gI u27 5).toNatClampNeg → (vp_in (gI u27 5) 40 ∧ ∀ y57 : Int32, y57 = gA u27 9 (gI u27 5).toNatClampNeg → (wp_X12_lays y39 y48 y57 u27 (fun u58 => Q (gI u58 5) u58)))))))))) ∧ ((gI u 5) = 0 → Q ((-5) : Int32) u))
set_option maxHeartbeats 4000000 in
set_option maxRecDepth 100000 in
theorem c_X12_undo (l : Launch) (D : va_G) (h : Nat) (r : Nat → Nat) (cs : Nat → ClassId) (u : ST) (Q : Int32 → ST → Prop) (hw : wp_X12_undo u Q) : mCi l yX12_undo wsX12_undo ({ frames := 1, cells := 0, slots := 0, locals := 23 } : Room) 0 0 D (mT cs) (W12 h r cs) [.ref h] u Q := by
  unfold mCi
  refine m_enter (QQ := fun A => va_Qi Q (mPos D (mT cs) A (W12 h r cs)) A) (cc := cX12_undo) (maxL := 1) (ret := (some .int)) (by decide) rfl (Nat.le_of_ble_eq_true rfl) ?_
  intro p e s m args below meth c A ls S hr hlocks hname hl hI
  have S : CallFix p m c cX12_undo 1 s args wsX12_undo RX12 := S
  show W p l e ({ frames := 1, cells := 0, slots := 0, locals := 23 } : Room) s m args below meth c s.heap [] 0 0 (MQ below (va_Qi Q (mPos D (mT cs) A (W12 h r cs)) A) args s 0 0 A) (F0 m 0 ls [])
  generalize hZ : MQ below (va_Qi Q (mPos D (mT cs) A (W12 h r cs)) A) args s 0 0 A = Z
  have hin : ∀ w ∈ wsX120, w ∈ wsX12_undo := fun _ h => List.mem_cons_of_mem _ (List.mem_append_right _ h)
  have hl : lv_has ls 1 [(0, .ref h)] := hl
  unfold wp_X12_undo at hw
  obtain ⟨H, hH⟩ : ∃ z : Heap, z = s.heap := ⟨_, rfl⟩
  obtain ⟨locs, hL⟩ : ∃ z : List Loc, z = [] := ⟨_, rfl⟩
  rw [show W p l e ({ frames := 1, cells := 0, slots := 0, locals := 23 } : Room) s m args below meth c s.heap [] 0 0 Z (F0 m 0 ls []) = W p l e ({ frames := 1, cells := 0, slots := 0, locals := 23 } : Room) s m args below meth c H locs 0 0 Z (F0 m 0 ls []) by rw [hH, hL]]
  replace hI : mI D (mT cs) A s.heap s (W12 h r cs u) H locs := by rw [hH, hL]; exact hI
  refine lv_aload_n S.1 S.2.1 dX12_undo_0 rfl (lv_at hl 0 rfl) ?_
  refine m_get S hin hI 0 (W12_at0 h r cs u) rfl 5 (Nat.le_of_ble_eq_true rfl) (List.mem_of_getElem? (i := 1) rfl) rfl (Ff12_at5 r u) dX12_undo_1 ?_
  refine lv_if_ne (tgt := 10) S.1 S.2.1 dX12_undo_4 (by decide) (fun c4 => ?_) (fun c4 => ?_)
  · have hw := hw.1 c4
    refine lv_aload_n S.1 S.2.1 dX12_undo_10 rfl (lv_at hl 0 rfl) ?_
    refine lv_dup S.1 S.2.1 dX12_undo_11 rfl ?_
    refine m_get S hin hI 0 (W12_at0 h r cs u) rfl 5 (Nat.le_of_ble_eq_true rfl) (List.mem_of_getElem? (i := 1) rfl) rfl (Ff12_at5 r u) dX12_undo_12 ?_
    refine lv_iconst (v := 1) S.1 S.2.1 dX12_undo_15 (by decide) ?_
    refine lv_isub S.1 S.2.1 dX12_undo_16 ?_
    refine lv_topi (fun y16 ey16 => ?_)
    have hw := hw y16 ey16
    obtain ⟨u17, eu17⟩ : ∃ z : ST, z = sI u 5 y16 := ⟨_, rfl⟩
    have hw := hw u17 eu17
    refine m_put S hin tyX12_ok nmX12 hI 0 (W12_at0 h r cs u) rfl 5 (Nat.le_of_ble_eq_true rfl) (List.mem_of_getElem? (i := 1) rfl) rfl rfl rfl rfl (Nat.le_of_ble_eq_true rfl) (W12_sI5 h r cs u u17 y16 eu17) dX12_undo_17 (fun H locs hI => ?_)
    refine lv_aload_n S.1 S.2.1 dX12_undo_20 rfl (lv_at hl 0 rfl) ?_
    refine lv_dup S.1 S.2.1 dX12_undo_21 rfl ?_
    refine m_get S hin hI 0 (W12_at0 h r cs u17) rfl 6 (Nat.le_of_ble_eq_true rfl) (List.mem_of_getElem? (i := 2) rfl) rfl (Ff12_at6 r u17) dX12_undo_22 ?_
    refine lv_iconst (v := 1) S.1 S.2.1 dX12_undo_25 (by decide) ?_
    refine lv_iadd S.1 S.2.1 dX12_undo_26 ?_
    refine lv_topi (fun y26 ey26 => ?_)
    have hw := hw y26 ey26
    obtain ⟨u27, eu27⟩ : ∃ z : ST, z = sI u17 6 y26 := ⟨_, rfl⟩
    have hw := hw u27 eu27
    refine m_put S hin tyX12_ok nmX12 hI 0 (W12_at0 h r cs u17) rfl 6 (Nat.le_of_ble_eq_true rfl) (List.mem_of_getElem? (i := 2) rfl) rfl rfl rfl rfl (Nat.le_of_ble_eq_true rfl) (W12_sI6 h r cs u17 u27 y26 eu27) dX12_undo_27 (fun H locs hI => ?_)
    refine lv_aload_n S.1 S.2.1 dX12_undo_30 rfl (lv_at hl 0 rfl) ?_
    refine lv_aload_n S.1 S.2.1 dX12_undo_31 rfl (lv_at hl 0 rfl) ?_
    refine m_get S hin hI 0 (W12_at0 h r cs u27) rfl 7 (Nat.le_of_ble_eq_true rfl) (List.mem_of_getElem? (i := 3) rfl) rfl (Ff12_at7 r u27) dX12_undo_32 ?_
    refine lv_aload_n S.1 S.2.1 dX12_undo_35 rfl (lv_at hl 0 rfl) ?_
    refine m_get S hin hI 0 (W12_at0 h r cs u27) rfl 5 (Nat.le_of_ble_eq_true rfl) (List.mem_of_getElem? (i := 1) rfl) rfl (Ff12_at5 r u27) dX12_undo_36 ?_
    refine m_iald S hI 1 0 (W12_at1 h r cs u27) rfl hw.1 dX12_undo_39 ?_
    refine lv_topi (fun y39 ey39 => ?_)
    have hw := hw.2 y39 ey39
    refine lv_aload_n S.1 S.2.1 dX12_undo_40 rfl (lv_at hl 0 rfl) ?_
    refine m_get S hin hI 0 (W12_at0 h r cs u27) rfl 8 (Nat.le_of_ble_eq_true rfl) (List.mem_of_getElem? (i := 4) rfl) rfl (Ff12_at8 r u27) dX12_undo_41 ?_
    refine lv_aload_n S.1 S.2.1 dX12_undo_44 rfl (lv_at hl 0 rfl) ?_
    refine m_get S hin hI 0 (W12_at0 h r cs u27) rfl 5 (Nat.le_of_ble_eq_true rfl) (List.mem_of_getElem? (i := 1) rfl) rfl (Ff12_at5 r u27) dX12_undo_45 ?_
    refine m_iald S hI 2 0 (W12_at2 h r cs u27) rfl hw.1 dX12_undo_48 ?_
    refine lv_topi (fun y48 ey48 => ?_)
    have hw := hw.2 y48 ey48
    refine lv_aload_n S.1 S.2.1 dX12_undo_49 rfl (lv_at hl 0 rfl) ?_
    refine m_get S hin hI 0 (W12_at0 h r cs u27) rfl 9 (Nat.le_of_ble_eq_true rfl) (List.mem_of_getElem? (i := 5) rfl) rfl (Ff12_at9 r u27) dX12_undo_50 ?_
    refine lv_aload_n S.1 S.2.1 dX12_undo_53 rfl (lv_at hl 0 rfl) ?_
    refine m_get S hin hI 0 (W12_at0 h r cs u27) rfl 5 (Nat.le_of_ble_eq_true rfl) (List.mem_of_getElem? (i := 1) rfl) rfl (Ff12_at5 r u27) dX12_undo_54 ?_
    refine m_iald S hI 3 0 (W12_at3 h r cs u27) rfl hw.1 dX12_undo_57 ?_
    refine lv_topi (fun y57 ey57 => ?_)
    have hw := hw.2 y57 ey57
    refine m_vv (As := [.int y39, .int y48, .int y57]) (rest := []) S (W12_self h r cs) hI rfl (c_X12_lays l D h r cs y39 y48 y57 u27 _ hw) (cwV 3 S.2.2.2.2 gX12_undo_X12_lays rfl rfl rfl (by decide +kernel) ⟨Nat.le_of_ble_eq_true rfl, Nat.le_of_ble_eq_true rfl⟩) (W12_at0 h r cs u27) rfl rfl hl.1 rfl (Nat.le_of_ble_eq_true rfl) dX12_undo_58 ⟨Nat.zero_le _, Nat.zero_le _⟩ (fun u58 H locs hw hI => ?_)
    refine lv_aload_n S.1 S.2.1 dX12_undo_61 rfl (lv_at hl 0 rfl) ?_
    refine m_get S hin hI 0 (W12_at0 h r cs u58) rfl 5 (Nat.le_of_ble_eq_true rfl) (List.mem_of_getElem? (i := 1) rfl) rfl (Ff12_at5 r u58) dX12_undo_62 ?_
    subst hZ
    exact m_iret S hr hlocks hI hw dX12_undo_65
  · have hw := hw.2 c4
    refine lv_bipush (v := (-5)) S.1 S.2.1 dX12_undo_7 (by decide) ?_
    subst hZ
    exact m_iret S hr hlocks hI hw dX12_undo_9

def wp_X12_redo (u : ST) (Q : Int32 → ST → Prop) : Prop :=
  ((¬ (gI u 6) = 0 → (vp_in (gI u 5) 40 ∧ ∀ y19 : Int32, y19 = gA u 7 (gI u 5).toNatClampNeg → (vp_in (gI u 5) 40 ∧ ∀ y28 : Int32, y28 = gA u 8 (gI u 5).toNatClampNeg → (vp_in (gI u 5) 40 ∧ ∀ y37 : Int32, y37 = gA u 10 (gI u 5).toNatClampNeg → (wp_X12_lays y19 y28 y37 u (fun u38 => (∀ y47 : Int32, y47 = (gI u38 5) + (1 : Int32) → (∀ u48 : ST, u48 = sI u38 5 y47 → (∀ y57 : Int32, y57 = (gI u48 6) - (1 : Int32) → (∀ u58 : ST, u58 = sI u48 6 y57 → Q (gI u58 6) u58)))))))))) ∧ ((gI u 6) = 0 → Q ((-5) : Int32) u))
set_option maxHeartbeats 4000000 in
set_option maxRecDepth 100000 in
theorem c_X12_redo (l : Launch) (D : va_G) (h : Nat) (r : Nat → Nat) (cs : Nat → ClassId) (u : ST) (Q : Int32 → ST → Prop) (hw : wp_X12_redo u Q) : mCi l yX12_redo wsX12_redo ({ frames := 1, cells := 0, slots := 0, locals := 23 } : Room) 0 0 D (mT cs) (W12 h r cs) [.ref h] u Q := by
  unfold mCi
  refine m_enter (QQ := fun A => va_Qi Q (mPos D (mT cs) A (W12 h r cs)) A) (cc := cX12_redo) (maxL := 1) (ret := (some .int)) (by decide) rfl (Nat.le_of_ble_eq_true rfl) ?_
  intro p e s m args below meth c A ls S hr hlocks hname hl hI
  have S : CallFix p m c cX12_redo 1 s args wsX12_redo RX12 := S
  show W p l e ({ frames := 1, cells := 0, slots := 0, locals := 23 } : Room) s m args below meth c s.heap [] 0 0 (MQ below (va_Qi Q (mPos D (mT cs) A (W12 h r cs)) A) args s 0 0 A) (F0 m 0 ls [])
  generalize hZ : MQ below (va_Qi Q (mPos D (mT cs) A (W12 h r cs)) A) args s 0 0 A = Z
  have hin : ∀ w ∈ wsX120, w ∈ wsX12_redo := fun _ h => List.mem_cons_of_mem _ (List.mem_append_right _ h)
  have hl : lv_has ls 1 [(0, .ref h)] := hl
  unfold wp_X12_redo at hw
  obtain ⟨H, hH⟩ : ∃ z : Heap, z = s.heap := ⟨_, rfl⟩
  obtain ⟨locs, hL⟩ : ∃ z : List Loc, z = [] := ⟨_, rfl⟩
  rw [show W p l e ({ frames := 1, cells := 0, slots := 0, locals := 23 } : Room) s m args below meth c s.heap [] 0 0 Z (F0 m 0 ls []) = W p l e ({ frames := 1, cells := 0, slots := 0, locals := 23 } : Room) s m args below meth c H locs 0 0 Z (F0 m 0 ls []) by rw [hH, hL]]
  replace hI : mI D (mT cs) A s.heap s (W12 h r cs u) H locs := by rw [hH, hL]; exact hI
  refine lv_aload_n S.1 S.2.1 dX12_redo_0 rfl (lv_at hl 0 rfl) ?_
  refine m_get S hin hI 0 (W12_at0 h r cs u) rfl 6 (Nat.le_of_ble_eq_true rfl) (List.mem_of_getElem? (i := 1) rfl) rfl (Ff12_at6 r u) dX12_redo_1 ?_
  refine lv_if_ne (tgt := 10) S.1 S.2.1 dX12_redo_4 (by decide) (fun c4 => ?_) (fun c4 => ?_)
  · have hw := hw.1 c4
    refine lv_aload_n S.1 S.2.1 dX12_redo_10 rfl (lv_at hl 0 rfl) ?_
    refine lv_aload_n S.1 S.2.1 dX12_redo_11 rfl (lv_at hl 0 rfl) ?_
    refine m_get S hin hI 0 (W12_at0 h r cs u) rfl 7 (Nat.le_of_ble_eq_true rfl) (List.mem_of_getElem? (i := 2) rfl) rfl (Ff12_at7 r u) dX12_redo_12 ?_
    refine lv_aload_n S.1 S.2.1 dX12_redo_15 rfl (lv_at hl 0 rfl) ?_
    refine m_get S hin hI 0 (W12_at0 h r cs u) rfl 5 (Nat.le_of_ble_eq_true rfl) (List.mem_of_getElem? (i := 3) rfl) rfl (Ff12_at5 r u) dX12_redo_16 ?_
    refine m_iald S hI 1 0 (W12_at1 h r cs u) rfl hw.1 dX12_redo_19 ?_
    refine lv_topi (fun y19 ey19 => ?_)
    have hw := hw.2 y19 ey19
    refine lv_aload_n S.1 S.2.1 dX12_redo_20 rfl (lv_at hl 0 rfl) ?_
    refine m_get S hin hI 0 (W12_at0 h r cs u) rfl 8 (Nat.le_of_ble_eq_true rfl) (List.mem_of_getElem? (i := 4) rfl) rfl (Ff12_at8 r u) dX12_redo_21 ?_
    refine lv_aload_n S.1 S.2.1 dX12_redo_24 rfl (lv_at hl 0 rfl) ?_
    refine m_get S hin hI 0 (W12_at0 h r cs u) rfl 5 (Nat.le_of_ble_eq_true rfl) (List.mem_of_getElem? (i := 3) rfl) rfl (Ff12_at5 r u) dX12_redo_25 ?_
    refine m_iald S hI 2 0 (W12_at2 h r cs u) rfl hw.1 dX12_redo_28 ?_
    refine lv_topi (fun y28 ey28 => ?_)
    have hw := hw.2 y28 ey28
    refine lv_aload_n S.1 S.2.1 dX12_redo_29 rfl (lv_at hl 0 rfl) ?_
    refine m_get S hin hI 0 (W12_at0 h r cs u) rfl 10 (Nat.le_of_ble_eq_true rfl) (List.mem_of_getElem? (i := 5) rfl) rfl (Ff12_at10 r u) dX12_redo_30 ?_
    refine lv_aload_n S.1 S.2.1 dX12_redo_33 rfl (lv_at hl 0 rfl) ?_
    refine m_get S hin hI 0 (W12_at0 h r cs u) rfl 5 (Nat.le_of_ble_eq_true rfl) (List.mem_of_getElem? (i := 3) rfl) rfl (Ff12_at5 r u) dX12_redo_34 ?_
    refine m_iald S hI 4 0 (W12_at4 h r cs u) rfl hw.1 dX12_redo_37 ?_
    refine lv_topi (fun y37 ey37 => ?_)
    have hw := hw.2 y37 ey37
    refine m_vv (As := [.int y19, .int y28, .int y37]) (rest := []) S (W12_self h r cs) hI rfl (c_X12_lays l D h r cs y19 y28 y37 u _ hw) (cwV 3 S.2.2.2.2 gX12_redo_X12_lays rfl rfl rfl (by decide +kernel) ⟨Nat.le_of_ble_eq_true rfl, Nat.le_of_ble_eq_true rfl⟩) (W12_at0 h r cs u) rfl rfl hl.1 rfl (Nat.le_of_ble_eq_true rfl) dX12_redo_38 ⟨Nat.zero_le _, Nat.zero_le _⟩ (fun u38 H locs hw hI => ?_)
    refine lv_aload_n S.1 S.2.1 dX12_redo_41 rfl (lv_at hl 0 rfl) ?_
    refine lv_dup S.1 S.2.1 dX12_redo_42 rfl ?_
    refine m_get S hin hI 0 (W12_at0 h r cs u38) rfl 5 (Nat.le_of_ble_eq_true rfl) (List.mem_of_getElem? (i := 3) rfl) rfl (Ff12_at5 r u38) dX12_redo_43 ?_
    refine lv_iconst (v := 1) S.1 S.2.1 dX12_redo_46 (by decide) ?_
    refine lv_iadd S.1 S.2.1 dX12_redo_47 ?_
    refine lv_topi (fun y47 ey47 => ?_)
    have hw := hw y47 ey47
    obtain ⟨u48, eu48⟩ : ∃ z : ST, z = sI u38 5 y47 := ⟨_, rfl⟩
    have hw := hw u48 eu48
    refine m_put S hin tyX12_ok nmX12 hI 0 (W12_at0 h r cs u38) rfl 5 (Nat.le_of_ble_eq_true rfl) (List.mem_of_getElem? (i := 3) rfl) rfl rfl rfl rfl (Nat.le_of_ble_eq_true rfl) (W12_sI5 h r cs u38 u48 y47 eu48) dX12_redo_48 (fun H locs hI => ?_)
    refine lv_aload_n S.1 S.2.1 dX12_redo_51 rfl (lv_at hl 0 rfl) ?_
    refine lv_dup S.1 S.2.1 dX12_redo_52 rfl ?_
    refine m_get S hin hI 0 (W12_at0 h r cs u48) rfl 6 (Nat.le_of_ble_eq_true rfl) (List.mem_of_getElem? (i := 1) rfl) rfl (Ff12_at6 r u48) dX12_redo_53 ?_
    refine lv_iconst (v := 1) S.1 S.2.1 dX12_redo_56 (by decide) ?_
    refine lv_isub S.1 S.2.1 dX12_redo_57 ?_
    refine lv_topi (fun y57 ey57 => ?_)
    have hw := hw y57 ey57
    obtain ⟨u58, eu58⟩ : ∃ z : ST, z = sI u48 6 y57 := ⟨_, rfl⟩
    have hw := hw u58 eu58
    refine m_put S hin tyX12_ok nmX12 hI 0 (W12_at0 h r cs u48) rfl 6 (Nat.le_of_ble_eq_true rfl) (List.mem_of_getElem? (i := 1) rfl) rfl rfl rfl rfl (Nat.le_of_ble_eq_true rfl) (W12_sI6 h r cs u48 u58 y57 eu58) dX12_redo_58 (fun H locs hI => ?_)
    refine lv_aload_n S.1 S.2.1 dX12_redo_61 rfl (lv_at hl 0 rfl) ?_
    refine m_get S hin hI 0 (W12_at0 h r cs u58) rfl 6 (Nat.le_of_ble_eq_true rfl) (List.mem_of_getElem? (i := 1) rfl) rfl (Ff12_at6 r u58) dX12_redo_62 ?_
    subst hZ
    exact m_iret S hr hlocks hI hw dX12_redo_65
  · have hw := hw.2 c4
    refine lv_bipush (v := (-5)) S.1 S.2.1 dX12_redo_7 (by decide) ?_
    subst hZ
    exact m_iret S hr hlocks hI hw dX12_redo_9

def wp_X12_mend_p53 (t0 : Int32) (u : ST) (Q : Int32 → ST → Prop) : Prop :=
  Q t0 u
def wp_X12_mend_p75 (t0 : Int32) (u : ST) (Q : Int32 → ST → Prop) : Prop :=
  Q t0 u
def wp_X12_mend_p97 (t0 : Int32) (u : ST) (Q : Int32 → ST → Prop) : Prop :=
  Q t0 u
def wp_X12_mend_p119 (t0 : Int32) (u : ST) (Q : Int32 → ST → Prop) : Prop :=
  Q t0 u
def wp_X12_mend (a1 : Int32) (a2 : Int32) (u : ST) (Q : Int32 → ST → Prop) : Prop :=
  ((a1 = 0 → (wp_X12_in a2 (1 : Int32) (60 : Int32) (fun y36 => ((y36 = 0 → wp_X12_mend_p53 ((-1) : Int32) u Q) ∧ (¬ y36 = 0 → (wp_X12_changes (0 : Int32) (0 : Int32) a2 u (fun y46 u46 => wp_X12_mend_p53 y46 u46 Q))))))) ∧ (¬ a1 = 0 → ((a1 = 1 → (wp_X12_in a2 (0 : Int32) (6 : Int32) (fun y58 => ((y58 = 0 → wp_X12_mend_p75 ((-1) : Int32) u Q) ∧ (¬ y58 = 0 → (wp_X12_changes (1 : Int32) (0 : Int32) a2 u (fun y68 u68 => wp_X12_mend_p75 y68 u68 Q))))))) ∧ (¬ a1 = 1 → ((a1 = 2 → (wp_X12_in a2 (0 : Int32) (99 : Int32) (fun y80 => ((y80 = 0 → wp_X12_mend_p97 ((-1) : Int32) u Q) ∧ (¬ y80 = 0 → (wp_X12_changes (2 : Int32) (0 : Int32) a2 u (fun y90 u90 => wp_X12_mend_p97 y90 u90 Q))))))) ∧ (¬ a1 = 2 → ((a1 = 3 → (wp_X12_in a2 (0 : Int32) (99 : Int32) (fun y102 => ((y102 = 0 → wp_X12_mend_p119 ((-1) : Int32) u Q) ∧ (¬ y102 = 0 → (wp_X12_changes (3 : Int32) (0 : Int32) a2 u (fun y112 u112 => wp_X12_mend_p119 y112 u112 Q))))))) ∧ (¬ a1 = 3 → Q ((-1) : Int32) u))))))))
set_option maxHeartbeats 4000000 in
set_option maxRecDepth 100000 in
theorem c_X12_mend (l : Launch) (D : va_G) (h : Nat) (r : Nat → Nat) (cs : Nat → ClassId) (a1 : Int32) (a2 : Int32) (u : ST) (Q : Int32 → ST → Prop) (hw : wp_X12_mend a1 a2 u Q) : mCi l yX12_mend wsX12_mend ({ frames := 2, cells := 0, slots := 0, locals := 48 } : Room) 0 0 D (mT cs) (W12 h r cs) [.ref h, .int a1, .int a2] u Q := by
  unfold mCi
  refine m_enter (QQ := fun A => va_Qi Q (mPos D (mT cs) A (W12 h r cs)) A) (cc := cX12_mend) (maxL := 3) (ret := (some .int)) (by decide) rfl (Nat.le_of_ble_eq_true rfl) ?_
  intro p e s m args below meth c A ls S hr hlocks hname hl hI
  have S : CallFix p m c cX12_mend 3 s args wsX12_mend RX12 := S
  show W p l e ({ frames := 2, cells := 0, slots := 0, locals := 48 } : Room) s m args below meth c s.heap [] 0 0 (MQ below (va_Qi Q (mPos D (mT cs) A (W12 h r cs)) A) args s 0 0 A) (F0 m 0 ls [])
  generalize hZ : MQ below (va_Qi Q (mPos D (mT cs) A (W12 h r cs)) A) args s 0 0 A = Z
  have hin : ∀ w ∈ wsX120, w ∈ wsX12_mend := fun _ h => List.mem_cons_of_mem _ (List.mem_append_right _ h)
  have hl : lv_has ls 3 [(0, .ref h), (1, .int a1), (2, .int a2)] := hl
  have b53 : ∀ (t0 : Int32) (u : ST), wp_X12_mend_p53 t0 u Q → mGo p l e ({ frames := 2, cells := 0, slots := 0, locals := 48 } : Room) s m args below meth c A Z 3 D (mT cs) (W12 h r cs) 53 [(0, .ref h)] [.int t0] u := by
    intro t0 u hw H locs ls hI hl
    unfold wp_X12_mend_p53 at hw
    subst hZ
    exact m_iret S hr hlocks hI hw dX12_mend_53
  have b75 : ∀ (t0 : Int32) (u : ST), wp_X12_mend_p75 t0 u Q → mGo p l e ({ frames := 2, cells := 0, slots := 0, locals := 48 } : Room) s m args below meth c A Z 3 D (mT cs) (W12 h r cs) 75 [(0, .ref h)] [.int t0] u := by
    intro t0 u hw H locs ls hI hl
    unfold wp_X12_mend_p75 at hw
    subst hZ
    exact m_iret S hr hlocks hI hw dX12_mend_75
  have b97 : ∀ (t0 : Int32) (u : ST), wp_X12_mend_p97 t0 u Q → mGo p l e ({ frames := 2, cells := 0, slots := 0, locals := 48 } : Room) s m args below meth c A Z 3 D (mT cs) (W12 h r cs) 97 [(0, .ref h)] [.int t0] u := by
    intro t0 u hw H locs ls hI hl
    unfold wp_X12_mend_p97 at hw
    subst hZ
    exact m_iret S hr hlocks hI hw dX12_mend_97
  have b119 : ∀ (t0 : Int32) (u : ST), wp_X12_mend_p119 t0 u Q → mGo p l e ({ frames := 2, cells := 0, slots := 0, locals := 48 } : Room) s m args below meth c A Z 3 D (mT cs) (W12 h r cs) 119 [(0, .ref h)] [.int t0] u := by
    intro t0 u hw H locs ls hI hl
    unfold wp_X12_mend_p119 at hw
    subst hZ
    exact m_iret S hr hlocks hI hw dX12_mend_119
  unfold wp_X12_mend at hw
  obtain ⟨H, hH⟩ : ∃ z : Heap, z = s.heap := ⟨_, rfl⟩
  obtain ⟨locs, hL⟩ : ∃ z : List Loc, z = [] := ⟨_, rfl⟩
  rw [show W p l e ({ frames := 2, cells := 0, slots := 0, locals := 48 } : Room) s m args below meth c s.heap [] 0 0 Z (F0 m 0 ls []) = W p l e ({ frames := 2, cells := 0, slots := 0, locals := 48 } : Room) s m args below meth c H locs 0 0 Z (F0 m 0 ls []) by rw [hH, hL]]
  replace hI : mI D (mT cs) A s.heap s (W12 h r cs u) H locs := by rw [hH, hL]; exact hI
  refine lv_iload_n S.1 S.2.1 dX12_mend_0 rfl (lv_at hl 1 rfl) ?_
  by_cases c1_0 : a1 = 0
  · have hw := hw.1 c1_0
    refine lv_tableIn (tgt := 32) S.1 S.2.1 dX12_mend_1 (by rw [c1_0] <;> decide) (by rw [c1_0] <;> decide) (by rw [c1_0] <;> rfl) (by decide) ?_
    refine lv_iload_n S.1 S.2.1 dX12_mend_32 rfl (lv_at hl 2 rfl) ?_
    refine lv_iconst (v := 1) S.1 S.2.1 dX12_mend_33 (by decide) ?_
    refine lv_bipush (v := 60) S.1 S.2.1 dX12_mend_34 (by decide) ?_
    refine m_si (As := [.int a2, .int (1 : Int32), .int (60 : Int32)]) (rest := []) S hI.2.2.2.1.2.1 (c_X12_in l a2 (1 : Int32) (60 : Int32) _ hw) (va_cwS 3 S.2.2.2.2 gX12_mend_X12_in rfl rfl rfl (by decide +kernel) ⟨Nat.le_of_ble_eq_true rfl, Nat.le_of_ble_eq_true rfl⟩) rfl hl.1 rfl (Nat.le_of_ble_eq_true rfl) dX12_mend_36 ⟨Nat.zero_le _, Nat.zero_le _⟩ (fun y36 hw => ?_)
    refine lv_if_eq (tgt := 52) S.1 S.2.1 dX12_mend_39 (by decide) (fun c39 => ?_) (fun c39 => ?_)
    · have hw := hw.1 c39
      refine lv_iconst (v := (-1)) S.1 S.2.1 dX12_mend_52 (by decide) ?_
      exact b53 ((-1) : Int32) u hw H locs ls hI (lv_sub hl [0] rfl)
    · have hw := hw.2 c39
      refine lv_aload_n S.1 S.2.1 dX12_mend_42 rfl (lv_at hl 0 rfl) ?_
      refine lv_iconst (v := 0) S.1 S.2.1 dX12_mend_43 (by decide) ?_
      refine lv_iconst (v := 0) S.1 S.2.1 dX12_mend_44 (by decide) ?_
      refine lv_iload_n S.1 S.2.1 dX12_mend_45 rfl (lv_at hl 2 rfl) ?_
      refine m_vi (As := [.int (0 : Int32), .int (0 : Int32), .int a2]) (rest := []) S (W12_self h r cs) hI rfl (c_X12_changes l D h r cs (0 : Int32) (0 : Int32) a2 u _ hw) (cwV 3 S.2.2.2.2 gX12_mend_X12_changes rfl rfl rfl (by decide +kernel) ⟨Nat.le_of_ble_eq_true rfl, Nat.le_of_ble_eq_true rfl⟩) (W12_at0 h r cs u) rfl rfl hl.1 rfl (Nat.le_of_ble_eq_true rfl) dX12_mend_46 ⟨Nat.zero_le _, Nat.zero_le _⟩ (fun y46 u46 H locs hw hI => ?_)
      refine lv_goto (tgt := 53) S.1 S.2.1 dX12_mend_49 (by decide) ?_
      exact b53 y46 u46 hw H locs ls hI (lv_sub hl [0] rfl)
  · have hw := hw.2 c1_0
    by_cases c1_1 : a1 = 1
    · have hw := hw.1 c1_1
      refine lv_tableIn (tgt := 54) S.1 S.2.1 dX12_mend_1 (by rw [c1_1] <;> decide) (by rw [c1_1] <;> decide) (by rw [c1_1] <;> rfl) (by decide) ?_
      refine lv_iload_n S.1 S.2.1 dX12_mend_54 rfl (lv_at hl 2 rfl) ?_
      refine lv_iconst (v := 0) S.1 S.2.1 dX12_mend_55 (by decide) ?_
      refine lv_bipush (v := 6) S.1 S.2.1 dX12_mend_56 (by decide) ?_
      refine m_si (As := [.int a2, .int (0 : Int32), .int (6 : Int32)]) (rest := []) S hI.2.2.2.1.2.1 (c_X12_in l a2 (0 : Int32) (6 : Int32) _ hw) (va_cwS 3 S.2.2.2.2 gX12_mend_X12_in rfl rfl rfl (by decide +kernel) ⟨Nat.le_of_ble_eq_true rfl, Nat.le_of_ble_eq_true rfl⟩) rfl hl.1 rfl (Nat.le_of_ble_eq_true rfl) dX12_mend_58 ⟨Nat.zero_le _, Nat.zero_le _⟩ (fun y58 hw => ?_)
      refine lv_if_eq (tgt := 74) S.1 S.2.1 dX12_mend_61 (by decide) (fun c61 => ?_) (fun c61 => ?_)
      · have hw := hw.1 c61
        refine lv_iconst (v := (-1)) S.1 S.2.1 dX12_mend_74 (by decide) ?_
        exact b75 ((-1) : Int32) u hw H locs ls hI (lv_sub hl [0] rfl)
      · have hw := hw.2 c61
        refine lv_aload_n S.1 S.2.1 dX12_mend_64 rfl (lv_at hl 0 rfl) ?_
        refine lv_iconst (v := 1) S.1 S.2.1 dX12_mend_65 (by decide) ?_
        refine lv_iconst (v := 0) S.1 S.2.1 dX12_mend_66 (by decide) ?_
        refine lv_iload_n S.1 S.2.1 dX12_mend_67 rfl (lv_at hl 2 rfl) ?_
        refine m_vi (As := [.int (1 : Int32), .int (0 : Int32), .int a2]) (rest := []) S (W12_self h r cs) hI rfl (c_X12_changes l D h r cs (1 : Int32) (0 : Int32) a2 u _ hw) (cwV 3 S.2.2.2.2 gX12_mend_X12_changes rfl rfl rfl (by decide +kernel) ⟨Nat.le_of_ble_eq_true rfl, Nat.le_of_ble_eq_true rfl⟩) (W12_at0 h r cs u) rfl rfl hl.1 rfl (Nat.le_of_ble_eq_true rfl) dX12_mend_68 ⟨Nat.zero_le _, Nat.zero_le _⟩ (fun y68 u68 H locs hw hI => ?_)
        refine lv_goto (tgt := 75) S.1 S.2.1 dX12_mend_71 (by decide) ?_
        exact b75 y68 u68 hw H locs ls hI (lv_sub hl [0] rfl)
    · have hw := hw.2 c1_1
      by_cases c1_2 : a1 = 2
      · have hw := hw.1 c1_2
        refine lv_tableIn (tgt := 76) S.1 S.2.1 dX12_mend_1 (by rw [c1_2] <;> decide) (by rw [c1_2] <;> decide) (by rw [c1_2] <;> rfl) (by decide) ?_
        refine lv_iload_n S.1 S.2.1 dX12_mend_76 rfl (lv_at hl 2 rfl) ?_
        refine lv_iconst (v := 0) S.1 S.2.1 dX12_mend_77 (by decide) ?_
        refine lv_bipush (v := 99) S.1 S.2.1 dX12_mend_78 (by decide) ?_
        refine m_si (As := [.int a2, .int (0 : Int32), .int (99 : Int32)]) (rest := []) S hI.2.2.2.1.2.1 (c_X12_in l a2 (0 : Int32) (99 : Int32) _ hw) (va_cwS 3 S.2.2.2.2 gX12_mend_X12_in rfl rfl rfl (by decide +kernel) ⟨Nat.le_of_ble_eq_true rfl, Nat.le_of_ble_eq_true rfl⟩) rfl hl.1 rfl (Nat.le_of_ble_eq_true rfl) dX12_mend_80 ⟨Nat.zero_le _, Nat.zero_le _⟩ (fun y80 hw => ?_)
        refine lv_if_eq (tgt := 96) S.1 S.2.1 dX12_mend_83 (by decide) (fun c83 => ?_) (fun c83 => ?_)
        · have hw := hw.1 c83
          refine lv_iconst (v := (-1)) S.1 S.2.1 dX12_mend_96 (by decide) ?_
          exact b97 ((-1) : Int32) u hw H locs ls hI (lv_sub hl [0] rfl)
        · have hw := hw.2 c83
          refine lv_aload_n S.1 S.2.1 dX12_mend_86 rfl (lv_at hl 0 rfl) ?_
          refine lv_iconst (v := 2) S.1 S.2.1 dX12_mend_87 (by decide) ?_
          refine lv_iconst (v := 0) S.1 S.2.1 dX12_mend_88 (by decide) ?_
          refine lv_iload_n S.1 S.2.1 dX12_mend_89 rfl (lv_at hl 2 rfl) ?_
          refine m_vi (As := [.int (2 : Int32), .int (0 : Int32), .int a2]) (rest := []) S (W12_self h r cs) hI rfl (c_X12_changes l D h r cs (2 : Int32) (0 : Int32) a2 u _ hw) (cwV 3 S.2.2.2.2 gX12_mend_X12_changes rfl rfl rfl (by decide +kernel) ⟨Nat.le_of_ble_eq_true rfl, Nat.le_of_ble_eq_true rfl⟩) (W12_at0 h r cs u) rfl rfl hl.1 rfl (Nat.le_of_ble_eq_true rfl) dX12_mend_90 ⟨Nat.zero_le _, Nat.zero_le _⟩ (fun y90 u90 H locs hw hI => ?_)
          refine lv_goto (tgt := 97) S.1 S.2.1 dX12_mend_93 (by decide) ?_
          exact b97 y90 u90 hw H locs ls hI (lv_sub hl [0] rfl)
      · have hw := hw.2 c1_2
        by_cases c1_3 : a1 = 3
        · have hw := hw.1 c1_3
          refine lv_tableIn (tgt := 98) S.1 S.2.1 dX12_mend_1 (by rw [c1_3] <;> decide) (by rw [c1_3] <;> decide) (by rw [c1_3] <;> rfl) (by decide) ?_
          refine lv_iload_n S.1 S.2.1 dX12_mend_98 rfl (lv_at hl 2 rfl) ?_
          refine lv_iconst (v := 0) S.1 S.2.1 dX12_mend_99 (by decide) ?_
          refine lv_bipush (v := 99) S.1 S.2.1 dX12_mend_100 (by decide) ?_
          refine m_si (As := [.int a2, .int (0 : Int32), .int (99 : Int32)]) (rest := []) S hI.2.2.2.1.2.1 (c_X12_in l a2 (0 : Int32) (99 : Int32) _ hw) (va_cwS 3 S.2.2.2.2 gX12_mend_X12_in rfl rfl rfl (by decide +kernel) ⟨Nat.le_of_ble_eq_true rfl, Nat.le_of_ble_eq_true rfl⟩) rfl hl.1 rfl (Nat.le_of_ble_eq_true rfl) dX12_mend_102 ⟨Nat.zero_le _, Nat.zero_le _⟩ (fun y102 hw => ?_)
          refine lv_if_eq (tgt := 118) S.1 S.2.1 dX12_mend_105 (by decide) (fun c105 => ?_) (fun c105 => ?_)
          · have hw := hw.1 c105
            refine lv_iconst (v := (-1)) S.1 S.2.1 dX12_mend_118 (by decide) ?_
            exact b119 ((-1) : Int32) u hw H locs ls hI (lv_sub hl [0] rfl)
          · have hw := hw.2 c105
            refine lv_aload_n S.1 S.2.1 dX12_mend_108 rfl (lv_at hl 0 rfl) ?_
            refine lv_iconst (v := 3) S.1 S.2.1 dX12_mend_109 (by decide) ?_
            refine lv_iconst (v := 0) S.1 S.2.1 dX12_mend_110 (by decide) ?_
            refine lv_iload_n S.1 S.2.1 dX12_mend_111 rfl (lv_at hl 2 rfl) ?_
            refine m_vi (As := [.int (3 : Int32), .int (0 : Int32), .int a2]) (rest := []) S (W12_self h r cs) hI rfl (c_X12_changes l D h r cs (3 : Int32) (0 : Int32) a2 u _ hw) (cwV 3 S.2.2.2.2 gX12_mend_X12_changes rfl rfl rfl (by decide +kernel) ⟨Nat.le_of_ble_eq_true rfl, Nat.le_of_ble_eq_true rfl⟩) (W12_at0 h r cs u) rfl rfl hl.1 rfl (Nat.le_of_ble_eq_true rfl) dX12_mend_112 ⟨Nat.zero_le _, Nat.zero_le _⟩ (fun y112 u112 H locs hw hI => ?_)
            refine lv_goto (tgt := 119) S.1 S.2.1 dX12_mend_115 (by decide) ?_
            exact b119 y112 u112 hw H locs ls hI (lv_sub hl [0] rfl)
        · have hw := hw.2 c1_3
          by_cases q1 : a1.toInt < 0 ∨ 3 < a1.toInt
          · refine lv_tableOut (tgt := 120) S.1 S.2.1 dX12_mend_1 q1 (by decide) ?_
            refine lv_iconst (v := (-1)) S.1 S.2.1 dX12_mend_120 (by decide) ?_
            subst hZ
            exact m_iret S hr hlocks hI hw dX12_mend_121
          · have n1_0 := lv_neT c1_0 (a := 0) rfl
            have n1_1 := lv_neT c1_1 (a := 1) rfl
            have n1_2 := lv_neT c1_2 (a := 2) rfl
            have n1_3 := lv_neT c1_3 (a := 3) rfl
            omega

def wp_X12_of_p19 (t0 : Int32) (u : ST) (Q : Int32 → ST → Prop) : Prop :=
  Q t0 u
def wp_X12_of (a1 : Int32) (u : ST) (Q : Int32 → ST → Prop) : Prop :=
  (wp_X12_in a1 (0 : Int32) (3 : Int32) (fun y3 => ((y3 = 0 → wp_X12_of_p19 ((-1) : Int32) u Q) ∧ (¬ y3 = 0 → (wp_X12_valueAt a1 (0 : Int32) u (fun y12 u12 => wp_X12_of_p19 y12 u12 Q))))))
set_option maxHeartbeats 4000000 in
set_option maxRecDepth 100000 in
theorem c_X12_of (l : Launch) (D : va_G) (h : Nat) (r : Nat → Nat) (cs : Nat → ClassId) (a1 : Int32) (u : ST) (Q : Int32 → ST → Prop) (hw : wp_X12_of a1 u Q) : mCi l yX12_of wsX12_of ({ frames := 1, cells := 0, slots := 0, locals := 22 } : Room) 0 0 D (mT cs) (W12 h r cs) [.ref h, .int a1] u Q := by
  unfold mCi
  refine m_enter (QQ := fun A => va_Qi Q (mPos D (mT cs) A (W12 h r cs)) A) (cc := cX12_of) (maxL := 2) (ret := (some .int)) (by decide) rfl (Nat.le_of_ble_eq_true rfl) ?_
  intro p e s m args below meth c A ls S hr hlocks hname hl hI
  have S : CallFix p m c cX12_of 2 s args wsX12_of RX12 := S
  show W p l e ({ frames := 1, cells := 0, slots := 0, locals := 22 } : Room) s m args below meth c s.heap [] 0 0 (MQ below (va_Qi Q (mPos D (mT cs) A (W12 h r cs)) A) args s 0 0 A) (F0 m 0 ls [])
  generalize hZ : MQ below (va_Qi Q (mPos D (mT cs) A (W12 h r cs)) A) args s 0 0 A = Z
  have hin : ∀ w ∈ wsX120, w ∈ wsX12_of := fun _ h => List.mem_cons_of_mem _ (List.mem_append_right _ h)
  have hl : lv_has ls 2 [(0, .ref h), (1, .int a1)] := hl
  have b19 : ∀ (t0 : Int32) (u : ST), wp_X12_of_p19 t0 u Q → mGo p l e ({ frames := 1, cells := 0, slots := 0, locals := 22 } : Room) s m args below meth c A Z 2 D (mT cs) (W12 h r cs) 19 [(0, .ref h)] [.int t0] u := by
    intro t0 u hw H locs ls hI hl
    unfold wp_X12_of_p19 at hw
    subst hZ
    exact m_iret S hr hlocks hI hw dX12_of_19
  unfold wp_X12_of at hw
  obtain ⟨H, hH⟩ : ∃ z : Heap, z = s.heap := ⟨_, rfl⟩
  obtain ⟨locs, hL⟩ : ∃ z : List Loc, z = [] := ⟨_, rfl⟩
  rw [show W p l e ({ frames := 1, cells := 0, slots := 0, locals := 22 } : Room) s m args below meth c s.heap [] 0 0 Z (F0 m 0 ls []) = W p l e ({ frames := 1, cells := 0, slots := 0, locals := 22 } : Room) s m args below meth c H locs 0 0 Z (F0 m 0 ls []) by rw [hH, hL]]
  replace hI : mI D (mT cs) A s.heap s (W12 h r cs u) H locs := by rw [hH, hL]; exact hI
  refine lv_iload_n S.1 S.2.1 dX12_of_0 rfl (lv_at hl 1 rfl) ?_
  refine lv_iconst (v := 0) S.1 S.2.1 dX12_of_1 (by decide) ?_
  refine lv_iconst (v := 3) S.1 S.2.1 dX12_of_2 (by decide) ?_
  refine m_si (As := [.int a1, .int (0 : Int32), .int (3 : Int32)]) (rest := []) S hI.2.2.2.1.2.1 (c_X12_in l a1 (0 : Int32) (3 : Int32) _ hw) (va_cwS 3 S.2.2.2.2 gX12_of_X12_in rfl rfl rfl (by decide +kernel) ⟨Nat.le_of_ble_eq_true rfl, Nat.le_of_ble_eq_true rfl⟩) rfl hl.1 rfl (Nat.le_of_ble_eq_true rfl) dX12_of_3 ⟨Nat.zero_le _, Nat.zero_le _⟩ (fun y3 hw => ?_)
  refine lv_if_eq (tgt := 18) S.1 S.2.1 dX12_of_6 (by decide) (fun c6 => ?_) (fun c6 => ?_)
  · have hw := hw.1 c6
    refine lv_iconst (v := (-1)) S.1 S.2.1 dX12_of_18 (by decide) ?_
    exact b19 ((-1) : Int32) u hw H locs ls hI (lv_sub hl [0] rfl)
  · have hw := hw.2 c6
    refine lv_aload_n S.1 S.2.1 dX12_of_9 rfl (lv_at hl 0 rfl) ?_
    refine lv_iload_n S.1 S.2.1 dX12_of_10 rfl (lv_at hl 1 rfl) ?_
    refine lv_iconst (v := 0) S.1 S.2.1 dX12_of_11 (by decide) ?_
    refine m_vi (As := [.int a1, .int (0 : Int32)]) (rest := []) S (W12_self h r cs) hI rfl (c_X12_valueAt l D h r cs a1 (0 : Int32) u _ hw) (cwV 2 S.2.2.2.2 gX12_of_X12_valueAt rfl rfl rfl (by decide +kernel) ⟨Nat.le_of_ble_eq_true rfl, Nat.le_of_ble_eq_true rfl⟩) (W12_at0 h r cs u) rfl rfl hl.1 rfl (Nat.le_of_ble_eq_true rfl) dX12_of_12 ⟨Nat.zero_le _, Nat.zero_le _⟩ (fun y12 u12 H locs hw hI => ?_)
    refine lv_goto (tgt := 19) S.1 S.2.1 dX12_of_15 (by decide) ?_
    exact b19 y12 u12 hw H locs ls hI (lv_sub hl [0] rfl)

def wp_X12_feed (a1 : Int32) (u : ST) (Q : Int32 → ST → Prop) : Prop :=
  (wp_X12_in a1 (0 : Int32) (255 : Int32) (fun y5 => ((¬ y5 = 0 → ((¬ (gI u 12) = (120 : Int32) → (∀ y34 : Int32, y34 = a1.toInt8.toInt32 → (vp_in (gI u 12) 120 ∧ ∀ u35 : ST, u35 = sA u 11 (upd (gA u 11) (gI u 12).toNatClampNeg (vp_nar .byte y34)) → (∀ y42 : Int32, y42 = (gI u35 12) + (1 : Int32) → (∀ u43 : ST, u43 = sI u35 12 y42 → Q (gI u43 12) u43))))) ∧ ((gI u 12) = (120 : Int32) → Q ((-3) : Int32) u))) ∧ (y5 = 0 → Q ((-1) : Int32) u))))
set_option maxHeartbeats 4000000 in
set_option maxRecDepth 100000 in
theorem c_X12_feed (l : Launch) (D : va_G) (h : Nat) (r : Nat → Nat) (cs : Nat → ClassId) (a1 : Int32) (u : ST) (Q : Int32 → ST → Prop) (hw : wp_X12_feed a1 u Q) : mCi l yX12_feed wsX12_feed ({ frames := 1, cells := 0, slots := 0, locals := 22 } : Room) 0 0 D (mT cs) (W12 h r cs) [.ref h, .int a1] u Q := by
  unfold mCi
  refine m_enter (QQ := fun A => va_Qi Q (mPos D (mT cs) A (W12 h r cs)) A) (cc := cX12_feed) (maxL := 2) (ret := (some .int)) (by decide) rfl (Nat.le_of_ble_eq_true rfl) ?_
  intro p e s m args below meth c A ls S hr hlocks hname hl hI
  have S : CallFix p m c cX12_feed 2 s args wsX12_feed RX12 := S
  show W p l e ({ frames := 1, cells := 0, slots := 0, locals := 22 } : Room) s m args below meth c s.heap [] 0 0 (MQ below (va_Qi Q (mPos D (mT cs) A (W12 h r cs)) A) args s 0 0 A) (F0 m 0 ls [])
  generalize hZ : MQ below (va_Qi Q (mPos D (mT cs) A (W12 h r cs)) A) args s 0 0 A = Z
  have hin : ∀ w ∈ wsX120, w ∈ wsX12_feed := fun _ h => List.mem_cons_of_mem _ (List.mem_append_right _ h)
  have hl : lv_has ls 2 [(0, .ref h), (1, .int a1)] := hl
  unfold wp_X12_feed at hw
  obtain ⟨H, hH⟩ : ∃ z : Heap, z = s.heap := ⟨_, rfl⟩
  obtain ⟨locs, hL⟩ : ∃ z : List Loc, z = [] := ⟨_, rfl⟩
  rw [show W p l e ({ frames := 1, cells := 0, slots := 0, locals := 22 } : Room) s m args below meth c s.heap [] 0 0 Z (F0 m 0 ls []) = W p l e ({ frames := 1, cells := 0, slots := 0, locals := 22 } : Room) s m args below meth c H locs 0 0 Z (F0 m 0 ls []) by rw [hH, hL]]
  replace hI : mI D (mT cs) A s.heap s (W12 h r cs u) H locs := by rw [hH, hL]; exact hI
  refine lv_iload_n S.1 S.2.1 dX12_feed_0 rfl (lv_at hl 1 rfl) ?_
  refine lv_iconst (v := 0) S.1 S.2.1 dX12_feed_1 (by decide) ?_
  refine lv_sipush (v := 255) S.1 S.2.1 dX12_feed_2 (by decide) ?_
  refine m_si (As := [.int a1, .int (0 : Int32), .int (255 : Int32)]) (rest := []) S hI.2.2.2.1.2.1 (c_X12_in l a1 (0 : Int32) (255 : Int32) _ hw) (va_cwS 3 S.2.2.2.2 gX12_feed_X12_in rfl rfl rfl (by decide +kernel) ⟨Nat.le_of_ble_eq_true rfl, Nat.le_of_ble_eq_true rfl⟩) rfl hl.1 rfl (Nat.le_of_ble_eq_true rfl) dX12_feed_5 ⟨Nat.zero_le _, Nat.zero_le _⟩ (fun y5 hw => ?_)
  refine lv_if_ne (tgt := 13) S.1 S.2.1 dX12_feed_8 (by decide) (fun c8 => ?_) (fun c8 => ?_)
  · have hw := hw.1 c8
    refine lv_aload_n S.1 S.2.1 dX12_feed_13 rfl (lv_at hl 0 rfl) ?_
    refine m_get S hin hI 0 (W12_at0 h r cs u) rfl 12 (Nat.le_of_ble_eq_true rfl) (List.mem_of_getElem? (i := 1) rfl) rfl (Ff12_at12 r u) dX12_feed_14 ?_
    refine lv_bipush (v := 120) S.1 S.2.1 dX12_feed_17 (by decide) ?_
    refine lv_icmp_ne (tgt := 25) S.1 S.2.1 dX12_feed_19 (by decide) (fun c19 => ?_) (fun c19 => ?_)
    · have hw := hw.1 c19
      refine lv_aload_n S.1 S.2.1 dX12_feed_25 rfl (lv_at hl 0 rfl) ?_
      refine m_get S hin hI 0 (W12_at0 h r cs u) rfl 11 (Nat.le_of_ble_eq_true rfl) (List.mem_of_getElem? (i := 2) rfl) rfl (Ff12_at11 r u) dX12_feed_26 ?_
      refine lv_aload_n S.1 S.2.1 dX12_feed_29 rfl (lv_at hl 0 rfl) ?_
      refine m_get S hin hI 0 (W12_at0 h r cs u) rfl 12 (Nat.le_of_ble_eq_true rfl) (List.mem_of_getElem? (i := 1) rfl) rfl (Ff12_at12 r u) dX12_feed_30 ?_
      refine lv_iload_n S.1 S.2.1 dX12_feed_33 rfl (lv_at hl 1 rfl) ?_
      refine lv_i2b S.1 S.2.1 dX12_feed_34 rfl ?_
      refine lv_topi (fun y34 ey34 => ?_)
      have hw := hw y34 ey34
      obtain ⟨u35, eu35⟩ : ∃ z : ST, z = sA u 11 (upd (gA u 11) (gI u 12).toNatClampNeg (vp_nar .byte y34)) := ⟨_, rfl⟩
      refine m_bast S hI 5 1 (W12_at5 h r cs u) rfl hw.1 (W12_sA11 h r cs u u35 _ eu35) dX12_feed_35 (fun H locs hI => ?_)
      have hw := hw.2 u35 eu35
      refine lv_aload_n S.1 S.2.1 dX12_feed_36 rfl (lv_at hl 0 rfl) ?_
      refine lv_dup S.1 S.2.1 dX12_feed_37 rfl ?_
      refine m_get S hin hI 0 (W12_at0 h r cs u35) rfl 12 (Nat.le_of_ble_eq_true rfl) (List.mem_of_getElem? (i := 1) rfl) rfl (Ff12_at12 r u35) dX12_feed_38 ?_
      refine lv_iconst (v := 1) S.1 S.2.1 dX12_feed_41 (by decide) ?_
      refine lv_iadd S.1 S.2.1 dX12_feed_42 ?_
      refine lv_topi (fun y42 ey42 => ?_)
      have hw := hw y42 ey42
      obtain ⟨u43, eu43⟩ : ∃ z : ST, z = sI u35 12 y42 := ⟨_, rfl⟩
      have hw := hw u43 eu43
      refine m_put S hin tyX12_ok nmX12 hI 0 (W12_at0 h r cs u35) rfl 12 (Nat.le_of_ble_eq_true rfl) (List.mem_of_getElem? (i := 1) rfl) rfl rfl rfl rfl (Nat.le_of_ble_eq_true rfl) (W12_sI12 h r cs u35 u43 y42 eu43) dX12_feed_43 (fun H locs hI => ?_)
      refine lv_aload_n S.1 S.2.1 dX12_feed_46 rfl (lv_at hl 0 rfl) ?_
      refine m_get S hin hI 0 (W12_at0 h r cs u43) rfl 12 (Nat.le_of_ble_eq_true rfl) (List.mem_of_getElem? (i := 1) rfl) rfl (Ff12_at12 r u43) dX12_feed_47 ?_
      subst hZ
      exact m_iret S hr hlocks hI hw dX12_feed_50
    · have hw := hw.2 c19
      refine lv_bipush (v := (-3)) S.1 S.2.1 dX12_feed_22 (by decide) ?_
      subst hZ
      exact m_iret S hr hlocks hI hw dX12_feed_24
  · have hw := hw.2 c8
    refine lv_iconst (v := (-1)) S.1 S.2.1 dX12_feed_11 (by decide) ?_
    subst hZ
    exact m_iret S hr hlocks hI hw dX12_feed_12

def wp_X12_look_p24 (t0 : Int32) (u : ST) (Q : Int32 → ST → Prop) : Prop :=
  Q t0 u
def wp_X12_look (u : ST) (Q : Int32 → ST → Prop) : Prop :=
  (((gI u 12) ≤ (gI u 13) → wp_X12_look_p24 ((-1) : Int32) u Q) ∧ (¬ (gI u 12) ≤ (gI u 13) → (vp_in (gI u 13) 120 ∧ ∀ y19 : Int32, y19 = gA u 11 (gI u 13).toNatClampNeg → wp_X12_look_p24 y19 u Q)))
set_option maxHeartbeats 4000000 in
set_option maxRecDepth 100000 in
theorem c_X12_look (l : Launch) (D : va_G) (h : Nat) (r : Nat → Nat) (cs : Nat → ClassId) (u : ST) (Q : Int32 → ST → Prop) (hw : wp_X12_look u Q) : mCi l yX12_look wsX12_look ({ frames := 0, cells := 0, slots := 0, locals := 0 } : Room) 0 0 D (mT cs) (W12 h r cs) [.ref h] u Q := by
  unfold mCi
  refine m_enter (QQ := fun A => va_Qi Q (mPos D (mT cs) A (W12 h r cs)) A) (cc := cX12_look) (maxL := 1) (ret := (some .int)) (by decide) rfl (Nat.le_of_ble_eq_true rfl) ?_
  intro p e s m args below meth c A ls S hr hlocks hname hl hI
  have S : CallFix p m c cX12_look 1 s args wsX12_look RX12 := S
  show W p l e ({ frames := 0, cells := 0, slots := 0, locals := 0 } : Room) s m args below meth c s.heap [] 0 0 (MQ below (va_Qi Q (mPos D (mT cs) A (W12 h r cs)) A) args s 0 0 A) (F0 m 0 ls [])
  generalize hZ : MQ below (va_Qi Q (mPos D (mT cs) A (W12 h r cs)) A) args s 0 0 A = Z
  have hin : ∀ w ∈ wsX120, w ∈ wsX12_look := fun _ h => List.mem_cons_of_mem _ (List.mem_append_right _ h)
  have hl : lv_has ls 1 [(0, .ref h)] := hl
  have b24 : ∀ (t0 : Int32) (u : ST), wp_X12_look_p24 t0 u Q → mGo p l e ({ frames := 0, cells := 0, slots := 0, locals := 0 } : Room) s m args below meth c A Z 1 D (mT cs) (W12 h r cs) 24 [(0, .ref h)] [.int t0] u := by
    intro t0 u hw H locs ls hI hl
    unfold wp_X12_look_p24 at hw
    subst hZ
    exact m_iret S hr hlocks hI hw dX12_look_24
  unfold wp_X12_look at hw
  obtain ⟨H, hH⟩ : ∃ z : Heap, z = s.heap := ⟨_, rfl⟩
  obtain ⟨locs, hL⟩ : ∃ z : List Loc, z = [] := ⟨_, rfl⟩
  rw [show W p l e ({ frames := 0, cells := 0, slots := 0, locals := 0 } : Room) s m args below meth c s.heap [] 0 0 Z (F0 m 0 ls []) = W p l e ({ frames := 0, cells := 0, slots := 0, locals := 0 } : Room) s m args below meth c H locs 0 0 Z (F0 m 0 ls []) by rw [hH, hL]]
  replace hI : mI D (mT cs) A s.heap s (W12 h r cs u) H locs := by rw [hH, hL]; exact hI
  refine lv_aload_n S.1 S.2.1 dX12_look_0 rfl (lv_at hl 0 rfl) ?_
  refine m_get S hin hI 0 (W12_at0 h r cs u) rfl 13 (Nat.le_of_ble_eq_true rfl) (List.mem_of_getElem? (i := 1) rfl) rfl (Ff12_at13 r u) dX12_look_1 ?_
  refine lv_aload_n S.1 S.2.1 dX12_look_4 rfl (lv_at hl 0 rfl) ?_
  refine m_get S hin hI 0 (W12_at0 h r cs u) rfl 12 (Nat.le_of_ble_eq_true rfl) (List.mem_of_getElem? (i := 2) rfl) rfl (Ff12_at12 r u) dX12_look_5 ?_
  refine lv_icmp_ge (tgt := 23) S.1 S.2.1 dX12_look_8 (by decide) (fun c8 => ?_) (fun c8 => ?_)
  · have hw := hw.1 c8
    refine lv_iconst (v := (-1)) S.1 S.2.1 dX12_look_23 (by decide) ?_
    exact b24 ((-1) : Int32) u hw H locs ls hI (lv_sub hl [0] rfl)
  · have hw := hw.2 c8
    refine lv_aload_n S.1 S.2.1 dX12_look_11 rfl (lv_at hl 0 rfl) ?_
    refine m_get S hin hI 0 (W12_at0 h r cs u) rfl 11 (Nat.le_of_ble_eq_true rfl) (List.mem_of_getElem? (i := 3) rfl) rfl (Ff12_at11 r u) dX12_look_12 ?_
    refine lv_aload_n S.1 S.2.1 dX12_look_15 rfl (lv_at hl 0 rfl) ?_
    refine m_get S hin hI 0 (W12_at0 h r cs u) rfl 13 (Nat.le_of_ble_eq_true rfl) (List.mem_of_getElem? (i := 1) rfl) rfl (Ff12_at13 r u) dX12_look_16 ?_
    refine m_bald S hI 5 1 (W12_at5 h r cs u) rfl hw.1 dX12_look_19 ?_
    refine lv_topi (fun y19 ey19 => ?_)
    have hw := hw.2 y19 ey19
    refine lv_goto (tgt := 24) S.1 S.2.1 dX12_look_20 (by decide) ?_
    exact b24 y19 u hw H locs ls hI (lv_sub hl [0] rfl)

def wp_X12_faulty_p15 (u : ST) (Q : ST → Prop) : Prop :=
  Q u
def wp_X12_faulty (u : ST) (Q : ST → Prop) : Prop :=
  ((0 ≤ (gI u 14) → wp_X12_faulty_p15 u Q) ∧ (¬ 0 ≤ (gI u 14) → (∀ u12 : ST, u12 = sI u 14 (gI u 13) → wp_X12_faulty_p15 u12 Q)))
set_option maxHeartbeats 4000000 in
set_option maxRecDepth 100000 in
theorem c_X12_faulty (l : Launch) (D : va_G) (h : Nat) (r : Nat → Nat) (cs : Nat → ClassId) (u : ST) (Q : ST → Prop) (hw : wp_X12_faulty u Q) : mCv l yX12_faulty wsX12_faulty ({ frames := 0, cells := 0, slots := 0, locals := 0 } : Room) 0 0 D (mT cs) (W12 h r cs) [.ref h] u Q := by
  unfold mCv
  refine m_enter (QQ := fun A => va_Qv Q (mPos D (mT cs) A (W12 h r cs)) A) (cc := cX12_faulty) (maxL := 1) (ret := none) (by decide) rfl (Nat.le_of_ble_eq_true rfl) ?_
  intro p e s m args below meth c A ls S hr hlocks hname hl hI
  have S : CallFix p m c cX12_faulty 1 s args wsX12_faulty RX12 := S
  show W p l e ({ frames := 0, cells := 0, slots := 0, locals := 0 } : Room) s m args below meth c s.heap [] 0 0 (MQ below (va_Qv Q (mPos D (mT cs) A (W12 h r cs)) A) args s 0 0 A) (F0 m 0 ls [])
  generalize hZ : MQ below (va_Qv Q (mPos D (mT cs) A (W12 h r cs)) A) args s 0 0 A = Z
  have hin : ∀ w ∈ wsX120, w ∈ wsX12_faulty := fun _ h => List.mem_cons_of_mem _ (List.mem_append_right _ h)
  have hl : lv_has ls 1 [(0, .ref h)] := hl
  have b15 : ∀ (u : ST), wp_X12_faulty_p15 u Q → mGo p l e ({ frames := 0, cells := 0, slots := 0, locals := 0 } : Room) s m args below meth c A Z 1 D (mT cs) (W12 h r cs) 15 [(0, .ref h)] [] u := by
    intro u hw H locs ls hI hl
    unfold wp_X12_faulty_p15 at hw
    subst hZ
    exact m_vret S hr hlocks hI hw dX12_faulty_15
  unfold wp_X12_faulty at hw
  obtain ⟨H, hH⟩ : ∃ z : Heap, z = s.heap := ⟨_, rfl⟩
  obtain ⟨locs, hL⟩ : ∃ z : List Loc, z = [] := ⟨_, rfl⟩
  rw [show W p l e ({ frames := 0, cells := 0, slots := 0, locals := 0 } : Room) s m args below meth c s.heap [] 0 0 Z (F0 m 0 ls []) = W p l e ({ frames := 0, cells := 0, slots := 0, locals := 0 } : Room) s m args below meth c H locs 0 0 Z (F0 m 0 ls []) by rw [hH, hL]]
  replace hI : mI D (mT cs) A s.heap s (W12 h r cs u) H locs := by rw [hH, hL]; exact hI
  refine lv_aload_n S.1 S.2.1 dX12_faulty_0 rfl (lv_at hl 0 rfl) ?_
  refine m_get S hin hI 0 (W12_at0 h r cs u) rfl 14 (Nat.le_of_ble_eq_true rfl) (List.mem_of_getElem? (i := 1) rfl) rfl (Ff12_at14 r u) dX12_faulty_1 ?_
  refine lv_if_ge (tgt := 15) S.1 S.2.1 dX12_faulty_4 (by decide) (fun c4 => ?_) (fun c4 => ?_)
  · have hw := hw.1 c4
    exact b15 u hw H locs ls hI (lv_sub hl [0] rfl)
  · have hw := hw.2 c4
    refine lv_aload_n S.1 S.2.1 dX12_faulty_7 rfl (lv_at hl 0 rfl) ?_
    refine lv_aload_n S.1 S.2.1 dX12_faulty_8 rfl (lv_at hl 0 rfl) ?_
    refine m_get S hin hI 0 (W12_at0 h r cs u) rfl 13 (Nat.le_of_ble_eq_true rfl) (List.mem_of_getElem? (i := 2) rfl) rfl (Ff12_at13 r u) dX12_faulty_9 ?_
    obtain ⟨u12, eu12⟩ : ∃ z : ST, z = sI u 14 (gI u 13) := ⟨_, rfl⟩
    have hw := hw u12 eu12
    refine m_put S hin tyX12_ok nmX12 hI 0 (W12_at0 h r cs u) rfl 14 (Nat.le_of_ble_eq_true rfl) (List.mem_of_getElem? (i := 1) rfl) rfl rfl rfl rfl (Nat.le_of_ble_eq_true rfl) (W12_sI14 h r cs u u12 (gI u 13) eu12) dX12_faulty_12 (fun H locs hI => ?_)
    exact b15 u12 hw H locs ls hI (lv_sub hl [0] rfl)

def wp_X12_addStep (a1 : Int32) (a2 : Int32) (u : ST) (Q : ST → Prop) : Prop :=
  (∀ y11 : Int32, y11 = (130 : Int32) + (gI u 16) → (∀ y13 : Int32, y13 = a1.toInt8.toInt32 → (vp_in y11 260 ∧ ∀ u14 : ST, u14 = sA u 17 (upd (gA u 17) y11.toNatClampNeg (vp_nar .byte y13)) → (∀ y26 : Int32, y26 = (130 : Int32) + (gI u14 16) → (vp_in y26 260 ∧ ∀ u28 : ST, u28 = sA u14 18 (upd (gA u14 18) y26.toNatClampNeg a2) → (∀ y35 : Int32, y35 = (gI u28 16) + (1 : Int32) → (∀ u36 : ST, u36 = sI u28 16 y35 → Q u36)))))))
set_option maxHeartbeats 4000000 in
set_option maxRecDepth 100000 in
theorem c_X12_addStep (l : Launch) (D : va_G) (h : Nat) (r : Nat → Nat) (cs : Nat → ClassId) (a1 : Int32) (a2 : Int32) (u : ST) (Q : ST → Prop) (hw : wp_X12_addStep a1 a2 u Q) : mCv l yX12_addStep wsX12_addStep ({ frames := 0, cells := 0, slots := 0, locals := 0 } : Room) 0 0 D (mT cs) (W12 h r cs) [.ref h, .int a1, .int a2] u Q := by
  unfold mCv
  refine m_enter (QQ := fun A => va_Qv Q (mPos D (mT cs) A (W12 h r cs)) A) (cc := cX12_addStep) (maxL := 3) (ret := none) (by decide) rfl (Nat.le_of_ble_eq_true rfl) ?_
  intro p e s m args below meth c A ls S hr hlocks hname hl hI
  have S : CallFix p m c cX12_addStep 3 s args wsX12_addStep RX12 := S
  show W p l e ({ frames := 0, cells := 0, slots := 0, locals := 0 } : Room) s m args below meth c s.heap [] 0 0 (MQ below (va_Qv Q (mPos D (mT cs) A (W12 h r cs)) A) args s 0 0 A) (F0 m 0 ls [])
  generalize hZ : MQ below (va_Qv Q (mPos D (mT cs) A (W12 h r cs)) A) args s 0 0 A = Z
  have hin : ∀ w ∈ wsX120, w ∈ wsX12_addStep := fun _ h => List.mem_cons_of_mem _ (List.mem_append_right _ h)
  have hl : lv_has ls 3 [(0, .ref h), (1, .int a1), (2, .int a2)] := hl
  unfold wp_X12_addStep at hw
  obtain ⟨H, hH⟩ : ∃ z : Heap, z = s.heap := ⟨_, rfl⟩
  obtain ⟨locs, hL⟩ : ∃ z : List Loc, z = [] := ⟨_, rfl⟩
  rw [show W p l e ({ frames := 0, cells := 0, slots := 0, locals := 0 } : Room) s m args below meth c s.heap [] 0 0 Z (F0 m 0 ls []) = W p l e ({ frames := 0, cells := 0, slots := 0, locals := 0 } : Room) s m args below meth c H locs 0 0 Z (F0 m 0 ls []) by rw [hH, hL]]
  replace hI : mI D (mT cs) A s.heap s (W12 h r cs u) H locs := by rw [hH, hL]; exact hI
  refine lv_aload_n S.1 S.2.1 dX12_addStep_0 rfl (lv_at hl 0 rfl) ?_
  refine m_get S hin hI 0 (W12_at0 h r cs u) rfl 17 (Nat.le_of_ble_eq_true rfl) (List.mem_of_getElem? (i := 1) rfl) rfl (Ff12_at17 r u) dX12_addStep_1 ?_
  refine lv_sipush (v := 130) S.1 S.2.1 dX12_addStep_4 (by decide) ?_
  refine lv_aload_n S.1 S.2.1 dX12_addStep_7 rfl (lv_at hl 0 rfl) ?_
  refine m_get S hin hI 0 (W12_at0 h r cs u) rfl 16 (Nat.le_of_ble_eq_true rfl) (List.mem_of_getElem? (i := 2) rfl) rfl (Ff12_at16 r u) dX12_addStep_8 ?_
  refine lv_iadd S.1 S.2.1 dX12_addStep_11 ?_
  refine lv_topi (fun y11 ey11 => ?_)
  have hw := hw y11 ey11
  refine lv_iload_n S.1 S.2.1 dX12_addStep_12 rfl (lv_at hl 1 rfl) ?_
  refine lv_i2b S.1 S.2.1 dX12_addStep_13 rfl ?_
  refine lv_topi (fun y13 ey13 => ?_)
  have hw := hw y13 ey13
  obtain ⟨u14, eu14⟩ : ∃ z : ST, z = sA u 17 (upd (gA u 17) y11.toNatClampNeg (vp_nar .byte y13)) := ⟨_, rfl⟩
  refine m_bast S hI 6 1 (W12_at6 h r cs u) rfl hw.1 (W12_sA17 h r cs u u14 _ eu14) dX12_addStep_14 (fun H locs hI => ?_)
  have hw := hw.2 u14 eu14
  refine lv_aload_n S.1 S.2.1 dX12_addStep_15 rfl (lv_at hl 0 rfl) ?_
  refine m_get S hin hI 0 (W12_at0 h r cs u14) rfl 18 (Nat.le_of_ble_eq_true rfl) (List.mem_of_getElem? (i := 3) rfl) rfl (Ff12_at18 r u14) dX12_addStep_16 ?_
  refine lv_sipush (v := 130) S.1 S.2.1 dX12_addStep_19 (by decide) ?_
  refine lv_aload_n S.1 S.2.1 dX12_addStep_22 rfl (lv_at hl 0 rfl) ?_
  refine m_get S hin hI 0 (W12_at0 h r cs u14) rfl 16 (Nat.le_of_ble_eq_true rfl) (List.mem_of_getElem? (i := 2) rfl) rfl (Ff12_at16 r u14) dX12_addStep_23 ?_
  refine lv_iadd S.1 S.2.1 dX12_addStep_26 ?_
  refine lv_topi (fun y26 ey26 => ?_)
  have hw := hw y26 ey26
  refine lv_iload_n S.1 S.2.1 dX12_addStep_27 rfl (lv_at hl 2 rfl) ?_
  obtain ⟨u28, eu28⟩ : ∃ z : ST, z = sA u14 18 (upd (gA u14 18) y26.toNatClampNeg a2) := ⟨_, rfl⟩
  refine m_iast S hI 7 0 (W12_at7 h r cs u14) rfl hw.1 (W12_sA18 h r cs u14 u28 _ eu28) dX12_addStep_28 (fun H locs hI => ?_)
  have hw := hw.2 u28 eu28
  refine lv_aload_n S.1 S.2.1 dX12_addStep_29 rfl (lv_at hl 0 rfl) ?_
  refine lv_dup S.1 S.2.1 dX12_addStep_30 rfl ?_
  refine m_get S hin hI 0 (W12_at0 h r cs u28) rfl 16 (Nat.le_of_ble_eq_true rfl) (List.mem_of_getElem? (i := 2) rfl) rfl (Ff12_at16 r u28) dX12_addStep_31 ?_
  refine lv_iconst (v := 1) S.1 S.2.1 dX12_addStep_34 (by decide) ?_
  refine lv_iadd S.1 S.2.1 dX12_addStep_35 ?_
  refine lv_topi (fun y35 ey35 => ?_)
  have hw := hw y35 ey35
  obtain ⟨u36, eu36⟩ : ∃ z : ST, z = sI u28 16 y35 := ⟨_, rfl⟩
  have hw := hw u36 eu36
  refine m_put S hin tyX12_ok nmX12 hI 0 (W12_at0 h r cs u28) rfl 16 (Nat.le_of_ble_eq_true rfl) (List.mem_of_getElem? (i := 2) rfl) rfl rfl rfl rfl (Nat.le_of_ble_eq_true rfl) (W12_sI16 h r cs u28 u36 y35 eu36) dX12_addStep_36 (fun H locs hI => ?_)
  subst hZ
  exact m_vret S hr hlocks hI hw dX12_addStep_39

def wp_X12_nameOf (a0 : Int32) (Q : Int32 → Prop) : Prop :=
  ((a0 = 104 → Q (0 : Int32)) ∧ (¬ a0 = 104 → ((a0 = 106 → Q (2 : Int32)) ∧ (¬ a0 = 106 → ((a0 = 110 → Q (1 : Int32)) ∧ (¬ a0 = 110 → Q ((-1) : Int32)))))))
set_option maxHeartbeats 4000000 in
set_option maxRecDepth 100000 in
theorem c_X12_nameOf (l : Launch) (a0 : Int32) (Q : Int32 → Prop) (hw : wp_X12_nameOf a0 Q) : mTi l yX12_nameOf wsX12_nameOf ({ frames := 0, cells := 0, slots := 0, locals := 0 } : Room) [.int a0] Q := by
  refine m_enterT (cc := cX12_nameOf) (maxL := 1) (ret := (some .int)) (by decide) rfl (Nat.le_of_ble_eq_true rfl) ?_
  intro p e s m args below meth c ls S hr hlocks hname hl hN
  have S : CallFix p m c cX12_nameOf 1 s args wsX12_nameOf RX12 := S
  generalize hZ : MQ below (vp_Si Q) args s 0 0 (fun _ => False) = Z
  have hl : lv_has ls 1 [(0, .int a0)] := hl
  unfold wp_X12_nameOf at hw
  refine lv_iload_n S.1 S.2.1 dX12_nameOf_0 rfl (lv_at hl 0 rfl) ?_
  by_cases c1_104 : a0 = 104
  · have hw := hw.1 c1_104
    refine lv_lookup (off := 35) (tgt := 36) S.1 S.2.1 dX12_nameOf_1 (by decide) (by rw [c1_104] <;> rfl) (by decide) ?_
    refine lv_iconst (v := 0) S.1 S.2.1 dX12_nameOf_36 (by decide) ?_
    subst hZ
    exact m_tiret S hr hlocks hw dX12_nameOf_37
  · have hw := hw.2 c1_104
    by_cases c1_106 : a0 = 106
    · have hw := hw.1 c1_106
      refine lv_lookup (off := 39) (tgt := 40) S.1 S.2.1 dX12_nameOf_1 (by decide) (by rw [c1_106] <;> rfl) (by decide) ?_
      refine lv_iconst (v := 2) S.1 S.2.1 dX12_nameOf_40 (by decide) ?_
      subst hZ
      exact m_tiret S hr hlocks hw dX12_nameOf_41
    · have hw := hw.2 c1_106
      by_cases c1_110 : a0 = 110
      · have hw := hw.1 c1_110
        refine lv_lookup (off := 37) (tgt := 38) S.1 S.2.1 dX12_nameOf_1 (by decide) (by rw [c1_110] <;> rfl) (by decide) ?_
        refine lv_iconst (v := 1) S.1 S.2.1 dX12_nameOf_38 (by decide) ?_
        subst hZ
        exact m_tiret S hr hlocks hw dX12_nameOf_39
      · have hw := hw.2 c1_110
        refine lv_lookup (off := 41) (tgt := 42) S.1 S.2.1 dX12_nameOf_1 (by decide) (by show Op.lookupswitch.offset [(104, 35), (106, 39), (110, 37)] 41 _ = _; rw [lv_osw (a := 104) c1_104 rfl, lv_osw (a := 106) c1_106 rfl, lv_osw (a := 110) c1_110 rfl] <;> rfl) (by decide) ?_
        refine lv_iconst (v := (-1)) S.1 S.2.1 dX12_nameOf_42 (by decide) ?_
        subst hZ
        exact m_tiret S hr hlocks hw dX12_nameOf_43

def wp_X12_opens (u : ST) (Q : Int32 → ST → Prop) : Prop :=
  ((¬ (gI u 15) = (6 : Int32) → (∀ y21 : Int32, y21 = (gI u 15) + (1 : Int32) → (∀ u22 : ST, u22 = sI u 15 y21 → (∀ y31 : Int32, y31 = (gI u22 13) + (1 : Int32) → (∀ u32 : ST, u32 = sI u22 13 y31 → ((1 : Int32) &&& 1 = (1 : Int32) ∧ Q (1 : Int32) u32)))))) ∧ ((gI u 15) = (6 : Int32) → (wp_X12_faulty u (fun u10 => ((0 : Int32) &&& 1 = (0 : Int32) ∧ Q (0 : Int32) u10)))))
set_option maxHeartbeats 4000000 in
set_option maxRecDepth 100000 in
theorem c_X12_opens (l : Launch) (D : va_G) (h : Nat) (r : Nat → Nat) (cs : Nat → ClassId) (u : ST) (Q : Int32 → ST → Prop) (hw : wp_X12_opens u Q) : mCi l yX12_opens wsX12_opens ({ frames := 1, cells := 0, slots := 0, locals := 20 } : Room) 0 0 D (mT cs) (W12 h r cs) [.ref h] u Q := by
  unfold mCi
  refine m_enter (QQ := fun A => va_Qi Q (mPos D (mT cs) A (W12 h r cs)) A) (cc := cX12_opens) (maxL := 1) (ret := (some .boolean)) (by decide) rfl (Nat.le_of_ble_eq_true rfl) ?_
  intro p e s m args below meth c A ls S hr hlocks hname hl hI
  have S : CallFix p m c cX12_opens 1 s args wsX12_opens RX12 := S
  show W p l e ({ frames := 1, cells := 0, slots := 0, locals := 20 } : Room) s m args below meth c s.heap [] 0 0 (MQ below (va_Qi Q (mPos D (mT cs) A (W12 h r cs)) A) args s 0 0 A) (F0 m 0 ls [])
  generalize hZ : MQ below (va_Qi Q (mPos D (mT cs) A (W12 h r cs)) A) args s 0 0 A = Z
  have hin : ∀ w ∈ wsX120, w ∈ wsX12_opens := fun _ h => List.mem_cons_of_mem _ (List.mem_append_right _ h)
  have hl : lv_has ls 1 [(0, .ref h)] := hl
  unfold wp_X12_opens at hw
  obtain ⟨H, hH⟩ : ∃ z : Heap, z = s.heap := ⟨_, rfl⟩
  obtain ⟨locs, hL⟩ : ∃ z : List Loc, z = [] := ⟨_, rfl⟩
  rw [show W p l e ({ frames := 1, cells := 0, slots := 0, locals := 20 } : Room) s m args below meth c s.heap [] 0 0 Z (F0 m 0 ls []) = W p l e ({ frames := 1, cells := 0, slots := 0, locals := 20 } : Room) s m args below meth c H locs 0 0 Z (F0 m 0 ls []) by rw [hH, hL]]
  replace hI : mI D (mT cs) A s.heap s (W12 h r cs u) H locs := by rw [hH, hL]; exact hI
  refine lv_aload_n S.1 S.2.1 dX12_opens_0 rfl (lv_at hl 0 rfl) ?_
  refine m_get S hin hI 0 (W12_at0 h r cs u) rfl 15 (Nat.le_of_ble_eq_true rfl) (List.mem_of_getElem? (i := 1) rfl) rfl (Ff12_at15 r u) dX12_opens_1 ?_
  refine lv_bipush (v := 6) S.1 S.2.1 dX12_opens_4 (by decide) ?_
  refine lv_icmp_ne (tgt := 15) S.1 S.2.1 dX12_opens_6 (by decide) (fun c6 => ?_) (fun c6 => ?_)
  · have hw := hw.1 c6
    refine lv_aload_n S.1 S.2.1 dX12_opens_15 rfl (lv_at hl 0 rfl) ?_
    refine lv_dup S.1 S.2.1 dX12_opens_16 rfl ?_
    refine m_get S hin hI 0 (W12_at0 h r cs u) rfl 15 (Nat.le_of_ble_eq_true rfl) (List.mem_of_getElem? (i := 1) rfl) rfl (Ff12_at15 r u) dX12_opens_17 ?_
    refine lv_iconst (v := 1) S.1 S.2.1 dX12_opens_20 (by decide) ?_
    refine lv_iadd S.1 S.2.1 dX12_opens_21 ?_
    refine lv_topi (fun y21 ey21 => ?_)
    have hw := hw y21 ey21
    obtain ⟨u22, eu22⟩ : ∃ z : ST, z = sI u 15 y21 := ⟨_, rfl⟩
    have hw := hw u22 eu22
    refine m_put S hin tyX12_ok nmX12 hI 0 (W12_at0 h r cs u) rfl 15 (Nat.le_of_ble_eq_true rfl) (List.mem_of_getElem? (i := 1) rfl) rfl rfl rfl rfl (Nat.le_of_ble_eq_true rfl) (W12_sI15 h r cs u u22 y21 eu22) dX12_opens_22 (fun H locs hI => ?_)
    refine lv_aload_n S.1 S.2.1 dX12_opens_25 rfl (lv_at hl 0 rfl) ?_
    refine lv_dup S.1 S.2.1 dX12_opens_26 rfl ?_
    refine m_get S hin hI 0 (W12_at0 h r cs u22) rfl 13 (Nat.le_of_ble_eq_true rfl) (List.mem_of_getElem? (i := 2) rfl) rfl (Ff12_at13 r u22) dX12_opens_27 ?_
    refine lv_iconst (v := 1) S.1 S.2.1 dX12_opens_30 (by decide) ?_
    refine lv_iadd S.1 S.2.1 dX12_opens_31 ?_
    refine lv_topi (fun y31 ey31 => ?_)
    have hw := hw y31 ey31
    obtain ⟨u32, eu32⟩ : ∃ z : ST, z = sI u22 13 y31 := ⟨_, rfl⟩
    have hw := hw u32 eu32
    refine m_put S hin tyX12_ok nmX12 hI 0 (W12_at0 h r cs u22) rfl 13 (Nat.le_of_ble_eq_true rfl) (List.mem_of_getElem? (i := 2) rfl) rfl rfl rfl rfl (Nat.le_of_ble_eq_true rfl) (W12_sI13 h r cs u22 u32 y31 eu32) dX12_opens_32 (fun H locs hI => ?_)
    refine lv_iconst (v := 1) S.1 S.2.1 dX12_opens_35 (by decide) ?_
    subst hZ
    exact m_zret S hr hlocks hI hw.1 hw.2 dX12_opens_36
  · have hw := hw.2 c6
    refine lv_aload_n S.1 S.2.1 dX12_opens_9 rfl (lv_at hl 0 rfl) ?_
    refine m_vv (As := []) (rest := []) S (W12_self h r cs) hI rfl (c_X12_faulty l D h r cs u _ hw) (cwV 0 S.2.2.2.2 gX12_opens_X12_faulty rfl rfl rfl (by decide +kernel) ⟨Nat.le_of_ble_eq_true rfl, Nat.le_of_ble_eq_true rfl⟩) (W12_at0 h r cs u) rfl rfl hl.1 rfl (Nat.le_of_ble_eq_true rfl) dX12_opens_10 ⟨Nat.zero_le _, Nat.zero_le _⟩ (fun u10 H locs hw hI => ?_)
    refine lv_iconst (v := 0) S.1 S.2.1 dX12_opens_13 (by decide) ?_
    subst hZ
    exact m_zret S hr hlocks hI hw.1 hw.2 dX12_opens_14

def wp_X12_figure_p74 (x1 : Int32) (u : ST) (Q : ST → Prop) : Prop :=
  (wp_X12_addStep (1 : Int32) x1 u (fun u77 => Q u77))
def wp_X12_figure_p70 (x1 : Int32) (u : ST) (Q : ST → Prop) : Prop :=
  (wp_X12_faulty u (fun u71 => wp_X12_figure_p74 x1 u71 Q))
def wp_X12_figure_p52 (x1 : Int32) (x2 : Int32) (u : ST) (Q : ST → Prop) : Prop :=
  ((x2 = 0 → wp_X12_figure_p70 x1 u Q) ∧ (¬ x2 = 0 → (wp_X12_look u (fun y57 u57 => (wp_X12_in y57 (48 : Int32) (57 : Int32) (fun y64 => ((y64 = 0 → wp_X12_figure_p74 x1 u57 Q) ∧ (¬ y64 = 0 → wp_X12_figure_p70 x1 u57 Q))))))))
def wp_X12_figure_p4b (x1 : Int32) (x2 : Int32) (u : ST) (B4 : Int32 → Int32 → ST → Prop) (Q : ST → Prop) : Prop :=
  (((4 : Int32) ≤ x2 → wp_X12_figure_p52 x1 x2 u Q) ∧ (¬ (4 : Int32) ≤ x2 → (wp_X12_look u (fun y10 u10 => (wp_X12_in y10 (48 : Int32) (57 : Int32) (fun y17 => ((y17 = 0 → wp_X12_figure_p52 x1 x2 u10 Q) ∧ (¬ y17 = 0 → (∀ y26 : Int32, y26 = (10 : Int32) * x1 → (wp_X12_look u10 (fun y28 u28 => (∀ y31 : Int32, y31 = y26 + y28 → (∀ y34 : Int32, y34 = y31 - (48 : Int32) → (∀ y36 : Int32, y36 = x2 + 1 → (∀ y45 : Int32, y45 = (gI u28 13) + (1 : Int32) → (∀ u46 : ST, u46 = sI u28 13 y45 → B4 y34 y36 u46))))))))))))))))
def wp_X12_figure_p4 (x1 : Int32) (x2 : Int32) (u : ST) (Q : ST → Prop) : Prop := ∃ (I : Int32 → Int32 → ST → Prop) (μ : Int32 → Int32 → ST → Nat), I x1 x2 u ∧ ∀ (x1 : Int32) (x2 : Int32) (u : ST), I x1 x2 u → wp_X12_figure_p4b x1 x2 u (fun yx1 yx2 yu => I yx1 yx2 yu ∧ μ yx1 yx2 yu < μ x1 x2 u) Q
def wp_X12_figure (u : ST) (Q : ST → Prop) : Prop :=
  wp_X12_figure_p4 (0 : Int32) (0 : Int32) u Q
set_option maxHeartbeats 4000000 in
set_option maxRecDepth 100000 in
theorem c_X12_figure (l : Launch) (D : va_G) (h : Nat) (r : Nat → Nat) (cs : Nat → ClassId) (u : ST) (Q : ST → Prop) (hw : wp_X12_figure u Q) : mCv l yX12_figure wsX12_figure ({ frames := 1, cells := 0, slots := 0, locals := 22 } : Room) 0 0 D (mT cs) (W12 h r cs) [.ref h] u Q := by
  unfold mCv
  refine m_enter (QQ := fun A => va_Qv Q (mPos D (mT cs) A (W12 h r cs)) A) (cc := cX12_figure) (maxL := 3) (ret := none) (by decide) rfl (Nat.le_of_ble_eq_true rfl) ?_
  intro p e s m args below meth c A ls S hr hlocks hname hl hI
  have S : CallFix p m c cX12_figure 3 s args wsX12_figure RX12 := S
  show W p l e ({ frames := 1, cells := 0, slots := 0, locals := 22 } : Room) s m args below meth c s.heap [] 0 0 (MQ below (va_Qv Q (mPos D (mT cs) A (W12 h r cs)) A) args s 0 0 A) (F0 m 0 ls [])
  generalize hZ : MQ below (va_Qv Q (mPos D (mT cs) A (W12 h r cs)) A) args s 0 0 A = Z
  have hin : ∀ w ∈ wsX120, w ∈ wsX12_figure := fun _ h => List.mem_cons_of_mem _ (List.mem_append_right _ h)
  have hl : lv_has ls 3 [(0, .ref h)] := hl
  have b74 : ∀ (x1 : Int32) (u : ST), wp_X12_figure_p74 x1 u Q → mGo p l e ({ frames := 1, cells := 0, slots := 0, locals := 22 } : Room) s m args below meth c A Z 3 D (mT cs) (W12 h r cs) 74 [(0, .ref h), (1, .int x1)] [] u := by
    intro x1 u hw H locs ls hI hl
    unfold wp_X12_figure_p74 at hw
    refine lv_aload_n S.1 S.2.1 dX12_figure_74 rfl (lv_at hl 0 rfl) ?_
    refine lv_iconst (v := 1) S.1 S.2.1 dX12_figure_75 (by decide) ?_
    refine lv_iload_n S.1 S.2.1 dX12_figure_76 rfl (lv_at hl 1 rfl) ?_
    refine m_vv (As := [.int (1 : Int32), .int x1]) (rest := []) S (W12_self h r cs) hI rfl (c_X12_addStep l D h r cs (1 : Int32) x1 u _ hw) (cwV 2 S.2.2.2.2 gX12_figure_X12_addStep rfl rfl rfl (by decide +kernel) ⟨Nat.le_of_ble_eq_true rfl, Nat.le_of_ble_eq_true rfl⟩) (W12_at0 h r cs u) rfl rfl hl.1 rfl (Nat.le_of_ble_eq_true rfl) dX12_figure_77 ⟨Nat.zero_le _, Nat.zero_le _⟩ (fun u77 H locs hw hI => ?_)
    subst hZ
    exact m_vret S hr hlocks hI hw dX12_figure_80
  have b70 : ∀ (x1 : Int32) (u : ST), wp_X12_figure_p70 x1 u Q → mGo p l e ({ frames := 1, cells := 0, slots := 0, locals := 22 } : Room) s m args below meth c A Z 3 D (mT cs) (W12 h r cs) 70 [(0, .ref h), (1, .int x1)] [] u := by
    intro x1 u hw H locs ls hI hl
    unfold wp_X12_figure_p70 at hw
    refine lv_aload_n S.1 S.2.1 dX12_figure_70 rfl (lv_at hl 0 rfl) ?_
    refine m_vv (As := []) (rest := []) S (W12_self h r cs) hI rfl (c_X12_faulty l D h r cs u _ hw) (cwV 0 S.2.2.2.2 gX12_figure_X12_faulty rfl rfl rfl (by decide +kernel) ⟨Nat.le_of_ble_eq_true rfl, Nat.le_of_ble_eq_true rfl⟩) (W12_at0 h r cs u) rfl rfl hl.1 rfl (Nat.le_of_ble_eq_true rfl) dX12_figure_71 ⟨Nat.zero_le _, Nat.zero_le _⟩ (fun u71 H locs hw hI => ?_)
    exact b74 x1 u71 hw H locs ls hI (lv_sub hl [0, 1] rfl)
  have b52 : ∀ (x1 : Int32) (x2 : Int32) (u : ST), wp_X12_figure_p52 x1 x2 u Q → mGo p l e ({ frames := 1, cells := 0, slots := 0, locals := 22 } : Room) s m args below meth c A Z 3 D (mT cs) (W12 h r cs) 52 [(0, .ref h), (1, .int x1), (2, .int x2)] [] u := by
    intro x1 x2 u hw H locs ls hI hl
    unfold wp_X12_figure_p52 at hw
    refine lv_iload_n S.1 S.2.1 dX12_figure_52 rfl (lv_at hl 2 rfl) ?_
    refine lv_if_eq (tgt := 70) S.1 S.2.1 dX12_figure_53 (by decide) (fun c53 => ?_) (fun c53 => ?_)
    · have hw := hw.1 c53
      exact b70 x1 u hw H locs ls hI (lv_sub hl [0, 1] rfl)
    · have hw := hw.2 c53
      refine lv_aload_n S.1 S.2.1 dX12_figure_56 rfl (lv_at hl 0 rfl) ?_
      refine m_vi (As := []) (rest := []) S (W12_self h r cs) hI rfl (c_X12_look l D h r cs u _ hw) (cwV 0 S.2.2.2.2 gX12_figure_X12_look rfl rfl rfl (by decide +kernel) ⟨Nat.le_of_ble_eq_true rfl, Nat.le_of_ble_eq_true rfl⟩) (W12_at0 h r cs u) rfl rfl hl.1 rfl (Nat.le_of_ble_eq_true rfl) dX12_figure_57 ⟨Nat.zero_le _, Nat.zero_le _⟩ (fun y57 u57 H locs hw hI => ?_)
      refine lv_bipush (v := 48) S.1 S.2.1 dX12_figure_60 (by decide) ?_
      refine lv_bipush (v := 57) S.1 S.2.1 dX12_figure_62 (by decide) ?_
      refine m_si (As := [.int y57, .int (48 : Int32), .int (57 : Int32)]) (rest := []) S hI.2.2.2.1.2.1 (c_X12_in l y57 (48 : Int32) (57 : Int32) _ hw) (va_cwS 3 S.2.2.2.2 gX12_figure_X12_in rfl rfl rfl (by decide +kernel) ⟨Nat.le_of_ble_eq_true rfl, Nat.le_of_ble_eq_true rfl⟩) rfl hl.1 rfl (Nat.le_of_ble_eq_true rfl) dX12_figure_64 ⟨Nat.zero_le _, Nat.zero_le _⟩ (fun y64 hw => ?_)
      refine lv_if_eq (tgt := 74) S.1 S.2.1 dX12_figure_67 (by decide) (fun c67 => ?_) (fun c67 => ?_)
      · have hw := hw.1 c67
        exact b74 x1 u57 hw H locs ls hI (lv_sub hl [0, 1] rfl)
      · have hw := hw.2 c67
        exact b70 x1 u57 hw H locs ls hI (lv_sub hl [0, 1] rfl)
  have b4b : ∀ (B4 : Int32 → Int32 → ST → Prop), (∀ (x1 : Int32) (x2 : Int32) (u : ST), B4 x1 x2 u → mGo p l e ({ frames := 1, cells := 0, slots := 0, locals := 22 } : Room) s m args below meth c A Z 3 D (mT cs) (W12 h r cs) 4 [(0, .ref h), (1, .int x1), (2, .int x2)] [] u) → ∀ (x1 : Int32) (x2 : Int32) (u : ST), wp_X12_figure_p4b x1 x2 u B4 Q → mGo p l e ({ frames := 1, cells := 0, slots := 0, locals := 22 } : Room) s m args below meth c A Z 3 D (mT cs) (W12 h r cs) 4 [(0, .ref h), (1, .int x1), (2, .int x2)] [] u := by
    intro B4 hB4 x1 x2 u hw H locs ls hI hl
    unfold wp_X12_figure_p4b at hw
    refine lv_iload_n S.1 S.2.1 dX12_figure_4 rfl (lv_at hl 2 rfl) ?_
    refine lv_iconst (v := 4) S.1 S.2.1 dX12_figure_5 (by decide) ?_
    refine lv_icmp_ge (tgt := 52) S.1 S.2.1 dX12_figure_6 (by decide) (fun c6 => ?_) (fun c6 => ?_)
    · have hw := hw.1 c6
      exact b52 x1 x2 u hw H locs ls hI (lv_sub hl [0, 1, 2] rfl)
    · have hw := hw.2 c6
      refine lv_aload_n S.1 S.2.1 dX12_figure_9 rfl (lv_at hl 0 rfl) ?_
      refine m_vi (As := []) (rest := []) S (W12_self h r cs) hI rfl (c_X12_look l D h r cs u _ hw) (cwV 0 S.2.2.2.2 gX12_figure_X12_look rfl rfl rfl (by decide +kernel) ⟨Nat.le_of_ble_eq_true rfl, Nat.le_of_ble_eq_true rfl⟩) (W12_at0 h r cs u) rfl rfl hl.1 rfl (Nat.le_of_ble_eq_true rfl) dX12_figure_10 ⟨Nat.zero_le _, Nat.zero_le _⟩ (fun y10 u10 H locs hw hI => ?_)
      refine lv_bipush (v := 48) S.1 S.2.1 dX12_figure_13 (by decide) ?_
      refine lv_bipush (v := 57) S.1 S.2.1 dX12_figure_15 (by decide) ?_
      refine m_si (As := [.int y10, .int (48 : Int32), .int (57 : Int32)]) (rest := []) S hI.2.2.2.1.2.1 (c_X12_in l y10 (48 : Int32) (57 : Int32) _ hw) (va_cwS 3 S.2.2.2.2 gX12_figure_X12_in rfl rfl rfl (by decide +kernel) ⟨Nat.le_of_ble_eq_true rfl, Nat.le_of_ble_eq_true rfl⟩) rfl hl.1 rfl (Nat.le_of_ble_eq_true rfl) dX12_figure_17 ⟨Nat.zero_le _, Nat.zero_le _⟩ (fun y17 hw => ?_)
      refine lv_if_eq (tgt := 52) S.1 S.2.1 dX12_figure_20 (by decide) (fun c20 => ?_) (fun c20 => ?_)
      · have hw := hw.1 c20
        exact b52 x1 x2 u10 hw H locs ls hI (lv_sub hl [0, 1, 2] rfl)
      · have hw := hw.2 c20
        refine lv_bipush (v := 10) S.1 S.2.1 dX12_figure_23 (by decide) ?_
        refine lv_iload_n S.1 S.2.1 dX12_figure_25 rfl (lv_at hl 1 rfl) ?_
        refine lv_imul S.1 S.2.1 dX12_figure_26 ?_
        refine lv_topi (fun y26 ey26 => ?_)
        have hw := hw y26 ey26
        refine lv_aload_n S.1 S.2.1 dX12_figure_27 rfl (lv_at hl 0 rfl) ?_
        refine m_vi (As := []) (rest := [.int y26]) S (W12_self h r cs) hI rfl (c_X12_look l D h r cs u10 _ hw) (cwV 0 S.2.2.2.2 gX12_figure_X12_look rfl rfl rfl (by decide +kernel) ⟨Nat.le_of_ble_eq_true rfl, Nat.le_of_ble_eq_true rfl⟩) (W12_at0 h r cs u10) rfl rfl hl.1 rfl (Nat.le_of_ble_eq_true rfl) dX12_figure_28 ⟨Nat.zero_le _, Nat.zero_le _⟩ (fun y28 u28 H locs hw hI => ?_)
        refine lv_iadd S.1 S.2.1 dX12_figure_31 ?_
        refine lv_topi (fun y31 ey31 => ?_)
        have hw := hw y31 ey31
        refine lv_bipush (v := 48) S.1 S.2.1 dX12_figure_32 (by decide) ?_
        refine lv_isub S.1 S.2.1 dX12_figure_34 ?_
        refine lv_topi (fun y34 ey34 => ?_)
        have hw := hw y34 ey34
        refine lv_istore_n (lv' := [(1, .int y34), (0, .ref h), (2, .int x2)]) S.1 S.2.1 dX12_figure_35 rfl hl (by decide) rfl (fun ls hl => ?_)
        obtain ⟨y36, ey36⟩ : ∃ z : Int32, z = x2 + 1 := ⟨_, rfl⟩
        have hw := hw y36 ey36
        refine lv_iinc (v := y36) (lv' := [(2, .int y36), (1, .int y34), (0, .ref h)]) S.1 S.2.1 dX12_figure_36 hl (k := 2) rfl (by rw [ey36]; rfl) (by decide) rfl (fun ls hl => ?_)
        refine lv_aload_n S.1 S.2.1 dX12_figure_39 rfl (lv_at hl 2 rfl) ?_
        refine lv_dup S.1 S.2.1 dX12_figure_40 rfl ?_
        refine m_get S hin hI 0 (W12_at0 h r cs u28) rfl 13 (Nat.le_of_ble_eq_true rfl) (List.mem_of_getElem? (i := 1) rfl) rfl (Ff12_at13 r u28) dX12_figure_41 ?_
        refine lv_iconst (v := 1) S.1 S.2.1 dX12_figure_44 (by decide) ?_
        refine lv_iadd S.1 S.2.1 dX12_figure_45 ?_
        refine lv_topi (fun y45 ey45 => ?_)
        have hw := hw y45 ey45
        obtain ⟨u46, eu46⟩ : ∃ z : ST, z = sI u28 13 y45 := ⟨_, rfl⟩
        have hw := hw u46 eu46
        refine m_put S hin tyX12_ok nmX12 hI 0 (W12_at0 h r cs u28) rfl 13 (Nat.le_of_ble_eq_true rfl) (List.mem_of_getElem? (i := 1) rfl) rfl rfl rfl rfl (Nat.le_of_ble_eq_true rfl) (W12_sI13 h r cs u28 u46 y45 eu46) dX12_figure_46 (fun H locs hI => ?_)
        refine lv_goto (tgt := 4) S.1 S.2.1 dX12_figure_49 (by decide) ?_
        exact hB4 y34 y36 u46 hw H locs ls hI (lv_sub hl [2, 1, 0] rfl)
  have b4 : ∀ (x1 : Int32) (x2 : Int32) (u : ST), wp_X12_figure_p4 x1 x2 u Q → mGo p l e ({ frames := 1, cells := 0, slots := 0, locals := 22 } : Room) s m args below meth c A Z 3 D (mT cs) (W12 h r cs) 4 [(0, .ref h), (1, .int x1), (2, .int x2)] [] u := by
    intro x1 x2 u hw
    obtain ⟨I, μ, h0, hs⟩ := hw
    have key : ∀ (n : Nat) (x1 : Int32) (x2 : Int32) (u : ST), μ x1 x2 u = n → I x1 x2 u → mGo p l e ({ frames := 1, cells := 0, slots := 0, locals := 22 } : Room) s m args below meth c A Z 3 D (mT cs) (W12 h r cs) 4 [(0, .ref h), (1, .int x1), (2, .int x2)] [] u := by
      intro n
      induction n using Nat.strongRecOn with
      | ind n ih =>
        intro x1 x2 u hn hi
        exact b4b (fun yx1 yx2 yu => I yx1 yx2 yu ∧ μ yx1 yx2 yu < μ x1 x2 u) (fun yx1 yx2 yu hb => ih _ (hn ▸ hb.2) yx1 yx2 yu rfl hb.1) x1 x2 u (hs x1 x2 u hi)
    exact key _ x1 x2 u rfl h0
  unfold wp_X12_figure at hw
  obtain ⟨H, hH⟩ : ∃ z : Heap, z = s.heap := ⟨_, rfl⟩
  obtain ⟨locs, hL⟩ : ∃ z : List Loc, z = [] := ⟨_, rfl⟩
  rw [show W p l e ({ frames := 1, cells := 0, slots := 0, locals := 22 } : Room) s m args below meth c s.heap [] 0 0 Z (F0 m 0 ls []) = W p l e ({ frames := 1, cells := 0, slots := 0, locals := 22 } : Room) s m args below meth c H locs 0 0 Z (F0 m 0 ls []) by rw [hH, hL]]
  replace hI : mI D (mT cs) A s.heap s (W12 h r cs u) H locs := by rw [hH, hL]; exact hI
  refine lv_iconst (v := 0) S.1 S.2.1 dX12_figure_0 (by decide) ?_
  refine lv_istore_n (lv' := [(1, .int (0 : Int32)), (0, .ref h)]) S.1 S.2.1 dX12_figure_1 rfl hl (by decide) rfl (fun ls hl => ?_)
  refine lv_iconst (v := 0) S.1 S.2.1 dX12_figure_2 (by decide) ?_
  refine lv_istore_n (lv' := [(2, .int (0 : Int32)), (1, .int (0 : Int32)), (0, .ref h)]) S.1 S.2.1 dX12_figure_3 rfl hl (by decide) rfl (fun ls hl => ?_)
  exact b4 (0 : Int32) (0 : Int32) u hw H locs ls hI (lv_sub hl [2, 1, 0] rfl)

def wp_X12_product_p66 (u : ST) (P : Nat → ST → (ST → Prop) → Prop) (Q : ST → Prop) : Prop :=
  Q u
def wp_X12_product_p38 (u : ST) (B4 : ST → Prop) (P : Nat → ST → (ST → Prop) → Prop) (Q : ST → Prop) : Prop :=
  (wp_X12_look u (fun y39 u39 => (∀ y49 : Int32, y49 = (gI u39 13) + (1 : Int32) → (∀ u50 : ST, u50 = sI u39 13 y49 → (P 0 u50 (fun u54 => (wp_X12_addStep y39 (0 : Int32) u54 (fun u60 => B4 u60))))))))
def wp_X12_product_p4b (u : ST) (B4 : ST → Prop) (P : Nat → ST → (ST → Prop) → Prop) (Q : ST → Prop) : Prop :=
  ((0 ≤ (gI u 14) → wp_X12_product_p66 u P Q) ∧ (¬ 0 ≤ (gI u 14) → (wp_X12_look u (fun y12 u12 => ((y12 = (42 : Int32) → wp_X12_product_p38 u12 B4 P Q) ∧ (¬ y12 = (42 : Int32) → (wp_X12_look u12 (fun y21 u21 => ((y21 = (47 : Int32) → wp_X12_product_p38 u21 B4 P Q) ∧ (¬ y21 = (47 : Int32) → (wp_X12_look u21 (fun y30 u30 => ((¬ y30 = (37 : Int32) → wp_X12_product_p66 u30 P Q) ∧ (y30 = (37 : Int32) → wp_X12_product_p38 u30 B4 P Q))))))))))))))
def wp_X12_product_p4 (u : ST) (P : Nat → ST → (ST → Prop) → Prop) (Q : ST → Prop) : Prop := ∃ (I : ST → Prop) (μ : ST → Nat), I u ∧ ∀ (u : ST), I u → wp_X12_product_p4b u (fun yu => I yu ∧ μ yu < μ u) P Q
def wp_X12_product (u : ST) (P : Nat → ST → (ST → Prop) → Prop) (Q : ST → Prop) : Prop :=
  (P 0 u (fun u1 => wp_X12_product_p4 u1 P Q))
set_option maxHeartbeats 4000000 in
set_option maxRecDepth 100000 in
theorem c_X12_product (l : Launch) (D : va_G) (h : Nat) (r : Nat → Nat) (cs : Nat → ClassId) (d : Nat) (P : Nat → ST → (ST → Prop) → Prop) (hP0 : (∀ (u : ST) (Q : ST → Prop), P 0 u Q → mCv l yX12_operand wsX12_operand (rmS d) 0 0 D (mT cs) (W12 h r cs) [.ref h] u Q)) (hP1 : (∀ (u : ST) (Q : ST → Prop), P 1 u Q → mCv l yX12_product wsX12_product (rmS d) 0 0 D (mT cs) (W12 h r cs) [.ref h] u Q)) (hP2 : (∀ (u : ST) (Q : ST → Prop), P 2 u Q → mCv l yX12_sum wsX12_sum (rmS d) 0 0 D (mT cs) (W12 h r cs) [.ref h] u Q)) (hP3 : (∀ (u : ST) (Q : ST → Prop), P 3 u Q → mCv l yX12_compared wsX12_compared (rmS d) 0 0 D (mT cs) (W12 h r cs) [.ref h] u Q)) (hP4 : (∀ (u : ST) (Q : ST → Prop), P 4 u Q → mCv l yX12_both wsX12_both (rmS d) 0 0 D (mT cs) (W12 h r cs) [.ref h] u Q)) (hP5 : (∀ (u : ST) (Q : ST → Prop), P 5 u Q → mCv l yX12_either wsX12_either (rmS d) 0 0 D (mT cs) (W12 h r cs) [.ref h] u Q)) (u : ST) (Q : ST → Prop) (hw : wp_X12_product u P Q) : mCv l yX12_product wsX12_product (rmS (d + 1)) 0 0 D (mT cs) (W12 h r cs) [.ref h] u Q := by
  unfold mCv
  refine m_enter (QQ := fun A => va_Qv Q (mPos D (mT cs) A (W12 h r cs)) A) (cc := cX12_product) (maxL := 2) (ret := none) (by decide) rfl (Nat.le_of_ble_eq_true rfl) ?_
  intro p e s m args below meth c A ls S hr hlocks hname hl hI
  have S : CallFix p m c cX12_product 2 s args wsX12_product RX12 := S
  show W p l e (rmS (d + 1)) s m args below meth c s.heap [] 0 0 (MQ below (va_Qv Q (mPos D (mT cs) A (W12 h r cs)) A) args s 0 0 A) (F0 m 0 ls [])
  generalize hZ : MQ below (va_Qv Q (mPos D (mT cs) A (W12 h r cs)) A) args s 0 0 A = Z
  have hin : ∀ w ∈ wsX120, w ∈ wsX12_product := fun _ h => List.mem_cons_of_mem _ (List.mem_append_right _ h)
  have hl : lv_has ls 2 [(0, .ref h)] := hl
  have b66 : ∀ (u : ST), wp_X12_product_p66 u P Q → mGo p l e (rmS (d + 1)) s m args below meth c A Z 2 D (mT cs) (W12 h r cs) 66 [(0, .ref h)] [] u := by
    intro u hw H locs ls hI hl
    unfold wp_X12_product_p66 at hw
    subst hZ
    exact m_vret S hr hlocks hI hw dX12_product_66
  have b38 : ∀ (B4 : ST → Prop), (∀ (u : ST), B4 u → mGo p l e (rmS (d + 1)) s m args below meth c A Z 2 D (mT cs) (W12 h r cs) 4 [(0, .ref h)] [] u) → ∀ (u : ST), wp_X12_product_p38 u B4 P Q → mGo p l e (rmS (d + 1)) s m args below meth c A Z 2 D (mT cs) (W12 h r cs) 38 [(0, .ref h)] [] u := by
    intro B4 hB4 u hw H locs ls hI hl
    unfold wp_X12_product_p38 at hw
    refine lv_aload_n S.1 S.2.1 dX12_product_38 rfl (lv_at hl 0 rfl) ?_
    refine m_vi (As := []) (rest := []) S (W12_self h r cs) hI rfl (c_X12_look l D h r cs u _ hw) (cwV 0 S.2.2.2.2 gX12_product_X12_look rfl rfl rfl (by decide +kernel) ⟨by simp only [rmS]; omega, by simp only [rmS]; omega⟩) (W12_at0 h r cs u) rfl rfl hl.1 rfl (Nat.le_of_ble_eq_true rfl) dX12_product_39 ⟨Nat.zero_le _, Nat.zero_le _⟩ (fun y39 u39 H locs hw hI => ?_)
    refine lv_istore_n (lv' := [(1, .int y39), (0, .ref h)]) S.1 S.2.1 dX12_product_42 rfl hl (by decide) rfl (fun ls hl => ?_)
    refine lv_aload_n S.1 S.2.1 dX12_product_43 rfl (lv_at hl 1 rfl) ?_
    refine lv_dup S.1 S.2.1 dX12_product_44 rfl ?_
    refine m_get S hin hI 0 (W12_at0 h r cs u39) rfl 13 (Nat.le_of_ble_eq_true rfl) (List.mem_of_getElem? (i := 2) rfl) rfl (Ff12_at13 r u39) dX12_product_45 ?_
    refine lv_iconst (v := 1) S.1 S.2.1 dX12_product_48 (by decide) ?_
    refine lv_iadd S.1 S.2.1 dX12_product_49 ?_
    refine lv_topi (fun y49 ey49 => ?_)
    have hw := hw y49 ey49
    obtain ⟨u50, eu50⟩ : ∃ z : ST, z = sI u39 13 y49 := ⟨_, rfl⟩
    have hw := hw u50 eu50
    refine m_put S hin tyX12_ok nmX12 hI 0 (W12_at0 h r cs u39) rfl 13 (Nat.le_of_ble_eq_true rfl) (List.mem_of_getElem? (i := 2) rfl) rfl rfl rfl rfl (Nat.le_of_ble_eq_true rfl) (W12_sI13 h r cs u39 u50 y49 eu50) dX12_product_50 (fun H locs hI => ?_)
    refine lv_aload_n S.1 S.2.1 dX12_product_53 rfl (lv_at hl 1 rfl) ?_
    refine m_vv (As := []) (rest := []) S (W12_self h r cs) hI rfl (hP0 u50 _ hw) (cwV 0 S.2.2.2.2 gX12_product_X12_operand rfl rfl rfl (by decide +kernel) ⟨by simp only [rmS]; omega, by simp only [rmS]; omega⟩) (W12_at0 h r cs u50) rfl rfl hl.1 rfl (Nat.le_of_ble_eq_true rfl) dX12_product_54 ⟨Nat.zero_le _, Nat.zero_le _⟩ (fun u54 H locs hw hI => ?_)
    refine lv_aload_n S.1 S.2.1 dX12_product_57 rfl (lv_at hl 1 rfl) ?_
    refine lv_iload_n S.1 S.2.1 dX12_product_58 rfl (lv_at hl 0 rfl) ?_
    refine lv_iconst (v := 0) S.1 S.2.1 dX12_product_59 (by decide) ?_
    refine m_vv (As := [.int y39, .int (0 : Int32)]) (rest := []) S (W12_self h r cs) hI rfl (c_X12_addStep l D h r cs y39 (0 : Int32) u54 _ hw) (cwV 2 S.2.2.2.2 gX12_product_X12_addStep rfl rfl rfl (by decide +kernel) ⟨by simp only [rmS]; omega, by simp only [rmS]; omega⟩) (W12_at0 h r cs u54) rfl rfl hl.1 rfl (Nat.le_of_ble_eq_true rfl) dX12_product_60 ⟨Nat.zero_le _, Nat.zero_le _⟩ (fun u60 H locs hw hI => ?_)
    refine lv_goto (tgt := 4) S.1 S.2.1 dX12_product_63 (by decide) ?_
    exact hB4 u60 hw H locs ls hI (lv_sub hl [1] rfl)
  have b4b : ∀ (B4 : ST → Prop), (∀ (u : ST), B4 u → mGo p l e (rmS (d + 1)) s m args below meth c A Z 2 D (mT cs) (W12 h r cs) 4 [(0, .ref h)] [] u) → ∀ (u : ST), wp_X12_product_p4b u B4 P Q → mGo p l e (rmS (d + 1)) s m args below meth c A Z 2 D (mT cs) (W12 h r cs) 4 [(0, .ref h)] [] u := by
    intro B4 hB4 u hw H locs ls hI hl
    unfold wp_X12_product_p4b at hw
    refine lv_aload_n S.1 S.2.1 dX12_product_4 rfl (lv_at hl 0 rfl) ?_
    refine m_get S hin hI 0 (W12_at0 h r cs u) rfl 14 (Nat.le_of_ble_eq_true rfl) (List.mem_of_getElem? (i := 1) rfl) rfl (Ff12_at14 r u) dX12_product_5 ?_
    refine lv_if_ge (tgt := 66) S.1 S.2.1 dX12_product_8 (by decide) (fun c8 => ?_) (fun c8 => ?_)
    · have hw := hw.1 c8
      exact b66 u hw H locs ls hI (lv_sub hl [0] rfl)
    · have hw := hw.2 c8
      refine lv_aload_n S.1 S.2.1 dX12_product_11 rfl (lv_at hl 0 rfl) ?_
      refine m_vi (As := []) (rest := []) S (W12_self h r cs) hI rfl (c_X12_look l D h r cs u _ hw) (cwV 0 S.2.2.2.2 gX12_product_X12_look rfl rfl rfl (by decide +kernel) ⟨by simp only [rmS]; omega, by simp only [rmS]; omega⟩) (W12_at0 h r cs u) rfl rfl hl.1 rfl (Nat.le_of_ble_eq_true rfl) dX12_product_12 ⟨Nat.zero_le _, Nat.zero_le _⟩ (fun y12 u12 H locs hw hI => ?_)
      refine lv_bipush (v := 42) S.1 S.2.1 dX12_product_15 (by decide) ?_
      refine lv_icmp_eq (tgt := 38) S.1 S.2.1 dX12_product_17 (by decide) (fun c17 => ?_) (fun c17 => ?_)
      · have hw := hw.1 c17
        exact b38 B4 hB4 u12 hw H locs ls hI (lv_sub hl [0] rfl)
      · have hw := hw.2 c17
        refine lv_aload_n S.1 S.2.1 dX12_product_20 rfl (lv_at hl 0 rfl) ?_
        refine m_vi (As := []) (rest := []) S (W12_self h r cs) hI rfl (c_X12_look l D h r cs u12 _ hw) (cwV 0 S.2.2.2.2 gX12_product_X12_look rfl rfl rfl (by decide +kernel) ⟨by simp only [rmS]; omega, by simp only [rmS]; omega⟩) (W12_at0 h r cs u12) rfl rfl hl.1 rfl (Nat.le_of_ble_eq_true rfl) dX12_product_21 ⟨Nat.zero_le _, Nat.zero_le _⟩ (fun y21 u21 H locs hw hI => ?_)
        refine lv_bipush (v := 47) S.1 S.2.1 dX12_product_24 (by decide) ?_
        refine lv_icmp_eq (tgt := 38) S.1 S.2.1 dX12_product_26 (by decide) (fun c26 => ?_) (fun c26 => ?_)
        · have hw := hw.1 c26
          exact b38 B4 hB4 u21 hw H locs ls hI (lv_sub hl [0] rfl)
        · have hw := hw.2 c26
          refine lv_aload_n S.1 S.2.1 dX12_product_29 rfl (lv_at hl 0 rfl) ?_
          refine m_vi (As := []) (rest := []) S (W12_self h r cs) hI rfl (c_X12_look l D h r cs u21 _ hw) (cwV 0 S.2.2.2.2 gX12_product_X12_look rfl rfl rfl (by decide +kernel) ⟨by simp only [rmS]; omega, by simp only [rmS]; omega⟩) (W12_at0 h r cs u21) rfl rfl hl.1 rfl (Nat.le_of_ble_eq_true rfl) dX12_product_30 ⟨Nat.zero_le _, Nat.zero_le _⟩ (fun y30 u30 H locs hw hI => ?_)
          refine lv_bipush (v := 37) S.1 S.2.1 dX12_product_33 (by decide) ?_
          refine lv_icmp_ne (tgt := 66) S.1 S.2.1 dX12_product_35 (by decide) (fun c35 => ?_) (fun c35 => ?_)
          · have hw := hw.1 c35
            exact b66 u30 hw H locs ls hI (lv_sub hl [0] rfl)
          · have hw := hw.2 c35
            exact b38 B4 hB4 u30 hw H locs ls hI (lv_sub hl [0] rfl)
  have b4 : ∀ (u : ST), wp_X12_product_p4 u P Q → mGo p l e (rmS (d + 1)) s m args below meth c A Z 2 D (mT cs) (W12 h r cs) 4 [(0, .ref h)] [] u := by
    intro u hw
    obtain ⟨I, μ, h0, hs⟩ := hw
    have key : ∀ (n : Nat) (u : ST), μ u = n → I u → mGo p l e (rmS (d + 1)) s m args below meth c A Z 2 D (mT cs) (W12 h r cs) 4 [(0, .ref h)] [] u := by
      intro n
      induction n using Nat.strongRecOn with
      | ind n ih =>
        intro u hn hi
        exact b4b (fun yu => I yu ∧ μ yu < μ u) (fun yu hb => ih _ (hn ▸ hb.2) yu rfl hb.1) u (hs u hi)
    exact key _ u rfl h0
  unfold wp_X12_product at hw
  obtain ⟨H, hH⟩ : ∃ z : Heap, z = s.heap := ⟨_, rfl⟩
  obtain ⟨locs, hL⟩ : ∃ z : List Loc, z = [] := ⟨_, rfl⟩
  rw [show W p l e (rmS (d + 1)) s m args below meth c s.heap [] 0 0 Z (F0 m 0 ls []) = W p l e (rmS (d + 1)) s m args below meth c H locs 0 0 Z (F0 m 0 ls []) by rw [hH, hL]]
  replace hI : mI D (mT cs) A s.heap s (W12 h r cs u) H locs := by rw [hH, hL]; exact hI
  refine lv_aload_n S.1 S.2.1 dX12_product_0 rfl (lv_at hl 0 rfl) ?_
  refine m_vv (As := []) (rest := []) S (W12_self h r cs) hI rfl (hP0 u _ hw) (cwV 0 S.2.2.2.2 gX12_product_X12_operand rfl rfl rfl (by decide +kernel) ⟨by simp only [rmS]; omega, by simp only [rmS]; omega⟩) (W12_at0 h r cs u) rfl rfl hl.1 rfl (Nat.le_of_ble_eq_true rfl) dX12_product_1 ⟨Nat.zero_le _, Nat.zero_le _⟩ (fun u1 H locs hw hI => ?_)
  exact b4 u1 hw H locs ls hI (lv_sub hl [0] rfl)

def drV (b : Int32) (K : Nat) (x : Int32) : Int32 := if K = 1 ∨ K = 4 then x + b + 3 else if K = 7 then (x + b) * 2 - 1 else if K = 6 then (x + b) * 2 else x + b
def drL (K : Nat) : List Int32 := if K = 1 ∨ K = 4 then [20, 1] else if K = 7 then [81, 70, 1] else if K = 6 then [70, 1] else [1]
def pBV (b : Int32) (K : Nat) (x : Int32) : Int32 := drV b K x * 2
def pBL (K : Nat) : List Int32 := 10 :: drL K
def mBV (b : Int32) (K : Nat) (x : Int32) : Int32 := -pBV b K x
def mBL (K : Nat) : List Int32 := 30 :: pBL K
def clV (b : Int32) (K : Nat) (x : Int32) : Int32 := if K = 5 then (x ^^^ b) * 3 - drV b K 2 else if K = 3 then (x ^^^ b) * 3 else x ^^^ b
def clL (K : Nat) : List Int32 := if K = 5 then 60 :: ([40, 11] ++ drL K) else if K = 3 then [40, 11] else [11]
def brV (b : Int32) (K : Nat) (x : Int32) : Int32 := if K = 3 ∨ K = 5 then mBV b K (x + 1) else if K = 7 then pBV b K x + clV b K 2 else if K = 2 then mBV b K x else pBV b K x
def brL (K : Nat) : List Int32 := if K = 3 ∨ K = 5 then 41 :: mBL K else if K = 7 then 80 :: (pBL K ++ clL K) else if K = 2 then mBL K else pBL K
def pTV (b : Int32) (K : Nat) (x : Int32) : Int32 := brV b K x - clV b K 1
def pTL (K : Nat) : List Int32 := 2 :: (brL K ++ clL K)
def teV (b : Int32) (K : Nat) (x : Int32) : Int32 := if K = 4 then pTV b K x ^^^ 5 else if K = 5 then pTV b K x + 1 else pTV b K x
def teL (K : Nat) : List Int32 := if K = 4 then 50 :: pTL K else if K = 5 then 61 :: pTL K else pTL K
theorem ce_w {b kd x v : Int32} {D m m' c a d : Nat} {l : List Int32} (h : CE b kd D m c a d x v l) (hm : m ≤ m') : CE b kd D m' c a d x v l :=
  ⟨Nat.le_trans h.1 hm, fun u k Q e hk => h.2 u k Q e (by omega)⟩
theorem ce_dr {b kd x : Int32} {D K d : Nat} (hK : K < 8) (hd : d + 4 < 24) : CE b kd (D + 6) 3 K 0 d x (drV b K x) (drL K) := by
  rcases (show K = 0 ∨ K = 1 ∨ K = 2 ∨ K = 3 ∨ K = 4 ∨ K = 5 ∨ K = 6 ∨ K = 7 by omega) with rfl | rfl | rfl | rfl | rfl | rfl | rfl | rfl
  · exact ce_w (ce_1 (D := D + 4) (by decide) (by omega) (by decide)) (by decide)
  · exact ce_w (ce_up (D := D + 4) (t := 1) (fun y => y + 3) (fun h => zres20 (by refine cast ?_ h; congr; funext y v; exact propext ⟨fun q t e => e ▸ q, fun q => q _ rfl⟩)) (by decide) (by decide) (by omega) (by decide) (by decide) (by decide) (ce_1 (D := D + 2) (by decide) (by omega) (by decide))) (by decide)
  · exact ce_w (ce_1 (D := D + 4) (by decide) (by omega) (by decide)) (by decide)
  · exact ce_w (ce_1 (D := D + 4) (by decide) (by omega) (by decide)) (by decide)
  · exact ce_w (ce_up (D := D + 4) (t := 1) (fun y => y + 3) (fun h => zres20 (by refine cast ?_ h; congr; funext y v; exact propext ⟨fun q t e => e ▸ q, fun q => q _ rfl⟩)) (by decide) (by decide) (by omega) (by decide) (by decide) (by decide) (ce_1 (D := D + 2) (by decide) (by omega) (by decide))) (by decide)
  · exact ce_w (ce_1 (D := D + 4) (by decide) (by omega) (by decide)) (by decide)
  · exact ce_w (ce_up (D := D + 4) (t := 6) (fun y => y * 2) (fun h => zres70 (by refine cast ?_ h; congr; funext y v; exact propext ⟨fun q t e => e ▸ q, fun q => q _ rfl⟩)) (by decide) (by decide) (by omega) (by decide) (by decide) (by decide) (ce_1 (D := D + 2) (by decide) (by omega) (by decide))) (by decide)
  · exact ce_w (ce_up (D := D + 4) (t := 7) (fun y => y - 1) (fun h => zres81 (by refine cast ?_ h; congr; funext y v; exact propext ⟨fun q t e => e ▸ q, fun q => q _ rfl⟩)) (by decide) (by decide) (by omega) (by decide) (by decide) (by decide) (ce_up (D := D + 2) (t := 6) (fun y => y * 2) (fun h => zres70 (by refine cast ?_ h; congr; funext y v; exact propext ⟨fun q t e => e ▸ q, fun q => q _ rfl⟩)) (by decide) (by decide) (by omega) (by decide) (by decide) (by decide) (ce_1 (D := D) (by decide) (by omega) (by decide)))) (by decide)

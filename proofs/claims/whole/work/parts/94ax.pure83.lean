theorem raw_eq (g : Int32 → Int32) (Q : Int32 → ST → Prop) : (fun (y : Int32) (v : ST) => ∀ t : Int32, t = g y → Q t v) = fun (y : Int32) (v : ST) => Q (g y) v := funext fun _ => funext fun _ => propext ⟨fun q => q _ rfl, fun q t e => e ▸ q⟩
theorem ce_pB {b x : Int32} {D K c d : Nat} (hK : K < 8) (hc : c < 8) (hf : fndN c 1 = 0) (hd : d + 5 < 24) : CE b (kI K) (D + 8) 4 c 1 d x (pBV b K x) (pBL K) := ce_10 (D := D + 6) hc (by omega) hf (ce_dr hK (by omega))
theorem ce_mB {b x : Int32} {D K c d : Nat} (hK : K < 8) (hc : c < 8) (hf : fndN c 1 = 2) (hd : d + 6 < 24) : CE b (kI K) (D + 10) 5 c 1 d x (mBV b K x) (mBL K) :=
  ce_up (D := D + 8) (t := 2) (a' := 1) (fun y => -y) (fun {up d u P Q} h => zres30 (by rw [raw_eq (fun y => -y) Q]; exact h)) hc (by decide) (by omega) (by decide) hf (by decide) (ce_pB hK (by decide) (by decide) (by omega))
theorem ce_cl3 {b kd x : Int32} {D c d : Nat} (hc : c < 8) (hf : fndN c 2 = 3) (hd : d + 3 < 24) : CE b kd (D + 4) 2 c 2 d x ((x ^^^ b) * 3) [40, 11] :=
  ce_up (D := D + 2) (t := 3) (a' := 2) (fun y => y * 3) (fun {up d u P Q} h => zres40 (by rw [raw_eq (fun y => y * 3) Q]; exact h)) hc (by decide) (by omega) (by decide) hf (by decide) (ce_11 (D := D) (by decide) (by omega) (by decide))
theorem ce_cl {b x : Int32} {D K d : Nat} (hK : K < 8) (hd : d + 6 < 24) : CE b (kI K) (D + 8) 6 K 2 d x (clV b K x) (clL K) := by
  rcases (show K = 0 ∨ K = 1 ∨ K = 2 ∨ K = 3 ∨ K = 4 ∨ K = 5 ∨ K = 6 ∨ K = 7 by omega) with rfl | rfl | rfl | rfl | rfl | rfl | rfl | rfl
  · exact ce_w (ce_11 (D := D + 6) (by decide) (by omega) (by decide)) (by decide)
  · exact ce_w (ce_11 (D := D + 6) (by decide) (by omega) (by decide)) (by decide)
  · exact ce_w (ce_11 (D := D + 6) (by decide) (by omega) (by decide)) (by decide)
  · exact ce_w (ce_cl3 (D := D + 4) (by decide) (by decide) (by omega)) (by decide)
  · exact ce_w (ce_11 (D := D + 6) (by decide) (by omega) (by decide)) (by decide)
  · exact ce_60 (D := D + 6) (m1 := 2) (m2 := 3) (by omega) (ce_cl3 (D := D + 2) (by decide) (by decide) (by omega)) (ce_dr (by decide) (by omega))
  · exact ce_w (ce_11 (D := D + 6) (by decide) (by omega) (by decide)) (by decide)
  · exact ce_w (ce_11 (D := D + 6) (by decide) (by omega) (by decide)) (by decide)
theorem ce_br3 {b x : Int32} {D K c d : Nat} (hK : K < 8) (hc : c < 8) (hf : fndN c 1 = 3) (hd : d + 7 < 24) : CE b (kI K) (D + 12) 6 c 1 d x (mBV b K (x + 1)) (41 :: mBL K) :=
  ce_up (D := D + 10) (t := 3) (a' := 1) (x' := x + 1) (fun y => y) (fun {up d u P Q} h => zres41 (by rintro _ rfl; exact h)) hc (by decide) (by omega) (by decide) hf (by decide) (ce_mB hK (by decide) (by decide) (by omega))
theorem ce_br {b x : Int32} {D K d : Nat} (hK : K < 8) (hd : d + 8 < 24) : CE b (kI K) (D + 12) 11 K 1 d x (brV b K x) (brL K) := by
  rcases (show K = 0 ∨ K = 1 ∨ K = 2 ∨ K = 3 ∨ K = 4 ∨ K = 5 ∨ K = 6 ∨ K = 7 by omega) with rfl | rfl | rfl | rfl | rfl | rfl | rfl | rfl
  · exact ce_w (ce_pB (D := D + 4) (by decide) (by decide) (by decide) (by omega)) (by decide)
  · exact ce_w (ce_pB (D := D + 4) (by decide) (by decide) (by decide) (by omega)) (by decide)
  · exact ce_w (ce_mB (D := D + 2) (by decide) (by decide) (by decide) (by omega)) (by decide)
  · exact ce_w (ce_br3 (D := D) (by decide) (by decide) (by decide) (by omega)) (by decide)
  · exact ce_w (ce_pB (D := D + 4) (by decide) (by decide) (by decide) (by omega)) (by decide)
  · exact ce_w (ce_br3 (D := D) (by decide) (by decide) (by decide) (by omega)) (by decide)
  · exact ce_w (ce_pB (D := D + 4) (by decide) (by decide) (by decide) (by omega)) (by decide)
  · exact ce_80 (D := D + 10) (m1 := 4) (m2 := 6) (by omega) (ce_pB (D := D + 2) (by decide) (by decide) (by decide) (by omega)) (ce_cl (D := D + 2) (by decide) (by omega))
theorem ce_pT {b x : Int32} {D K c d : Nat} (hK : K < 8) (hc : c < 8) (hf : fndN c 3 = 0) (hd : d + 9 < 24) : CE b (kI K) (D + 14) 18 c 3 d x (pTV b K x) (pTL K) :=
  ce_2 (D := D + 12) (m1 := 11) (m2 := 6) hc (by omega) hf (ce_br hK (by omega)) (ce_cl (D := D + 4) hK (by omega))
theorem ce_te {b x : Int32} {D K d : Nat} (hK : K < 8) (hd : d + 10 < 24) : CE b (kI K) (D + 16) 19 K 3 d x (teV b K x) (teL K) := by
  rcases (show K = 4 ∨ K = 5 ∨ (K = 0 ∨ K = 1 ∨ K = 2 ∨ K = 3 ∨ K = 6 ∨ K = 7) by omega) with rfl | rfl | h
  · exact ce_up (D := D + 14) (t := 4) (a' := 3) (fun y => y ^^^ 5) (fun {up d u P Q} h => zres50 (by rw [raw_eq (fun y => y ^^^ 5) Q]; exact h)) (by decide) (by decide) (by omega) (by decide) (by decide) (by decide) (ce_pT (by decide) (by decide) (by decide) (by omega))
  · exact ce_up (D := D + 14) (t := 5) (a' := 3) (fun y => y + 1) (fun {up d u P Q} h => zres61 (by rw [raw_eq (fun y => y + 1) Q]; exact h)) (by decide) (by decide) (by omega) (by decide) (by decide) (by decide) (ce_pT (by decide) (by decide) (by decide) (by omega))
  · have e1 : teV b K x = pTV b K x := by
      unfold teV
      rw [if_neg (by omega), if_neg (by omega)]
    have e2 : teL K = pTL K := by
      unfold teL
      rw [if_neg (by omega), if_neg (by omega)]
    rw [e1, e2]
    refine ce_w (ce_pT (D := D + 2) hK hK ?_ (by omega)) (by decide)
    rcases h with rfl | rfl | rfl | rfl | rfl | rfl <;> decide

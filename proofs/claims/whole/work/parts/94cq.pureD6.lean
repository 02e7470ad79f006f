/-! heights that are drawn -/
def sh8 (z : Int32) : Nat := (z.toUInt32 >>> 8).toNat
theorem sh8_lt (z : Int32) : sh8 z < 2 ^ 31 := by
  have h : sh8 z = z.toUInt32.toNat / 256 := by
    unfold sh8
    rw [UInt32.toNat_shiftRight, show (8 : UInt32).toNat % 32 = 8 from by decide, Nat.shiftRight_eq_div_pow]
  have := UInt32.toNat_lt z.toUInt32
  omega
theorem sh8_e (z : Int32) : (z.toUInt32 >>> ((8 : Int32).toUInt32 &&& Int32.toUInt32 31)).toInt32 = nI (sh8 z) := by
  rw [show (8 : Int32).toUInt32 &&& Int32.toUInt32 31 = (8 : UInt32) from by decide]
  unfold sh8
  generalize z.toUInt32 >>> 8 = x
  apply Int32.toBitVec_inj.mp
  show x.toBitVec = BitVec.ofNat 32 x.toBitVec.toNat
  rw [BitVec.ofNat_toNat, BitVec.setWidth_eq]
theorem nI_neg {a b : Nat} (h : a < b) (hb : b < 2 ^ 31) : ¬ 0 ≤ nI a - nI b := fun c => by
  rw [Int32.le_iff_toInt_le, Int32.toInt_sub, nI_toInt (by omega), nI_toInt hb, Int.bmod_def] at c
  have e0 : (0 : Int32).toInt = 0 := by decide
  rw [e0] at c
  split at c <;> omega
def HK (w : Nat → Nat) (r k : Nat) : Prop := r < psm w (k + 1) ∧ ∀ i : Nat, i < k → psm w (i + 1) ≤ r
def hkf (w : Nat → Nat) (r : Nat) : Nat → Nat → Nat
  | 0, k => k
  | f + 1, k => if r < psm w (k + 1) then k else hkf w r f (k + 1)
theorem hkf_eq {w : Nat → Nat} {r K : Nat} (h : HK w r K) : ∀ f k : Nat, k ≤ K → K < k + f → hkf w r f k = K
  | 0, k, h1, h2 => by omega
  | f + 1, k, h1, h2 => by
    unfold hkf
    by_cases c : k = K
    · subst c
      rw [if_pos h.1]
    · rw [if_neg (by
        have := h.2 k (by omega)
        omega)]
      exact hkf_eq h f (k + 1) (by omega) (by omega)
theorem HK_ex {w : Nat → Nat} {r N : Nat} (h : r < psm w (N + 1)) : ∃ k : Nat, k ≤ N ∧ HK w r k := by
  have key : ∀ n : Nat, (∃ k : Nat, k < n ∧ HK w r k) ∨ ∀ i : Nat, i < n → psm w (i + 1) ≤ r := by
    intro n
    induction n with
    | zero => exact .inr fun i hi => absurd hi (Nat.not_lt_zero _)
    | succ n ih =>
      rcases ih with ⟨k, hk, hh⟩ | ih
      · exact .inl ⟨k, by omega, hh⟩
      · by_cases c : r < psm w (n + 1)
        · exact .inl ⟨n, Nat.lt_succ_self n, c, ih⟩
        · refine .inr fun i hi => ?_
          by_cases c2 : i = n
          · subst c2
            omega
          · exact ih i (by omega)
  rcases key (N + 1) with ⟨k, hk, hh⟩ | q
  · exact ⟨k, by omega, hh⟩
  · have := q N (Nat.lt_succ_self N)
    omega
def e0N (o : Option (List zL)) (N J : Nat) : Nat → Nat := ew (fun h => wt o h N J) 0 N
/-- the height that a number stands for -/
def hgt (o : Option (List zL)) (N J : Nat) (z : Int32) : Nat := hkf (e0N o N J) (sh8 z % psm (e0N o N J) (N + 1)) 61 0
theorem e0N_p (o : Option (List zL)) (N J : Nat) : Wt (e0N o N J) 0 N = psm (e0N o N J) (N + 1) ∧ 1 ≤ psm (e0N o N J) (N + 1) := by
  have e : Wt (e0N o N J) 0 N = psm (e0N o N J) (N + 1) := Nat.sub_zero _
  have := Wt_e1 (fun h => wt o h N J) (Nat.zero_le N)
  exact ⟨e, by rw [← e]; exact this⟩
theorem hgt_ok (o : Option (List zL)) {N J : Nat} (hN : N ≤ 60) (z : Int32) : hgt o N J z ≤ N ∧ HK (e0N o N J) (sh8 z % psm (e0N o N J) (N + 1)) (hgt o N J z) := by
  obtain ⟨k, hk, hh⟩ := HK_ex (Nat.mod_lt (sh8 z) (e0N_p o N J).2)
  have e : hgt o N J z = k := hkf_eq hh 61 0 (Nat.zero_le _) (by omega)
  rw [e]
  exact ⟨hk, hh⟩
theorem hgt_eq {o : Option (List zL)} {N J k : Nat} (hN : N ≤ 60) (hk : k ≤ N) {z : Int32} (h : HK (e0N o N J) (sh8 z % psm (e0N o N J) (N + 1)) k) : k = hgt o N J z := (hkf_eq h 61 0 (Nat.zero_le _) (by omega)).symm
theorem zwAt {m : ST} {w rd : Nat → Nat} (hb : RMb m w rd) {k : Nat} (hk : k ≤ 60) {Q : Int32 → ST → Prop} (hq : Q (nI (w k)) m) : wp_X4_weightAt (nI k) m Q := by
  unfold wp_X4_weightAt wp_X4_weightAt_p20
  refine zWin (lo := 0) (hi := 60) (by omega) hk (by decide) ⟨fun c => absurd c (by decide), fun _ => ⟨nI_in (by omega) (by decide), ?_⟩⟩
  rw [nI_clamp (by omega), hb.2.1 k hk]
  rintro _ rfl
  exact hq
theorem zheightC {U : CS} {o : Option (List zL)} {v N J : Nat} {w : Nat → Nat} (t1 : gA (U 1) 0 0 = nI N) (hM : ME (U 6) o v N J w) (hN : N ≤ 60) {z : Int32} {Q : Int32 → CS → Prop} (hq : Q (nI (hgt o N J z)) U) : wp_X11_heightFor z U Q := by
  obtain ⟨rd, ⟨hb, hs, hwe⟩, -⟩ := hM
  have hw : okw w := hb.1
  have eW : Wt w 0 N = psm w (N + 1) := Nat.sub_zero _
  have eW2 : Wt w 0 N = Wt (fun h => wt o h N J) 0 N := Wt_cg (Nat.zero_le _) fun k _ k2 => hwe k k2
  have hz := sh8_lt z
  have hp := psm_le hw (N + 1) (by omega)
  have fin : ∀ (y : Int32) (k : Nat), k ≤ N → y = nI k → HK (e0N o N J) (sh8 z % psm (e0N o N J) (N + 1)) k → Q y U := fun y k hk ey hh => by
    rw [ey, hgt_eq hN hk hh]
    exact hq
  unfold wp_X11_heightFor
  refine zstepsT ?_
  rintro _ rfl
  rw [mu_self, t1]
  refine zwTo hN hs (Nat.le_refl _) ?_
  rintro _ rfl
  rw [mu_self, sh8_e]
  refine ⟨fun c => ?_, fun c => ?_⟩
  · have c := (nI_ltI (a := 0) (by decide) (by omega)).mp c
    have ee : e0N o N J = fun h => wt o h N J := if_neg (by omega)
    have ep : ∀ n : Nat, n ≤ N + 1 → psm w n = psm (e0N o N J) n := fun n hn => by
      rw [ee]
      exact psm_cgl n fun k hk => hwe k (by omega)
    rintro _ rfl
    refine ⟨fun c2 => ?_, ?_⟩
    · have := (nI_z0 (by omega)).mp c2
      omega
    rw [nI_remd hz (by omega) c]
    rintro _ rfl
    have hr := Nat.mod_lt (sh8 z) c
    rw [ep (N + 1) (Nat.le_refl _)] at hr ⊢
    generalize sh8 z % psm (e0N o N J) (N + 1) = r at hr fin
    have hp2 := hp
    rw [ep (N + 1) (Nat.le_refl _)] at hp2
    unfold wp_X11_heightFor_p41
    refine ⟨fun x2 x4 x5 u => x2 = nI N ∧ u = U ∧ ∃ k : Nat, k ≤ N ∧ x5 = nI k ∧ x4 = nI (r - psm (e0N o N J) k) ∧ psm (e0N o N J) k ≤ r ∧ ∀ i : Nat, i < k → psm (e0N o N J) (i + 1) ≤ r, fun _ _ x5 _ => 61 - x5.toNatClampNeg, ⟨rfl, rfl, 0, Nat.zero_le _, rfl, rfl, Nat.zero_le _, fun i hi => absurd hi (Nat.not_lt_zero _)⟩, ?_⟩
    rintro _ _ _ u ⟨rfl, eu, k, hk, rfl, rfl, hkr, hmin⟩
    subst eu
    unfold wp_X11_heightFor_p41b
    refine ⟨fun c2 => ?_, fun c2 => ?_⟩
    · have ek : k = N := by
        have := (nI_leI (by omega) (by omega)).mp c2
        omega
      subst ek
      exact fin _ _ (Nat.le_refl _) rfl ⟨hr, hmin⟩
    have hkN : k < N := by
      have := mt (nI_leI (a := N) (b := k) (by omega) (by omega)).mpr c2
      omega
    refine zwAt hb (by omega) ?_
    rintro _ rfl
    rw [mu_self]
    have es : psm (e0N o N J) (k + 1) = psm (e0N o N J) k + w k := by
      rw [← ep (k + 1) (by omega), ← ep k (by omega)]
      rfl
    have hwk := hw k (by omega)
    rintro _ rfl
    by_cases cr : psm (e0N o N J) (k + 1) ≤ r
    · rw [nI_sub (by omega), show r - psm (e0N o N J) k - w k = r - psm (e0N o N J) (k + 1) by omega]
      refine ⟨fun _ => ?_, fun c3 => absurd (nI_pos' (by omega)) c3⟩
      rw [nI_1]
      rintro _ rfl
      refine ⟨⟨rfl, rfl, k + 1, by omega, rfl, rfl, cr, fun i hi => ?_⟩, ?_⟩
      · by_cases c3 : i = k
        · subst c3
          exact cr
        · exact hmin i (by omega)
      · try dsimp only
        rw [nI_clamp (by omega), nI_clamp (by omega)]
        omega
    · refine ⟨fun c3 => absurd c3 (nI_neg (by omega) (by omega)), fun _ => fin _ k hk rfl ⟨by omega, hmin⟩⟩
  · have c : psm w (N + 1) = 0 := by
      have := mt (nI_ltI (a := 0) (b := psm w (N + 1)) (by decide) (by omega)).mpr c
      omega
    have ee : e0N o N J = fun _ => 1 := if_pos (by omega)
    rintro _ rfl
    rw [nI_1]
    rintro _ rfl
    refine ⟨fun c2 => ?_, ?_⟩
    · have := (nI_z0 (by omega)).mp c2
      omega
    rw [nI_remd hz (by omega) (by omega)]
    rintro _ rfl
    have hl := Nat.mod_lt (sh8 z) (show 0 < N + 1 by omega)
    refine fin _ (sh8 z % (N + 1)) (by omega) rfl ?_
    rw [ee, psm_1]
    refine ⟨by rw [psm_1]; omega, fun i hi => ?_⟩
    rw [psm_1]
    omega
theorem zheightR {V L : ST} {o : Option (List zL)} {N J : Nat} (hL : RLw L V o) (v1 : gI V 1 = nI N) (v2 : gI V 2 = nI J) (hN : N ≤ 60) {z : Int32} (hz : gI V 45 = z) {Q : Int32 → ST → Prop} (hq : ∀ V' : ST, Ag [22, 23, 30, 45] V' V → gI V' 45 = z * (1103515245 : Int32) + (12345 : Int32) → Q (nI (hgt o N J (z * (1103515245 : Int32) + (12345 : Int32)))) V') : wp_X12_drawHeight V Q := by
  have hw0 : okw (fun h => wt o h N J) := fun h _ => wt_le o h N J
  unfold wp_X12_drawHeight
  rw [hz]
  rintro _ rfl _ rfl _ rfl
  have hA0 : Ag [22, 23, 30, 45] (sI V 45 (z * (1103515245 : Int32) + (12345 : Int32))) V := Ag_sI (Ag_r _ _) (by decide) _
  have e45 : gI (sI V 45 (z * (1103515245 : Int32) + (12345 : Int32))) 45 = z * (1103515245 : Int32) + (12345 : Int32) := rfl
  rw [e45]
  generalize sI V 45 (z * (1103515245 : Int32) + (12345 : Int32)) = X at hA0 e45
  generalize z * (1103515245 : Int32) + (12345 : Int32) = y at *
  have x1 : gI X 1 = nI N := (Ag_I hA0 1 (by decide)).trans v1
  have x2 : gI X 2 = nI J := (Ag_I hA0 2 (by decide)).trans v2
  have hLX : RLw L X o := RLw_ag hL (Ag_r [] L) (by decide) (by decide) hA0 (by decide) (by decide) (by decide) (by decide) (by decide) (by decide)
  have hy := sh8_lt y
  rw [sh8_e, x1]
  rintro _ rfl
  refine zfindWe (lo := 0) hLX x1 x2 (Nat.zero_le _) (Nat.le_refl _) hN fun V' hA hrow => ?_
  have hp := psm_le (ew_ok hw0 0 N) (N + 1) (by omega)
  obtain ⟨hk, hh⟩ := hgt_ok o (J := J) hN y
  have hq := hq V' (Ag_t (Ag_m hA (by decide)) hA0) ((Ag_I hA 45 (by decide)).trans e45)
  have eP := e0N_p o N J
  rw [show ew (fun h => wt o h N J) 0 N = e0N o N J from rfl] at hrow hp ⊢
  rw [eP.1]
  refine ⟨fun c2 => ?_, ?_⟩
  · have := (nI_z0 (by omega)).mp c2
    omega
  rw [nI_remd hy (by omega) (by omega)]
  rintro _ rfl
  have hr := Nat.mod_lt (sh8 y) (show 0 < psm (e0N o N J) (N + 1) by omega)
  generalize sh8 y % psm (e0N o N J) (N + 1) = r at hh hr
  generalize hgt o N J y = k at hh hk hq
  unfold wp_X12_drawHeight_p36
  refine ⟨fun x1 x2 u => x1 = nI r ∧ u = V' ∧ ∃ i : Nat, i ≤ k ∧ x2 = nI i, fun _ x2 _ => 61 - x2.toNatClampNeg, ⟨rfl, rfl, 0, Nat.zero_le _, rfl⟩, ?_⟩
  rintro _ _ _ ⟨rfl, rfl, i, hi, rfl⟩
  unfold wp_X12_drawHeight_p36b
  rw [nI_1]
  rintro _ rfl
  refine ⟨nI_in (by omega) (by decide), ?_⟩
  have hm := psm_mono (e0N o N J) (show i + 1 ≤ N + 1 by omega)
  rw [nI_clamp (by omega), hrow (i + 1) (Nat.zero_le _) (by omega), show psm (e0N o N J) (i + 1) - psm (e0N o N J) 0 = psm (e0N o N J) (i + 1) from Nat.sub_zero _]
  rintro _ rfl
  refine ⟨fun c => ?_, fun c => ?_⟩
  · have c := (nI_ltI (by omega) (by omega)).mp c
    have ek : i = k := by
      by_cases c2 : i = k
      · exact c2
      · have := hh.2 i (by omega)
        omega
    subst ek
    exact hq
  · have c := mt (nI_ltI (a := r) (b := psm (e0N o N J) (i + 1)) (by omega) (by omega)).mpr c
    rintro _ rfl
    refine ⟨⟨rfl, rfl, i + 1, ?_, rfl⟩, ?_⟩
    · by_cases c2 : i = k
      · subst c2
        exact absurd hh.1 c
      · omega
    · try dsimp only
      rw [nI_clamp (by omega), nI_clamp (by omega)]
      omega

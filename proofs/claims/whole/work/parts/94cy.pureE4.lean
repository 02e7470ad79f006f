/-! the start, and the loop -/
theorem rel_T0 : RT (U0 1) (U0 25) := ⟨0, 0, fun k => if k = 0 then 20 else if k = 1 then 2 else if k = 2 then 1 else 10, fun _ => 0, fun _ => 0, fun _ => 0, by decide, rfl, rfl, rfl, rfl, fun k hk => by
  unfold OKv
  rcases (show k = 0 ∨ k = 1 ∨ k = 2 ∨ k = 3 by omega) with rfl | rfl | rfl | rfl <;> exact ⟨rfl, rfl, by decide, by decide⟩, fun i hi => absurd hi (Nat.not_lt_zero _)⟩
theorem rel_S0 : RS U0 (U0 25) := ⟨0, Nat.zero_le _, rfl, fun s hs => by
  rcases (show s = 0 ∨ s = 1 ∨ s = 2 ∨ s = 3 ∨ s = 4 ∨ s = 5 by omega) with rfl | rfl | rfl | rfl | rfl | rfl <;> exact .inl ⟨rfl, rfl, rfl⟩⟩
theorem rel_M0 : RMe (U0 6) none 0 := ⟨fun _ => 0, fun _ => 0, ⟨fun _ _ => Nat.zero_le _, fun _ _ => rfl, rfl, fun _ _ => ⟨Nat.zero_le _, rfl⟩, fun _ _ _ _ _ h => absurd h (Nat.not_lt_zero _)⟩, .inl rfl⟩
theorem rel_0 : Rel 0 U0 (U0 25) := ⟨0, none, Nat.le_refl _, rel_T0, ⟨0, Nat.zero_le _, rfl, rfl, fun i hi => absurd hi (Nat.not_lt_zero _)⟩, ⟨rfl, rfl⟩, rfl, ⟨rfl, .inl rfl⟩, ⟨rfl, .inl rfl⟩, ⟨rfl, .inl rfl⟩, rel_M0, .inl rfl, .inl rfl, ⟨.inr ⟨rfl, rfl⟩, rfl, rfl, rfl, rfl, rfl, rfl, rfl, rfl⟩, .inl ⟨rfl, rfl⟩, ⟨0, 0, Nat.zero_le _, rfl, rfl, fun i hi => absurd hi (Nat.not_lt_zero _), rfl, rfl, by decide, fun i hi => absurd hi (Nat.not_lt_zero _)⟩, rel_S0, .inl rfl⟩
theorem Rel_y {n : Nat} {U X : CS} {V : ST} (h : Rel n U V) (e : ∀ k : Nat, k < 25 → X k = U k) : Rel n X V := by
  obtain ⟨v, o, hvn, hT, hL0, hLw, hv, hd3, hd4, hd5, hM, hr7, hr2, hD, hK, hB, hS, hW⟩ := h
  have hK2 : RK X V := by
    unfold RK at hK ⊢
    rw [e 0 (by decide), e 15 (by decide), e 16 (by decide)]
    exact hK
  refine ⟨v, o, hvn, ?_⟩
  unfold RelO
  rw [e 1 (by decide), e 2 (by decide), e 3 (by decide), e 4 (by decide), e 5 (by decide), e 6 (by decide), e 7 (by decide), e 8 (by decide), e 13 (by decide), e 14 (by decide), e 17 (by decide)]
  exact ⟨hT, hL0, hLw, hv, hd3, hd4, hd5, hM, hr7, hr2, hD, hK2, hB, RS_U hS fun s hs => e (18 + s) (by omega), hW⟩
theorem Rel_z {n : Nat} {u U' : CS} {V' : ST} (h : Rel n U' V') : Rel n (mu (embT u U') 25 V') (mu (embT u U') 25 V' 25) := by
  rw [mu_at]
  refine Rel_y h fun k hk => ?_
  rw [mu_ne _ _ (by omega)]
  exact if_pos hk
theorem embT25 (u U' : CS) : embT u U' 25 = u 25 := if_neg (Nat.lt_irrefl 25)
theorem lroom {L i : Nat} (hL : L ≤ 3072) (hi : i ≤ 600) (c : ¬ Int32.ofNat L - (6 : Int32) < nI (6 * i)) : 6 * i + 6 ≤ L := by
  by_cases h : L < 6
  · have h1 := Int32.le_trans (nI_pos' (n := 6 * i) (by omega)) (Int32.not_lt.mp c)
    exact absurd h1 (nI_neg (a := L) (b := 6) h (by decide))
  · rw [show Int32.ofNat L - (6 : Int32) = nI (L - 6) from nI_sub (a := L) (b := 6) (by omega)] at c
    have := mt (nI_ltI (a := L - 6) (b := 6 * i) (by omega) (by omega)).mpr c
    omega
set_option maxRecDepth 100000 in
theorem lbody {L i : Nat} {xs : Nat → Int32} (hL : L ≤ 3072) (hi : i ≤ 600) {u : CS} (hR : Rel i u (u 25)) {B Q : Int32 → CS → Prop} (hB : ∀ X : CS, 6 * i + 6 ≤ L → Rel (i + 1) X (X 25) → B (nI (6 * i) + 6) X) (hQ : Q 1 u) : wp_L_law_p18b L xs (nI (6 * i)) u B Q := by
  have hn : i < 1000 := by omega
  unfold wp_L_law_p18b wp_L_law_p1386
  rintro _ rfl
  refine ⟨fun _ => ⟨by decide, hQ⟩, fun c => ?_⟩
  have hr := lroom hL hi c
  have hB := fun X => hB X hr
  have h0 : vp_in (nI (6 * i)) L := nI_in (by omega) (by omega)
  have h1 : vp_in (nI (6 * i) + (1 : Int32)) L := by
    rw [show nI (6 * i) + (1 : Int32) = nI (6 * i + 1) from nI_add _ 1]
    exact nI_in (by omega) (by omega)
  have h2 : vp_in (nI (6 * i) + (2 : Int32)) L := by
    rw [show nI (6 * i) + (2 : Int32) = nI (6 * i + 2) from nI_add _ 2]
    exact nI_in (by omega) (by omega)
  have h3 : vp_in (nI (6 * i) + (3 : Int32)) L := by
    rw [show nI (6 * i) + (3 : Int32) = nI (6 * i + 3) from nI_add _ 3]
    exact nI_in (by omega) (by omega)
  have h4 : vp_in (nI (6 * i) + (4 : Int32)) L := by
    rw [show nI (6 * i) + (4 : Int32) = nI (6 * i + 4) from nI_add _ 4]
    exact nI_in (by omega) (by omega)
  have h5 : vp_in (nI (6 * i) + (5 : Int32)) L := by
    rw [show nI (6 * i) + (5 : Int32) = nI (6 * i + 5) from nI_add _ 5]
    exact nI_in (by omega) (by omega)
  generalize nI (6 * i) = x3 at *
  refine ⟨h0, ?_⟩
  rintro _ rfl
  intro y32 e32
  clear e32
  refine ⟨fun _ => ?_, fun _ => ?_⟩
  · rintro _ rfl
    refine ⟨h1, ?_⟩
    rintro _ rfl
    rintro _ rfl
    refine ⟨h2, ?_⟩
    rintro _ rfl
    refine (st_mend hn hR _ _) _ fun y U' hK => ?_
    rintro _ rfl
    rw [embT25]
    rintro _ rfl
    refine ⟨h1, ?_⟩
    rintro _ rfl
    rintro _ rfl
    refine ⟨h2, ?_⟩
    rintro _ rfl
    refine hK _ fun V' hV => ?_
    rintro _ rfl
    refine ⟨fun _ => ?_, fun c => absurd rfl c⟩
    rintro _ rfl
    exact hB _ (Rel_z hV)
  refine ⟨fun _ => ?_, fun _ => ?_⟩
  · rintro _ rfl
    refine ⟨h1, ?_⟩
    rintro _ rfl
    refine (st_of hn hR _) _ fun y U' hK => ?_
    rintro _ rfl
    rw [embT25]
    rintro _ rfl
    refine ⟨h1, ?_⟩
    rintro _ rfl
    refine hK _ fun V' hV => ?_
    rintro _ rfl
    refine ⟨fun _ => ?_, fun c => absurd rfl c⟩
    rintro _ rfl
    exact hB _ (Rel_z hV)
  refine ⟨fun _ => ?_, fun _ => ?_⟩
  · rintro _ rfl
    refine ⟨h1, ?_⟩
    rintro _ rfl
    refine (st_feed hn hR _) _ fun y U' hK => ?_
    rintro _ rfl
    rw [embT25]
    rintro _ rfl
    refine ⟨h1, ?_⟩
    rintro _ rfl
    refine hK _ fun V' hV => ?_
    rintro _ rfl
    refine ⟨fun _ => ?_, fun c => absurd rfl c⟩
    rintro _ rfl
    exact hB _ (Rel_z hV)
  refine ⟨fun _ => ?_, fun _ => ?_⟩
  · refine (st_law hn hR) _ fun y U' hK => ?_
    rintro _ rfl
    rw [embT25]
    refine hK _ fun V' hV => ?_
    rintro _ rfl
    refine ⟨fun _ => ?_, fun c => absurd rfl c⟩
    rintro _ rfl
    exact hB _ (Rel_z hV)
  refine ⟨fun _ => ?_, fun _ => ?_⟩
  · rintro _ rfl
    refine ⟨h1, ?_⟩
    rintro _ rfl
    refine (st_weight hn hR _) _ fun y U' hK => ?_
    rintro _ rfl
    rw [embT25]
    rintro _ rfl
    refine ⟨h1, ?_⟩
    rintro _ rfl
    refine hK _ fun V' hV => ?_
    rintro _ rfl
    refine ⟨fun _ => ?_, fun c => absurd rfl c⟩
    rintro _ rfl
    exact hB _ (Rel_z hV)
  refine ⟨fun _ => ?_, fun _ => ?_⟩
  · rintro _ rfl
    refine ⟨h1, ?_⟩
    rintro _ rfl
    rintro _ rfl
    refine ⟨h2, ?_⟩
    rintro _ rfl
    refine (st_worst hn hR _ _) _ fun y U' hK => ?_
    rintro _ rfl
    rw [embT25]
    rintro _ rfl
    refine ⟨h1, ?_⟩
    rintro _ rfl
    rintro _ rfl
    refine ⟨h2, ?_⟩
    rintro _ rfl
    refine hK _ fun V' hV => ?_
    rintro _ rfl
    refine ⟨fun _ => ?_, fun c => absurd rfl c⟩
    rintro _ rfl
    exact hB _ (Rel_z hV)
  refine ⟨fun _ => ?_, fun _ => ?_⟩
  · rintro _ rfl
    refine ⟨h1, ?_⟩
    rintro _ rfl
    refine (st_reach hn hR _) _ fun y U' hK => ?_
    rintro _ rfl
    rw [embT25]
    rintro _ rfl
    refine ⟨h1, ?_⟩
    rintro _ rfl
    refine hK _ fun V' hV => ?_
    rintro _ rfl
    refine ⟨fun _ => ?_, fun c => absurd rfl c⟩
    rintro _ rfl
    exact hB _ (Rel_z hV)
  refine ⟨fun _ => ?_, fun _ => ?_⟩
  · rintro _ rfl
    refine ⟨h1, ?_⟩
    rintro _ rfl
    rintro _ rfl
    refine ⟨h2, ?_⟩
    rintro _ rfl
    rintro _ rfl
    refine ⟨h3, ?_⟩
    rintro _ rfl
    refine (st_mean hn hR _ _ _) _ fun y U' hK => ?_
    rintro _ rfl
    rw [embT25]
    rintro _ rfl
    refine ⟨h1, ?_⟩
    rintro _ rfl
    rintro _ rfl
    refine ⟨h2, ?_⟩
    rintro _ rfl
    rintro _ rfl
    refine ⟨h3, ?_⟩
    rintro _ rfl
    refine hK _ fun V' hV => ?_
    rintro _ rfl
    refine ⟨fun _ => ?_, fun c => absurd rfl c⟩
    rintro _ rfl
    exact hB _ (Rel_z hV)
  refine ⟨fun _ => ?_, fun _ => ?_⟩
  · rintro _ rfl
    refine ⟨h1, ?_⟩
    rintro _ rfl
    rintro _ rfl
    refine ⟨h2, ?_⟩
    rintro _ rfl
    refine (st_meanFirst hn hR _ _) _ fun y U' hK => ?_
    rintro _ rfl
    rw [embT25]
    rintro _ rfl
    refine ⟨h1, ?_⟩
    rintro _ rfl
    rintro _ rfl
    refine ⟨h2, ?_⟩
    rintro _ rfl
    refine hK _ fun V' hV => ?_
    rintro _ rfl
    refine ⟨fun _ => ?_, fun c => absurd rfl c⟩
    rintro _ rfl
    exact hB _ (Rel_z hV)
  refine ⟨fun _ => ?_, fun _ => ?_⟩
  · rintro _ rfl
    refine ⟨h1, ?_⟩
    rintro _ rfl
    rintro _ rfl
    refine ⟨h2, ?_⟩
    rintro _ rfl
    rintro _ rfl
    refine ⟨h3, ?_⟩
    rintro _ rfl
    refine (st_trodden hn hR _ _ _) _ fun y U' hK => ?_
    rintro _ rfl
    rw [embT25]
    rintro _ rfl
    refine ⟨h1, ?_⟩
    rintro _ rfl
    rintro _ rfl
    refine ⟨h2, ?_⟩
    rintro _ rfl
    rintro _ rfl
    refine ⟨h3, ?_⟩
    rintro _ rfl
    refine hK _ fun V' hV => ?_
    rintro _ rfl
    refine ⟨fun _ => ?_, fun c => absurd rfl c⟩
    rintro _ rfl
    exact hB _ (Rel_z hV)
  refine ⟨fun _ => ?_, fun _ => ?_⟩
  · rintro _ rfl
    refine ⟨h1, ?_⟩
    rintro _ rfl
    rintro _ rfl
    refine ⟨h2, ?_⟩
    rintro _ rfl
    refine (st_price hn hR _ _) _ fun y U' hK => ?_
    rintro _ rfl
    rw [embT25]
    rintro _ rfl
    refine ⟨h1, ?_⟩
    rintro _ rfl
    rintro _ rfl
    refine ⟨h2, ?_⟩
    rintro _ rfl
    refine hK _ fun V' hV => ?_
    rintro _ rfl
    refine ⟨fun _ => ?_, fun c => absurd rfl c⟩
    rintro _ rfl
    exact hB _ (Rel_z hV)
  refine ⟨fun _ => ?_, fun _ => ?_⟩
  · rintro _ rfl
    refine ⟨h1, ?_⟩
    rintro _ rfl
    rintro _ rfl
    refine ⟨h2, ?_⟩
    rintro _ rfl
    rintro _ rfl
    refine ⟨h3, ?_⟩
    rintro _ rfl
    refine (st_two hn hR _ _ _) _ fun y U' hK => ?_
    rintro _ rfl
    rw [embT25]
    rintro _ rfl
    refine ⟨h1, ?_⟩
    rintro _ rfl
    rintro _ rfl
    refine ⟨h2, ?_⟩
    rintro _ rfl
    rintro _ rfl
    refine ⟨h3, ?_⟩
    rintro _ rfl
    refine hK _ fun V' hV => ?_
    rintro _ rfl
    refine ⟨fun _ => ?_, fun c => absurd rfl c⟩
    rintro _ rfl
    exact hB _ (Rel_z hV)
  refine ⟨fun _ => ?_, fun _ => ?_⟩
  · rintro _ rfl
    refine ⟨h1, ?_⟩
    rintro _ rfl
    rintro _ rfl
    refine ⟨h2, ?_⟩
    rintro _ rfl
    rintro _ rfl
    refine ⟨h3, ?_⟩
    rintro _ rfl
    refine (st_ruled hn hR _ _ _) _ fun y U' hK => ?_
    rintro _ rfl
    rw [embT25]
    rintro _ rfl
    refine ⟨h1, ?_⟩
    rintro _ rfl
    rintro _ rfl
    refine ⟨h2, ?_⟩
    rintro _ rfl
    rintro _ rfl
    refine ⟨h3, ?_⟩
    rintro _ rfl
    refine hK _ fun V' hV => ?_
    rintro _ rfl
    refine ⟨fun _ => ?_, fun c => absurd rfl c⟩
    rintro _ rfl
    exact hB _ (Rel_z hV)
  refine ⟨fun _ => ?_, fun _ => ?_⟩
  · rintro _ rfl
    refine ⟨h1, ?_⟩
    rintro _ rfl
    rintro _ rfl
    refine ⟨h2, ?_⟩
    rintro _ rfl
    rintro _ rfl
    refine ⟨h3, ?_⟩
    rintro _ rfl
    refine (st_step hn hR _ _ _) _ fun y U' hK => ?_
    rintro _ rfl
    rw [embT25]
    rintro _ rfl
    refine ⟨h1, ?_⟩
    rintro _ rfl
    rintro _ rfl
    refine ⟨h2, ?_⟩
    rintro _ rfl
    rintro _ rfl
    refine ⟨h3, ?_⟩
    rintro _ rfl
    refine hK _ fun V' hV => ?_
    rintro _ rfl
    refine ⟨fun _ => ?_, fun c => absurd rfl c⟩
    rintro _ rfl
    exact hB _ (Rel_z hV)
  refine ⟨fun _ => ?_, fun _ => ?_⟩
  · rintro _ rfl
    refine ⟨h1, ?_⟩
    rintro _ rfl
    rintro _ rfl
    refine ⟨h2, ?_⟩
    rintro _ rfl
    refine (st_shards hn hR _ _) _ fun y U' hK => ?_
    rintro _ rfl
    rw [embT25]
    rintro _ rfl
    refine ⟨h1, ?_⟩
    rintro _ rfl
    rintro _ rfl
    refine ⟨h2, ?_⟩
    rintro _ rfl
    refine hK _ fun V' hV => ?_
    rintro _ rfl
    rintro _ rfl
    refine ⟨fun _ => ?_, fun c => absurd ((lg_cmp_eq _ _).mpr rfl) c⟩
    rintro _ rfl
    exact hB _ (Rel_z hV)
  refine ⟨fun _ => ?_, fun _ => ?_⟩
  · rintro _ rfl
    refine ⟨h1, ?_⟩
    rintro _ rfl
    refine (st_judge hn hR _) _ fun y U' hK => ?_
    rintro _ rfl
    rw [embT25]
    rintro _ rfl
    refine ⟨h1, ?_⟩
    rintro _ rfl
    refine hK _ fun V' hV => ?_
    rintro _ rfl
    refine ⟨fun _ => ?_, fun c => absurd rfl c⟩
    rintro _ rfl
    exact hB _ (Rel_z hV)
  refine ⟨fun _ => ?_, fun _ => ?_⟩
  · rintro _ rfl
    refine ⟨h1, ?_⟩
    rintro _ rfl
    rintro _ rfl
    refine ⟨h2, ?_⟩
    rintro _ rfl
    refine (st_left hn hR _ _) _ fun y U' hK => ?_
    rintro _ rfl
    rw [embT25]
    rintro _ rfl
    refine ⟨h1, ?_⟩
    rintro _ rfl
    rintro _ rfl
    refine ⟨h2, ?_⟩
    rintro _ rfl
    refine hK _ fun V' hV => ?_
    rintro _ rfl
    refine ⟨fun _ => ?_, fun c => absurd rfl c⟩
    rintro _ rfl
    exact hB _ (Rel_z hV)
  refine ⟨fun _ => ?_, fun _ => ?_⟩
  · rintro _ rfl
    refine ⟨h1, ?_⟩
    rintro _ rfl
    refine (st_wise hn hR _) _ fun y U' hK => ?_
    rintro _ rfl
    rw [embT25]
    rintro _ rfl
    refine ⟨h1, ?_⟩
    rintro _ rfl
    refine hK _ fun V' hV => ?_
    rintro _ rfl
    refine ⟨fun _ => ?_, fun c => absurd rfl c⟩
    rintro _ rfl
    exact hB _ (Rel_z hV)
  refine ⟨fun _ => ?_, fun _ => ?_⟩
  · rintro _ rfl
    refine ⟨h1, ?_⟩
    rintro _ rfl
    rintro _ rfl
    refine ⟨h2, ?_⟩
    rintro _ rfl
    rintro _ rfl
    refine ⟨h3, ?_⟩
    rintro _ rfl
    refine (st_drawn hn hR _ _ _) _ fun y U' hK => ?_
    rintro _ rfl
    rw [embT25]
    rintro _ rfl
    refine ⟨h1, ?_⟩
    rintro _ rfl
    rintro _ rfl
    refine ⟨h2, ?_⟩
    rintro _ rfl
    rintro _ rfl
    refine ⟨h3, ?_⟩
    rintro _ rfl
    refine hK _ fun V' hV => ?_
    rintro _ rfl
    refine ⟨fun _ => ?_, fun c => absurd rfl c⟩
    rintro _ rfl
    exact hB _ (Rel_z hV)
  refine ⟨fun _ => ?_, fun _ => ?_⟩
  · rintro _ rfl
    refine ⟨h1, ?_⟩
    rintro _ rfl
    refine (st_hide hn hR _) _ fun y U' hK => ?_
    rintro _ rfl
    rw [embT25]
    rintro _ rfl
    refine ⟨h1, ?_⟩
    rintro _ rfl
    refine hK _ fun V' hV => ?_
    rintro _ rfl
    refine ⟨fun _ => ?_, fun c => absurd rfl c⟩
    rintro _ rfl
    exact hB _ (Rel_z hV)
  refine ⟨fun _ => ?_, fun _ => ?_⟩
  · rintro _ rfl
    refine ⟨h1, ?_⟩
    rintro _ rfl
    refine (st_drop hn hR _) _ fun y U' hK => ?_
    rintro _ rfl
    rw [embT25]
    rintro _ rfl
    refine ⟨h1, ?_⟩
    rintro _ rfl
    refine hK _ fun V' hV => ?_
    rintro _ rfl
    refine ⟨fun _ => ?_, fun c => absurd rfl c⟩
    rintro _ rfl
    exact hB _ (Rel_z hV)
  refine ⟨fun _ => ?_, fun _ => ?_⟩
  · rintro _ rfl
    refine ⟨h1, ?_⟩
    rintro _ rfl
    rintro _ rfl
    refine ⟨h2, ?_⟩
    rintro _ rfl
    rintro _ rfl
    refine ⟨h3, ?_⟩
    rintro _ rfl
    refine (st_drops hn hR _ _ _) _ fun y U' hK => ?_
    rintro _ rfl
    rw [embT25]
    rintro _ rfl
    refine ⟨h1, ?_⟩
    rintro _ rfl
    rintro _ rfl
    refine ⟨h2, ?_⟩
    rintro _ rfl
    rintro _ rfl
    refine ⟨h3, ?_⟩
    rintro _ rfl
    refine hK _ fun V' hV => ?_
    rintro _ rfl
    refine ⟨fun _ => ?_, fun c => absurd rfl c⟩
    rintro _ rfl
    exact hB _ (Rel_z hV)
  refine ⟨fun _ => ?_, fun _ => ?_⟩
  · rintro _ rfl
    refine ⟨h1, ?_⟩
    rintro _ rfl
    refine (st_guess hn hR _) _ fun y U' hK => ?_
    rintro _ rfl
    rw [embT25]
    rintro _ rfl
    refine ⟨h1, ?_⟩
    rintro _ rfl
    refine hK _ fun V' hV => ?_
    rintro _ rfl
    refine ⟨fun _ => ?_, fun c => absurd rfl c⟩
    rintro _ rfl
    exact hB _ (Rel_z hV)
  refine ⟨fun _ => ?_, fun _ => ?_⟩
  · rintro _ rfl
    refine ⟨h1, ?_⟩
    rintro _ rfl
    refine (st_led hn hR _) _ fun y U' hK => ?_
    rintro _ rfl
    rw [embT25]
    rintro _ rfl
    refine ⟨h1, ?_⟩
    rintro _ rfl
    refine hK _ fun V' hV => ?_
    rintro _ rfl
    refine ⟨fun _ => ?_, fun c => absurd rfl c⟩
    rintro _ rfl
    exact hB _ (Rel_z hV)
  refine ⟨fun _ => ?_, fun _ => ?_⟩
  · refine (st_image hn hR) _ fun y U' hK => ?_
    rintro _ rfl
    rw [embT25]
    refine hK _ fun V' hV => ?_
    rintro _ rfl
    refine ⟨fun _ => ?_, fun c => absurd rfl c⟩
    rintro _ rfl
    exact hB _ (Rel_z hV)
  refine ⟨fun _ => ?_, fun _ => ?_⟩
  · refine (st_back hn hR) _ fun y U' hK => ?_
    rintro _ rfl
    rw [embT25]
    refine hK _ fun V' hV => ?_
    rintro _ rfl
    refine ⟨fun _ => ?_, fun c => absurd rfl c⟩
    rintro _ rfl
    exact hB _ (Rel_z hV)
  refine ⟨fun _ => ?_, fun _ => ?_⟩
  · refine (st_undo hn hR) _ fun y U' hK => ?_
    rintro _ rfl
    rw [embT25]
    refine hK _ fun V' hV => ?_
    rintro _ rfl
    refine ⟨fun _ => ?_, fun c => absurd rfl c⟩
    rintro _ rfl
    exact hB _ (Rel_z hV)
  refine ⟨fun _ => ?_, fun _ => ?_⟩
  · refine (st_redo hn hR) _ fun y U' hK => ?_
    rintro _ rfl
    rw [embT25]
    refine hK _ fun V' hV => ?_
    rintro _ rfl
    refine ⟨fun _ => ?_, fun c => absurd rfl c⟩
    rintro _ rfl
    exact hB _ (Rel_z hV)
  refine ⟨fun _ => ?_, fun _ => ?_⟩
  · rintro _ rfl
    refine ⟨h1, ?_⟩
    rintro _ rfl
    refine (st_body hn hR _) _ fun y U' hK => ?_
    rintro _ rfl
    rw [embT25]
    rintro _ rfl
    refine ⟨h1, ?_⟩
    rintro _ rfl
    refine hK _ fun V' hV => ?_
    rintro _ rfl
    refine ⟨fun _ => ?_, fun c => absurd rfl c⟩
    rintro _ rfl
    exact hB _ (Rel_z hV)
  refine ⟨fun _ => ?_, fun _ => ?_⟩
  · rintro _ rfl
    refine ⟨h1, ?_⟩
    rintro _ rfl
    rintro _ rfl
    refine ⟨h2, ?_⟩
    rintro _ rfl
    rintro _ rfl
    refine ⟨h3, ?_⟩
    rintro _ rfl
    refine (st_act hn hR _ _ _) _ fun y U' hK => ?_
    rintro _ rfl
    rw [embT25]
    rintro _ rfl
    refine ⟨h1, ?_⟩
    rintro _ rfl
    rintro _ rfl
    refine ⟨h2, ?_⟩
    rintro _ rfl
    rintro _ rfl
    refine ⟨h3, ?_⟩
    rintro _ rfl
    refine hK _ fun V' hV => ?_
    rintro _ rfl
    refine ⟨fun _ => ?_, fun c => absurd rfl c⟩
    rintro _ rfl
    exact hB _ (Rel_z hV)
  refine ⟨fun _ => ?_, fun _ => ?_⟩
  · rintro _ rfl
    refine ⟨h1, ?_⟩
    rintro _ rfl
    refine (st_trace hn hR _) _ fun y U' hK => ?_
    rintro _ rfl
    rw [embT25]
    rintro _ rfl
    refine ⟨h1, ?_⟩
    rintro _ rfl
    refine hK _ fun V' hV => ?_
    rintro _ rfl
    refine ⟨fun _ => ?_, fun c => absurd rfl c⟩
    rintro _ rfl
    exact hB _ (Rel_z hV)
  refine ⟨fun _ => ?_, fun _ => ?_⟩
  · rintro _ rfl
    refine ⟨h1, ?_⟩
    rintro _ rfl
    rintro _ rfl
    refine ⟨h2, ?_⟩
    rintro _ rfl
    refine (st_keep hn hR _ _) _ fun y U' hK => ?_
    rintro _ rfl
    rw [embT25]
    rintro _ rfl
    refine ⟨h1, ?_⟩
    rintro _ rfl
    rintro _ rfl
    refine ⟨h2, ?_⟩
    rintro _ rfl
    refine hK _ fun V' hV => ?_
    rintro _ rfl
    refine ⟨fun _ => ?_, fun c => absurd rfl c⟩
    rintro _ rfl
    exact hB _ (Rel_z hV)
  refine ⟨fun _ => ?_, fun _ => ?_⟩
  · rintro _ rfl
    refine ⟨h1, ?_⟩
    rintro _ rfl
    rintro _ rfl
    refine ⟨h2, ?_⟩
    rintro _ rfl
    rintro _ rfl
    refine ⟨h3, ?_⟩
    rintro _ rfl
    refine (st_row hn hR _ _ _) _ fun y U' hK => ?_
    rintro _ rfl
    rw [embT25]
    rintro _ rfl
    refine ⟨h1, ?_⟩
    rintro _ rfl
    rintro _ rfl
    refine ⟨h2, ?_⟩
    rintro _ rfl
    rintro _ rfl
    refine ⟨h3, ?_⟩
    rintro _ rfl
    refine hK _ fun V' hV => ?_
    rintro _ rfl
    refine ⟨fun _ => ?_, fun c => absurd rfl c⟩
    rintro _ rfl
    exact hB _ (Rel_z hV)
  refine ⟨fun _ => ?_, fun _ => ?_⟩
  · rintro _ rfl
    refine ⟨h1, ?_⟩
    rintro _ rfl _ rfl
    refine ⟨h2, ?_⟩
    rintro _ rfl _ rfl
    refine ⟨h3, ?_⟩
    rintro _ rfl _ rfl _ rfl _ rfl
    refine ⟨h4, ?_⟩
    rintro _ rfl _ rfl _ rfl _ rfl
    refine (st_put hn hR _ _ _) _ fun y U' hK => ?_
    rintro _ rfl
    rw [embT25]
    rintro _ rfl
    refine ⟨h1, ?_⟩
    rintro _ rfl _ rfl
    refine ⟨h2, ?_⟩
    rintro _ rfl _ rfl
    refine ⟨h3, ?_⟩
    rintro _ rfl _ rfl _ rfl _ rfl
    refine ⟨h4, ?_⟩
    rintro _ rfl _ rfl _ rfl _ rfl
    refine hK _ fun V' hV => ?_
    rintro _ rfl
    refine ⟨fun _ => ?_, fun c => absurd rfl c⟩
    rintro _ rfl
    exact hB _ (Rel_z hV)
  refine ⟨fun _ => ?_, fun _ => ?_⟩
  · rintro _ rfl
    refine ⟨h1, ?_⟩
    rintro _ rfl
    rintro _ rfl
    refine ⟨h2, ?_⟩
    rintro _ rfl
    refine (st_element hn hR _ _) _ fun y U' hK => ?_
    rintro _ rfl
    rw [embT25]
    rintro _ rfl
    refine ⟨h1, ?_⟩
    rintro _ rfl
    rintro _ rfl
    refine ⟨h2, ?_⟩
    rintro _ rfl
    refine hK _ fun V' hV => ?_
    rintro _ rfl
    rintro _ rfl
    refine ⟨fun _ => ?_, fun c => absurd ((lg_cmp_eq _ _).mpr rfl) c⟩
    rintro _ rfl
    exact hB _ (Rel_z hV)
  refine ⟨fun _ => ?_, fun _ => ?_⟩
  · rintro _ rfl
    refine ⟨h1, ?_⟩
    rintro _ rfl
    rintro _ rfl
    refine ⟨h2, ?_⟩
    rintro _ rfl
    rintro _ rfl
    refine ⟨h3, ?_⟩
    rintro _ rfl
    rintro _ rfl
    refine ⟨h4, ?_⟩
    rintro _ rfl
    rintro _ rfl
    refine ⟨h5, ?_⟩
    rintro _ rfl
    refine (st_shift hn hR _ _ _ _ _) _ fun y U' hK => ?_
    rintro _ rfl
    rw [embT25]
    rintro _ rfl
    refine ⟨h1, ?_⟩
    rintro _ rfl
    rintro _ rfl
    refine ⟨h2, ?_⟩
    rintro _ rfl
    rintro _ rfl
    refine ⟨h3, ?_⟩
    rintro _ rfl
    rintro _ rfl
    refine ⟨h4, ?_⟩
    rintro _ rfl
    rintro _ rfl
    refine ⟨h5, ?_⟩
    rintro _ rfl
    refine hK _ fun V' hV => ?_
    rintro _ rfl
    refine ⟨fun _ => ?_, fun c => absurd rfl c⟩
    rintro _ rfl
    exact hB _ (Rel_z hV)
  refine ⟨fun _ => ?_, fun _ => ?_⟩
  · rintro _ rfl
    refine ⟨h1, ?_⟩
    rintro _ rfl
    rintro _ rfl
    refine ⟨h2, ?_⟩
    rintro _ rfl
    refine (st_taken hn hR _ _) _ fun y U' hK => ?_
    rintro _ rfl
    rw [embT25]
    rintro _ rfl
    refine ⟨h1, ?_⟩
    rintro _ rfl
    rintro _ rfl
    refine ⟨h2, ?_⟩
    rintro _ rfl
    refine hK _ fun V' hV => ?_
    rintro _ rfl
    refine ⟨fun _ => ?_, fun c => absurd rfl c⟩
    rintro _ rfl
    exact hB _ (Rel_z hV)
  refine ⟨fun _ => ?_, fun _ => ?_⟩
  · rintro _ rfl
    refine ⟨h1, ?_⟩
    rintro _ rfl
    refine (st_count hn hR _) _ fun y U' hK => ?_
    rintro _ rfl
    rw [embT25]
    rintro _ rfl
    refine ⟨h1, ?_⟩
    rintro _ rfl
    refine hK _ fun V' hV => ?_
    rintro _ rfl
    refine ⟨fun _ => ?_, fun c => absurd rfl c⟩
    rintro _ rfl
    exact hB _ (Rel_z hV)
  rintro _ rfl
  exact hB _ (Rel_s hR)
theorem hpure0 (L : Nat) (xs : Nat → Int32) (hL : L ≤ 3072) : wp_L_law_p18 L xs 0 U0 (fun v _ => v = 1) := by
  unfold wp_L_law_p18
  refine ⟨fun x3 u => ∃ i : Nat, x3 = nI (6 * i) ∧ i ≤ 600 ∧ Rel i u (u 25), fun x3 _ => 4000 - x3.toNatClampNeg, ⟨0, rfl, by decide, rel_0⟩, ?_⟩
  rintro _ u ⟨i, rfl, hi, hR⟩
  refine lbody hL hi hR (fun X hr hX => ?_) rfl
  rw [show nI (6 * i) + (6 : Int32) = nI (6 * (i + 1)) from nI_add _ 6]
  refine ⟨⟨i + 1, rfl, by omega, hX⟩, ?_⟩
  try dsimp only
  rw [nI_clamp (by omega), nI_clamp (by omega)]
  omega
theorem whole_start {p : Program} {e : Env} {s : State} {m : MethodId} {below : List Frame} {meth : Method} {c : Code} (l : Launch) (_ : l.flags = flags0) {b L : Nat} {xs : Nat → Int32} (hL : L ≤ 3072) (C0 : lw_At p s m meth c b L xs) : W p l e room_1 s m #[Value.ref b] below meth c s.heap [] 0 0 (lw_Z below #[Value.ref b] s) (entryFrame m ([Value.ref b] : List Value).toArray 4) := whole_start_open l hpure0 hL C0

set_option maxRecDepth 8192 in
theorem zelement {U : CS} {V : ST} (hS : RS U V) (a1 a2 : Int32) : SimJ (wp_X11_element a1 a2 U) (wp_X12_element a1 a2 V) (fun U' V' => U' = U ∧ V' = V) := by
  intro Q h
  obtain ⟨y, hc, hr, ⟨rfl, s, so, m, i, hs, rfl, rfl, him, hso, hm, p1, p2, p3, p4, p5, p6⟩ | ⟨hy, hy0, hyn⟩⟩ := zplace hS a1 a2
  · unfold wp_X11_element wp_X11_element_p25
    refine hc _ ⟨fun _ => ⟨nI_in hs (by decide), ?_⟩, fun c => absurd rfl c⟩
    rw [nI_clamp (by omega)]
    unfold wp_X6_get wp_X6_get_p21 wp_X6_get_p22
    refine ⟨fun c => absurd c (nI_pos (by omega)), fun _ => ?_⟩
    rw [p3]
    refine ⟨fun c => absurd ((nI_leI (by omega) (by omega)).mp c) (by omega), fun _ => ⟨nI_in (by omega) (by decide), ?_⟩⟩
    rintro _ rfl _ rfl
    rw [mu_self, nI_clamp (by omega), p6 i (by omega)]
    refine h _ _ fun K hK => ?_
    unfold wp_X12_element wp_X12_element_p26
    refine hr _ ⟨fun _ => ?_, fun c => absurd (by decide) c⟩
    rw [show (60 : Int32) * nI s = nI (60 * s) from pk_mul 60 s]
    rintro _ rfl
    rw [nI_add]
    rintro _ rfl
    refine ⟨nI_in (by omega) (by decide), ?_⟩
    rintro _ rfl
    rw [nI_clamp (by omega)]
    exact hK _ ⟨rfl, rfl⟩
  · unfold wp_X11_element wp_X11_element_p25
    refine hc _ ⟨fun c => absurd c hy0, fun _ => h _ _ fun K hK => ?_⟩
    unfold wp_X12_element wp_X12_element_p26
    exact hr _ ⟨fun c => absurd c hyn, fun _ => hK _ ⟨rfl, rfl⟩⟩
set_option maxRecDepth 8192 in
theorem zput {U : CS} {V : ST} (hS : RS U V) (a1 a2 : Int32) (a3 : Int64) : Sim (wp_X11_put a1 a2 a3 U) (wp_X12_put a1 a2 a3 V) (RSx U V) := by
  intro Q h
  have hS0 := hS
  obtain ⟨y, hc, hr, ⟨rfl, s, so, m, i, hs, rfl, rfl, him, hso, hm, p1, p2, p3, p4, p5, p6⟩ | ⟨hy, hy0, hyn⟩⟩ := zplace hS a1 a2
  · obtain ⟨n, hn, e9, hS⟩ := hS
    have main : ∀ v : Int64, (∀ Q' : Int64 → ST → Prop, Q' v (U (18 + s)) → wp_X6_lowest a3 (U (18 + s)) Q') → (∀ K : Int32 → ST → Prop, wp_X12_put_p95 (nI (60 * s + i)) v V K → wp_X12_put (nI s) (nI i) a3 V K) → wp_X11_put (nI s) (nI i) a3 U Q := by
      intro v hcl hrf
      unfold wp_X11_put
      refine hc _ ⟨fun _ => ⟨nI_in hs (by decide), ?_⟩, fun c => absurd rfl c⟩
      rw [nI_clamp (by omega)]
      unfold wp_X6_set wp_X6_set_p23
      refine ⟨fun c => absurd c (nI_pos (by omega)), fun _ => ?_⟩
      rw [p3]
      refine ⟨fun c => absurd ((nI_leI (by omega) (by omega)).mp c) (by omega), fun _ => hcl _ ⟨nI_in (by omega) (by decide), ?_⟩⟩
      rintro _ rfl _ rfl
      rw [nI_clamp (by omega)]
      refine h _ _ fun K hK => hrf _ ?_
      unfold wp_X12_put_p95
      refine ⟨nI_in (by omega) (by decide), ?_⟩
      rintro _ rfl
      rw [nI_clamp (by omega)]
      refine hK _ ⟨RS_upd hn e9 hS hs rfl (fun t ht hts => ⟨rfl, rfl, fun j hj => ?_⟩) (.inr (.inr ⟨so, m, hso, hm, p1, p2, p3, p4, p5, fun j hj => ?_⟩)), AgU_mu (AgU_r _ _) ?_ _, Ag_sJ (Ag_r _ _) (by decide) _⟩
      · refine Eq.trans (b := vp_updL (gJ V 55) (60 * s + i) v (60 * t + j)) rfl (pk_uLn ?_)
        omega
      · refine Eq.trans (b := vp_updL (gJ (U (18 + s)) 0) i v j) rfl (Eq.trans ?_ (Eq.trans (a := vp_updL (gJ V 55) (60 * s + i) v (60 * s + j)) rfl rfl))
        by_cases c : j = i
        · subst c
          rw [pk_uLs, pk_uLs]
        · rw [pk_uLn c, pk_uLn (by omega)]
          exact p6 j hj
      · simp only [List.mem_cons, List.not_mem_nil, or_false]
        omega
    have hrf : ∀ {K : Int32 → ST → Prop}, (∀ y24 : Int32, y24 = nI so → ((¬ y24 = 0 → ((¬ y24 = (1 : Int32) → ((¬ y24 = (2 : Int32) → ((¬ y24 = (3 : Int32) → (∀ y86 : Int32, y86 = lg_cmp a3 (0 : Int64) → ((y86 = 0 → wp_X12_put_p95 (nI (60 * s + i)) (0 : Int64) V K) ∧ (¬ y86 = 0 → wp_X12_put_p95 (nI (60 * s + i)) (1 : Int64) V K)))) ∧ (y24 = (3 : Int32) → wp_X12_put_p95 (nI (60 * s + i)) a3 V K))) ∧ (y24 = (2 : Int32) → (∀ y69 : Int32, y69 = a3.toInt32 → (∀ y70 : Int64, y70 = y69.toInt64 → wp_X12_put_p95 (nI (60 * s + i)) y70 V K))))) ∧ (y24 = (1 : Int32) → (∀ y56 : Int32, y56 = a3.toInt32 → (∀ y57 : Int32, y57 = y56.toInt16.toInt32 → (∀ y58 : Int64, y58 = y57.toInt64 → wp_X12_put_p95 (nI (60 * s + i)) y58 V K)))))) ∧ (y24 = 0 → (∀ y43 : Int32, y43 = a3.toInt32 → (∀ y44 : Int32, y44 = y43.toInt8.toInt32 → (∀ y45 : Int64, y45 = y44.toInt64 → wp_X12_put_p95 (nI (60 * s + i)) y45 V K)))))) → wp_X12_put (nI s) (nI i) a3 V K := by
      intro K hk
      unfold wp_X12_put
      refine hr _ ⟨fun _ => ⟨nI_in hs (by decide), ?_⟩, fun c => absurd (by decide) c⟩
      rintro _ rfl
      rw [nI_clamp (by omega), p4]
      rintro _ rfl
      rw [show (60 : Int32) * nI s = nI (60 * s) from pk_mul 60 s]
      rintro _ rfl
      rw [nI_add]
      rintro _ rfl
      refine hk _ ?_
      rcases (show so = 0 ∨ so = 1 ∨ so = 2 ∨ so = 3 ∨ so = 4 by omega) with e | e | e | e | e <;> rw [e] <;> decide
    rcases (show so = 0 ∨ so = 1 ∨ so = 2 ∨ so = 3 ∨ so = 4 by omega) with rfl | rfl | rfl | rfl | rfl
    · refine main (a3.toInt32.toInt8.toInt32.toInt64) (fun Q' hq => ?_) (fun K hk => hrf ?_)
      · unfold wp_X6_lowest
        rw [p2]
        exact ⟨fun _ => by rintro _ rfl _ rfl _ rfl; exact hq, fun c => absurd rfl c⟩
      · rintro _ rfl
        exact ⟨fun c => absurd rfl c, fun _ => by rintro _ rfl _ rfl _ rfl; exact hk⟩
    · refine main (a3.toInt32.toInt16.toInt32.toInt64) (fun Q' hq => ?_) (fun K hk => hrf ?_)
      · unfold wp_X6_lowest
        rw [p2]
        exact ⟨fun c => absurd c (by decide), fun _ => ⟨fun _ => by rintro _ rfl _ rfl _ rfl; exact hq, fun c => absurd rfl c⟩⟩
      · rintro _ rfl
        exact ⟨fun _ => ⟨fun c => absurd rfl c, fun _ => by rintro _ rfl _ rfl _ rfl; exact hk⟩, fun c => absurd c (by decide)⟩
    · refine main (a3.toInt32.toInt64) (fun Q' hq => ?_) (fun K hk => hrf ?_)
      · unfold wp_X6_lowest
        rw [p2]
        exact ⟨fun c => absurd c (by decide), fun _ => ⟨fun c => absurd c (by decide), fun _ => ⟨fun _ => by rintro _ rfl _ rfl; exact hq, fun c => absurd rfl c⟩⟩⟩
      · rintro _ rfl
        exact ⟨fun _ => ⟨fun _ => ⟨fun c => absurd rfl c, fun _ => by rintro _ rfl _ rfl; exact hk⟩, fun c => absurd c (by decide)⟩, fun c => absurd c (by decide)⟩
    · refine main a3 (fun Q' hq => ?_) (fun K hk => hrf ?_)
      · unfold wp_X6_lowest
        rw [p2]
        exact ⟨fun c => absurd c (by decide), fun _ => ⟨fun c => absurd c (by decide), fun _ => ⟨fun c => absurd c (by decide), fun _ => ⟨fun _ => hq, fun c => absurd rfl c⟩⟩⟩⟩
      · rintro _ rfl
        exact ⟨fun _ => ⟨fun _ => ⟨fun _ => ⟨fun c => absurd rfl c, fun _ => hk⟩, fun c => absurd c (by decide)⟩, fun c => absurd c (by decide)⟩, fun c => absurd c (by decide)⟩
    · refine main (if lg_cmp a3 0 = 0 then 0 else 1) (fun Q' hq => ?_) (fun K hk => hrf ?_)
      · unfold wp_X6_lowest wp_X6_lowest_p63
        rw [p2]
        refine ⟨fun c => absurd c (by decide), fun _ => ⟨fun c => absurd c (by decide), fun _ => ⟨fun c => absurd c (by decide), fun _ => ⟨fun c => absurd c (by decide), fun _ => ?_⟩⟩⟩⟩
        rintro _ rfl
        exact ⟨fun c => by rw [if_pos c] at hq; exact hq, fun c => by rw [if_neg c] at hq; exact hq⟩
      · rintro _ rfl
        refine ⟨fun _ => ⟨fun _ => ⟨fun _ => ⟨fun _ => ?_, fun c => absurd c (by decide)⟩, fun c => absurd c (by decide)⟩, fun c => absurd c (by decide)⟩, fun c => absurd c (by decide)⟩
        rintro _ rfl
        exact ⟨fun c => by rw [if_pos c] at hk; exact hk, fun c => by rw [if_neg c] at hk; exact hk⟩
  · unfold wp_X11_put
    refine hc _ ⟨fun c => absurd c hy0, fun _ => h _ _ fun K hK => ?_⟩
    unfold wp_X12_put
    exact hr _ ⟨fun c => absurd c hyn, fun _ => hK _ ⟨hS0, AgU_r _ _, Ag_r _ _⟩⟩

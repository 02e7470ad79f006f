/-! lines and the whole text, read by the class -/
def fl1 (l : zL) : List Int32 := if l.1.isEmpty = true then l.2 ++ [-59] else l.1 ++ [-63] ++ l.2 ++ [-59]
def flt : List zL → List Int32
  | [] => []
  | l :: ls => fl1 l ++ flt ls
theorem flt_app : ∀ ls ms : List zL, flt (ls ++ ms) = flt ls ++ flt ms
  | [], _ => rfl
  | l :: ls, ms => by
    show fl1 l ++ flt (ls ++ ms) = (fl1 l ++ flt ls) ++ flt ms
    rw [flt_app ls ms, List.append_assoc]
/-- a line: what counts, and the test ahead of it, if there is one -/
def okl (l : zL) : Prop := PE l.2 ∧ (l.1.isEmpty = false → PE l.1)
def okL (n : Nat) (s : Nat → Bool × zL × Nat) : Prop := ∀ p : Nat, p ≤ n → p ≤ (s p).2.2 ∧ (s p).2.2 ≤ n ∧ ((s p).1 = true → p < (s p).2.2 ∧ (fl1 (s p).2.1).length + p ≤ (s p).2.2 + 1 ∧ (s p).2.1.1.length + (s p).2.1.2.length + p ≤ (s p).2.2 ∧ okl (s p).2.1)
theorem okL_lin {x : Nat → Nat} {n : Nat} (hx : ∀ p : Nat, x p < 256 → p < n) : okL n (lin x) := by
  intro p hp
  obtain ⟨q1, q2, q3⟩ := okR_exq hx p hp
  unfold lin
  by_cases c : (exq x p).1 = true
  · rw [if_pos c]
    obtain ⟨q4, q5, q6, q7⟩ := q3 c
    by_cases c2 : x (exq x p).2.2 = 63
    · rw [if_pos c2]
      have h1 := hx (exq x p).2.2 (by omega)
      obtain ⟨r1, r2, r3⟩ := okR_exq hx ((exq x p).2.2 + 1) (by omega)
      by_cases c3 : (exq x ((exq x p).2.2 + 1)).1 = true
      · rw [if_pos c3]
        obtain ⟨r4, r5, r6, r7⟩ := r3 c3
        have ne : (exq x p).2.1.isEmpty = false := by
          cases h : (exq x p).2.1 with
          | nil => rw [h] at q5; exact absurd q5 (by decide)
          | cons _ _ => rfl
        refine ⟨?_, r2, fun _ => ⟨?_, ?_, ?_, r7, fun _ => q7⟩⟩
        · show p ≤ (exq x ((exq x p).2.2 + 1)).2.2
          omega
        · show p < (exq x ((exq x p).2.2 + 1)).2.2
          omega
        · unfold fl1
          try dsimp only
          rw [if_neg (by rw [ne]; decide)]
          simp only [List.length_append, List.length_singleton]
          omega
        · show (exq x p).2.1.length + (exq x ((exq x p).2.2 + 1)).2.1.length + p ≤ (exq x ((exq x p).2.2 + 1)).2.2
          omega
      · rw [if_neg c3]
        refine ⟨?_, r2, fun c => ff c⟩
        show p ≤ (exq x ((exq x p).2.2 + 1)).2.2
        omega
    · rw [if_neg c2]
      refine ⟨q1, q2, fun _ => ⟨q4, ?_, ?_, q7, fun c => Bool.noConfusion (show true = false from c)⟩⟩
      · unfold fl1
        try dsimp only
        rw [if_pos (by rfl)]
        simp only [List.length_append, List.length_singleton]
        omega
      · show 0 + (exq x p).2.1.length + p ≤ (exq x p).2.2
        omega
  · rw [if_neg c]
    exact ⟨q1, q2, fun c => ff c⟩
theorem cl_lin {t : Nat → Nat} {n : Nat} (hn : n ≤ 120) (ht : ∀ i : Nat, i < n → t i < 256) {p : Nat} (hp : p ≤ n) {u : ST} {c : Nat} {Q : Int32 → ST → Prop} (hT : TC t n u) (e7 : gI u 7 = nI p) (e6 : gI u 6 = nI c) (hc : c ≤ p)
    (h1 : (lin (nxt t n) p).1 = true → ∀ u' : ST, WC c u u' (fl1 (lin (nxt t n) p).2.1) (lin (nxt t n) p).2.2 → Q 1 u') (h0 : (lin (nxt t n) p).1 = false → ∀ u' : ST, WF u u' (lin (nxt t n) p).2.2 → Q 0 u') : wp_X3_readLine u Q := by
  unfold wp_X3_readLine wp_X3_readLine_p47
  obtain ⟨q1, q2, q3⟩ := okR_exq (x := nxt t n) nxt_lt p hp
  have hb := nxt_le ht (exq (nxt t n) p).2.2
  unfold lin at h1 h0
  refine cc_exq hn ht hp u c _ hT e7 e6 hc (fun g u' hu => ⟨fun _ => ?_, fun c3 => absurd c3 (by decide)⟩) (fun g u' hu => ⟨fun c3 => absurd rfl c3, fun _ => ⟨by decide, ?_⟩⟩)
  rotate_left
  · rw [if_neg (by rw [g]; decide)] at h0
    exact h0 rfl u' hu
  rw [if_pos g] at h1 h0
  obtain ⟨q4, q5, q6, q7⟩ := q3 g
  refine znext hn ht (TC_ag hT hu.1) hu.2.1 q2 ?_
  rw [show (nxc (nxt t n (exq (nxt t n) p).2.2) = (63 : Int32)) ↔ nxt t n (exq (nxt t n) p).2.2 = 63 from nxc_eq (c := 63) hb (by decide), hu.2.1, nI_1]
  refine ⟨fun c2 => ?_, fun c2 => ?_⟩
  · rw [if_neg c2] at h1
    refine zwrite hu.2.2.1 (by omega) ⟨by decide, h1 rfl _ ?_⟩
    unfold fl1
    try dsimp only
    rw [if_pos (by rfl)]
    exact WC_app hu (WC_w1 (-59) hu.2.1)
  rw [if_pos c2] at h1 h0
  have hpn := nxt_lt (t := t) (n := n) (exq (nxt t n) p).2.2 (by omega)
  rintro _ rfl _ rfl
  have w1 := WC_app hu (WC_pl ((exq (nxt t n) p).2.2 + 1) hu.2.2.1)
  rw [List.append_nil] at w1
  refine zwrite (c := c + (exq (nxt t n) p).2.1.length) w1.2.2.1 (by omega) ?_
  have w2 := WC_app w1 (WC_w1 (-63) w1.2.1)
  obtain ⟨r1, r2, r3⟩ := okR_exq (x := nxt t n) nxt_lt ((exq (nxt t n) p).2.2 + 1) (by omega)
  refine cc_exq hn ht (p := (exq (nxt t n) p).2.2 + 1) (by omega) _ (c + ((exq (nxt t n) p).2.1 ++ [-63]).length) _ (TC_ag hT w2.1) w2.2.1 w2.2.2.1 (by rw [List.length_append, List.length_singleton]; omega) (fun g2 u2 hu2 => ⟨fun _ => ?_, fun c3 => absurd c3 (by decide)⟩) (fun g2 u2 hu2 => ⟨fun c3 => absurd rfl c3, fun _ => ⟨by decide, ?_⟩⟩)
  · rw [if_pos g2] at h1
    obtain ⟨r4, r5, r6, r7⟩ := r3 g2
    have w3 := WC_app w2 hu2
    have hlen : ((exq (nxt t n) p).2.1 ++ [-63] ++ (exq (nxt t n) ((exq (nxt t n) p).2.2 + 1)).2.1).length = (exq (nxt t n) p).2.1.length + 1 + (exq (nxt t n) ((exq (nxt t n) p).2.2 + 1)).2.1.length := by
      simp only [List.length_append, List.length_singleton]
    refine zwrite w3.2.2.1 (by omega) ⟨by decide, h1 rfl _ ?_⟩
    have ne : (exq (nxt t n) p).2.1.isEmpty = false := by
      cases h : (exq (nxt t n) p).2.1 with
      | nil => rw [h] at q5; exact absurd q5 (by decide)
      | cons _ _ => rfl
    unfold fl1
    try dsimp only
    rw [if_neg (by rw [ne]; decide)]
    exact WC_app w3 (WC_w1 (-59) w3.2.1)
  · rw [if_neg (by rw [g2]; decide)] at h0
    exact h0 rfl u2 (WF_t (WF_of w2) hu2)
theorem zread {t : Nat → Nat} {n : Nat} (hn : n ≤ 120) (ht : ∀ i : Nat, i < n → t i < 256) {u : ST} {Q : Int32 → ST → Prop} (hT : TC t n u)
    (h1 : (txt (nxt t n) n).1 = true → ∀ u' : ST, Ag [3, 6, 7] u' u → gI u' 6 = nI (flt (txt (nxt t n) n).2.1).length → (flt (txt (nxt t n) n).2.1).length ≤ 121 → (∀ l ∈ (txt (nxt t n) n).2.1, okl l) → AtF id (gA u' 3) 0 (flt (txt (nxt t n) n).2.1) → Q 1 u')
    (h0 : (txt (nxt t n) n).1 = false → ∀ u' : ST, WF u u' (txt (nxt t n) n).2.2 → Q 0 u') : wp_X3_readText u Q := by
  unfold wp_X3_readText
  rintro _ rfl _ rfl
  have hA : Ag [3, 6, 7] (sI (sI u 7 0) 6 0) u := Ag_sI (Ag_sI (Ag_r _ _) (by decide) _) (by decide) _
  have hok := okL_lin (x := nxt t n) nxt_lt
  obtain ⟨q1, q2, q3⟩ := hok 0 (by omega)
  unfold txt at h1 h0
  refine cl_lin hn ht (p := 0) (by omega) (c := 0) (TC_ag hT hA) rfl rfl (Nat.le_refl _) (fun g u' hu => ⟨fun _ => ?_, fun c3 => absurd c3 (by decide)⟩) (fun g u' hu => ⟨fun c3 => absurd rfl c3, fun _ => ⟨by decide, ?_⟩⟩)
  rotate_left
  · rw [if_neg (by rw [g]; decide)] at h0
    exact h0 rfl u' ⟨Ag_t hu.1 hA, hu.2⟩
  rw [if_pos g] at h1 h0
  obtain ⟨q4, q5, -, q6⟩ := q3 g
  generalize hF : lns (nxt t n) 119 [(lin (nxt t n) 0).2.1] (lin (nxt t n) 0).2.2 = F at h1 h0
  unfold wp_X3_readText_p21
  refine ⟨fun x1 v => ∃ (k : Nat) (ls : List zL) (q : Nat), k ≤ 119 ∧ x1 = nI (120 - k) ∧ WC 0 (sI (sI u 7 0) 6 0) v (flt ls) q ∧ (flt ls).length ≤ q + 1 ∧ q ≤ n ∧ (∀ l ∈ ls, okl l) ∧ lns (nxt t n) k ls q = F, fun x1 _ => 120 - x1.toNatClampNeg, ⟨119, [(lin (nxt t n) 0).2.1], (lin (nxt t n) 0).2.2, by omega, rfl, ?_, ?_, q2, ?_, hF⟩, ?_⟩
  · show WC 0 _ _ (fl1 _ ++ []) _
    rw [List.append_nil]
    exact hu
  · show (fl1 _ ++ []).length ≤ _
    rw [List.append_nil]
    omega
  · intro l hl
    rw [List.mem_singleton] at hl
    subst hl
    exact q6
  rintro _ v ⟨k, ls, q, hk, rfl, hv, hlen, hq, hall, hF⟩
  unfold wp_X3_readText_p21b wp_X3_readText_p61 wp_X3_readText_p77
  have hTv := TC_ag (TC_ag hT hA) hv.1
  have hb := nxt_le ht q
  have fin : (true, ls, q) = F → ((¬ (gI v 7) = (gI v 4) → ((0 : Int32) &&& 1 = (0 : Int32) ∧ Q (0 : Int32) v)) ∧ ((gI v 7) = (gI v 4) → ((1 : Int32) &&& 1 = (1 : Int32) ∧ Q (1 : Int32) v))) := by
    rintro rfl
    rw [if_pos rfl] at h1 h0
    rw [hv.2.1, hTv.1]
    refine ⟨fun c => ⟨by decide, ?_⟩, fun c => ⟨by decide, ?_⟩⟩
    · rw [if_neg (show ¬ q = n from fun e => c (by rw [e]))] at h0
      exact h0 rfl v ⟨Ag_t hv.1 hA, hv.2.1⟩
    · have : q = n := (nI_eq (by omega) (by omega)).mp c
      rw [if_pos (show q = n from this)] at h1
      refine h1 rfl v (Ag_t hv.1 hA) ?_ ?_ hall hv.2.2.2.2
      · rw [hv.2.2.1, Nat.zero_add]
      · show (flt ls).length ≤ 121
        omega
  refine ⟨fun c1 => ?_, fun c1 => ?_⟩
  · have := (nI_leI (a := 120) (by decide) (by omega)).mp c1
    have : k = 0 := by omega
    subst this
    exact fin hF
  have hk0 : k ≠ 0 := by
    have := mt (nI_leI (a := 120) (b := 120 - k) (by decide) (by omega)).mpr c1
    omega
  obtain ⟨k, rfl⟩ : ∃ k', k = k' + 1 := ⟨k - 1, by omega⟩
  rw [lns_s] at hF
  refine znext hn ht hTv hv.2.1 hq ?_
  rw [show (nxc (nxt t n q) = (59 : Int32)) ↔ nxt t n q = 59 from nxc_eq (c := 59) hb (by decide)]
  refine ⟨fun c2 => ?_, fun c2 => ?_⟩
  · rw [if_neg c2] at hF
    exact fin hF
  rw [if_pos c2] at hF
  have hqn := nxt_lt (t := t) (n := n) q (by omega)
  rw [hv.2.1, nI_1]
  rintro _ rfl _ rfl
  have w1 := WC_app hv (WC_pl (q + 1) hv.2.2.1)
  rw [List.append_nil] at w1
  obtain ⟨a1, a2, a3⟩ := hok (q + 1) (by omega)
  refine cl_lin hn ht (p := q + 1) (by omega) (c := 0 + (flt ls).length) (TC_ag (TC_ag hT hA) w1.1) rfl hv.2.2.1 (by omega) (fun g u2 hu2 => ⟨fun _ => ?_, fun c3 => absurd c3 (by decide)⟩) (fun g u2 hu2 => ⟨fun c3 => absurd rfl c3, fun _ => ⟨by decide, ?_⟩⟩)
  · rw [if_pos g] at hF
    obtain ⟨a4, a5, -, a6⟩ := a3 g
    have w2 := WC_app w1 hu2
    rw [nI_1]
    rintro _ rfl
    refine ⟨⟨k, ls ++ [(lin (nxt t n) (q + 1)).2.1], (lin (nxt t n) (q + 1)).2.2, by omega, by rw [show 120 - (k + 1) + 1 = 120 - k by omega], ?_, ?_, a2, ?_, hF⟩, ?_⟩
    · rw [flt_app]
      show WC 0 _ _ (flt ls ++ (fl1 _ ++ [])) _
      rw [List.append_nil]
      exact w2
    · rw [flt_app]
      show (flt ls ++ (fl1 _ ++ [])).length ≤ _
      rw [List.append_nil, List.length_append]
      omega
    · intro l hl
      rcases List.mem_append.mp hl with hl | hl
      · exact hall l hl
      · rw [List.mem_singleton] at hl
        subst hl
        exact a6
    · try dsimp only
      rw [nI_clamp (by omega), nI_clamp (by omega)]
      omega
  · rw [if_neg (by rw [g]; decide)] at hF
    subst hF
    rw [if_neg (fun c => ff c)] at h0
    exact h0 rfl u2 (WF_t ⟨Ag_t w1.1 hA, w1.2.1⟩ hu2)

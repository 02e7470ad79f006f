/-! the law's text, read by the class -/
def AtF (g : Int32 → Int32) (f : Nat → Int32) : Nat → List Int32 → Prop
  | _, [] => True
  | a, c :: cs => f a = g c ∧ AtF g f (a + 1) cs
theorem AtF_app {g : Int32 → Int32} {f : Nat → Int32} : ∀ {cs ds : List Int32} {a : Nat}, AtF g f a cs → AtF g f (a + cs.length) ds → AtF g f a (cs ++ ds)
  | [], ds, a, _, h2 => h2
  | c :: cs, ds, a, h1, h2 => ⟨h1.1, AtF_app h1.2 (by rw [show a + 1 + cs.length = a + (c :: cs).length by simp; omega]; exact h2)⟩
theorem AtF_l {g : Int32 → Int32} {f : Nat → Int32} : ∀ {cs ds : List Int32} {a : Nat}, AtF g f a (cs ++ ds) → AtF g f a cs
  | [], _, _, _ => trivial
  | _ :: _, _, _, h => ⟨h.1, AtF_l h.2⟩
theorem AtF_r {g : Int32 → Int32} {f : Nat → Int32} : ∀ {cs ds : List Int32} {a : Nat}, AtF g f a (cs ++ ds) → AtF g f (a + cs.length) ds
  | [], _, _, h => h
  | c :: cs, ds, a, h => by
    have := AtF_r h.2
    rw [show a + 1 + cs.length = a + (c :: cs).length by simp; omega] at this
    exact this
theorem AtF_cg {g : Int32 → Int32} {f f' : Nat → Int32} : ∀ {cs : List Int32} {a : Nat}, (∀ i : Nat, a ≤ i → i < a + cs.length → f' i = f i) → AtF g f a cs → AtF g f' a cs
  | [], _, _, _ => trivial
  | c :: cs, a, h, h1 => ⟨(h a (Nat.le_refl _) (by simp)).trans h1.1, AtF_cg (fun i q1 q2 => h i (by omega) (by simp only [List.length_cons]; omega)) h1.2⟩
def nxt (t : Nat → Nat) (n p : Nat) : Nat := if p < n then t p else 256
theorem nxt_lt {t : Nat → Nat} {n : Nat} : ∀ p : Nat, nxt t n p < 256 → p < n := fun p h => by
  unfold nxt at h
  split at h
  · assumption
  · omega
theorem nxt_le {t : Nat → Nat} {n : Nat} (ht : ∀ i : Nat, i < n → t i < 256) (p : Nat) : nxt t n p ≤ 256 := by
  unfold nxt
  split
  · have := ht p (by assumption)
    omega
  · exact Nat.le_refl _
def nxc (b : Nat) : Int32 := if b = 256 then -1 else nI b
theorem nxc_n {b : Nat} (h : b < 256) : nxc b = nI b := if_neg (by omega)
theorem nxc_eq {b c : Nat} (hb : b ≤ 256) (hc : c < 256) : nxc b = nI c ↔ b = c := by
  by_cases h : b = 256
  · subst h
    exact ⟨fun e => absurd (show nI c = -1 from e.symm) (nI_nm1 (by omega)), fun e => by omega⟩
  · rw [nxc_n (by omega)]
    exact nI_eq (by omega) (by omega)
def TC (t : Nat → Nat) (n : Nat) (u : ST) : Prop := gI u 4 = nI n ∧ ∀ i : Nat, i < n → gA u 0 i = nI (t i)
theorem TC_ag {t : Nat → Nat} {n : Nat} {u u' : ST} (h : TC t n u) (ha : Ag [3, 6, 7] u' u) : TC t n u' := ⟨(Ag_I ha 4 (by decide)).trans h.1, fun i hi => by rw [Ag_A ha 0 (by decide)]; exact h.2 i hi⟩
theorem znext {t : Nat → Nat} {n p : Nat} {u : ST} (hn : n ≤ 120) (ht : ∀ i : Nat, i < n → t i < 256) (hT : TC t n u) (ep : gI u 7 = nI p) (hp : p ≤ n) {Q : Int32 → ST → Prop} (hq : Q (nxc (nxt t n p)) u) : wp_X3_next u Q := by
  unfold wp_X3_next wp_X3_next_p30 wp_X3_next_p31
  rw [ep, hT.1]
  unfold nxt at hq
  refine ⟨fun c => absurd c (nI_pos (by omega)), fun _ => ⟨fun c => ?_, fun c => ?_⟩⟩
  · have := (nI_leI (by omega) (by omega)).mp c
    rw [if_neg (by omega)] at hq
    exact hq
  · have h := mt (nI_leI (a := n) (b := p) (by omega) (by omega)).mpr c
    have h2 := ht p (by omega)
    refine ⟨nI_in (by omega) (by decide), ?_⟩
    rintro _ rfl
    rw [nI_clamp (by omega), hT.2 p (by omega)]
    rw [if_pos (by omega), nxc_n h2] at hq
    exact hq
theorem zwrite {u : ST} {c : Nat} {a : Int32} (e : gI u 6 = nI c) (hc : c < 124) {Q : ST → Prop} (hq : Q (sI (sA u 3 (upd (gA u 3) c a)) 6 (nI (c + 1)))) : wp_X3_write a u Q := by
  unfold wp_X3_write wp_X3_write_p29
  rw [e]
  refine ⟨fun h => absurd ((nI_leI (a := 124) (by decide) (by omega)).mp h) (by omega), fun _ => ⟨nI_in hc (by decide), ?_⟩⟩
  rintro _ rfl
  simp only [gI_sI, gI_sI', gI_sA, gI_sJ, gI_sG, gA_sA, gA_sA', gA_sI, gA_sJ, gA_sG, gJ_sJ, gJ_sJ', gJ_sI, gJ_sA, gJ_sG, gG_sG, gG_sG', gG_sI, gG_sA, gG_sJ, ne_eq, Nat.reduceEqDiff, Nat.succ_ne_zero, Nat.zero_ne_one, not_false_eq_true, reduceCtorEq]
  rw [e, nI_1, nI_clamp (by omega)]
  rintro _ rfl _ rfl
  exact hq
theorem zisdg {b : Nat} (hb : b ≤ 256) {Q : Int32 → Prop} (h1 : isdg b = true → Q 1) (h0 : isdg b = false → Q 0) : wp_X3_isDigit (nxc b) Q := by
  unfold wp_X3_isDigit wp_X3_isDigit_p16 wp_X3_isDigit_p17
  unfold isdg at h1 h0
  by_cases h : b = 256
  · subst h
    exact ⟨fun _ => ⟨by decide, h0 (by decide)⟩, fun c => absurd (by decide : nxc 256 < 48) c⟩
  · rw [nxc_n (by omega)]
    refine ⟨fun c => ⟨by decide, h0 ?_⟩, fun c => ⟨fun c2 => ⟨by decide, h0 ?_⟩, fun c2 => ⟨by decide, h1 ?_⟩⟩⟩
    · have := (nI_ltI (b := 48) (by omega) (by decide)).mp c
      simp
      omega
    · have := (nI_ltI (a := 57) (by decide) (by omega)).mp c2
      simp
      omega
    · have q1 := mt (nI_ltI (a := b) (b := 48) (by omega) (by decide)).mpr c
      have q2 := mt (nI_ltI (a := 57) (b := b) (by decide) (by omega)).mpr c2
      simp
      omega
def rkI (b : Nat) : Int32 := if rnk b ≤ 4 then nI (rnk b) else -1
theorem rkI_eq {b r : Nat} (hr : r ≤ 4) : rkI b = nI r ↔ rnk b = r := by
  unfold rkI
  by_cases h : rnk b ≤ 4
  · rw [if_pos h]
    exact nI_eq (by omega) (by omega)
  · rw [if_neg h]
    exact ⟨fun e => absurd e.symm (nI_nm1 (by omega)), fun e => by omega⟩
theorem zrank {b : Nat} (hb : b ≤ 256) {Q : Int32 → Prop} (hq : Q (rkI b)) : wp_X3_rankOf (nxc b) Q := by
  unfold wp_X3_rankOf
  rw [show (nxc b = (37 : Int32)) ↔ b = 37 from nxc_eq (c := 37) hb (by decide), show (nxc b = (38 : Int32)) ↔ b = 38 from nxc_eq (c := 38) hb (by decide), show (nxc b = (42 : Int32)) ↔ b = 42 from nxc_eq (c := 42) hb (by decide), show (nxc b = (43 : Int32)) ↔ b = 43 from nxc_eq (c := 43) hb (by decide), show (nxc b = (45 : Int32)) ↔ b = 45 from nxc_eq (c := 45) hb (by decide), show (nxc b = (47 : Int32)) ↔ b = 47 from nxc_eq (c := 47) hb (by decide), show (nxc b = (60 : Int32)) ↔ b = 60 from nxc_eq (c := 60) hb (by decide), show (nxc b = (61 : Int32)) ↔ b = 61 from nxc_eq (c := 61) hb (by decide), show (nxc b = (62 : Int32)) ↔ b = 62 from nxc_eq (c := 62) hb (by decide), show (nxc b = (124 : Int32)) ↔ b = 124 from nxc_eq (c := 124) hb (by decide)]
  refine ⟨fun c => by subst c; exact hq, fun c1 => ⟨fun c => by subst c; exact hq, fun c2 => ⟨fun c => by subst c; exact hq, fun c3 => ⟨fun c => by subst c; exact hq, fun c4 => ⟨fun c => by subst c; exact hq, fun c5 => ⟨fun c => by subst c; exact hq, fun c6 => ⟨fun c => by subst c; exact hq, fun c7 => ⟨fun c => by subst c; exact hq, fun c8 => ⟨fun c => by subst c; exact hq, fun c9 => ⟨fun c => by subst c; exact hq, fun c10 => ?_⟩⟩⟩⟩⟩⟩⟩⟩⟩⟩
  have : rnk b = 9 := by
    unfold rnk
    rw [if_neg c10, if_neg c2, if_neg (by omega), if_neg (by omega), if_neg (by omega)]
  unfold rkI at hq
  rw [this] at hq
  exact hq
/-- what the class's readers leave: codes behind those that were there, the place -/
def WC (c : Nat) (u u' : ST) (cs : List Int32) (p : Nat) : Prop := Ag [3, 6, 7] u' u ∧ gI u' 7 = nI p ∧ gI u' 6 = nI (c + cs.length) ∧ (∀ i : Nat, i < c → gA u' 3 i = gA u 3 i) ∧ AtF id (gA u' 3) c cs
def WF (u u' : ST) (p : Nat) : Prop := Ag [3, 6, 7] u' u ∧ gI u' 7 = nI p
theorem WC_app {c : Nat} {u u' u2 : ST} {cs ds : List Int32} {p p2 : Nat} (h : WC c u u' cs p) (h2 : WC (c + cs.length) u' u2 ds p2) : WC c u u2 (cs ++ ds) p2 := by
  refine ⟨Ag_t h2.1 h.1, h2.2.1, ?_, fun i hi => (h2.2.2.2.1 i (by omega)).trans (h.2.2.2.1 i hi), AtF_app (AtF_cg (fun i _ q => h2.2.2.2.1 i q) h.2.2.2.2) h2.2.2.2.2⟩
  rw [h2.2.2.1, List.length_append, Nat.add_assoc]
theorem WC_w1 {c : Nat} {u : ST} {p : Nat} (a : Int32) (e : gI u 7 = nI p) : WC c u (sI (sA u 3 (upd (gA u 3) c a)) 6 (nI (c + 1))) [a] p := by
  refine ⟨Ag_sI (Ag_sA (Ag_r _ _) (by decide) _) (by decide) _, e, rfl, fun i hi => ?_, ?_, trivial⟩
  · exact Eq.trans (b := upd (gA u 3) c a i) rfl (pk_un (by omega))
  · exact Eq.trans (b := upd (gA u 3) c a c) rfl pk_us
theorem WC_pl {c : Nat} {u : ST} (p : Nat) (e : gI u 6 = nI c) : WC c u (sI u 7 (nI p)) [] p := ⟨Ag_sI (Ag_r _ _) (by decide) _, rfl, e, fun _ _ => rfl, trivial⟩
theorem WC_0 {c : Nat} {u : ST} {p : Nat} (e : gI u 6 = nI c) (e7 : gI u 7 = nI p) : WC c u u [] p := ⟨Ag_r _ _, e7, e, fun _ _ => rfl, trivial⟩
theorem WF_of {c : Nat} {u u' : ST} {cs : List Int32} {p : Nat} (h : WC c u u' cs p) : WF u u' p := ⟨h.1, h.2.1⟩
theorem WF_t {u u' u2 : ST} {p p2 : Nat} (h : WF u u' p) (h2 : WF u' u2 p2) : WF u u2 p2 := ⟨Ag_t h2.1 h.1, h2.2⟩
def CC (t : Nat → Nat) (n : Nat) (f : ST → (Int32 → ST → Prop) → Prop) (r : zR) (p : Nat) : Prop := ∀ (u : ST) (c : Nat) (Q : Int32 → ST → Prop), TC t n u → gI u 7 = nI p → gI u 6 = nI c → c ≤ p →
  (r.1 = true → ∀ u' : ST, WC c u u' r.2.1 r.2.2 → Q 1 u') → (r.1 = false → ∀ u' : ST, WF u u' r.2.2 → Q 0 u') → f u Q
theorem cc_loop {t : Nat → Nat} {n : Nat} (hn : n ≤ 120) (ht : ∀ i : Nat, i < n → t i < 256) {P : Nat → Int32 → Int32 → ST → (Int32 → ST → Prop) → Prop} {s : Nat → zR} {r : Nat} (hr : r ≤ 4) {a2 : Int32} (hs : okR n s) (hP : ∀ p : Nat, p ≤ n → CC t n (fun u Q => P 0 (nI (r + 1)) a2 u Q) (s p) p)
    {u : ST} (hT : TC t n u) {c p0 p : Nat} {cs : List Int32} {v : ST} (hc : c ≤ p0) (hv : WC c u v cs p) (hl : cs.length + p0 ≤ p) (hp : p ≤ n) {Q : Int32 → ST → Prop}
    (h1 : (chn (nxt t n) s r (mst r) cs p).1 = true → ∀ u' : ST, WC c u u' (chn (nxt t n) s r (mst r) cs p).2.1 (chn (nxt t n) s r (mst r) cs p).2.2 → Q 1 u')
    (h0 : (chn (nxt t n) s r (mst r) cs p).1 = false → ∀ u' : ST, WF u u' (chn (nxt t n) s r (mst r) cs p).2.2 → Q 0 u') : wp_X3_readJoined_p39 (nI r) a2 (nI (mst r)) 0 v P Q := by
  unfold wp_X3_readJoined_p39
  have hm : mst r ≤ 120 := by
    unfold mst
    split <;> decide
  generalize hF : chn (nxt t n) s r (mst r) cs p = F at h1 h0
  refine ⟨fun x1 x2 x3 x4 v => x1 = nI r ∧ x2 = a2 ∧ x3 = nI (mst r) ∧ ∃ (i k : Nat) (cs : List Int32) (q : Nat), i + k = mst r ∧ x4 = nI i ∧ WC c u v cs q ∧ cs.length + p0 ≤ q ∧ q ≤ n ∧ chn (nxt t n) s r k cs q = F, fun _ _ _ x4 _ => 120 - x4.toNatClampNeg, ⟨rfl, rfl, rfl, 0, mst r, cs, p, by omega, rfl, hv, hl, hp, hF⟩, ?_⟩
  rintro _ _ _ _ w ⟨rfl, rfl, rfl, i, k, cs, q, hik, rfl, hw, hl, hq, hF⟩
  unfold wp_X3_readJoined_p39b wp_X3_readJoined_p98
  have hTw := TC_ag hT hw.1
  have hb := nxt_le ht q
  refine ⟨fun c1 => ?_, fun c1 => ?_⟩
  · have := (nI_leI (by omega) (by omega)).mp c1
    have : k = 0 := by omega
    subst this
    have hF : (true, cs, q) = F := hF
    subst hF
    exact ⟨by decide, h1 rfl w hw⟩
  have hk : k ≠ 0 := by
    have := mt (nI_leI (a := mst r) (b := i) (by omega) (by omega)).mpr c1
    omega
  obtain ⟨k, rfl⟩ : ∃ k', k = k' + 1 := ⟨k - 1, by omega⟩
  rw [chn_s] at hF
  refine znext hn ht hTw hw.2.1 hq (zrank hb ?_)
  rw [rkI_eq hr]
  refine ⟨fun c2 => ?_, fun c2 => ?_⟩
  · rw [if_neg c2] at hF
    subst hF
    exact ⟨by decide, h1 rfl w hw⟩
  rw [if_pos c2] at hF
  have hx := (rnk_sgn c2 hr).2.1
  have hqn := nxt_lt (t := t) (n := n) q (by omega)
  refine znext hn ht hTw hw.2.1 hq ?_
  rw [hw.2.1, nI_1]
  rintro _ rfl _ rfl
  rw [nI_1]
  rintro _ rfl
  have w1 := WC_pl (q + 1) hw.2.2.1
  obtain ⟨o1, o2, o3⟩ := hs (q + 1) (by omega)
  refine hP (q + 1) (by omega) _ (c + cs.length) _ (TC_ag hTw w1.1) rfl hw.2.2.1 (by omega) (fun g u' hu => ⟨fun _ => ?_, fun c3 => absurd c3 (by decide)⟩) (fun g u' hu => ⟨fun c3 => absurd rfl c3, fun _ => ⟨by decide, ?_⟩⟩)
  · rw [if_pos g] at hF
    obtain ⟨o4, o5, o6, o7⟩ := o3 g
    have w2 := WC_app hw (WC_app w1 (by rw [List.length_nil, Nat.add_zero]; exact hu))
    rw [List.nil_append] at w2
    rw [nxc_n (by omega)]
    rintro _ rfl
    have hlen : (cs ++ (s (q + 1)).2.1).length = cs.length + (s (q + 1)).2.1.length := List.length_append
    refine zwrite (c := c + (cs ++ (s (q + 1)).2.1).length) w2.2.2.1 (by omega) ?_
    rw [nI_1]
    rintro _ rfl
    have w3 := WC_app w2 (WC_w1 (c := c + (cs ++ (s (q + 1)).2.1).length) (-nI (nxt t n q)) w2.2.1)
    refine ⟨⟨rfl, rfl, rfl, i + 1, k, _, _, by omega, rfl, w3, ?_, o2, hF⟩, ?_⟩
    · rw [List.length_append, List.length_singleton]
      omega
    · show 120 - (nI (i + 1)).toNatClampNeg < 120 - (nI i).toNatClampNeg
      try dsimp only
      rw [nI_clamp (by omega), nI_clamp (by omega)]
      omega
  · rw [if_neg (by rw [g]; decide)] at hF
    subst hF
    exact h0 rfl u' (WF_t (WF_of hw) (WF_t (WF_of w1) hu))
theorem cc_jnd {t : Nat → Nat} {n : Nat} (hn : n ≤ 120) (ht : ∀ i : Nat, i < n → t i < 256) {P : Nat → Int32 → Int32 → ST → (Int32 → ST → Prop) → Prop} {s : Nat → zR} {r : Nat} (hr : r ≤ 4) {a2 : Int32} (hs : okR n s) (hP : ∀ p : Nat, p ≤ n → CC t n (fun u Q => P 0 (nI (r + 1)) a2 u Q) (s p) p) {p : Nat} (hp : p ≤ n) :
    CC t n (fun u Q => wp_X3_readJoined (nI r) a2 u P Q) (jnd (nxt t n) s r p) p := by
  intro u c Q hT e7 e6 hc h1 h0
  try dsimp only
  unfold wp_X3_readJoined wp_X3_readJoined_p35
  refine ⟨fun _ => ?_, fun c4 => absurd (nI_le (b := 4) hr (by decide)) c4⟩
  rw [nI_1]
  rintro _ rfl
  obtain ⟨o1, o2, o3⟩ := hs p hp
  unfold jnd at h1 h0
  refine hP p hp u c _ hT e7 e6 hc (fun g u' hu => ⟨fun _ => ?_, fun c3 => absurd c3 (by decide)⟩) (fun g u' hu => ⟨fun c3 => absurd rfl c3, fun _ => ⟨by decide, ?_⟩⟩)
  · rw [if_pos g] at h1 h0
    obtain ⟨o4, o5, o6, o7⟩ := o3 g
    have key := cc_loop hn ht hr hs hP hT hc hu o6 o2 h1 h0
    unfold mst at key
    refine ⟨fun c2 => ?_, fun c2 => ?_⟩
    · rw [if_neg (fun e => c2 (by rw [e]; rfl))] at key
      exact key
    · rw [if_pos ((nI_eq (b := 2) (by omega) (by decide)).mp c2)] at key
      exact key
  · rw [if_neg (by rw [g]; decide)] at h0
    exact h0 rfl u' hu
theorem cc_lvl {t : Nat → Nat} {n : Nat} (hn : n ≤ 120) (ht : ∀ i : Nat, i < n → t i < 256) {O : Nat → zR} (hO : okR n O) {a2 : Int32} {D0 : Nat} (hP : ∀ D : Nat, D0 ≤ D → ∀ p : Nat, p ≤ n → CC t n (fun u Q => wpR3 D 1 a2 0 u Q) (O p) p) : ∀ i : Nat, i ≤ 5 → ∀ D : Nat, D0 + 1 + i ≤ D → ∀ p : Nat, p ≤ n → CC t n (fun u Q => wpR3 D 0 (nI (5 - i)) a2 u Q) (lvl (nxt t n) O i p) p
  | 0, _, D, hD, p, hp => by
    obtain ⟨D, rfl⟩ : ∃ D', D = D' + 1 := ⟨D - 1, by omega⟩
    intro u c Q hT e7 e6 hc h1 h0
    show wp_X3_readJoined (nI 5) a2 u (wpR3 D) Q
    unfold wp_X3_readJoined
    refine ⟨fun c4 => absurd c4 (by decide), fun _ => ?_⟩
    exact hP D (by omega) p hp u c _ hT e7 e6 hc (fun g u' hu => ⟨by decide, h1 g u' hu⟩) (fun g u' hu => ⟨by decide, h0 g u' hu⟩)
  | i + 1, hi, D, hD, p, hp => by
    obtain ⟨D, rfl⟩ : ∃ D', D = D' + 1 := ⟨D - 1, by omega⟩
    have ih := cc_lvl hn ht hO hP i (by omega) D (by omega)
    rw [show 5 - i = 4 - i + 1 by omega] at ih
    have := cc_jnd hn ht (P := wpR3 D) (r := 4 - i) (by omega) (okR_lvl (x := nxt t n) nxt_lt hO i) ih hp
    rw [show 5 - (i + 1) = 4 - i by omega]
    exact this
theorem cc_num {t : Nat → Nat} {n : Nat} (hn : n ≤ 120) (ht : ∀ i : Nat, i < n → t i < 256) {u : ST} (hT : TC t n u) {c p : Nat} (e7 : gI u 7 = nI p) (e6 : gI u 6 = nI c) (hc : c ≤ p) (hp : p ≤ n) {Q : ST → Prop}
    (hq : ∀ u' : ST, WC c u u' [nI (dgs (nxt t n) 4 0 p).1] (dgs (nxt t n) 4 0 p).2 → Q u') : wp_X3_readNumber u Q := by
  unfold wp_X3_readNumber wp_X3_readNumber_p4
  generalize hF : dgs (nxt t n) 4 0 p = F at hq
  refine ⟨fun x1 x2 v => ∃ (k w q : Nat), k ≤ 4 ∧ x1 = nI w ∧ x2 = nI (4 - k) ∧ q ≤ n ∧ WC c u v [] q ∧ dgs (nxt t n) k w q = F, fun _ x2 _ => 4 - x2.toNatClampNeg, ⟨4, 0, p, by omega, rfl, rfl, hp, WC_0 e6 e7, hF⟩, ?_⟩
  rintro _ _ v ⟨k, w, q, hk, rfl, rfl, hqn, hv, hF⟩
  unfold wp_X3_readNumber_p4b wp_X3_readNumber_p48
  have hTv := TC_ag hT hv.1
  have hb := nxt_le ht q
  have wr : (w, q) = F → wp_X3_write (nI w) v (fun u50 => Q u50) := by
    rintro rfl
    refine zwrite hv.2.2.1 (by rw [List.length_nil]; omega) ?_
    have := WC_app hv (WC_w1 (c := c + ([] : List Int32).length) (nI w) hv.2.1)
    exact hq _ this
  refine ⟨fun c1 => ?_, fun c1 => ?_⟩
  · have := (nI_leI (a := 4) (by decide) (by omega)).mp c1
    have : k = 0 := by omega
    subst this
    exact wr hF
  have hk0 : k ≠ 0 := by
    have := mt (nI_leI (a := 4) (b := 4 - k) (by decide) (by omega)).mpr c1
    omega
  obtain ⟨k, rfl⟩ : ∃ k', k = k' + 1 := ⟨k - 1, by omega⟩
  rw [dgs_s] at hF
  refine znext hn ht hTv hv.2.1 hqn (zisdg hb (fun g => ⟨fun c3 => absurd c3 (by decide), fun _ => ?_⟩) (fun g => ⟨fun _ => ?_, fun c3 => absurd rfl c3⟩))
  · rw [if_pos g] at hF
    unfold isdg at g
    simp only [Bool.and_eq_true, decide_eq_true_eq] at g
    have hqn2 := nxt_lt (t := t) (n := n) q (by omega)
    rw [show nI w * (10 : Int32) = nI (w * 10) from pk_mul w 10]
    rintro _ rfl
    refine znext hn ht hTv hv.2.1 hqn ?_
    rw [nxc_n (by omega), nI_add]
    rintro _ rfl
    rw [show nI (w * 10 + nxt t n q) - (48 : Int32) = nI (w * 10 + nxt t n q - 48) from nI_sub (b := 48) (by omega)]
    rintro _ rfl
    rw [hv.2.1, nI_1]
    rintro _ rfl _ rfl
    rw [nI_1]
    rintro _ rfl
    have w1 := WC_app hv (WC_pl (q + 1) hv.2.2.1)
    refine ⟨⟨k, 10 * w + nxt t n q - 48, q + 1, by omega, by rw [Nat.mul_comm], by rw [show 4 - (k + 1) + 1 = 4 - k by omega], hqn2, w1, hF⟩, ?_⟩
    try dsimp only
    rw [nI_clamp (by omega), nI_clamp (by omega)]
    omega
  · rw [if_neg (by rw [g]; decide)] at hF
    exact wr hF
theorem cc_opd {t : Nat → Nat} {n : Nat} (hn : n ≤ 120) (ht : ∀ i : Nat, i < n → t i < 256) {P : Nat → Int32 → Int32 → ST → (Int32 → ST → Prop) → Prop} {o : Nat} (ho : o ≤ 6)
    (hE : ∀ o' : Nat, o = o' + 1 → ∀ p : Nat, p ≤ n → CC t n (fun u Q => P 2 (nI (6 - o')) 0 u Q) (enc (nxt t n) (lvl (nxt t n) (opd (nxt t n) o') 5 p)) p)
    (hU : ∀ o' : Nat, o = o' + 1 → ∀ b : Nat, b = 33 ∨ b = 45 → ∀ p : Nat, p ≤ n → CC t n (fun u Q => P 3 (nI b) (nI (6 - o')) u Q) (trn b (opd (nxt t n) o' p)) p) {p : Nat} (hp : p ≤ n) :
    CC t n (fun u Q => wp_X3_readOperand (nI (6 - o)) u P Q) (opd (nxt t n) o p) p := by
  intro u c Q hT e7 e6 hc h1 h0
  have hb := nxt_le ht p
  have hl : opd (nxt t n) o p = lef (nxt t n) p (match o with | 0 => (false, [], p) | o' + 1 => if nxt t n p = 40 then enc (nxt t n) (lvl (nxt t n) (opd (nxt t n) o') 5 (p + 1)) else if nxt t n p = 33 ∨ nxt t n p = 45 then trn (nxt t n p) (opd (nxt t n) o' (p + 1)) else (false, [], p)) := by
    cases o <;> rfl
  rw [hl] at h1 h0
  clear hl
  try dsimp only
  unfold wp_X3_readOperand
  refine znext hn ht hT e7 hp (zisdg hb (fun g => ⟨fun c3 => absurd c3 (by decide), fun _ => ?_⟩) (fun g => ⟨fun _ => ?_, fun c3 => absurd rfl c3⟩))
  · unfold lef at h1
    rw [if_pos g] at h1
    exact cc_num hn ht hT e7 e6 hc hp fun u' hu => ⟨by decide, h1 rfl u' hu⟩
  unfold lef at h1 h0
  rw [if_neg (by rw [g]; decide)] at h1 h0
  have nm : nxt t n p < 256 → (a : Int32) → (∀ u' : ST, WC c u u' [a] (p + 1) → Q 1 u') → wp_X3_readOperand_p70 a (sI u 7 (nI (p + 1))) P Q := by
    intro hlt a hq
    have := nxt_lt (t := t) (n := n) p hlt
    unfold wp_X3_readOperand_p70
    refine zwrite (u := sI u 7 (nI (p + 1))) (c := c) e6 (by omega) ?_
    refine ⟨by decide, hq _ ?_⟩
    have w1 := WC_pl (p + 1) e6
    exact WC_app w1 (WC_w1 (c := c + ([] : List Int32).length) a w1.2.1)
  have e104 : (nxc (nxt t n p) = (104 : Int32)) ↔ nxt t n p = 104 := nxc_eq (c := 104) hb (by decide)
  have e110 : (nxc (nxt t n p) = (110 : Int32)) ↔ nxt t n p = 110 := nxc_eq (c := 110) hb (by decide)
  have e106 : (nxc (nxt t n p) = (106 : Int32)) ↔ nxt t n p = 106 := nxc_eq (c := 106) hb (by decide)
  have e40 : (nxc (nxt t n p) = (40 : Int32)) ↔ nxt t n p = 40 := nxc_eq (c := 40) hb (by decide)
  have e33 : (nxc (nxt t n p) = (33 : Int32)) ↔ nxt t n p = 33 := nxc_eq (c := 33) hb (by decide)
  have e45 : (nxc (nxt t n p) = (45 : Int32)) ↔ nxt t n p = 45 := nxc_eq (c := 45) hb (by decide)
  unfold wp_X3_readOperand_p36 wp_X3_readOperand_p99 wp_X3_readOperand_p93 wp_X3_readOperand_p135 wp_X3_readOperand_p99
  rw [e104, e110, e106, e40, e33, e45, e7, nI_1]
  refine ⟨fun k1 => ?_, fun k1 => ⟨fun k2 => ?_, fun k2 => ⟨fun k3 => ?_, fun k3 => ?_⟩⟩⟩
  · rintro _ rfl _ rfl
    rw [if_pos k1] at h1
    exact ⟨fun k => absurd k1 k, fun _ => nm (by omega) (-1) (h1 rfl)⟩
  · rintro _ rfl _ rfl
    rw [if_neg k1, if_pos k2] at h1
    exact ⟨fun _ => ⟨fun k => absurd k2 k, fun _ => nm (by omega) (-2) (h1 rfl)⟩, fun k => absurd k k1⟩
  rotate_left
  · rintro _ rfl _ rfl
    rw [if_neg k1, if_neg k2, if_pos k3] at h1
    exact ⟨fun _ => ⟨fun _ => nm (by omega) (-3) (h1 rfl), fun k => absurd k k2⟩, fun k => absurd k k1⟩
  rw [if_neg k1, if_neg k2, if_neg k3] at h1 h0
  -- behind a sign that opens
  have op : nxt t n p = 40 ∨ nxt t n p = 33 ∨ nxt t n p = 45 → (((nI (6 - o) : Int32) < (6 : Int32) → (∀ y107 : Int32, y107 = nI (p + 1) → (∀ u108 : ST, u108 = sI u 7 y107 → ((¬ nxt t n p = 40 → (∀ y131 : Int32, y131 = nI (6 - o) + (1 : Int32) → (P 3 (nxc (nxt t n p)) y131 u108 (fun y132 u132 => (y132 &&& 1 = y132 ∧ Q y132 u132))))) ∧ (nxt t n p = 40 → (∀ y120 : Int32, y120 = nI (6 - o) + (1 : Int32) → (P 2 y120 (0 : Int32) u108 (fun y121 u121 => (y121 &&& 1 = y121 ∧ Q y121 u121))))))))) ∧ (¬ (nI (6 - o) : Int32) < (6 : Int32) → ((0 : Int32) &&& 1 = (0 : Int32) ∧ Q (0 : Int32) u))) := by
    intro hs
    have hpn := nxt_lt (t := t) (n := n) p (by omega)
    have w1 := WC_pl (p + 1) e6
    refine ⟨fun k => ?_, fun k => ⟨by decide, ?_⟩⟩
    · have := (nI_ltI (b := 6) (by omega) (by decide)).mp k
      obtain ⟨o', rfl⟩ : ∃ o', o = o' + 1 := ⟨o - 1, by omega⟩
      rw [nI_1, show 6 - (o' + 1) + 1 = 6 - o' by omega]
      dsimp only at h1 h0
      rintro _ rfl _ rfl
      refine ⟨fun q40 => ?_, fun q40 => ?_⟩
      · rw [if_neg q40, if_pos (hs.resolve_left q40)] at h1 h0
        rintro _ rfl
        rw [nxc_n (by omega)]
        exact hU o' rfl _ (hs.resolve_left q40) (p + 1) (by omega) _ c _ (TC_ag hT w1.1) rfl e6 (by omega) (fun g u' hu => ⟨by decide, h1 g u' (WC_app w1 hu)⟩) (fun g u' hu => ⟨by decide, h0 g u' (WF_t (WF_of w1) hu)⟩)
      · rw [if_pos q40] at h1 h0
        rintro _ rfl
        exact hE o' rfl (p + 1) (by omega) _ c _ (TC_ag hT w1.1) rfl e6 (by omega) (fun g u' hu => ⟨by decide, h1 g u' (WC_app w1 hu)⟩) (fun g u' hu => ⟨by decide, h0 g u' (WF_t (WF_of w1) hu)⟩)
    · have := mt (nI_ltI (a := 6 - o) (b := 6) (by omega) (by decide)).mpr k
      have : o = 0 := by omega
      subst this
      exact h0 rfl u ⟨Ag_r _ _, e7⟩
  refine ⟨fun k4 => op (.inl k4), fun k4 => ⟨fun k5 => op (.inr (.inl k5)), fun k5 => ⟨fun k6 => ⟨by decide, ?_⟩, fun k6 => op (.inr (.inr k6))⟩⟩⟩
  cases o with
  | zero => exact h0 rfl u ⟨Ag_r _ _, e7⟩
  | succ o' =>
    dsimp only at h0
    rw [if_neg k4, if_neg (by omega)] at h0
    exact h0 rfl u ⟨Ag_r _ _, e7⟩
theorem cc_enc {t : Nat → Nat} {n : Nat} (hn : n ≤ 120) (ht : ∀ i : Nat, i < n → t i < 256) {P : Nat → Int32 → Int32 → ST → (Int32 → ST → Prop) → Prop} {s : Nat → zR} {a : Nat} (ha : a ≤ 6) (hs : okR n s) {p : Nat} (hp : p ≤ n) (hP : CC t n (fun u Q => P 0 0 (nI a) u Q) (s p) p) :
    CC t n (fun u Q => wp_X3_readEnclosed (nI a) u P Q) (enc (nxt t n) (s p)) p := by
  intro u c Q hT e7 e6 hc h1 h0
  try dsimp only
  obtain ⟨o1, o2, o3⟩ := hs p hp
  have hb := nxt_le ht (s p).2.2
  unfold wp_X3_readEnclosed wp_X3_readEnclosed_p24
  unfold enc at h1 h0
  refine ⟨fun c4 => absurd ((nI_ltI (a := 6) (by decide) (by omega)).mp c4) (by omega), fun _ => ?_⟩
  refine hP u c _ hT e7 e6 hc (fun g u' hu => ⟨fun c3 => absurd c3 (by decide), fun _ => ?_⟩) (fun g u' hu => ⟨fun _ => ⟨by decide, ?_⟩, fun c3 => absurd rfl c3⟩)
  · refine znext hn ht (TC_ag hT hu.1) hu.2.1 o2 ?_
    rw [show (nxc (nxt t n (s p).2.2) = (41 : Int32)) ↔ nxt t n (s p).2.2 = 41 from nxc_eq (c := 41) hb (by decide), hu.2.1, nI_1]
    refine ⟨fun c2 => ?_, fun c2 => ⟨by decide, ?_⟩⟩
    · rw [if_pos ⟨g, c2⟩] at h1
      rintro _ rfl _ rfl
      refine ⟨by decide, h1 rfl _ ?_⟩
      have := WC_app hu (WC_pl ((s p).2.2 + 1) hu.2.2.1)
      rw [List.append_nil] at this
      exact this
    · rw [if_neg (fun q => c2 q.2)] at h0
      exact h0 rfl u' (WF_of hu)
  · rw [if_neg (fun q => by rw [g] at q; exact absurd q.1 (by decide))] at h0
    exact h0 rfl u' hu
theorem cc_trn {t : Nat → Nat} {n : Nat} (hn : n ≤ 120) (ht : ∀ i : Nat, i < n → t i < 256) {P : Nat → Int32 → Int32 → ST → (Int32 → ST → Prop) → Prop} {s : Nat → zR} {a b : Nat} (ha : a ≤ 6) (hbs : b = 33 ∨ b = 45) (hs : okR n s) {p : Nat} (hp : p ≤ n) (hP : CC t n (fun u Q => P 1 (nI a) 0 u Q) (s p) p) :
    CC t n (fun u Q => wp_X3_readTurned (nI b) (nI a) u P Q) (trn b (s p)) p := by
  intro u c Q hT e7 e6 hc h1 h0
  try dsimp only
  obtain ⟨o1, o2, o3⟩ := hs p hp
  unfold wp_X3_readTurned wp_X3_readTurned_p14 wp_X3_readTurned_p30
  unfold trn at h1 h0
  refine ⟨fun c4 => absurd ((nI_ltI (a := 6) (by decide) (by omega)).mp c4) (by omega), fun _ => ?_⟩
  refine hP u c _ hT e7 e6 hc (fun g u' hu => ⟨fun _ => ?_, fun c3 => absurd c3 (by decide)⟩) (fun g u' hu => ⟨fun c3 => absurd rfl c3, fun _ => ⟨by decide, ?_⟩⟩)
  · rw [if_pos g] at h1
    obtain ⟨o4, o5, o6, o7⟩ := o3 g
    have wr : ∀ k : Int32, k = (if b = 33 then -33 else -4) → wp_X3_write k u' (fun u70 => ((1 : Int32) &&& 1 = (1 : Int32) ∧ Q (1 : Int32) u70)) := by
      rintro _ rfl
      refine zwrite hu.2.2.1 (by omega) ⟨by decide, h1 rfl _ (WC_app hu (WC_w1 _ hu.2.1))⟩
    refine ⟨fun c2 => wr _ (by rw [if_neg (fun e => c2 (by rw [e]; rfl))]), fun c2 => wr _ (by rw [if_pos ((nI_eq (b := 33) (by omega) (by decide)).mp c2)])⟩
  · rw [if_neg (by rw [g]; decide)] at h0
    exact h0 rfl u' hu
theorem cc_all {t : Nat → Nat} {n : Nat} (hn : n ≤ 120) (ht : ∀ i : Nat, i < n → t i < 256) : ∀ o : Nat, o ≤ 6 → ∀ D : Nat, 8 * o + 1 ≤ D → ∀ p : Nat, p ≤ n → CC t n (fun u Q => wpR3 D 1 (nI (6 - o)) 0 u Q) (opd (nxt t n) o p) p
  | 0, ho, D, hD, p, hp => by
    obtain ⟨D, rfl⟩ : ∃ D', D = D' + 1 := ⟨D - 1, by omega⟩
    exact cc_opd hn ht (P := wpR3 D) ho (fun o' e => by omega) (fun o' e => by omega) hp
  | o + 1, ho, D, hD, p, hp => by
    obtain ⟨D, rfl⟩ : ∃ D', D = D' + 2 := ⟨D - 2, by omega⟩
    refine cc_opd hn ht (P := wpR3 (D + 1)) ho (fun o' e p hp => ?_) (fun o' e b hb p hp => ?_) hp
    · have : o' = o := by omega
      subst this
      exact cc_enc hn ht (P := wpR3 D) (by omega) (okR_lvl nxt_lt (okR_opd nxt_lt _) 5) hp (cc_lvl hn ht (okR_opd nxt_lt _) (cc_all hn ht o' (by omega)) 5 (by omega) D (by omega) p hp)
    · have : o' = o := by omega
      subst this
      exact cc_trn hn ht (P := wpR3 D) (by omega) hb (okR_opd nxt_lt _) hp (cc_all hn ht o' (by omega) D (by omega) p hp)
theorem cc_exq {t : Nat → Nat} {n : Nat} (hn : n ≤ 120) (ht : ∀ i : Nat, i < n → t i < 256) {p : Nat} (hp : p ≤ n) : CC t n (fun u Q => wpR3 80 0 0 0 u Q) (exq (nxt t n) p) p := cc_lvl hn ht (okR_opd nxt_lt 6) (cc_all hn ht 6 (by decide)) 5 (by decide) 80 (by decide) p hp

/-! the law worked out: the class's row of codes -/
theorem div_m1 (a : Int32) : a / (-1) = -a := by
  apply Int32.toInt_inj.mp
  rw [Int32.toInt_div, show (-1 : Int32).toInt = -1 by decide, Int.tdiv_neg, Int.tdiv_one, Int32.toInt_neg]
theorem rem_m1 (a : Int32) : a - a / (-1) * (-1) = 0 := by
  rw [div_m1, Int32.neg_mul, Int32.mul_neg, Int32.neg_neg, Int32.mul_one, Int32.sub_self]
theorem zjoined {sg a b : Int32} {Q : Int32 → Prop} (hq : Q (two sg a b)) : wp_X3_joined sg a b Q := by
  unfold wp_X3_joined wp_X3_joined_p111 wp_X3_joined_p110 wp_X3_joined_p168 wp_X3_joined_p122 wp_X3_joined_p133 wp_X3_joined_p144 wp_X3_joined_p97 wp_X3_joined_p92 wp_X3_joined_p180 wp_X3_joined_p111 wp_X3_joined_p97
  unfold two at hq
  refine ⟨fun c => ?_, fun c1 => ?_⟩
  · rw [if_pos c] at hq
    refine ⟨fun d => by rw [if_pos d] at hq; exact hq, fun d => ?_⟩
    rw [if_neg d] at hq
    exact ⟨fun d => by rw [if_pos d] at hq; exact hq, fun d => by rw [if_neg d] at hq; exact hq⟩
  rw [if_neg c1] at hq
  refine ⟨fun c => by rw [if_pos c] at hq; rintro _ rfl; exact hq, fun c2 => ?_⟩
  rw [if_neg c2] at hq
  refine ⟨fun c => by rw [if_pos c] at hq; rintro _ rfl; exact hq, fun c3 => ?_⟩
  rw [if_neg c3] at hq
  refine ⟨fun c => by rw [if_pos c] at hq; rintro _ rfl; exact hq, fun c4 => ?_⟩
  rw [if_neg c4] at hq
  refine ⟨fun c => ?_, fun c5 => ?_⟩
  · rw [if_pos c] at hq
    exact ⟨fun d => ⟨d, by rw [if_neg d] at hq; rintro _ rfl; exact hq⟩, fun d => by rw [if_pos d] at hq; exact hq⟩
  rw [if_neg c5] at hq
  refine ⟨fun c => ?_, fun c6 => ?_⟩
  · rw [if_pos c] at hq
    exact ⟨fun d => by rw [if_pos d] at hq; exact hq, fun d => by rw [if_neg d] at hq; exact hq⟩
  rw [if_neg c6] at hq
  refine ⟨fun c => ?_, fun c7 => ?_⟩
  · rw [if_pos c] at hq
    exact ⟨fun d => by rw [if_neg d] at hq; exact hq, fun d => by rw [if_pos d] at hq; exact hq⟩
  rw [if_neg c7] at hq
  refine ⟨fun c => ?_, fun c8 => ?_⟩
  · rw [if_pos c] at hq
    exact ⟨fun d => by rw [if_pos d] at hq; exact hq, fun d => by rw [if_neg d] at hq; exact hq⟩
  rw [if_neg c8] at hq
  refine ⟨fun c => ?_, fun c9 => ?_⟩
  · rw [if_pos c] at hq
    refine ⟨fun d => by rw [if_neg d] at hq; exact hq, fun d => ?_⟩
    rw [if_pos d] at hq
    exact ⟨fun d => by rw [if_pos d] at hq; exact hq, fun d => by rw [if_neg d] at hq; exact hq⟩
  rw [if_neg c9] at hq
  exact ⟨fun d => ⟨d, by rw [if_neg d] at hq; rintro _ rfl; exact hq⟩, fun d => by rw [if_pos d] at hq; exact hq⟩
theorem ztwoOf {c a b : Int32} (hc : sgn c = true) {Q : Int32 → Prop} (hq : Q (two (-c) a b)) : wp_X12_twoOf (-c) a b Q := by
  unfold wp_X12_twoOf wp_X12_twoOf_p170 wp_X12_twoOf_p163 wp_X12_twoOf_p217 wp_X12_twoOf_p216 wp_X12_twoOf_p153 wp_X12_twoOf_p181 wp_X12_twoOf_p192 wp_X12_twoOf_p203 wp_X12_twoOf_p231 wp_X12_twoOf_p226 wp_X12_twoOf_p170 wp_X12_twoOf_p217 wp_X12_twoOf_p231
  unfold two at hq
  refine ⟨fun k => ?_, fun k1 => ⟨fun k => ?_, fun k2 => ⟨fun k => ?_, fun k3 => ⟨fun k => ?_, fun k4 => ⟨fun k => ?_, fun k5 => ⟨fun k => ?_, fun k6 => ⟨fun k => ?_, fun k7 => ⟨fun k => ?_, fun k8 => ⟨fun k => ?_, fun k9 => ?_⟩⟩⟩⟩⟩⟩⟩⟩⟩
  · rw [k, if_neg (by decide), if_neg (by decide), if_neg (by decide), if_neg (by decide), if_neg (by decide), if_neg (by decide), if_neg (by decide), if_neg (by decide), if_neg (by decide)] at hq
    refine ⟨fun d => by rw [if_pos d] at hq; exact hq, fun d => ?_⟩
    rw [if_neg d] at hq
    refine ⟨fun _ => ⟨d, by rintro _ rfl; exact hq⟩, fun d2 => ?_⟩
    rw [d2, rem_m1] at hq
    exact hq
  · rw [if_pos k] at hq
    refine ⟨fun d => by rw [if_pos d] at hq; exact hq, fun d => ?_⟩
    rw [if_neg d] at hq
    exact ⟨fun d => by rw [if_pos d] at hq; exact hq, fun d => by rw [if_neg d] at hq; exact hq⟩
  · rw [if_neg k2, if_pos k] at hq
    rintro _ rfl
    exact hq
  · rw [if_neg k2, if_neg k3, if_pos k] at hq
    rintro _ rfl
    exact hq
  · rw [if_neg k2, if_neg k3, if_neg k4, if_pos k] at hq
    rintro _ rfl
    exact hq
  · rw [if_neg k2, if_neg k3, if_neg k4, if_neg k5, if_pos k] at hq
    refine ⟨fun d => ?_, fun d => by rw [if_pos d] at hq; exact hq⟩
    rw [if_neg d] at hq
    refine ⟨fun _ => ⟨d, by rintro _ rfl; exact hq⟩, fun d2 => ?_⟩
    rw [d2, div_m1] at hq
    rintro _ rfl
    exact hq
  · rw [if_neg k2, if_neg k3, if_neg k4, if_neg k5, if_neg k6, if_pos k] at hq
    exact ⟨fun d => by rw [if_pos d] at hq; exact hq, fun d => by rw [if_neg d] at hq; exact hq⟩
  · rw [if_neg k2, if_neg k3, if_neg k4, if_neg k5, if_neg k6, if_neg k7, if_pos k] at hq
    exact ⟨fun d => by rw [if_neg d] at hq; exact hq, fun d => by rw [if_pos d] at hq; exact hq⟩
  · rw [if_neg k2, if_neg k3, if_neg k4, if_neg k5, if_neg k6, if_neg k7, if_neg k8, if_pos k] at hq
    exact ⟨fun d => by rw [if_pos d] at hq; exact hq, fun d => by rw [if_neg d] at hq; exact hq⟩
  · have k : -c = 124 := by
      rcases sgn_or hc with rfl | rfl | rfl | rfl | rfl | rfl | rfl | rfl | rfl | rfl
      · exact absurd rfl k1
      · exact absurd rfl k2
      · exact absurd rfl k3
      · exact absurd rfl k4
      · exact absurd rfl k5
      · exact absurd rfl k6
      · exact absurd rfl k7
      · exact absurd rfl k8
      · exact absurd rfl k9
      · rfl
    rw [if_neg k2, if_neg k3, if_neg k4, if_neg k5, if_neg k6, if_neg k7, if_neg k8, if_neg k9, if_pos k] at hq
    refine ⟨fun d => by rw [if_neg d] at hq; exact hq, fun d => ?_⟩
    rw [if_pos d] at hq
    exact ⟨fun d => by rw [if_pos d] at hq; exact hq, fun d => by rw [if_neg d] at hq; exact hq⟩
def pp (st : List Int32) : Int32 × List Int32 := match st with
  | [] => (0, [])
  | a :: s => (a, s)
theorem pp_len (st : List Int32) : (pp st).2.length ≤ st.length - 1 := by
  cases st with
  | nil => exact Nat.le_refl _
  | cons a s => exact Nat.le_refl _
def RV (f : Nat → Int32) (st : List Int32) : Prop := AtF id f 0 st.reverse
theorem RV_push {f : Nat → Int32} {st : List Int32} (h : RV f st) (a : Int32) : RV (upd f st.length a) (a :: st) := by
  unfold RV
  rw [List.reverse_cons]
  refine AtF_app (AtF_cg (fun i _ q => pk_un (by rw [List.length_reverse] at q; omega)) h) ⟨?_, trivial⟩
  rw [List.length_reverse, Nat.zero_add]
  exact pk_us
theorem RV_tail {f : Nat → Int32} {a : Int32} {st : List Int32} (h : RV f (a :: st)) : RV f st := by
  unfold RV at h
  rw [List.reverse_cons] at h
  exact AtF_l h
theorem RV_top {f : Nat → Int32} {a : Int32} {st : List Int32} (h : RV f (a :: st)) : f st.length = a := by
  unfold RV at h
  rw [List.reverse_cons] at h
  have := (AtF_r h).1
  rw [List.length_reverse, Nat.zero_add] at this
  exact this
def SK (u : ST) (st : List Int32) : Prop := gI u 8 = nI st.length ∧ RV (gA u 1) st
theorem zpush {u : ST} {st : List Int32} (h : SK u st) (hl : st.length < 124) {a : Int32} {Q : ST → Prop} (hq : ∀ u' : ST, Ag [1, 8] u' u → SK u' (a :: st) → Q u') : wp_X3_push a u Q := by
  unfold wp_X3_push wp_X3_push_p29
  rw [h.1]
  refine ⟨fun c => absurd ((nI_leI (a := 124) (by decide) (by omega)).mp c) (by omega), fun _ => ⟨nI_in hl (by decide), ?_⟩⟩
  rintro _ rfl
  simp only [gI_sI, gI_sI', gI_sA, gI_sJ, gI_sG, gA_sA, gA_sA', gA_sI, gA_sJ, gA_sG, gJ_sJ, gJ_sJ', gJ_sI, gJ_sA, gJ_sG, gG_sG, gG_sG', gG_sI, gG_sA, gG_sJ, ne_eq, Nat.reduceEqDiff, Nat.succ_ne_zero, Nat.zero_ne_one, not_false_eq_true, reduceCtorEq]
  rw [h.1, nI_1, nI_clamp (by omega)]
  rintro _ rfl _ rfl
  exact hq _ (Ag_sI (Ag_sA (Ag_r _ _) (by decide) _) (by decide) _) ⟨rfl, RV_push h.2 a⟩
theorem zpop {u : ST} {st : List Int32} (h : SK u st) (hl : st.length ≤ 124) {Q : Int32 → ST → Prop} (hq : ∀ u' : ST, Ag [1, 8] u' u → SK u' (pp st).2 → Q (pp st).1 u') : wp_X3_pop u Q := by
  unfold wp_X3_pop
  cases st with
  | nil => exact ⟨fun c => absurd h.1 c, fun _ => hq u (Ag_r _ _) h⟩
  | cons a s =>
    have hl : s.length + 1 ≤ 124 := hl
    have e : gI u 8 = nI (s.length + 1) := h.1
    refine ⟨fun _ => ?_, fun c => absurd (e.symm.trans c) (nI_ne0 (by omega) (by omega))⟩
    rw [e, nI_pred]
    rintro _ rfl _ rfl
    simp only [gI_sI, gI_sI', gI_sA, gI_sJ, gI_sG, gA_sA, gA_sA', gA_sI, gA_sJ, gA_sG, gJ_sJ, gJ_sJ', gJ_sI, gJ_sA, gJ_sG, gG_sG, gG_sG', gG_sI, gG_sA, gG_sJ, ne_eq, Nat.reduceEqDiff, Nat.succ_ne_zero, Nat.zero_ne_one, not_false_eq_true, reduceCtorEq]
    refine ⟨nI_in (by omega) (by decide), ?_⟩
    rintro _ rfl
    rw [nI_clamp (by omega), RV_top h.2]
    exact hq _ (Ag_sI (Ag_r _ _) (by decide) _) ⟨rfl, RV_tail h.2⟩
def stC (e : Nat → Int32) (c : Int32) (st : List Int32) : List Int32 :=
  if c < 0 then
    (if c < -3 then
      (if c = -4 then -(pp st).1 :: (pp st).2 else if c = -33 then (if (pp st).1 = 0 then 1 else 0) :: (pp st).2 else two (-c) (pp (pp st).2).1 (pp st).1 :: (pp (pp st).2).2)
     else if c = -1 then e 0 :: st else if c = -2 then e 1 :: st else e 2 :: st)
  else c :: st
theorem stC_len (e : Nat → Int32) (c : Int32) (st : List Int32) : (stC e c st).length ≤ st.length + 1 := by
  have h1 := pp_len st
  have h2 := pp_len (pp st).2
  unfold stC
  repeat' split
  all_goals simp only [List.length_cons]
  all_goals omega
def vm (e : Nat → Int32) : List Int32 → Bool → List Int32 → Int32
  | [], _, _ => 0
  | c :: cs, true, st => vm e cs (decide (¬ c = -59)) st
  | c :: cs, false, st => if c = -59 then (pp st).1 else if c = -63 then vm e cs (decide ((pp st).1 = 0)) (pp st).2 else vm e cs false (stC e c st)
theorem vm_t (e : Nat → Int32) (c : Int32) (cs st : List Int32) : vm e (c :: cs) true st = vm e cs (decide (¬ c = -59)) st := rfl
theorem vm_f (e : Nat → Int32) (c : Int32) (cs st : List Int32) : vm e (c :: cs) false st = if c = -59 then (pp st).1 else if c = -63 then vm e cs (decide ((pp st).1 = 0)) (pp st).2 else vm e cs false (stC e c st) := rfl
def en3 (h n j : Int32) : Nat → Int32 := fun k => if k = 0 then h else if k = 1 then n else j
theorem zwork {e : Nat → Int32} {c : Int32} (c0 : c < 0) (c3 : c < -3) {u : ST} {st : List Int32} (h : SK u st) (hl : st.length < 124) {Q : ST → Prop} (hq : ∀ u' : ST, Ag [1, 8] u' u → SK u' (stC e c st) → Q u') : wp_X3_work c u Q := by
  have h1 := pp_len st
  have h2 := pp_len (pp st).2
  unfold wp_X3_work wp_X3_work_p56 wp_X3_work_p36 wp_X3_work_p56
  unfold stC at hq
  rw [if_pos c0, if_pos c3] at hq
  refine zpop h (by omega) fun u1 a1 s1 => ⟨fun k => ⟨fun k2 => ?_, fun k2 => ?_⟩, fun k => ?_⟩
  · rw [if_neg k, if_neg k2] at hq
    rintro _ rfl
    refine zpop s1 (by omega) fun u2 a2 s2 => zjoined (zpush s2 (by omega) fun u3 a3 s3 => hq u3 (Ag_t a3 (Ag_t a2 a1)) s3)
  · rw [if_neg k, if_pos k2] at hq
    refine ⟨fun d => ?_, fun d => ?_⟩
    · rw [if_neg d] at hq
      exact zpush s1 (by omega) fun u3 a3 s3 => hq u3 (Ag_t a3 a1) s3
    · rw [if_pos d] at hq
      exact zpush s1 (by omega) fun u3 a3 s3 => hq u3 (Ag_t a3 a1) s3
  · rw [if_pos k] at hq
    rintro _ rfl
    exact zpush s1 (by omega) fun u3 a3 s3 => hq u3 (Ag_t a3 a1) s3
theorem zvalC {L : ST} {cs : List Int32} (hc : AtF id (gA L 2) 0 cs) (e5 : gI L 5 = nI cs.length) (hlen : cs.length ≤ 124) {h n j : Int32} {Q : Int32 → ST → Prop} (hq : ∀ L' : ST, Ag [1, 8] L' L → Q (vm (en3 h n j) cs false []) L') : wp_X3_valueFor h n j L Q := by
  unfold wp_X3_valueFor
  rintro _ rfl
  unfold wp_X3_valueFor_p11
  refine ⟨fun x1 x2 x3 x4 x5 u => h = x1 ∧ n = x2 ∧ j = x3 ∧ ∃ (ps : Bool) (i : Nat) (rest st : List Int32), x4 = (if ps = true then 1 else 0) ∧ x5 = nI i ∧ Ag [1, 8] u L ∧ SK u st ∧ i + rest.length = cs.length ∧ AtF id (gA L 2) i rest ∧ vm (en3 h n j) rest ps st = vm (en3 h n j) cs false [] ∧ st.length + rest.length ≤ 124, fun _ _ _ _ x5 _ => 124 - x5.toNatClampNeg, ⟨rfl, rfl, rfl, false, 0, cs, [], rfl, rfl, Ag_sI (Ag_r _ _) (by decide) _, ⟨rfl, trivial⟩, by omega, hc, rfl, by simp only [List.length_nil]; omega⟩, ?_⟩
  rintro _ _ _ _ _ u ⟨rfl, rfl, rfl, ps, i, rest, st, rfl, rfl, hA, hS, hi, hr, hv, hl⟩
  unfold wp_X3_valueFor_p11b wp_X3_valueFor_p143 wp_X3_valueFor_p131 wp_X3_valueFor_p82 wp_X3_valueFor_p46 wp_X3_valueFor_p143
  have e5' : gI u 5 = nI cs.length := (Ag_I hA 5 (by decide)).trans e5
  rw [e5']
  refine ⟨fun c => ?_, fun c => ?_⟩
  · have := (nI_leI (by omega) (by omega)).mp c
    have : rest = [] := List.length_eq_zero_iff.mp (by omega)
    subst this
    have := hq u hA
    rw [← hv] at this
    exact this
  have hlt : i < cs.length := by
    have := mt (nI_leI (a := cs.length) (b := i) (by omega) (by omega)).mpr c
    omega
  cases rest with
  | nil => simp only [List.length_nil] at hi; omega
  | cons cd rest =>
    have hi : i + (rest.length + 1) = cs.length := hi
    have hl : st.length + (rest.length + 1) ≤ 124 := hl
    have ecd : gA u 2 i = cd := by
      rw [Ag_A hA 2 (by decide)]
      exact hr.1
    have hmu : 124 - (nI (i + 1)).toNatClampNeg < 124 - (nI i).toNatClampNeg := by
      try dsimp only
      rw [nI_clamp (by omega), nI_clamp (by omega)]
      omega
    have hpl := pp_len st
    have hcl := stC_len (en3 h n j) cd st
    have push : ∀ a : Int32, a :: st = stC (en3 h n j) cd st → cd ≠ -59 → cd ≠ -63 → ps = false → wp_X3_push a u (fun u' => ∀ y143 : Int32, y143 = nI i + 1 → (h = h ∧ n = n ∧ j = j ∧ ∃ (ps : Bool) (i : Nat) (rest st : List Int32), (0 : Int32) = (if ps = true then 1 else 0) ∧ y143 = nI i ∧ Ag [1, 8] u' L ∧ SK u' st ∧ i + rest.length = cs.length ∧ AtF id (gA L 2) i rest ∧ vm (en3 h n j) rest ps st = vm (en3 h n j) cs false [] ∧ st.length + rest.length ≤ 124) ∧ 124 - y143.toNatClampNeg < 124 - (nI i).toNatClampNeg) := by
      intro a ea n1 n2 ep
      subst ep
      refine zpush hS (by omega) fun u' a' s' => ?_
      rw [nI_1]
      rintro _ rfl
      refine ⟨⟨rfl, rfl, rfl, false, i + 1, rest, _, rfl, rfl, Ag_t a' hA, s', by omega, hr.2, ?_, ?_⟩, hmu⟩
      · rw [← hv, ea]
        rw [vm_f, if_neg n1, if_neg n2]
      · rw [List.length_cons]
        omega
    refine ⟨nI_in (by omega) (by decide), ?_⟩
    rw [nI_clamp (by omega), ecd]
    intro y26 ey
    subst y26
    cases ps with
    | false =>
      refine ⟨fun _ => ⟨fun n1 => ⟨fun n2 => ⟨fun m1 => ⟨fun m2 => ?_, fun m2 => ⟨fun m3 => ⟨fun m4 => ?_, fun m4 => ?_⟩, fun m3 => ?_⟩⟩, fun m1 => ?_⟩, fun n2 => ?_⟩, fun n1 => ?_⟩, fun c' => absurd rfl c'⟩
      · refine zwork (e := en3 h n j) m1 m2 hS (by omega) fun u' a' s' => ?_
        rw [nI_1]
        rintro _ rfl
        refine ⟨⟨rfl, rfl, rfl, false, i + 1, rest, _, rfl, rfl, Ag_t a' hA, s', by omega, hr.2, ?_, by omega⟩, hmu⟩
        rw [← hv]
        rw [vm_f, if_neg n1, if_neg n2]
      · refine push j ?_ n1 n2 rfl
        unfold stC
        rw [if_pos m1, if_neg m2, if_neg m3, if_neg m4]
        rfl
      · refine push n ?_ n1 n2 rfl
        unfold stC
        rw [if_pos m1, if_neg m2, if_neg m3, if_pos m4]
        rfl
      · refine push h ?_ n1 n2 rfl
        unfold stC
        rw [if_pos m1, if_neg m2, if_pos m3]
        rfl
      · refine push cd ?_ n1 n2 rfl
        unfold stC
        rw [if_neg m1]
      · refine zpop hS (by omega) fun u' a' s' => ⟨fun d => ?_, fun d => ?_⟩
        · rw [nI_1]
          rintro _ rfl
          refine ⟨⟨rfl, rfl, rfl, false, i + 1, rest, _, rfl, rfl, Ag_t a' hA, s', by omega, hr.2, ?_, by omega⟩, hmu⟩
          rw [← hv]
          rw [vm_f, if_neg (by rw [n2]; decide), if_pos n2, decide_eq_false d]
        · rw [nI_1]
          rintro _ rfl
          refine ⟨⟨rfl, rfl, rfl, true, i + 1, rest, _, rfl, rfl, Ag_t a' hA, s', by omega, hr.2, ?_, by omega⟩, hmu⟩
          rw [← hv]
          rw [vm_f, if_neg (by rw [n2]; decide), if_pos n2, decide_eq_true d]
      · refine zpop hS (by omega) fun u' a' s' => ?_
        have := hq u' (Ag_t a' hA)
        rw [← hv] at this
        rw [vm_f, if_pos n1] at this
        exact this
    | true =>
      refine ⟨fun c' => absurd c' (by decide), fun _ => ⟨fun d => ?_, fun d => ?_⟩⟩
      · rw [nI_1]
        rintro _ rfl
        refine ⟨⟨rfl, rfl, rfl, false, i + 1, rest, st, rfl, rfl, hA, hS, by omega, hr.2, ?_, by omega⟩, hmu⟩
        rw [← hv]
        rw [vm_t, decide_eq_false (fun q => q d)]
      · rw [nI_1]
        rintro _ rfl
        refine ⟨⟨rfl, rfl, rfl, true, i + 1, rest, st, rfl, rfl, hA, hS, by omega, hr.2, ?_, by omega⟩, hmu⟩
        rw [← hv]
        rw [vm_t, decide_eq_true d]
